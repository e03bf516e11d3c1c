/-- what is usable when a player moves by what is told -/
def og_Ut (M : om_M) (x2 : Int32) (k : Nat) : Prop := ∀ p, M.1 4 k = nI p → p < 8 → (if om_b (M.1 1 2) p = true then (0 : Int32) else 1) = x2 → M.1 3 p = -1 ∨ M.1 3 p = nI k
theorem og_isOpen {M : om_M} {n m k : Nat} (h8 : n ≤ 8) (h20 : m ≤ 20) (hB : om_Ba M n m) (hk : k < m) (x2 : Int32) : ∃ c, om_B_isOpen om_F (nI k) x2 M = some (om_bi c, M) ∧ (c = true ↔ og_Ut M x2 k) := by
  obtain ⟨-, -, -, ⟨a, ha, h4⟩, -⟩ := hB.1 k hk
  have hin : om_in (nI k) 20 = true := om_in_nI (by omega) (by omega)
  have hcl : (nI k).toNatClampNeg = k := nI_clamp (by omega)
  have hin2 : om_in (nI a) 8 = true := om_in_nI (by omega) (by omega)
  have hcl2 : (nI a).toNatClampNeg = a := nI_clamp (by omega)
  unfold om_B_isOpen om_B_isOpen_b0 om_B_isOpen_b36 om_B_isOpen_b41
  simp only [hin, hcl, h4, hin2, hcl2, cond_true, og_ownerOf om_F (show a < 32 by omega), Option.bind_some]
  have hU : og_Ut M x2 k ↔ ((if om_b (M.1 1 2) a = true then (0 : Int32) else 1) = x2 → M.1 3 a = -1 ∨ M.1 3 a = nI k) := by
    unfold og_Ut
    constructor
    · intro h; exact h a h4 (by omega)
    · intro h p hp hp8
      have : a = p := (nI_eq (by omega) (by omega)).mp (h4.symm.trans hp)
      rw [← this]; exact h
  by_cases h1 : (if om_b (M.1 1 2) a = true then (0 : Int32) else 1) = x2
  · rw [if_pos h1]
    by_cases h2 : M.1 3 a = -1
    · exact ⟨true, by rw [if_pos h2]; rfl, by rw [hU]; exact ⟨fun _ _ => .inl h2, fun _ => rfl⟩⟩
    · rw [if_neg h2]
      by_cases h3 : M.1 3 a = nI k
      · exact ⟨true, by rw [if_pos h3]; rfl, by rw [hU]; exact ⟨fun _ _ => .inr h3, fun _ => rfl⟩⟩
      · refine ⟨false, by rw [if_neg h3]; rfl, by rw [hU]; exact ⟨fun h => (by cases h), fun h => (h h1).elim (fun h => absurd h h2) (fun h => absurd h h3)⟩⟩
  · rw [if_neg h1]
    exact ⟨true, rfl, by rw [hU]; exact ⟨fun _ h => absurd h h1, fun _ => rfl⟩⟩
theorem og_loadTold {M : om_M} {n m : Nat} (hn : om_Bn M n m) (hB : om_Ba M n m) (x2 : Int32) : ∃ M', om_V_loadTold om_F x2 M = some M' ∧ og_Ld M' n (og_E M m (og_Ut M x2)) ∧ om_fr og_pv M M' ∧ M'.1 7 1 = M.1 1 2 := by
  obtain ⟨h8, h20, e10, e11, e462, e466⟩ := hn
  have ex0 : M.1 1 2 ^^^ 0 = M.1 1 2 := om_ext fun i _ => by rw [om_b_xor, om_b_0]; simp
  obtain ⟨M1, a1, a2, a3, a4, a5⟩ := og_clear (x := 0) h8 e10
  rw [ex0] at a5
  obtain ⟨M2, hz, s', hq1, hq2, hq3, hq4, hq5⟩ := om_lp (f := om_V_loadTold_L8_body om_F) (fun i x => ∃ M', x = (x2, nI i, M') ∧ ∃ s', og_Ml n M' s' (og_E0 M i (og_Ut M x2)) ∧ s' ≤ i ∧ om_fr og_pv M M' ∧ M'.1 7 0 = nI n ∧ M'.1 7 1 = M.1 1 2) (fun M' : om_M => ∃ s', og_Ml n M' s' (og_E0 M m (og_Ut M x2)) ∧ s' ≤ m ∧ om_fr og_pv M M' ∧ M'.1 7 0 = nI n ∧ M'.1 7 1 = M.1 1 2) m (F := om_F) (Nat.lt_of_le_of_lt h20 (by decide)) (s := (x2, 0, M1)) ⟨M1, rfl, 0, og_Ml_congr a2 (fun p q w _ _ => ⟨fun h => h.elim, fun ⟨k, hk, _⟩ => absurd hk (by omega)⟩), by omega, a3, a4, a5⟩ (by
    rintro i x hi ⟨M', rfl, s', g1, g2, g3, g4, g5⟩
    have hin : om_in (nI i) 20 = true := om_in_nI (by omega) (by omega)
    have hcl : (nI i).toNatClampNeg = i := nI_clamp (by omega)
    have hlt : ¬ nI m ≤ nI i := nI_ge hi (by omega)
    have e11' : M'.1 1 1 = nI m := by rw [g3.1 1 1 rfl, e11]
    obtain ⟨-, -, -, ⟨a, ha, h4⟩, ⟨b, hb, h5⟩, -⟩ := hB.1 i hi
    have hB' : om_Ba M' n m := by
      refine ⟨fun k hk => ?_, fun k l hk hl => ?_⟩
      · rw [g3.1 49 k rfl, g3.1 50 k rfl, g3.1 51 k rfl, g3.1 4 k rfl, g3.1 5 k rfl, g3.1 6 k rfl]; exact hB.1 k hk
      · rw [g3.1 4 k rfl, g3.1 5 k rfl, g3.1 4 l rfl, g3.1 5 l rfl]; exact hB.2 k l hk hl
    obtain ⟨c, hc1, hc2⟩ := og_isOpen h8 h20 hB' hi x2
    have hU : og_Ut M' x2 i ↔ og_Ut M x2 i := by
      unfold og_Ut
      rw [g3.1 4 i rfl, g3.1 1 2 rfl]
      constructor
      · intro h p h1 h2 h3
        have := h p h1 h2 h3
        rwa [g3.1 3 p rfl] at this
      · intro h p h1 h2 h3
        rw [g3.1 3 p rfl]; exact h p h1 h2 h3
    rw [hU] at hc2
    simp only [om_V_loadTold_L8_body, om_V_loadTold_b8, om_V_loadTold_b47, e11', hlt, hin, hcl, if_false, cond_true, og_nI1, hc1, Option.bind_some]
    cases c with
    | false =>
      have h0 : ¬ og_Ut M x2 i := fun h => by cases hc2.mpr h
      refine .inl ⟨_, by rw [if_pos (by decide)], M', rfl, s', og_Ml_congr g1 (fun p q w hp hq => ?_), by omega, g3, g4, g5⟩
      constructor
      · rintro ⟨k, hk, h⟩; exact ⟨k, by omega, h⟩
      · rintro ⟨k, hk, hU2, h⟩
        by_cases hki : k = i
        · subst hki; exact absurd hU2 h0
        · exact ⟨k, by omega, hU2, h⟩
    | true =>
      have h0 : og_Ut M x2 i := hc2.mp rfl
      obtain ⟨M2, b1, b2, b3, b4, b5⟩ := og_add (w := M.1 6 i) h8 g1 (by omega) ha hb
      refine .inl ⟨_, by rw [if_neg (by decide), g3.1 4 i rfl, g3.1 5 i rfl, g3.1 6 i rfl, h4, h5, b1]; rfl, M2, rfl, s' + 1, og_Ml_congr b2 (fun p q w hp hq => ?_), by omega, om_fr_tr g3 b3, by rw [b4, g4], by rw [b5, g5]⟩
      constructor
      · rintro (⟨k, hk, h⟩ | ⟨rfl, rfl, rfl⟩)
        · exact ⟨k, by omega, h⟩
        · exact ⟨i, by omega, h0, h4, h5, rfl⟩
      · rintro ⟨k, hk, hU, k4, k5, k6⟩
        by_cases hki : k = i
        · subst hki
          exact .inr ⟨(nI_eq (by omega) (by omega)).mp (k4.symm.trans h4), (nI_eq (by omega) (by omega)).mp (k5.symm.trans h5), k6.symm⟩
        · exact .inl ⟨k, by omega, hU, k4, k5, k6⟩) (by
    rintro x ⟨M', rfl, s', g1, g2, g3, g4, g5⟩
    have e11' : M'.1 1 1 = nI m := by rw [g3.1 1 1 rfl, e11]
    exact ⟨_, by simp only [om_V_loadTold_L8_body, om_V_loadTold_b8, e11']; rw [if_pos Int32.le_rfl], s', g1, g2, g3, g4, g5⟩)
  obtain ⟨M3, s3, c1, c2, c3, c4, c5, c6⟩ := og_addStays (t := 0) h8 hq1 (by omega) hq4
  refine ⟨M3, ?_, ⟨c5, s3, c3, og_Ml_congr c2 (fun p q w hp _ => og_E_stay hB _ p q w hp)⟩, om_fr_tr hq3 c4, by rw [c6, hq5]⟩
  unfold om_V_loadTold om_V_loadTold_b0 om_V_loadTold_L8
  rw [a1]
  show (om_it (om_V_loadTold_L8_body om_F) om_F (x2, 0, M1)).bind _ = _
  rw [hz]
  show (om_V_addStays om_F M2).bind _ = _
  rw [c1]; rfl
/-! ===== the model's moves ===== -/
def og_pm (a _j : Nat) : Bool := Nat.beq a 58
theorem og_pm_sc {a j : Nat} (h : om_sc a j = false) : og_pm a j = false := by
  cases h1 : og_pm a j with
  | false => rfl
  | true =>
    have : a = 58 := Nat.eq_of_beq_eq_true h1
    subst this; cases h
/-- what the model may use -/
def og_Um (M : om_M) (k : Nat) : Prop := nI k ≠ M.1 46 18 ∧ ∀ p, M.1 4 k = nI p → p < 8 → M.1 59 p = -1 ∨ M.1 59 p = nI k
theorem og_isUsed {M : om_M} {n m k : Nat} (h8 : n ≤ 8) (h20 : m ≤ 20) (hB : om_Ba M n m) (hk : k < m) : ∃ c, om_D_isUsed om_F (nI k) M = some (om_bi c, M) ∧ (c = true ↔ og_Um M k) := by
  obtain ⟨h49, -, -, ⟨a, ha, h4⟩, -⟩ := hB.1 k hk
  have h49' : M.1 49 k = nI a := by rw [h49, h4]
  have hin : om_in (nI k) 20 = true := om_in_nI (by omega) (by omega)
  have hcl : (nI k).toNatClampNeg = k := nI_clamp (by omega)
  have hin2 : om_in (nI a) 8 = true := om_in_nI (by omega) (by omega)
  have hcl2 : (nI a).toNatClampNeg = a := nI_clamp (by omega)
  unfold om_D_isUsed om_D_isUsed_b0 om_D_isUsed_b42 om_D_isUsed_b38 om_D_isUsed_b43
  simp only [hin, hcl, h49', hin2, hcl2, cond_true]
  have hU : og_Um M k ↔ (nI k ≠ M.1 46 18 ∧ (M.1 59 a = -1 ∨ M.1 59 a = nI k)) := by
    unfold og_Um
    constructor
    · rintro ⟨h0, h⟩; exact ⟨h0, h a h4 (by omega)⟩
    · rintro ⟨h0, h⟩
      refine ⟨h0, fun p hp hp8 => ?_⟩
      have : a = p := (nI_eq (by omega) (by omega)).mp (h4.symm.trans hp)
      rw [← this]; exact h
  rw [hU]
  by_cases h1 : nI k = M.1 46 18
  · exact ⟨false, by rw [if_pos h1]; rfl, ⟨fun h => (by cases h), fun h => absurd h1 h.1⟩⟩
  · rw [if_neg h1]
    by_cases h2 : M.1 59 a = -1
    · exact ⟨true, by rw [if_pos h2]; rfl, ⟨fun _ => ⟨h1, .inl h2⟩, fun _ => rfl⟩⟩
    · rw [if_neg h2]
      by_cases h3 : M.1 59 a = nI k
      · exact ⟨true, by rw [if_pos h3]; rfl, ⟨fun _ => ⟨h1, .inr h3⟩, fun _ => rfl⟩⟩
      · exact ⟨false, by rw [if_neg h3]; rfl, ⟨fun h => (by cases h), fun h => h.2.elim (fun h => absurd h h2) (fun h => absurd h h3)⟩⟩
theorem og_Ba_pm {M M' : om_M} {n m : Nat} (h : om_Ba M n m) (hf : om_fr og_pm M M') : om_Ba M' n m := by
  refine ⟨fun k hk => ?_, fun k l hk hl => ?_⟩
  · rw [hf.1 49 k rfl, hf.1 50 k rfl, hf.1 51 k rfl, hf.1 4 k rfl, hf.1 5 k rfl, hf.1 6 k rfl]; exact h.1 k hk
  · rw [hf.1 4 k rfl, hf.1 5 k rfl, hf.1 4 l rfl, hf.1 5 l rfl]; exact h.2 k l hk hl
theorem og_Um_pm {M M' : om_M} {k : Nat} (hf : om_fr og_pm M M') : og_Um M' k ↔ og_Um M k := by
  unfold og_Um
  rw [hf.1 46 18 rfl, hf.1 4 k rfl]
  constructor
  · rintro ⟨h0, h⟩; exact ⟨h0, fun p h1 h2 => by have := h p h1 h2; rwa [hf.1 59 p rfl] at this⟩
  · rintro ⟨h0, h⟩; exact ⟨h0, fun p h1 h2 => by rw [hf.1 59 p rfl]; exact h p h1 h2⟩
theorem og_layMoves {M : om_M} {n m : Nat} (hn : om_Bn M n m) (hB : om_Ba M n m) : ∃ M', om_D_layMoves om_F M = some M' ∧ om_fr og_pm M M' ∧ ∀ p, p < n → ∀ q, om_b (M'.1 58 p) q = true ↔ (q < n ∧ ∃ w, og_E M m (og_Um M) p q w) := by
  obtain ⟨h8, h20, e10, e11, e462, e466⟩ := hn
  obtain ⟨M1, hz1, a1, a2⟩ := om_lp (f := om_D_layMoves_L2_body om_F) (fun i x => ∃ M', x = (nI i, M') ∧ om_fr og_pm M M' ∧ ∀ p, p < i → M'.1 58 p = 0) (fun M' : om_M => om_fr og_pm M M' ∧ ∀ p, p < n → M'.1 58 p = 0) n (F := om_F) (Nat.lt_of_le_of_lt h8 (by decide)) (s := (0, M)) ⟨M, rfl, om_fr_rfl, fun p hp => absurd hp (by omega)⟩ (by
    rintro i s hi ⟨M', rfl, g1, g2⟩
    have hin : om_in (nI i) 8 = true := om_in_nI (by omega) (by omega)
    have hcl : (nI i).toNatClampNeg = i := nI_clamp (by omega)
    have hlt : ¬ nI n ≤ nI i := nI_ge hi (by omega)
    have e : M'.1 46 2 = nI n := by rw [g1.1 46 2 rfl, e462]
    refine .inl ⟨(nI (i + 1), om_up M' 58 i 0), by simp only [om_D_layMoves_L2_body, om_D_layMoves_b2, e, hlt, hin, hcl, if_false, cond_true, og_nI1], om_up M' 58 i 0, rfl, om_fr_up g1 rfl, fun p hp => ?_⟩
    by_cases hpi : p = i
    · subst hpi; simp [om_up_at]
    · simp [om_up_at, hpi, g2 p (by omega)]) (by
    rintro s ⟨M', rfl, g1, g2⟩
    have e : M'.1 46 2 = nI n := by rw [g1.1 46 2 rfl, e462]
    exact ⟨_, by simp only [om_D_layMoves_L2_body, om_D_layMoves_b2, e]; rw [if_pos Int32.le_rfl], g1, g2⟩)
  obtain ⟨M2, hz2, b1, b2⟩ := om_lp (f := om_D_layMoves_L25_body om_F) (fun i x => ∃ M', x = (nI i, M') ∧ om_fr og_pm M M' ∧ ∀ p, p < n → ∀ q, om_b (M'.1 58 p) q = true ↔ (q < n ∧ ∃ w, og_E0 M i (og_Um M) p q w)) (fun M' : om_M => om_fr og_pm M M' ∧ ∀ p, p < n → ∀ q, om_b (M'.1 58 p) q = true ↔ (q < n ∧ ∃ w, og_E0 M m (og_Um M) p q w)) m (F := om_F) (Nat.lt_of_le_of_lt h20 (by decide)) (s := (0, M1)) ⟨M1, rfl, a1, fun p hp q => by rw [a2 p hp, om_b_0]; exact ⟨fun h => (by cases h), fun ⟨_, _, k, hk, _⟩ => absurd hk (by omega)⟩⟩ (by
    rintro i s hi ⟨M', rfl, g1, g2⟩
    have hin : om_in (nI i) 20 = true := om_in_nI (by omega) (by omega)
    have hcl : (nI i).toNatClampNeg = i := nI_clamp (by omega)
    have hlt : ¬ nI m ≤ nI i := nI_ge hi (by omega)
    have e : M'.1 46 6 = nI m := by rw [g1.1 46 6 rfl, e466]
    have hB' := og_Ba_pm hB g1
    obtain ⟨h49, h50, -, ⟨a, ha, h4⟩, ⟨b, hb, h5⟩, -⟩ := hB.1 i hi
    have h49' : M'.1 49 i = nI a := by rw [g1.1 49 i rfl, h49, h4]
    have h50' : M'.1 50 i = nI b := by rw [g1.1 50 i rfl, h50, h5]
    have hin2 : om_in (nI a) 8 = true := om_in_nI (by omega) (by omega)
    have hcl2 : (nI a).toNatClampNeg = a := nI_clamp (by omega)
    obtain ⟨c, hc1, hc2⟩ := og_isUsed h8 h20 hB' hi
    rw [og_Um_pm g1] at hc2
    simp only [om_D_layMoves_L25_body, om_D_layMoves_b25, om_D_layMoves_b65, e, hlt, hin, hcl, h49', h50', hin2, hcl2, if_false, cond_true, og_nI1, hc1, Option.bind_some]
    cases c with
    | false =>
      have h0 : ¬ og_Um M i := fun h => by cases hc2.mpr h
      refine .inl ⟨(nI (i + 1), om_up M' 58 a (M'.1 58 a ||| 0)), by rw [if_pos (by decide)], _, rfl, om_fr_up g1 rfl, fun p hp q => ?_⟩
      have : om_b ((om_up M' 58 a (M'.1 58 a ||| 0)).1 58 p) q = om_b (M'.1 58 p) q := by
        by_cases hpa : p = a
        · subst hpa; simp [om_up_at, om_b_or, om_b_0]
        · simp [om_up_at, hpa]
      rw [this, g2 p hp q]
      constructor
      · rintro ⟨hq, w, k, hk, h⟩; exact ⟨hq, w, k, by omega, h⟩
      · rintro ⟨hq, w, k, hk, hU, h⟩
        by_cases hki : k = i
        · subst hki; exact absurd hU h0
        · exact ⟨hq, w, k, by omega, hU, h⟩
    | true =>
      have h0 : og_Um M i := hc2.mp rfl
      refine .inl ⟨(nI (i + 1), om_up M' 58 a (M'.1 58 a ||| (1 <<< (nI b &&& 31)))), by rw [if_neg (by decide)], _, rfl, om_fr_up g1 rfl, fun p hp q => ?_⟩
      by_cases hpa : p = a
      · subst hpa
        have : (om_up M' 58 p (M'.1 58 p ||| (1 <<< (nI b &&& 31)))).1 58 p = M'.1 58 p ||| (1 <<< (nI b &&& 31)) := by simp [om_up_at]
        rw [this, om_b_or, om_b_shl (show b < 32 by omega), Bool.or_eq_true, g2 p hp q, decide_eq_true_eq]
        constructor
        · rintro (⟨hq, w, k, hk, h⟩ | rfl)
          · exact ⟨hq, w, k, by omega, h⟩
          · exact ⟨hb, _, i, by omega, h0, h4, h5, rfl⟩
        · rintro ⟨hq, w, k, hk, hU, k4, k5, k6⟩
          by_cases hki : k = i
          · subst hki
            exact .inr ((nI_eq (by omega) (by omega)).mp (k5.symm.trans h5))
          · exact .inl ⟨hq, w, k, by omega, hU, k4, k5, k6⟩
      · have : (om_up M' 58 a (M'.1 58 a ||| (1 <<< (nI b &&& 31)))).1 58 p = M'.1 58 p := by simp [om_up_at, hpa]
        rw [this, g2 p hp q]
        constructor
        · rintro ⟨hq, w, k, hk, h⟩; exact ⟨hq, w, k, by omega, h⟩
        · rintro ⟨hq, w, k, hk, hU, k4, k5⟩
          by_cases hki : k = i
          · subst hki
            exact absurd ((nI_eq (by omega) (by omega)).mp (k4.symm.trans h4)) hpa
          · exact ⟨hq, w, k, by omega, hU, k4, k5⟩) (by
    rintro s ⟨M', rfl, g1, g2⟩
    have e : M'.1 46 6 = nI m := by rw [g1.1 46 6 rfl, e466]
    exact ⟨_, by simp only [om_D_layMoves_L25_body, om_D_layMoves_b25, e]; rw [if_pos Int32.le_rfl], g1, g2⟩)
  obtain ⟨M3, hz3, c1, c2⟩ := om_lp (f := om_D_layMoves_L75_body om_F) (fun i x => ∃ M', x = (nI i, M') ∧ om_fr og_pm M M' ∧ ∀ p, p < n → ∀ q, om_b (M'.1 58 p) q = true ↔ (q < n ∧ ∃ w, (og_E0 M m (og_Um M) p q w ∨ (p < i ∧ ((∀ q v, q < n → ¬ og_E0 M m (og_Um M) p q v) ∧ q = p ∧ w = 0))))) (fun M' : om_M => om_fr og_pm M M' ∧ ∀ p, p < n → ∀ q, om_b (M'.1 58 p) q = true ↔ (q < n ∧ ∃ w, og_E M m (og_Um M) p q w)) n (F := om_F) (Nat.lt_of_le_of_lt h8 (by decide)) (s := (0, M2)) ⟨M2, rfl, b1, fun p hp q => (b2 p hp q).trans ⟨fun ⟨h1, w, h2⟩ => ⟨h1, w, .inl h2⟩, fun ⟨h1, w, h2⟩ => ⟨h1, w, h2.elim id (fun h => absurd h.1 (by omega))⟩⟩⟩ (by
    rintro i s hi ⟨M', rfl, g1, g2⟩
    have hin : om_in (nI i) 8 = true := om_in_nI (by omega) (by omega)
    have hcl : (nI i).toNatClampNeg = i := nI_clamp (by omega)
    have hlt : ¬ nI n ≤ nI i := nI_ge hi (by omega)
    have e : M'.1 46 2 = nI n := by rw [g1.1 46 2 rfl, e462]
    have hz : M'.1 58 i = 0 ↔ ∀ q v, q < n → ¬ og_E0 M m (og_Um M) i q v := by
      constructor
      · intro h0 q v hq hR
        have := (g2 i hi q).mpr ⟨hq, v, .inl hR⟩
        rw [h0, om_b_0] at this; cases this
      · intro h0
        rw [om_eq0]
        intro q _
        cases hb : om_b (M'.1 58 i) q with
        | false => rfl
        | true =>
          obtain ⟨hq, v, h1 | h1⟩ := (g2 i hi q).mp hb
          · exact absurd h1 (h0 q v hq)
          · exact absurd h1.1 (by omega)
    simp only [om_D_layMoves_L75_body, om_D_layMoves_b75, om_D_layMoves_b109, e, hlt, hin, hcl, if_false, cond_true, og_nI1]
    by_cases h0 : M'.1 58 i = 0
    · refine .inl ⟨(nI (i + 1), om_up M' 58 i (1 <<< (nI i &&& 31))), by rw [if_pos h0], _, rfl, om_fr_up g1 rfl, fun p hp q => ?_⟩
      by_cases hpi : p = i
      · subst hpi
        have : (om_up M' 58 p (1 <<< (nI p &&& 31))).1 58 p = 1 <<< (nI p &&& 31) := by simp [om_up_at]
        rw [this, om_b_shl (show p < 32 by omega), decide_eq_true_eq]
        constructor
        · rintro rfl
          exact ⟨hi, 0, .inr ⟨by omega, hz.mp h0, rfl, rfl⟩⟩
        · rintro ⟨hq, w, h | h⟩
          · exact absurd h (hz.mp h0 q w hq)
          · exact h.2.2.1
      · have : (om_up M' 58 i (1 <<< (nI i &&& 31))).1 58 p = M'.1 58 p := by simp [om_up_at, hpi]
        rw [this, g2 p hp q]
        constructor
        · rintro ⟨hq, w, h | h⟩
          · exact ⟨hq, w, .inl h⟩
          · exact ⟨hq, w, .inr ⟨by omega, h.2⟩⟩
        · rintro ⟨hq, w, h | h⟩
          · exact ⟨hq, w, .inl h⟩
          · exact ⟨hq, w, .inr ⟨by omega, h.2⟩⟩
    · refine .inl ⟨(nI (i + 1), om_up M' 58 i (M'.1 58 i)), by rw [if_neg h0], _, rfl, om_fr_up g1 rfl, fun p hp q => ?_⟩
      have : (om_up M' 58 i (M'.1 58 i)).1 58 p = M'.1 58 p := by
        by_cases hpi : p = i
        · subst hpi; simp [om_up_at]
        · simp [om_up_at, hpi]
      rw [this, g2 p hp q]
      constructor
      · rintro ⟨hq, w, h | h⟩
        · exact ⟨hq, w, .inl h⟩
        · exact ⟨hq, w, .inr ⟨by omega, h.2⟩⟩
      · rintro ⟨hq, w, h | h⟩
        · exact ⟨hq, w, .inl h⟩
        · by_cases hpi : p = i
          · subst hpi; exact absurd (hz.mpr h.2.1) h0
          · exact ⟨hq, w, .inr ⟨by omega, h.2⟩⟩) (by
    rintro s ⟨M', rfl, g1, g2⟩
    have e : M'.1 46 2 = nI n := by rw [g1.1 46 2 rfl, e462]
    refine ⟨_, by simp only [om_D_layMoves_L75_body, om_D_layMoves_b75, e]; rw [if_pos Int32.le_rfl], g1, fun p hp q => (g2 p hp q).trans ?_⟩
    constructor
    · rintro ⟨hq, w, h⟩
      refine ⟨hq, w, (og_E_stay hB _ p q w hp).mp ?_⟩
      rcases h with h | h
      · exact .inl h
      · exact .inr h.2
    · rintro ⟨hq, w, h⟩
      refine ⟨hq, w, ?_⟩
      rcases (og_E_stay hB _ p q w hp).mpr h with h | h
      · exact .inl h
      · exact .inr ⟨hp, h⟩)
  refine ⟨M3, ?_, c1, c2⟩
  unfold om_D_layMoves om_D_layMoves_b0 om_D_layMoves_L2 om_D_layMoves_L25 om_D_layMoves_L75
  rw [hz1]
  show (om_it (om_D_layMoves_L25_body om_F) om_F (0, M1)).bind _ = _
  rw [hz2]
  show (om_it (om_D_layMoves_L75_body om_F) om_F (0, M2)).bind _ = _
  rw [hz3]; rfl
