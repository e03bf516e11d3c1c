/-! ===== moves ===== -/
/-- a move from p to q with weight w: by a usable arrow of the board, or staying where there is none -/
def og_E0 (M : om_M) (m : Nat) (U : Nat → Prop) (p q : Nat) (w : Int32) : Prop := ∃ k, k < m ∧ U k ∧ M.1 4 k = nI p ∧ M.1 5 k = nI q ∧ M.1 6 k = w
def og_E (M : om_M) (m : Nat) (U : Nat → Prop) (p q : Nat) (w : Int32) : Prop := og_E0 M m U p q w ∨ ((∀ k, k < m → U k → M.1 4 k ≠ nI p) ∧ q = p ∧ w = 0)
def og_Ml (n : Nat) (M : om_M) (s : Nat) (R : Nat → Nat → Int32 → Prop) : Prop := M.1 7 2 = nI s ∧ (∀ i, i < s → (∃ a, a < n ∧ M.1 8 i = nI a) ∧ (∃ b, b < n ∧ M.1 9 i = nI b)) ∧ (∀ p q w, p < n → q < n → ((∃ i, i < s ∧ M.1 8 i = nI p ∧ M.1 9 i = nI q ∧ M.1 10 i = w) ↔ R p q w)) ∧ (∀ p, p < n → ∀ q, om_b (M.1 11 p) q = true ↔ (q < n ∧ ∃ w, R p q w))
theorem og_Ml_congr {n : Nat} {M : om_M} {s : Nat} {R R' : Nat → Nat → Int32 → Prop} (h : og_Ml n M s R) (hR : ∀ p q w, p < n → q < n → (R p q w ↔ R' p q w)) : og_Ml n M s R' := by
  obtain ⟨h1, h2, h3, h4⟩ := h
  refine ⟨h1, h2, fun p q w hp hq => (h3 p q w hp hq).trans (hR p q w hp hq), fun p hp q => (h4 p hp q).trans ?_⟩
  constructor
  · rintro ⟨h, w, hw⟩; exact ⟨h, w, (hR p q w hp h).mp hw⟩
  · rintro ⟨h, w, hw⟩; exact ⟨h, w, (hR p q w hp h).mpr hw⟩
/-- cells that only moves lie in -/
def og_pv (a _j : Nat) : Bool := Nat.ble 7 a && Nat.ble a 11
theorem og_pv_sc {a j : Nat} (h : om_sc a j = false) : og_pv a j = false := by
  unfold om_sc at h
  unfold og_pv
  cases h1 : (Nat.ble 7 a && Nat.ble a 11) with
  | false => rfl
  | true =>
    simp only [Bool.and_eq_true] at h1
    have := Nat.le_of_ble_eq_true h1.1
    have h2 := Nat.le_of_ble_eq_true h1.2
    have : a = 7 ∨ a = 8 ∨ a = 9 ∨ a = 10 ∨ a = 11 := by omega
    rcases this with rfl | rfl | rfl | rfl | rfl <;> cases h
theorem og_add {n s a b : Nat} {w : Int32} {M : om_M} {R : Nat → Nat → Int32 → Prop} (h8 : n ≤ 8) (h : og_Ml n M s R) (hs : s < 28) (ha : a < n) (hb : b < n) : ∃ M', om_V_add om_F (nI a) (nI b) w M = some M' ∧ og_Ml n M' (s + 1) (fun p q v => R p q v ∨ (p = a ∧ q = b ∧ v = w)) ∧ om_fr og_pv M M' ∧ M'.1 7 0 = M.1 7 0 ∧ M'.1 7 1 = M.1 7 1 := by
  obtain ⟨h1, h2, h3, h4⟩ := h
  have hlt : nI s < 28 := (nI_ltI (by omega) (by omega : 28 < 2 ^ 31)).mpr hs
  have hin : om_in (nI s) 28 = true := om_in_nI hs (by omega)
  have hcl : (nI s).toNatClampNeg = s := nI_clamp (by omega)
  have hin2 : om_in (nI a) 8 = true := om_in_nI (by omega) (by omega)
  have hcl2 : (nI a).toNatClampNeg = a := nI_clamp (by omega)
  refine ⟨om_up (om_up (om_up (om_up (om_up M 8 s (nI a)) 9 s (nI b)) 10 s w) 7 2 (nI (s + 1))) 11 a (M.1 11 a ||| (1 <<< (nI b &&& 31))), ?_, ⟨by simp [om_up_at], fun i hi => ?_, fun p q v hp hq => ?_, fun p hp q => ?_⟩, ?_, by simp [om_up_at], by simp [om_up_at]⟩
  · unfold om_V_add om_V_add_b0
    simp only [h1, hlt, hin, hcl, hin2, hcl2, if_true, cond_true, om_up_at]
    simp [hin, hin2, hcl, h1, og_nI1]
  · by_cases his : i = s
    · subst his; simp [om_up_at]; exact ⟨⟨a, ha, rfl⟩, ⟨b, hb, rfl⟩⟩
    · simpa [om_up_at, his] using h2 i (by omega)
  · show _ ↔ (R p q v ∨ (p = a ∧ q = b ∧ v = w))
    rw [← h3 p q v hp hq]
    constructor
    · rintro ⟨i, hi, g1, g2, g3⟩
      by_cases his : i = s
      · subst his
        simp [om_up_at] at g1 g2 g3
        exact .inr ⟨((nI_eq (by omega) (by omega)).mp g1).symm, ((nI_eq (by omega) (by omega)).mp g2).symm, g3.symm⟩
      · simp [om_up_at, his] at g1 g2 g3
        exact .inl ⟨i, by omega, g1, g2, g3⟩
    · rintro (⟨i, hi, g1, g2, g3⟩ | ⟨rfl, rfl, rfl⟩)
      · have his : i ≠ s := by omega
        exact ⟨i, by omega, by simp [om_up_at, his, g1], by simp [om_up_at, his, g2], by simp [om_up_at, his, g3]⟩
      · exact ⟨s, by omega, by simp [om_up_at], by simp [om_up_at], by simp [om_up_at]⟩
  · have h5 := h4 p hp q
    by_cases hpa : p = a
    · subst hpa
      have e : (om_up (om_up (om_up (om_up (om_up M 8 s (nI p)) 9 s (nI b)) 10 s w) 7 2 (nI (s + 1))) 11 p (M.1 11 p ||| (1 <<< (nI b &&& 31)))).1 11 p = M.1 11 p ||| (1 <<< (nI b &&& 31)) := by simp [om_up_at]
      rw [e, om_b_or, om_b_shl (show b < 32 by omega), Bool.or_eq_true, h5, decide_eq_true_eq]
      constructor
      · rintro (⟨g1, v, g2⟩ | rfl)
        · exact ⟨g1, v, .inl g2⟩
        · exact ⟨hb, w, .inr ⟨rfl, rfl, rfl⟩⟩
      · rintro ⟨g1, v, g2 | ⟨-, g2, -⟩⟩
        · exact .inl ⟨g1, v, g2⟩
        · exact .inr g2
    · have e : (om_up (om_up (om_up (om_up (om_up M 8 s (nI a)) 9 s (nI b)) 10 s w) 7 2 (nI (s + 1))) 11 a (M.1 11 a ||| (1 <<< (nI b &&& 31)))).1 11 p = M.1 11 p := by simp [om_up_at, hpa]
      rw [e, h5]
      constructor
      · rintro ⟨g1, v, g2⟩; exact ⟨g1, v, .inl g2⟩
      · rintro ⟨g1, v, g2 | ⟨g2, -⟩⟩
        · exact ⟨g1, v, g2⟩
        · exact absurd g2 hpa
  · exact om_fr_up (om_fr_up (om_fr_up (om_fr_up (om_fr_up om_fr_rfl rfl) rfl) rfl) rfl) rfl
theorem og_clear {n : Nat} {x : Int32} {M : om_M} (h8 : n ≤ 8) (e : M.1 1 0 = nI n) : ∃ M', om_V_clear om_F x M = some M' ∧ og_Ml n M' 0 (fun _ _ _ => False) ∧ om_fr og_pv M M' ∧ M'.1 7 0 = nI n ∧ M'.1 7 1 = M.1 1 2 ^^^ x := by
  obtain ⟨M', hz, hq1, hq2, hq3, hq4, hq5⟩ := om_lp (f := om_V_clear_L25_body om_F) (fun i s => ∃ M', s = (nI i, M') ∧ (∀ p, p < i → M'.1 11 p = 0) ∧ om_fr og_pv M M' ∧ M'.1 7 0 = nI n ∧ M'.1 7 1 = M.1 1 2 ^^^ x ∧ M'.1 7 2 = 0) (fun M' : om_M => (∀ p, p < n → M'.1 11 p = 0) ∧ om_fr og_pv M M' ∧ M'.1 7 0 = nI n ∧ M'.1 7 1 = M.1 1 2 ^^^ x ∧ M'.1 7 2 = 0) n (F := om_F) (Nat.lt_of_le_of_lt h8 (by decide)) (s := (0, om_up (om_up (om_up M 7 0 (M.1 1 0)) 7 1 (M.1 1 2 ^^^ x)) 7 2 0)) ⟨_, rfl, fun p hp => absurd hp (by omega), om_fr_up (om_fr_up (om_fr_up om_fr_rfl rfl) rfl) rfl, by simp [om_up_at, e], by simp [om_up_at], by simp [om_up_at]⟩ (by
    rintro i s hi ⟨M', rfl, g1, g2, g3, g4, g5⟩
    have hin : om_in (nI i) 8 = true := om_in_nI (by omega) (by omega)
    have hcl : (nI i).toNatClampNeg = i := nI_clamp (by omega)
    have hlt : ¬ nI n ≤ nI i := nI_ge hi (by omega)
    refine .inl ⟨(nI (i + 1), om_up M' 11 i 0), by simp only [om_V_clear_L25_body, om_V_clear_b25, g3, hlt, hin, hcl, if_false, cond_true, og_nI1], om_up M' 11 i 0, rfl, fun p hp => ?_, om_fr_up g2 rfl, by simp [om_up_at, g3], by simp [om_up_at, g4], by simp [om_up_at, g5]⟩
    by_cases hpi : p = i
    · subst hpi; simp [om_up_at]
    · simp [om_up_at, hpi, g1 p (by omega)]) (by
    rintro s ⟨M', rfl, g1, g2, g3, g4⟩
    exact ⟨_, by simp only [om_V_clear_L25_body, om_V_clear_b25, g3]; rw [if_pos Int32.le_rfl], g1, g2, g3, g4⟩)
  refine ⟨M', ?_, ⟨hq5, fun i hi => absurd hi (by omega), fun p q w _ _ => ⟨fun ⟨i, hi, _⟩ => absurd hi (by omega), fun h => h.elim⟩, fun p hp q => ?_⟩, hq2, hq3, hq4⟩
  · unfold om_V_clear om_V_clear_b0 om_V_clear_L25
    have : (om_up M 7 0 (M.1 1 0)).1 1 2 = M.1 1 2 := by simp [om_up_at]
    rw [this, hz]; rfl
  · rw [hq1 p hp, om_b_0]
    simp
theorem og_addStays {n s t : Nat} {M : om_M} {R : Nat → Nat → Int32 → Prop} (h8 : n ≤ 8) (h : og_Ml n M s R) (hs : s ≤ 20) (h70 : M.1 7 0 = nI n) : ∃ M' s', om_V_addStays om_F M = some M' ∧ og_Ml n M' s' (fun p q v => R p q v ∨ ((∀ q v, q < n → ¬ R p q v) ∧ q = p ∧ v = 0)) ∧ s' ≤ 28 ∧ om_fr og_pv M M' ∧ M'.1 7 0 = nI n ∧ M'.1 7 1 = M.1 7 1 := by
  obtain ⟨M', hz, s', hq1, hq2, hq3, hq4, hq5⟩ := om_lp (f := om_V_addStays_L2_body om_F) (fun i x => ∃ M', x = (nI i, M') ∧ ∃ s', og_Ml n M' s' (fun p q v => R p q v ∨ (p < i ∧ (∀ q v, q < n → ¬ R p q v) ∧ q = p ∧ v = 0)) ∧ s' ≤ s + i ∧ om_fr og_pv M M' ∧ M'.1 7 0 = nI n ∧ M'.1 7 1 = M.1 7 1) (fun M' : om_M => ∃ s', og_Ml n M' s' (fun p q v => R p q v ∨ ((∀ q v, q < n → ¬ R p q v) ∧ q = p ∧ v = 0)) ∧ s' ≤ 28 ∧ om_fr og_pv M M' ∧ M'.1 7 0 = nI n ∧ M'.1 7 1 = M.1 7 1) n (F := om_F) (Nat.lt_of_le_of_lt h8 (by decide)) (s := (0, M)) ⟨M, rfl, s, og_Ml_congr h (fun p q w _ _ => ⟨.inl, fun h => h.elim id (fun h => absurd h.1 (by omega))⟩), by omega, om_fr_rfl, h70, rfl⟩ (by
    rintro i x hi ⟨M', rfl, s', g1, g2, g3, g4, g5⟩
    have hin : om_in (nI i) 8 = true := om_in_nI (by omega) (by omega)
    have hcl : (nI i).toNatClampNeg = i := nI_clamp (by omega)
    have hlt : ¬ nI n ≤ nI i := nI_ge hi (by omega)
    have hz : M'.1 11 i = 0 ↔ ∀ q v, q < n → ¬ R i q v := by
      have h4 := g1.2.2.2 i hi
      constructor
      · intro h0 q v hq hR
        have := (h4 q).mpr ⟨hq, v, .inl hR⟩
        rw [h0, om_b_0] at this; cases this
      · intro h0
        rw [om_eq0]
        intro q _
        cases hb : om_b (M'.1 11 i) q with
        | false => rfl
        | true =>
          obtain ⟨hq, v, h1 | h1⟩ := (h4 q).mp hb
          · exact absurd h1 (h0 q v hq)
          · exact absurd h1.1 (by omega)
    simp only [om_V_addStays_L2_body, om_V_addStays_b2, om_V_addStays_b26, g4, hlt, hin, hcl, if_false, cond_true, og_nI1]
    by_cases h0 : M'.1 11 i = 0
    · obtain ⟨M2, a1, a2, a3, a4, a5⟩ := og_add (w := 0) h8 g1 (by omega) hi hi
      refine .inl ⟨_, by rw [if_pos h0, a1]; rfl, M2, rfl, s' + 1, og_Ml_congr a2 (fun p q w hp hq => ?_), by omega, om_fr_tr g3 a3, by rw [a4, g4], by rw [a5, g5]⟩
      constructor
      · rintro ((h | ⟨h1, h2, h3⟩) | ⟨rfl, rfl, rfl⟩)
        · exact .inl h
        · exact .inr ⟨by omega, h2, h3⟩
        · exact .inr ⟨by omega, hz.mp h0, rfl, rfl⟩
      · rintro (h | ⟨h1, h2, h3, h4⟩)
        · exact .inl (.inl h)
        · by_cases hpi : p = i
          · exact .inr ⟨hpi, by omega, h4⟩
          · exact .inl (.inr ⟨by omega, h2, h3, h4⟩)
    · refine .inl ⟨_, by rw [if_neg h0], M', rfl, s', og_Ml_congr g1 (fun p q w hp hq => ?_), by omega, g3, g4, g5⟩
      constructor
      · rintro (h | ⟨h1, h2, h3⟩)
        · exact .inl h
        · exact .inr ⟨by omega, h2, h3⟩
      · rintro (h | ⟨h1, h2, h3, h4⟩)
        · exact .inl h
        · by_cases hpi : p = i
          · subst hpi; exact absurd (hz.mpr h2) h0
          · exact .inr ⟨by omega, h2, h3, h4⟩) (by
    rintro x ⟨M', rfl, s', g1, g2, g3, g4, g5⟩
    refine ⟨_, by simp only [om_V_addStays_L2_body, om_V_addStays_b2, g4]; rw [if_pos Int32.le_rfl], s', og_Ml_congr g1 (fun p q w hp hq => ?_), by omega, g3, g4, g5⟩
    constructor
    · rintro (h | ⟨h1, h2, h3⟩)
      · exact .inl h
      · exact .inr ⟨h2, h3⟩
    · rintro (h | ⟨h2, h3⟩)
      · exact .inl h
      · exact .inr ⟨hp, h2, h3⟩)
  refine ⟨M', s', ?_, hq1, hq2, hq3, hq4, hq5⟩
  unfold om_V_addStays om_V_addStays_b0 om_V_addStays_L2
  rw [hz]; rfl
/-- what is loaded -/
def og_Ld (M : om_M) (n : Nat) (R : Nat → Nat → Int32 → Prop) : Prop := M.1 7 0 = nI n ∧ ∃ s, s ≤ 28 ∧ og_Ml n M s R
theorem og_Ba_fr {M M' : om_M} {n m : Nat} (h : om_Ba M n m) (hf : om_fr og_pv M M') : ∀ k, k < m → M'.1 4 k = M.1 4 k ∧ M'.1 5 k = M.1 5 k ∧ M'.1 6 k = M.1 6 k :=
  fun k _ => ⟨hf.1 4 k rfl, hf.1 5 k rfl, hf.1 6 k rfl⟩
theorem og_E_stay {M : om_M} {n m : Nat} (hB : om_Ba M n m) (U : Nat → Prop) (p q : Nat) (w : Int32) (hp : p < n) : (og_E0 M m U p q w ∨ ((∀ q v, q < n → ¬ og_E0 M m U p q v) ∧ q = p ∧ w = 0)) ↔ og_E M m U p q w := by
  constructor
  · rintro (h | ⟨h1, h2⟩)
    · exact .inl h
    · refine .inr ⟨fun k hk hU he => ?_, h2⟩
      obtain ⟨-, -, -, -, ⟨b, hb, h5⟩, -⟩ := hB.1 k hk
      exact h1 b _ hb ⟨k, hk, hU, he, h5, rfl⟩
  · rintro (h | ⟨h1, h2⟩)
    · exact .inl h
    · exact .inr ⟨fun q v _ ⟨k, hk, hU, he, _⟩ => h1 k hk hU he, h2⟩
theorem og_load {M : om_M} {n m : Nat} (hn : om_Bn M n m) (hB : om_Ba M n m) (x2 x3 : Int32) : ∃ M', om_V_load om_F x2 x3 M = some M' ∧ og_Ld M' n (og_E M m (fun k => nI k ≠ x2)) ∧ om_fr og_pv M M' ∧ M'.1 7 1 = M.1 1 2 ^^^ x3 := by
  obtain ⟨h8, h20, e10, e11, e462, e466⟩ := hn
  obtain ⟨M1, a1, a2, a3, a4, a5⟩ := og_clear (x := x3) h8 e10
  obtain ⟨M2, hz, s', hq1, hq2, hq3, hq4, hq5⟩ := om_lp (f := om_V_load_L9_body om_F) (fun i x => ∃ M', x = (x2, nI i, M') ∧ ∃ s', og_Ml n M' s' (og_E0 M i (fun k => nI k ≠ x2)) ∧ s' ≤ i ∧ om_fr og_pv M M' ∧ M'.1 7 0 = nI n ∧ M'.1 7 1 = M.1 1 2 ^^^ x3) (fun M' : om_M => ∃ s', og_Ml n M' s' (og_E0 M m (fun k => nI k ≠ x2)) ∧ s' ≤ m ∧ om_fr og_pv M M' ∧ M'.1 7 0 = nI n ∧ M'.1 7 1 = M.1 1 2 ^^^ x3) m (F := om_F) (Nat.lt_of_le_of_lt h20 (by decide)) (s := (x2, 0, M1)) ⟨M1, rfl, 0, og_Ml_congr a2 (fun p q w _ _ => ⟨fun h => h.elim, fun ⟨k, hk, _⟩ => absurd hk (by omega)⟩), by omega, a3, a4, a5⟩ (by
    rintro i x hi ⟨M', rfl, s', g1, g2, g3, g4, g5⟩
    have hin : om_in (nI i) 20 = true := om_in_nI (by omega) (by omega)
    have hcl : (nI i).toNatClampNeg = i := nI_clamp (by omega)
    have hlt : ¬ nI m ≤ nI i := nI_ge hi (by omega)
    have e11' : M'.1 1 1 = nI m := by rw [g3.1 1 1 rfl, e11]
    obtain ⟨-, -, -, ⟨a, ha, h4⟩, ⟨b, hb, h5⟩, -⟩ := hB.1 i hi
    simp only [om_V_load_L9_body, om_V_load_b9, om_V_load_b49, e11', hlt, hin, hcl, if_false, cond_true, og_nI1]
    by_cases h0 : nI i = x2
    · refine .inl ⟨_, by rw [if_pos h0], M', rfl, s', og_Ml_congr g1 (fun p q w hp hq => ?_), by omega, g3, g4, g5⟩
      constructor
      · rintro ⟨k, hk, h⟩; exact ⟨k, by omega, h⟩
      · rintro ⟨k, hk, hU, h⟩
        by_cases hki : k = i
        · subst hki; exact absurd h0 hU
        · exact ⟨k, by omega, hU, h⟩
    · obtain ⟨M2, b1, b2, b3, b4, b5⟩ := og_add (w := M.1 6 i) h8 g1 (by omega) ha hb
      refine .inl ⟨_, by rw [if_neg h0, g3.1 4 i rfl, g3.1 5 i rfl, g3.1 6 i rfl, h4, h5, b1]; rfl, M2, rfl, s' + 1, og_Ml_congr b2 (fun p q w hp hq => ?_), by omega, om_fr_tr g3 b3, by rw [b4, g4], by rw [b5, g5]⟩
      constructor
      · rintro (⟨k, hk, h⟩ | ⟨rfl, rfl, rfl⟩)
        · exact ⟨k, by omega, h⟩
        · exact ⟨i, by omega, h0, h4, h5, rfl⟩
      · rintro ⟨k, hk, hU, k4, k5, k6⟩
        by_cases hki : k = i
        · subst hki
          exact .inr ⟨(nI_eq (by omega) (by omega)).mp (k4.symm.trans h4), (nI_eq (by omega) (by omega)).mp (k5.symm.trans h5), k6.symm⟩
        · exact .inl ⟨k, by omega, hU, k4, k5, k6⟩) (by
    rintro x ⟨M', rfl, s', g1, g2, g3, g4, g5⟩
    have e11' : M'.1 1 1 = nI m := by rw [g3.1 1 1 rfl, e11]
    exact ⟨_, by simp only [om_V_load_L9_body, om_V_load_b9, e11']; rw [if_pos Int32.le_rfl], s', g1, g2, g3, g4, g5⟩)
  obtain ⟨M3, s3, c1, c2, c3, c4, c5, c6⟩ := og_addStays (t := 0) h8 hq1 (by omega) hq4
  refine ⟨M3, ?_, ⟨c5, s3, c3, og_Ml_congr c2 (fun p q w hp _ => og_E_stay hB _ p q w hp)⟩, om_fr_tr hq3 c4, by rw [c6, hq5]⟩
  unfold om_V_load om_V_load_b0 om_V_load_L9
  rw [a1]
  show (om_it (om_V_load_L9_body om_F) om_F (x2, 0, M1)).bind _ = _
  rw [hz]
  show (om_V_addStays om_F M2).bind _ = _
  rw [c1]; rfl
