/-! ===== reading a token, on both sides ===== -/
section TK
variable {L : Nat} {bt : Nat → Nat}
def og_TC (L : Nat) (bt : Nat → Nat) (C : om_M) : Prop := C.1 28 0 = nI L ∧ ∀ i, i < L → C.1 29 i = nI (bt i)
def og_TD (L : Nat) (bt : Nat → Nat) (D : om_M) : Prop := D.1 46 9 = nI L ∧ ∀ i, i < L → D.1 53 i = nI (bt i)
/-- the token behind c: its first sign, and what is behind its last -/
def og_tok (bt : Nat → Nat) (L c f e : Nat) : Prop := c ≤ f ∧ f ≤ L ∧ (∀ i, c ≤ i → i < f → bt i = 32) ∧ (f < L → bt f ≠ 32) ∧ (f = L → e = L) ∧ (f < L → f < e ∧ e ≤ L ∧ (∀ i, f < i → i < e → 0 < og_so (bt f) ∧ og_so (bt i) = og_so (bt f)) ∧ (e < L → og_so (bt f) = 0 ∨ og_so (bt e) ≠ og_so (bt f)))
theorem og_tok_uniq {c f e f' e' : Nat} (h : og_tok bt L c f e) (h' : og_tok bt L c f' e') : f = f' ∧ e = e' := by
  obtain ⟨a1, a2, a3, a4, a5, a6⟩ := h
  obtain ⟨b1, b2, b3, b4, b5, b6⟩ := h'
  have hf : f = f' := by
    by_cases h1 : f < f'
    · exact absurd (b3 f a1 h1) (a4 (by omega))
    · by_cases h2 : f' < f
      · exact absurd (a3 f' b1 h2) (b4 (by omega))
      · omega
  subst hf
  refine ⟨rfl, ?_⟩
  by_cases hL : f = L
  · rw [a5 hL, b5 hL]
  · obtain ⟨c1, c2, c3, c4⟩ := a6 (by omega)
    obtain ⟨d1, d2, d3, d4⟩ := b6 (by omega)
    by_cases h1 : e < e'
    · have h2 := d3 e c1 h1
      rcases c4 (by omega) with h3 | h3
      · omega
      · exact absurd h2.2 h3
    · by_cases h2 : e' < e
      · have h3 := c3 e' d1 h2
        rcases d4 (by omega) with h4 | h4
        · omega
        · exact absurd h3.2 h4
      · omega
def og_isw (bt : Nat → Nat) (k f e : Nat) : Prop := e = f + og_ltn k ∧ ∀ i, i < og_ltn k → bt (f + i) = og_ltr k i
theorem og_isw_one {k k' f e : Nat} (hk : k < 13) (hk' : k' < 13) (h : og_isw bt k f e) (h' : og_isw bt k' f e) : k = k' := by
  refine Classical.byContradiction fun hne => ?_
  rcases og_word_one ⟨k, hk⟩ ⟨k', hk'⟩ (fun h => hne (congrArg Fin.val h)) with h1 | ⟨i, h1, h2⟩
  · have h3 : og_ltn k ≠ og_ltn k' := h1
    have := h.1; have := h'.1; omega
  · have h3 : i.val < og_ltn k := h1
    have h4 : og_ltr k i.val ≠ og_ltr k' i.val := h2
    have := h.2 i.val h3
    have := h'.2 i.val (by have := h.1; have := h'.1; omega)
    omega
/-- what kind of token it is -/
def og_tkT (bt : Nat → Nat) (L f e t : Nat) : Prop := t < 18 ∧ (t = 0 ↔ f = L) ∧ (t = 1 ↔ (f < L ∧ og_so (bt f) = 2)) ∧ (t = 2 ↔ (f < L ∧ bt f = 40)) ∧ (t = 3 ↔ (f < L ∧ bt f = 41)) ∧ ∀ k, k < 13 → (t = 5 + k ↔ og_isw bt k f e)
def og_nv (bt : Nat → Nat) (f : Nat) : Nat → Nat
  | 0 => 0
  | j + 1 => og_nv bt f j * 10 + (bt (f + j) - 48)
theorem og_so_2 {v : Nat} (h : og_so v = 2) : 48 ≤ v ∧ v ≤ 57 := by
  unfold og_so at h
  split at h
  · omega
  · split at h <;> omega
theorem og_so_1 {v : Nat} : og_so v = 1 ↔ 97 ≤ v ∧ v ≤ 122 := by
  unfold og_so
  split
  · simp; omega
  · split <;> omega
theorem og_so_le (v : Nat) : og_so v ≤ 2 := by
  unfold og_so
  split
  · omega
  · split <;> omega
theorem og_nv_lt {f e : Nat} (h : ∀ i, f ≤ i → i < e → og_so (bt i) = 2) : (f + 1 ≤ e → og_nv bt f 1 < 10) ∧ (f + 2 ≤ e → og_nv bt f 2 < 100) := by
  constructor
  · intro h1
    have := og_so_2 (h f (Nat.le_refl _) (by omega))
    show 0 * 10 + (bt (f + 0) - 48) < 10
    rw [Nat.add_zero]; omega
  · intro h1
    have := og_so_2 (h f (Nat.le_refl _) (by omega))
    have := og_so_2 (h (f + 1) (by omega) (by omega))
    show (0 * 10 + (bt (f + 0) - 48)) * 10 + (bt (f + 1) - 48) < 100
    rw [Nat.add_zero]; omega
theorem og_isLetter {v : Nat} (hv : v < 256) (C : om_M) : om_R_isLetter om_F (nI v) C = some (om_bi (decide (og_so v = 1)), C) := by
  have h1 : nI v < 97 ↔ v < 97 := nI_ltI (b := 97) (by omega) (by omega)
  have h2 : (122 : Int32) < nI v ↔ 122 < v := nI_ltI (a := 122) (by omega) (by omega)
  unfold om_R_isLetter om_R_isLetter_b0 om_R_isLetter_b16 om_R_isLetter_b17
  by_cases h3 : v < 97
  · rw [if_pos (h1.mpr h3), decide_eq_false (fun h => by have := og_so_1.mp h; omega)]; rfl
  · rw [if_neg (fun h => h3 (h1.mp h))]
    by_cases h4 : 122 < v
    · rw [if_pos (h2.mpr h4), decide_eq_false (fun h => by have := og_so_1.mp h; omega)]; rfl
    · rw [if_neg (fun h => h4 (h2.mp h)), decide_eq_true (og_so_1.mpr ⟨by omega, by omega⟩)]; rfl
theorem og_so_2i {v : Nat} : og_so v = 2 ↔ 48 ≤ v ∧ v ≤ 57 := ⟨og_so_2, fun h => by unfold og_so; rw [if_neg (by omega), if_pos h]⟩
theorem og_isDigit {v : Nat} (hv : v < 256) (C : om_M) : om_R_isDigit om_F (nI v) C = some (om_bi (decide (og_so v = 2)), C) := by
  have h1 : nI v < 48 ↔ v < 48 := nI_ltI (b := 48) (by omega) (by omega)
  have h2 : (57 : Int32) < nI v ↔ 57 < v := nI_ltI (a := 57) (by omega) (by omega)
  unfold om_R_isDigit om_R_isDigit_b0 om_R_isDigit_b16 om_R_isDigit_b17
  by_cases h3 : v < 48
  · rw [if_pos (h1.mpr h3), decide_eq_false (fun h => by have := og_so_2 h; omega)]; rfl
  · rw [if_neg (fun h => h3 (h1.mp h))]
    by_cases h4 : 57 < v
    · rw [if_pos (h2.mpr h4), decide_eq_false (fun h => by have := og_so_2 h; omega)]; rfl
    · rw [if_neg (fun h => h4 (h2.mp h)), decide_eq_true (og_so_2i.mpr ⟨by omega, by omega⟩)]; rfl
theorem og_D_sort {v : Nat} (hv : v < 256) (D : om_M) : om_D_sort om_F (nI v) D = some (nI (og_so v), D) := by
  have h1 : nI v < 97 ↔ v < 97 := nI_ltI (b := 97) (by omega) (by omega)
  have h2 : (122 : Int32) < nI v ↔ 122 < v := nI_ltI (a := 122) (by omega) (by omega)
  have h3 : nI v < 48 ↔ v < 48 := nI_ltI (b := 48) (by omega) (by omega)
  have h4 : (57 : Int32) < nI v ↔ 57 < v := nI_ltI (a := 57) (by omega) (by omega)
  unfold om_D_sort om_D_sort_b0 om_D_sort_b16 om_D_sort_b32 om_D_sort_b33
  simp only [h1, h2, h3, h4]
  have z0 : v < 48 ∨ (57 < v ∧ v < 97) ∨ 122 < v → og_so v = 0 := fun h => by
    unfold og_so; rw [if_neg (by omega), if_neg (by omega)]
  by_cases a1 : v < 97
  · rw [if_pos a1]
    by_cases a2 : v < 48
    · rw [if_pos a2, z0 (by omega)]; rfl
    · rw [if_neg a2]
      by_cases a3 : 57 < v
      · rw [if_pos a3, z0 (by omega)]; rfl
      · rw [if_neg a3, og_so_2i.mpr (by omega)]; rfl
  · rw [if_neg a1]
    by_cases a2 : 122 < v
    · rw [if_pos a2, if_neg (show ¬ v < 48 by omega), if_pos (show 57 < v by omega), z0 (by omega)]; rfl
    · rw [if_neg a2, og_so_1.mpr (by omega)]; rfl
/-- the cells that reading a token writes into -/
def og_fT (C C' : om_M) : Prop := (∀ a j, ¬ (a = 28 ∧ 2 ≤ j ∧ j ≤ 5) → C'.1 a j = C.1 a j) ∧ C'.2 = C.2
theorem og_fT_rfl {C : om_M} : og_fT C C := ⟨fun _ _ _ => rfl, rfl⟩
theorem og_fT_tr {C C' C'' : om_M} (h : og_fT C C') (h' : og_fT C' C'') : og_fT C C'' := ⟨fun a j ha => by rw [h'.1 a j ha, h.1 a j ha], by rw [h'.2, h.2]⟩
theorem og_fT_up {C C' : om_M} (h : og_fT C C') {j : Nat} (hj : 2 ≤ j ∧ j ≤ 5) (v : Int32) : og_fT C (om_up C' 28 j v) := ⟨fun a i ha => by
  rw [om_up_at]
  by_cases h28 : a = 28
  · rw [if_pos h28, if_neg (fun hij => ha ⟨h28, by omega⟩)]; exact h.1 a i ha
  · rw [if_neg h28]; exact h.1 a i ha, h.2⟩
theorem og_TC_fT {C C' : om_M} (h : og_TC L bt C) (g : og_fT C C') : og_TC L bt C' := ⟨by rw [g.1 28 0 (by omega)]; exact h.1, fun i hi => by rw [g.1 29 i (by omega)]; exact h.2 i hi⟩
theorem og_R_isWord (hL : L ≤ 120) (hbt : ∀ i, bt i < 256) {C : om_M} (hT : og_TC L bt C) {f e : Nat} (h2 : C.1 28 2 = nI e) (h3 : C.1 28 3 = nI f) (hfe : f ≤ e) (he : e ≤ L) {k : Nat} (hk : k < 13) : ∃ r, om_R_isWord om_F (1000 + k) C = some (om_bi r, C) ∧ (r = true ↔ og_isw bt k f e) := by
  have hob : om_obj (1000 + k) 99 = true := og_obj99 ⟨k, hk⟩
  obtain ⟨l1, l2⟩ : 1 ≤ og_ltn k ∧ og_ltn k ≤ 6 := og_ltn_le ⟨k, hk⟩
  have hsub : nI e - nI f = nI (e - f) := pk_sub hfe
  have hceq : nI (og_ltn k) = nI (e - f) ↔ og_ltn k = e - f := nI_eq (by omega) (by omega)
  unfold om_R_isWord om_R_isWord_b0
  rw [hob, cond_true, og_jlen hk]
  simp only [Option.bind_some, h2, h3, hsub]
  by_cases hlen : og_ltn k = e - f
  · rw [if_pos (hceq.mpr hlen)]
    obtain ⟨z, hz, hq⟩ := om_lp (f := om_R_isWord_L20_body om_F) (fun i st => st = (1000 + k, nI i, C) ∧ ∀ j, j < i → bt (f + j) = og_ltr k j) (fun z => (z = .inl C ∧ ¬ og_isw bt k f e) ∨ (z = .inr C ∧ og_isw bt k f e)) (og_ltn k) (F := om_F) (Nat.lt_of_le_of_lt l2 (by decide)) (s := (1000 + k, 0, C)) ⟨rfl, fun j hj => absurd hj (Nat.not_lt_zero _)⟩ (by
      rintro i st hi ⟨rfl, g⟩
      have hlt : ¬ nI (og_ltn k) ≤ nI i := nI_ge hi (by omega)
      have hadd : nI f + nI i = nI (f + i) := nI_add ..
      have hin : om_in (nI (f + i)) 120 = true := om_in_nI (by omega) (by omega)
      have hcl : (nI (f + i)).toNatClampNeg = f + i := nI_clamp (by omega)
      have hb := hT.2 (f + i) (by omega)
      have hl : og_ltr k i < 256 := og_ltr_lt ⟨k, hk⟩ ⟨i, by omega⟩
      have hc : nI (bt (f + i)) = nI (og_ltr k i) ↔ bt (f + i) = og_ltr k i := nI_eq (by have := hbt (f + i); omega) (by omega)
      by_cases h : bt (f + i) = og_ltr k i
      · refine .inl ⟨(1000 + k, nI (i + 1), C), ?_, rfl, fun j hj => ?_⟩
        · simp only [om_R_isWord_L20_body, om_R_isWord_b20, hob, cond_true, og_jlen hk, Option.bind_some, hlt, if_false, h3, hadd, hin, hcl, og_jchr hk hi, hb, hc, h, if_true, og_nI1]
        · by_cases hji : j = i
          · subst hji; exact h
          · exact g j (by omega)
      · refine .inr ⟨.inl C, ?_, .inl ⟨rfl, fun hw => h (hw.2 i hi)⟩⟩
        simp only [om_R_isWord_L20_body, om_R_isWord_b20, hob, cond_true, og_jlen hk, Option.bind_some, hlt, if_false, h3, hadd, hin, hcl, og_jchr hk hi, hb, hc, h]) (by
      rintro st ⟨rfl, g⟩
      exact ⟨.inr C, by simp only [om_R_isWord_L20_body, om_R_isWord_b20, hob, cond_true, og_jlen hk, Option.bind_some]; rw [if_pos Int32.le_rfl], .inr ⟨rfl, by omega, g⟩⟩)
    unfold om_R_isWord_L20
    rw [hz]
    rcases hq with ⟨rfl, hq⟩ | ⟨rfl, hq⟩
    · exact ⟨false, rfl, fun h => (by cases h), fun h => absurd h hq⟩
    · exact ⟨true, rfl, fun _ => hq, fun _ => rfl⟩
  · rw [if_neg (fun h => hlen (hceq.mp h))]
    exact ⟨false, rfl, fun h => (by cases h), fun h => by have := h.1; omega⟩
theorem og_wordToken (hL : L ≤ 120) (hbt : ∀ i, bt i < 256) {C : om_M} (hT : og_TC L bt C) {f e : Nat} (h2 : C.1 28 2 = nI e) (h3 : C.1 28 3 = nI f) (hfe : f ≤ e) (he : e ≤ L) : ∃ t, om_R_wordToken om_F C = some (nI t, C) ∧ ((∃ k, k < 13 ∧ t = 5 + k ∧ og_isw bt k f e) ∨ (t = 4 ∧ ∀ k, k < 13 → ¬ og_isw bt k f e)) := by
  unfold om_R_wordToken om_R_wordToken_b0
  obtain ⟨r0, w0, i0⟩ := og_R_isWord hL hbt hT h2 h3 hfe he (k := 0) (by omega)
  rw [show om_R_isWord om_F 1000 C = some (om_bi r0, C) from w0]
  simp only [Option.bind_some]
  by_cases c0 : r0 = true
  · rw [c0, if_neg (show ¬ om_bi true = 0 by decide)]
    exact ⟨5, rfl, .inl ⟨0, by omega, rfl, i0.mp c0⟩⟩
  rw [if_pos (show om_bi r0 = 0 by rw [Bool.eq_false_iff.mpr c0]; rfl)]
  obtain ⟨r1, w1, i1⟩ := og_R_isWord hL hbt hT h2 h3 hfe he (k := 1) (by omega)
  rw [show om_R_isWord om_F 1001 C = some (om_bi r1, C) from w1]
  simp only [Option.bind_some]
  by_cases c1 : r1 = true
  · rw [c1, if_neg (show ¬ om_bi true = 0 by decide)]
    exact ⟨6, rfl, .inl ⟨1, by omega, rfl, i1.mp c1⟩⟩
  rw [if_pos (show om_bi r1 = 0 by rw [Bool.eq_false_iff.mpr c1]; rfl)]
  obtain ⟨r2, w2, i2⟩ := og_R_isWord hL hbt hT h2 h3 hfe he (k := 2) (by omega)
  rw [show om_R_isWord om_F 1002 C = some (om_bi r2, C) from w2]
  simp only [Option.bind_some]
  by_cases c2 : r2 = true
  · rw [c2, if_neg (show ¬ om_bi true = 0 by decide)]
    exact ⟨7, rfl, .inl ⟨2, by omega, rfl, i2.mp c2⟩⟩
  rw [if_pos (show om_bi r2 = 0 by rw [Bool.eq_false_iff.mpr c2]; rfl)]
  obtain ⟨r3, w3, i3⟩ := og_R_isWord hL hbt hT h2 h3 hfe he (k := 3) (by omega)
  rw [show om_R_isWord om_F 1003 C = some (om_bi r3, C) from w3]
  simp only [Option.bind_some]
  by_cases c3 : r3 = true
  · rw [c3, if_neg (show ¬ om_bi true = 0 by decide)]
    exact ⟨8, rfl, .inl ⟨3, by omega, rfl, i3.mp c3⟩⟩
  rw [if_pos (show om_bi r3 = 0 by rw [Bool.eq_false_iff.mpr c3]; rfl)]
  obtain ⟨r4, w4, i4⟩ := og_R_isWord hL hbt hT h2 h3 hfe he (k := 4) (by omega)
  rw [show om_R_isWord om_F 1004 C = some (om_bi r4, C) from w4]
  simp only [Option.bind_some]
  by_cases c4 : r4 = true
  · rw [c4, if_neg (show ¬ om_bi true = 0 by decide)]
    exact ⟨9, rfl, .inl ⟨4, by omega, rfl, i4.mp c4⟩⟩
  rw [if_pos (show om_bi r4 = 0 by rw [Bool.eq_false_iff.mpr c4]; rfl)]
  obtain ⟨r5, w5, i5⟩ := og_R_isWord hL hbt hT h2 h3 hfe he (k := 5) (by omega)
  rw [show om_R_isWord om_F 1005 C = some (om_bi r5, C) from w5]
  simp only [Option.bind_some]
  by_cases c5 : r5 = true
  · rw [c5, if_neg (show ¬ om_bi true = 0 by decide)]
    exact ⟨10, rfl, .inl ⟨5, by omega, rfl, i5.mp c5⟩⟩
  rw [if_pos (show om_bi r5 = 0 by rw [Bool.eq_false_iff.mpr c5]; rfl)]
  obtain ⟨r6, w6, i6⟩ := og_R_isWord hL hbt hT h2 h3 hfe he (k := 6) (by omega)
  rw [show om_R_isWord om_F 1006 C = some (om_bi r6, C) from w6]
  simp only [Option.bind_some]
  by_cases c6 : r6 = true
  · rw [c6, if_neg (show ¬ om_bi true = 0 by decide)]
    exact ⟨11, rfl, .inl ⟨6, by omega, rfl, i6.mp c6⟩⟩
  rw [if_pos (show om_bi r6 = 0 by rw [Bool.eq_false_iff.mpr c6]; rfl)]
  obtain ⟨r7, w7, i7⟩ := og_R_isWord hL hbt hT h2 h3 hfe he (k := 7) (by omega)
  rw [show om_R_isWord om_F 1007 C = some (om_bi r7, C) from w7]
  simp only [Option.bind_some]
  by_cases c7 : r7 = true
  · rw [c7, if_neg (show ¬ om_bi true = 0 by decide)]
    exact ⟨12, rfl, .inl ⟨7, by omega, rfl, i7.mp c7⟩⟩
  rw [if_pos (show om_bi r7 = 0 by rw [Bool.eq_false_iff.mpr c7]; rfl)]
  obtain ⟨r8, w8, i8⟩ := og_R_isWord hL hbt hT h2 h3 hfe he (k := 8) (by omega)
  rw [show om_R_isWord om_F 1008 C = some (om_bi r8, C) from w8]
  simp only [Option.bind_some]
  by_cases c8 : r8 = true
  · rw [c8, if_neg (show ¬ om_bi true = 0 by decide)]
    exact ⟨13, rfl, .inl ⟨8, by omega, rfl, i8.mp c8⟩⟩
  rw [if_pos (show om_bi r8 = 0 by rw [Bool.eq_false_iff.mpr c8]; rfl)]
  obtain ⟨r9, w9, i9⟩ := og_R_isWord hL hbt hT h2 h3 hfe he (k := 9) (by omega)
  rw [show om_R_isWord om_F 1009 C = some (om_bi r9, C) from w9]
  simp only [Option.bind_some]
  by_cases c9 : r9 = true
  · rw [c9, if_neg (show ¬ om_bi true = 0 by decide)]
    exact ⟨14, rfl, .inl ⟨9, by omega, rfl, i9.mp c9⟩⟩
  rw [if_pos (show om_bi r9 = 0 by rw [Bool.eq_false_iff.mpr c9]; rfl)]
  obtain ⟨r10, w10, i10⟩ := og_R_isWord hL hbt hT h2 h3 hfe he (k := 10) (by omega)
  rw [show om_R_isWord om_F 1010 C = some (om_bi r10, C) from w10]
  simp only [Option.bind_some]
  by_cases c10 : r10 = true
  · rw [c10, if_neg (show ¬ om_bi true = 0 by decide)]
    exact ⟨15, rfl, .inl ⟨10, by omega, rfl, i10.mp c10⟩⟩
  rw [if_pos (show om_bi r10 = 0 by rw [Bool.eq_false_iff.mpr c10]; rfl)]
  obtain ⟨r11, w11, i11⟩ := og_R_isWord hL hbt hT h2 h3 hfe he (k := 11) (by omega)
  rw [show om_R_isWord om_F 1011 C = some (om_bi r11, C) from w11]
  simp only [Option.bind_some]
  by_cases c11 : r11 = true
  · rw [c11, if_neg (show ¬ om_bi true = 0 by decide)]
    exact ⟨16, rfl, .inl ⟨11, by omega, rfl, i11.mp c11⟩⟩
  rw [if_pos (show om_bi r11 = 0 by rw [Bool.eq_false_iff.mpr c11]; rfl)]
  obtain ⟨r12, w12, i12⟩ := og_R_isWord hL hbt hT h2 h3 hfe he (k := 12) (by omega)
  rw [show om_R_isWord om_F 1012 C = some (om_bi r12, C) from w12]
  simp only [Option.bind_some]
  by_cases c12 : r12 = true
  · rw [c12, if_neg (show ¬ om_bi true = 0 by decide)]
    exact ⟨17, rfl, .inl ⟨12, by omega, rfl, i12.mp c12⟩⟩
  rw [if_pos (show om_bi r12 = 0 by rw [Bool.eq_false_iff.mpr c12]; rfl)]
  refine ⟨4, rfl, .inr ⟨rfl, fun k hk hw => ?_⟩⟩
  match k, hk with
  | 0, _ => exact c0 (i0.mpr hw)
  | 1, _ => exact c1 (i1.mpr hw)
  | 2, _ => exact c2 (i2.mpr hw)
  | 3, _ => exact c3 (i3.mpr hw)
  | 4, _ => exact c4 (i4.mpr hw)
  | 5, _ => exact c5 (i5.mpr hw)
  | 6, _ => exact c6 (i6.mpr hw)
  | 7, _ => exact c7 (i7.mpr hw)
  | 8, _ => exact c8 (i8.mpr hw)
  | 9, _ => exact c9 (i9.mpr hw)
  | 10, _ => exact c10 (i10.mpr hw)
  | 11, _ => exact c11 (i11.mpr hw)
  | 12, _ => exact c12 (i12.mpr hw)
  | k + 13, h => exact absurd h (by omega)
theorem og_R_skip (hL : L ≤ 120) (hbt : ∀ i, bt i < 256) {C : om_M} (hT : og_TC L bt C) {c : Nat} (hc : c ≤ L) (h2 : C.1 28 2 = nI c) : ∃ C' f, om_R_readToken_L0 om_F C = some C' ∧ og_fT C C' ∧ C'.1 28 2 = nI f ∧ c ≤ f ∧ f ≤ L ∧ (∀ i, c ≤ i → i < f → bt i = 32) ∧ (f < L → bt f ≠ 32) := by
  obtain ⟨C', hz, f, q1, q2, q3, q4, q5, q6⟩ := om_lp (f := om_R_readToken_L0_body om_F) (fun j C' => og_fT C C' ∧ C'.1 28 2 = nI (c + j) ∧ ∀ i, c ≤ i → i < c + j → bt i = 32) (fun C' => ∃ f, og_fT C C' ∧ C'.1 28 2 = nI f ∧ c ≤ f ∧ f ≤ L ∧ (∀ i, c ≤ i → i < f → bt i = 32) ∧ (f < L → bt f ≠ 32)) (L - c) (F := om_F) (Nat.lt_of_le_of_lt (show L - c ≤ 120 by omega) (by decide)) (s := C) ⟨og_fT_rfl, h2, fun i h1 h2 => absurd h1 (by omega)⟩ (by
    rintro j C' hj ⟨g1, g2, g3⟩
    have hT' := og_TC_fT hT g1
    have hlt : ¬ nI L ≤ nI (c + j) := nI_ge (by omega) (by omega)
    have hin : om_in (nI (c + j)) 120 = true := om_in_nI (by omega) (by omega)
    have hcl : (nI (c + j)).toNatClampNeg = c + j := nI_clamp (by omega)
    have hb := hT'.2 (c + j) (by omega)
    have h32 : nI (bt (c + j)) = 32 ↔ bt (c + j) = 32 := nI_eq (b := 32) (by have := hbt (c + j); omega) (by omega)
    by_cases h : bt (c + j) = 32
    · refine .inl ⟨om_up C' 28 2 (nI (c + (j + 1))), ?_, og_fT_up g1 (by omega) _, by simp [om_up_at], fun i h1 h2 => ?_⟩
      · simp only [om_R_readToken_L0_body, om_R_readToken_b0, hT'.1, g2, hlt, if_false, hin, cond_true, hcl, hb, og_nI1, Nat.add_assoc]
        rw [if_pos (h32.mpr h)]
      · by_cases hi : i = c + j
        · subst hi; exact h
        · exact g3 i h1 (by omega)
    · exact .inr ⟨C', by simp only [om_R_readToken_L0_body, om_R_readToken_b0, hT'.1, g2, hlt, if_false, hin, cond_true, hcl, hb]; rw [if_neg (fun h1 => h (h32.mp h1))], c + j, g1, g2, by omega, by omega, g3, fun _ => h⟩) (by
    rintro C' ⟨g1, g2, g3⟩
    have hT' := og_TC_fT hT g1
    rw [show c + (L - c) = L by omega] at g2 g3
    exact ⟨C', by simp only [om_R_readToken_L0_body, om_R_readToken_b0, hT'.1, g2]; rw [if_pos Int32.le_rfl], L, g1, g2, hc, Nat.le_refl _, g3, fun h => absurd h (Nat.lt_irrefl _)⟩)
  exact ⟨C', f, hz, q1, q2, q3, q4, q5, q6⟩
theorem og_R_L87 (hL : L ≤ 120) (hbt : ∀ i, bt i < 256) {C : om_M} (hT : og_TC L bt C) {c : Nat} (hc : c ≤ L) (h2 : C.1 28 2 = nI c) : ∃ C' e, om_R_readToken_L87 om_F C = some C' ∧ og_fT C C' ∧ (∀ j, j ≠ 2 → C'.1 28 j = C.1 28 j) ∧ C'.1 28 2 = nI e ∧ c ≤ e ∧ e ≤ L ∧ (∀ i, c ≤ i → i < e → og_so (bt i) = 1) ∧ (e < L → og_so (bt e) ≠ 1) := by
  obtain ⟨C', hz, f, q1, q7, q2, q3, q4, q5, q6⟩ := om_lp (f := om_R_readToken_L87_body om_F) (fun j C' => og_fT C C' ∧ (∀ j, j ≠ 2 → C'.1 28 j = C.1 28 j) ∧ C'.1 28 2 = nI (c + j) ∧ ∀ i, c ≤ i → i < c + j → og_so (bt i) = 1) (fun C' => ∃ f, og_fT C C' ∧ (∀ j, j ≠ 2 → C'.1 28 j = C.1 28 j) ∧ C'.1 28 2 = nI f ∧ c ≤ f ∧ f ≤ L ∧ (∀ i, c ≤ i → i < f → og_so (bt i) = 1) ∧ (f < L → og_so (bt f) ≠ 1)) (L - c) (F := om_F) (Nat.lt_of_le_of_lt (show L - c ≤ 120 by omega) (by decide)) (s := C) ⟨og_fT_rfl, fun _ _ => rfl, h2, fun i h1 h2 => absurd h1 (by omega)⟩ (by
    rintro j C' hj ⟨g1, g4, g2, g3⟩
    have hT' := og_TC_fT hT g1
    have hlt : ¬ nI L ≤ nI (c + j) := nI_ge (by omega) (by omega)
    have hin : om_in (nI (c + j)) 120 = true := om_in_nI (by omega) (by omega)
    have hcl : (nI (c + j)).toNatClampNeg = c + j := nI_clamp (by omega)
    have hb := hT'.2 (c + j) (by omega)
    by_cases h : og_so (bt (c + j)) = 1
    · refine .inl ⟨om_up C' 28 2 (nI (c + (j + 1))), ?_, og_fT_up g1 (by omega) _, fun l hl => by rw [om_up_at, if_pos rfl, if_neg hl]; exact g4 l hl, by simp [om_up_at], fun i h1 h2 => ?_⟩
      · simp only [om_R_readToken_L87_body, om_R_readToken_b87, hT'.1, g2, hlt, if_false, hin, cond_true, hcl, hb, og_isLetter (hbt _), h, decide_true, Option.bind_some, og_nI1, Nat.add_assoc]
        rw [if_neg (show ¬ om_bi true = 0 by decide)]
      · by_cases hi : i = c + j
        · subst hi; exact h
        · exact g3 i h1 (by omega)
    · refine .inr ⟨C', ?_, c + j, g1, g4, g2, by omega, by omega, g3, fun _ => h⟩
      simp only [om_R_readToken_L87_body, om_R_readToken_b87, hT'.1, g2, hlt, if_false, hin, cond_true, hcl, hb, og_isLetter (hbt _), h, decide_false, Option.bind_some]
      rw [if_pos (show om_bi false = 0 from rfl)]) (by
    rintro C' ⟨g1, g4, g2, g3⟩
    have hT' := og_TC_fT hT g1
    rw [show c + (L - c) = L by omega] at g2 g3
    exact ⟨C', by simp only [om_R_readToken_L87_body, om_R_readToken_b87, hT'.1, g2]; rw [if_pos Int32.le_rfl], L, g1, g4, g2, hc, Nat.le_refl _, g3, fun h => absurd h (Nat.lt_irrefl _)⟩)
  exact ⟨C', f, hz, q1, q7, q2, q3, q4, q5, q6⟩
theorem og_R_L144 (hL : L ≤ 120) (hbt : ∀ i, bt i < 256) {C : om_M} (hT : og_TC L bt C) {c : Nat} (hc : c ≤ L) (h2 : C.1 28 2 = nI c) : ∃ C' e, om_R_readToken_L144 om_F C = some C' ∧ og_fT C C' ∧ (∀ j, j ≠ 2 → C'.1 28 j = C.1 28 j) ∧ C'.1 28 2 = nI e ∧ c ≤ e ∧ e ≤ L ∧ (∀ i, c ≤ i → i < e → og_so (bt i) = 2) ∧ (e < L → og_so (bt e) ≠ 2) := by
  obtain ⟨C', hz, f, q1, q7, q2, q3, q4, q5, q6⟩ := om_lp (f := om_R_readToken_L144_body om_F) (fun j C' => og_fT C C' ∧ (∀ j, j ≠ 2 → C'.1 28 j = C.1 28 j) ∧ C'.1 28 2 = nI (c + j) ∧ ∀ i, c ≤ i → i < c + j → og_so (bt i) = 2) (fun C' => ∃ f, og_fT C C' ∧ (∀ j, j ≠ 2 → C'.1 28 j = C.1 28 j) ∧ C'.1 28 2 = nI f ∧ c ≤ f ∧ f ≤ L ∧ (∀ i, c ≤ i → i < f → og_so (bt i) = 2) ∧ (f < L → og_so (bt f) ≠ 2)) (L - c) (F := om_F) (Nat.lt_of_le_of_lt (show L - c ≤ 120 by omega) (by decide)) (s := C) ⟨og_fT_rfl, fun _ _ => rfl, h2, fun i h1 h2 => absurd h1 (by omega)⟩ (by
    rintro j C' hj ⟨g1, g4, g2, g3⟩
    have hT' := og_TC_fT hT g1
    have hlt : ¬ nI L ≤ nI (c + j) := nI_ge (by omega) (by omega)
    have hin : om_in (nI (c + j)) 120 = true := om_in_nI (by omega) (by omega)
    have hcl : (nI (c + j)).toNatClampNeg = c + j := nI_clamp (by omega)
    have hb := hT'.2 (c + j) (by omega)
    by_cases h : og_so (bt (c + j)) = 2
    · refine .inl ⟨om_up C' 28 2 (nI (c + (j + 1))), ?_, og_fT_up g1 (by omega) _, fun l hl => by rw [om_up_at, if_pos rfl, if_neg hl]; exact g4 l hl, by simp [om_up_at], fun i h1 h2 => ?_⟩
      · simp only [om_R_readToken_L144_body, om_R_readToken_b144, hT'.1, g2, hlt, if_false, hin, cond_true, hcl, hb, og_isDigit (hbt _), h, decide_true, Option.bind_some, og_nI1, Nat.add_assoc]
        rw [if_neg (show ¬ om_bi true = 0 by decide)]
      · by_cases hi : i = c + j
        · subst hi; exact h
        · exact g3 i h1 (by omega)
    · refine .inr ⟨C', ?_, c + j, g1, g4, g2, by omega, by omega, g3, fun _ => h⟩
      simp only [om_R_readToken_L144_body, om_R_readToken_b144, hT'.1, g2, hlt, if_false, hin, cond_true, hcl, hb, og_isDigit (hbt _), h, decide_false, Option.bind_some]
      rw [if_pos (show om_bi false = 0 from rfl)]) (by
    rintro C' ⟨g1, g4, g2, g3⟩
    have hT' := og_TC_fT hT g1
    rw [show c + (L - c) = L by omega] at g2 g3
    exact ⟨C', by simp only [om_R_readToken_L144_body, om_R_readToken_b144, hT'.1, g2]; rw [if_pos Int32.le_rfl], L, g1, g4, g2, hc, Nat.le_refl _, g3, fun h => absurd h (Nat.lt_irrefl _)⟩)
  exact ⟨C', f, hz, q1, q7, q2, q3, q4, q5, q6⟩
theorem og_nv_step {s v : Nat} (hv : 48 ≤ v) : nI s * 10 + nI v - 48 = nI (s * 10 + (v - 48)) := by
  rw [show (10 : Int32) = nI 10 by decide, pk_mul, nI_add, show (48 : Int32) = nI 48 by decide, pk_sub (by omega)]
  congr 1; omega
theorem og_numberValue (hL : L ≤ 120) (hbt : ∀ i, bt i < 256) {C : om_M} (hT : og_TC L bt C) {f e : Nat} (h2 : C.1 28 2 = nI e) (h3 : C.1 28 3 = nI f) (hfe : f ≤ e) (he : e ≤ L) (hd : ∀ i, f ≤ i → i < e → og_so (bt i) = 2) : om_R_numberValue om_F C = some (if e - f ≤ 2 then nI (og_nv bt f (e - f)) else -1, C) := by
  have hsub : nI e - nI f = nI (e - f) := pk_sub hfe
  have hle : nI (e - f) ≤ 2 ↔ e - f ≤ 2 := by
    rw [Int32.le_iff_toInt_le, nI_toInt (by omega), show (2 : Int32).toInt = 2 by decide]; omega
  unfold om_R_numberValue om_R_numberValue_b0
  rw [h2, h3, hsub]
  by_cases h : e - f ≤ 2
  · rw [if_pos (hle.mpr h), if_pos h]
    obtain ⟨z, hz, rfl⟩ := om_lp (f := om_R_numberValue_L22_body om_F) (fun j st => st = (nI (og_nv bt f j), nI (f + j), C)) (fun z => z = (nI (og_nv bt f (e - f)), C)) (e - f) (F := om_F) (Nat.lt_of_le_of_lt h (by decide)) (s := (0, nI f, C)) rfl (by
      rintro j st hj rfl
      have hlt : ¬ nI e ≤ nI (f + j) := nI_ge (by omega) (by omega)
      have hin : om_in (nI (f + j)) 120 = true := om_in_nI (by omega) (by omega)
      have hcl : (nI (f + j)).toNatClampNeg = f + j := nI_clamp (by omega)
      have hb := hT.2 (f + j) (by omega)
      have h48 := og_so_2 (hd (f + j) (by omega) (by omega))
      exact .inl ⟨(nI (og_nv bt f (j + 1)), nI (f + (j + 1)), C), by simp only [om_R_numberValue_L22_body, om_R_numberValue_b22, h2, hlt, if_false, hin, cond_true, hcl, hb, og_nv_step h48.1, og_nv, og_nI1, Nat.add_assoc], rfl⟩) (by
      rintro st rfl
      exact ⟨_, by simp only [om_R_numberValue_L22_body, om_R_numberValue_b22, h2]; rw [if_pos (by rw [show f + (e - f) = e by omega]; exact Int32.le_rfl)], rfl⟩)
    unfold om_R_numberValue_L22
    rw [hz]; rfl
  · rw [if_neg (fun h1 => h (hle.mp h1)), if_neg h]
/-- the class's token -/
theorem og_readTok (hL : L ≤ 120) (hbt : ∀ i, bt i < 256) {C : om_M} (hT : og_TC L bt C) {c : Nat} (hc : c ≤ L) (h2 : C.1 28 2 = nI c) : ∃ C' f e t, om_R_readToken om_F C = some C' ∧ og_fT C C' ∧ og_tok bt L c f e ∧ C'.1 28 3 = nI f ∧ C'.1 28 2 = nI e ∧ C'.1 28 4 = nI t ∧ og_tkT bt L f e t ∧ (t = 1 → C'.1 28 5 = if e - f ≤ 2 then nI (og_nv bt f (e - f)) else -1) := by
  obtain ⟨C1, f, a1, a2, a3, a4, a5, a6, a7⟩ := og_R_skip hL hbt hT hc h2
  have hT1 := og_TC_fT hT a2
  unfold om_R_readToken om_R_readToken_e
  rw [a1]
  simp only [Option.bind_some]
  unfold om_R_readToken_b38
  rw [a3]
  have hX : og_fT C1 (om_up C1 28 3 (nI f)) := og_fT_up og_fT_rfl (by omega) _
  have x0 : (om_up C1 28 3 (nI f)).1 28 0 = nI L := by rw [(og_TC_fT hT1 hX).1]
  have x2 : (om_up C1 28 3 (nI f)).1 28 2 = nI f := by simp [om_up_at, a3]
  have x3 : (om_up C1 28 3 (nI f)).1 28 3 = nI f := by simp [om_up_at]
  generalize om_up C1 28 3 (nI f) = X at hX x0 x2 x3
  rw [x2, x0]
  have hlt : nI f < nI L ↔ f < L := nI_ltI (by omega) (by omega)
  have hin : f < L → om_in (nI f) 120 = true := fun h => om_in_nI (by omega) (by omega)
  have hcl : (nI f).toNatClampNeg = f := nI_clamp (by omega)
  have noword : ∀ {e t : Nat}, t = 0 ∨ (1 ≤ t ∧ t ≤ 4) → og_so (bt f) ≠ 1 ∨ e ≤ f → ∀ k, k < 13 → (t = 5 + k ↔ og_isw bt k f e) := by
    intro e t ht hs k hk
    refine ⟨fun h => by omega, fun h => ?_⟩
    obtain ⟨l1, -⟩ : 1 ≤ og_ltn k ∧ og_ltn k ≤ 6 := og_ltn_le ⟨k, hk⟩
    have h1 := h.2 0 l1
    have h2 : og_so (og_ltr k 0) = 1 := og_ltr_so ⟨k, hk⟩
    have h3 := h.1
    rw [Nat.add_zero] at h1
    rw [← h1] at h2
    rcases hs with hs | hs
    · exact absurd h2 hs
    · omega
  by_cases hfL : f < L
  · rw [if_pos (hlt.mpr hfL), hin hfL, cond_true, hcl, og_nI1]
    have hY : og_fT C1 (om_up X 28 2 (nI (f + 1))) := og_fT_up hX (by omega) _
    have y2 : (om_up X 28 2 (nI (f + 1))).1 28 2 = nI (f + 1) := by simp [om_up_at]
    have y3 : (om_up X 28 2 (nI (f + 1))).1 28 3 = nI f := by simp [om_up_at, x3]
    generalize om_up X 28 2 (nI (f + 1)) = Y at hY y2 y3
    have hTY := og_TC_fT hT1 hY
    have yb := hTY.2 f hfL
    rw [yb, og_isLetter (hbt f)]
    simp only [Option.bind_some]
    by_cases hlet : og_so (bt f) = 1
    · rw [decide_eq_true hlet, if_neg (show ¬ om_bi true = 0 by decide)]
      obtain ⟨Z, e, b1, b2, b3, b4, b5, b6, b7, b8⟩ := og_R_L87 hL hbt hTY (c := f + 1) (by omega) y2
      rw [b1]
      simp only [Option.bind_some]
      have hTZ := og_TC_fT hTY b2
      have z3 : Z.1 28 3 = nI f := by rw [b3 3 (by decide), y3]
      obtain ⟨t, c1, c2⟩ := og_wordToken hL hbt hTZ b4 z3 (by omega) b6
      unfold om_R_readToken_b126 om_R_readToken_b224
      rw [c1]
      simp only [Option.bind_some]
      refine ⟨om_up Z 28 4 (nI t), f, e, t, rfl, og_fT_tr a2 (og_fT_up (og_fT_tr hY b2) (by omega) _), ⟨a4, a5, a6, a7, fun h => by omega, fun _ => ⟨by omega, b6, fun i h1 h2 => ?_, fun h => .inr ?_⟩⟩, by simp [om_up_at, z3], by simp [om_up_at, b4], by simp [om_up_at], ?_, fun h => ?_⟩
      · rw [hlet]; exact ⟨by omega, b7 i (by omega) h2⟩
      · rw [hlet]; exact b8 h
      · have h40 : bt f ≠ 40 ∧ bt f ≠ 41 := by have := og_so_1.mp hlet; omega
        rcases c2 with ⟨k, k1, k2, k3⟩ | ⟨k1, k2⟩
        · refine ⟨by omega, by omega, ⟨fun h => by omega, fun h => by omega⟩, ⟨fun h => by omega, fun h => absurd h.2 h40.1⟩, ⟨fun h => by omega, fun h => absurd h.2 h40.2⟩, fun k' hk' => ⟨fun h => ?_, fun h => ?_⟩⟩
          · obtain rfl : k' = k := by omega
            exact k3
          · rw [k2, og_isw_one k1 hk' k3 h]
        · exact ⟨by omega, by omega, ⟨fun h => by omega, fun h => by omega⟩, ⟨fun h => by omega, fun h => absurd h.2 h40.1⟩, ⟨fun h => by omega, fun h => absurd h.2 h40.2⟩, fun k' hk' => ⟨fun h => by omega, fun h => absurd h (k2 k' hk')⟩⟩
      · rcases c2 with ⟨k, k1, k2, k3⟩ | ⟨k1, k2⟩ <;> omega
    · rw [decide_eq_false hlet, if_pos (show om_bi false = 0 from rfl), og_isDigit (hbt f)]
      simp only [Option.bind_some]
      by_cases hdig : og_so (bt f) = 2
      · rw [decide_eq_true hdig, if_neg (show ¬ om_bi true = 0 by decide)]
        obtain ⟨Z, e, b1, b2, b3, b4, b5, b6, b7, b8⟩ := og_R_L144 hL hbt hTY (c := f + 1) (by omega) y2
        rw [b1]
        simp only [Option.bind_some]
        have hW : og_fT Z (om_up Z 28 4 1) := og_fT_up og_fT_rfl (by omega) _
        have w3 : (om_up Z 28 4 1).1 28 3 = nI f := by simp [om_up_at, b3 3 (by decide), y3]
        have w2 : (om_up Z 28 4 1).1 28 2 = nI e := by simp [om_up_at, b4]
        have w4 : (om_up Z 28 4 1).1 28 4 = nI 1 := by simp [om_up_at]; decide
        have hall : ∀ i, f ≤ i → i < e → og_so (bt i) = 2 := fun i h1 h2 => by
          by_cases hif : i = f
          · subst hif; exact hdig
          · exact b7 i (by omega) h2
        have c1 := og_numberValue hL hbt (og_TC_fT (og_TC_fT hTY b2) hW) w2 w3 (by omega) b6 hall
        unfold om_R_readToken_b183 om_R_readToken_b224
        rw [c1]
        simp only [Option.bind_some]
        have hne : bt f ≠ 40 ∧ bt f ≠ 41 := by have := og_so_2 hdig; omega
        refine ⟨_, f, e, 1, rfl, og_fT_tr a2 (og_fT_tr hY (og_fT_tr b2 (og_fT_up hW (by omega) _))), ⟨a4, a5, a6, a7, fun h => by omega, fun _ => ⟨by omega, b6, fun i h1 h2 => ?_, fun h => .inr ?_⟩⟩, by rw [om_up_at, if_pos rfl, if_neg (by decide)]; exact w3, by rw [om_up_at, if_pos rfl, if_neg (by decide)]; exact w2, by rw [om_up_at, if_pos rfl, if_neg (by decide)]; exact w4, ⟨by omega, by omega, ⟨fun _ => ⟨hfL, hdig⟩, fun _ => rfl⟩, ⟨fun h => by omega, fun h => absurd h.2 hne.1⟩, ⟨fun h => by omega, fun h => absurd h.2 hne.2⟩, noword (.inr ⟨by omega, by omega⟩) (.inl hlet)⟩, fun _ => by rw [om_up_at, if_pos rfl, if_pos rfl]⟩
        · rw [hdig]; exact ⟨by omega, b7 i (by omega) h2⟩
        · rw [hdig]; exact b8 h
      · rw [decide_eq_false hdig, if_pos (show om_bi false = 0 from rfl)]
        have hso : og_so (bt f) = 0 := by have := og_so_le (bt f); omega
        have h40 : nI (bt f) = 40 ↔ bt f = 40 := nI_eq (b := 40) (by have := hbt f; omega) (by omega)
        have h41 : nI (bt f) = 41 ↔ bt f = 41 := nI_eq (b := 41) (by have := hbt f; omega) (by omega)
        have fin : ∀ t0 : Nat, t0 < 5 → 2 ≤ t0 → (t0 = 2 ↔ bt f = 40) → (t0 = 3 ↔ bt f = 41) → ∃ C' f' e t, om_R_readToken_b221 om_F (nI t0) Y = some C' ∧ og_fT C C' ∧ og_tok bt L c f' e ∧ C'.1 28 3 = nI f' ∧ C'.1 28 2 = nI e ∧ C'.1 28 4 = nI t ∧ og_tkT bt L f' e t ∧ (t = 1 → C'.1 28 5 = if e - f' ≤ 2 then nI (og_nv bt f' (e - f')) else -1) := by
          intro t ht5 ht2 hp hc
          refine ⟨om_up Y 28 4 (nI t), f, f + 1, t, rfl, og_fT_tr a2 (og_fT_up hY (by omega) _), ⟨a4, a5, a6, a7, fun h => by omega, fun _ => ⟨by omega, by omega, fun i h1 h2 => by omega, fun _ => .inl hso⟩⟩, by simp [om_up_at, y3], by simp [om_up_at, y2], by simp [om_up_at], ⟨by omega, by omega, ⟨fun h => by omega, fun h => absurd h.2 hdig⟩, ⟨fun h => ⟨hfL, hp.mp h⟩, fun h => hp.mpr h.2⟩, ⟨fun h => ⟨hfL, hc.mp h⟩, fun h => hc.mpr h.2⟩, noword (.inr ⟨by omega, by omega⟩) (.inl hlet)⟩, fun h => by omega⟩
        by_cases h1 : bt f = 40
        · rw [if_pos (h40.mpr h1)]
          exact fin 2 (by omega) (by omega) ⟨fun _ => h1, fun _ => rfl⟩ ⟨fun h => by omega, fun h => by omega⟩
        · rw [if_neg (fun h => h1 (h40.mp h))]
          by_cases h3 : bt f = 41
          · rw [if_pos (h41.mpr h3)]
            exact fin 3 (by omega) (by omega) ⟨fun h => by omega, fun h => by omega⟩ ⟨fun _ => h3, fun _ => rfl⟩
          · rw [if_neg (fun h => h3 (h41.mp h))]
            exact fin 4 (by omega) (by omega) ⟨fun h => by omega, fun h => absurd h h1⟩ ⟨fun h => by omega, fun h => absurd h h3⟩
  · rw [if_neg (fun h => hfL (hlt.mp h))]
    have hfe : f = L := by omega
    refine ⟨om_up X 28 4 0, f, L, 0, rfl, og_fT_tr a2 (og_fT_up hX (by omega) _), ⟨a4, a5, a6, a7, fun _ => rfl, fun h => absurd h hfL⟩, by simp [om_up_at, x3], by simp [om_up_at, x2, hfe], by simp [om_up_at]; rfl, ⟨by omega, ⟨fun _ => hfe, fun _ => rfl⟩, ⟨fun h => by omega, fun h => absurd h.1 hfL⟩, ⟨fun h => by omega, fun h => absurd h.1 hfL⟩, ⟨fun h => by omega, fun h => absurd h.1 hfL⟩, noword (.inl rfl) (.inr (by omega))⟩, fun h => by omega⟩
end TK
