/-! ===== held: the component's credits ===== -/
def og_bg (n : Nat) (mx : Bool) (R : Nat → Nat → Int32 → Prop) (g : Nat → Int32 → Int) (p : Nat) (x : Int) : Prop := (∃ q w, q < n ∧ R p q w ∧ x = g q w) ∧ ∀ q w, q < n → R p q w → (mx = true → g q w ≤ x) ∧ (mx = false → x ≤ g q w)
theorem og_bg_congr {n : Nat} {mx : Bool} {R R' : Nat → Nat → Int32 → Prop} {g : Nat → Int32 → Int} {p : Nat} {x : Int} (h : og_bg n mx R g p x) (hR : ∀ q w, q < n → (R p q w ↔ R' p q w)) : og_bg n mx R' g p x := by
  obtain ⟨⟨q, w, h1, h2, h3⟩, h4⟩ := h
  exact ⟨⟨q, w, h1, (hR q w h1).mp h2, h3⟩, fun q w hq hw => h4 q w hq ((hR q w hq).mpr hw)⟩
theorem og_bg_add {n : Nat} {mx : Bool} {R R' : Nat → Nat → Int32 → Prop} {g : Nat → Int32 → Int} {p b : Nat} {w : Int32} {x y : Int} (hb : b < n) (hR : ∀ q u, q < n → (R' p q u ↔ (R p q u ∨ (q = b ∧ u = w)))) (h : og_bg n mx R g p x ∨ ((∀ q u, q < n → ¬ R p q u) ∧ y = g b w)) (hy : og_bg n mx R g p x → ((y = x ∧ ((mx = true ∧ g b w ≤ x) ∨ (mx = false ∧ x ≤ g b w))) ∨ (y = g b w ∧ ((mx = true ∧ x ≤ y) ∨ (mx = false ∧ y ≤ x))))) : og_bg n mx R' g p y := by
  rcases h with h | ⟨h1, h2⟩
  · have hh := hy h
    obtain ⟨⟨q, u, h1, h2, h3⟩, h4⟩ := h
    rcases hh with ⟨rfl, hh⟩ | ⟨hy2, hh⟩
    · refine ⟨⟨q, u, h1, (hR q u h1).mpr (.inl h2), h3⟩, fun q' u' hq hu => ?_⟩
      rcases (hR q' u' hq).mp hu with hu | ⟨rfl, rfl⟩
      · exact h4 q' u' hq hu
      · rcases hh with ⟨rfl, hh⟩ | ⟨rfl, hh⟩
        · exact ⟨fun _ => hh, fun h => by cases h⟩
        · exact ⟨fun h => (by cases h), fun _ => hh⟩
    · refine ⟨⟨b, w, hb, (hR b w hb).mpr (.inr ⟨rfl, rfl⟩), hy2⟩, fun q' u' hq hu => ?_⟩
      rcases (hR q' u' hq).mp hu with hu | ⟨rfl, rfl⟩
      · have := h4 q' u' hq hu
        rcases hh with ⟨rfl, hh⟩ | ⟨rfl, hh⟩
        · exact ⟨fun _ => (by have := this.1 rfl; omega), fun h => (by cases h)⟩
        · exact ⟨fun h => (by cases h), fun _ => by have := this.2 rfl; omega⟩
      · rw [← hy2]; exact ⟨fun _ => Int.le_refl _, fun _ => Int.le_refl _⟩
  · refine ⟨⟨b, w, hb, (hR b w hb).mpr (.inr ⟨rfl, rfl⟩), h2⟩, fun q' u' hq hu => ?_⟩
    rcases (hR q' u' hq).mp hu with hu | ⟨rfl, rfl⟩
    · exact absurd hu (h1 q' u' hq)
    · rw [h2]; exact ⟨fun _ => Int.le_refl _, fun _ => Int.le_refl _⟩
def og_gh (T : Int) (F : Nat → Int) (σ c : Int) (q : Nat) (w : Int32) : Int := if T < F q then F q else max 0 (F q + σ * (c - w.toInt))
section IR
variable {n : Nat} {M : om_M} {R : Nat → Nat → Int32 → Prop}
theorem og_need {a w x : Int32} {T c : Nat} {σ f : Int} (hT : T ≤ 1000) (hc : c < 100) (hw1 : -5 ≤ w.toInt) (hw2 : w.toInt ≤ 5) (hσ : x.toInt = σ) (hs : σ = 1 ∨ σ = -1) (hf : a.toInt = f) (hf0 : 0 ≤ f) (hf1 : f ≤ T + 1) : (if a ≤ nI T then (if (0 : Int32) < a + (x * (nI c - w)) then a + (x * (nI c - w)) else 0) else a).toInt = if (T : Int) < f then f else max 0 (f + σ * (c - w.toInt)) := by
  have hTt : (nI T).toInt = T := nI_toInt (by omega)
  have hct : (nI c).toInt = c := nI_toInt (by omega)
  have h1 : (nI c - w).toInt = c - w.toInt := by rw [og_sub_toInt (by omega) (by omega) (by omega) (by omega), hct]
  have hb : -200 ≤ σ * (c - w.toInt) ∧ σ * (c - w.toInt) ≤ 200 := by rcases hs with rfl | rfl <;> omega
  have h2 : (x * (nI c - w)).toInt = σ * (c - w.toInt) := og_mul_toInt (B := 200) hσ h1 (by omega) (by omega) (by omega)
  have h3 : (a + (x * (nI c - w))).toInt = f + σ * (c - w.toInt) := by rw [og_add_toInt (by omega) (by omega) (by omega) (by omega), hf, h2]
  by_cases h : a ≤ nI T
  · rw [if_pos h]
    rw [Int32.le_iff_toInt_le] at h
    rw [if_neg (show ¬ (T : Int) < f by omega)]
    by_cases h0 : (0 : Int32) < a + (x * (nI c - w))
    · rw [if_pos h0, h3]
      rw [Int32.lt_iff_toInt_lt, h3, show (0 : Int32).toInt = 0 by decide] at h0
      omega
    · rw [if_neg h0]
      rw [Int32.lt_iff_toInt_lt, h3, show (0 : Int32).toInt = 0 by decide] at h0
      rw [show (0 : Int32).toInt = 0 by decide]; omega
  · rw [if_neg h]
    rw [Int32.le_iff_toInt_le] at h
    rw [if_pos (show (T : Int) < f by omega), hf]
theorem og_isRaisedL (h8 : n ≤ 8) (hL : og_Ld M n R) (hR : og_Rok n R) {T c : Nat} (hT : T ≤ 1000) (hc : c < 100) {x : Int32} {σ : Int} (hσ : x.toInt = σ) (hs : σ = 1 ∨ σ = -1) {x5 : Int32} {mi : Nat → Bool} (hmi : ∀ p, p < n → om_b x5 p = mi p) {F : Nat → Int} (hv : ∀ p, p < n → (M.1 17 p).toInt = F p ∧ 0 ≤ F p ∧ F p ≤ T + 1) : ∃ M', om_E_isRaised_L24 om_F (nI c, nI T, x5, x, 0, 0, M) = some (nI T, M') ∧ om_fr og_p8 M M' ∧ ∀ p, p < n → og_bg n (!mi p) R (og_gh T F σ c) p (M'.1 18 p).toInt := by
  obtain ⟨e70, s, hs2, ⟨m1, m2, m3, m4⟩⟩ := hL
  obtain ⟨z, hz, M', q0, q1, q2⟩ := om_lp (f := om_E_isRaised_L24_body om_F) (fun i st => ∃ sn M', st = (nI c, nI T, x5, x, sn, nI i, M') ∧ om_fr og_p8 M M' ∧ (∀ p, p < n → (om_b sn p = true ↔ ∃ j, j < i ∧ M.1 8 j = nI p)) ∧ ∀ p, p < n → om_b sn p = true → og_bg n (!mi p) (fun p q w => ∃ j, j < i ∧ M.1 8 j = nI p ∧ M.1 9 j = nI q ∧ M.1 10 j = w) (og_gh T F σ c) p (M'.1 18 p).toInt) (fun z => ∃ M' : om_M, z = (nI T, M') ∧ om_fr og_p8 M M' ∧ ∀ p, p < n → og_bg n (!mi p) R (og_gh T F σ c) p (M'.1 18 p).toInt) s (F := om_F) (Nat.lt_of_le_of_lt hs2 (by decide)) (s := (nI c, nI T, x5, x, 0, 0, M)) ⟨0, M, rfl, om_fr_rfl, fun p _ => by rw [om_b_0]; exact ⟨fun h => (by cases h), fun ⟨j, hj, _⟩ => absurd hj (by omega)⟩, fun p _ h => by rw [om_b_0] at h; cases h⟩ (by
    rintro i st hi ⟨sn, M', rfl, g1, g2, g3⟩
    have hin : om_in (nI i) 28 = true := om_in_nI (by omega) (by omega)
    have hcl : (nI i).toNatClampNeg = i := nI_clamp (by omega)
    have hlt : ¬ nI s ≤ nI i := nI_ge hi (by omega)
    obtain ⟨⟨a, ha, h8a⟩, ⟨b, hb, h9b⟩⟩ := m2 i hi
    have e72 : M'.1 7 2 = nI s := by rw [g1.1 7 2 rfl, m1]
    have e8 : M'.1 8 i = nI a := by rw [g1.1 8 i rfl, h8a]
    have e9 : M'.1 9 i = nI b := by rw [g1.1 9 i rfl, h9b]
    have e10 : M'.1 10 i = M.1 10 i := g1.1 10 i rfl
    have e17 : M'.1 17 b = M.1 17 b := g1.1 17 b rfl
    have hin2 : om_in (nI a) 8 = true := om_in_nI (by omega) (by omega)
    have hcl2 : (nI a).toNatClampNeg = a := nI_clamp (by omega)
    have hin3 : om_in (nI b) 8 = true := om_in_nI (by omega) (by omega)
    have hcl3 : (nI b).toNatClampNeg = b := nI_clamp (by omega)
    have hRab : R a b (M.1 10 i) := (m3 a b _ ha hb).mp ⟨i, hi, h8a, h9b, rfl⟩
    have hw := hR.2.2 a b _ ha hb hRab
    obtain ⟨v1, v2, v3⟩ := hv b hb
    have hbody : om_E_isRaised_L24_body om_F (nI c, nI T, x5, x, sn, nI i, M') = om_E_isRaised_b87 om_F (nI c) (nI T) x5 x sn (nI i) (nI a) (if M.1 17 b ≤ nI T then (if (0 : Int32) < M.1 17 b + (x * (nI c - M.1 10 i)) then M.1 17 b + (x * (nI c - M.1 10 i)) else 0) else M.1 17 b) M' := by
      by_cases hA : M.1 17 b ≤ nI T
      · simp only [om_E_isRaised_L24_body, om_E_isRaised_b24, e72, hlt, hin, hcl, if_false, cond_true, e8, e9, e10, hin3, hcl3, e17, hA, if_true]
      · simp only [om_E_isRaised_L24_body, om_E_isRaised_b24, e72, hlt, hin, hcl, if_false, cond_true, e8, e9, e10, hin3, hcl3, e17, hA]
    have hY := og_need (c := c) hT hc hw.1 hw.2 hσ hs v1 v2 v3
    rw [hbody]
    generalize (if M.1 17 b ≤ nI T then (if (0 : Int32) < M.1 17 b + (x * (nI c - M.1 10 i)) then M.1 17 b + (x * (nI c - M.1 10 i)) else 0) else M.1 17 b) = Y at hY
    have hY2 : Y.toInt = og_gh T F σ c b (M.1 10 i) := hY
    have hsn : ∀ p, p < n → (om_b (sn ||| (1 <<< (nI a &&& 31))) p = true ↔ ∃ j, j < i + 1 ∧ M.1 8 j = nI p) := by
      intro p hp
      rw [om_b_or, om_b_shl (show a < 32 by omega), Bool.or_eq_true, g2 p hp, decide_eq_true_eq]
      constructor
      · rintro (⟨j, h1, h2⟩ | rfl)
        · exact ⟨j, by omega, h2⟩
        · exact ⟨i, by omega, h8a⟩
      · rintro ⟨j, h1, h2⟩
        by_cases hji : j = i
        · subst hji; exact .inr ((nI_eq (by omega) (by omega)).mp (h2.symm.trans h8a))
        · exact .inl ⟨j, by omega, h2⟩
    have hRa : ∀ q u, q < n → ((∃ j, j < i + 1 ∧ M.1 8 j = nI a ∧ M.1 9 j = nI q ∧ M.1 10 j = u) ↔ ((∃ j, j < i ∧ M.1 8 j = nI a ∧ M.1 9 j = nI q ∧ M.1 10 j = u) ∨ (q = b ∧ u = M.1 10 i))) := by
      intro q u hq
      constructor
      · rintro ⟨j, h1, h2, h3, h4⟩
        by_cases hji : j = i
        · subst hji; exact .inr ⟨(nI_eq (by omega) (by omega)).mp (h3.symm.trans h9b), h4.symm⟩
        · exact .inl ⟨j, by omega, h2, h3, h4⟩
      · rintro (⟨j, h1, h2⟩ | ⟨rfl, rfl⟩)
        · exact ⟨j, by omega, h2⟩
        · exact ⟨i, by omega, h8a, h9b, rfl⟩
    have key : ∀ y : Int32, og_bg n (!mi a) (fun p q w => ∃ j, j < i + 1 ∧ M.1 8 j = nI p ∧ M.1 9 j = nI q ∧ M.1 10 j = w) (og_gh T F σ c) a y.toInt → (∃ s', some (Sum.inl (β := Int32 × om_M) (nI c, nI T, x5, x, sn ||| (1 <<< (nI a &&& 31)), nI (i + 1), om_up M' 18 a y)) = some (Sum.inl s') ∧ ∃ sn M', s' = (nI c, nI T, x5, x, sn, nI (i + 1), M') ∧ om_fr og_p8 M M' ∧ (∀ p, p < n → (om_b sn p = true ↔ ∃ j, j < i + 1 ∧ M.1 8 j = nI p)) ∧ ∀ p, p < n → om_b sn p = true → og_bg n (!mi p) (fun p q w => ∃ j, j < i + 1 ∧ M.1 8 j = nI p ∧ M.1 9 j = nI q ∧ M.1 10 j = w) (og_gh T F σ c) p (M'.1 18 p).toInt) := by
      intro y hy
      refine ⟨_, rfl, _, _, rfl, om_fr_up g1 rfl, hsn, fun p hp hsp => ?_⟩
      by_cases hpa : p = a
      · subst hpa
        have : (om_up M' 18 p y).1 18 p = y := by simp [om_up_at]
        rw [this]; exact hy
      · have : (om_up M' 18 a y).1 18 p = M'.1 18 p := by simp [om_up_at, hpa]
        rw [this]
        have hsp' : om_b sn p = true := by
          rw [om_b_or, om_b_shl (show a < 32 by omega)] at hsp
          simpa [hpa] using hsp
        refine og_bg_congr (g3 p hp hsp') (fun q w hq => ?_)
        constructor
        · rintro ⟨j, h1, h2⟩; exact ⟨j, by omega, h2⟩
        · rintro ⟨j, h1, h2, h3⟩
          by_cases hji : j = i
          · subst hji; exact absurd ((nI_eq (by omega) (by omega)).mp (h2.symm.trans h8a)) hpa
          · exact ⟨j, by omega, h2, h3⟩
    simp only [om_E_isRaised_b87, om_E_isRaised_b162, hin2, hcl2, cond_true, om_tst (show a < 32 by omega), og_nI1, hmi a ha]
    cases hsa : om_b sn a with
    | false =>
      rw [if_pos rfl]
      refine .inl (key _ ?_)
      refine og_bg_add (x := 0) (R := fun p q w => ∃ j, j < i ∧ M.1 8 j = nI p ∧ M.1 9 j = nI q ∧ M.1 10 j = w) hb hRa (.inr ⟨fun q u hq ⟨j, h1, h2, _⟩ => ?_, hY2⟩) (fun h => ?_)
      · have := (g2 a ha).mpr ⟨j, h1, h2⟩; rw [hsa] at this; cases this
      · obtain ⟨⟨q, u, -, ⟨j, h1, h2, _⟩, -⟩, -⟩ := h
        have := (g2 a ha).mpr ⟨j, h1, h2⟩; rw [hsa] at this; cases this
    | true =>
      rw [if_neg (by decide)]
      have hold := g3 a ha hsa
      cases hm : mi a with
      | false =>
        rw [if_pos rfl]
        refine .inl (key _ ?_)
        rw [hm] at hold ⊢
        refine og_bg_add hb hRa (.inl hold) (fun _ => ?_)
        by_cases hlt2 : M'.1 18 a < Y
        · rw [if_pos hlt2]
          rw [Int32.lt_iff_toInt_lt] at hlt2
          exact .inr ⟨hY2, .inl ⟨rfl, by omega⟩⟩
        · rw [if_neg hlt2]
          rw [Int32.lt_iff_toInt_lt] at hlt2
          exact .inl ⟨rfl, .inl ⟨rfl, by omega⟩⟩
      | true =>
        rw [if_neg (by decide)]
        refine .inl (key _ ?_)
        rw [hm] at hold ⊢
        refine og_bg_add hb hRa (.inl hold) (fun _ => ?_)
        by_cases hlt2 : Y < M'.1 18 a
        · rw [if_pos hlt2]
          rw [Int32.lt_iff_toInt_lt] at hlt2
          exact .inr ⟨hY2, .inr ⟨rfl, by omega⟩⟩
        · rw [if_neg hlt2]
          rw [Int32.lt_iff_toInt_lt] at hlt2
          exact .inl ⟨rfl, .inr ⟨rfl, by omega⟩⟩) (by
    rintro st ⟨sn, M', rfl, g1, g2, g3⟩
    have e72 : M'.1 7 2 = nI s := by rw [g1.1 7 2 rfl, m1]
    refine ⟨_, by simp only [om_E_isRaised_L24_body, om_E_isRaised_b24, e72]; rw [if_pos Int32.le_rfl], M', rfl, g1, fun p hp => ?_⟩
    obtain ⟨q, w, hq, hRp⟩ := hR.2.1 p hp
    obtain ⟨j, h1, h2, -⟩ := (m3 p q w hp hq).mpr hRp
    exact og_bg_congr (g3 p hp ((g2 p hp).mpr ⟨j, h1, h2⟩)) (fun q w hq => m3 p q w hp hq))
  subst q0
  exact ⟨M', hz, q1, q2⟩
/-- the second half: cut at the cap, and see whether one has grown -/
theorem og_isRaisedR (h8 : n ≤ 8) (e70 : M.1 7 0 = nI n) {T : Nat} (hT : T ≤ 1000) {F : Nat → Int} (hv : ∀ p, p < n → (M.1 17 p).toInt = F p) : ∃ M' r, om_E_isRaised_L183 om_F (nI T, 0, 0, M) = some (om_bi r, M') ∧ (∀ a j, a ≠ 17 → M'.1 a j = M.1 a j) ∧ M'.2 = M.2 ∧ (∀ p, p < n → (M'.1 17 p).toInt = min ((T : Int) + 1) (M.1 18 p).toInt) ∧ (r = true ↔ ∃ p, p < n ∧ F p < min ((T : Int) + 1) (M.1 18 p).toInt) := by
  obtain ⟨z, hz, M', r, q0, q1, q2, q3, q4⟩ := om_lp (f := om_E_isRaised_L183_body om_F) (fun i st => ∃ r M', st = (nI T, om_bi r, nI i, M') ∧ (∀ a j, a ≠ 17 → M'.1 a j = M.1 a j) ∧ M'.2 = M.2 ∧ (∀ p, p < i → (M'.1 17 p).toInt = min ((T : Int) + 1) (M.1 18 p).toInt) ∧ (∀ p, i ≤ p → M'.1 17 p = M.1 17 p) ∧ (r = true ↔ ∃ p, p < i ∧ F p < min ((T : Int) + 1) (M.1 18 p).toInt)) (fun z => ∃ (M' : om_M) (r : Bool), z = (om_bi r, M') ∧ (∀ a j, a ≠ 17 → M'.1 a j = M.1 a j) ∧ M'.2 = M.2 ∧ (∀ p, p < n → (M'.1 17 p).toInt = min ((T : Int) + 1) (M.1 18 p).toInt) ∧ (r = true ↔ ∃ p, p < n ∧ F p < min ((T : Int) + 1) (M.1 18 p).toInt)) n (F := om_F) (Nat.lt_of_le_of_lt h8 (by decide)) (s := (nI T, 0, 0, M)) ⟨false, M, rfl, fun _ _ _ => rfl, rfl, fun p hp => absurd hp (by omega), fun _ _ => rfl, fun h => (by cases h), fun ⟨p, hp, _⟩ => absurd hp (by omega)⟩ (by
    rintro i st hi ⟨r, M', rfl, g1, g2, g3, g4, g5⟩
    have hin : om_in (nI i) 8 = true := om_in_nI (by omega) (by omega)
    have hcl : (nI i).toNatClampNeg = i := nI_clamp (by omega)
    have hlt : ¬ nI n ≤ nI i := nI_ge hi (by omega)
    have e7 : M'.1 7 0 = nI n := by rw [g1 7 0 (by decide), e70]
    have e18 : M'.1 18 i = M.1 18 i := g1 18 i (by decide)
    have e17 : M'.1 17 i = M.1 17 i := g4 i (Nat.le_refl _)
    have hT1 : nI T + 1 = nI (T + 1) := og_nI1 T
    have hT2 : (nI (T + 1)).toInt = T + 1 := by rw [nI_toInt (by omega)]; omega
    have hmin : (if nI (T + 1) < M.1 18 i then nI (T + 1) else M.1 18 i).toInt = min ((T : Int) + 1) (M.1 18 i).toInt := by
      by_cases h : nI (T + 1) < M.1 18 i
      · rw [if_pos h, hT2]
        rw [Int32.lt_iff_toInt_lt, hT2] at h; omega
      · rw [if_neg h]
        rw [Int32.lt_iff_toInt_lt, hT2] at h; omega
    have hv' := hv i hi
    have hle : (if nI (T + 1) < M.1 18 i then nI (T + 1) else M.1 18 i) ≤ M.1 17 i ↔ ¬ F i < min ((T : Int) + 1) (M.1 18 i).toInt := by
      rw [Int32.le_iff_toInt_le, hmin, hv']; omega
    have st1 : om_E_isRaised_L183_body om_F (nI T, om_bi r, nI i, M') = some (.inl (nI T, om_bi (r || decide (F i < min ((T : Int) + 1) (M.1 18 i).toInt)), nI (i + 1), om_up M' 17 i (if nI (T + 1) < M.1 18 i then nI (T + 1) else M.1 18 i))) := by
      by_cases hA : (if nI (T + 1) < M.1 18 i then nI (T + 1) else M.1 18 i) ≤ M.1 17 i
      · have h0 := hle.mp hA
        simp only [om_E_isRaised_L183_body, om_E_isRaised_b183, om_E_isRaised_b223, e7, hlt, hin, hcl, e18, e17, hT1, hA, if_false, if_true, cond_true, og_nI1, h0, decide_false, Bool.or_false]
      · have h0 : F i < min ((T : Int) + 1) (M.1 18 i).toInt := Classical.byContradiction fun h => hA (hle.mpr h)
        simp only [om_E_isRaised_L183_body, om_E_isRaised_b183, om_E_isRaised_b223, e7, hlt, hin, hcl, e18, e17, hT1, hA, if_false, cond_true, og_nI1, h0, decide_true, Bool.or_true]
        rfl
    refine .inl ⟨_, st1, _, _, rfl, fun a j ha => ?_, g2, fun p hp => ?_, fun p hp => ?_, ?_⟩
    · rw [om_up_at, if_neg (show ¬ a = 17 from ha)]; exact g1 a j ha
    · by_cases hpi : p = i
      · subst hpi
        have : (om_up M' 17 p (if nI (T + 1) < M.1 18 p then nI (T + 1) else M.1 18 p)).1 17 p = (if nI (T + 1) < M.1 18 p then nI (T + 1) else M.1 18 p) := by simp [om_up_at]
        rw [this, hmin]
      · have : (om_up M' 17 i (if nI (T + 1) < M.1 18 i then nI (T + 1) else M.1 18 i)).1 17 p = M'.1 17 p := by simp [om_up_at, hpi]
        rw [this, g3 p (by omega)]
    · have : (om_up M' 17 i (if nI (T + 1) < M.1 18 i then nI (T + 1) else M.1 18 i)).1 17 p = M'.1 17 p := by simp [om_up_at, show ¬ p = i by omega]
      rw [this, g4 p (by omega)]
    · rw [Bool.or_eq_true, g5, decide_eq_true_eq]
      constructor
      · rintro (⟨p, h1, h2⟩ | h)
        · exact ⟨p, by omega, h2⟩
        · exact ⟨i, by omega, h⟩
      · rintro ⟨p, h1, h2⟩
        by_cases hpi : p = i
        · subst hpi; exact .inr h2
        · exact .inl ⟨p, by omega, h2⟩) (by
    rintro st ⟨r, M', rfl, g1, g2, g3, g4, g5⟩
    have e7 : M'.1 7 0 = nI n := by rw [g1 7 0 (by decide), e70]
    exact ⟨_, by simp only [om_E_isRaised_L183_body, om_E_isRaised_b183, e7]; rw [if_pos Int32.le_rfl], M', r, rfl, g1, g2, g3, g5⟩)
  subst q0
  exact ⟨M', r, hz, q1, q2, q3, q4⟩
theorem og_isRaised (h8 : n ≤ 8) (hL : og_Ld M n R) (hR : og_Rok n R) {T c pl : Nat} {σ : Int} (hpl : (pl = 0 ∧ σ = 1) ∨ (pl = 1 ∧ σ = -1)) (hT : T ≤ 1000) (hc : c < 100) {F : Nat → Int} (hv : ∀ p, p < n → (M.1 17 p).toInt = F p ∧ 0 ≤ F p ∧ F p ≤ T + 1) : ∃ M' r, om_E_isRaised om_F (nI pl) (nI c) (nI T) M = some (om_bi r, M') ∧ om_fr og_p17 M M' ∧ (∀ p, p < n → og_bx n (!(og_mi (M.1 7 1) pl p)) (og_GR n R p) (og_cp T (fun p q => σ * (og_wt R p q - c)) F p) (M'.1 17 p).toInt) ∧ (r = true ↔ ∃ p, p < n ∧ F p < (M'.1 17 p).toInt) := by
  have hpo : ∃ s0, om_V_placesOf om_F (nI pl) M = some (s0, M) ∧ ∀ p, p < n → om_b s0 p = og_mi (M.1 7 1) pl p := by
    unfold om_V_placesOf om_V_placesOf_b0 om_V_placesOf_b17
    rcases hpl with ⟨rfl, -⟩ | ⟨rfl, -⟩
    · rw [if_pos (show nI 0 = 0 from rfl)]
      exact ⟨_, rfl, fun p _ => rfl⟩
    · rw [if_neg (show ¬ nI 1 = 0 by decide)]
      refine ⟨_, rfl, fun p hp => ?_⟩
      rw [om_b_not]
      show _ = !om_b (M.1 7 1) p
      simp [show p < 32 by omega]
  obtain ⟨s0, hpo1, hpo2⟩ := hpo
  have main : ∀ (x : Int32) (σ : Int), x.toInt = σ → (σ = 1 ∨ σ = -1) → ∃ M' r, om_E_isRaised_b16 om_F (nI c) (nI T) s0 x M = some (om_bi r, M') ∧ om_fr og_p17 M M' ∧ (∀ p, p < n → og_bx n (!(og_mi (M.1 7 1) pl p)) (og_GR n R p) (og_cp T (fun p q => σ * (og_wt R p q - c)) F p) (M'.1 17 p).toInt) ∧ (r = true ↔ ∃ p, p < n ∧ F p < (M'.1 17 p).toInt) := by
    intro x σ hσ hs
    obtain ⟨M1, a1, a2, a3⟩ := og_isRaisedL h8 hL hR hT hc hσ hs hpo2 hv
    obtain ⟨M2, r, b1, b2, b3, b4, b5⟩ := og_isRaisedR (M := M1) h8 (by rw [a2.1 7 0 rfl]; exact hL.1) hT (F := F) (fun p hp => by rw [a2.1 17 p rfl]; exact (hv p hp).1)
    refine ⟨M2, r, ?_, ⟨fun a j ha => ?_, by rw [b3, a2.2]⟩, fun p hp => ?_, ?_⟩
    · unfold om_E_isRaised_b16
      rw [a1]
      simp only [Option.bind_some, b1, om_nr_bi, cond_true]
    · have h17 : a ≠ 17 ∧ a ≠ 18 := by
        constructor <;> (rintro rfl; cases ha)
      rw [b2 a j h17.1]
      exact a2.1 a j (by cases h : og_p8 a j with | false => rfl | true => exact absurd (Nat.eq_of_beq_eq_true h) h17.2)
    · rw [b4 p hp]
      obtain ⟨⟨q, w, h1, h2, h3⟩, h4⟩ := a3 p hp
      have conv : ∀ q w, q < n → R p q w → og_cp T (fun p q => σ * (og_wt R p q - c)) F p q = min ((T : Int) + 1) (og_gh T F σ c q w) := by
        intro q w hq hw
        unfold og_cp og_gh
        show min ((T : Int) + 1) (if (T : Int) < F q then F q else max 0 (F q - σ * (og_wt R p q - c))) = _
        rw [og_wt_eq hR hp hq hw]
        have e : -(σ * (w.toInt - c)) = σ * (c - w.toInt) := by rw [← Int.mul_neg]; congr 1; omega
        rw [Int.sub_eq_add_neg, e]
      refine ⟨⟨q, h1, ⟨hp, h1, w, h2⟩, ?_⟩, fun q' hq' hg => ?_⟩
      · rw [conv q w h1 h2, h3]
      · obtain ⟨-, -, w', hw'⟩ := hg
        rw [conv q' w' hq' hw']
        have := h4 q' w' hq' hw'
        exact ⟨fun h => (by have := this.1 h; omega), fun h => (by have := this.2 h; omega)⟩
    · rw [b5]
      constructor
      · rintro ⟨p, h1, h2⟩; exact ⟨p, h1, by rw [b4 p h1]; exact h2⟩
      · rintro ⟨p, h1, h2⟩; exact ⟨p, h1, by rw [b4 p h1] at h2; exact h2⟩
  unfold om_E_isRaised om_E_isRaised_b0
  rw [hpo1]
  simp only [Option.bind_some]
  rcases hpl with ⟨rfl, rfl⟩ | ⟨rfl, rfl⟩
  · rw [if_pos (show nI 0 = 0 from rfl)]
    exact main 1 1 (by decide) (.inl rfl)
  · rw [if_neg (show ¬ nI 1 = 0 by decide)]
    exact main (-1) (-1) (by decide) (.inr rfl)
end IR
