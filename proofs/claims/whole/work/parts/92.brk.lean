/-! ===== the first row: the component's search ===== -/
def og_lso (s0 : Nat) (num : Nat → Nat) (ρ : Nat → Nat) (j : Nat) : Nat → Nat
  | 0 => s0
  | c + 1 => min (og_lso s0 num ρ j c) (num (ρ (j + c)))
theorem og_lso_le {s0 : Nat} {num ρ : Nat → Nat} {j : Nat} : ∀ c, og_lso s0 num ρ j c ≤ s0 ∧ ∀ i, i < c → og_lso s0 num ρ j c ≤ num (ρ (j + i))
  | 0 => ⟨Nat.le_refl _, fun i hi => absurd hi (Nat.not_lt_zero _)⟩
  | c + 1 => by
    obtain ⟨h1, h2⟩ := og_lso_le (s0 := s0) (num := num) (ρ := ρ) (j := j) c
    refine ⟨?_, fun i hi => ?_⟩
    · show min _ _ ≤ _; omega
    · show min _ _ ≤ _
      by_cases h : i = c
      · subst h; omega
      · have := h2 i (by omega); omega
theorem og_lso_at {s0 : Nat} {num ρ : Nat → Nat} {j : Nat} (h7 : ∀ i, num i ≤ s0) : ∀ c, 0 < c → ∃ i, i < c ∧ og_lso s0 num ρ j c = num (ρ (j + i))
  | 0, h => absurd h (Nat.lt_irrefl _)
  | c + 1, _ => by
    show ∃ i, i < c + 1 ∧ min (og_lso s0 num ρ j c) (num (ρ (j + c))) = _
    by_cases hc : c = 0
    · subst hc
      refine ⟨0, Nat.lt_succ_self _, ?_⟩
      have := h7 (ρ (j + 0))
      show min s0 _ = _
      omega
    · obtain ⟨i, h1, h2⟩ := og_lso_at h7 c (by omega)
      by_cases h : og_lso s0 num ρ j c ≤ num (ρ (j + c))
      · exact ⟨i, by omega, by rw [Nat.min_eq_left h, h2]⟩
      · exact ⟨c, by omega, by rw [Nat.min_eq_right (by omega)]⟩
theorem og_lso_lw {s0 : Nat} {num ρ : Nat → Nat} {w j k : Nat} (h7 : ∀ i, num i ≤ s0) (hj : j < k) : og_lso s0 num ρ j (k - j) % 2 = w ↔ og_lw num w j k ρ := by
  obtain ⟨h1, h2⟩ := og_lso_le (s0 := s0) (num := num) (ρ := ρ) (j := j) (k - j)
  obtain ⟨i, h3, h4⟩ := og_lso_at (s0 := s0) (num := num) (ρ := ρ) (j := j) h7 (k - j) (by omega)
  constructor
  · intro h
    refine ⟨_, h, ⟨j + i, by omega, by omega, h4.symm⟩, fun l h5 h6 => ?_⟩
    have := h2 (l - j) (by omega)
    rw [show j + (l - j) = l by omega] at this; exact this
  · rintro ⟨v, hv, ⟨i0, g1, g2, g3⟩, g4⟩
    have a1 := h2 (i0 - j) (by omega)
    rw [show j + (i0 - j) = i0 by omega, g3] at a1
    have a2 := g4 (j + i) (by omega) (by omega)
    rw [← h4] at a2
    have : og_lso s0 num ρ j (k - j) = v := by omega
    rw [this]; exact hv
def og_le (k : Nat) (ρ σ : Nat → Nat) : Prop := (∀ i, i ≤ k → ρ i = σ i) ∨ ∃ i, i ≤ k ∧ (∀ j, j < i → ρ j = σ j) ∧ ρ i < σ i
theorem og_le_anti {k : Nat} {ρ σ : Nat → Nat} (h : og_le k ρ σ) (h' : og_le k σ ρ) : ∀ i, i ≤ k → ρ i = σ i := by
  rcases h with h | ⟨i, h1, h2, h3⟩
  · exact h
  · rcases h' with h' | ⟨j, g1, g2, g3⟩
    · have := h' i h1; omega
    · have : i = j := by
        by_cases h4 : i < j
        · have := g2 i h4; omega
        · by_cases h5 : j < i
          · have := h2 j h5; omega
          · omega
      subst this; omega
def og_f13 (C C' : om_M) : Prop := (∀ a j, a ≠ 13 → C'.1 a j = C.1 a j) ∧ C'.2 = C.2
theorem og_f13_tr {C C' C'' : om_M} (h : og_f13 C C') (h' : og_f13 C' C'') : og_f13 C C'' := ⟨fun a j ha => by rw [h'.1 a j ha, h.1 a j ha], by rw [h'.2, h.2]⟩
theorem og_f13_up {C C' : om_M} (h : og_f13 C C') (j : Nat) (v : Int32) : og_f13 C (om_up C' 13 j v) := ⟨fun a i ha => by rw [om_up_at, if_neg ha]; exact h.1 a i ha, h.2⟩
/-- a row without a place twice -/
def og_prx (N : Nat → Int32) (p t : Nat) (ρ : Nat → Nat) : Prop := ρ 0 = p ∧ (∀ i, i + 1 < t → og_S (N (ρ i)) (ρ (i + 1))) ∧ og_dst t ρ
theorem og_prx_lt {N : Nat → Int32} {n p : Nat} (hN : ∀ p, p < n → og_wn n (N p)) (hp : p < n) {t : Nat} {ρ : Nat → Nat} (h : og_prx N p t ρ) : ∀ i, i < t → ρ i < n := fun i hi => og_row_lt hN hp h.1 (k := t - 1) (fun j hj => h.2.1 j (by omega)) i (by omega)
theorem og_prx_ext {N : Nat → Int32} {p t q : Nat} {ρ : Nat → Nat} (h : og_prx N p t ρ) (ht : 1 ≤ t) (hS : og_S (N (ρ (t - 1))) q) (hq : ∀ i, i < t → ρ i ≠ q) : og_prx N p (t + 1) (og_set ρ t q) := by
  have e : ∀ i, i ≠ t → og_set ρ t q i = ρ i := fun i hi => if_neg hi
  have e2 : og_set ρ t q t = q := if_pos rfl
  refine ⟨by rw [e 0 (by omega)]; exact h.1, fun i hi => ?_, fun i j h1 h2 => ?_⟩
  · by_cases hi2 : i + 1 = t
    · rw [hi2, e2, e i (by omega), show i = t - 1 by omega]; exact hS
    · rw [e i (by omega), e (i + 1) (by omega)]; exact h.2.1 i (by omega)
  · by_cases hj : j = t
    · rw [hj, e2, e i (by omega)]; exact hq i (by omega)
    · rw [e i (by omega), e j hj]; exact h.2.2 i j h1 (by omega)
/-- a row that closes -/
theorem og_gd_close {N : Nat → Int32} {num : Nat → Nat} {w p k q j : Nat} {ρ : Nat → Nat} (h : og_prx N p k ρ) (hk : 1 ≤ k) (hS : og_S (N (ρ (k - 1))) q) (hj : j < k) (hq : ρ j = q) (hl : og_lw num w j k ρ) : og_gd N num w p k (og_set ρ k q) := by
  have e : ∀ i, i ≠ k → og_set ρ k q i = ρ i := fun i hi => if_neg hi
  have e2 : og_set ρ k q k = q := if_pos rfl
  refine ⟨fun i l h1 h2 => by rw [e i (by omega), e l (by omega)]; exact h.2.2 i l h1 h2, j, by rw [e 0 (by omega)]; exact h.1, fun i hi => ?_, hj, by rw [e2, e j (by omega), hq], ?_⟩
  · by_cases hi2 : i + 1 = k
    · rw [hi2, e2, e i (by omega), show i = k - 1 by omega]; exact hS
    · rw [e i (by omega), e (i + 1) (by omega)]; exact h.2.1 i (by omega)
  · obtain ⟨v, h1, ⟨i, h2, h3, h4⟩, h5⟩ := hl
    exact ⟨v, h1, ⟨i, h2, h3, by rw [e i (by omega)]; exact h4⟩, fun l h6 h7 => by rw [e l (by omega)]; exact h5 l h6 h7⟩
section DF
variable {n : Nat} {C0 : om_M} {num : Nat → Nat}
theorem og_indexOf {C : om_M} {t p : Nat} {ρ : Nat → Nat} (ht : t ≤ 9) (hρ : ∀ i, i < t → C.1 13 i = nI (ρ i) ∧ ρ i < 8) (hp : p < 8) : ∃ r, om_O_indexOf om_F (nI p) (nI t) C = some (r, C) ∧ ((∃ i, i < t ∧ ρ i = p ∧ r = nI i) ∨ ((∀ i, i < t → ρ i ≠ p) ∧ r = -1)) := by
  obtain ⟨z, hz, q⟩ := om_lp (f := om_O_indexOf_L2_body om_F) (fun i st => st = (nI p, nI t, nI i, C) ∧ ∀ l, l < i → ρ l ≠ p) (fun z => (∃ i, i < t ∧ ρ i = p ∧ z = .inl (nI i, C)) ∨ ((∀ i, i < t → ρ i ≠ p) ∧ z = .inr C)) t (F := om_F) (Nat.lt_of_le_of_lt ht (by decide)) (s := (nI p, nI t, 0, C)) ⟨rfl, fun l hl => absurd hl (Nat.not_lt_zero _)⟩ (by
    rintro i st hi ⟨rfl, g⟩
    have hlt : ¬ nI t ≤ nI i := nI_ge hi (by omega)
    have hin : om_in (nI i) 9 = true := om_in_nI (by omega) (by omega)
    have hcl : (nI i).toNatClampNeg = i := nI_clamp (by omega)
    obtain ⟨h1, h2⟩ := hρ i hi
    have hc : nI (ρ i) = nI p ↔ ρ i = p := nI_eq (by omega) (by omega)
    by_cases h : ρ i = p
    · exact .inr ⟨.inl (nI i, C), by simp only [om_O_indexOf_L2_body, om_O_indexOf_b2, hlt, hin, hcl, h1, hc, h, if_false, if_true, cond_true], .inl ⟨i, hi, h, rfl⟩⟩
    · refine .inl ⟨(nI p, nI t, nI (i + 1), C), by simp only [om_O_indexOf_L2_body, om_O_indexOf_b2, hlt, hin, hcl, h1, hc, h, if_false, cond_true, og_nI1], rfl, fun l hl => ?_⟩
      by_cases hli : l = i
      · subst hli; exact h
      · exact g l (by omega)) (by
    rintro st ⟨rfl, g⟩
    exact ⟨.inr C, by simp only [om_O_indexOf_L2_body, om_O_indexOf_b2]; rw [if_pos Int32.le_rfl], .inr ⟨g, rfl⟩⟩)
  unfold om_O_indexOf om_O_indexOf_b0 om_O_indexOf_L2
  rw [hz]
  rcases q with ⟨i, h1, h2, rfl⟩ | ⟨h1, rfl⟩
  · exact ⟨nI i, rfl, .inl ⟨i, h1, h2, rfl⟩⟩
  · exact ⟨-1, rfl, .inr ⟨h1, rfl⟩⟩
theorem og_leastOf {C : om_M} {j t : Nat} {ρ : Nat → Nat} (ht : t ≤ 9) (hj : j ≤ t) (hρ : ∀ i, i < t → C.1 13 i = nI (ρ i) ∧ ρ i < 8) (hnum : ∀ i, i < t → C.1 2 (ρ i) = nI (num (ρ i))) (h7 : ∀ i, num i ≤ 7) : om_O_leastOf om_F (nI j) (nI t) C = some (nI (og_lso 7 num ρ j (t - j)), C) := by
  obtain ⟨z, hz, rfl⟩ := om_lp (f := om_O_leastOf_L7_body om_F) (fun c st => st = (nI t, nI (og_lso 7 num ρ j c), nI (j + c), C)) (fun z => z = (nI (og_lso 7 num ρ j (t - j)), C)) (t - j) (F := om_F) (Nat.lt_of_le_of_lt (show t - j ≤ 9 by omega) (by decide)) (s := (nI t, 7, nI j, C)) rfl (by
    rintro c st hc rfl
    have hlt : ¬ nI t ≤ nI (j + c) := nI_ge (by omega) (by omega)
    have hin : om_in (nI (j + c)) 9 = true := om_in_nI (by omega) (by omega)
    have hcl : (nI (j + c)).toNatClampNeg = j + c := nI_clamp (by omega)
    obtain ⟨h1, h2⟩ := hρ (j + c) (by omega)
    have h3 := hnum (j + c) (by omega)
    have hin2 : om_in (nI (ρ (j + c))) 8 = true := om_in_nI (by omega) (by omega)
    have hcl2 : (nI (ρ (j + c))).toNatClampNeg = ρ (j + c) := nI_clamp (by omega)
    have hle := (og_lso_le (s0 := 7) (num := num) (ρ := ρ) (j := j) c).1
    have h77 := h7 (ρ (j + c))
    have hmin : (if nI (num (ρ (j + c))) < nI (og_lso 7 num ρ j c) then nI (num (ρ (j + c))) else nI (og_lso 7 num ρ j c)) = nI (og_lso 7 num ρ j (c + 1)) := by
      show _ = nI (min (og_lso 7 num ρ j c) (num (ρ (j + c))))
      by_cases h : num (ρ (j + c)) < og_lso 7 num ρ j c
      · rw [if_pos ((nI_ltI (by omega) (by omega)).mpr h), Nat.min_eq_right (by omega)]
      · rw [if_neg (fun h1 => h ((nI_ltI (by omega) (by omega)).mp h1)), Nat.min_eq_left (by omega)]
    exact .inl ⟨(nI t, nI (og_lso 7 num ρ j (c + 1)), nI (j + (c + 1)), C), by simp only [om_O_leastOf_L7_body, om_O_leastOf_b7, hlt, hin, hcl, h1, hin2, hcl2, h3, if_false, cond_true, hmin, og_nI1, Nat.add_assoc], rfl⟩) (by
    rintro st rfl
    exact ⟨_, by simp only [om_O_leastOf_L7_body, om_O_leastOf_b7]; rw [if_pos (by rw [show j + (t - j) = t by omega]; exact Int32.le_rfl)], rfl⟩)
  unfold om_O_leastOf om_O_leastOf_b0 om_O_leastOf_L7
  rw [hz]; rfl
theorem og_par {v w : Nat} (hv : v ≤ 7) (hw : w < 2) : nI v &&& 1 = nI w ↔ v % 2 = w := by
  have : ∀ (v : Fin 8) (w : Fin 2), nI v.val &&& 1 = nI w.val ↔ v.val % 2 = w.val := by decide +kernel
  exact this ⟨v, by omega⟩ ⟨w, hw⟩
theorem og_ext (h8 : n ≤ 8) (e70 : C0.1 7 0 = nI n) (hN : ∀ p, p < n → og_wn n (C0.1 11 p)) (hnum : ∀ p, p < n → C0.1 2 p = nI (num p)) (h7 : ∀ i, num i ≤ 7) {w : Nat} (hw : w < 2) {p k : Nat} (hp : p < n) (hk : k ≤ 8) (e12 : C0.1 12 1 = nI k) : ∀ (fu t : Nat) (ρ : Nat → Nat) (C : om_M), k < t + fu → 1 ≤ t → t ≤ k → og_f13 C0 C → (∀ i, i < t → C.1 13 i = nI (ρ i)) → og_prx (C0.1 11) p t ρ → ∃ r C', om_O_isExtended om_F fu (nI w) (nI t) C = some (om_bi r, C') ∧ og_f13 C0 C' ∧ (∀ i, i < t → C'.1 13 i = nI (ρ i)) ∧ (r = false → ∀ σ, og_gd (C0.1 11) num w p k σ → (∀ i, i < t → σ i = ρ i) → False) ∧ (r = true → ∃ ρ', og_gd (C0.1 11) num w p k ρ' ∧ (∀ i, i < t → ρ' i = ρ i) ∧ (∀ i, i ≤ k → C'.1 13 i = nI (ρ' i)) ∧ ∀ σ, og_gd (C0.1 11) num w p k σ → (∀ i, i < t → σ i = ρ i) → og_le k ρ' σ)
  | 0, t, _, _, h1, _, h2, _, _, _ => absurd h1 (by omega)
  | fu + 1, t, ρ, C, hfu, ht1, htk, hf, hrow, hpre => by
    have hlt8 : ∀ i, i < t → ρ i < 8 := fun i hi => Nat.lt_of_lt_of_le (og_prx_lt hN hp hpre i hi) h8
    have hltn := og_prx_lt hN hp hpre
    -- what the loop over the next place does
    obtain ⟨z, hz, hq⟩ := om_lp (f := om_O_isExtended_L43_body om_F (om_O_isExtended om_F fu)) (fun i st => ∃ C', st = (nI w, nI t, C0.1 11 (ρ (t - 1)), nI i, C') ∧ og_f13 C0 C' ∧ (∀ l, l < t → C'.1 13 l = nI (ρ l)) ∧ ∀ σ, og_gd (C0.1 11) num w p k σ → (∀ l, l < t → σ l = ρ l) → i ≤ σ t) (fun z => ∃ C', og_f13 C0 C' ∧ (∀ l, l < t → C'.1 13 l = nI (ρ l)) ∧ ((z = .inr (.inr C') ∧ ∀ σ, og_gd (C0.1 11) num w p k σ → (∀ l, l < t → σ l = ρ l) → False) ∨ ((z = .inl C' ∨ z = .inr (.inl C')) ∧ ∃ ρ', og_gd (C0.1 11) num w p k ρ' ∧ (∀ i, i < t → ρ' i = ρ i) ∧ (∀ i, i ≤ k → C'.1 13 i = nI (ρ' i)) ∧ ∀ σ, og_gd (C0.1 11) num w p k σ → (∀ i, i < t → σ i = ρ i) → og_le k ρ' σ))) n (F := om_F) (Nat.lt_of_le_of_lt h8 (by decide)) (s := (nI w, nI t, C0.1 11 (ρ (t - 1)), 0, C)) ⟨C, rfl, hf, hrow, fun _ _ _ => Nat.zero_le _⟩ (by
      rintro i st hi ⟨C', rfl, g1, g2, g3⟩
      have e7 : C'.1 7 0 = nI n := by rw [g1.1 7 0 (by decide), e70]
      have hlt : ¬ nI n ≤ nI i := nI_ge hi (by omega)
      have hin : om_in (nI t) 9 = true := om_in_nI (by omega) (by omega)
      have hcl : (nI t).toNatClampNeg = t := nI_clamp (by omega)
      have nxt : ∀ C2, og_f13 C0 C2 → (∀ l, l < t → C2.1 13 l = nI (ρ l)) → (∀ σ, og_gd (C0.1 11) num w p k σ → (∀ l, l < t → σ l = ρ l) → σ t ≠ i) → ∃ C', ((nI w, nI t, C0.1 11 (ρ (t - 1)), nI (i + 1), C2) : Int32 × Int32 × Int32 × Int32 × om_M) = (nI w, nI t, C0.1 11 (ρ (t - 1)), nI (i + 1), C') ∧ og_f13 C0 C' ∧ (∀ l, l < t → C'.1 13 l = nI (ρ l)) ∧ ∀ σ, og_gd (C0.1 11) num w p k σ → (∀ l, l < t → σ l = ρ l) → i + 1 ≤ σ t := fun C2 h1 h2 h3 => ⟨C2, rfl, h1, h2, fun σ hσ ha => by
        have := g3 σ hσ ha
        have := h3 σ hσ ha
        omega⟩
      cases hb : om_b (C0.1 11 (ρ (t - 1))) i with
      | false =>
        refine .inl ⟨_, by simp only [om_O_isExtended_L43_body, om_O_isExtended_b43, om_O_isExtended_b138, e7, hlt, if_false, om_tst (show i < 32 by omega), hb, if_true, og_nI1], nxt C' g1 g2 fun σ hσ ha he => ?_⟩
        obtain ⟨-, j, s0, s1, -⟩ := hσ
        have h1 := s1 (t - 1) (by omega)
        rw [ha (t - 1) (by omega), show t - 1 + 1 = t by omega, he] at h1
        unfold og_S at h1; rw [hb] at h1; cases h1
      | true =>
        have hSi : og_S (C0.1 11 (ρ (t - 1))) i := hb
        obtain ⟨r, a1, a2⟩ := og_indexOf (C := C') (t := t) (p := i) (ρ := ρ) (by omega) (fun l hl => ⟨g2 l hl, hlt8 l hl⟩) (by omega)
        have hup : ∀ l, l < t → (om_up C' 13 t (nI i)).1 13 l = nI (ρ l) := fun l hl => by
          have : (om_up C' 13 t (nI i)).1 13 l = C'.1 13 l := by simp [om_up_at, show ¬ l = t by omega]
          rw [this, g2 l hl]
        have hupt : (om_up C' 13 t (nI i)).1 13 t = nI i := by simp [om_up_at]
        have g1u := og_f13_up g1 t (nI i)
        have e12' : (om_up C' 13 t (nI i)).1 12 1 = nI k := by rw [g1u.1 12 1 (by decide), e12]
        have hkt : nI t = nI k ↔ t = k := nI_eq (by omega) (by omega)
        have hset : ∀ l, l < t → og_set ρ t i l = ρ l := fun l hl => if_neg (by omega)
        have hsett : og_set ρ t i t = i := if_pos rfl
        by_cases htk2 : t = k
        · have e12t : (om_up C' 13 t (nI i)).1 12 1 = nI t := by rw [e12', htk2]
          rcases a2 with ⟨j, hj, hji, rfl⟩ | ⟨hno, rfl⟩
          · have hne : ¬ nI j = -1 := fun h => nI_pos (show j < 2 ^ 31 by omega) (by rw [h]; decide)
            have b1 := og_leastOf (C := om_up C' 13 t (nI i)) (num := num) (j := j) (t := t) (ρ := ρ) (by omega) (by omega) (fun l hl => ⟨hup l hl, hlt8 l hl⟩) (fun l hl => by rw [g1u.1 2 _ (by decide)]; exact hnum _ (hltn l hl)) h7
            have hl7 := (og_lso_le (s0 := 7) (num := num) (ρ := ρ) (j := j) (t - j)).1
            have hpar := (og_par hl7 hw).trans (og_lso_lw (w := w) h7 hj)
            by_cases hL : og_lw num w j t ρ
            · refine .inr ⟨.inl (om_up C' 13 t (nI i)), ?_, om_up C' 13 t (nI i), g1u, hup, .inr ⟨.inl rfl, og_set ρ t i, ?_, hset, fun l hl => ?_, fun σ hσ ha => ?_⟩⟩
              · simp only [om_O_isExtended_L43_body, om_O_isExtended_b43, e7, hlt, if_false, om_tst (show i < 32 by omega), hb, a1, Option.bind_some, hin, cond_true, hcl, e12t, eq_self, if_true, hne, b1, Bool.true_eq_false]
                rw [if_pos (hpar.mpr hL)]
              · rw [← htk2]; exact og_gd_close hpre ht1 hSi hj hji hL
              · by_cases hlt2 : l < t
                · rw [hup l hlt2, hset l hlt2]
                · have : l = t := by omega
                  subst this
                  rw [hupt, hsett]
              · have h1 := g3 σ hσ ha
                by_cases h2 : σ t = i
                · left
                  intro l hl
                  by_cases hlt2 : l < t
                  · rw [hset l hlt2, ha l hlt2]
                  · have : l = t := by omega
                    subst this
                    rw [hsett, h2]
                · exact .inr ⟨t, by omega, fun l hl => by rw [hset l hl, ha l hl], by rw [hsett]; omega⟩
            · refine .inl ⟨_, ?_, nxt _ g1u hup fun σ hσ ha he => hL ?_⟩
              · simp only [om_O_isExtended_L43_body, om_O_isExtended_b43, om_O_isExtended_b138, e7, hlt, if_false, om_tst (show i < 32 by omega), hb, a1, Option.bind_some, hin, cond_true, hcl, e12t, eq_self, if_true, hne, b1, Bool.true_eq_false]
                rw [if_neg (fun h => hL (hpar.mp h)), og_nI1]
              · obtain ⟨hd, j', s0, s1, s2, s3, v, s4, ⟨i0, s5, s6, s7⟩, s8⟩ := hσ
                have e1 : σ j' = ρ j := by rw [← s3, ← htk2, he, hji]
                rw [ha j' (by omega)] at e1
                have e2 : j' = j := by
                  refine Classical.byContradiction fun hne => ?_
                  by_cases h3 : j' < j
                  · exact hpre.2.2 j' j h3 hj e1
                  · exact hpre.2.2 j j' (by omega) (by omega) e1.symm
                subst e2
                rw [htk2]
                exact ⟨v, s4, ⟨i0, s5, s6, by rw [← ha i0 (by omega)]; exact s7⟩, fun l h4 h5 => by rw [← ha l (by omega)]; exact s8 l h4 h5⟩
          · refine .inl ⟨_, ?_, nxt _ g1u hup fun σ hσ ha he => ?_⟩
            · simp only [om_O_isExtended_L43_body, om_O_isExtended_b43, om_O_isExtended_b138, e7, hlt, if_false, om_tst (show i < 32 by omega), hb, a1, Option.bind_some, hin, cond_true, hcl, e12t, eq_self, if_true, og_nI1, Bool.true_eq_false]
            · obtain ⟨hd, j', s0, s1, s2, s3, -⟩ := hσ
              exact hno j' (by omega) (by rw [← ha j' (by omega), ← s3, ← htk2, he])
        · have hktn : ¬ nI t = nI k := fun h => htk2 (hkt.mp h)
          rcases a2 with ⟨j, hj, hji, rfl⟩ | ⟨hno, rfl⟩
          · have hne : ¬ nI j = -1 := fun h => nI_pos (show j < 2 ^ 31 by omega) (by rw [h]; decide)
            refine .inl ⟨_, ?_, nxt _ g1u hup fun σ hσ ha he => ?_⟩
            · simp only [om_O_isExtended_L43_body, om_O_isExtended_b43, om_O_isExtended_b138, e7, hlt, if_false, om_tst (show i < 32 by omega), hb, a1, Option.bind_some, hin, cond_true, hcl, e12', hktn, hne, og_nI1, Bool.true_eq_false]
            · exact hσ.1 j t hj (by omega) (by rw [ha j hj, hji, he])
          · have hpre2 := og_prx_ext hpre ht1 hSi hno
            obtain ⟨r2, C2, c1, c2, c3, c4, c5⟩ := og_ext h8 e70 hN hnum h7 hw hp hk e12 fu (t + 1) (og_set ρ t i) (om_up C' 13 t (nI i)) (by omega) (by omega) (by omega) g1u (fun l hl => by
              by_cases hlt2 : l < t
              · rw [hup l hlt2, hset l hlt2]
              · have : l = t := by omega
                subst this
                rw [hupt, hsett]) hpre2
            have c3' : ∀ l, l < t → C2.1 13 l = nI (ρ l) := fun l hl => by rw [c3 l (by omega), hset l hl]
            cases r2 with
            | false =>
              refine .inl ⟨_, ?_, nxt C2 c2 c3' fun σ hσ ha he => c4 rfl σ hσ fun l hl => ?_⟩
              · simp only [om_O_isExtended_L43_body, om_O_isExtended_b43, om_O_isExtended_b138, e7, hlt, if_false, om_tst (show i < 32 by omega), hb, a1, Option.bind_some, hin, cond_true, hcl, e12', hktn, if_true, og_nI1, c1, Bool.true_eq_false]
                rw [if_pos (show om_bi false = 0 from rfl)]
              · by_cases hlt2 : l < t
                · rw [hset l hlt2, ha l hlt2]
                · have : l = t := by omega
                  subst this
                  rw [hsett, he]
            | true =>
              obtain ⟨ρ', d1, d2, d3, d4⟩ := c5 rfl
              have d2' : ∀ l, l < t → ρ' l = ρ l := fun l hl => by rw [d2 l (by omega), hset l hl]
              have d2t : ρ' t = i := by rw [d2 t (by omega), hsett]
              refine .inr ⟨.inr (.inl C2), ?_, C2, c2, c3', .inr ⟨.inr rfl, ρ', d1, d2', d3, fun σ hσ ha => ?_⟩⟩
              · simp only [om_O_isExtended_L43_body, om_O_isExtended_b43, e7, hlt, if_false, om_tst (show i < 32 by omega), hb, a1, Option.bind_some, hin, cond_true, hcl, e12', hktn, if_true, og_nI1, c1, Bool.true_eq_false]
                rw [if_neg (show ¬ om_bi true = 0 by decide)]
              · have h1 := g3 σ hσ ha
                by_cases h2 : σ t = i
                · refine d4 σ hσ fun l hl => ?_
                  by_cases hlt2 : l < t
                  · rw [hset l hlt2, ha l hlt2]
                  · have : l = t := by omega
                    subst this
                    rw [hsett, h2]
                · exact .inr ⟨t, by omega, fun l hl => by rw [d2' l hl, ha l hl], by rw [d2t]; omega⟩) (by
      rintro st ⟨C', rfl, g1, g2, g3⟩
      have e7 : C'.1 7 0 = nI n := by rw [g1.1 7 0 (by decide), e70]
      refine ⟨.inr (.inr C'), by simp only [om_O_isExtended_L43_body, om_O_isExtended_b43, e7]; rw [if_pos Int32.le_rfl], C', g1, g2, .inl ⟨rfl, fun σ hσ ha => ?_⟩⟩
      have h1 := g3 σ hσ ha
      obtain ⟨-, j, s0, s1, -⟩ := hσ
      have := og_row_lt hN hp s0 s1 t htk
      omega)
    obtain ⟨C', q1, q2, q3⟩ := hq
    have hb0 : om_O_isExtended om_F (fu + 1) (nI w) (nI t) C = (om_O_isExtended_L43 om_F (om_O_isExtended om_F fu) (nI w, nI t, C0.1 11 (ρ (t - 1)), 0, C)).bind fun z1 => Sum.elim (fun z2 => (bif om_nr 1 1 then some ((1 : Int32), z2) else none)) (fun z3 => Sum.elim (fun z4 => (bif om_nr 1 1 then some (1, z4) else none)) (fun z5 => (bif om_nr 1 0 then some (0, z5) else none)) z3) z1 := by
      show om_O_isExtended_b0 om_F (om_O_isExtended om_F fu) (nI w) (nI t) C = _
      have h1 : ¬ nI t < 1 := by rw [Int32.lt_iff_toInt_lt, nI_toInt (by omega), show (1 : Int32).toInt = 1 by decide]; omega
      have e12c : C.1 12 1 = nI k := by rw [hf.1 12 1 (by decide), e12]
      have h2 : ¬ nI k < nI t := by rw [nI_ltI (by omega) (by omega)]; omega
      have h3 : nI t ≤ 8 := by rw [show (8 : Int32) = nI 8 by decide]; exact nI_le (by omega) (by omega)
      have h4 : nI t - 1 = nI (t - 1) := og_pred ht1
      have hin : om_in (nI (t - 1)) 9 = true := om_in_nI (by omega) (by omega)
      have hcl : (nI (t - 1)).toNatClampNeg = t - 1 := nI_clamp (by omega)
      have hr := hrow (t - 1) (by omega)
      have h5 := hlt8 (t - 1) (by omega)
      have hin2 : om_in (nI (ρ (t - 1))) 8 = true := om_in_nI (by omega) (by omega)
      have hcl2 : (nI (ρ (t - 1))).toNatClampNeg = ρ (t - 1) := nI_clamp (by omega)
      have h11 : C.1 11 (ρ (t - 1)) = C0.1 11 (ρ (t - 1)) := hf.1 11 _ (by decide)
      unfold om_O_isExtended_b0
      rw [if_neg h1, e12c, if_neg h2, if_pos h3, h4, hin, cond_true, hcl, hr, hin2, cond_true, hcl2, h11]
    rw [hb0]
    unfold om_O_isExtended_L43
    rw [hz]
    rcases q3 with ⟨rfl, q4⟩ | ⟨rfl | rfl, q4⟩
    · exact ⟨false, C', rfl, q1, q2, fun _ => q4, fun h => (by cases h)⟩
    · exact ⟨true, C', rfl, q1, q2, fun h => (by cases h), fun _ => q4⟩
    · exact ⟨true, C', rfl, q1, q2, fun h => (by cases h), fun _ => q4⟩
end DF
