/-! ===== the component's walks ===== -/
def og_GR (n : Nat) (R : Nat → Nat → Int32 → Prop) (p q : Nat) : Prop := p < n ∧ q < n ∧ ∃ w, R p q w
noncomputable def og_wt (R : Nat → Nat → Int32 → Prop) (p q : Nat) : Int := Classical.epsilon (fun x => ∃ w, R p q w ∧ x = w.toInt)
theorem og_wt_eq {n : Nat} {R : Nat → Nat → Int32 → Prop} (hR : og_Rok n R) {p q : Nat} {w : Int32} (hp : p < n) (hq : q < n) (h : R p q w) : og_wt R p q = w.toInt := by
  obtain ⟨w', h1, h2⟩ := Classical.epsilon_spec (p := fun x => ∃ w, R p q w ∧ x = w.toInt) ⟨w.toInt, w, h, rfl⟩
  have := hR.1 p q w w' hp hq h h1
  rw [this]; exact h2
theorem og_V_Vs {n : Nat} {mi : Nat → Bool} {R : Nat → Nat → Int32 → Prop} (hR : og_Rok n R) : og_Vs n mi (og_GR n R) (og_wt R) (og_V n mi R) := by
  refine ⟨fun _ _ => rfl, fun k p hp => ?_⟩
  obtain ⟨⟨q, w, h1, h2, h3⟩, h4⟩ := og_V_bq (mi := mi) hR k hp
  refine ⟨⟨q, h1, ⟨hp, h1, w, h2⟩, ?_⟩, fun q' hq' hG => ?_⟩
  · show og_V n mi R (k + 1) p = og_wt R p q + og_V n mi R k q
    rw [og_wt_eq hR hp h1 h2]; exact h3
  · obtain ⟨-, -, w', hw'⟩ := hG
    have := h4 q' w' hq' hw'
    show (mi p = true → og_wt R p q' + og_V n mi R k q' ≤ og_V n mi R (k + 1) p) ∧ (mi p = false → og_V n mi R (k + 1) p ≤ og_wt R p q' + og_V n mi R k q')
    rw [og_wt_eq hR hp hq' hw']; exact this
/-- the least of a set of numbers, or none of it -/
def og_mn (P : Int → Prop) (v : Int32) : Prop := (v = 1000000 ∧ ∀ x, ¬ P x) ∨ (P v.toInt ∧ ∀ x, P x → v.toInt ≤ x)
def og_pe (a _j : Nat) : Bool := Nat.ble 14 a && Nat.ble a 27
theorem og_pe_iff {a j : Nat} : og_pe a j = false ↔ (a < 14 ∨ 27 < a) := by
  unfold og_pe
  constructor
  · intro h
    refine Classical.byContradiction fun hn => ?_
    have h1 : Nat.ble 14 a = true := Nat.ble_eq_true_of_le (by omega)
    have h2 : Nat.ble a 27 = true := Nat.ble_eq_true_of_le (by omega)
    rw [h1, h2] at h; cases h
  · intro h
    cases h1 : Nat.ble 14 a with
    | false => rfl
    | true =>
      cases h2 : Nat.ble a 27 with
      | false => rfl
      | true =>
        have := Nat.le_of_ble_eq_true h1
        have := Nat.le_of_ble_eq_true h2
        omega
theorem og_pe_sc {a j : Nat} (h : om_sc a j = false) : og_pe a j = false := by
  rw [og_pe_iff]
  refine Classical.byContradiction fun hn => ?_
  have : a = 14 ∨ a = 15 ∨ a = 16 ∨ a = 17 ∨ a = 18 ∨ a = 19 ∨ a = 20 ∨ a = 21 ∨ a = 22 ∨ a = 23 ∨ a = 24 ∨ a = 25 ∨ a = 26 ∨ a = 27 := by omega
  rcases this with rfl | rfl | rfl | rfl | rfl | rfl | rfl | rfl | rfl | rfl | rfl | rfl | rfl | rfl <;> cases h
theorem og_Ld_pe {M M' : om_M} {n : Nat} {R : Nat → Nat → Int32 → Prop} (hL : og_Ld M n R) (g1 : om_fr og_pe M M') : og_Ld M' n R := by
  have e : ∀ a j, a < 14 → M'.1 a j = M.1 a j := fun a j h => g1.1 a j (og_pe_iff.mpr (.inl h))
  obtain ⟨c1, s', c2, c3, c4, c5, c6⟩ := hL
  refine ⟨by rw [e 7 0 (by omega), c1], s', c2, by rw [e 7 2 (by omega), c3], fun i hi => ?_, fun p q w hp hq => ?_, fun p hp q => ?_⟩
  · rw [e 8 i (by omega), e 9 i (by omega)]; exact c4 i hi
  · rw [← c5 p q w hp hq]
    constructor
    · rintro ⟨i, h1, h2, h3, h4⟩
      rw [e 8 i (by omega)] at h2; rw [e 9 i (by omega)] at h3; rw [e 10 i (by omega)] at h4
      exact ⟨i, h1, h2, h3, h4⟩
    · rintro ⟨i, h1, h2, h3, h4⟩
      exact ⟨i, h1, by rw [e 8 i (by omega), h2], by rw [e 9 i (by omega), h3], by rw [e 10 i (by omega), h4]⟩
  · rw [e 11 p (by omega)]; exact c6 p hp q
theorem og_row : ∀ k : Fin 9, om_isA (19 + k.val) 1 = true ∧ om_ln (19 + k.val) = 8 := by decide +kernel
theorem og_row1 {k : Nat} (hk : k < 9) {i : Nat} (hi : i < 8) : (om_isA (19 + k) 1 && om_in (nI i) (om_ln (19 + k))) = true := by
  obtain ⟨h1, h2⟩ := og_row ⟨k, hk⟩
  simp only at h1 h2
  rw [h1, h2, om_in_nI hi (by omega)]; rfl
/-- one or minus one times a weight -/
def og_sg (σ : Int32) : Prop := σ = 1 ∨ σ = -1
theorem og_sg_mul {σ w : Int32} (h : og_sg σ) (h1 : -5 ≤ w.toInt) (h2 : w.toInt ≤ 5) : (σ * w).toInt = σ.toInt * w.toInt := by
  rw [Int32.toInt_mul]
  have e1 : (1 : Int32).toInt = 1 := by decide
  have e2 : (-1 : Int32).toInt = -1 := by decide
  rcases h with rfl | rfl
  · rw [e1, Int.one_mul]
    exact Int.bmod_eq_of_le (by omega) (by omega)
  · rw [e2]
    exact Int.bmod_eq_of_le (by omega) (by omega)
theorem og_sg_abs {σ : Int32} (h : og_sg σ) {x : Int} (h1 : -5 ≤ x) (h2 : x ≤ 5) : -5 ≤ σ.toInt * x ∧ σ.toInt * x ≤ 5 := by
  have e1 : (1 : Int32).toInt = 1 := by decide
  have e2 : (-1 : Int32).toInt = -1 := by decide
  rcases h with rfl | rfl
  · rw [e1]; omega
  · rw [e2]; omega
section WL
variable {n : Nat} {M : om_M} {R : Nat → Nat → Int32 → Prop} {σ : Int32}
/-- the moves that are open -/
def og_Ho (n : Nat) (R : Nat → Nat → Int32 → Prop) (O : Nat → Int32) (p q : Nat) : Prop := og_GR n R p q ∧ om_b (O p) q = true
noncomputable def og_us (R : Nat → Nat → Int32 → Prop) (σ : Int32) (p q : Nat) : Int := σ.toInt * og_wt R p q
theorem og_us_b (hR : og_Rok n R) (hσ : og_sg σ) {p q : Nat} (h : og_GR n R p q) : -5 ≤ og_us R σ p q ∧ og_us R σ p q ≤ 5 := by
  obtain ⟨hp, hq, w, hw⟩ := h
  have h1 := hR.2.2 p q w hp hq hw
  unfold og_us
  rw [og_wt_eq hR hp hq hw]
  exact og_sg_abs hσ h1.1 h1.2
theorem og_wk_b5 (hR : og_Rok n R) (hσ : og_sg σ) {O : Nat → Int32} : ∀ {k p q : Nat} {x : Int}, og_wk (og_Ho n R O) (og_us R σ) k p q x → -(5 * (k : Int)) ≤ x ∧ x ≤ 5 * k
  | 0, p, q, x, ⟨_, h⟩ => by rw [h]; omega
  | k + 1, p, q, x, ⟨r, y, h1, h2, h3⟩ => by
    have a := og_wk_b5 hR hσ h1
    have b := og_us_b hR hσ h2.1
    omega
/-- one round: the row k out of the row k - 1 -/
theorem og_walkRow (h8 : n ≤ 8) (hR : og_Rok n R) (hσ : og_sg σ) (hL : og_Ld M n R) {p k : Nat} (hk : k < n) (hprev : ∀ q, q < n → og_mn (og_wk (og_Ho n R (M.1 15)) (og_us R σ) k p q) (M.1 (19 + k) q)) (hfar : ∀ q, q < n → M.1 (19 + (k + 1)) q = 1000000) : ∃ M', om_E_walk_L72 om_F (σ, nI n, nI (k + 1), 0, M) = some (σ, nI n, nI (k + 1), M') ∧ (∀ a j, a ≠ 19 + (k + 1) → M'.1 a j = M.1 a j) ∧ M'.2 = M.2 ∧ ∀ q, q < n → og_mn (og_wk (og_Ho n R (M.1 15)) (og_us R σ) (k + 1) p q) (M'.1 (19 + (k + 1)) q) := by
  obtain ⟨e70, s, hs, ⟨m1, m2, m3, m4⟩⟩ := hL
  have hk8 : k + 1 < 9 := by omega
  have hb : ∀ a, a < n → ∀ x, og_wk (og_Ho n R (M.1 15)) (og_us R σ) k p a x → -40 ≤ x ∧ x ≤ 40 := fun a _ x hx => by
    have := og_wk_b5 hR hσ hx; omega
  obtain ⟨z, hz, M', rfl, q1, q2, q3⟩ := om_lp (f := om_E_walk_L72_body om_F) (fun i x => ∃ M', x = (σ, nI n, nI (k + 1), nI i, M') ∧ (∀ a j, a ≠ 19 + (k + 1) → M'.1 a j = M.1 a j) ∧ M'.2 = M.2 ∧ ∀ q, q < n → og_mn (fun x => ∃ j a w, j < i ∧ a < n ∧ M.1 8 j = nI a ∧ M.1 9 j = nI q ∧ M.1 10 j = w ∧ om_b (M.1 15 a) q = true ∧ M.1 (19 + k) a ≠ 1000000 ∧ x = (M.1 (19 + k) a).toInt + σ.toInt * w.toInt) (M'.1 (19 + (k + 1)) q)) (fun z => ∃ M', z = (σ, nI n, nI (k + 1), M') ∧ (∀ a j, a ≠ 19 + (k + 1) → M'.1 a j = M.1 a j) ∧ M'.2 = M.2 ∧ ∀ q, q < n → og_mn (og_wk (og_Ho n R (M.1 15)) (og_us R σ) (k + 1) p q) (M'.1 (19 + (k + 1)) q)) s (F := om_F) (Nat.lt_of_le_of_lt hs (by decide)) (s := (σ, nI n, nI (k + 1), 0, M)) ⟨M, rfl, fun _ _ _ => rfl, rfl, fun q hq => .inl ⟨hfar q hq, fun x ⟨j, a, w, hj, _⟩ => absurd hj (by omega)⟩⟩ (by
    rintro i x hi ⟨M', rfl, g1, g2, g3⟩
    have hin : om_in (nI i) 28 = true := om_in_nI (by omega) (by omega)
    have hcl : (nI i).toNatClampNeg = i := nI_clamp (by omega)
    have hlt : ¬ nI s ≤ nI i := nI_ge hi (by omega)
    obtain ⟨⟨a, ha, h8a⟩, ⟨b, hb', h9b⟩⟩ := m2 i hi
    have e : ∀ c j, c < 19 → M'.1 c j = M.1 c j := fun c j h => g1 c j (by omega)
    have e72 : M'.1 7 2 = nI s := by rw [e 7 2 (by omega), m1]
    have e8 : M'.1 8 i = nI a := by rw [e 8 i (by omega), h8a]
    have e9 : M'.1 9 i = nI b := by rw [e 9 i (by omega), h9b]
    have e10 : M'.1 10 i = M.1 10 i := e 10 i (by omega)
    have e15 : M'.1 15 a = M.1 15 a := e 15 a (by omega)
    have ek : M'.1 (19 + k) a = M.1 (19 + k) a := g1 _ _ (by omega)
    have hin2 : om_in (nI a) 8 = true := om_in_nI (by omega) (by omega)
    have hcl2 : (nI a).toNatClampNeg = a := nI_clamp (by omega)
    have hcl3 : (nI b).toNatClampNeg = b := nI_clamp (by omega)
    have hinK : om_in (nI k) 9 = true := om_in_nI (by omega) (by omega)
    have hclK : (nI k).toNatClampNeg = k := nI_clamp (by omega)
    have hinK1 : om_in (nI (k + 1)) 9 = true := om_in_nI (by omega) (by omega)
    have hclK1 : (nI (k + 1)).toNatClampNeg = k + 1 := nI_clamp (by omega)
    have r1 := og_row1 (k := k) (by omega) (i := a) (by omega)
    have r2 := og_row1 (k := k + 1) (by omega) (i := b) (by omega)
    have hRab : R a b (M.1 10 i) := (m3 a b _ ha hb').mp ⟨i, hi, h8a, h9b, rfl⟩
    have hw := hR.2.2 a b _ ha hb' hRab
    -- nothing put: the same
    have keep : ¬ (om_b (M.1 15 a) b = true ∧ M.1 (19 + k) a ≠ 1000000) → ∃ s', some (Sum.inl (β := Int32 × Int32 × Int32 × om_M) (σ, nI n, nI (k + 1), nI (i + 1), M')) = some (Sum.inl s') ∧ ∃ M', s' = (σ, nI n, nI (k + 1), nI (i + 1), M') ∧ (∀ a j, a ≠ 19 + (k + 1) → M'.1 a j = M.1 a j) ∧ M'.2 = M.2 ∧ ∀ q, q < n → og_mn (fun x => ∃ j a w, j < i + 1 ∧ a < n ∧ M.1 8 j = nI a ∧ M.1 9 j = nI q ∧ M.1 10 j = w ∧ om_b (M.1 15 a) q = true ∧ M.1 (19 + k) a ≠ 1000000 ∧ x = (M.1 (19 + k) a).toInt + σ.toInt * w.toInt) (M'.1 (19 + (k + 1)) q) := by
      intro hno
      refine ⟨_, rfl, M', rfl, g1, g2, fun q hq => ?_⟩
      have hiff : (fun x : Int => ∃ j a w, j < i + 1 ∧ a < n ∧ M.1 8 j = nI a ∧ M.1 9 j = nI q ∧ M.1 10 j = w ∧ om_b (M.1 15 a) q = true ∧ M.1 (19 + k) a ≠ 1000000 ∧ x = (M.1 (19 + k) a).toInt + σ.toInt * w.toInt) = (fun x => ∃ j a w, j < i ∧ a < n ∧ M.1 8 j = nI a ∧ M.1 9 j = nI q ∧ M.1 10 j = w ∧ om_b (M.1 15 a) q = true ∧ M.1 (19 + k) a ≠ 1000000 ∧ x = (M.1 (19 + k) a).toInt + σ.toInt * w.toInt) := by
        funext x
        refine propext ⟨?_, ?_⟩
        · rintro ⟨j, a', w, h1, h2, h3, h4, h5, h6, h7, h8⟩
          by_cases hji : j = i
          · subst hji
            have ea : a' = a := (nI_eq (by omega) (by omega)).mp (h3.symm.trans h8a)
            have eb : q = b := (nI_eq (by omega) (by omega)).mp (h4.symm.trans h9b)
            subst ea; subst eb
            exact absurd ⟨h6, h7⟩ hno
          · exact ⟨j, a', w, by omega, h2, h3, h4, h5, h6, h7, h8⟩
        · rintro ⟨j, a', w, h1, h2⟩; exact ⟨j, a', w, by omega, h2⟩
      rw [hiff]; exact g3 q hq
    have pk : nI (k + 1) - 1 = nI k := nI_pred k
    simp only [om_E_walk_L72_body, om_E_walk_b72, om_E_walk_b179, e72, hlt, hin, hcl, if_false, cond_true, e8, e9, e10, hin2, hcl2, hcl3, e15, om_tst (show b < 32 by omega), pk, hinK, hclK, hinK1, hclK1, r1, r2, ek, og_nI1]
    cases hob : om_b (M.1 15 a) b with
    | false => rw [if_pos rfl]; exact .inl (keep (fun h => by rw [hob] at h; cases h.1))
    | true =>
      rw [if_neg (by decide)]
      rcases hprev a ha with ⟨hf, hno⟩ | ⟨hx1, hx2⟩
      · rw [if_neg (by rw [hf]; decide)]
        exact .inl (keep (fun h => h.2 hf))
      · have hbx := hb a ha _ hx1
        have hlt2 : M.1 (19 + k) a < 1000000 := by
          rw [Int32.lt_iff_toInt_lt]
          have e0 : (1000000 : Int32).toInt = 1000000 := by decide
          omega
        have hne : M.1 (19 + k) a ≠ 1000000 := fun h => by rw [h] at hbx; have e0 : (1000000 : Int32).toInt = 1000000 := by decide
                                                           omega
        rw [if_pos hlt2]
        have hmul := og_sg_mul hσ hw.1 hw.2
        have hmb := og_sg_abs hσ hw.1 hw.2
        have hsum : (M.1 (19 + k) a + σ * M.1 10 i).toInt = (M.1 (19 + k) a).toInt + σ.toInt * (M.1 10 i).toInt := by
          rw [og_add_toInt (by omega) (by omega) (by omega) (by omega), hmul]
        refine .inl ⟨_, rfl, _, rfl, fun c j hc => ?_, g2, fun q hq => ?_⟩
        · simp only [om_up_at]
          rw [if_neg hc]; exact g1 c j hc
        · by_cases hqb : q = b
          · subst hqb
            have eu : (om_up M' (19 + (k + 1)) q (if M.1 (19 + k) a + σ * M.1 10 i < M'.1 (19 + (k + 1)) q then M.1 (19 + k) a + σ * M.1 10 i else M'.1 (19 + (k + 1)) q)).1 (19 + (k + 1)) q = (if M.1 (19 + k) a + σ * M.1 10 i < M'.1 (19 + (k + 1)) q then M.1 (19 + k) a + σ * M.1 10 i else M'.1 (19 + (k + 1)) q) := by simp [om_up_at]
            rw [eu]
            have hcase : ∀ x : Int, (∃ j a w, j < i + 1 ∧ a < n ∧ M.1 8 j = nI a ∧ M.1 9 j = nI q ∧ M.1 10 j = w ∧ om_b (M.1 15 a) q = true ∧ M.1 (19 + k) a ≠ 1000000 ∧ x = (M.1 (19 + k) a).toInt + σ.toInt * w.toInt) ↔ ((∃ j a w, j < i ∧ a < n ∧ M.1 8 j = nI a ∧ M.1 9 j = nI q ∧ M.1 10 j = w ∧ om_b (M.1 15 a) q = true ∧ M.1 (19 + k) a ≠ 1000000 ∧ x = (M.1 (19 + k) a).toInt + σ.toInt * w.toInt) ∨ x = (M.1 (19 + k) a).toInt + σ.toInt * (M.1 10 i).toInt) := by
              intro x
              constructor
              · rintro ⟨j, a', w, h1, h2, h3, h4, h5, h6, h7, h8⟩
                by_cases hji : j = i
                · subst hji
                  have ea : a' = a := (nI_eq (by omega) (by omega)).mp (h3.symm.trans h8a)
                  subst ea; subst h5
                  exact .inr h8
                · exact .inl ⟨j, a', w, by omega, h2, h3, h4, h5, h6, h7, h8⟩
              · rintro (⟨j, a', w, h1, h2⟩ | h)
                · exact ⟨j, a', w, by omega, h2⟩
                · exact ⟨i, a, _, by omega, ha, h8a, h9b, rfl, hob, hne, h⟩
            rcases g3 q hq with ⟨gf, gno⟩ | ⟨gx1, gx2⟩
            · have hlt3 : M.1 (19 + k) a + σ * M.1 10 i < M'.1 (19 + (k + 1)) q := by
                rw [Int32.lt_iff_toInt_lt, gf, hsum]
                have e0 : (1000000 : Int32).toInt = 1000000 := by decide
                omega
              rw [if_pos hlt3]
              refine .inr ⟨(hcase _).mpr (.inr hsum), fun x hx => ?_⟩
              rcases (hcase x).mp hx with hx | hx
              · exact absurd hx (gno x)
              · rw [hsum, hx]; exact Int.le_refl _
            · by_cases hlt3 : M.1 (19 + k) a + σ * M.1 10 i < M'.1 (19 + (k + 1)) q
              · rw [if_pos hlt3]
                rw [Int32.lt_iff_toInt_lt] at hlt3
                refine .inr ⟨(hcase _).mpr (.inr hsum), fun x hx => ?_⟩
                rcases (hcase x).mp hx with hx | hx
                · have := gx2 x hx; omega
                · rw [hsum, hx]; exact Int.le_refl _
              · rw [if_neg hlt3]
                rw [Int32.lt_iff_toInt_lt] at hlt3
                refine .inr ⟨(hcase _).mpr (.inl gx1), fun x hx => ?_⟩
                rcases (hcase x).mp hx with hx | hx
                · exact gx2 x hx
                · omega
          · have eu : ∀ y, (om_up M' (19 + (k + 1)) b y).1 (19 + (k + 1)) q = M'.1 (19 + (k + 1)) q := fun y => by simp [om_up_at, hqb]
            rw [eu]
            have hiff : (fun x : Int => ∃ j a w, j < i + 1 ∧ a < n ∧ M.1 8 j = nI a ∧ M.1 9 j = nI q ∧ M.1 10 j = w ∧ om_b (M.1 15 a) q = true ∧ M.1 (19 + k) a ≠ 1000000 ∧ x = (M.1 (19 + k) a).toInt + σ.toInt * w.toInt) = (fun x => ∃ j a w, j < i ∧ a < n ∧ M.1 8 j = nI a ∧ M.1 9 j = nI q ∧ M.1 10 j = w ∧ om_b (M.1 15 a) q = true ∧ M.1 (19 + k) a ≠ 1000000 ∧ x = (M.1 (19 + k) a).toInt + σ.toInt * w.toInt) := by
              funext x
              refine propext ⟨?_, ?_⟩
              · rintro ⟨j, a', w, h1, h2, h3, h4, h5⟩
                by_cases hji : j = i
                · subst hji
                  exact absurd ((nI_eq (by omega) (by omega)).mp (h4.symm.trans h9b)) hqb
                · exact ⟨j, a', w, by omega, h2, h3, h4, h5⟩
              · rintro ⟨j, a', w, h1, h2⟩; exact ⟨j, a', w, by omega, h2⟩
            rw [hiff]; exact g3 q hq) (by
    rintro x ⟨M', rfl, g1, g2, g3⟩
    have e72 : M'.1 7 2 = nI s := by rw [g1 7 2 (by omega), m1]
    refine ⟨_, by simp only [om_E_walk_L72_body, om_E_walk_b72, e72]; rw [if_pos Int32.le_rfl], M', rfl, g1, g2, fun q hq => ?_⟩
    have cand : ∀ a w, a < n → R a q w → om_b (M.1 15 a) q = true → M.1 (19 + k) a ≠ 1000000 → ∃ j a' w', j < s ∧ a' < n ∧ M.1 8 j = nI a' ∧ M.1 9 j = nI q ∧ M.1 10 j = w' ∧ om_b (M.1 15 a') q = true ∧ M.1 (19 + k) a' ≠ 1000000 ∧ (M.1 (19 + k) a).toInt + σ.toInt * w.toInt = (M.1 (19 + k) a').toInt + σ.toInt * w'.toInt := by
      intro a w ha hRw ho hn
      obtain ⟨j, h1, h2, h3, h4⟩ := (m3 a q w ha hq).mpr hRw
      exact ⟨j, a, w, h1, ha, h2, h3, h4, ho, hn, rfl⟩
    have low : ∀ x, og_wk (og_Ho n R (M.1 15)) (og_us R σ) (k + 1) p q x → ∃ a w, a < n ∧ R a q w ∧ om_b (M.1 15 a) q = true ∧ M.1 (19 + k) a ≠ 1000000 ∧ (M.1 (19 + k) a).toInt + σ.toInt * w.toInt ≤ x := by
      rintro x ⟨r, y, h1, ⟨⟨hr, -, w, hw⟩, ho⟩, h3⟩
      rcases hprev r hr with ⟨-, hno⟩ | ⟨hx1, hx2⟩
      · exact absurd h1 (hno y)
      · have hbx := hb r hr _ hx1
        refine ⟨r, w, hr, hw, ho, fun h => ?_, ?_⟩
        · rw [h] at hbx
          have e0 : (1000000 : Int32).toInt = 1000000 := by decide
          omega
        · have := hx2 y h1
          have e1 : og_us R σ r q = σ.toInt * w.toInt := by unfold og_us; rw [og_wt_eq hR hr hq hw]
          omega
    rcases g3 q hq with ⟨gf, gno⟩ | ⟨⟨j, a, w, h1, h2, h3, h4, h5, h6, h7, h8⟩, gx2⟩
    · refine .inl ⟨gf, fun x hx => ?_⟩
      obtain ⟨a, w, b1, b2, b3, b4, -⟩ := low x hx
      exact gno _ (cand a w b1 b2 b3 b4)
    · refine .inr ⟨?_, fun x hx => ?_⟩
      · have hRw : R a q w := (m3 a q w h2 hq).mp ⟨j, h1, h3, h4, h5⟩
        rcases hprev a h2 with ⟨hf, -⟩ | ⟨hx1, -⟩
        · exact absurd hf h7
        · refine ⟨a, _, hx1, ⟨⟨h2, hq, w, hRw⟩, h6⟩, ?_⟩
          rw [h8]
          unfold og_us
          rw [og_wt_eq hR h2 hq hRw]
      · obtain ⟨a', w', b1, b2, b3, b4, b5⟩ := low x hx
        exact Int.le_trans (gx2 _ (cand a' w' b1 b2 b3 b4)) b5)
  exact ⟨M', hz, q1, q2, q3⟩
theorem og_walk (h8 : n ≤ 8) (hR : og_Rok n R) (hσ : og_sg σ) (hL : og_Ld M n R) {p : Nat} (hp : p < n) : ∃ M', om_E_walk om_F σ (nI p) M = some M' ∧ (∀ a j, (a < 19 ∨ 27 < a) → M'.1 a j = M.1 a j) ∧ M'.2 = M.2 ∧ ∀ k, k ≤ n → ∀ q, q < n → og_mn (og_wk (og_Ho n R (M.1 15)) (og_us R σ) k p q) (M'.1 (19 + k) q) := by
  have e70 := hL.1
  have hF9 : ∀ k, k ≤ 9 → k < om_F := fun k h => Nat.lt_of_le_of_lt h (by decide)
  -- all far
  obtain ⟨z1, hz1, M1, rfl, a1, a2, a3⟩ := om_lp (f := om_E_walk_L9_body om_F) (fun i s => ∃ M', s = (σ, nI p, nI n, nI i, M') ∧ (∀ a j, (a < 19 ∨ 27 < a) → M'.1 a j = M.1 a j) ∧ M'.2 = M.2 ∧ ∀ k, k < i → ∀ q, q < n → M'.1 (19 + k) q = 1000000) (fun z => ∃ M', z = (σ, nI p, nI n, M') ∧ (∀ a j, (a < 19 ∨ 27 < a) → M'.1 a j = M.1 a j) ∧ M'.2 = M.2 ∧ ∀ k, k < n + 1 → ∀ q, q < n → M'.1 (19 + k) q = 1000000) (n + 1) (F := om_F) (hF9 _ (by omega)) (s := (σ, nI p, nI n, 0, M)) ⟨M, rfl, fun _ _ _ => rfl, rfl, fun k hk => absurd hk (by omega)⟩ (by
    rintro i s hi ⟨M', rfl, g1, g2, g3⟩
    have hlt : ¬ nI n < nI i := nI_nlt (by omega) (by omega)
    obtain ⟨z, hz, M2, rfl, c1, c2, c3⟩ := om_lp (f := om_E_walk_L19_body om_F) (fun q s => ∃ M2, s = (σ, nI p, nI n, nI i, nI q, M2) ∧ (∀ a j, a ≠ 19 + i → M2.1 a j = M'.1 a j) ∧ M2.2 = M'.2 ∧ ∀ t, t < q → M2.1 (19 + i) t = 1000000) (fun z => ∃ M2, z = (σ, nI p, nI n, nI i, M2) ∧ (∀ a j, a ≠ 19 + i → M2.1 a j = M'.1 a j) ∧ M2.2 = M'.2 ∧ ∀ t, t < n → M2.1 (19 + i) t = 1000000) n (F := om_F) (hF9 _ (by omega)) (s := (σ, nI p, nI n, nI i, 0, M')) ⟨M', rfl, fun _ _ _ => rfl, rfl, fun t ht => absurd ht (by omega)⟩ (by
      rintro q s hq ⟨M2, rfl, d1, d2, d3⟩
      have hlt2 : ¬ nI n ≤ nI q := nI_ge hq (by omega)
      have hin : om_in (nI i) 9 = true := om_in_nI (by omega) (by omega)
      have hcl : (nI i).toNatClampNeg = i := nI_clamp (by omega)
      have hcl2 : (nI q).toNatClampNeg = q := nI_clamp (by omega)
      have r1 := og_row1 (k := i) (by omega) (i := q) (by omega)
      refine .inl ⟨(σ, nI p, nI n, nI i, nI (q + 1), om_up M2 (19 + i) q 1000000), by simp only [om_E_walk_L19_body, om_E_walk_b19, hlt2, if_false, hin, hcl, hcl2, r1, cond_true, og_nI1], _, rfl, fun a j ha => ?_, d2, fun t ht => ?_⟩
      · simp only [om_up_at]; rw [if_neg ha]; exact d1 a j ha
      · by_cases htq : t = q
        · subst htq; simp [om_up_at]
        · simp [om_up_at, htq, d3 t (by omega)]) (by
      rintro s ⟨M2, rfl, d⟩
      exact ⟨_, by simp only [om_E_walk_L19_body, om_E_walk_b19]; rw [if_pos Int32.le_rfl], M2, rfl, d⟩)
    refine .inl ⟨(σ, nI p, nI n, nI (i + 1), M2), ?_, M2, rfl, fun a j ha => by rw [c1 a j (by omega), g1 a j ha], c2.trans g2, fun k hk q hq => ?_⟩
    · simp only [om_E_walk_L9_body, om_E_walk_b9, hlt, if_false]
      unfold om_E_walk_L19
      rw [hz]
      show some (Sum.inl (σ, nI p, nI n, nI i + 1, M2)) = _
      rw [og_nI1]
    · by_cases hki : k = i
      · subst hki; exact c3 q hq
      · rw [c1 _ _ (by omega)]; exact g3 k (by omega) q hq) (by
    rintro s ⟨M', rfl, g⟩
    exact ⟨_, by simp only [om_E_walk_L9_body, om_E_walk_b9]; rw [if_pos (nI_lt (by omega) (by omega))], M', rfl, g⟩)
  -- the rows
  have hMs : ∀ q, q < n → og_mn (og_wk (og_Ho n R (M.1 15)) (og_us R σ) 0 p q) ((om_up M1 19 p 0).1 19 q) := by
    intro q hq
    by_cases hqp : q = p
    · subst hqp
      have e1 : (om_up M1 19 q 0).1 19 q = 0 := by simp [om_up_at]
      have z0 : (0 : Int32).toInt = 0 := by decide
      rw [e1]
      exact .inr ⟨⟨rfl, z0⟩, fun x hx => by rw [hx.2, z0]; exact Int.le_refl _⟩
    · have e1 : (om_up M1 19 p 0).1 19 q = M1.1 19 q := by simp [om_up_at, hqp]
      rw [e1]
      exact .inl ⟨a3 0 (by omega) q hq, fun x hx => hqp hx.1.symm⟩
  obtain ⟨M2, hz2, b1, b2, b3⟩ := om_lp (f := om_E_walk_L62_body om_F) (fun i s => ∃ M', s = (σ, nI n, nI (i + 1), M') ∧ (∀ a j, (a < 19 ∨ 27 < a) → M'.1 a j = M.1 a j) ∧ M'.2 = M.2 ∧ (∀ k, k ≤ i → ∀ q, q < n → og_mn (og_wk (og_Ho n R (M.1 15)) (og_us R σ) k p q) (M'.1 (19 + k) q)) ∧ (∀ k, i < k → k ≤ n → ∀ q, q < n → M'.1 (19 + k) q = 1000000)) (fun M' : om_M => (∀ a j, (a < 19 ∨ 27 < a) → M'.1 a j = M.1 a j) ∧ M'.2 = M.2 ∧ ∀ k, k ≤ n → ∀ q, q < n → og_mn (og_wk (og_Ho n R (M.1 15)) (og_us R σ) k p q) (M'.1 (19 + k) q)) n (F := om_F) (hF9 _ (by omega)) (s := (σ, nI n, 1, om_up M1 19 p 0)) ⟨_, rfl, fun a j ha => by simp only [om_up_at]; rw [if_neg (by omega)]; exact a1 a j ha, a2, fun k hk q hq => by rw [show k = 0 by omega]; exact hMs q hq, fun k h1 h2 q hq => by simp only [om_up_at]; rw [if_neg (by omega)]; exact a3 k (by omega) q hq⟩ (by
    rintro i s hi ⟨M', rfl, g1, g2, g3, g4⟩
    have hlt : ¬ nI n < nI (i + 1) := nI_nlt (by omega) (by omega)
    have hL' : og_Ld M' n R := og_Ld_pe hL ⟨fun a j h => g1 a j (by have := og_pe_iff.mp h; omega), g2⟩
    have e15 : M'.1 15 = M.1 15 := funext fun j => g1 15 j (by omega)
    obtain ⟨M3, c1, c2, c3, c4⟩ := og_walkRow (p := p) h8 hR hσ hL' hi (by rw [e15]; exact fun q hq => g3 i (Nat.le_refl i) q hq) (fun q hq => g4 (i + 1) (by omega) (by omega) q hq)
    rw [e15] at c4
    refine .inl ⟨(σ, nI n, nI (i + 1 + 1), M3), ?_, M3, rfl, fun a j ha => by rw [c2 a j (by omega), g1 a j ha], c3.trans g2, fun k hk q hq => ?_, fun k h1 h2 q hq => ?_⟩
    · simp only [om_E_walk_L62_body, om_E_walk_b62, hlt, if_false]
      rw [c1]
      show some (Sum.inl (σ, nI n, nI (i + 1) + 1, M3)) = _
      rw [og_nI1]
    · by_cases hki : k = i + 1
      · subst hki; exact c4 q hq
      · rw [c2 _ _ (by omega)]; exact g3 k (by omega) q hq
    · rw [c2 _ _ (by omega)]; exact g4 k (by omega) h2 q hq) (by
    rintro s ⟨M', rfl, g1, g2, g3, g4⟩
    exact ⟨_, by simp only [om_E_walk_L62_body, om_E_walk_b62]; rw [if_pos (nI_lt (by omega) (by omega))], g1, g2, g3⟩)
  refine ⟨M2, ?_, b1, b2, b3⟩
  have r0 := og_row1 (k := 0) (by omega) (i := p) (by omega)
  have c0 : (0 : Int32).toNatClampNeg = 0 := by decide
  have i0 : om_in 0 9 = true := by decide
  have hcl : (nI p).toNatClampNeg = p := nI_clamp (by omega)
  unfold om_E_walk om_E_walk_b0 om_E_walk_L9 om_E_walk_L62
  rw [e70, hz1]
  simp only [Option.bind_some, i0, c0, r0, hcl, cond_true]
  show (om_it (om_E_walk_L62_body om_F) om_F (σ, nI n, 1, om_up M1 19 p 0)).bind _ = _
  rw [hz2]; rfl
end WL
