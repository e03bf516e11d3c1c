/-! ===== the first row: the model's search ===== -/
theorem om_lx {α β : Type} {f : α → Option (α ⊕ β)} (I : Nat → α → Prop) (Q : β → Prop) (hs : ∀ m s, I m s → (∃ s' m', f s = some (.inl s') ∧ I m' s' ∧ m' < m) ∨ (∃ z, f s = some (.inr z) ∧ Q z)) : ∀ (F m : Nat) (s : α), m < F → I m s → ∃ z, om_it f F s = some z ∧ Q z
  | 0, _, _, h, _ => absurd h (Nat.not_lt_zero _)
  | F + 1, m, s, h, hI => by
    rcases hs m s hI with ⟨s', m', h1, h2, h3⟩ | ⟨z, hz, hq⟩
    · rw [om_it_l h1]
      exact om_lx I Q hs F m' s' (by omega) h2
    · exact ⟨z, om_it_r hz, hq⟩
def og_f64 (D D' : om_M) : Prop := (∀ a j, a ≠ 64 → ¬ (a = 46 ∧ j = 26) → D'.1 a j = D.1 a j) ∧ D'.2 = D.2
theorem og_f64_tr {C C' C'' : om_M} (h : og_f64 C C') (h' : og_f64 C' C'') : og_f64 C C'' := ⟨fun a j ha hb => by rw [h'.1 a j ha hb, h.1 a j ha hb], by rw [h'.2, h.2]⟩
theorem og_f64_row {C C' : om_M} (h : og_f64 C C') (j : Nat) (v : Int32) : og_f64 C (om_up C' 64 j v) := ⟨fun a i ha hb => by rw [om_up_at, if_neg ha]; exact h.1 a i ha hb, h.2⟩
theorem og_f64_many {C C' : om_M} (h : og_f64 C C') (v : Int32) : og_f64 C (om_up C' 46 26 v) := ⟨fun a i ha hb => by
  rw [om_up_at]
  by_cases h46 : a = 46
  · rw [if_pos h46, if_neg (fun h => hb ⟨h46, h⟩)]; exact h.1 a i ha hb
  · rw [if_neg h46]; exact h.1 a i ha hb, h.2⟩
section MD
variable {n : Nat} {num : Nat → Nat} {N : Nat → Int32}
theorem og_placeIn {D : om_M} {t p : Nat} {ρ : Nat → Nat} (ht : t ≤ 10) (e26 : D.1 46 26 = nI t) (hρ : ∀ i, i < t → D.1 64 i = nI (ρ i) ∧ ρ i < 8) (hp : p < 8) : ∃ r, om_D_placeIn om_F (nI p) D = some (r, D) ∧ ((∃ i, i < t ∧ ρ i = p ∧ r = nI i) ∨ ((∀ i, i < t → ρ i ≠ p) ∧ r = -1)) := by
  obtain ⟨z, hz, r, q0, q1⟩ := om_lp (f := om_D_placeIn_L4_body om_F) (fun i st => ∃ r, st = (nI p, r, nI i, D) ∧ ((∃ l, l < i ∧ ρ l = p ∧ r = nI l) ∨ ((∀ l, l < i → ρ l ≠ p) ∧ r = -1))) (fun z => ∃ r, z = (r, D) ∧ ((∃ l, l < t ∧ ρ l = p ∧ r = nI l) ∨ ((∀ l, l < t → ρ l ≠ p) ∧ r = -1))) t (F := om_F) (Nat.lt_of_le_of_lt ht (by decide)) (s := (nI p, -1, 0, D)) ⟨-1, rfl, .inr ⟨fun l hl => absurd hl (Nat.not_lt_zero _), rfl⟩⟩ (by
    rintro i st hi ⟨r, rfl, g⟩
    have hlt : ¬ nI t ≤ nI i := nI_ge hi (by omega)
    have hin : om_in (nI i) 10 = true := om_in_nI (by omega) (by omega)
    have hcl : (nI i).toNatClampNeg = i := nI_clamp (by omega)
    obtain ⟨h1, h2⟩ := hρ i hi
    have hc : nI (ρ i) = nI p ↔ ρ i = p := nI_eq (by omega) (by omega)
    by_cases h : ρ i = p
    · exact .inl ⟨(nI p, nI i, nI (i + 1), D), by simp only [om_D_placeIn_L4_body, om_D_placeIn_b4, om_D_placeIn_b27, e26, hlt, hin, hcl, h1, hc, h, if_false, if_true, cond_true, og_nI1], nI i, rfl, .inl ⟨i, Nat.lt_succ_self _, h, rfl⟩⟩
    · refine .inl ⟨(nI p, r, nI (i + 1), D), by simp only [om_D_placeIn_L4_body, om_D_placeIn_b4, om_D_placeIn_b27, e26, hlt, hin, hcl, h1, hc, h, if_false, cond_true, og_nI1], r, rfl, ?_⟩
      rcases g with ⟨l, g1, g2, g3⟩ | ⟨g1, g2⟩
      · exact .inl ⟨l, by omega, g2, g3⟩
      · refine .inr ⟨fun l hl => ?_, g2⟩
        by_cases hli : l = i
        · subst hli; exact h
        · exact g1 l (by omega)) (by
    rintro st ⟨r, rfl, g⟩
    exact ⟨(r, D), by simp only [om_D_placeIn_L4_body, om_D_placeIn_b4, e26]; rw [if_pos Int32.le_rfl], r, rfl, g⟩)
  subst q0
  exact ⟨r, by unfold om_D_placeIn om_D_placeIn_b0 om_D_placeIn_L4; rw [hz]; rfl, q1⟩
theorem og_isBadFrom {D : om_M} {j t pl : Nat} {ρ : Nat → Nat} (ht : t ≤ 10) (hj : j ≤ t) (e26 : D.1 46 26 = nI t) (hρ : ∀ i, i < t → D.1 64 i = nI (ρ i) ∧ ρ i < 8) (hnum : ∀ i, i < t → D.1 48 (ρ i) = nI (num (ρ i))) (h7 : ∀ i, num i ≤ 7) (hpl : pl < 2) : om_D_isBadFrom om_F (nI j) (nI pl) D = some (om_bi (decide (og_lso 9 num ρ j (t - j) % 2 ≠ pl)), D) := by
  obtain ⟨z, hz, rfl⟩ := om_lp (f := om_D_isBadFrom_L6_body om_F) (fun c st => st = (nI pl, nI (og_lso 9 num ρ j c), nI (j + c), D)) (fun z => z = (nI pl, nI (og_lso 9 num ρ j (t - j)), D)) (t - j) (F := om_F) (Nat.lt_of_le_of_lt (show t - j ≤ 10 by omega) (by decide)) (s := (nI pl, 9, nI j, D)) rfl (by
    rintro c st hc rfl
    have hlt : ¬ nI t ≤ nI (j + c) := nI_ge (by omega) (by omega)
    have hin : om_in (nI (j + c)) 10 = true := om_in_nI (by omega) (by omega)
    have hcl : (nI (j + c)).toNatClampNeg = j + c := nI_clamp (by omega)
    obtain ⟨h1, h2⟩ := hρ (j + c) (by omega)
    have h3 := hnum (j + c) (by omega)
    have hin2 : om_in (nI (ρ (j + c))) 8 = true := om_in_nI (by omega) (by omega)
    have hcl2 : (nI (ρ (j + c))).toNatClampNeg = ρ (j + c) := nI_clamp (by omega)
    have hle := (og_lso_le (s0 := 9) (num := num) (ρ := ρ) (j := j) c).1
    have h77 := h7 (ρ (j + c))
    have hn : og_lso 9 num ρ j (c + 1) = min (og_lso 9 num ρ j c) (num (ρ (j + c))) := rfl
    refine .inl ⟨(nI pl, nI (og_lso 9 num ρ j (c + 1)), nI (j + (c + 1)), D), ?_, rfl⟩
    by_cases h : og_lso 9 num ρ j c ≤ num (ρ (j + c))
    · have hh : nI (og_lso 9 num ρ j c) ≤ nI (num (ρ (j + c))) := nI_le (by omega) (by omega)
      simp only [om_D_isBadFrom_L6_body, om_D_isBadFrom_b6, om_D_isBadFrom_b47, e26, hlt, hin, hcl, h1, hin2, hcl2, h3, hh, if_false, if_true, cond_true, og_nI1, Nat.add_assoc, hn, Nat.min_eq_left h]
    · have hh : ¬ nI (og_lso 9 num ρ j c) ≤ nI (num (ρ (j + c))) := nI_ge (by omega) (by omega)
      simp only [om_D_isBadFrom_L6_body, om_D_isBadFrom_b6, om_D_isBadFrom_b47, e26, hlt, hin, hcl, h1, hin2, hcl2, h3, hh, if_false, cond_true, og_nI1, Nat.add_assoc, hn, Nat.min_eq_right (show num (ρ (j + c)) ≤ og_lso 9 num ρ j c by omega)]) (by
    rintro st rfl
    exact ⟨_, by simp only [om_D_isBadFrom_L6_body, om_D_isBadFrom_b6, e26]; rw [if_pos (by rw [show j + (t - j) = t by omega]; exact Int32.le_rfl)], rfl⟩)
  unfold om_D_isBadFrom om_D_isBadFrom_b0 om_D_isBadFrom_L6
  rw [hz]
  have hle := (og_lso_le (s0 := 9) (num := num) (ρ := ρ) (j := j) (t - j)).1
  generalize og_lso 9 num ρ j (t - j) = v at hle
  have hr : nI v - nI v / 2 * 2 = nI (v % 2) := pk_rem (a := v) (d := 2) (by omega) (by omega) (by omega)
  have hc : nI (v % 2) = nI pl ↔ v % 2 = pl := nI_eq (by omega) (by omega)
  simp only [Option.bind_some, show ¬ (2 : Int32) = 0 by decide, decide_false, Bool.not_false, cond_true, hr, hc, om_D_isBadFrom_b66]
  by_cases h : v % 2 = pl
  · rw [if_pos h, decide_eq_false (fun h1 => h1 h)]; rfl
  · rw [if_neg h, decide_eq_true h]; rfl
/-- the next move from a place on -/
theorem og_closesL22 (h8 : n ≤ 8) {D : om_M} (e : D.1 46 2 = nI n) {t v : Nat} (ht : t + 1 ≤ 10) (e26 : D.1 46 26 = nI (t + 1)) (hv : D.1 64 t = nI v) (hv8 : v < 8) (e58 : D.1 58 v = N v) (x2 x3 : Int32) {q : Nat} (hq : q ≤ n) : ∃ q', om_D_closes_L22 om_F (x2, x3, nI q, D) = some (x2, x3, nI q', D) ∧ q ≤ q' ∧ q' ≤ n ∧ (∀ i, q ≤ i → i < q' → om_b (N v) i = false) ∧ (q' < n → om_b (N v) q' = true) := by
  obtain ⟨z, hz, q', q0, q1, q2, q3, q4⟩ := om_lp (f := om_D_closes_L22_body om_F) (fun c st => st = (x2, x3, nI (q + c), D) ∧ ∀ i, q ≤ i → i < q + c → om_b (N v) i = false) (fun z => ∃ q', z = (x2, x3, nI q', D) ∧ q ≤ q' ∧ q' ≤ n ∧ (∀ i, q ≤ i → i < q' → om_b (N v) i = false) ∧ (q' < n → om_b (N v) q' = true)) (n - q) (F := om_F) (Nat.lt_of_le_of_lt (show n - q ≤ 8 by omega) (by decide)) (s := (x2, x3, nI q, D)) ⟨rfl, fun i h1 h2 => absurd h1 (by omega)⟩ (by
    rintro c st hc ⟨rfl, g⟩
    have hlt : ¬ nI n ≤ nI (q + c) := nI_ge (by omega) (by omega)
    have h1 : nI (t + 1) - 1 = nI t := by rw [og_pred (by omega), Nat.add_sub_cancel]
    have hin : om_in (nI t) 10 = true := om_in_nI (by omega) (by omega)
    have hcl : (nI t).toNatClampNeg = t := nI_clamp (by omega)
    have hin2 : om_in (nI v) 8 = true := om_in_nI (by omega) (by omega)
    have hcl2 : (nI v).toNatClampNeg = v := nI_clamp (by omega)
    cases hb : om_b (N v) (q + c) with
    | true => exact .inr ⟨(x2, x3, nI (q + c), D), by simp only [om_D_closes_L22_body, om_D_closes_b22, e, hlt, if_false, e26, h1, hin, cond_true, hcl, hv, hin2, hcl2, e58, om_tst (show q + c < 32 by omega), hb, Bool.true_eq_false], q + c, rfl, by omega, by omega, g, fun _ => hb⟩
    | false =>
      refine .inl ⟨(x2, x3, nI (q + (c + 1)), D), by simp only [om_D_closes_L22_body, om_D_closes_b22, e, hlt, if_false, e26, h1, hin, cond_true, hcl, hv, hin2, hcl2, e58, om_tst (show q + c < 32 by omega), hb, if_true, og_nI1, Nat.add_assoc], rfl, fun i h2 h3 => ?_⟩
      by_cases hi : i = q + c
      · subst hi; exact hb
      · exact g i h2 (by omega)) (by
    rintro st ⟨rfl, g⟩
    refine ⟨(x2, x3, nI (q + (n - q)), D), by simp only [om_D_closes_L22_body, om_D_closes_b22, e]; rw [if_pos (by rw [show q + (n - q) = n by omega]; exact Int32.le_rfl)], q + (n - q), rfl, by omega, by omega, g, fun h => absurd h (by omega)⟩)
  subst q0
  exact ⟨q', hz, q1, q2, q3, q4⟩
def og_done (N : Nat → Int32) (num : Nat → Nat) (w p k t : Nat) (ρ : Nat → Nat) (q : Nat) : Prop := ∀ σ, og_gd N num w p k σ → (∃ i, i < t ∧ (∀ j, j < i → ρ j = σ j) ∧ ρ i < σ i) ∨ ((∀ j, j < t → ρ j = σ j) ∧ q ≤ σ t)
theorem og_closes (h8 : n ≤ 8) {D0 : om_M} (e : D0.1 46 2 = nI n) (hN0 : ∀ p, p < n → D0.1 58 p = N p) (hN : ∀ p, p < n → og_wn n (N p)) (hne : ∀ p, p < n → 1 ≤ og_cnt (om_b (N p)) n) (hnum : ∀ p, p < n → D0.1 48 p = nI (num p)) (h7 : ∀ i, num i ≤ 7) (hP : og_pr (og_dg1 N n) n < 30000) {pl : Nat} (hpl : pl < 2) {p k : Nat} (hp : p < n) (hk1 : 1 ≤ k) (hk : k ≤ 8) : ∃ r D', om_D_closes om_F (nI p) (nI (k + 1)) (nI pl) D0 = some (om_bi r, D') ∧ og_f64 D0 D' ∧ (r = false → ∀ σ, ¬ og_gd N num (1 - pl) p k σ) ∧ (r = true → ∃ ρ', og_gd N num (1 - pl) p k ρ' ∧ (∀ i, i ≤ k → D'.1 64 i = nI (ρ' i)) ∧ D'.1 46 26 = nI (k + 1) ∧ ∀ σ, og_gd N num (1 - pl) p k σ → og_le k ρ' σ) := by
  have hσn : ∀ σ, og_gd N num (1 - pl) p k σ → ∀ i, i ≤ k → σ i < n := fun σ hσ => by
    obtain ⟨-, j, s0, s1, -⟩ := hσ
    exact og_row_lt hN hp s0 s1
  obtain ⟨z, hz, hq⟩ := om_lx (f := om_D_closes_L15_body om_F) (fun μ st => ∃ t ρ q D', st = (nI (k + 1), nI pl, nI q, D') ∧ og_f64 D0 D' ∧ D'.1 46 26 = nI t ∧ (∀ i, i < t → D'.1 64 i = nI (ρ i)) ∧ t ≤ k ∧ (0 < t → og_prx N p t ρ) ∧ q ≤ n ∧ og_done N num (1 - pl) p k t ρ q ∧ (t = 0 → 0 < q ∧ p < q) ∧ μ = og_mu N n ρ t q) (fun z => ∃ D', og_f64 D0 D' ∧ ((z = .inr D' ∧ ∀ σ, ¬ og_gd N num (1 - pl) p k σ) ∨ ∃ q ρ, z = .inl (nI q, D') ∧ D'.1 46 26 = nI k ∧ (∀ i, i < k → D'.1 64 i = nI (ρ i)) ∧ og_gd N num (1 - pl) p k (og_set ρ k q) ∧ ∀ σ, og_gd N num (1 - pl) p k σ → og_le k (og_set ρ k q) σ)) (by
    rintro μ st ⟨t, ρ, q, D', rfl, g1, g2, g3, g4, g5, g6, g7, g8, rfl⟩
    have ge : D'.1 46 2 = nI n := by rw [g1.1 46 2 (by decide) (by decide), e]
    cases t with
    | zero =>
      refine .inr ⟨.inr D', ?_, D', g1, .inl ⟨rfl, fun σ hσ => ?_⟩⟩
      · simp only [om_D_closes_L15_body, om_D_closes_b15, g2]
        rw [if_pos (show nI 0 ≤ 0 from Int32.le_rfl)]
      · rcases g7 σ hσ with ⟨i, hi, -⟩ | ⟨-, h1⟩
        · exact absurd hi (Nat.not_lt_zero _)
        · obtain ⟨-, j, s0, -⟩ := hσ
          have := g8 rfl
          omega
    | succ t =>
      have hpre := g5 (Nat.succ_pos _)
      have hltn := og_prx_lt hN hp hpre
      have hv := hltn t (Nat.lt_succ_self _)
      have hgt : ¬ nI (t + 1) ≤ 0 := by
        rw [Int32.le_iff_toInt_le, nI_toInt (by omega), show (0 : Int32).toInt = 0 by decide]; omega
      obtain ⟨q', a1, a2, a3, a4, a5⟩ := og_closesL22 (N := N) h8 ge (t := t) (v := ρ t) (by omega) g2 (g3 t (Nat.lt_succ_self _)) (by omega) (by rw [g1.1 58 _ (by decide) (by omega)]; exact hN0 _ hv) (nI (k + 1)) (nI pl) g6
      have hmu := og_mu_go (N := N) (n := n) (ρ := ρ) (t := t) a2 a4
      -- the rows that go on below q' are no rows
      have hd1 : og_done N num (1 - pl) p k (t + 1) ρ q' := by
        intro σ hσ
        rcases g7 σ hσ with h | ⟨h1, h2⟩
        · exact .inl h
        · refine .inr ⟨h1, Classical.byContradiction fun h3 => ?_⟩
          have h4 := a4 (σ (t + 1)) h2 (by omega)
          obtain ⟨-, j, s0, s1, -⟩ := hσ
          have h5 := s1 t (by omega)
          rw [← h1 t (Nat.lt_succ_self _)] at h5
          unfold og_S at h5; rw [h4] at h5; cases h5
      have skip : q' < n → (∀ σ, og_gd N num (1 - pl) p k σ → (∀ j, j < t + 1 → ρ j = σ j) → σ (t + 1) ≠ q') → og_done N num (1 - pl) p k (t + 1) ρ (q' + 1) := fun hq' h σ hσ => by
        rcases hd1 σ hσ with h1 | ⟨h1, h2⟩
        · exact .inl h1
        · have := h σ hσ h1
          exact .inr ⟨h1, by omega⟩
      have hb15 : om_D_closes_L15_body om_F (nI (k + 1), nI pl, nI q, D') = om_D_closes_b61 om_F (nI (k + 1)) (nI pl) (nI q') D' := by
        simp only [om_D_closes_L15_body, om_D_closes_b15, g2]
        rw [if_neg hgt, a1]; rfl
      rw [hb15]
      unfold om_D_closes_b61
      rw [ge]
      by_cases hq' : q' = n
      · subst hq'
        refine .inl ⟨(nI (k + 1), nI pl, nI (ρ t + 1), om_up D' 46 26 (nI t)), og_mu N q' ρ t (ρ t + 1), ?_, ⟨t, ρ, ρ t + 1, om_up D' 46 26 (nI t), rfl, og_f64_many g1 _, by simp [om_up_at], fun i hi => ?_, by omega, fun h0 => ⟨hpre.1, fun i hi => hpre.2.1 i (by omega), fun i j h1 h2 => hpre.2.2 i j h1 (by omega)⟩, by omega, fun σ hσ => ?_, fun h0 => ?_, rfl⟩, ?_⟩
        · have h1 : nI (t + 1) - 1 = nI t := by rw [og_pred (by omega), Nat.add_sub_cancel]
          have h2 : (om_up D' 46 26 (nI t)).1 46 26 = nI t := by simp [om_up_at]
          have hin : om_in (nI t) 10 = true := om_in_nI (by omega) (by omega)
          have hcl : (nI t).toNatClampNeg = t := nI_clamp (by omega)
          have h3 : (om_up D' 46 26 (nI t)).1 64 t = nI (ρ t) := by
            have : (om_up D' 46 26 (nI t)).1 64 t = D'.1 64 t := by simp [om_up_at]
            rw [this]; exact g3 t (Nat.lt_succ_self _)
          rw [if_pos rfl, g2, h1]
          simp only [h2, hin, cond_true, hcl, h3, og_nI1]
        · have : (om_up D' 46 26 (nI t)).1 64 i = D'.1 64 i := by simp [om_up_at]
          rw [this]; exact g3 i (by omega)
        · rcases hd1 σ hσ with ⟨i, h1, h2, h3⟩ | ⟨h1, h2⟩
          · by_cases hit : i = t
            · subst hit; exact .inr ⟨h2, h3⟩
            · exact .inl ⟨i, by omega, h2, h3⟩
          · have := hσn σ hσ (t + 1) g4
            omega
        · subst h0
          rw [hpre.1]; omega
        · rw [hmu]; exact og_mu_pop
      · have hq'n : q' < n := by omega
        have hbit := a5 hq'n
        have hSq : og_S (N (ρ t)) q' := hbit
        have hneq : ¬ nI q' = nI n := fun h => hq' ((nI_eq (by omega) (by omega)).mp h)
        obtain ⟨r, b1, b2⟩ := og_placeIn (D := D') (t := t + 1) (p := q') (ρ := ρ) (by omega) g2 (fun i hi => ⟨g3 i hi, by have := hltn i hi; omega⟩) (by omega)
        rw [if_neg hneq, b1]
        simp only [Option.bind_some, g2, og_nI1]
        have hsz : nI (t + 1 + 1) = nI (k + 1) ↔ t + 1 = k := by rw [nI_eq (by omega) (by omega)]; omega
        have hset : ∀ l, l < t + 1 → og_set ρ (t + 1) q' l = ρ l := fun l hl => if_neg (by omega)
        have hsett : og_set ρ (t + 1) q' (t + 1) = q' := if_pos rfl
        have goon : (∀ σ, og_gd N num (1 - pl) p k σ → (∀ j, j < t + 1 → ρ j = σ j) → σ (t + 1) ≠ q') → ∃ s' m', some (Sum.inl (β := (Int32 × om_M) ⊕ om_M) (nI (k + 1), nI pl, nI (q' + 1), D')) = some (Sum.inl s') ∧ (∃ t ρ q D', s' = (nI (k + 1), nI pl, nI q, D') ∧ og_f64 D0 D' ∧ D'.1 46 26 = nI t ∧ (∀ i, i < t → D'.1 64 i = nI (ρ i)) ∧ t ≤ k ∧ (0 < t → og_prx N p t ρ) ∧ q ≤ n ∧ og_done N num (1 - pl) p k t ρ q ∧ (t = 0 → 0 < q ∧ p < q) ∧ m' = og_mu N n ρ t q) ∧ m' < og_mu N n ρ (t + 1) q := fun h => ⟨_, _, rfl, ⟨t + 1, ρ, q' + 1, D', rfl, g1, g2, g3, g4, g5, hq'n, skip hq'n h, fun h0 => absurd h0 (Nat.succ_ne_zero _), rfl⟩, by rw [hmu]; exact og_mu_skip hq'n hbit⟩
        by_cases htk : t + 1 = k
        · rw [if_pos (hsz.mpr htk)]
          rcases b2 with ⟨j, hj, hji, rfl⟩ | ⟨hno, rfl⟩
          · have hne1 : ¬ nI j = -1 := fun h => nI_pos (show j < 2 ^ 31 by omega) (by rw [h]; decide)
            have c1 := og_isBadFrom (D := D') (num := num) (j := j) (t := t + 1) (ρ := ρ) (by omega) (by omega) g2 (fun i hi => ⟨g3 i hi, by have := hltn i hi; omega⟩) (fun i hi => by rw [g1.1 48 _ (by decide) (by omega)]; exact hnum _ (hltn i hi)) h7 hpl
            rw [if_neg hne1, c1]
            simp only [Option.bind_some]
            have hiff := og_lso_lw (s0 := 9) (num := num) (ρ := ρ) (w := 1 - pl) (j := j) (k := t + 1) (fun i => Nat.le_trans (h7 i) (by omega)) hj
            have hpar : og_lso 9 num ρ j (t + 1 - j) % 2 ≠ pl ↔ og_lw num (1 - pl) j (t + 1) ρ := by
              rw [← hiff]; omega
            by_cases hL : og_lw num (1 - pl) j (t + 1) ρ
            · rw [decide_eq_true (hpar.mpr hL), if_neg (show ¬ om_bi true = 0 by decide)]
              refine .inr ⟨_, rfl, D', g1, .inr ⟨q', ρ, rfl, by rw [← htk]; exact g2, fun i hi => g3 i (by omega), ?_, fun σ hσ => ?_⟩⟩
              · rw [← htk]; exact og_gd_close hpre (by omega) hSq hj hji hL
              · rw [← htk]
                rcases hd1 σ hσ with ⟨i, h1, h2, h3⟩ | ⟨h1, h2⟩
                · exact .inr ⟨i, by omega, fun l hl => by rw [hset l (by omega)]; exact h2 l hl, by rw [hset i h1]; exact h3⟩
                · by_cases h3 : σ (t + 1) = q'
                  · left
                    intro l hl
                    by_cases hlt2 : l < t + 1
                    · rw [hset l hlt2, h1 l hlt2]
                    · have : l = t + 1 := by omega
                      subst this
                      rw [hsett, h3]
                  · exact .inr ⟨t + 1, Nat.le_refl _, fun l hl => by rw [hset l hl, h1 l hl], by rw [hsett]; omega⟩
            · rw [decide_eq_false (fun h => hL (hpar.mp h)), if_pos (show om_bi false = 0 from rfl)]
              simp only [om_D_closes_b153, om_D_closes_b195, og_nI1]
              refine .inl (goon fun σ hσ ha he => hL ?_)
              obtain ⟨hd, j', s0, s1, s2, s3, v, s4, ⟨i0, s5, s6, s7⟩, s8⟩ := hσ
              have e1 : ρ j' = ρ j := by rw [ha j' (by omega), ← s3, ← htk, he, hji]
              have e2 : j' = j := by
                refine Classical.byContradiction fun hne => ?_
                by_cases h3 : j' < j
                · exact hpre.2.2 j' j h3 hj e1
                · exact hpre.2.2 j j' (by omega) (by omega) e1.symm
              subst e2
              rw [htk]
              exact ⟨v, s4, ⟨i0, s5, s6, by rw [ha i0 (by omega)]; exact s7⟩, fun l h4 h5 => by rw [ha l (by omega)]; exact s8 l h4 h5⟩
          · rw [if_pos rfl]
            simp only [om_D_closes_b153, om_D_closes_b195, og_nI1]
            refine .inl (goon fun σ hσ ha he => ?_)
            obtain ⟨hd, j', s0, s1, s2, s3, -⟩ := hσ
            exact hno j' (by omega) (by rw [ha j' (by omega), ← s3, ← htk, he])
        · rw [if_neg (fun h => htk (hsz.mp h))]
          rcases b2 with ⟨j, hj, hji, rfl⟩ | ⟨hno, rfl⟩
          · have hne1 : ¬ nI j = -1 := fun h => nI_pos (show j < 2 ^ 31 by omega) (by rw [h]; decide)
            rw [if_neg hne1]
            simp only [om_D_closes_b195]
            exact .inl (goon fun σ hσ ha he => hσ.1 j (t + 1) hj (by omega) (by rw [← ha j hj, hji, he]))
          · rw [if_pos rfl]
            have hin : om_in (nI (t + 1)) 10 = true := om_in_nI (by omega) (by omega)
            have hcl : (nI (t + 1)).toNatClampNeg = t + 1 := nI_clamp (by omega)
            have h26 : (om_up D' 64 (t + 1) (nI q')).1 46 26 = nI (t + 1) := by
              have : (om_up D' 64 (t + 1) (nI q')).1 46 26 = D'.1 46 26 := by simp [om_up_at]
              rw [this, g2]
            simp only [om_D_closes_b195, hin, cond_true, hcl, h26, og_nI1]
            refine .inl ⟨_, _, rfl, ⟨t + 2, og_set ρ (t + 1) q', 0, om_up (om_up D' 64 (t + 1) (nI q')) 46 26 (nI (t + 2)), rfl, og_f64_many (og_f64_row g1 _ _) _, by simp [om_up_at], fun i hi => ?_, by omega, fun _ => og_prx_ext hpre (by omega) hSq hno, Nat.zero_le _, fun σ hσ => ?_, fun h0 => absurd h0 (by omega), rfl⟩, ?_⟩
            · have e1 : (om_up (om_up D' 64 (t + 1) (nI q')) 46 26 (nI (t + 2))).1 64 i = (om_up D' 64 (t + 1) (nI q')).1 64 i := by simp [om_up_at]
              rw [e1]
              by_cases hit : i = t + 1
              · subst hit
                rw [hsett]; simp [om_up_at]
              · have : (om_up D' 64 (t + 1) (nI q')).1 64 i = D'.1 64 i := by simp [om_up_at, hit]
                rw [this, hset i (by omega)]; exact g3 i (by omega)
            · rcases hd1 σ hσ with ⟨i, h1, h2, h3⟩ | ⟨h1, h2⟩
              · exact .inl ⟨i, by omega, fun l hl => by rw [hset l (by omega)]; exact h2 l hl, by rw [hset i h1]; exact h3⟩
              · by_cases h3 : σ (t + 1) = q'
                · refine .inr ⟨fun l hl => ?_, Nat.zero_le _⟩
                  by_cases hlt2 : l < t + 1
                  · rw [hset l hlt2, h1 l hlt2]
                  · have : l = t + 1 := by omega
                    subst this
                    rw [hsett, h3]
                · exact .inl ⟨t + 1, by omega, fun l hl => by rw [hset l hl, h1 l hl], by rw [hsett]; omega⟩
            · rw [hmu]; exact og_mu_push hq'n hbit hno hset hsett (hne q' hq'n)) om_F (og_mu N n (fun _ => p) 1 0) (nI (k + 1), nI pl, 0, om_up (om_up D0 64 0 (nI p)) 46 26 1) (by
    have h1 := og_mu_top (N := N) (ρ := fun _ => p) hp rfl
    have h2 : om_F = 100000 := rfl
    omega) ⟨1, fun _ => p, 0, _, rfl, og_f64_many (og_f64_row ⟨fun _ _ _ _ => rfl, rfl⟩ _ _) _, by simp [om_up_at]; decide, fun i hi => by
      have : i = 0 := by omega
      subst this
      simp [om_up_at], hk1, fun _ => ⟨rfl, fun i hi => absurd hi (by omega), fun i j h1 h2 => absurd h1 (by omega)⟩, Nat.zero_le _, fun σ hσ => .inr ⟨fun j hj => by
      obtain ⟨-, j', s0, -⟩ := hσ
      rw [show j = 0 by omega, s0], Nat.zero_le _⟩, fun h => absurd h (by decide), rfl⟩
  obtain ⟨D', q1, q2⟩ := hq
  have hb0 : om_D_closes om_F (nI p) (nI (k + 1)) (nI pl) D0 = Sum.elim (fun z2 => (bif om_in (z2.2.1 46 26) 10 then (bif om_nr 1 1 then some ((1 : Int32), om_up (om_up z2.2 64 (z2.2.1 46 26).toNatClampNeg z2.1) 46 26 (((om_up z2.2 64 (z2.2.1 46 26).toNatClampNeg z2.1).1 46 26) + 1)) else none) else none)) (fun z3 => (bif om_nr 1 0 then some (0, z3) else none)) z := by
    unfold om_D_closes om_D_closes_b0
    show ((om_it (om_D_closes_L15_body om_F) om_F (nI (k + 1), nI pl, 0, om_up (om_up D0 64 0 (nI p)) 46 26 1)).bind _) = _
    rw [hz]; rfl
  rw [hb0]
  rcases q2 with ⟨rfl, q3⟩ | ⟨q, ρ, rfl, q3, q4, q5, q6⟩
  · exact ⟨false, D', rfl, q1, fun _ => q3, fun h => (by cases h)⟩
  · have hin : om_in (nI k) 10 = true := om_in_nI (by omega) (by omega)
    have hcl : (nI k).toNatClampNeg = k := nI_clamp (by omega)
    have h26 : (om_up D' 64 k (nI q)).1 46 26 = nI k := by
      have : (om_up D' 64 k (nI q)).1 46 26 = D'.1 46 26 := by simp [om_up_at]
      rw [this, q3]
    refine ⟨true, om_up (om_up D' 64 k (nI q)) 46 26 (nI (k + 1)), ?_, og_f64_many (og_f64_row q1 _ _) _, fun h => (by cases h), fun _ => ⟨og_set ρ k q, q5, fun i hi => ?_, by simp [om_up_at], q6⟩⟩
    · simp only [Sum.elim_inl, q3, hin, cond_true, hcl, h26, og_nI1]
      rfl
    · have e1 : (om_up (om_up D' 64 k (nI q)) 46 26 (nI (k + 1))).1 64 i = (om_up D' 64 k (nI q)).1 64 i := by simp [om_up_at]
      rw [e1]
      by_cases hik : i = k
      · subst hik
        rw [show og_set ρ i q i = q from if_pos rfl]; simp [om_up_at]
      · have : (om_up D' 64 k (nI q)).1 64 i = D'.1 64 i := by simp [om_up_at, hik]
        rw [this, show og_set ρ k q i = ρ i from if_neg hik]; exact q4 i (by omega)
end MD
