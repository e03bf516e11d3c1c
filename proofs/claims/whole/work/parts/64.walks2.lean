section AN
variable {n m : Nat} {M : om_M} {σ : Int32}
theorem og_mt_sub {P P' : Int → Prop} {v : Int32} (h1 : ∀ x, P x → P' x) (h2 : ∀ x, P' x → ∃ y, y ≤ x ∧ P y) (hv : og_mt P v) : og_mt P' v := by
  rcases hv with ⟨a, b⟩ | ⟨a, b, c, d⟩
  · exact .inl ⟨a, fun x hx => by obtain ⟨y, -, hy⟩ := h2 x hx; exact b y hy⟩
  · exact .inr ⟨a, b, h1 _ c, fun x hx => by obtain ⟨y, hy1, hy2⟩ := h2 x hx; have := d y hy2; omega⟩
def og_Cs (M : om_M) (m i q : Nat) (x : Int) : Prop := (¬ ∃ k, k < m ∧ M.1 4 k = nI q) ∧ M.1 65 (8 * i + q) ≠ 100000 ∧ x = (M.1 65 (8 * i + q)).toInt
theorem og_am2 (hB : om_Bd M n m) {P : Nat → Nat → Int → Prop} {M1 : om_M} (h1 : om_fr og_p66 M M1) (hT : ∀ i q, i < n → q < n → M.1 65 (8 * i + q) = 100000 ∨ (-45 ≤ (M.1 65 (8 * i + q)).toInt ∧ (M.1 65 (8 * i + q)).toInt ≤ 45)) (hP : ∀ i q, i < n → q < n → og_mt (P i q) (M1.1 66 (8 * i + q))) : ∃ M', om_D_addMoves_L160 om_F (0, M1) = some M' ∧ om_fr og_p66 M M' ∧ ∀ i q, i < n → q < n → og_mt (fun x => P i q x ∨ og_Cs M m i q x) (M'.1 66 (8 * i + q)) := by
  have ⟨⟨h8, h20, e10, e11, e2, e6⟩, hp, ht, hBa⟩ := hB
  have hF : n < om_F := Nat.lt_of_le_of_lt h8 (by decide)
  obtain ⟨z, hz, q1, q2⟩ := om_lp (f := om_D_addMoves_L160_body om_F) (fun t s => ∃ M', s = (nI t, M') ∧ om_fr og_p66 M M' ∧ ∀ i q, i < n → q < n → og_mt (fun x => P i q x ∨ (q < t ∧ og_Cs M m i q x)) (M'.1 66 (8 * i + q))) (fun M' : om_M => om_fr og_p66 M M' ∧ ∀ i q, i < n → q < n → og_mt (fun x => P i q x ∨ og_Cs M m i q x) (M'.1 66 (8 * i + q))) n (F := om_F) hF (s := (0, M1)) ⟨M1, rfl, h1, fun i q hi hq => og_mt_iff (fun x => ⟨fun h => .inl h, fun h => h.elim id fun h => absurd h.1 (by omega)⟩) (hP i q hi hq)⟩ (by
    rintro t s ht ⟨M2, rfl, g1, g2⟩
    have hlt : ¬ nI n ≤ nI t := nI_ge ht (by omega)
    have f2 : M2.1 46 2 = nI n := by rw [g1.1 46 2 rfl, e2]
    obtain ⟨z2, hz2, M3, rfl, r1, r2⟩ := om_lp (f := om_D_addMoves_L170_body om_F) (fun j s => ∃ M', s = (nI t, nI j, M') ∧ om_fr og_p66 M M' ∧ ∀ i q, i < n → q < n → og_mt (fun x => P i q x ∨ ((q < t ∨ (q = t ∧ i < j)) ∧ og_Cs M m i q x)) (M'.1 66 (8 * i + q))) (fun z => ∃ M', z = (nI t, M') ∧ om_fr og_p66 M M' ∧ ∀ i q, i < n → q < n → og_mt (fun x => P i q x ∨ (q < t + 1 ∧ og_Cs M m i q x)) (M'.1 66 (8 * i + q))) n (F := om_F) hF (s := (nI t, 0, M2)) ⟨M2, rfl, g1, fun i q hi hq => og_mt_iff (fun x => ⟨fun h => h.imp id fun ⟨h1, h2⟩ => ⟨.inl h1, h2⟩, fun h => h.imp id fun ⟨h1, h2⟩ => ⟨by omega, h2⟩⟩) (g2 i q hi hq)⟩ (by
      rintro j s hj ⟨M3, rfl, r1, r2⟩
      have f2 : M3.1 46 2 = nI n := by rw [r1.1 46 2 rfl, e2]
      have hlt2 : ¬ nI n ≤ nI j := nI_ge hj (by omega)
      obtain ⟨c, hc1, hc2⟩ := og_hasArrows hB (og_sc_p66 r1) t
      cases c with
      | true =>
        refine .inr ⟨(nI t, M3), by simp [om_D_addMoves_L170_body, om_D_addMoves_b170, f2, hlt2, hc1, om_bi], M3, rfl, r1, fun i q hi hq => og_mt_iff (fun x => ⟨fun h => h.imp id fun ⟨h1, h2⟩ => ⟨by omega, h2⟩, fun h => h.imp id fun ⟨h1, h2⟩ => ⟨?_, h2⟩⟩) (r2 i q hi hq)⟩
        by_cases hqt : q = t
        · subst hqt; exact absurd (hc2.mp rfl) h2.1
        · omega
      | false =>
        have hno : ¬ ∃ k, k < m ∧ M.1 4 k = nI t := fun h => by have := hc2.mpr h; cases this
        obtain ⟨ia1, ia2, ia3⟩ := og_ix j t (by omega) (by omega)
        have f65 : ∀ t, M3.1 65 t = M.1 65 t := fun t => r1.1 65 t rfl
        have hstep : om_D_addMoves_L170_body om_F (nI t, nI j, M3) = some (.inl (nI t, nI (j + 1), om_up M3 66 (8 * j + t) (if M3.1 66 (8 * j + t) ≤ M.1 65 (8 * j + t) then M3.1 66 (8 * j + t) else M.1 65 (8 * j + t)))) := by
          simp only [om_D_addMoves_L170_body, om_D_addMoves_b170, om_D_addMoves_b246, f2, hlt2, if_false, hc1, Option.bind_some, om_bi, cond_false, if_true, ia1, ia2, ia3, cond_true, f65, og_nI1]
          split <;> rfl
        refine .inl ⟨_, hstep, _, rfl, om_fr_up r1 rfl, fun i q hi hq => ?_⟩
        rw [om_up_at, if_pos rfl]
        by_cases hix : 8 * i + q = 8 * j + t
        · have hij : i = j := by omega
          have hqb : q = t := by omega
          subst hij; subst hqb
          rw [if_pos rfl]
          have hold := r2 i q hi hq
          rcases hT i q hi hq with h1 | ⟨h1, h1'⟩
          · have hcase : (if M3.1 66 (8 * i + q) ≤ M.1 65 (8 * i + q) then M3.1 66 (8 * i + q) else M.1 65 (8 * i + q)) = M3.1 66 (8 * i + q) := by
              rw [h1, if_pos]
              rw [Int32.le_iff_toInt_le, og_top]
              rcases hold with ⟨h, -⟩ | ⟨-, h, -⟩
              · rw [h, og_top]; omega
              · omega
            rw [hcase]
            refine og_mt_iff (fun x => ⟨fun h => h.imp id fun ⟨h1, h2⟩ => ⟨by omega, h2⟩, fun h => h.elim .inl fun ⟨h3, h2⟩ => ?_⟩) hold
            exact absurd h1 h2.2.1
          · refine og_mt_ins hold (by omega) fun x => ⟨fun h => ?_, fun h => ?_⟩
            · rcases h with h | ⟨h3, h2⟩
              · exact .inl (.inl h)
              · exact .inr h2.2.2
            · rcases h with (h | ⟨h3, h2⟩) | h
              · exact .inl h
              · exact .inr ⟨by omega, h2⟩
              · exact .inr ⟨.inr ⟨rfl, by omega⟩, hno, fun h0 => by rw [h0, og_top] at h1'; omega, h⟩
        · rw [if_neg hix]
          refine og_mt_iff (fun x => ⟨fun h => h.imp id fun ⟨h1, h2⟩ => ⟨by omega, h2⟩, fun h => h.imp id fun ⟨h1, h2⟩ => ⟨?_, h2⟩⟩) (r2 i q hi hq)
          by_cases hkk : q = t ∧ i = j
          · obtain ⟨rfl, rfl⟩ := hkk
            exact absurd rfl hix
          · omega) (by
      rintro s ⟨M3, rfl, r1, r2⟩
      have f2 : M3.1 46 2 = nI n := by rw [r1.1 46 2 rfl, e2]
      exact ⟨_, by simp only [om_D_addMoves_L170_body, om_D_addMoves_b170, f2]; rw [if_pos Int32.le_rfl], M3, rfl, r1, fun i q hi hq => og_mt_iff (fun x => ⟨fun h => h.imp id fun ⟨h1, h2⟩ => ⟨by omega, h2⟩, fun h => h.imp id fun ⟨h1, h2⟩ => ⟨by omega, h2⟩⟩) (r2 i q hi hq)⟩)
    refine .inl ⟨(nI (t + 1), M3), ?_, M3, rfl, r1, r2⟩
    simp only [om_D_addMoves_L160_body, om_D_addMoves_b160, om_D_addMoves_b253, f2, hlt, if_false]
    unfold om_D_addMoves_L170
    rw [hz2]
    simp only [Option.bind_some, og_nI1]) (by
    rintro s ⟨M2, rfl, g1, g2⟩
    have f2 : M2.1 46 2 = nI n := by rw [g1.1 46 2 rfl, e2]
    exact ⟨_, by simp only [om_D_addMoves_L160_body, om_D_addMoves_b160, f2]; rw [if_pos Int32.le_rfl], g1, fun i q hi hq => og_mt_iff (fun x => ⟨fun h => h.imp id And.right, fun h => h.imp id fun h => ⟨hq, h⟩⟩) (g2 i q hi hq)⟩)
  exact ⟨z, hz, q1, q2⟩
theorem og_addMoves (hB : om_Bd M n m) (hσ : og_sg σ) (hU : ∀ p, (∃ k, k < m ∧ M.1 4 k = nI p) → ∃ k, k < m ∧ og_Um M k ∧ M.1 4 k = nI p) (hR : og_Rok n (og_E M m (og_Um M))) {t : Nat} (ht : t < 8) (hT : ∀ i q, i < n → q < n → og_mt (og_wk (og_GR n (og_E M m (og_Um M))) (og_us (og_E M m (og_Um M)) σ) t i q) (M.1 65 (8 * i + q))) (hfar : ∀ j, j < 64 → M.1 66 j = 100000) : ∃ M', om_D_addMoves om_F σ M = some M' ∧ om_fr og_p66 M M' ∧ ∀ i q, i < n → q < n → og_mt (og_wk (og_GR n (og_E M m (og_Um M))) (og_us (og_E M m (og_Um M)) σ) (t + 1) i q) (M'.1 66 (8 * i + q)) := by
  have ⟨⟨h8, h20, e10, e11, e2, e6⟩, hp, htt, hBa⟩ := hB
  have hb5 : ∀ {k p q : Nat} {x : Int}, og_wk (og_GR n (og_E M m (og_Um M))) (og_us (og_E M m (og_Um M)) σ) k p q x → -(5 * (k : Int)) ≤ x ∧ x ≤ 5 * k := fun h => og_wk_b5' (fun p q h => og_us_b hR hσ h) h
  have hTb : ∀ i q, i < n → q < n → M.1 65 (8 * i + q) = 100000 ∨ (-45 ≤ (M.1 65 (8 * i + q)).toInt ∧ (M.1 65 (8 * i + q)).toInt ≤ 45) := fun i q hi hq => by
    rcases hT i q hi hq with ⟨h, -⟩ | ⟨-, -, h, -⟩
    · exact .inl h
    · have := hb5 h
      exact .inr (by omega)
  obtain ⟨M1, a1, a2, a3⟩ := og_am1 h8 h20 hBa e2 e6 hσ hTb hfar
  obtain ⟨M2, b1, b2, b3⟩ := og_am2 hB a2 hTb a3
  refine ⟨M2, ?_, b2, fun i q hi hq => og_mt_sub (fun x hx => ?_) (fun x hx => ?_) (b3 i q hi hq)⟩
  · unfold om_D_addMoves om_D_addMoves_b0
    rw [a1]
    simp only [Option.bind_some, b1]
  · rcases hx with ⟨k, hk, hu, a, ha, h1, h2, h3, h4⟩ | ⟨h1, h2, h3⟩
    · obtain ⟨h49, h50, h51, -, -, -⟩ := hBa.1 k hk
      rcases hT i a hi ha with ⟨h, -⟩ | ⟨-, -, h, -⟩
      · exact absurd h h3
      · have hE : og_E M m (og_Um M) a q (M.1 6 k) := .inl ⟨k, hk, hu, by rw [← h49, h1], by rw [← h50, h2], rfl⟩
        refine ⟨a, _, h, ⟨ha, hq, _, hE⟩, ?_⟩
        unfold og_us
        rw [og_wt_eq hR ha hq hE, h4, h51]
    · rcases hT i q hi hq with ⟨h, -⟩ | ⟨-, -, h, -⟩
      · exact absurd h h2
      · have hE : og_E M m (og_Um M) q q 0 := .inr ⟨fun k hk _ h => h1 ⟨k, hk, h⟩, rfl, rfl⟩
        refine ⟨q, _, h, ⟨hq, hq, _, hE⟩, ?_⟩
        unfold og_us
        rw [og_wt_eq hR hq hq hE, h3, show (0 : Int32).toInt = 0 by decide, Int.mul_zero, Int.add_zero]
  · obtain ⟨r, y, h1, ⟨hr, -, w, hE⟩, h3⟩ := hx
    rcases hT i r hi hr with ⟨-, h⟩ | ⟨-, hv, h, hmin⟩
    · exact absurd h1 (h y)
    · have hvy := hmin y h1
      have hne : M.1 65 (8 * i + r) ≠ 100000 := fun h0 => by rw [h0, og_top] at hv; omega
      have hus : og_us (og_E M m (og_Um M)) σ r q = σ.toInt * w.toInt := by
        unfold og_us; rw [og_wt_eq hR hr hq hE]
      rcases hE with ⟨k, hk, hu, e4, e5, e6'⟩ | ⟨e4, e5, e6'⟩
      · obtain ⟨h49, h50, h51, -, -, -⟩ := hBa.1 k hk
        exact ⟨_, by rw [h3, hus, ← e6', ← h51]; exact Int.add_le_add_right hvy _, .inl ⟨k, hk, hu, r, hr, by rw [h49, e4], by rw [h50, e5], hne, rfl⟩⟩
      · subst e5
        refine ⟨_, ?_, .inr ⟨fun h => ?_, hne, rfl⟩⟩
        · rw [h3, hus, e6', show (0 : Int32).toInt = 0 by decide, Int.mul_zero, Int.add_zero]; exact hvy
        · obtain ⟨k, hk, hu, h4⟩ := hU _ h
          exact e4 k hk hu h4
end AN
