section WP
variable {n m : Nat} {σ : Int32}
theorem og_EU_fr {M M' : om_M} (h : om_fr og_pq M M') (m : Nat) : og_E M' m (og_Um M') = og_E M m (og_Um M) := by
  funext p q w
  refine propext (og_E_fr (og_sc_pq h) (fun k _ => ?_) p q w)
  unfold og_Um
  rw [h.1 46 18 rfl, h.1 4 k rfl]
  exact ⟨fun ⟨h0, h3⟩ => ⟨h0, fun p h1 h2 => by rw [h.1 59 p rfl]; exact h3 p h1 h2⟩, fun ⟨h0, h3⟩ => ⟨h0, fun p h1 h2 => by have := h3 p h1 h2; rwa [h.1 59 p rfl] at this⟩⟩
theorem og_wo2 (M : om_M) (x3 x4 x5 x6 : Int32) : ∃ M', om_D_worth_L128 om_F (x3, x4, x5, x6, 0, M) = some (x3, x4, x5, x6, M') ∧ (∀ j, j < 64 → M'.1 66 j = 100000) ∧ om_fr og_p66 M M' := by
  obtain ⟨z, hz, M', rfl, q1, q2⟩ := om_lp (f := om_D_worth_L128_body om_F) (fun i s => ∃ M', s = (x3, x4, x5, x6, nI i, M') ∧ (∀ j, j < i → M'.1 66 j = 100000) ∧ om_fr og_p66 M M') (fun z => ∃ M', z = (x3, x4, x5, x6, M') ∧ (∀ j, j < 64 → M'.1 66 j = 100000) ∧ om_fr og_p66 M M') 64 (F := om_F) (by decide) (s := (x3, x4, x5, x6, 0, M)) ⟨M, rfl, fun j hj => absurd hj (by omega), om_fr_rfl⟩ (by
    rintro i s hi ⟨M', rfl, g1, g2⟩
    have hin : om_in (nI i) 64 = true := om_in_nI (by omega) (by omega)
    have hcl : (nI i).toNatClampNeg = i := nI_clamp (by omega)
    have hlt : ¬ (64 : Int32) ≤ nI i := nI_ge (b := 64) hi (by omega)
    refine .inl ⟨(x3, x4, x5, x6, nI (i + 1), om_up M' 66 i 100000), by simp only [om_D_worth_L128_body, om_D_worth_b128, hlt, hin, hcl, if_false, cond_true, og_nI1], _, rfl, fun j hj => ?_, om_fr_up g2 rfl⟩
    by_cases hji : j = i
    · subst hji; simp [om_up_at]
    · simp [om_up_at, hji, g1 j (by omega)]) (by
    rintro s ⟨M', rfl, g1, g2⟩
    exact ⟨_, by simp only [om_D_worth_L128_body, om_D_worth_b128]; rw [if_pos (by decide)], M', rfl, g1, g2⟩)
  exact ⟨M', hz, q1, q2⟩
theorem og_wo3 (M : om_M) (x3 x4 x5 x6 : Int32) : ∃ M', om_D_worth_L243 om_F (x3, x4, x5, x6, 0, M) = some (x3, x4, x5, x6, M') ∧ (∀ j, j < 64 → M'.1 65 j = M.1 66 j) ∧ (∀ a j, a ≠ 65 → M'.1 a j = M.1 a j) ∧ M'.2 = M.2 := by
  obtain ⟨z, hz, M', rfl, q1, q2, q3⟩ := om_lp (f := om_D_worth_L243_body om_F) (fun i s => ∃ M', s = (x3, x4, x5, x6, nI i, M') ∧ (∀ j, j < i → M'.1 65 j = M.1 66 j) ∧ (∀ a j, a ≠ 65 → M'.1 a j = M.1 a j) ∧ M'.2 = M.2) (fun z => ∃ M', z = (x3, x4, x5, x6, M') ∧ (∀ j, j < 64 → M'.1 65 j = M.1 66 j) ∧ (∀ a j, a ≠ 65 → M'.1 a j = M.1 a j) ∧ M'.2 = M.2) 64 (F := om_F) (by decide) (s := (x3, x4, x5, x6, 0, M)) ⟨M, rfl, fun j hj => absurd hj (by omega), fun _ _ _ => rfl, rfl⟩ (by
    rintro i s hi ⟨M', rfl, g1, g2, g3⟩
    have hin : om_in (nI i) 64 = true := om_in_nI (by omega) (by omega)
    have hcl : (nI i).toNatClampNeg = i := nI_clamp (by omega)
    have hlt : ¬ (64 : Int32) ≤ nI i := nI_ge (b := 64) hi (by omega)
    refine .inl ⟨(x3, x4, x5, x6, nI (i + 1), om_up M' 65 i (M.1 66 i)), by simp only [om_D_worth_L243_body, om_D_worth_b243, hlt, hin, hcl, if_false, cond_true, og_nI1, g2 66 i (by decide)], _, rfl, fun j hj => ?_, fun a j ha => by simp [om_up_at, ha, g2 a j ha], g3⟩
    by_cases hji : j = i
    · subst hji; simp [om_up_at]
    · simp [om_up_at, hji, g1 j (by omega)]) (by
    rintro s ⟨M', rfl, g1, g2, g3⟩
    exact ⟨_, by simp only [om_D_worth_L243_body, om_D_worth_b243]; rw [if_pos (by decide)], M', rfl, g1, g2, g3⟩)
  exact ⟨M', hz, q1, q2, q3⟩
theorem og_wo4 (M : om_M) (x3 x4 x5 : Int32) : ∃ M', om_D_worth_L74 om_F (x3, x4, x5, 0, M) = some (x3, x4, x5, M') ∧ (∀ j, j < 64 → M'.1 65 j = if j / 8 = j % 8 then 0 else 100000) ∧ (∀ a j, a ≠ 65 → M'.1 a j = M.1 a j) ∧ M'.2 = M.2 := by
  obtain ⟨z, hz, M', rfl, q1, q2, q3⟩ := om_lp (f := om_D_worth_L74_body om_F) (fun i s => ∃ M', s = (x3, x4, x5, nI i, M') ∧ (∀ j, j < i → M'.1 65 j = if j / 8 = j % 8 then 0 else 100000) ∧ (∀ a j, a ≠ 65 → M'.1 a j = M.1 a j) ∧ M'.2 = M.2) (fun z => ∃ M', z = (x3, x4, x5, M') ∧ (∀ j, j < 64 → M'.1 65 j = if j / 8 = j % 8 then 0 else 100000) ∧ (∀ a j, a ≠ 65 → M'.1 a j = M.1 a j) ∧ M'.2 = M.2) 64 (F := om_F) (by decide) (s := (x3, x4, x5, 0, M)) ⟨M, rfl, fun j hj => absurd hj (by omega), fun _ _ _ => rfl, rfl⟩ (by
    rintro i s hi ⟨M', rfl, g1, g2, g3⟩
    have hin : om_in (nI i) 64 = true := om_in_nI (by omega) (by omega)
    have hcl : (nI i).toNatClampNeg = i := nI_clamp (by omega)
    have hlt : ¬ (64 : Int32) ≤ nI i := nI_ge (b := 64) hi (by omega)
    have hd : nI i / 8 = nI (i / 8) := pk_div (a := i) (d := 8) (by omega) (by omega) (by omega)
    have hr : nI i - nI i / 8 * 8 = nI (i % 8) := pk_rem (a := i) (d := 8) (by omega) (by omega) (by omega)
    have he : nI (i / 8) = nI (i % 8) ↔ i / 8 = i % 8 := nI_eq (by omega) (by omega)
    rw [hd] at hr
    refine .inl ⟨(x3, x4, x5, nI (i + 1), om_up M' 65 i (if i / 8 = i % 8 then 0 else 100000)), ?_, _, rfl, fun j hj => ?_, fun a j ha => by simp [om_up_at, ha, g2 a j ha], g3⟩
    · simp only [om_D_worth_L74_body, om_D_worth_b74, om_D_worth_b106, hlt, hin, hcl, if_false, cond_true, og_nI1, show ¬ (8 : Int32) = 0 by decide, decide_false, Bool.not_false, hd, hr, he]
      split <;> rfl
    · by_cases hji : j = i
      · subst hji; simp [om_up_at]
      · simp [om_up_at, hji, g1 j (by omega)]) (by
    rintro s ⟨M', rfl, g1, g2, g3⟩
    exact ⟨_, by simp only [om_D_worth_L74_body, om_D_worth_b74]; rw [if_pos (by decide)], M', rfl, g1, g2, g3⟩)
  exact ⟨M', hz, q1, q2, q3⟩
theorem og_Pw_next {W : Nat → Nat → Nat → Int → Prop} {S : Nat → Prop} {n L : Nat} (hL : 1 ≤ L) (l : Nat) (z : Int) : og_Pw W S n L n l z ↔ og_Pw W S n (L + 1) 0 l z := by
  unfold og_Pw
  constructor
  · rintro (⟨h1, h2, h3⟩ | ⟨h1, v, h2, h3, h4⟩)
    · exact .inl ⟨h1, by omega, h3⟩
    · subst h1; exact .inl ⟨hL, by omega, v, h2, h3, h4⟩
  · rintro (⟨h1, h2, v, h3, h4, h5⟩ | ⟨h1, v, h2, -⟩)
    · by_cases h : l = L
      · subst h; exact .inr ⟨rfl, v, h3, h4, h5⟩
      · exact .inl ⟨h1, by omega, v, h3, h4, h5⟩
    · omega
theorem og_wo5 {M : om_M} (hB : om_Bd M n m) (hσ : og_sg σ) (hU : ∀ p, (∃ k, k < m ∧ M.1 4 k = nI p) → ∃ k, k < m ∧ og_Um M k ∧ M.1 4 k = nI p) (hR : og_Rok n (og_E M m (og_Um M))) (x3 x4 : Int32) (h65 : ∀ j, j < 64 → M.1 65 j = if j / 8 = j % 8 then 0 else 100000) (h23 : M.1 46 23 = 0) (h24 : M.1 46 24 = 0) : ∃ M', om_D_worth_L116 om_F (x3, x4, σ, 1, M) = some (x3, σ, M') ∧ om_fr og_pq M M' ∧ og_bt (og_Pw (fun k => og_wk (og_GR n (og_E M m (og_Um M))) (og_us (og_E M m (og_Um M)) σ) k) (og_S x4) n (n + 1) 0) (M'.1 46 23) (M'.1 46 24) := by
  have ⟨⟨h8, h20, e10, e11, e2, e6⟩, hp, ht, hBa⟩ := hB
  have hF : n < om_F := Nat.lt_of_le_of_lt h8 (by decide)
  obtain ⟨z, hz, M', rfl, q1, q2⟩ := om_lp (f := om_D_worth_L116_body om_F) (fun i s => ∃ M', s = (x3, x4, σ, nI (i + 1), M') ∧ om_fr og_pq M M' ∧ (∀ a q, a < n → q < n → og_mt (og_wk (og_GR n (og_E M m (og_Um M))) (og_us (og_E M m (og_Um M)) σ) i a q) (M'.1 65 (8 * a + q))) ∧ og_bt (og_Pw (fun k => og_wk (og_GR n (og_E M m (og_Um M))) (og_us (og_E M m (og_Um M)) σ) k) (og_S x4) n (i + 1) 0) (M'.1 46 23) (M'.1 46 24)) (fun z => ∃ M', z = (x3, σ, M') ∧ om_fr og_pq M M' ∧ og_bt (og_Pw (fun k => og_wk (og_GR n (og_E M m (og_Um M))) (og_us (og_E M m (og_Um M)) σ) k) (og_S x4) n (n + 1) 0) (M'.1 46 23) (M'.1 46 24)) n (F := om_F) hF (s := (x3, x4, σ, 1, M)) ⟨M, rfl, om_fr_rfl, fun a q ha hq => (by
      rw [h65 _ (by omega), show (8 * a + q) / 8 = a by omega, show (8 * a + q) % 8 = q by omega]
      by_cases haq : a = q
      · rw [if_pos haq]
        exact .inr ⟨by decide, by decide, ⟨haq, by decide⟩, fun x hx => by rw [hx.2]; decide⟩
      · rw [if_neg haq]; exact .inl ⟨rfl, fun x hx => haq hx.1⟩), .inl ⟨h24, fun l z h => by
      rcases h with ⟨h1, h2, -⟩ | ⟨-, v, h, -⟩
      · omega
      · omega⟩⟩ (by
    rintro i s hi ⟨M1, rfl, g1, g2, g3⟩
    have f2 : M1.1 46 2 = nI n := by rw [g1.1 46 2 rfl, e2]
    have hlt : ¬ nI n < nI (i + 1) := by
      rw [nI_ltI (by omega) (by omega)]; omega
    obtain ⟨M2, a1, a2, a3⟩ := og_wo2 M1 x3 x4 σ (nI (i + 1))
    have s2 : om_fr og_pq M M2 := om_fr_tr g1 (om_fr_mono a3 fun _ _ h => og_p66_pq h)
    have hE2 := og_EU_fr s2 m
    obtain ⟨M3, b1, b2, b3⟩ := og_addMoves (M := M2) (om_Bd_fr hB (og_sc_pq s2)) hσ (fun p ⟨k, hk, h⟩ => by
      rw [s2.1 4 k rfl] at h
      obtain ⟨k', h1, h2, h3⟩ := hU p ⟨k, hk, h⟩
      refine ⟨k', h1, ?_, by rw [s2.1 4 k' rfl, h3]⟩
      unfold og_Um at h2 ⊢
      rw [s2.1 46 18 rfl, s2.1 4 k' rfl]
      exact ⟨h2.1, fun p h4 h5 => by rw [s2.1 59 p rfl]; exact h2.2 p h4 h5⟩) (by rw [hE2]; exact hR) (t := i) (by omega) (by rw [hE2]; exact fun a q ha hq => by rw [a3.1 65 _ rfl]; exact g2 a q ha hq) a2
    rw [hE2] at b3
    have s3 : om_fr og_pq M M3 := om_fr_tr s2 (om_fr_mono b2 fun _ _ h => og_p66_pq h)
    have k23 : M3.1 46 23 = M1.1 46 23 := by rw [b2.1 46 23 rfl, a3.1 46 23 rfl]
    have k24 : M3.1 46 24 = M1.1 46 24 := by rw [b2.1 46 24 rfl, a3.1 46 24 rfl]
    obtain ⟨M4, c1, c2, c3, c4⟩ := og_wo1 (M := M3) (W := fun k => og_wk (og_GR n (og_E M m (og_Um M))) (og_us (og_E M m (og_Um M)) σ) k) h8 (by rw [s3.1 46 2 rfl, e2]) (L := i + 1) (by omega) (by omega) (x3 := x3) (x4 := x4) (x5 := σ) (fun v hv => by rw [show 9 * v = 8 * v + v by omega]; exact b3 v v hv hv) (by rw [k23, k24]; exact g3)
    obtain ⟨M5, d1, d2, d3, d4⟩ := og_wo3 M4 x3 x4 σ (nI (i + 1))
    refine .inl ⟨(x3, x4, σ, nI (i + 1 + 1), M5), ?_, M5, rfl, ⟨fun a j h => ?_, by rw [d4, c3, s3.2]⟩, fun a q ha hq => ?_, ?_⟩
    · simp only [om_D_worth_L116_body, om_D_worth_b116, f2, hlt, if_false, a1, Option.bind_some, b1, c1, d1, og_nI1]
    · have h5 : a ≠ 65 := fun h0 => by subst h0; cases h
      have h6 : ¬ (a = 46 ∧ (j = 23 ∨ j = 24)) := fun ⟨h0, h1⟩ => by rcases h1 with h1 | h1 <;> subst h0 h1 <;> cases h
      rw [d3 a j h5, c2 a j h6, s3.1 a j h]
    · rw [d2 _ (by omega), c2 66 _ (by omega)]; exact b3 a q ha hq
    · rw [d3 46 23 (by decide), d3 46 24 (by decide)]
      exact og_bt_iff (og_Pw_next (by omega)) c4) (by
    rintro s ⟨M1, rfl, g1, g2, g3⟩
    have f2 : M1.1 46 2 = nI n := by rw [g1.1 46 2 rfl, e2]
    have hlt : nI n < nI (n + 1) := (nI_ltI (by omega) (by omega)).mpr (by omega)
    exact ⟨_, by simp only [om_D_worth_L116_body, om_D_worth_b116, f2]; rw [if_pos hlt], M1, rfl, g1, g3⟩)
  exact ⟨M', hz, q1, q2⟩
end WP
