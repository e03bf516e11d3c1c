/-! ===== breaker ===== -/
section BK
variable {n m : Nat}
theorem og_findBreaker (h8 : n ≤ 8) {num : Nat → Nat} {C : om_M} (e70 : C.1 7 0 = nI n) (hN : ∀ p, p < n → og_wn n (C.1 11 p)) (hnum : ∀ p, p < n → C.1 2 p = nI (num p)) (h7 : ∀ i, num i ≤ 7) {w : Nat} (hw : w < 2) {p : Nat} (hp : p < n) (hex : ∃ k ρ, 1 ≤ k ∧ k ≤ n ∧ og_gd (C.1 11) num w p k ρ) : ∃ k ρ C', om_O_findBreaker om_F (nI w) (nI p) C = some C' ∧ (∀ a j, a ≠ 12 → a ≠ 13 → C'.1 a j = C.1 a j) ∧ C'.2 = C.2 ∧ C'.1 12 1 = nI k ∧ 1 ≤ k ∧ k ≤ n ∧ og_gd (C.1 11) num w p k ρ ∧ (∀ i, i ≤ k → C'.1 13 i = nI (ρ i)) ∧ (∀ k' σ, k' < k → ¬ og_gd (C.1 11) num w p k' σ) ∧ ∀ σ, og_gd (C.1 11) num w p k σ → og_le k ρ σ := by
  obtain ⟨K, ρK, hK1, hKn, hKg⟩ := hex
  obtain ⟨z, hz, k, ρ, C', q0, q1⟩ := om_lp (f := om_O_findBreaker_L11_body om_F) (fun i st => ∃ C', st = (nI w, nI (i + 1), C') ∧ (∀ a j, a ≠ 12 → a ≠ 13 → C'.1 a j = C.1 a j) ∧ C'.2 = C.2 ∧ C'.1 13 0 = nI p ∧ ∀ k' σ, k' < i + 1 → ¬ og_gd (C.1 11) num w p k' σ) (fun z => ∃ k ρ C', z = .inl C' ∧ (∀ a j, a ≠ 12 → a ≠ 13 → C'.1 a j = C.1 a j) ∧ C'.2 = C.2 ∧ C'.1 12 1 = nI k ∧ 1 ≤ k ∧ k ≤ n ∧ og_gd (C.1 11) num w p k ρ ∧ (∀ i, i ≤ k → C'.1 13 i = nI (ρ i)) ∧ (∀ k' σ, k' < k → ¬ og_gd (C.1 11) num w p k' σ) ∧ ∀ σ, og_gd (C.1 11) num w p k σ → og_le k ρ σ) n (F := om_F) (Nat.lt_of_le_of_lt h8 (by decide)) (s := (nI w, 1, om_up C 13 0 (nI p))) ⟨om_up C 13 0 (nI p), rfl, fun a j h12 h13 => by rw [om_up_at, if_neg h13], rfl, by simp [om_up_at], fun k' σ hk' hg => by
      obtain ⟨-, j, -, -, hj, -⟩ := hg
      omega⟩ (by
    rintro i st hi ⟨C', rfl, g1, g2, g3, g4⟩
    have e7 : C'.1 7 0 = nI n := by rw [g1 7 0 (by decide) (by decide), e70]
    have hlt : ¬ nI n < nI (i + 1) := by rw [nI_ltI (by omega) (by omega)]; omega
    have u11 : (om_up C' 12 1 (nI (i + 1))).1 11 = C.1 11 := funext fun j => by
      rw [om_up_at, if_neg (by decide)]; exact g1 11 j (by decide) (by decide)
    have u2 : ∀ j, (om_up C' 12 1 (nI (i + 1))).1 2 j = C.1 2 j := fun j => by
      rw [om_up_at, if_neg (by decide)]; exact g1 2 j (by decide) (by decide)
    obtain ⟨r, C2, a1, a2, a3, a4, a5⟩ := og_ext (C0 := om_up C' 12 1 (nI (i + 1))) (num := num) h8 (by rw [om_up_at, if_neg (by decide)]; exact e7) (by rw [u11]; exact hN) (fun q hq => by rw [u2]; exact hnum q hq) h7 hw hp (k := i + 1) (by omega) (by simp [om_up_at]) 12 1 (fun _ => p) (om_up C' 12 1 (nI (i + 1))) (by omega) (Nat.le_refl _) (by omega) ⟨fun _ _ _ => rfl, rfl⟩ (fun l hl => by
      have : l = 0 := by omega
      subst this
      rw [om_up_at, if_neg (by decide)]; exact g3) ⟨rfl, fun l hl => absurd hl (by omega), fun l l' h1 h2 => absurd h1 (by omega)⟩
    rw [u11] at a4 a5
    have f1 : ∀ a j, a ≠ 12 → a ≠ 13 → C2.1 a j = C.1 a j := fun a j h12 h13 => by
      rw [a2.1 a j h13, om_up_at, if_neg h12]; exact g1 a j h12 h13
    have f2 : C2.2 = C.2 := by rw [a2.2]; exact g2
    have ha0 : ∀ σ, og_gd (C.1 11) num w p (i + 1) σ → ∀ l, l < 1 → σ l = p := fun σ hσ l hl => by
      obtain ⟨-, j, s0, -⟩ := hσ
      rw [show l = 0 by omega, s0]
    have a1' : om_O_isExtended om_F 12 (nI w) 1 (om_up C' 12 1 (nI (i + 1))) = some (om_bi r, C2) := a1
    cases r with
    | false =>
      refine .inl ⟨(nI w, nI (i + 2), C2), ?_, C2, rfl, f1, f2, a3 0 (by omega), fun k' σ hk' hg => ?_⟩
      · simp only [om_O_findBreaker_L11_body, om_O_findBreaker_b11, e7, hlt, if_false, a1', Option.bind_some, og_nI1]
        rw [if_pos (show om_bi false = 0 from rfl)]
      · by_cases h : k' = i + 1
        · subst h; exact a4 rfl σ hg (ha0 σ hg)
        · exact g4 k' σ (by omega) hg
    | true =>
      obtain ⟨ρ', b1, b2, b3, b4⟩ := a5 rfl
      refine .inr ⟨.inl C2, ?_, i + 1, ρ', C2, rfl, f1, f2, ?_, by omega, by omega, b1, b3, g4, fun σ hσ => b4 σ hσ (ha0 σ hσ)⟩
      · simp only [om_O_findBreaker_L11_body, om_O_findBreaker_b11, e7, hlt, if_false, a1', Option.bind_some]
        rw [if_neg (show ¬ om_bi true = 0 by decide)]
      · rw [a2.1 12 1 (by decide)]; simp [om_up_at]) (by
    rintro st ⟨C', rfl, g1, g2, g3, g4⟩
    exact absurd hKg (g4 K ρK (by omega)))
  subst q0
  refine ⟨k, ρ, C', ?_, q1⟩
  unfold om_O_findBreaker om_O_findBreaker_b0
  rw [show om_in 0 9 = true from rfl, cond_true]
  show (om_it (om_O_findBreaker_L11_body om_F) om_F (nI w, 1, om_up C 13 0 (nI p))).bind _ = _
  rw [hz]; rfl
/-- the places have few moves together -/
theorem og_deg {M M1 : om_M} (hB : om_Bd M n m) {U : Nat → Prop} (hL : og_Ld M1 n (og_E M m U)) : og_pr (og_dg1 (M1.1 11) n) n < 30000 := by
  obtain ⟨⟨h8, h20, e10, e11, e462, e466⟩, hp, ht, hBa⟩ := hB
  have hm : ∀ u, u < n → ∀ q, om_b (M1.1 11 u) q = true ↔ (q < n ∧ ∃ w, og_E M m U u q w) := by
    obtain ⟨e70, s', hs', ⟨m1, m2, m3, m4⟩⟩ := hL
    exact m4
  refine og_pr_bound (a := fun u => og_cnt (fun k => decide (u < n ∧ M.1 4 k = nI u)) m) h8 ?_ (fun u _ => Nat.le_trans (og_cnt_le _ m) h20) fun u hu => ?_
  · refine Nat.le_trans (og_sum_cnt (c := fun u k => decide (u < n ∧ M.1 4 k = nI u)) (fun k u v h1 h2 => ?_) m) h20
    rw [decide_eq_true_eq] at h1 h2
    exact (nI_eq (by omega) (by omega)).mp (h1.2.symm.trans h2.2)
  · unfold og_dg1
    have : og_cnt (om_b (M1.1 11 u)) n ≤ max 1 (og_cnt (fun k => decide (u < n ∧ M.1 4 k = nI u)) m) := by
      by_cases hex : ∃ k, k < m ∧ U k ∧ M.1 4 k = nI u
      · refine Nat.le_trans (og_cnt_img (h := fun k => (M.1 5 k).toNatClampNeg) (g := fun k => decide (u < n ∧ M.1 4 k = nI u)) (m := m) fun q hq hb => ?_) (Nat.le_max_right _ _)
        obtain ⟨-, w, hE | ⟨hno, -, -⟩⟩ := (hm u hu q).mp hb
        · obtain ⟨k, h1, h2, h3, h4, h5⟩ := hE
          exact ⟨k, h1, by rw [decide_eq_true_eq]; exact ⟨hu, h3⟩, by rw [h4]; exact nI_clamp (by omega)⟩
        · obtain ⟨k, h1, h2, h3⟩ := hex
          exact absurd h3 (hno k h1 h2)
      · refine Nat.le_trans (og_cnt_img (h := fun _ => u) (g := fun _ => true) (m := 1) fun q hq hb => ?_) (Nat.le_trans (og_cnt_le _ 1) (Nat.le_max_left _ _))
        obtain ⟨-, w, hE | ⟨-, hqu, -⟩⟩ := (hm u hu q).mp hb
        · obtain ⟨k, h1, h2, h3, h4, h5⟩ := hE
          exact absurd ⟨k, h1, h2, h3⟩ hex
        · exact ⟨0, by omega, rfl, hqu.symm⟩
    omega
theorem og_k19 {M : om_M} (h : om_Inv M) : om_ok19 om_Inv M := by
  have hI := h
  obtain ⟨n, m, L, hB, hT, hQ, hA⟩ := h
  have ⟨⟨h8, h20, e10, e11, e462, e466⟩, hp, ht, hBa⟩ := hB
  intro x0 x1 x2
  show om_ok om_Inv _ _ M
  cases hpl : om_pl x0 with
  | false => exact ⟨-2, M, M, by simp [om_C_breaker, om_C_breaker_b0, om_C_breaker_b15, om_C_isPlayer_eq, hpl, om_bi], by simp [om_D_breaker, om_D_breaker_b0, om_D_breaker_b15, om_D_isPlayer_eq, hpl, om_bi], hI⟩
  | true =>
  cases hpp : om_pp n x1 with
  | false => exact ⟨-2, M, M, by simp [om_C_breaker, om_C_breaker_b0, om_C_breaker_b15, om_C_isPlayer_eq, om_C_isPlace_eq om_F x1 M e10, hpl, hpp, om_bi], by simp [om_D_breaker, om_D_breaker_b0, om_D_breaker_b15, om_D_isPlayer_eq, om_D_isPlace_eq om_F x1 M h8 e462, hpl, hpp, om_bi], hI⟩
  | true =>
  by_cases hi0 : (0 : Int32) ≤ x2
  case neg => exact ⟨-3, M, M, by simp [om_C_breaker, om_C_breaker_b0, om_C_isPlayer_eq, om_C_isPlace_eq om_F x1 M e10, hpl, hpp, om_bi, hi0], by simp [om_D_breaker, om_D_breaker_b0, om_D_isPlayer_eq, om_D_isPlace_eq om_F x1 M h8 e462, hpl, hpp, om_bi, hi0], hI⟩
  obtain ⟨pl, hpl2, rfl⟩ := om_pl_of hpl
  obtain ⟨p, hpn, rfl⟩ := om_pp_of (by omega) hpp
  obtain ⟨i, hi31, rfl⟩ := nI_of (x := x2) (by rw [Int32.not_lt]; exact hi0)
  obtain ⟨num, hnumd⟩ : ∃ num : Nat → Nat, num = fun p => if p < n then og_num M p else 0 := ⟨_, rfl⟩
  have h7 : ∀ i, num i ≤ 7 := fun i => by
    rw [hnumd]
    show (if i < n then og_num M i else 0) ≤ 7
    by_cases h : i < n
    · rw [if_pos h]; have := (og_num_eq hp h).2; omega
    · rw [if_neg h]; omega
  have hnumM : ∀ p, p < n → M.1 2 p = nI (num p) := fun p hpn => by
    rw [hnumd]
    show _ = nI (if p < n then og_num M p else 0)
    rw [if_pos hpn]; exact (og_num_eq hp hpn).1
  obtain ⟨M1, a1, a2, a3, a4⟩ := og_loadTold hB.1 hBa (nI pl)
  have hs1 := og_sc_pv a3
  have hw1 := og_Ld_wn a2
  have hnum1 : ∀ p, p < n → M1.1 2 p = nI (num p) ∧ num p < 8 := fun p hpn => by rw [a3.1 2 p rfl]; exact ⟨hnumM p hpn, by have := h7 p; omega⟩
  have hodd : om_C_oddness om_F (nI pl) M1 = some (nI (1 - pl), M1) := by
    have : pl = 0 ∨ pl = 1 := by omega
    rcases this with rfl | rfl <;> rfl
  have hwr := og_wrong h8 a2.1 hnum1 (show 1 - pl < 2 by omega)
  have hCl : om_C_breaker om_F (nI pl) (nI p) (nI i) M = (if ((og_cl (M1.1 11) n (og_bad (M1.1 11) num n (1 - pl)) >>> (nI p &&& 31)) &&& 1) = 0 then some (-1, M1) else (om_O_findBreaker om_F (nI (1 - pl)) (nI p) M1).bind (fun q_6 => (if (q_6.1 12 1) < nI i then om_C_breaker_b122 om_F q_6 else (if (8 : Int32) < nI i then om_C_breaker_b122 om_F q_6 else (bif om_in (nI i) 9 then om_C_breaker_b123 om_F (q_6.1 13 (nI i).toNatClampNeg) q_6 else none))))) := by
    simp only [om_C_breaker, om_C_breaker_b0, om_C_isPlayer_eq, om_C_isPlace_eq om_F _ M e10, hpl, hpp, om_bi, Option.bind_some, cond_true, show ¬ (1 : Int32) = 0 by decide, if_false, hi0, if_true, a1, hodd, hwr]
  -- the model's first half, from any state that the component leaves
  have hD : ∀ C, om_fr om_sc M C → om_Al C → ∃ D, om_D_rightOf om_F (nI pl) C = some (og_right (M1.1 11) num n (1 - pl), D) ∧ om_fr om_sc M D ∧ om_Al D := by
    intro C hC hAC
    have hBC := om_Bd_fr hB hC
    obtain ⟨M2, M3, b1, b2, b3, b4, b5, -, b6⟩ := og_layTold hBC hAC hpl2
    obtain ⟨M4, d1, d2, d3, d4⟩ := og_noneAlone M3
    have hUt : ∀ k, k < m → (og_Ut C (nI pl) k ↔ og_Ut M (nI pl) k) := fun k _ => by
      unfold og_Ut
      rw [hC.1 4 k rfl, hC.1 1 2 rfl]
      exact ⟨fun h p h1 h2 h3 => by have := h p h1 h2 h3; rwa [hC.1 3 p rfl] at this, fun h p h1 h2 h3 => by rw [hC.1 3 p rfl]; exact h p h1 h2 h3⟩
    have hm : ∀ p, p < n → M1.1 11 p = M3.1 58 p := og_masks h8 a2 b6 (fun p q w _ _ => (og_E_fr hC (fun k hk => (hUt k hk).symm) p q w).symm)
    have hw3 := og_wn_59 hm hw1
    have hs3 : om_fr om_sc M M3 := om_fr_tr hC (om_fr_tr (og_sc_p59 b2) (og_sc_pm b3))
    have e1 : M3.1 46 2 = nI n := by rw [hs3.1 46 2 rfl, e462]
    have hnum3 : ∀ p, p < n → M3.1 48 p = nI (num p) ∧ num p < 8 := fun p hpn => by rw [hs3.1 48 p rfl, (hp.2 p hpn).2.1]; exact ⟨hnumM p hpn, by have := h7 p; omega⟩
    have hs4 : om_fr om_sc M M4 := om_fr_tr hs3 ⟨fun a j h => d3 a j (fun h0 => by subst h0; cases h), d4⟩
    refine ⟨M4, ?_, hs4, d2, by rw [d3 46 18 (by decide), b3.1 46 18 rfl, b2.1 46 18 rfl, hAC.2]⟩
    simp only [om_D_rightOf, om_D_rightOf_b0, b1, Option.bind_some, og_badFor h8 e1 hw3 hnum3 hpl2, og_right_L h8 e1 hw3, d1, og_right_congr hm]
  have hbit : om_b (og_right (M1.1 11) num n (1 - pl)) p = !om_b (og_cl (M1.1 11) n (og_bad (M1.1 11) num n (1 - pl))) p := by
    rw [← og_judge_eq h8 hw1, om_b_and, og_b_ev h8, om_b_not]
    simp [hpn, show p < 32 by omega]
  cases hb : om_b (og_cl (M1.1 11) n (og_bad (M1.1 11) num n (1 - pl))) p with
  | false =>
    have hA1 : om_Al M1 := og_Al_fr hA (fun j => a3.1 59 j rfl) (a3.1 46 18 rfl)
    obtain ⟨D, c1, c2, c3⟩ := hD M1 hs1 hA1
    have e1 : M1.1 46 2 = nI n := by rw [a3.1 46 2 rfl, e462]
    rw [hb] at hbit
    refine ⟨-1, M1, D, ?_, ?_, om_Inv_fr hB hT hQ c2 c3⟩
    · show om_C_breaker om_F (nI pl) (nI p) (nI i) M = _
      rw [hCl, if_pos ((om_tst (show p < 32 by omega) _).mpr hb)]
    · show om_D_breaker om_F (nI pl) (nI p) (nI i) M1 = _
      simp only [om_D_breaker, om_D_breaker_b0, om_D_isPlayer_eq, om_D_isPlace_eq om_F _ M1 h8 e1, hpl, hpp, om_bi, Option.bind_some, cond_true, show ¬ (1 : Int32) = 0 by decide, if_false, hi0, if_true, c1]
      rw [if_pos ((og_tst1 (show p < 32 by omega) _).mpr hbit)]
  | true =>
    have hgex := og_gd_ex h8 hw1 hpn (num := num) (w := 1 - pl) hb
    obtain ⟨k, ρ, C2, f1, f2, f3, f4, f5, f6, f7, f8, f9, f10⟩ := og_findBreaker h8 a2.1 hw1 (fun q hq => (hnum1 q hq).1) h7 (show 1 - pl < 2 by omega) hpn hgex
    have hs2 : om_fr om_sc M C2 := by
      refine om_fr_tr hs1 ⟨fun a j h => f2 a j (fun h0 => by subst h0; cases h) (fun h0 => by subst h0; cases h), f3⟩
    have hA2 : om_Al C2 := by
      refine ⟨fun j hj => ?_, ?_⟩
      · rw [f2 59 j (by decide) (by decide), a3.1 59 j rfl]; exact hA.1 j hj
      · rw [f2 46 18 (by decide) (by decide), a3.1 46 18 rfl]; exact hA.2
    obtain ⟨D, c1, c2, c3⟩ := hD C2 hs2 hA2
    have e1 : C2.1 46 2 = nI n := by rw [hs2.1 46 2 rfl, e462]
    rw [hb] at hbit
    have hBD := om_Bd_fr hB c2
    obtain ⟨M2, M3, b1, b2, b3, b4, b5, -, b6⟩ := og_layTold hBD c3 hpl2
    have hUt : ∀ k, k < m → (og_Ut D (nI pl) k ↔ og_Ut M (nI pl) k) := fun k _ => by
      unfold og_Ut
      rw [c2.1 4 k rfl, c2.1 1 2 rfl]
      exact ⟨fun h p h1 h2 h3 => by have := h p h1 h2 h3; rwa [c2.1 3 p rfl] at this, fun h p h1 h2 h3 => by rw [c2.1 3 p rfl]; exact h p h1 h2 h3⟩
    have hm : ∀ p, p < n → M1.1 11 p = M3.1 58 p := og_masks h8 a2 b6 (fun p q w _ _ => (og_E_fr c2 (fun k hk => (hUt k hk).symm) p q w).symm)
    have hs3 : om_fr om_sc M M3 := om_fr_tr c2 (om_fr_tr (og_sc_p59 b2) (og_sc_pm b3))
    have hpos : ∀ q, q < n → 1 ≤ og_cnt (om_b (M1.1 11 q)) n := fun q hq => by
      obtain ⟨r, hr⟩ := og_Ld_ne hBa a2 q hq
      have := og_cnt_S_lt (x := 0) (y := M1.1 11 q) (n := n) (fun p h => absurd h (og_S0 p)) (og_S_lt (hw1 q hq) hr) hr (og_S0 r)
      omega
    -- the model's loop over the sizes
    obtain ⟨z, hz, D2, q0, q1, q2, q3⟩ := om_lp (f := om_D_breaker_L48_body om_F) (fun j st => ∃ D', st = (nI pl, nI p, nI i, nI (j + 2), D') ∧ og_f64 M3 D' ∧ j + 1 ≤ k) (fun z => ∃ D', z = (nI i, D') ∧ og_f64 M3 D' ∧ (∀ l, l ≤ k → D'.1 64 l = nI (ρ l)) ∧ D'.1 46 26 = nI (k + 1)) n (F := om_F) (Nat.lt_of_le_of_lt h8 (by decide)) (s := (nI pl, nI p, nI i, 2, M3)) ⟨M3, rfl, ⟨fun _ _ _ _ => rfl, rfl⟩, f5⟩ (by
      rintro j st hj ⟨D', rfl, g1, g2⟩
      obtain ⟨r, D2, u1, u2, u3, u4⟩ := og_closes (N := M1.1 11) (num := num) (D0 := D') h8 (by rw [g1.1 46 2 (by decide) (by decide), hs3.1 46 2 rfl, e462]) (fun q hq => by rw [g1.1 58 q (by decide) (by omega)]; exact (hm q hq).symm) hw1 hpos (fun q hq => by rw [g1.1 48 q (by decide) (by omega), hs3.1 48 q rfl, (hp.2 q hq).2.1]; exact hnumM q hq) h7 (og_deg hB a2) hpl2 hpn (k := j + 1) (by omega) (by omega)
      have u1' : om_D_closes om_F (nI p) (nI (j + 2)) (nI pl) D' = some (om_bi r, D2) := u1
      cases r with
      | false =>
        refine .inl ⟨(nI pl, nI p, nI i, nI (j + 3), D2), ?_, D2, rfl, og_f64_tr g1 u2, ?_⟩
        · simp only [om_D_breaker_L48_body, om_D_breaker_b48, u1', Option.bind_some, og_nI1]
          rw [if_pos (show om_bi false = 0 from rfl)]
        · have : k ≠ j + 1 := fun h => u3 rfl ρ (by rw [← h]; exact f7)
          omega
      | true =>
        obtain ⟨ρ', v1, v2, v3, v4⟩ := u4 rfl
        have hkj : k = j + 1 := by
          refine Classical.byContradiction fun h => ?_
          exact f9 (j + 1) ρ' (by omega) v1
        subst hkj
        have hanti := og_le_anti (f10 ρ' v1) (v4 ρ f7)
        refine .inr ⟨(nI i, D2), ?_, D2, rfl, og_f64_tr g1 u2, fun l hl => by rw [hanti l hl]; exact v2 l hl, v3⟩
        simp only [om_D_breaker_L48_body, om_D_breaker_b48, u1', Option.bind_some]
        rw [if_neg (show ¬ om_bi true = 0 by decide)]) (by
      rintro st ⟨D', rfl, g1, g2⟩
      omega)
    subst q0
    obtain ⟨D3, w1, w2, w3, w4⟩ := og_noneAlone D2
    have hs5 : om_fr om_sc M D3 := by
      refine om_fr_tr hs3 ⟨fun a j h => ?_, by rw [w4, q1.2]⟩
      rw [w3 a j (fun h0 => by subst h0; cases h), q1.1 a j (fun h0 => by subst h0; cases h) (fun h0 => by rw [h0.1, h0.2] at h; cases h)]
    have hAl5 : om_Al D3 := ⟨w2, by rw [w3 46 18 (by decide), q1.1 46 18 (by decide) (by decide), b3.1 46 18 rfl, b2.1 46 18 rfl]; exact c3.2⟩
    have hres : (if i ≤ k then nI (ρ i) else (-1 : Int32)) = (if i ≤ k then nI (ρ i) else -1) := rfl
    refine ⟨if i ≤ k then nI (ρ i) else -1, C2, D3, ?_, ?_, om_Inv_fr hB hT hQ hs5 hAl5⟩
    · show om_C_breaker om_F (nI pl) (nI p) (nI i) M = _
      rw [hCl, if_neg (fun h => by rw [(om_tst (show p < 32 by omega) _).mp h] at hb; cases hb), f1]
      simp only [Option.bind_some, f4]
      by_cases hik : i ≤ k
      · have h1 : ¬ nI k < nI i := by rw [nI_ltI (by omega) hi31]; omega
        have h2 : ¬ (8 : Int32) < nI i := by rw [show (8 : Int32) = nI 8 by decide, nI_ltI (by omega) hi31]; omega
        rw [if_neg h1, if_neg h2, om_in_nI (show i < 9 by omega) (by omega), cond_true, nI_clamp (by omega), f8 i hik, if_pos hik]
        rfl
      · have h1 : nI k < nI i := (nI_ltI (by omega) hi31).mpr (by omega)
        rw [if_pos h1, if_neg hik]; rfl
    · show om_D_breaker om_F (nI pl) (nI p) (nI i) C2 = _
      simp only [om_D_breaker, om_D_breaker_b0, om_D_isPlayer_eq, om_D_isPlace_eq om_F _ C2 h8 e1, hpl, hpp, om_bi, Option.bind_some, cond_true, show ¬ (1 : Int32) = 0 by decide, if_false, hi0, if_true, c1]
      rw [if_neg (fun h => by have := (og_tst1 (show p < 32 by omega) _).mp h; rw [hbit] at this; cases this), b1]
      simp only [Option.bind_some, om_D_breaker_L48, hz, w1]
      have h26 : D3.1 46 26 = nI (k + 1) := by rw [w3 46 26 (by decide), q3]
      rw [h26]
      by_cases hik : i ≤ k
      · have h1 : ¬ nI (k + 1) ≤ nI i := nI_ge (by omega) (by omega)
        rw [if_neg h1, om_in_nI (show i < 10 by omega) (by omega), cond_true, nI_clamp (by omega), w3 64 i (by decide), q2 i hik, if_pos hik]
        rfl
      · have h1 : nI (k + 1) ≤ nI i := nI_le (by omega) hi31
        rw [if_pos h1, if_neg hik]; rfl
end BK
