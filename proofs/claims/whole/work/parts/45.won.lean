def og_pw (a _j : Nat) : Bool := Nat.beq a 60 || Nat.beq a 61
theorem og_pw_sc {a j : Nat} (h : om_sc a j = false) : og_pw a j = false := by
  cases h1 : og_pw a j with
  | false => rfl
  | true =>
    unfold og_pw at h1
    rw [Bool.or_eq_true] at h1
    rcases h1 with h1 | h1
    · have : a = 60 := Nat.eq_of_beq_eq_true h1
      subst this; cases h
    · have : a = 61 := Nat.eq_of_beq_eq_true h1
      subst this; cases h
def og_rk (x : Nat) : Nat := if x = 100000 then 6561 else x
def og_sum (f : Nat → Nat) : Nat → Nat
  | 0 => 0
  | n + 1 => og_sum f n + f n
theorem og_sum_le {f : Nat → Nat} {b : Nat} (h : ∀ p, f p ≤ b) : ∀ n, og_sum f n ≤ n * b
  | 0 => by show 0 ≤ 0 * b; omega
  | n + 1 => by
    have h1 := og_sum_le h n
    have h2 := h n
    show og_sum f n + f n ≤ (n + 1) * b
    rw [Nat.add_mul]; omega
theorem og_sum_mono {f g : Nat → Nat} : ∀ {n : Nat}, (∀ p, p < n → f p ≤ g p) → og_sum f n ≤ og_sum g n
  | 0, _ => Nat.le_refl _
  | n + 1, h => by
    have h1 := og_sum_mono (n := n) (fun p hp => h p (by omega))
    have h2 := h n (by omega)
    show og_sum f n + f n ≤ og_sum g n + g n
    omega
theorem og_sum_lt {f g : Nat → Nat} : ∀ {n : Nat} {p : Nat}, p < n → (∀ q, q < n → f q ≤ g q) → f p < g p → og_sum f n < og_sum g n
  | 0, _, h, _, _ => absurd h (by omega)
  | n + 1, p, hp, h, hlt => by
    have h2 := h n (by omega)
    show og_sum f n + f n < og_sum g n + g n
    by_cases hpn : p = n
    · subst hpn
      have := og_sum_mono (n := p) (fun q hq => h q (by omega))
      omega
    · have := og_sum_lt (n := n) (p := p) (by omega) (fun q hq => h q (by omega)) hlt
      omega
def og_set (μ : Nat → Nat) (p v : Nat) (q : Nat) : Nat := if q = p then v else μ q
section WN
variable {n : Nat} {num : Nat → Nat} {mi : Nat → Bool}
theorem og_wn0 (h8 : n ≤ 8) {M : om_M} (e : M.1 46 2 = nI n) (hnum : ∀ p, p < n → M.1 48 p = nI (num p) ∧ num p < 8) : ∃ M', (om_D_wonNow_L2 om_F (0, M)).bind (fun z1 => om_D_wonNow_L22 om_F (0, z1)) = some M' ∧ om_fr og_pw M M' ∧ (∀ p, p < n → M'.1 60 p = nI 0) ∧ (∀ i, i < 4 → M'.1 61 i = nI (og_mo num n i)) := by
  obtain ⟨M1, hz1, a1, a2⟩ := om_lp (f := om_D_wonNow_L2_body om_F) (fun i x => ∃ M', x = (nI i, M') ∧ om_fr og_pw M M' ∧ ∀ k, k < i → M'.1 61 k = 0) (fun M' : om_M => om_fr og_pw M M' ∧ ∀ k, k < 4 → M'.1 61 k = 0) 4 (F := om_F) (by decide) (s := (0, M)) ⟨M, rfl, om_fr_rfl, fun p hp => absurd hp (by omega)⟩ (by
    rintro i s hi ⟨M', rfl, g1, g2⟩
    have hin : om_in (nI i) 4 = true := om_in_nI (by omega) (by omega)
    have hcl : (nI i).toNatClampNeg = i := nI_clamp (by omega)
    have hlt : ¬ (4 : Int32) ≤ nI i := nI_ge (b := 4) hi (by omega)
    refine .inl ⟨(nI (i + 1), om_up M' 61 i 0), by simp only [om_D_wonNow_L2_body, om_D_wonNow_b2, hlt, hin, hcl, if_false, cond_true, og_nI1], om_up M' 61 i 0, rfl, om_fr_up g1 rfl, fun p hp => ?_⟩
    by_cases hpi : p = i
    · subst hpi; simp [om_up_at]
    · simp [om_up_at, hpi, g2 p (by omega)]) (by
    rintro s ⟨M', rfl, g1, g2⟩
    exact ⟨_, by simp only [om_D_wonNow_L2_body, om_D_wonNow_b2]; rw [if_pos (by decide)], g1, g2⟩)
  obtain ⟨M2, hz2, b1, b2, b3⟩ := om_lp (f := om_D_wonNow_L22_body om_F) (fun i x => ∃ M', x = (nI i, M') ∧ om_fr og_pw M M' ∧ (∀ p, p < i → M'.1 60 p = nI 0) ∧ (∀ k, k < 4 → M'.1 61 k = nI (og_mo num i k))) (fun M' : om_M => om_fr og_pw M M' ∧ (∀ p, p < n → M'.1 60 p = nI 0) ∧ (∀ k, k < 4 → M'.1 61 k = nI (og_mo num n k))) n (F := om_F) (Nat.lt_of_le_of_lt h8 (by decide)) (s := (0, M1)) ⟨M1, rfl, a1, fun p hp => absurd hp (by omega), fun k hk => a2 k hk⟩ (by
    rintro i s hi ⟨M', rfl, g1, g2, g3⟩
    have hin : om_in (nI i) 8 = true := om_in_nI (by omega) (by omega)
    have hcl : (nI i).toNatClampNeg = i := nI_clamp (by omega)
    have hlt : ¬ nI n ≤ nI i := nI_ge hi (by omega)
    have e' : M'.1 46 2 = nI n := by rw [g1.1 46 2 rfl, e]
    obtain ⟨h1, h2⟩ := hnum i hi
    have h48 : M'.1 48 i = nI (num i) := by rw [g1.1 48 i rfl, h1]
    have hdiv : nI (num i) / 2 = nI (num i / 2) := pk_div (d := 2) (by omega) (by omega) (by omega)
    have hrem : nI (num i) - nI (num i / 2) * 2 = nI (num i % 2) := by
      have := pk_rem (a := num i) (d := 2) (by omega) (by omega) (by omega)
      rw [show nI (num i) / nI 2 = nI (num i / 2) from hdiv] at this
      exact this
    have hin4 : om_in (nI (num i / 2)) 4 = true := om_in_nI (by omega) (by omega)
    have hcl4 : (nI (num i / 2)).toNatClampNeg = num i / 2 := nI_clamp (by omega)
    have u48 : (om_up M' 60 i 0).1 48 i = nI (num i) := by simp [om_up_at, h48]
    have u61 : ∀ k, (om_up M' 60 i 0).1 61 k = M'.1 61 k := fun k => by simp [om_up_at]
    refine .inl ⟨(nI (i + 1), om_up (om_up M' 60 i 0) 61 (num i / 2) (nI (og_mo num i (num i / 2)) + nI (num i % 2))), ?_, _, rfl, om_fr_up (om_fr_up g1 rfl) rfl, fun p hp => ?_, fun k hk => ?_⟩
    · simp only [om_D_wonNow_L22_body, om_D_wonNow_b22, e', hlt, hin, hcl, if_false, cond_true, og_nI1, show ¬ (2 : Int32) = 0 by decide, decide_false, Bool.not_false, u48, u61, hdiv, hrem, hin4, hcl4, g3 (num i / 2) (by omega)]
    · simp only [om_up_at]
      by_cases hpi : p = i
      · subst hpi; simp; rfl
      · simp [hpi, g2 p (by omega)]
    · simp only [om_up_at]
      show _ = nI (og_mo num i k + (if decide (num i = 2 * k + 1) = true then 1 else 0))
      by_cases hki : k = num i / 2
      · subst hki
        simp [nI_add]
        rcases Nat.mod_two_eq_zero_or_one (num i) with h | h
        · rw [h, if_neg (by omega)]
        · rw [h, if_pos (by omega)]
      · have : ¬ num i = 2 * k + 1 := by omega
        simp [hki, g3 k hk, this]) (by
    rintro s ⟨M', rfl, g1, g2, g3⟩
    have e' : M'.1 46 2 = nI n := by rw [g1.1 46 2 rfl, e]
    exact ⟨_, by simp only [om_D_wonNow_L22_body, om_D_wonNow_b22, e']; rw [if_pos Int32.le_rfl], g1, g2, g3⟩)
  refine ⟨M2, ?_, b1, b2, b3⟩
  unfold om_D_wonNow_L2 om_D_wonNow_L22
  rw [hz1]
  exact hz2
/-- one round over all places -/
theorem og_wnRound (h8 : n ≤ 8) {M0 : om_M} (e : M0.1 46 2 = nI n) (hnum : ∀ p, p < n → M0.1 48 p = nI (num p) ∧ num p < 8) (hmi : ∀ p, p < n → (M0.1 47 p = 0 ↔ mi p = true)) {P : (Nat → Nat) → Prop} (hPs : ∀ μ p, (∀ q, q < n → og_vt (og_mo num n) (μ q)) → P μ → p < n → μ p < og_lf (og_mo num n) num (M0.1 58) mi μ p n → P (og_set μ p (og_lf (og_mo num n) num (M0.1 58) mi μ p n))) {M : om_M} {μ : Nat → Nat} (hf : om_fr og_pw M0 M) (h61 : ∀ i, i < 4 → M.1 61 i = nI (og_mo num n i)) (h60 : ∀ p, p < n → M.1 60 p = nI (μ p)) (hv : ∀ p, p < n → og_vt (og_mo num n) (μ p)) (hP : P μ) : ∃ x M' μ', om_D_wonNow_L77 om_F (0, 0, M) = some (x, M') ∧ om_fr og_pw M0 M' ∧ (∀ i, i < 4 → M'.1 61 i = nI (og_mo num n i)) ∧ (∀ p, p < n → M'.1 60 p = nI (μ' p)) ∧ (∀ p, p < n → og_vt (og_mo num n) (μ' p)) ∧ P μ' ∧ ((x = 0 ∧ μ' = μ ∧ ∀ p, p < n → og_lf (og_mo num n) num (M0.1 58) mi μ p n ≤ μ p) ∨ (x = 1 ∧ og_sum (fun p => og_rk (μ p)) n < og_sum (fun p => og_rk (μ' p)) n)) := by
  have hmo := og_mo8 num h8
  obtain ⟨z, hz, x, M', μ', rfl, q1, q2, q3, q4, q5, q6⟩ := om_lp (f := om_D_wonNow_L77_body om_F) (fun i s => ∃ x M' μ', s = (x, nI i, M') ∧ om_fr og_pw M0 M' ∧ (∀ i, i < 4 → M'.1 61 i = nI (og_mo num n i)) ∧ (∀ p, p < n → M'.1 60 p = nI (μ' p)) ∧ (∀ p, p < n → og_vt (og_mo num n) (μ' p)) ∧ P μ' ∧ (∀ p, p < n → μ p ≤ μ' p) ∧ ((x = 0 ∧ μ' = μ ∧ ∀ p, p < i → og_lf (og_mo num n) num (M0.1 58) mi μ p n ≤ μ p) ∨ (x = 1 ∧ og_sum (fun p => og_rk (μ p)) n < og_sum (fun p => og_rk (μ' p)) n))) (fun z => ∃ x M' μ', z = (x, M') ∧ om_fr og_pw M0 M' ∧ (∀ i, i < 4 → M'.1 61 i = nI (og_mo num n i)) ∧ (∀ p, p < n → M'.1 60 p = nI (μ' p)) ∧ (∀ p, p < n → og_vt (og_mo num n) (μ' p)) ∧ P μ' ∧ ((x = 0 ∧ μ' = μ ∧ ∀ p, p < n → og_lf (og_mo num n) num (M0.1 58) mi μ p n ≤ μ p) ∨ (x = 1 ∧ og_sum (fun p => og_rk (μ p)) n < og_sum (fun p => og_rk (μ' p)) n))) n (F := om_F) (Nat.lt_of_le_of_lt h8 (by decide)) (s := (0, 0, M)) ⟨0, M, μ, rfl, hf, h61, h60, hv, hP, fun _ _ => Nat.le_refl _, .inl ⟨rfl, rfl, fun p hp => absurd hp (by omega)⟩⟩ (by
    rintro i s hi ⟨x, M', μ', rfl, g1, g2, g3, g4, g5, g6, g7⟩
    have hin : om_in (nI i) 8 = true := om_in_nI (by omega) (by omega)
    have hcl : (nI i).toNatClampNeg = i := nI_clamp (by omega)
    have hlt : ¬ nI n ≤ nI i := nI_ge hi (by omega)
    have e' : M'.1 46 2 = nI n := by rw [g1.1 46 2 rfl, e]
    have e58 : M'.1 58 = M0.1 58 := funext fun j => g1.1 58 j rfl
    have hmo' : ∀ i, i < 4 → og_mo num n i ≤ 8 := fun i _ => Nat.le_trans (og_cnt_le _ n) h8
    have hlf := og_liftOf (mi := mi) (num := num) (mo := og_mo num n) (μ := μ') h8 e' (fun p hp => by rw [g1.1 48 p rfl]; exact hnum p hp) (fun p hp => by rw [g1.1 47 p rfl]; exact hmi p hp) (fun i hi => ⟨g2 i hi, hmo' i hi⟩) g3 g4 hi
    rw [e58] at hlf
    have hb1 := og_vt_le hmo (g4 i hi)
    have hvt := og_lf_vt (N := M0.1 58) (mi := mi) (μ := μ') (p := i) (n := n) hmo (hnum i hi).2 g4
    have hb2 := og_vt_le hmo hvt
    simp only [om_D_wonNow_L77_body, om_D_wonNow_b77, om_D_wonNow_b110, e', hlt, hin, hcl, if_false, cond_true, og_nI1, hlf, Option.bind_some, g3 i hi, nI_leI (show og_lf (og_mo num n) num (M0.1 58) mi μ' i n < 2 ^ 31 by omega) (show μ' i < 2 ^ 31 by omega)]
    by_cases hle : og_lf (og_mo num n) num (M0.1 58) mi μ' i n ≤ μ' i
    · refine .inl ⟨_, if_pos hle, x, M', μ', rfl, g1, g2, g3, g4, g5, g6, ?_⟩
      rcases g7 with ⟨k1, k2, k3⟩ | h
      · refine .inl ⟨k1, k2, fun p hp => ?_⟩
        by_cases hpi : p = i
        · subst hpi; rw [k2] at hle; exact hle
        · exact k3 p (by omega)
      · exact .inr h
    · have hgt : μ' i < og_lf (og_mo num n) num (M0.1 58) mi μ' i n := by omega
      refine .inl ⟨_, if_neg hle, 1, _, og_set μ' i (og_lf (og_mo num n) num (M0.1 58) mi μ' i n), rfl, om_fr_up g1 rfl, fun k hk => by simp [om_up_at, g2 k hk], fun p hp => ?_, fun p hp => ?_, hPs μ' i g4 g5 hi hgt, fun p hp => ?_, .inr ⟨rfl, ?_⟩⟩
      · simp only [om_up_at, og_set]
        by_cases hpi : p = i
        · subst hpi; simp
        · simp [hpi, g3 p hp]
      · unfold og_set
        split
        · exact hvt
        · exact g4 p hp
      · unfold og_set
        have := g6 p hp
        split
        · subst p; omega
        · exact this
      · have hlt2 : og_sum (fun p => og_rk (μ' p)) n < og_sum (fun p => og_rk (og_set μ' i (og_lf (og_mo num n) num (M0.1 58) mi μ' i n) p)) n := by
          refine og_sum_lt hi (fun q hq => ?_) ?_
          · show og_rk (μ' q) ≤ og_rk (og_set μ' i _ q)
            unfold og_set
            split
            · subst q
              have h6 : μ' i < 6561 := by
                rcases g4 i hi with h | h
                · omega
                · exact og_val_lt hmo h
              unfold og_rk
              split
              · omega
              · split <;> omega
            · exact Nat.le_refl _
          · show og_rk (μ' i) < og_rk (og_set μ' i _ i)
            unfold og_set
            rw [if_pos rfl]
            have h6 : μ' i < 6561 := by
              rcases g4 i hi with h | h
              · omega
              · exact og_val_lt hmo h
            unfold og_rk
            split
            · omega
            · split <;> omega
        rcases g7 with ⟨k1, k2, k3⟩ | ⟨-, h⟩
        · rw [k2] at hlt2 ⊢; exact hlt2
        · omega) (by
    rintro s ⟨x, M', μ', rfl, g1, g2, g3, g4, g5, g6, g7⟩
    have e' : M'.1 46 2 = nI n := by rw [g1.1 46 2 rfl, e]
    exact ⟨_, by simp only [om_D_wonNow_L77_body, om_D_wonNow_b77, e']; rw [if_pos Int32.le_rfl], x, M', μ', rfl, g1, g2, g3, g4, g5, g7⟩)
  exact ⟨x, M', μ', hz, q1, q2, q3, q4, q5, q6⟩
theorem og_wonNow (h8 : n ≤ 8) {M : om_M} (e : M.1 46 2 = nI n) (hnum : ∀ p, p < n → M.1 48 p = nI (num p) ∧ num p < 8) (hmi : ∀ p, p < n → (M.1 47 p = 0 ↔ mi p = true)) (P : (Nat → Nat) → Prop) (hP0 : P (fun _ => 0)) (hPs : ∀ μ p, (∀ q, q < n → og_vt (og_mo num n) (μ q)) → P μ → p < n → μ p < og_lf (og_mo num n) num (M.1 58) mi μ p n → P (og_set μ p (og_lf (og_mo num n) num (M.1 58) mi μ p n))) : ∃ r M' μ, om_D_wonNow om_F M = some (r, M') ∧ om_fr og_pw M M' ∧ P μ ∧ (∀ p, p < n → og_vt (og_mo num n) (μ p)) ∧ (∀ p, p < n → og_lf (og_mo num n) num (M.1 58) mi μ p n ≤ μ p) ∧ og_wn n r ∧ ∀ p, og_S r p ↔ (p < n ∧ μ p ≠ 100000) := by
  have hmo := og_mo8 num h8
  obtain ⟨M1, a1, a2, a3, a4⟩ := og_wn0 h8 e hnum
  have hv0 : og_vt (og_mo num n) 0 := .inr ⟨0, 0, 0, 0, by omega, by omega, by omega, by omega, rfl⟩
  have hrk : ∀ μ : Nat → Nat, (∀ p, p < n → og_vt (og_mo num n) (μ p)) → og_sum (fun p => og_rk (μ p)) n ≤ 52488 := by
    intro μ hv
    have h1 : og_sum (fun p => og_rk (μ p)) n ≤ og_sum (fun _ => 6561) n := og_sum_mono fun p hp => by
      unfold og_rk
      split
      · omega
      · have := og_val_lt hmo ((hv p hp).resolve_left (by assumption)); omega
    have h2 := og_sum_le (f := fun _ => 6561) (b := 6561) (fun _ => Nat.le_refl _) n
    have : n * 6561 ≤ 8 * 6561 := Nat.mul_le_mul_right _ h8
    omega
  obtain ⟨M2, hz, μ, b1, b2, b3, b4, b5⟩ := om_lw (f := om_D_wonNow_L69_body om_F) (fun s => ∃ x M' μ, s = (x, M') ∧ om_fr og_pw M M' ∧ (∀ i, i < 4 → M'.1 61 i = nI (og_mo num n i)) ∧ (∀ p, p < n → M'.1 60 p = nI (μ p)) ∧ (∀ p, p < n → og_vt (og_mo num n) (μ p)) ∧ P μ ∧ ((x = 0 ∧ ∀ p, p < n → og_lf (og_mo num n) num (M.1 58) mi μ p n ≤ μ p) ∨ x = 1)) (fun M' : om_M => ∃ μ, om_fr og_pw M M' ∧ (∀ p, p < n → M'.1 60 p = nI (μ p)) ∧ (∀ p, p < n → og_vt (og_mo num n) (μ p)) ∧ P μ ∧ ∀ p, p < n → og_lf (og_mo num n) num (M.1 58) mi μ p n ≤ μ p) (fun s => (if s.1 = 0 then 0 else 1) + (52488 - og_sum (fun p => og_rk ((s.2.1 60 p).toNatClampNeg)) n)) (by
    rintro s ⟨x, M', μ, rfl, g1, g2, g3, g4, g5, g6⟩
    simp only [om_D_wonNow_L69_body, om_D_wonNow_b69]
    rcases g6 with ⟨rfl, g6⟩ | rfl
    · exact .inr ⟨_, if_pos rfl, μ, g1, g3, g4, g5, g6⟩
    · rw [if_neg (by decide)]
      obtain ⟨x', M'', μ', c1, c2, c3, c4, c5, c6, c7⟩ := og_wnRound h8 e hnum hmi hPs g1 g2 g3 g4 g5
      have hsum : ∀ (M' : om_M) (μ : Nat → Nat), (∀ p, p < n → M'.1 60 p = nI (μ p)) → (∀ p, p < n → og_vt (og_mo num n) (μ p)) → og_sum (fun p => og_rk ((M'.1 60 p).toNatClampNeg)) n = og_sum (fun p => og_rk (μ p)) n := fun M' μ h1 h2 =>
        Nat.le_antisymm (og_sum_mono fun p hp => by rw [h1 p hp, nI_clamp (by have := og_vt_le hmo (h2 p hp); omega)]; exact Nat.le_refl _) (og_sum_mono fun p hp => by rw [h1 p hp, nI_clamp (by have := og_vt_le hmo (h2 p hp); omega)]; exact Nat.le_refl _)
      refine .inl ⟨(x', M''), by rw [c1]; rfl, ⟨x', M'', μ', rfl, c2, c3, c4, c5, c6, ?_⟩, ?_⟩
      · rcases c7 with ⟨h1, h2, h3⟩ | ⟨h1, -⟩
        · exact .inl ⟨h1, by rw [h2]; exact h3⟩
        · exact .inr h1
      · show (if x' = 0 then 0 else 1) + (52488 - og_sum (fun p => og_rk ((M''.1 60 p).toNatClampNeg)) n) < (if (1 : Int32) = 0 then 0 else 1) + (52488 - og_sum (fun p => og_rk ((M'.1 60 p).toNatClampNeg)) n)
        rw [hsum M'' μ' c4 c5, hsum M' μ g3 g4, if_neg (show ¬ (1 : Int32) = 0 by decide)]
        have k1 := hrk μ g4
        have k2 := hrk μ' c5
        rcases c7 with ⟨h1, h2, h3⟩ | ⟨h1, h2⟩
        · rw [if_pos h1, h2]; omega
        · rw [h1, if_neg (by decide)]; omega) om_F (1, M1) (by
    show (if (1 : Int32) = 0 then 0 else 1) + (52488 - og_sum _ n) < om_F
    have : om_F = 100000 := rfl
    rw [if_neg (by decide)]; omega) ⟨1, M1, fun _ => 0, rfl, a2, a4, a3, fun _ _ => hv0, hP0, .inr rfl⟩
  obtain ⟨z, hz3, rfl⟩ := om_lp (f := om_D_wonNow_L123_body om_F) (fun i s => s = (og_mk (fun p => decide (μ p ≠ 100000)) i, nI i, M2)) (fun z => z = (og_mk (fun p => decide (μ p ≠ 100000)) n, M2)) n (F := om_F) (Nat.lt_of_le_of_lt h8 (by decide)) (s := (0, 0, M2)) rfl (by
    rintro i s hi rfl
    have hin : om_in (nI i) 8 = true := om_in_nI (by omega) (by omega)
    have hcl : (nI i).toNatClampNeg = i := nI_clamp (by omega)
    have hlt : ¬ nI n ≤ nI i := nI_ge hi (by omega)
    have e' : M2.1 46 2 = nI n := by rw [b1.1 46 2 rfl, e]
    have or0 : ∀ y : Int32, y ||| 0 = y := fun y => om_ext fun j _ => by rw [om_b_or, om_b_0, Bool.or_false]
    have hb1 := og_vt_le hmo (b3 i hi)
    have he : nI (μ i) = 100000 ↔ μ i = 100000 := nI_eq (b := 100000) (by omega) (by omega)
    refine .inl ⟨_, ?_, rfl⟩
    simp only [om_D_wonNow_L123_body, om_D_wonNow_b123, om_D_wonNow_b150, e', hlt, hin, hcl, if_false, cond_true, og_nI1, b2 i hi, he, or0, og_mk]
    by_cases h : μ i = 100000 <;> simp [h]) (by
    rintro s rfl
    have e' : M2.1 46 2 = nI n := by rw [b1.1 46 2 rfl, e]
    exact ⟨_, by simp only [om_D_wonNow_L123_body, om_D_wonNow_b123, e']; rw [if_pos Int32.le_rfl], rfl⟩)
  refine ⟨og_mk (fun p => decide (μ p ≠ 100000)) n, M2, μ, ?_, b1, b4, b3, b5, og_wn_mk (by omega), fun p => ?_⟩
  · unfold om_D_wonNow om_D_wonNow_b0
    have a1' : ∀ K : om_M → Option (Int32 × om_M), ((om_D_wonNow_L2 om_F (0, M)).bind fun z1 => (om_D_wonNow_L22 om_F (0, z1)).bind K) = K M1 := fun K => by
      rw [← Option.bind_assoc, a1]; rfl
    rw [a1']
    unfold om_D_wonNow_L69 om_D_wonNow_L123
    rw [hz]
    show (om_it (om_D_wonNow_L123_body om_F) om_F (0, 0, M2)).bind _ = _
    rw [hz3]; rfl
  · unfold og_S
    rw [og_b_mk _ (by omega)]
    simp
end WN
/-- both sides' won places are one -/
theorem og_won_eq {M1 M2 : om_M} {n : Nat} {N : Nat → Int32} {mi : Nat → Bool} {num : Nat → Nat} (h8 : n ≤ 8) (hnum8 : ∀ p, p < n → num p < 8) (hN : ∀ p, p < n → og_wn n (N p)) (hne : ∀ p, p < n → ∃ q, og_S (N p) q) (hN2 : ∀ p, p < n → M2.1 58 p = N p) {E : Int32} (hE : og_wn n E) (hZ : og_Z (fun p => og_S (og_NN N n p)) mi num (fun p => p < n) (og_S E)) (e : M2.1 46 2 = nI n) (hnum : ∀ p, p < n → M2.1 48 p = nI (num p)) (hmi : ∀ p, p < n → (M2.1 47 p = 0 ↔ mi p = true)) : ∃ M', om_D_wonNow om_F M2 = some (E, M') ∧ om_fr og_pw M2 M' := by
  obtain ⟨hE0, ⟨-, s, hs1, hs2, hs3⟩, hO⟩ := id hZ
  have hG : ∀ p q, og_S (og_NN N n p) q → q < n := fun p q h => by
    unfold og_NN at h
    split at h
    · exact og_S_lt (hN p (by assumption)) h
    · exact absurd h (og_S0 q)
  have hbit : ∀ p q, p < n → (om_b (M2.1 58 p) q = true ↔ og_S (og_NN N n p) q) := fun p q hp => by
    rw [hN2 p hp, og_NN_lt hp]; exact Iff.rfl
  obtain ⟨r, M', μ, a1, a2, a3, a4, a5, a6, a7⟩ := og_wonNow (mi := mi) (num := num) h8 e (fun p hp => ⟨hnum p hp, hnum8 p hp⟩) hmi (og_up (fun p => og_S (og_NN N n p)) mi num s (og_S E)) (fun p hp => ⟨0, fun _ => p, rfl, ⟨fun _ => hp, fun k hk => absurd hk (by omega)⟩, Nat.zero_le _⟩) (by
    intro μ p hv hup hp hlt q hq
    unfold og_set
    by_cases hqp : q = p
    · subst hqp
      rw [if_pos rfl]
      rcases Bool.eq_false_or_eq_true (mi q) with hm | hm
      · obtain ⟨g1, g2⟩ := hs1 q hq hm
        have hle := (og_lf_one (mo := og_mo num n) (num := num) (N := M2.1 58) (μ := μ) hm n).1 (s q) (og_S_lt hE g2) ((hbit q (s q) hp).mpr g1)
        exact og_up_lift h8 hnum8 (fun p hp => og_S_lt hE hp) hs3 hv hup hq g2 ⟨g1, fun _ => rfl⟩ hle
      · rcases (og_lf_other (mo := og_mo num n) (num := num) (N := M2.1 58) (μ := μ) hm n).2 with h0 | ⟨t, g1, g2, g3⟩
        · rw [h0]
          exact ⟨0, fun _ => q, rfl, ⟨fun _ => hq, fun k hk => absurd hk (by omega)⟩, Nat.zero_le _⟩
        · have g4 := (hbit q t hp).mp g2
          have := hs2 q t hq hm g4 g1
          exact og_up_lift h8 hnum8 (fun p hp => og_S_lt hE hp) hs3 hv hup hq this ⟨g4, fun h => by rw [hm] at h; cases h⟩ (Nat.le_of_eq g3)
    · rw [if_neg hqp]
      exact hup q hq)
  have hmo := og_mo8 num h8
  have hfin := og_spm h8 hnum8 hG hZ a4 (fun p hp => by
    rcases Bool.eq_false_or_eq_true (mi p) with hm | hm
    · left
      refine ⟨hm, ?_⟩
      rcases (og_lf_one (mo := og_mo num n) (num := num) (N := M2.1 58) (μ := μ) hm n).2 with h | ⟨q, g1, g2, g3⟩
      · -- the measure is the top
        have h5 := a5 p hp
        rw [h] at h5
        by_cases hEp : og_S E p
        · obtain ⟨g1, g2⟩ := hs1 p hEp hm
          refine ⟨s p, g1, ?_⟩
          exact Nat.le_trans (og_vt_le hmo (og_nd_vt hmo (a4 _ (og_S_lt hE g2)) (hnum8 p hp))) h5
        · obtain ⟨hO0, so, hO1, hO2, hO3⟩ := hO
          -- some move there is: the other side closes over all of ONE's moves, so take any
          obtain ⟨q, hq⟩ : ∃ q, og_S (og_NN N n p) q := by rw [og_NN_lt hp]; exact hne p hp
          exact ⟨q, hq, Nat.le_trans (og_vt_le hmo (og_nd_vt hmo (a4 _ (hG p q hq)) (hnum8 p hp))) h5⟩
      · exact ⟨q, (hbit p q hp).mp g2, by rw [← g3]; exact a5 p hp⟩
    · right
      refine ⟨hm, fun q hq => ?_⟩
      exact Nat.le_trans ((og_lf_other (mo := og_mo num n) (num := num) (N := M2.1 58) (μ := μ) hm n).1 q (hG p q hq) ((hbit p q hp).mpr hq)) (a5 p hp)) (fun p hp h => by
    obtain ⟨L, π, -, hπ, hle⟩ := a3 p hp
    rw [h] at hle
    have := og_val_lt hmo (og_pa_val (n := n) (fun p hp => og_S_lt hE hp) hs3 hπ)
    omega)
  have : r = E := og_S_ext (n := n) a6 hE fun p hp => by
    rw [a7 p, hfin p hp]
    exact ⟨fun h => h.2, fun h => ⟨hp, h⟩⟩
  exact ⟨M', by rw [a1, this], a2⟩
theorem og_pw_frsc {M M' : om_M} (h : om_fr og_pw M M') : om_fr om_sc M M' := om_fr_mono h fun _ _ h => og_pw_sc h
/-- the component's won places, with both plans -/
theorem og_evenTop {M : om_M} {n : Nat} (h8 : n ≤ 8) (e : M.1 7 0 = nI n) (hB : om_Bp M n) (hN : ∀ p, p < n → og_wn n (M.1 11 p)) (hne : ∀ p, p < n → ∃ q, og_S (M.1 11 p) q) : ∃ E, om_V_evenPlaces om_F 12 (og_ev n) 0 M = some (E, M) ∧ og_wn n E ∧ og_Z (fun p => og_S (og_NN (M.1 11) n p)) (og_mi (M.1 7 1) 0) (og_num M) (fun p => p < n) (og_S E) := by
  have hEv : og_S (og_ev n) = fun p => p < n := funext fun p => propext (by unfold og_S; rw [og_b_ev h8]; simp)
  have hcnt : og_cnt (om_b (og_ev n)) n ≤ 8 := Nat.le_trans (og_cnt_le _ n) h8
  obtain ⟨E, h1, h2, h3⟩ := og_even h8 e hB 12 0 (og_ev n) (og_wn_ev h8) (by
    rw [hEv]
    intro p hp
    obtain ⟨q, hq⟩ := hne p hp
    exact ⟨q, hq, og_S_lt (hN p hp) hq⟩) (by omega) (by omega)
  rw [hEv] at h3
  refine ⟨E, h1, h2, ?_⟩
  -- the masks beyond the places don't matter
  have conv : ∀ (mi : Nat → Bool) (b : Nat) (X : Nat → Prop), og_win (fun p => og_S (M.1 11 p)) mi (og_num M) b (fun p => p < n) X → og_win (fun p => og_S (og_NN (M.1 11) n p)) mi (og_num M) b (fun p => p < n) X := by
    rintro mi b X ⟨k0, s, k1, k2, k3⟩
    have hNN : ∀ p, X p → og_NN (M.1 11) n p = M.1 11 p := fun p hp => og_NN_lt (k0 p hp)
    refine ⟨k0, s, fun p hp hm => ?_, fun p q hp hm hg hq => k2 p q hp hm (by simpa only [hNN p hp] using hg) hq, fun c hc hst => k3 c hc fun i => ?_⟩
    · have := k1 p hp hm
      simpa only [hNN p hp] using this
    · have := hst i
      unfold og_stp at this ⊢
      simpa only [hNN _ (hc i)] using this
  exact ⟨h3.1, conv _ _ _ h3.2.1, conv _ _ _ h3.2.2⟩
theorem og_hmi0 {M : om_M} {n : Nat} (hp : om_Bp M n) : ∀ p, p < n → (M.1 47 p = 0 ↔ og_mi (M.1 1 2) 0 p = true) := og_hmi hp (show 0 < 2 by omega)
theorem og_Bp_pv {M M' : om_M} {n : Nat} (hp : om_Bp M n) (h : om_fr om_sc M M') : om_Bp M' n := by
  refine ⟨fun i hi => by rw [h.1 1 2 rfl]; exact hp.1 i hi, fun p hpn => ?_⟩
  rw [h.1 47 p rfl, h.1 1 2 rfl, h.1 48 p rfl, h.1 2 p rfl]; exact hp.2 p hpn
theorem og_num_sc {M M' : om_M} (h : om_fr om_sc M M') : og_num M' = og_num M := funext fun p => by unfold og_num; rw [h.1 2 p rfl]
theorem og_k11 {M : om_M} (h : om_Inv M) : om_ok11 om_Inv M := by
  have hI := h
  obtain ⟨n, m, L, hB, hT, hQ, hA⟩ := h
  have ⟨⟨h8, h20, e10, e11, e462, e466⟩, hp, ht, hBa⟩ := hB
  show om_ok om_Inv _ _ M
  obtain ⟨M1, a1, a2, a3, a4, a5⟩ := og_both0 hB hA
  obtain ⟨M2, b1, b2, b3, b4⟩ := a5 M1 (og_sc_pv a2) (og_Al_fr hA (fun j => a2.1 59 j rfl) (a2.1 46 18 rfl))
  have hs1 := og_sc_pv a2
  have hs2 := om_fr_tr hs1 (og_sc_pm b2)
  have e2 : M2.1 46 2 = nI n := by rw [hs2.1 46 2 rfl, e462]
  obtain ⟨E, c1, c2, c3⟩ := og_evenTop h8 a3.1 (og_Bp_pv hp hs1) b4 (og_Ld_ne hBa a3)
  rw [a4, og_num_sc hs1] at c3
  obtain ⟨M3, d1, d2⟩ := og_won_eq (M1 := M1) (M2 := M2) (mi := og_mi (M.1 1 2) 0) (num := og_num M) h8 (fun p hpn => (og_num_eq hp hpn).2) b4 (og_Ld_ne hBa a3) (fun p hpn => (b3 p hpn).symm) c2 c3 e2 (fun p hpn => by rw [hs2.1 48 p rfl, (hp.2 p hpn).2.1]; exact (og_num_eq hp hpn).1) (fun p hpn => by rw [hs2.1 47 p rfl]; exact og_hmi0 hp p hpn)
  refine ⟨E, M1, M3, ?_, ?_, om_Inv_fr hB hT hQ (om_fr_tr hs2 (og_pw_frsc d2)) (og_Al_fr (og_Al_fr (og_Al_fr hA (fun j => a2.1 59 j rfl) (a2.1 46 18 rfl)) (fun j => b2.1 59 j rfl) (b2.1 46 18 rfl)) (fun j => d2.1 59 j rfl) (d2.1 46 18 rfl))⟩
  · show om_C_won om_F M = _
    simp only [om_C_won, om_C_won_b0, a1, Option.bind_some, om_V_wonBy, om_V_wonBy_b0, om_V_wonBy_b27, og_everywhere om_F a3.1, c1, if_true]
  · show om_D_won om_F M1 = _
    simp only [om_D_won, om_D_won_b0, b1, Option.bind_some, d1]
