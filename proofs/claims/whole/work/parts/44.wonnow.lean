theorem og_unit (F : Nat) {k : Nat} (hk : k < 4) (M : om_M) : om_D_unit F (nI k) M = some (nI (og_u k), M) := by
  have : k = 0 ∨ k = 1 ∨ k = 2 ∨ k = 3 := by omega
  rcases this with rfl | rfl | rfl | rfl <;> rfl
theorem og_u_le (k : Nat) : og_u k ≤ 729 := by unfold og_u; split <;> (try split) <;> (try split) <;> omega
theorem og_ncL {M : om_M} {mo : Nat → Nat} (hmo : ∀ i, i < 4 → M.1 61 i = nI (mo i) ∧ mo i ≤ 8) : ∀ (c : Nat), c ≤ 4 → ∀ (F' b : Nat), c < F' → b < 6561 → ∃ b' x', om_it (om_D_needed_L60_body om_F) F' (nI b, nI c - 1, M) = some (b', x', M) ∧ om_D_needed_b110 om_F b' x' M = some (nI (og_nc mo c b), M)
  | 0, _, F' + 1, b, _, _ => by
    refine ⟨nI b, nI 0 - 1, om_it_r ?_, ?_⟩
    · simp only [om_D_needed_L60_body, om_D_needed_b60]
      rw [if_pos (by decide)]
    · unfold om_D_needed_b110 om_D_needed_b128
      rw [if_neg (by decide)]; rfl
  | c + 1, hc, F' + 1, b, hF, hb => by
    have hlt : ¬ nI c < 0 := nI_pos (by omega)
    have hin : om_in (nI c) 4 = true := om_in_nI (by omega) (by omega)
    have hcl : (nI c).toNatClampNeg = c := nI_clamp (by omega)
    obtain ⟨e1, e2⟩ := hmo c (by omega)
    have hu := og_u_le c
    have hup := og_u_pos c
    have hne : ¬ nI (og_u c) = 0 := nI_ne0 hup (by omega)
    have hq : nI b / nI (og_u c) = nI (b / og_u c) := pk_div (by omega) hup (by omega)
    have hbu : b / og_u c ≤ b := Nat.div_le_self _ _
    have hr : nI (b / og_u c) - nI (b / og_u c) / 9 * 9 = nI (b / og_u c % 9) := pk_rem (a := b / og_u c) (d := 9) (by omega) (by omega) (by omega)
    rw [nI_pred]
    by_cases h : b / og_u c % 9 = mo c
    · have hle : mo c * og_u c ≤ b := by
        have h1 : mo c ≤ b / og_u c := by rw [← h]; exact Nat.mod_le _ _
        exact Nat.le_trans (Nat.mul_le_mul_right _ h1) (Nat.div_mul_le_self _ _)
      obtain ⟨b', x', a1, a2⟩ := og_ncL hmo c (by omega) F' (b - mo c * og_u c) (by omega) (by omega)
      refine ⟨b', x', ?_, ?_⟩
      · rw [om_it_l (y := (nI (b - mo c * og_u c), nI c - 1, M)), a1]
        simp only [om_D_needed_L60_body, om_D_needed_b60]
        rw [if_neg hlt, og_unit om_F (show c < 4 by omega)]
        simp only [Option.bind_some, hne, decide_false, Bool.not_false, cond_true, hin, hcl, hq, hr, e1, og_unit om_F (show c < 4 by omega), pk_mul, show ¬ (9 : Int32) = 0 by decide]
        rw [if_pos (by rw [h]), pk_sub hle, Int32.sub_eq_add_neg]
      · rw [a2]
        show _ = some (nI (if b / og_u c % 9 = mo c then og_nc mo c (b - mo c * og_u c) else b + og_u c), M)
        rw [if_pos h]
    · refine ⟨nI b, nI c, om_it_r ?_, ?_⟩
      · simp only [om_D_needed_L60_body, om_D_needed_b60]
        rw [if_neg hlt, og_unit om_F (show c < 4 by omega)]
        simp only [Option.bind_some, hne, decide_false, Bool.not_false, cond_true, hin, hcl, hq, hr, e1, show ¬ (9 : Int32) = 0 by decide]
        rw [if_neg (fun h2 => h ((nI_eq (by omega) (by omega)).mp h2))]
      · unfold om_D_needed_b110 om_D_needed_b128
        rw [if_pos (nI_pos' (by omega)), og_unit om_F (show c < 4 by omega)]
        show some (nI b + nI (og_u c), M) = some (nI (if b / og_u c % 9 = mo c then og_nc mo c (b - mo c * og_u c) else b + og_u c), M)
        rw [if_neg h, nI_add]
theorem og_needed {M : om_M} {mo : Nat → Nat} (hmo : ∀ i, i < 4 → M.1 61 i = nI (mo i) ∧ mo i ≤ 8) {n m : Nat} (hn : n < 8) (hm : m = 100000 ∨ m < 6561) : om_D_needed om_F (nI n) (nI m) M = some (nI (og_nd mo n m), M) := by
  have hd1 : (nI n + 1) / 2 = nI ((n + 1) / 2) := by rw [og_nI1]; exact pk_div (d := 2) (by omega) (by omega) (by omega)
  unfold om_D_needed om_D_needed_b0 og_nd
  simp only [show ¬ (2 : Int32) = 0 by decide, decide_false, Bool.not_false, cond_true]
  rcases hm with rfl | hm
  · rw [if_pos (show nI 100000 = 100000 from rfl), if_pos rfl]; rfl
  · have hne : ¬ nI m = 100000 := fun h => by have := (nI_eq (b := 100000) (by omega) (by omega)).mp h; omega
    rw [if_neg hne, if_neg (show ¬ m = 100000 by omega), hd1]
    by_cases h0 : (n + 1) / 2 = 0
    · rw [if_pos (show nI ((n + 1) / 2) = 0 by rw [h0]; rfl), if_pos h0]
      unfold om_D_needed_b16 om_D_needed_b28
      rw [if_neg hne]; rfl
    · obtain ⟨c, hc⟩ : ∃ c, (n + 1) / 2 = c + 1 := ⟨(n + 1) / 2 - 1, by omega⟩
      rw [hc, if_neg (nI_ne0 (by omega) (by omega)), if_neg (by omega), nI_pred, Nat.add_sub_cancel]
      have hu := og_u_le c
      have hup := og_u_pos c
      have hne2 : ¬ nI (og_u c) = 0 := nI_ne0 hup (by omega)
      have hq : nI m / nI (og_u c) = nI (m / og_u c) := pk_div (by omega) hup (by omega)
      have hr : nI n - nI n / 2 * 2 = nI (n % 2) := pk_rem (a := n) (d := 2) (by omega) (by omega) (by omega)
      simp only [og_unit om_F (show c < 4 by omega), Option.bind_some, hne2, decide_false, Bool.not_false, cond_true, hr, hq, pk_mul]
      by_cases h2 : n % 2 = 0
      · rw [if_pos (show nI (n % 2) = 0 by rw [h2]; rfl), if_pos h2]
      · rw [if_neg (nI_ne0 (by omega) (by omega)), if_neg h2]
        have hb : m / og_u c * og_u c < 6561 := Nat.lt_of_le_of_lt (Nat.div_mul_le_self _ _) hm
        obtain ⟨b', x', a1, a2⟩ := og_ncL hmo (c + 1) (by omega) om_F (m / og_u c * og_u c) (Nat.lt_of_le_of_lt (show c + 1 ≤ 4 by omega) (by decide)) hb
        rw [nI_pred] at a1
        unfold om_D_needed_L60
        rw [a1]
        show om_D_needed_b110 om_F b' x' M = _
        rw [a2]
def og_lf (mo num : Nat → Nat) (N : Nat → Int32) (mi : Nat → Bool) (μ : Nat → Nat) (p : Nat) : Nat → Nat
  | 0 => if mi p = true then 100000 else 0
  | q + 1 => if om_b (N p) q = true then (if mi p = true then (if og_lf mo num N mi μ p q ≤ og_nd mo (num p) (μ q) then og_lf mo num N mi μ p q else og_nd mo (num p) (μ q)) else (if og_nd mo (num p) (μ q) ≤ og_lf mo num N mi μ p q then og_lf mo num N mi μ p q else og_nd mo (num p) (μ q))) else og_lf mo num N mi μ p q
theorem og_lf_one {mo num : Nat → Nat} {N : Nat → Int32} {mi : Nat → Bool} {μ : Nat → Nat} {p : Nat} (hm : mi p = true) : ∀ n, (∀ q, q < n → om_b (N p) q = true → og_lf mo num N mi μ p n ≤ og_nd mo (num p) (μ q)) ∧ (og_lf mo num N mi μ p n = 100000 ∨ ∃ q, q < n ∧ om_b (N p) q = true ∧ og_lf mo num N mi μ p n = og_nd mo (num p) (μ q))
  | 0 => ⟨fun q h => absurd h (by omega), .inl (by unfold og_lf; rw [if_pos hm])⟩
  | n + 1 => by
    obtain ⟨h1, h2⟩ := og_lf_one (mo := mo) (num := num) (N := N) (μ := μ) hm n
    unfold og_lf
    rw [if_pos hm]
    by_cases hb : om_b (N p) n = true
    · rw [if_pos hb]
      by_cases hle : og_lf mo num N mi μ p n ≤ og_nd mo (num p) (μ n)
      · rw [if_pos hle]
        refine ⟨fun q hq hbq => ?_, ?_⟩
        · by_cases hqn : q = n
          · subst hqn; exact hle
          · exact h1 q (by omega) hbq
        · rcases h2 with h2 | ⟨q, g1, g2, g3⟩
          · exact .inl h2
          · exact .inr ⟨q, by omega, g2, g3⟩
      · rw [if_neg hle]
        refine ⟨fun q hq hbq => ?_, .inr ⟨n, by omega, hb, rfl⟩⟩
        by_cases hqn : q = n
        · subst hqn; exact Nat.le_refl _
        · have := h1 q (by omega) hbq; omega
    · rw [if_neg hb]
      refine ⟨fun q hq hbq => ?_, ?_⟩
      · by_cases hqn : q = n
        · subst hqn; exact absurd hbq hb
        · exact h1 q (by omega) hbq
      · rcases h2 with h2 | ⟨q, g1, g2, g3⟩
        · exact .inl h2
        · exact .inr ⟨q, by omega, g2, g3⟩
theorem og_lf_other {mo num : Nat → Nat} {N : Nat → Int32} {mi : Nat → Bool} {μ : Nat → Nat} {p : Nat} (hm : mi p = false) : ∀ n, (∀ q, q < n → om_b (N p) q = true → og_nd mo (num p) (μ q) ≤ og_lf mo num N mi μ p n) ∧ (og_lf mo num N mi μ p n = 0 ∨ ∃ q, q < n ∧ om_b (N p) q = true ∧ og_lf mo num N mi μ p n = og_nd mo (num p) (μ q))
  | 0 => ⟨fun q h => absurd h (by omega), .inl (by unfold og_lf; rw [if_neg (by rw [hm]; decide)])⟩
  | n + 1 => by
    obtain ⟨h1, h2⟩ := og_lf_other (mo := mo) (num := num) (N := N) (μ := μ) hm n
    unfold og_lf
    rw [if_neg (show ¬ mi p = true by rw [hm]; decide)]
    by_cases hb : om_b (N p) n = true
    · rw [if_pos hb]
      by_cases hle : og_nd mo (num p) (μ n) ≤ og_lf mo num N mi μ p n
      · rw [if_pos hle]
        refine ⟨fun q hq hbq => ?_, ?_⟩
        · by_cases hqn : q = n
          · subst hqn; exact hle
          · exact h1 q (by omega) hbq
        · rcases h2 with h2 | ⟨q, g1, g2, g3⟩
          · exact .inl h2
          · exact .inr ⟨q, by omega, g2, g3⟩
      · rw [if_neg hle]
        refine ⟨fun q hq hbq => ?_, .inr ⟨n, by omega, hb, rfl⟩⟩
        by_cases hqn : q = n
        · subst hqn; exact Nat.le_refl _
        · have := h1 q (by omega) hbq; omega
    · rw [if_neg hb]
      refine ⟨fun q hq hbq => ?_, ?_⟩
      · by_cases hqn : q = n
        · subst hqn; exact absurd hbq hb
        · exact h1 q (by omega) hbq
      · rcases h2 with h2 | ⟨q, g1, g2, g3⟩
        · exact .inl h2
        · exact .inr ⟨q, by omega, g2, g3⟩
theorem og_lf_vt {mo num : Nat → Nat} (h8 : og_m8 mo) {N : Nat → Int32} {mi : Nat → Bool} {μ : Nat → Nat} {p n : Nat} (hn : num p < 8) (hv : ∀ q, q < n → og_vt mo (μ q)) : og_vt mo (og_lf mo num N mi μ p n) := by
  have h0 : og_vt mo 0 := .inr ⟨0, 0, 0, 0, by omega, by omega, by omega, by omega, rfl⟩
  rcases Bool.eq_false_or_eq_true (mi p) with hm | hm
  · rcases (og_lf_one (mo := mo) (num := num) (N := N) (μ := μ) hm n).2 with h | ⟨q, h1, h2, h3⟩
    · exact .inl h
    · rw [h3]; exact og_nd_vt h8 (hv q h1) hn
  · rcases (og_lf_other (mo := mo) (num := num) (N := N) (μ := μ) hm n).2 with h | ⟨q, h1, h2, h3⟩
    · rw [h]; exact h0
    · rw [h3]; exact og_nd_vt h8 (hv q h1) hn
theorem og_liftOf {M : om_M} {n : Nat} {num mo μ : Nat → Nat} {mi : Nat → Bool} (h8 : n ≤ 8) (e : M.1 46 2 = nI n) (hnum : ∀ p, p < n → M.1 48 p = nI (num p) ∧ num p < 8) (hmi : ∀ p, p < n → (M.1 47 p = 0 ↔ mi p = true)) (hmo : ∀ i, i < 4 → M.1 61 i = nI (mo i) ∧ mo i ≤ 8) (hμ : ∀ p, p < n → M.1 60 p = nI (μ p)) (hv : ∀ p, p < n → og_vt mo (μ p)) {p : Nat} (hp : p < n) : om_D_liftOf om_F (nI p) M = some (nI (og_lf mo num (M.1 58) mi μ p n), M) := by
  have hm8 : og_m8 mo := ⟨(hmo 0 (by omega)).2, (hmo 1 (by omega)).2, (hmo 2 (by omega)).2, (hmo 3 (by omega)).2⟩
  have hin : om_in (nI p) 8 = true := om_in_nI (by omega) (by omega)
  have hcl : (nI p).toNatClampNeg = p := nI_clamp (by omega)
  have key : om_D_liftOf_b15 om_F (nI p) (if mi p = true then 100000 else 0) M = some (nI (og_lf mo num (M.1 58) mi μ p n), M) := by
    obtain ⟨z, hz, rfl⟩ := om_lp (f := om_D_liftOf_L18_body om_F) (fun i s => s = (nI p, nI (og_lf mo num (M.1 58) mi μ p i), nI i, M)) (fun z => z = (nI (og_lf mo num (M.1 58) mi μ p n), M)) n (F := om_F) (Nat.lt_of_le_of_lt h8 (by decide)) (s := (nI p, (if mi p = true then 100000 else 0), 0, M)) (by
      show _ = (nI p, nI (if mi p = true then 100000 else 0), nI 0, M)
      split <;> rfl) (by
      rintro i s hi rfl
      have hin2 : om_in (nI i) 8 = true := om_in_nI (by omega) (by omega)
      have hcl2 : (nI i).toNatClampNeg = i := nI_clamp (by omega)
      have hlt : ¬ nI n ≤ nI i := nI_ge hi (by omega)
      have hm6 : μ i = 100000 ∨ μ i < 6561 := (hv i hi).elim .inl (fun h => .inr (og_val_lt hm8 h))
      have hnd := og_needed hmo (hnum p hp).2 hm6
      have hb1 := og_vt_le hm8 (og_nd_vt (n := num p) hm8 (hv i hi) (hnum p hp).2)
      have hb2 := og_vt_le hm8 (og_lf_vt (N := M.1 58) (mi := mi) (μ := μ) (p := p) (n := i) hm8 (hnum p hp).2 (fun q hq => hv q (by omega)))
      refine .inl ⟨_, ?_, rfl⟩
      simp only [om_D_liftOf_L18_body, om_D_liftOf_b18, om_D_liftOf_b94, om_D_liftOf_b95, e, hlt, hin, hcl, hin2, hcl2, cond_true, if_false, og_nI1, og_tst1 (show i < 32 by omega), (hnum p hp).1, hμ i hi, hnd, Option.bind_some, hmi p hp, og_lf, nI_leI (show og_lf mo num (M.1 58) mi μ p i < 2 ^ 31 by omega) (show og_nd mo (num p) (μ i) < 2 ^ 31 by omega), nI_leI (show og_nd mo (num p) (μ i) < 2 ^ 31 by omega) (show og_lf mo num (M.1 58) mi μ p i < 2 ^ 31 by omega)]
      rcases Bool.eq_false_or_eq_true (om_b (M.1 58 p) i) with hb | hb
      · rcases Bool.eq_false_or_eq_true (mi p) with hm | hm
        · simp only [hb, hm, if_true]
          by_cases hle : og_lf mo num (M.1 58) mi μ p i ≤ og_nd mo (num p) (μ i) <;> simp [hle]
        · simp only [hb, hm, if_true]
          by_cases hle : og_nd mo (num p) (μ i) ≤ og_lf mo num (M.1 58) mi μ p i <;> simp [hle]
      · simp [hb]) (by
      rintro s rfl
      exact ⟨_, by simp only [om_D_liftOf_L18_body, om_D_liftOf_b18, e]; rw [if_pos Int32.le_rfl], rfl⟩)
    unfold om_D_liftOf_b15 om_D_liftOf_L18
    rw [hz]; rfl
  unfold om_D_liftOf om_D_liftOf_b0
  simp only [hin, hcl, cond_true, hmi p hp]
  by_cases hm : mi p = true
  · rw [if_pos hm] at key ⊢; exact key
  · rw [if_neg hm] at key ⊢; exact key
