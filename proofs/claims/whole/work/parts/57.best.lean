def og_red (x : Int) (b : Nat) (x' : Int) (b' : Nat) : Prop := 0 < b' ∧ b' ≤ b ∧ x' * b = x * b' ∧ ∀ e : Nat, 1 < e → (e : Int) ∣ x' → e ∣ b' → False
theorem og_iI {v : Int32} {x : Int} (h : v.toInt = x) : v = Int32.ofInt x := by
  rw [← h, Int32.ofInt_toInt]
set_option maxRecDepth 100000 in
theorem og_rem_all : ∀ (i : Fin 161) (d : Fin 9), 2 ≤ d.val → ((Int32.ofInt ((i.val : Int) - 80) - Int32.ofInt ((i.val : Int) - 80) / nI d.val * nI d.val = 0 ↔ ((i.val : Int) - 80) % d.val = 0) ∧ (((i.val : Int) - 80) % d.val = 0 → (Int32.ofInt ((i.val : Int) - 80) / nI d.val).toInt = ((i.val : Int) - 80) / d.val)) := by decide +kernel
theorem og_rem8 {v : Int32} {x : Int} (h : v.toInt = x) (h1 : -80 ≤ x) (h2 : x ≤ 80) {d : Nat} (hd : 2 ≤ d) (hd8 : d ≤ 8) : (v - v / nI d * nI d = 0 ↔ (d : Int) ∣ x) ∧ ((d : Int) ∣ x → (v / nI d).toInt = x / d) := by
  have := og_rem_all ⟨(x + 80).toNat, by omega⟩ ⟨d, by omega⟩ hd
  have e : (((x + 80).toNat : Nat) : Int) - 80 = x := by omega
  simp only [e] at this
  rw [← og_iI h] at this
  have hdv : (d : Int) ∣ x ↔ x % d = 0 := ⟨Int.emod_eq_zero_of_dvd, Int.dvd_of_emod_eq_zero⟩
  rw [hdv]; exact this
section FB
variable {n : Nat} {M : om_M} {R : Nat → Nat → Int32 → Prop} {σ : Int32}
theorem og_reduce {x : Int} {b : Nat} (hb : 0 < b) (hb8 : b ≤ 8) (hx1 : -80 ≤ x) (hx2 : x ≤ 80) (h0 : (M.1 14 0).toInt = x) (h1 : M.1 14 1 = nI b) : ∃ M' x' b', om_E_findBest_L91 om_F (M.1 14 1, M) = some M' ∧ (∀ c j, ¬ (c = 14 ∧ (j = 0 ∨ j = 1)) → M'.1 c j = M.1 c j) ∧ M'.2 = M.2 ∧ (M'.1 14 0).toInt = x' ∧ M'.1 14 1 = nI b' ∧ og_red x b x' b' := by
  obtain ⟨M', hz, x', b', q1, q2, q3, q4, q5⟩ := om_lp (f := om_E_findBest_L91_body om_F) (fun i s => ∃ M' x' b', s = (nI (b - i), M') ∧ (∀ c j, ¬ (c = 14 ∧ (j = 0 ∨ j = 1)) → M'.1 c j = M.1 c j) ∧ M'.2 = M.2 ∧ (M'.1 14 0).toInt = x' ∧ M'.1 14 1 = nI b' ∧ 0 < b' ∧ b' ≤ b ∧ x' * b = x * b' ∧ -80 ≤ x' ∧ x' ≤ 80 ∧ ∀ e : Nat, b - i < e → 1 < e → (e : Int) ∣ x' → e ∣ b' → False) (fun M' : om_M => ∃ x' b', (∀ c j, ¬ (c = 14 ∧ (j = 0 ∨ j = 1)) → M'.1 c j = M.1 c j) ∧ M'.2 = M.2 ∧ (M'.1 14 0).toInt = x' ∧ M'.1 14 1 = nI b' ∧ og_red x b x' b') (b - 1) (F := om_F) (Nat.lt_of_le_of_lt (show b - 1 ≤ 8 by omega) (by decide)) (s := (M.1 14 1, M)) ⟨M, x, b, by rw [h1]; rfl, fun _ _ _ => rfl, rfl, h0, h1, hb, Nat.le_refl b, rfl, hx1, hx2, fun e he _ _ hd => by have := Nat.le_of_dvd hb hd; omega⟩ (by
    rintro i s hi ⟨M', x', b', rfl, g1, g2, g3, g4, g5, g6, g7, g8, g9, g10⟩
    have hnl : ¬ nI (b - i) ≤ 1 := nI_ge (a := 1) (by omega) (by omega)
    have hne : ¬ nI (b - i) = 0 := nI_ne0 (by omega) (by omega)
    have hnext : nI (b - i) + -1 = nI (b - (i + 1)) := by
      rw [← Int32.sub_eq_add_neg, show b - i = (b - (i + 1)) + 1 by omega, nI_pred]
    have hp0 : 0 < b - i := by omega
    have hp2 : 2 ≤ b - i := by omega
    obtain ⟨r1, r2⟩ := og_rem8 g3 g8 g9 (d := b - i) (by omega) (by omega)
    have r4 : nI b' / nI (b - i) = nI (b' / (b - i)) := pk_div (by omega) (by omega) (by omega)
    have r3 : nI b' - nI (b' / (b - i)) * nI (b - i) = nI (b' % (b - i)) := by
      rw [← r4]; exact pk_rem (by omega) (by omega) (by omega)
    have hmlt : b' % (b - i) < 2 ^ 31 := Nat.lt_of_le_of_lt (Nat.mod_le _ _) (by omega)
    have stay : ¬ (((b - i : Nat) : Int) ∣ x' ∧ (b - i) ∣ b') → ∃ s', some (Sum.inl (β := om_M) (nI (b - (i + 1)), M')) = some (Sum.inl s') ∧ ∃ M' x' b', s' = (nI (b - (i + 1)), M') ∧ (∀ c j, ¬ (c = 14 ∧ (j = 0 ∨ j = 1)) → M'.1 c j = M.1 c j) ∧ M'.2 = M.2 ∧ (M'.1 14 0).toInt = x' ∧ M'.1 14 1 = nI b' ∧ 0 < b' ∧ b' ≤ b ∧ x' * b = x * b' ∧ -80 ≤ x' ∧ x' ≤ 80 ∧ ∀ e : Nat, b - (i + 1) < e → 1 < e → (e : Int) ∣ x' → e ∣ b' → False := by
      intro hno
      refine ⟨_, rfl, M', x', b', rfl, g1, g2, g3, g4, g5, g6, g7, g8, g9, fun e he1 he2 hd1 hd2 => ?_⟩
      by_cases hee : e = b - i
      · subst hee; exact hno ⟨hd1, hd2⟩
      · exact g10 e (by omega) he2 hd1 hd2
    have u1 : (om_up M' 14 0 (M'.1 14 0 / nI (b - i))).1 14 1 = nI b' := by simp [om_up_at, g4]
    simp only [om_E_findBest_L91_body, om_E_findBest_b91, om_E_findBest_b139, hnl, if_false, hne, decide_false, Bool.not_false, cond_true, hnext, r1, g4, r3, u1, r4]
    by_cases hd1 : ((b - i : Nat) : Int) ∣ x'
    · rw [if_pos hd1]
      have r2' := r2 hd1
      clear r1 r2
      by_cases hd2 : (b - i) ∣ b'
      · rw [if_pos (show nI (b' % (b - i)) = 0 by rw [Nat.mod_eq_zero_of_dvd hd2]; rfl)]
        obtain ⟨t, ht⟩ := hd2
        obtain ⟨y, hy⟩ := hd1
        have e1 : b' / (b - i) = t := by rw [ht]; exact Nat.mul_div_cancel_left t hp0
        have e2 : x' / ((b - i : Nat) : Int) = y := by rw [hy]; exact Int.mul_ediv_cancel_left y (by omega)
        have htp : 0 < t := by
          rcases Nat.eq_zero_or_pos t with h | h
          · rw [h, Nat.mul_zero] at ht; omega
          · exact h
        have htb : t ≤ b' := by rw [ht]; exact Nat.le_mul_of_pos_left t (by omega)
        refine .inl ⟨_, rfl, _, y, t, rfl, fun c j hc => ?_, g2, ?_, by simp [om_up_at, e1], htp, by omega, ?_, ?_, ?_, fun e he1 he2 hde1 hde2 => ?_⟩
        · have : (om_up (om_up M' 14 0 (M'.1 14 0 / nI (b - i))) 14 1 (nI (b' / (b - i)))).1 c j = M'.1 c j := by
            simp only [om_up_at]
            by_cases hc14 : c = 14
            · rw [if_pos hc14, if_neg (by omega), if_pos hc14, if_neg (by omega)]
            · rw [if_neg hc14, if_neg hc14]
          rw [this]; exact g1 c j hc
        · have : (om_up (om_up M' 14 0 (M'.1 14 0 / nI (b - i))) 14 1 (nI (b' / (b - i)))).1 14 0 = M'.1 14 0 / nI (b - i) := by simp [om_up_at]
          rw [this, r2', e2]
        · have hp : (0 : Int) < ((b - i : Nat) : Int) := by omega
          have h1 : ((b - i : Nat) : Int) * (y * b) = ((b - i : Nat) : Int) * (x * t) := by
            have e3 : ((b - i : Nat) : Int) * (y * b) = x' * b := by rw [← Int.mul_assoc, ← hy]
            have e4 : ((b - i : Nat) : Int) * (x * t) = x * b' := by
              rw [Int.mul_left_comm, ht]; congr 1
            rw [e3, e4, g7]
          exact Int.eq_of_mul_eq_mul_left (by omega) h1
        · rw [hy] at g8
          refine Classical.byContradiction fun h => ?_
          have := Int.mul_le_mul_of_nonneg_left (show y ≤ -81 by omega) (show (0 : Int) ≤ ((b - i : Nat) : Int) by omega)
          omega
        · rw [hy] at g9
          refine Classical.byContradiction fun h => ?_
          have := Int.mul_le_mul_of_nonneg_left (show 81 ≤ y by omega) (show (0 : Int) ≤ ((b - i : Nat) : Int) by omega)
          omega
        · have hme : (b - i) * 2 ≤ (b - i) * e := Nat.mul_le_mul_left (b - i) he2
          refine g10 ((b - i) * e) ?_ ?_ ?_ ?_
          · clear hde1 hde2; omega
          · clear hde1 hde2; omega
          · rw [hy, Int.natCast_mul]; exact Int.mul_dvd_mul_left _ hde1
          · rw [ht]; exact Nat.mul_dvd_mul_left _ hde2
      · rw [if_neg (nI_ne0 (Nat.pos_of_ne_zero (fun h => hd2 (Nat.dvd_of_mod_eq_zero h))) hmlt)]
        exact .inl (stay (fun h => hd2 h.2))
    · rw [if_neg hd1]
      exact .inl (stay (fun h => hd1 h.1))) (by
    rintro s ⟨M', x', b', rfl, g1, g2, g3, g4, g5, g6, g7, g8, g9, g10⟩
    have hl : nI (b - (b - 1)) ≤ 1 := nI_le (b := 1) (by omega) (by omega)
    exact ⟨_, by simp only [om_E_findBest_L91_body, om_E_findBest_b91]; rw [if_pos hl], x', b', g1, g2, g3, g4, g5, g6, g7, fun e he => g10 e (by omega) he⟩)
  exact ⟨M', x', b', hz, q1, q2, q3, q4, q5⟩
/-- the masks of the plan of a number -/
def og_On (N : Nat → Int32) (mi : Nat → Bool) (n i p : Nat) : Int32 := if mi p = true then og_ba (N p) (i / og_P mi (og_ch N n) p % og_ch N n p) else N p
theorem og_Ho_congr {O O' : Nat → Int32} (h : ∀ p, p < n → O p = O' p) : og_Ho n R O = og_Ho n R O' := by
  funext p q
  refine propext ⟨fun h1 => ⟨h1.1, by rw [← h p h1.1.1]; exact h1.2⟩, fun h1 => ⟨h1.1, by rw [h p h1.1.1]; exact h1.2⟩⟩
theorem og_On_sub (h8 : n ≤ 8) {N : Nat → Int32} (hN : ∀ p, p < n → og_wn n (N p)) (hne : ∀ p, p < n → ∃ q, og_S (N p) q) {mi : Nat → Bool} {i p : Nat} (hp : p < n) : (∃ q, om_b (og_On N mi n i p) q = true) ∧ ∀ q, om_b (og_On N mi n i p) q = true → om_b (N p) q = true := by
  unfold og_On
  by_cases hm : mi p = true
  · rw [if_pos hm]
    have hlt := Nat.mod_lt (i / og_P mi (og_ch N n) p) (og_ch_pos hN hne p)
    have hc : og_ch N n p = og_cnt (om_b (N p)) n := by unfold og_ch; rw [if_pos hp]
    rw [hc] at hlt ⊢
    obtain ⟨q, h1, h2, h3⟩ := og_ba_bit h8 (hN p hp) hlt
    rw [h3]
    refine ⟨⟨q, by rw [om_b_shl (by omega)]; simp⟩, fun r hr => ?_⟩
    rw [om_b_shl (by omega), decide_eq_true_eq] at hr
    rw [hr]; exact h2
  · rw [if_neg hm]
    exact ⟨hne p hp, fun q h => h⟩
theorem og_findBest (h8 : n ≤ 8) (hR : og_Rok n R) (hσ : og_sg σ) (hL : og_Ld M n R) {p : Nat} (hp : p < n) (hN : ∀ p, p < n → og_wn n (M.1 11 p)) (hne : ∀ p, p < n → ∃ q, og_S (M.1 11 p) q) {mi : Nat → Bool} {x2 : Int32} (hx2 : (x2 = -1 ∧ ∀ p, mi p = false) ∨ ∃ pl, pl < 2 ∧ x2 = nI pl ∧ mi = og_mi (M.1 7 1) pl) (hP : og_P mi (og_ch (M.1 11) n) n < om_F) : ∃ (M' : om_M) (a : Int) (b : Nat) (x' : Int) (b' i0 : Nat), om_E_findBest om_F x2 (nI (og_P mi (og_ch (M.1 11) n) n)) σ (nI p) M = some M' ∧ om_fr og_pe M M' ∧ 0 < b ∧ b ≤ 8 ∧ i0 < og_P mi (og_ch (M.1 11) n) n ∧ og_K1 n (og_Ho n R (og_On (M.1 11) mi n i0)) (fun r q => (b : Int) * og_us R σ r q - a) p ∧ og_K2 n (og_Ho n R (og_On (M.1 11) mi n i0)) (fun r q => (b : Int) * og_us R σ r q - a) p ∧ (∀ i, i < og_P mi (og_ch (M.1 11) n) n → ∃ a' b' : Int, 0 < b' ∧ a' * b ≤ a * b' ∧ og_K2 n (og_Ho n R (og_On (M.1 11) mi n i)) (fun r q => b' * og_us R σ r q - a') p) ∧ (M'.1 14 0).toInt = x' ∧ M'.1 14 1 = nI b' ∧ og_red (a * σ.toInt) b x' b' := by
  have hPp : 0 < og_P mi (og_ch (M.1 11) n) n := og_P_pos (og_ch_pos hN hne) n
  have hF : om_F = 100000 := rfl
  obtain ⟨z, hz, M1, rfl, c1, a, b, i0, c2, c3, c4, c5, c6, c7, c8, c9, c10⟩ := om_lp (f := om_E_findBest_L3_body om_F) (fun i s => ∃ M', s = (x2, nI (og_P mi (og_ch (M.1 11) n) n), σ, nI p, nI i, M') ∧ om_fr og_pe M M' ∧ (0 < i → ∃ (a : Int) (b i0 : Nat), (M'.1 14 0).toInt = a ∧ M'.1 14 1 = nI b ∧ 0 < b ∧ b ≤ 8 ∧ -80 ≤ a ∧ a ≤ 80 ∧ i0 < i ∧ (og_K1 n (og_Ho n R (og_On (M.1 11) mi n i0)) (fun r q => (b : Int) * og_us R σ r q - a) p ∧ og_K2 n (og_Ho n R (og_On (M.1 11) mi n i0)) (fun r q => (b : Int) * og_us R σ r q - a) p) ∧ ∀ j, j < i → ∃ a' b' : Int, 0 < b' ∧ a' * b ≤ a * b' ∧ og_K2 n (og_Ho n R (og_On (M.1 11) mi n j)) (fun r q => b' * og_us R σ r q - a') p)) (fun z => ∃ M', z = (σ, M') ∧ om_fr og_pe M M' ∧ ∃ (a : Int) (b i0 : Nat), (M'.1 14 0).toInt = a ∧ M'.1 14 1 = nI b ∧ 0 < b ∧ b ≤ 8 ∧ -80 ≤ a ∧ a ≤ 80 ∧ i0 < og_P mi (og_ch (M.1 11) n) n ∧ (og_K1 n (og_Ho n R (og_On (M.1 11) mi n i0)) (fun r q => (b : Int) * og_us R σ r q - a) p ∧ og_K2 n (og_Ho n R (og_On (M.1 11) mi n i0)) (fun r q => (b : Int) * og_us R σ r q - a) p) ∧ ∀ j, j < og_P mi (og_ch (M.1 11) n) n → ∃ a' b' : Int, 0 < b' ∧ a' * b ≤ a * b' ∧ og_K2 n (og_Ho n R (og_On (M.1 11) mi n j)) (fun r q => b' * og_us R σ r q - a') p) (og_P mi (og_ch (M.1 11) n) n) (F := om_F) hP (s := (x2, nI (og_P mi (og_ch (M.1 11) n) n), σ, nI p, 0, M)) ⟨M, rfl, om_fr_rfl, fun h => absurd h (by omega)⟩ (by
    rintro i s hi ⟨M', rfl, g1, g2⟩
    have hlt : ¬ nI (og_P mi (og_ch (M.1 11) n) n) ≤ nI i := nI_ge hi (by omega)
    have e11 : M'.1 11 = M.1 11 := funext fun j => g1.1 11 j rfl
    have e71 : M'.1 7 1 = M.1 7 1 := g1.1 7 1 rfl
    have hL' := og_Ld_pe hL g1
    obtain ⟨M2, d1, d2, d3, d4⟩ := og_choosePlan (mi := mi) h8 hL'.1 (by rw [e11]; exact hN) (by rw [e11]; exact hne) (by rw [e71]; exact hx2) (i := i) (by omega)
    rw [e11] at d4
    have hf2 : om_fr og_pe M M2 := om_fr_tr g1 ⟨fun c j h => d2 c j (by have := og_pe_iff.mp h; omega), d3⟩
    have hHo : og_Ho n R (M2.1 15) = og_Ho n R (og_On (M.1 11) mi n i) := og_Ho_congr (fun p hp => d4 p hp)
    have hGR : ∀ p q, p < n → om_b (M.1 11 p) q = true → og_GR n R p q := fun p q hp hb => by
      obtain ⟨-, s', -, -, -, -, h4⟩ := hL
      obtain ⟨h1, w, h2⟩ := (h4 p hp q).mp hb
      exact ⟨hp, h1, w, h2⟩
    obtain ⟨M3, a, b, f1, f2, f3, f4, f5, f6, f7, f8, f9, f10, f11⟩ := og_findLeastLoop h8 hR hσ (og_Ld_pe hL hf2) hp (by
      rw [hHo]
      intro p hp
      obtain ⟨⟨q, hq⟩, hsub⟩ := og_On_sub (mi := mi) (i := i) h8 hN hne hp
      exact ⟨q, hGR p q hp (hsub q hq), hq⟩)
    rw [hHo] at f10 f11
    have hf3 : om_fr og_pe M M3 := om_fr_tr hf2 ⟨fun c j h => f2 c j (by have := og_pe_iff.mp h; omega) (by have := og_pe_iff.mp h; omega), f3⟩
    have hbp : (0 : Int) < (b : Int) := by omega
    -- the new one is taken
    have take : (∀ j, j < i → ∃ a' b' : Int, 0 < b' ∧ a' * b ≤ a * b' ∧ og_K2 n (og_Ho n R (og_On (M.1 11) mi n j)) (fun r q => b' * og_us R σ r q - a') p) → ∃ s', some (Sum.inl (β := Int32 × om_M) (x2, nI (og_P mi (og_ch (M.1 11) n) n), σ, nI p, nI (i + 1), om_up (om_up M3 14 0 (M3.1 14 2)) 14 1 ((om_up M3 14 0 (M3.1 14 2)).1 14 3))) = some (Sum.inl s') ∧ ∃ M', s' = (x2, nI (og_P mi (og_ch (M.1 11) n) n), σ, nI p, nI (i + 1), M') ∧ om_fr og_pe M M' ∧ (0 < i + 1 → ∃ (a : Int) (b i0 : Nat), (M'.1 14 0).toInt = a ∧ M'.1 14 1 = nI b ∧ 0 < b ∧ b ≤ 8 ∧ -80 ≤ a ∧ a ≤ 80 ∧ i0 < i + 1 ∧ (og_K1 n (og_Ho n R (og_On (M.1 11) mi n i0)) (fun r q => (b : Int) * og_us R σ r q - a) p ∧ og_K2 n (og_Ho n R (og_On (M.1 11) mi n i0)) (fun r q => (b : Int) * og_us R σ r q - a) p) ∧ ∀ j, j < i + 1 → ∃ a' b' : Int, 0 < b' ∧ a' * b ≤ a * b' ∧ og_K2 n (og_Ho n R (og_On (M.1 11) mi n j)) (fun r q => b' * og_us R σ r q - a') p) := by
      intro hall
      refine ⟨_, rfl, _, rfl, om_fr_up (om_fr_up hf3 rfl) rfl, fun _ => ⟨a, b, i, by simp [om_up_at, f4], by simp [om_up_at, f5], f6, f7, f8, f9, by omega, ⟨f10, f11⟩, fun j hj => ?_⟩⟩
      by_cases hji : j = i
      · subst hji; exact ⟨a, b, hbp, Int.le_refl _, f11⟩
      · exact hall j (by omega)
    simp only [om_E_findBest_L3_body, om_E_findBest_b3, om_E_findBest_b52, om_E_findBest_b68, hlt, if_false, d1, f1, Option.bind_some, og_nI1]
    by_cases hi0 : i = 0
    · subst hi0
      rw [if_pos (show nI 0 = 0 from rfl)]
      exact .inl (take (fun j hj => absurd hj (by omega)))
    · rw [if_neg (nI_ne0 (by omega) (by omega))]
      obtain ⟨a2, b2, i2, k1, k2, k3, k4, k5, k6, k7, k8, k9⟩ := g2 (by omega)
      have t0 : M3.1 14 0 = M'.1 14 0 := by rw [f2 14 0 (by omega) (by omega), d2 14 0 (by decide)]
      have t1 : M3.1 14 1 = M'.1 14 1 := by rw [f2 14 1 (by omega) (by omega), d2 14 1 (by decide)]
      have hnb : (nI b).toInt = (b : Int) := nI_toInt (by omega)
      have hnb2 : (nI b2).toInt = (b2 : Int) := nI_toInt (by omega)
      have u1 := og_mul_abs (x := a) (A := 80) ⟨f8, f9⟩ (B := 8) (y := (b2 : Int)) ⟨by omega, by omega⟩ (by omega)
      have u2 := og_mul_abs (x := a2) (A := 80) ⟨k5, k6⟩ (B := 8) (y := (b : Int)) ⟨by omega, by omega⟩ (by omega)
      have m1 : (M3.1 14 2 * M3.1 14 1).toInt = a * b2 := by rw [t1, k2]; exact og_mul_toInt f4 hnb2 u1.1 u1.2 (by omega)
      have m2 : (M3.1 14 0 * M3.1 14 3).toInt = a2 * b := by rw [t0, f5]; exact og_mul_toInt k1 hnb u2.1 u2.2 (by omega)
      by_cases hle : M3.1 14 2 * M3.1 14 1 ≤ M3.1 14 0 * M3.1 14 3
      · rw [if_pos hle]
        rw [Int32.le_iff_toInt_le, m1, m2] at hle
        refine .inl ⟨_, rfl, M3, rfl, hf3, fun _ => ⟨a2, b2, i2, by rw [t0]; exact k1, by rw [t1]; exact k2, k3, k4, k5, k6, by omega, k8, fun j hj => ?_⟩⟩
        by_cases hji : j = i
        · subst hji; exact ⟨a, b, hbp, hle, f11⟩
        · exact k9 j (by omega)
      · rw [if_neg hle]
        rw [Int32.le_iff_toInt_le, m1, m2] at hle
        refine .inl (take (fun j hj => ?_))
        obtain ⟨a', b', h1, h2, h3⟩ := k9 j hj
        refine ⟨a', b', h1, ?_, h3⟩
        have p2 : (0 : Int) < (b2 : Int) := by omega
        have q1 := Int.mul_le_mul_of_nonneg_right h2 (Int.le_of_lt hbp)
        have q2 := Int.mul_le_mul_of_nonneg_right (Int.le_of_lt (Int.not_le.mp hle)) (Int.le_of_lt h1)
        have e1 : a' * (b2 : Int) * (b : Int) = a' * (b : Int) * (b2 : Int) := Int.mul_right_comm _ _ _
        have e2 : a2 * b' * (b : Int) = a2 * (b : Int) * b' := Int.mul_right_comm _ _ _
        have e3 : a * (b2 : Int) * b' = a * b' * (b2 : Int) := Int.mul_right_comm _ _ _
        exact Int.le_of_mul_le_mul_right (by omega) p2) (by
    rintro s ⟨M', rfl, g1, g2⟩
    exact ⟨_, by simp only [om_E_findBest_L3_body, om_E_findBest_b3]; rw [if_pos Int32.le_rfl], M', rfl, g1, g2 hPp⟩)
  have e1 : (1 : Int32).toInt = 1 := by decide
  have e2 : (-1 : Int32).toInt = -1 := by decide
  have hab : -80 ≤ a * σ.toInt ∧ a * σ.toInt ≤ 80 := by
    rcases hσ with rfl | rfl
    · rw [e1]; omega
    · rw [e2]; omega
  have hmul : (M1.1 14 0 * σ).toInt = a * σ.toInt := og_mul_toInt c2 rfl (by omega) hab.2 (by omega)
  obtain ⟨M2, x', b', r1, r2, r3, r4, r5, r6⟩ := og_reduce (M := om_up M1 14 0 (M1.1 14 0 * σ)) (x := a * σ.toInt) (b := b) c4 c5 hab.1 hab.2 (by
    have : (om_up M1 14 0 (M1.1 14 0 * σ)).1 14 0 = M1.1 14 0 * σ := by simp [om_up_at]
    rw [this]; exact hmul) (by simp [om_up_at, c3])
  refine ⟨M2, a, b, x', b', i0, ?_, ?_, c4, c5, c8, c9.1, c9.2, c10, r4, r5, r6⟩
  · unfold om_E_findBest om_E_findBest_b0 om_E_findBest_L3
    have hz' : om_it (om_E_findBest_L3_body om_F) om_F (x2, nI (og_P mi (og_ch (M.1 11) n) n), σ, nI p, 0, M) = some (σ, M1) := hz
    rw [hz']
    show (om_E_findBest_L91 om_F ((om_up M1 14 0 (M1.1 14 0 * σ)).1 14 1, om_up M1 14 0 (M1.1 14 0 * σ))).bind _ = _
    rw [r1]; rfl
  · refine om_fr_tr (om_fr_up c1 rfl) ⟨fun c j h => r2 c j (by have := og_pe_iff.mp h; omega), r3⟩
end FB
