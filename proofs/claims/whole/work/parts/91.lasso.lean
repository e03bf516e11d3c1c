/-! ===== rows into a wrong loop ===== -/
section LA
variable {N : Nat → Int32} {num : Nat → Nat} {n w p : Nat}
/-- the least number of the places j .. k - 1 of a row is of the kind w -/
def og_lw (num : Nat → Nat) (w j k : Nat) (ρ : Nat → Nat) : Prop := ∃ v, v % 2 = w ∧ (∃ i, j ≤ i ∧ i < k ∧ num (ρ i) = v) ∧ ∀ i, j ≤ i → i < k → v ≤ num (ρ i)
def og_las (N : Nat → Int32) (num : Nat → Nat) (w p k j : Nat) (ρ : Nat → Nat) : Prop := ρ 0 = p ∧ (∀ i, i < k → og_S (N (ρ i)) (ρ (i + 1))) ∧ j < k ∧ ρ k = ρ j ∧ og_lw num w j k ρ
def og_dst (k : Nat) (ρ : Nat → Nat) : Prop := ∀ i j, i < j → j < k → ρ i ≠ ρ j
def og_gd (N : Nat → Int32) (num : Nat → Nat) (w p k : Nat) (ρ : Nat → Nat) : Prop := og_dst k ρ ∧ ∃ j, og_las N num w p k j ρ
def og_cut (ρ : Nat → Nat) (a δ i : Nat) : Nat := if i ≤ a then ρ i else ρ (i + δ)
theorem og_cut_hi {ρ : Nat → Nat} {a δ i : Nat} (h : ρ a = ρ (a + δ)) (hi : a ≤ i) : og_cut ρ a δ i = ρ (i + δ) := by
  unfold og_cut
  by_cases h1 : i ≤ a
  · have : i = a := by omega
    subst this
    rw [if_pos h1, h]
  · rw [if_neg h1]
theorem og_cut_lo {ρ : Nat → Nat} {a δ i : Nat} (hi : i ≤ a) : og_cut ρ a δ i = ρ i := if_pos hi
theorem og_cut_st {ρ : Nat → Nat} {a δ k : Nat} (h : ρ a = ρ (a + δ)) (hs : ∀ i, i < k → og_S (N (ρ i)) (ρ (i + 1))) : ∀ i, i + δ < k → og_S (N (og_cut ρ a δ i)) (og_cut ρ a δ (i + 1)) := by
  intro i hi
  by_cases h1 : i < a
  · rw [og_cut_lo (by omega), og_cut_lo (by omega)]; exact hs i (by omega)
  · rw [og_cut_hi h (by omega), og_cut_hi h (by omega), show i + 1 + δ = i + δ + 1 by omega]
    exact hs _ hi
theorem og_short {k j : Nat} {ρ : Nat → Nat} (h : og_las N num w p k j ρ) (hd : ¬ og_dst k ρ) : ∃ k' j' ρ', k' < k ∧ og_las N num w p k' j' ρ' := by
  obtain ⟨h0, hs, hj, he, v, hv, ⟨i0, g1, g2, g3⟩, g4⟩ := h
  obtain ⟨a, c, hac, hck, hab⟩ : ∃ a c, a < c ∧ c < k ∧ ρ a = ρ c := Classical.byContradiction fun hno => hd fun i j h1 h2 h3 => hno ⟨i, j, h1, h2, h3⟩
  have hab' : ρ a = ρ (a + (c - a)) := by rw [show a + (c - a) = c by omega]; exact hab
  by_cases hcj : c ≤ j
  · refine ⟨k - (c - a), j - (c - a), og_cut ρ a (c - a), by omega, by rw [og_cut_lo (Nat.zero_le _)]; exact h0, fun i hi => og_cut_st hab' hs i (by omega), by omega, ?_, v, hv, ⟨i0 - (c - a), by omega, by omega, ?_⟩, fun i h1 h2 => ?_⟩
    · rw [og_cut_hi hab' (by omega), og_cut_hi hab' (by omega), show k - (c - a) + (c - a) = k by omega, show j - (c - a) + (c - a) = j by omega, he]
    · rw [og_cut_hi hab' (by omega), show i0 - (c - a) + (c - a) = i0 by omega]; exact g3
    · rw [og_cut_hi hab' (by omega)]
      exact g4 _ (by omega) (by omega)
  · by_cases haj : a < j
    · -- the loop turned, with a shorter way to it
      let σ : Nat → Nat := fun i => if i ≤ a then ρ i else if i - a + c ≤ k then ρ (i - a + c) else ρ (i - a + c - (k - j))
      have s1 : ∀ i, i ≤ a → σ i = ρ i := fun i hi => if_pos hi
      have s2 : ∀ i, a ≤ i → i - a + c ≤ k → σ i = ρ (i - a + c) := fun i hi h2 => by
        by_cases h1 : i ≤ a
        · have : i = a := by omega
          subst this
          rw [s1 i (Nat.le_refl _), show i - i + c = c by omega, hab]
        · show (if i ≤ a then _ else if i - a + c ≤ k then ρ (i - a + c) else _) = _
          rw [if_neg h1, if_pos h2]
      have s3 : ∀ i, a ≤ i → k ≤ i - a + c → σ i = ρ (i - a + c - (k - j)) := fun i hi h2 => by
        by_cases h3 : i - a + c ≤ k
        · rw [s2 i hi h3, show i - a + c = k by omega, show k - (k - j) = j by omega, he]
        · by_cases h1 : i ≤ a
          · omega
          · show (if i ≤ a then _ else if i - a + c ≤ k then _ else ρ (i - a + c - (k - j))) = _
            rw [if_neg h1, if_neg h3]
      refine ⟨a + (k - j), a, σ, by omega, by rw [s1 0 (Nat.zero_le _)]; exact h0, fun i hi => ?_, by omega, ?_, v, hv, ?_, fun i h1 h2 => ?_⟩
      · by_cases h1 : i < a
        · rw [s1 i (by omega), s1 (i + 1) (by omega)]; exact hs i (by omega)
        · by_cases h2 : i - a + c < k
          · rw [s2 i (by omega) (by omega), s2 (i + 1) (by omega) (by omega), show i + 1 - a + c = i - a + c + 1 by omega]
            exact hs _ h2
          · rw [s3 i (by omega) (by omega), s3 (i + 1) (by omega) (by omega), show i + 1 - a + c - (k - j) = i - a + c - (k - j) + 1 by omega]
            exact hs _ (by omega)
      · rw [s3 _ (by omega) (by omega), s1 a (Nat.le_refl _), show a + (k - j) - a + c - (k - j) = c by omega, hab]
      · by_cases h1 : c ≤ i0
        · exact ⟨i0 - c + a, by omega, by omega, by rw [s2 _ (by omega) (by omega), show i0 - c + a - a + c = i0 by omega]; exact g3⟩
        · exact ⟨i0 + (k - j) - c + a, by omega, by omega, by rw [s3 _ (by omega) (by omega), show i0 + (k - j) - c + a - a + c - (k - j) = i0 by omega]; exact g3⟩
      · by_cases h3 : i - a + c < k
        · rw [s2 i h1 (by omega)]; exact g4 _ (by omega) h3
        · rw [s3 i h1 (by omega)]; exact g4 _ (by omega) (by omega)
    · by_cases hin : a ≤ i0 ∧ i0 < c
      · exact ⟨c, a, ρ, hck, h0, fun i hi => hs i (by omega), hac, hab.symm, v, hv, ⟨i0, hin.1, hin.2, g3⟩, fun i h1 h2 => g4 i (by omega) (by omega)⟩
      · refine ⟨k - (c - a), j, og_cut ρ a (c - a), by omega, by rw [og_cut_lo (Nat.zero_le _)]; exact h0, fun i hi => og_cut_st hab' hs i (by omega), by omega, ?_, v, hv, ?_, fun i h1 h2 => ?_⟩
        · rw [og_cut_hi hab' (by omega), og_cut_lo (by omega), show k - (c - a) + (c - a) = k by omega, he]
        · by_cases h1 : i0 < a
          · exact ⟨i0, g1, by omega, by rw [og_cut_lo (by omega)]; exact g3⟩
          · exact ⟨i0 - (c - a), by omega, by omega, by rw [og_cut_hi hab' (by omega), show i0 - (c - a) + (c - a) = i0 by omega]; exact g3⟩
        · by_cases h3 : i ≤ a
          · rw [og_cut_lo h3]; exact g4 i h1 (by omega)
          · rw [og_cut_hi hab' (by omega)]; exact g4 _ (by omega) (by omega)
theorem og_simple : ∀ (b k j : Nat) (ρ : Nat → Nat), k < b → og_las N num w p k j ρ → ∃ k' ρ', k' ≤ k ∧ og_gd N num w p k' ρ'
  | 0, _, _, _, h, _ => absurd h (Nat.not_lt_zero _)
  | b + 1, k, j, ρ, hb, h => by
    by_cases hd : og_dst k ρ
    · exact ⟨k, ρ, Nat.le_refl _, hd, j, h⟩
    · obtain ⟨k1, j1, ρ1, h1, h2⟩ := og_short h hd
      obtain ⟨k2, ρ2, h3, h4⟩ := og_simple b k1 j1 ρ1 (by omega) h2
      exact ⟨k2, ρ2, by omega, h4⟩
theorem og_row_lt (hN : ∀ p, p < n → og_wn n (N p)) (hp : p < n) {k : Nat} {ρ : Nat → Nat} (h0 : ρ 0 = p) (hs : ∀ i, i < k → og_S (N (ρ i)) (ρ (i + 1))) : ∀ i, i ≤ k → ρ i < n
  | 0, _ => by rw [h0]; exact hp
  | i + 1, hi => og_S_lt (hN _ (og_row_lt hN hp h0 hs i (by omega))) (hs i (by omega))
theorem og_gd_le (hN : ∀ p, p < n → og_wn n (N p)) (hp : p < n) {k : Nat} {ρ : Nat → Nat} (h : og_gd N num w p k ρ) : k ≤ n := by
  obtain ⟨hd, j, h0, hs, -⟩ := h
  refine Classical.byContradiction fun hk => ?_
  obtain ⟨i, j, h1, h2, h3⟩ := og_pigeon n ρ (fun i hi => og_row_lt hN hp h0 hs i (by omega))
  exact hd i j h1 (by omega) h3
def og_way (N : Nat → Int32) (Z : Nat → Prop) (p q : Nat) : Prop := ∃ (k : Nat) (ρ : Nat → Nat), ρ 0 = p ∧ ρ k = q ∧ (∀ i, i < k → og_S (N (ρ i)) (ρ (i + 1))) ∧ ∀ i, 1 ≤ i → i ≤ k → Z (ρ i)
/-- from each place that is judged wrong a row leads into a wrong loop -/
theorem og_gd_ex (h8 : n ≤ 8) (hN : ∀ p, p < n → og_wn n (N p)) (hp : p < n) (h : og_S (og_cl N n (og_bad N num n w)) p) : ∃ k ρ, 1 ≤ k ∧ k ≤ n ∧ og_gd N num w p k ρ := by
  obtain ⟨-, -, -, hmin⟩ := og_cl_facts (N := N) h8 (og_wn_bad (N := N) h8 num w)
  obtain ⟨b, hb, k1, ρ1, a1, a2, a3, -⟩ := hmin (fun q => ∃ b, og_S (og_bad N num n w) b ∧ og_way N (fun _ => True) q b) (fun q hq => ⟨q, hq, 0, fun _ => q, rfl, rfl, fun i hi => absurd hi (Nat.not_lt_zero _), fun _ _ _ => trivial⟩) (fun p q hp hpq ⟨b, hb, k, ρ, a1, a2, a3, a4⟩ => ⟨b, hb, k + 1, fun i => if i = 0 then p else ρ (i - 1), rfl, by
    show (if k + 1 = 0 then p else ρ (k + 1 - 1)) = b
    rw [if_neg (by omega)]; exact a2, fun i hi => by
    show og_S (N (if i = 0 then p else ρ (i - 1))) (if i + 1 = 0 then p else ρ (i + 1 - 1))
    rw [if_neg (show ¬ i + 1 = 0 by omega), show i + 1 - 1 = i by omega]
    by_cases h0 : i = 0
    · rw [if_pos h0, h0, a1]; exact hpq
    · rw [if_neg h0]
      have := a3 (i - 1) (by omega)
      rw [show i - 1 + 1 = i by omega] at this; exact this, fun _ _ _ => trivial⟩) p h
  have hb' : b < n ∧ num b % 2 = w ∧ og_S (og_rc N n (og_hi num n b) (N b &&& og_hi num n b)) b := by
    have : om_b (og_bad N num n w) b = true := hb
    unfold og_bad at this
    rw [og_b_mk _ (show n ≤ 32 by omega), Bool.and_eq_true, decide_eq_true_eq, Bool.and_eq_true, decide_eq_true_eq] at this
    exact ⟨this.1, this.2.1, this.2.2⟩
  obtain ⟨hbn, hbw, hbl⟩ := hb'
  have hhi : ∀ q, og_S (og_hi num n b) q → num b ≤ num q := fun q hq => by
    have : om_b (og_hi num n b) q = true := hq
    unfold og_hi at this
    rw [og_b_mk _ (show n ≤ 32 by omega), Bool.and_eq_true, decide_eq_true_eq, decide_eq_true_eq] at this
    exact this.2
  obtain ⟨hk2, k2, ρ2, b1, b2, b3, b4⟩ := og_rc_min (N := N) (n := n) (wi := og_hi num n b) (x := N b &&& og_hi num n b) (Z := fun q => num b ≤ num q ∧ ∃ (k : Nat) (ρ : Nat → Nat), ρ 0 = b ∧ ρ (k + 1) = q ∧ (∀ i, i < k + 1 → og_S (N (ρ i)) (ρ (i + 1))) ∧ ∀ i, i ≤ k + 1 → num b ≤ num (ρ i)) (fun q hq => by
    have h1 := og_S_and.mp hq
    refine ⟨hhi q h1.2, 0, fun i => if i = 0 then b else q, rfl, rfl, fun i hi => ?_, fun i hi => ?_⟩
    · have : i = 0 := by omega
      subst this; exact h1.1
    · show num b ≤ num (if i = 0 then b else q)
      by_cases h0 : i = 0
      · rw [if_pos h0]; exact Nat.le_refl _
      · rw [if_neg h0]; exact hhi q h1.2) (fun q r _ ⟨_, k, ρ, b1, b2, b3, b4⟩ hqr hr => by
    refine ⟨hhi r hr, k + 1, fun i => if i ≤ k + 1 then ρ i else r, (if_pos (Nat.zero_le _)).trans b1, if_neg (by omega), fun i hi => ?_, fun i hi => ?_⟩
    · show og_S (N (if i ≤ k + 1 then ρ i else r)) (if i + 1 ≤ k + 1 then ρ (i + 1) else r)
      rw [if_pos (show i ≤ k + 1 by omega)]
      by_cases h1 : i + 1 ≤ k + 1
      · rw [if_pos h1]; exact b3 i (by omega)
      · rw [if_neg h1, show i = k + 1 by omega, b2]; exact hqr
    · show num b ≤ num (if i ≤ k + 1 then ρ i else r)
      by_cases h1 : i ≤ k + 1
      · rw [if_pos h1]; exact b4 i h1
      · rw [if_neg h1]; exact hhi r hr) b hbl
  -- the way and then the loop
  let ρ : Nat → Nat := fun i => if i ≤ k1 then ρ1 i else ρ2 (i - k1)
  have r1 : ∀ i, i ≤ k1 → ρ i = ρ1 i := fun i hi => if_pos hi
  have r2 : ∀ i, k1 ≤ i → ρ i = ρ2 (i - k1) := fun i hi => by
    by_cases h1 : i ≤ k1
    · have : i = k1 := by omega
      subst this
      rw [r1 i h1, a2, Nat.sub_self, b1]
    · exact if_neg h1
  have hlas : og_las N num w p (k1 + (k2 + 1)) k1 ρ := by
    refine ⟨by rw [r1 0 (Nat.zero_le _)]; exact a1, fun i hi => ?_, by omega, ?_, num b, hbw, ⟨k1, Nat.le_refl _, by omega, by rw [r1 k1 (Nat.le_refl _), a2]⟩, fun i h1 h2 => ?_⟩
    · by_cases h1 : i < k1
      · rw [r1 i (by omega), r1 (i + 1) (by omega)]; exact a3 i h1
      · rw [r2 i (by omega), r2 (i + 1) (by omega), show i + 1 - k1 = i - k1 + 1 by omega]
        exact b3 _ (by omega)
    · rw [r2 _ (by omega), r1 k1 (Nat.le_refl _), show k1 + (k2 + 1) - k1 = k2 + 1 by omega, b2, a2]
    · rw [r2 i h1]; exact b4 _ (by omega)
  obtain ⟨k', ρ', h1, h2⟩ := og_simple _ _ _ _ (Nat.lt_succ_self _) hlas
  refine ⟨k', ρ', ?_, og_gd_le hN hp h2, h2⟩
  obtain ⟨-, j, -, -, hj, -⟩ := h2
  omega
end LA
