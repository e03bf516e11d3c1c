/-! ===== the model's table of walks ===== -/
def og_mt (P : Int → Prop) (v : Int32) : Prop := (v = 100000 ∧ ∀ x, ¬ P x) ∨ (-50 ≤ v.toInt ∧ v.toInt ≤ 50 ∧ P v.toInt ∧ ∀ x, P x → v.toInt ≤ x)
theorem og_top : (100000 : Int32).toInt = 100000 := by decide
theorem og_mt_iff {P P' : Int → Prop} (h : ∀ x, P x ↔ P' x) {v : Int32} (hv : og_mt P v) : og_mt P' v := by
  have : P = P' := funext fun x => propext (h x)
  subst this; exact hv
theorem og_mt_ins {P P' : Int → Prop} {v c : Int32} (hv : og_mt P v) (hc : -50 ≤ c.toInt ∧ c.toInt ≤ 50) (h : ∀ x, P' x ↔ (P x ∨ x = c.toInt)) : og_mt P' (if v ≤ c then v else c) := by
  by_cases hle : v ≤ c
  · rw [if_pos hle]
    have h1 := Int32.le_iff_toInt_le.mp hle
    rcases hv with ⟨h2, -⟩ | ⟨h2, h3, h4, h5⟩
    · rw [h2, og_top] at h1; omega
    · exact .inr ⟨h2, h3, (h _).mpr (.inl h4), fun x hx => ((h x).mp hx).elim (h5 x) (fun e => by omega)⟩
  · rw [if_neg hle]
    have h1 : c.toInt < v.toInt := by
      rw [Int32.le_iff_toInt_le] at hle; omega
    refine .inr ⟨hc.1, hc.2, (h _).mpr (.inr rfl), fun x hx => ?_⟩
    rcases (h x).mp hx with hx | hx
    · rcases hv with ⟨h2, h3⟩ | ⟨h2, h3, h4, h5⟩
      · exact absurd hx (h3 x)
      · have := h5 x hx; omega
    · omega
theorem og_mt_top {P : Int → Prop} {v : Int32} (h : og_mt P v) : (100000 : Int32) ≤ v ↔ ∀ x, ¬ P x := by
  rw [Int32.le_iff_toInt_le, og_top]
  rcases h with ⟨h1, h2⟩ | ⟨h1, h2, h3, h4⟩
  · rw [h1, og_top]; exact ⟨fun _ => h2, fun _ => by omega⟩
  · exact ⟨fun h => by omega, fun h => absurd h3 (h _)⟩
def og_p66 (a _j : Nat) : Bool := Nat.beq a 66
theorem og_p66_sc {a j : Nat} (h : om_sc a j = false) : og_p66 a j = false := by
  cases h1 : og_p66 a j with
  | false => rfl
  | true =>
    have : a = 66 := Nat.eq_of_beq_eq_true h1
    subst this; cases h
theorem og_sc_p66 {M M' : om_M} (h : om_fr og_p66 M M') : om_fr om_sc M M' := om_fr_mono h fun _ _ h => og_p66_sc h
theorem og_up_same (M : om_M) (a j : Nat) : om_up M a j (M.1 a j) = M := by
  refine Prod.ext (funext fun b => funext fun k => ?_) rfl
  rw [om_up_at]
  split
  · rename_i h; subst h
    split
    · rename_i h; subst h; rfl
    · rfl
  · rfl
section AM
variable {n m : Nat} {M : om_M} {σ : Int32}
def og_Cd (M : om_M) (n : Nat) (σ : Int32) (k i q : Nat) (x : Int) : Prop := og_Um M k ∧ ∃ a, a < n ∧ M.1 49 k = nI a ∧ M.1 50 k = nI q ∧ M.1 65 (8 * i + a) ≠ 100000 ∧ x = (M.1 65 (8 * i + a)).toInt + σ.toInt * (M.1 51 k).toInt
def og_ix (i q : Nat) (hi : i < 8) (hq : q < 8) : (8 : Int32) * nI i + nI q = nI (8 * i + q) ∧ om_in (nI (8 * i + q)) 64 = true ∧ (nI (8 * i + q)).toNatClampNeg = 8 * i + q :=
  ⟨by rw [show (8 : Int32) = nI 8 from rfl, pk_mul, nI_add], om_in_nI (by omega) (by omega), nI_clamp (by omega)⟩
theorem og_am1 (h8 : n ≤ 8) (h20 : m ≤ 20) (hB : om_Ba M n m) (e2 : M.1 46 2 = nI n) (e6 : M.1 46 6 = nI m) (hσ : og_sg σ) (hT : ∀ i q, i < n → q < n → M.1 65 (8 * i + q) = 100000 ∨ (-45 ≤ (M.1 65 (8 * i + q)).toInt ∧ (M.1 65 (8 * i + q)).toInt ≤ 45)) (hfar : ∀ j, j < 64 → M.1 66 j = 100000) : ∃ M', om_D_addMoves_L2 om_F (σ, 0, M) = some M' ∧ om_fr og_p66 M M' ∧ ∀ i q, i < n → q < n → og_mt (fun x => ∃ k, k < m ∧ og_Cd M n σ k i q x) (M'.1 66 (8 * i + q)) := by
  have hF : n < om_F := Nat.lt_of_le_of_lt h8 (by decide)
  obtain ⟨z, hz, q1, q2⟩ := om_lp (f := om_D_addMoves_L2_body om_F) (fun k s => ∃ M', s = (σ, nI k, M') ∧ om_fr og_p66 M M' ∧ ∀ i q, i < n → q < n → og_mt (fun x => ∃ k', k' < k ∧ og_Cd M n σ k' i q x) (M'.1 66 (8 * i + q))) (fun M' : om_M => om_fr og_p66 M M' ∧ ∀ i q, i < n → q < n → og_mt (fun x => ∃ k, k < m ∧ og_Cd M n σ k i q x) (M'.1 66 (8 * i + q))) m (F := om_F) (Nat.lt_of_le_of_lt h20 (by decide)) (s := (σ, 0, M)) ⟨M, rfl, om_fr_rfl, fun i q hi hq => .inl ⟨hfar _ (by omega), fun x ⟨k, hk, _⟩ => absurd hk (by omega)⟩⟩ (by
    rintro k s hk ⟨M1, rfl, g1, g2⟩
    have hlt : ¬ nI m ≤ nI k := nI_ge hk (by omega)
    have f6 : M1.1 46 6 = nI m := by rw [g1.1 46 6 rfl, e6]
    obtain ⟨h49, h50, h51, ⟨a, ha, h4⟩, ⟨b, hb, h5⟩, hw1, hw2⟩ := hB.1 k hk
    have hin20 : om_in (nI k) 20 = true := om_in_nI (by omega) (by omega)
    have hcl20 : (nI k).toNatClampNeg = k := nI_clamp (by omega)
    have hBa1 : ∀ M2, om_fr og_p66 M M2 → om_Ba M2 n m := fun M2 h => by
      refine ⟨fun k hk => ?_, fun k l hk hl => ?_⟩
      · rw [h.1 49 k rfl, h.1 50 k rfl, h.1 51 k rfl, h.1 4 k rfl, h.1 5 k rfl, h.1 6 k rfl]; exact hB.1 k hk
      · rw [h.1 4 k rfl, h.1 5 k rfl, h.1 4 l rfl, h.1 5 l rfl]; exact hB.2 k l hk hl
    have hUm : ∀ M2, om_fr og_p66 M M2 → (og_Um M2 k ↔ og_Um M k) := fun M2 h => by
      unfold og_Um
      rw [h.1 46 18 rfl, h.1 4 k rfl]
      exact ⟨fun ⟨h0, h3⟩ => ⟨h0, fun p h1 h2 => by have := h3 p h1 h2; rwa [h.1 59 p rfl] at this⟩, fun ⟨h0, h3⟩ => ⟨h0, fun p h1 h2 => by rw [h.1 59 p rfl]; exact h3 p h1 h2⟩⟩
    obtain ⟨z2, hz2, M2, rfl, r1, r2⟩ := om_lp (f := om_D_addMoves_L12_body om_F) (fun j s => ∃ M', s = (σ, nI k, nI j, M') ∧ om_fr og_p66 M M' ∧ ∀ i q, i < n → q < n → og_mt (fun x => ∃ k', (k' < k ∨ (k' = k ∧ i < j)) ∧ og_Cd M n σ k' i q x) (M'.1 66 (8 * i + q))) (fun z => ∃ M', z = (σ, nI k, M') ∧ om_fr og_p66 M M' ∧ ∀ i q, i < n → q < n → og_mt (fun x => ∃ k', k' < k + 1 ∧ og_Cd M n σ k' i q x) (M'.1 66 (8 * i + q))) n (F := om_F) hF (s := (σ, nI k, 0, M1)) ⟨M1, rfl, g1, fun i q hi hq => og_mt_iff (fun x => ⟨fun ⟨k', h1, h2⟩ => ⟨k', .inl h1, h2⟩, fun ⟨k', h1, h2⟩ => ⟨k', by omega, h2⟩⟩) (g2 i q hi hq)⟩ (by
      rintro j s hj ⟨M2, rfl, r1, r2⟩
      have f2 : M2.1 46 2 = nI n := by rw [r1.1 46 2 rfl, e2]
      have hlt2 : ¬ nI n ≤ nI j := nI_ge hj (by omega)
      obtain ⟨c, hc1, hc2⟩ := og_isUsed (M := M2) h8 h20 (hBa1 M2 r1) hk
      rw [hUm M2 r1] at hc2
      cases c with
      | false =>
        have hno : ¬ og_Um M k := fun h => by have := hc2.mpr h; cases this
        refine .inr ⟨(σ, nI k, M2), by simp only [om_D_addMoves_L12_body, om_D_addMoves_b12, f2, hlt2, if_false, hc1, Option.bind_some, om_bi, cond_false, if_true], M2, rfl, r1, fun i q hi hq => og_mt_iff (fun x => ⟨fun ⟨k', h1, h2⟩ => ⟨k', by omega, h2⟩, fun ⟨k', h1, h2⟩ => ⟨k', ?_, h2⟩⟩) (r2 i q hi hq)⟩
        by_cases hkk : k' = k
        · subst hkk; exact absurd h2.1 hno
        · omega
      | true =>
        have hyes := hc2.mp rfl
        have f49 : M2.1 49 k = nI a := by rw [r1.1 49 k rfl, h49, h4]
        have f50 : M2.1 50 k = nI b := by rw [r1.1 50 k rfl, h50, h5]
        have f51 : M2.1 51 k = M.1 51 k := r1.1 51 k rfl
        have f65 : ∀ t, M2.1 65 t = M.1 65 t := fun t => r1.1 65 t rfl
        obtain ⟨ia1, ia2, ia3⟩ := og_ix j a (by omega) (by omega)
        obtain ⟨ib1, ib2, ib3⟩ := og_ix j b (by omega) (by omega)
        have hwb : -5 ≤ (M.1 51 k).toInt ∧ (M.1 51 k).toInt ≤ 5 := by rw [h51]; exact ⟨hw1, hw2⟩
        have hsw := og_sg_mul hσ hwb.1 hwb.2
        have hsb := og_sg_abs hσ hwb.1 hwb.2
        have q50 : ∀ q, q < n → M.1 50 k = nI q → q = b := fun q hq h => by
          rw [h50, h5] at h
          exact ((nI_eq (by omega) (by omega)).mp h).symm
        have q49 : ∀ q, q < n → M.1 49 k = nI q → q = a := fun q hq h => by
          rw [h49, h4] at h
          exact ((nI_eq (by omega) (by omega)).mp h).symm
        have hstep : om_D_addMoves_L12_body om_F (σ, nI k, nI j, M2) = some (.inl (σ, nI k, nI (j + 1), om_up M2 66 (8 * j + b) (if (100000 : Int32) ≤ M.1 65 (8 * j + a) then M2.1 66 (8 * j + b) else if M2.1 66 (8 * j + b) ≤ M.1 65 (8 * j + a) + σ * M.1 51 k then M2.1 66 (8 * j + b) else M.1 65 (8 * j + a) + σ * M.1 51 k))) := by
          simp only [om_D_addMoves_L12_body, om_D_addMoves_b12, om_D_addMoves_b101, om_D_addMoves_b102, om_D_addMoves_b145, f2, hlt2, if_false, hc1, Option.bind_some, om_bi, cond_true, show ¬ (1 : Int32) = 0 by decide, hin20, hcl20, f49, f50, f51, f65, ia1, ia2, ia3, ib1, ib2, ib3, og_nI1]
          by_cases h1 : (100000 : Int32) ≤ M.1 65 (8 * j + a)
          · simp [h1]
          · by_cases h2 : M2.1 66 (8 * j + b) ≤ M.1 65 (8 * j + a) + σ * M.1 51 k
            · simp [h1, h2]
            · simp [h1, h2]
        refine .inl ⟨_, hstep, _, rfl, om_fr_up r1 rfl, fun i q hi hq => ?_⟩
        rw [om_up_at, if_pos rfl]
        by_cases hix : 8 * i + q = 8 * j + b
        · have hij : i = j := by omega
          have hqb : q = b := by omega
          subst hij; subst hqb
          rw [if_pos rfl]
          have hold := r2 i q hi hq
          rcases hT i a hi ha with h1 | ⟨h1, h1'⟩
          · rw [if_pos (by rw [h1]; exact Int32.le_rfl)]
            refine og_mt_iff (fun x => ⟨fun ⟨k', h1, h2⟩ => ⟨k', by omega, h2⟩, fun ⟨k', h3, h2⟩ => ?_⟩) hold
            by_cases hkk : k' = k
            · subst hkk
              obtain ⟨-, a', ha', g49, -, g65, -⟩ := h2
              rw [q49 a' ha' g49] at g65
              exact absurd h1 g65
            · exact ⟨k', by omega, h2⟩
          · have hnt : ¬ (100000 : Int32) ≤ M.1 65 (8 * i + a) := by rw [Int32.le_iff_toInt_le, og_top]; omega
            rw [if_neg hnt]
            have hsum : (M.1 65 (8 * i + a) + σ * M.1 51 k).toInt = (M.1 65 (8 * i + a)).toInt + σ.toInt * (M.1 51 k).toInt := by
              rw [og_add_toInt (by omega) (by omega) (by omega) (by omega), hsw]
            refine og_mt_ins hold (by rw [hsum]; omega) fun x => ⟨fun ⟨k', h3, h2⟩ => ?_, fun h => ?_⟩
            · by_cases hkk : k' = k
              · subst hkk
                obtain ⟨-, a', ha', g49, -, g65, gx⟩ := h2
                rw [q49 a' ha' g49] at gx
                exact .inr (by rw [hsum]; exact gx)
              · exact .inl ⟨k', by omega, h2⟩
            · rcases h with ⟨k', h3, h2⟩ | h
              · exact ⟨k', by omega, h2⟩
              · exact ⟨k, .inr ⟨rfl, by omega⟩, hyes, a, ha, by rw [h49, h4], by rw [h50, h5], fun h0 => by rw [h0, og_top] at h1'; omega, by rw [h, hsum]⟩
        · rw [if_neg hix]
          refine og_mt_iff (fun x => ⟨fun ⟨k', h1, h2⟩ => ⟨k', by omega, h2⟩, fun ⟨k', h3, h2⟩ => ⟨k', ?_, h2⟩⟩) (r2 i q hi hq)
          by_cases hkk : k' = k ∧ i = j
          · obtain ⟨rfl, rfl⟩ := hkk
            obtain ⟨-, a', ha', -, g50, -⟩ := h2
            exact absurd (by rw [q50 q hq g50]) hix
          · omega) (by
      rintro s ⟨M2, rfl, r1, r2⟩
      have f2 : M2.1 46 2 = nI n := by rw [r1.1 46 2 rfl, e2]
      exact ⟨_, by simp only [om_D_addMoves_L12_body, om_D_addMoves_b12, f2]; rw [if_pos Int32.le_rfl], M2, rfl, r1, fun i q hi hq => og_mt_iff (fun x => ⟨fun ⟨k', h1, h2⟩ => ⟨k', by omega, h2⟩, fun ⟨k', h1, h2⟩ => ⟨k', by omega, h2⟩⟩) (r2 i q hi hq)⟩)
    refine .inl ⟨(σ, nI (k + 1), M2), ?_, M2, rfl, r1, r2⟩
    simp only [om_D_addMoves_L2_body, om_D_addMoves_b2, om_D_addMoves_b152, f6, hlt, if_false]
    unfold om_D_addMoves_L12
    rw [hz2]
    simp only [Option.bind_some, og_nI1]) (by
    rintro s ⟨M1, rfl, g1, g2⟩
    have f6 : M1.1 46 6 = nI m := by rw [g1.1 46 6 rfl, e6]
    exact ⟨_, by simp only [om_D_addMoves_L2_body, om_D_addMoves_b2, f6]; rw [if_pos Int32.le_rfl], g1, g2⟩)
  exact ⟨z, hz, q1, q2⟩
end AM
