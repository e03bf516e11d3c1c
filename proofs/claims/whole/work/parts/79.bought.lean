/-! ===== bought ===== -/
theorem og_1shl {n : Nat} (h8 : n ≤ 8) : (1 : Int32) <<< (nI n &&& 31) = nI (2 ^ n) := by
  have : ∀ k : Fin 9, (1 : Int32) <<< (nI k.val &&& 31) = nI (2 ^ k.val) := by decide +kernel
  exact this ⟨n, by omega⟩
theorem og_2n {n : Nat} (h8 : n ≤ 8) : 2 ^ n ≤ 256 := Nat.pow_le_pow_right (n := 2) (by omega) h8
theorem og_wn_nI {n k : Nat} (h8 : n ≤ 8) (hk : k < 2 ^ n) : og_wn n (nI k) := by
  have h2 := og_2n h8
  refine og_st_b h8 ?_
  unfold og_st
  rw [nI_toInt (by omega), Bool.and_eq_true, decide_eq_true_eq, decide_eq_true_eq]
  have := Int.ofNat_lt.mpr hk
  exact ⟨by omega, by simpa using this⟩
def og_cn (n k : Nat) : Nat := og_cnt (om_b (nI k)) n
/-- the fewest places, and of those the least set -/
def og_few (n : Nat) (S : Nat → Prop) (T : Int32 → Bool) (r : Int32) : Prop := (∃ k, k < 2 ^ n ∧ r = nI k ∧ S k ∧ T (nI k) = true ∧ ∀ j, j < 2 ^ n → S j → T (nI j) = true → og_cn n k < og_cn n j ∨ (og_cn n k = og_cn n j ∧ k ≤ j)) ∨ (r = -1 ∧ ∀ j, j < 2 ^ n → S j → T (nI j) = false)
theorem og_few_eq {n : Nat} (h8 : n ≤ 8) {T : Int32 → Bool} {B : Int32} (hT : ∀ f, T f = T (f &&& B)) {r r' : Int32} (h : og_few n (fun k => nI k &&& (B ^^^ (-1)) = 0) T r) (h' : og_few n (fun _ => True) T r') : r = r' := by
  have h2 := og_2n h8
  -- a set without the places with one move
  have hcut : ∀ k, k < 2 ^ n → T (nI k) = true → ∃ j, j < 2 ^ n ∧ nI j &&& (B ^^^ (-1)) = 0 ∧ T (nI j) = true ∧ og_cn n j ≤ og_cn n k ∧ (og_cn n j = og_cn n k → j = k) := by
    intro k hk hTk
    have hwk := og_wn_nI h8 hk
    have hwB : og_wn n (nI k &&& B) := og_wn_and hwk
    obtain ⟨j, hj, hjB⟩ := og_small hwB
    refine ⟨j, hj, ?_, ?_, ?_, fun he => ?_⟩
    · rw [← hjB, og_less0]
      intro p hp; exact (og_S_and.mp hp).2
    · rw [← hjB, ← hT]; exact hTk
    · unfold og_cn
      rw [← hjB]
      refine og_cnt_mono fun i _ hi => ?_
      have : og_S (nI k &&& B) i := hi
      exact (og_S_and.mp this).1
    · have : nI j = nI k := by
        rw [← hjB]
        refine Classical.byContradiction fun hne => ?_
        have hex : ∃ p, og_S (nI k) p ∧ ¬ og_S (nI k &&& B) p := by
          refine Classical.byContradiction fun hno => hne ?_
          refine og_S_ext (n := n) hwB hwk fun p _ => ?_
          exact ⟨fun h => (og_S_and.mp h).1, fun h => Classical.byContradiction fun h2 => hno ⟨p, h, h2⟩⟩
        obtain ⟨p, hp1, hp2⟩ := hex
        have hpn : p < n := Classical.byContradiction fun h => by
          have h3 := hwk p (by omega)
          unfold og_S at hp1; rw [h3] at hp1; cases hp1
        have := og_cnt_S_lt (x := nI k &&& B) (y := nI k) (n := n) (fun p hp => (og_S_and.mp hp).1) hpn hp1 hp2
        unfold og_cn at he
        rw [← hjB] at he
        omega
      exact (nI_eq (by omega) (by omega)).mp this
  rcases h with ⟨k, hk, rfl, hS, hTk, hmin⟩ | ⟨rfl, hno⟩
  · rcases h' with ⟨k', hk', rfl, -, hTk', hmin'⟩ | ⟨rfl, hno'⟩
    · have a1 := hmin' k hk trivial hTk
      obtain ⟨j, b1, b2, b3, b4, b5⟩ := hcut k' hk' hTk'
      have a2 := hmin' j b1 trivial b3
      have a3 : j = k' := b5 (by omega)
      subst a3
      have a4 := hmin j b1 b2 b3
      have : k = j := by omega
      rw [this]
    · have := hno' k hk trivial
      rw [hTk] at this; cases this
  · rcases h' with ⟨k', hk', rfl, -, hTk', hmin'⟩ | ⟨rfl, hno'⟩
    · obtain ⟨j, b1, b2, b3, -⟩ := hcut k' hk' hTk'
      have := hno j b1 b2
      rw [b3] at this; cases this
    · rfl
section BO
variable {M : om_M} {n m qa : Nat} {T : Int32 → Bool}
theorem og_buyC1 (h8 : n ≤ 8) (e10 : M.1 1 0 = nI n) (e5 : M.2 0 5 = some qa) (hobj : om_obj qa 4 = true) (hT : ∀ f C, om_fr om_sc M C → ∃ C', om_Q_isTrue om_F qa (-1) f C = some (om_bi (T f), C') ∧ om_fr og_pC C C') {B : Int32} {z : Nat} (hz : z ≤ n + 1) {C : om_M} (hC : om_fr og_pC M C) : ∃ res C', om_C_bought_L51 om_F (B ^^^ (-1), nI z, 0, C) = some res ∧ om_fr og_pC M C' ∧ ((∃ k, k < 2 ^ n ∧ res = .inl (nI k, C') ∧ og_cn n k = z ∧ nI k &&& (B ^^^ (-1)) = 0 ∧ T (nI k) = true ∧ ∀ j, j < k → og_cn n j = z → nI j &&& (B ^^^ (-1)) = 0 → T (nI j) = false) ∨ (res = .inr (B ^^^ (-1), nI z, C') ∧ ∀ j, j < 2 ^ n → og_cn n j = z → nI j &&& (B ^^^ (-1)) = 0 → T (nI j) = false)) := by
  have h2 := og_2n h8
  obtain ⟨res, hres, C', q1, q2⟩ := om_lp (f := om_C_bought_L51_body om_F) (fun k st => ∃ C', st = (B ^^^ (-1), nI z, nI k, C') ∧ om_fr og_pC M C' ∧ ∀ j, j < k → og_cn n j = z → nI j &&& (B ^^^ (-1)) = 0 → T (nI j) = false) (fun res => ∃ C', om_fr og_pC M C' ∧ ((∃ k, k < 2 ^ n ∧ res = .inl (nI k, C') ∧ og_cn n k = z ∧ nI k &&& (B ^^^ (-1)) = 0 ∧ T (nI k) = true ∧ ∀ j, j < k → og_cn n j = z → nI j &&& (B ^^^ (-1)) = 0 → T (nI j) = false) ∨ (res = .inr (B ^^^ (-1), nI z, C') ∧ ∀ j, j < 2 ^ n → og_cn n j = z → nI j &&& (B ^^^ (-1)) = 0 → T (nI j) = false))) (2 ^ n) (F := om_F) (Nat.lt_of_le_of_lt h2 (by decide)) (s := (B ^^^ (-1), nI z, 0, C)) ⟨C, rfl, hC, fun j hj => absurd hj (Nat.not_lt_zero _)⟩ (by
    rintro k st hk ⟨C', rfl, g1, g2⟩
    have e10' : C'.1 1 0 = nI n := by rw [g1.1 1 0 rfl, e10]
    have hlt : ¬ nI (2 ^ n) ≤ nI k := nI_ge hk (by omega)
    have hcnt := og_bitCount om_F h8 (og_wn_nI h8 hk) C'
    have e5' : C'.2 0 5 = some qa := by rw [g1.2]; exact e5
    have hcz : nI (og_cnt (om_b (nI k)) n) = nI z ↔ og_cn n k = z := nI_eq (by have := og_cnt_le (om_b (nI k)) n; omega) (by omega)
    have next : (og_cn n k = z → nI k &&& (B ^^^ (-1)) = 0 → T (nI k) = false) → ∀ j, j < k + 1 → og_cn n j = z → nI j &&& (B ^^^ (-1)) = 0 → T (nI j) = false := by
      intro h j hj
      by_cases hjk : j = k
      · subst hjk; exact h
      · exact g2 j (by omega)
    by_cases hc : og_cn n k = z
    · by_cases hs : nI k &&& (B ^^^ (-1)) = 0
      · obtain ⟨C2, a1, a2⟩ := hT (nI k) C' (og_sc_pC g1)
        cases ht : T (nI k) with
        | true =>
          refine .inr ⟨.inl (nI k, C2), ?_, C2, om_fr_tr g1 a2, .inl ⟨k, hk, rfl, hc, hs, ht, g2⟩⟩
          simp only [om_C_bought_L51_body, om_C_bought_b51, e10', og_1shl h8, hlt, if_false, hcnt, Option.bind_some, hcz, hc, if_true, hs, e5', hobj, cond_true, a1, ht]
          rw [if_neg (show ¬ om_bi true = 0 by decide)]
        | false =>
          refine .inl ⟨(B ^^^ (-1), nI z, nI (k + 1), C2), ?_, C2, rfl, om_fr_tr g1 a2, next (fun _ _ => ht)⟩
          simp only [om_C_bought_L51_body, om_C_bought_b51, om_C_bought_b107, e10', og_1shl h8, hlt, if_false, hcnt, Option.bind_some, hcz, hc, if_true, hs, e5', hobj, cond_true, a1, ht, og_nI1]
          rw [if_pos (show om_bi false = 0 from rfl)]
      · refine .inl ⟨(B ^^^ (-1), nI z, nI (k + 1), C'), ?_, C', rfl, g1, next (fun _ h => absurd h hs)⟩
        simp only [om_C_bought_L51_body, om_C_bought_b51, om_C_bought_b107, e10', og_1shl h8, hlt, if_false, hcnt, Option.bind_some, hcz, hc, if_true, hs, og_nI1]
    · refine .inl ⟨(B ^^^ (-1), nI z, nI (k + 1), C'), ?_, C', rfl, g1, next (fun h => absurd h hc)⟩
      simp only [om_C_bought_L51_body, om_C_bought_b51, om_C_bought_b107, e10', og_1shl h8, hlt, if_false, hcnt, Option.bind_some, hcz, hc, og_nI1]) (by
    rintro st ⟨C', rfl, g1, g2⟩
    have e10' : C'.1 1 0 = nI n := by rw [g1.1 1 0 rfl, e10]
    exact ⟨_, by simp only [om_C_bought_L51_body, om_C_bought_b51, e10', og_1shl h8]; rw [if_pos Int32.le_rfl], C', g1, .inr ⟨rfl, g2⟩⟩)
  exact ⟨res, C', hres, q1, q2⟩
theorem og_buyC (h8 : n ≤ 8) (e10 : M.1 1 0 = nI n) (e5 : M.2 0 5 = some qa) (hobj : om_obj qa 4 = true) (hT : ∀ f C, om_fr om_sc M C → ∃ C', om_Q_isTrue om_F qa (-1) f C = some (om_bi (T f), C') ∧ om_fr og_pC C C') {B : Int32} {C : om_M} (hC : om_fr og_pC M C) : ∃ r C', ((om_C_bought_L38 om_F (B ^^^ (-1), 0, C)).bind fun z3 => Sum.elim (fun z4 => some (z4.1, z4.2)) (fun z5 => some ((-1 : Int32), z5)) z3) = some (r, C') ∧ om_fr og_pC M C' ∧ og_few n (fun k => nI k &&& (B ^^^ (-1)) = 0) T r := by
  have h2 := og_2n h8
  obtain ⟨res, hres, C', q1, q2⟩ := om_lp (f := om_C_bought_L38_body om_F) (fun z st => ∃ C', st = (B ^^^ (-1), nI z, C') ∧ om_fr og_pC M C' ∧ ∀ j, j < 2 ^ n → og_cn n j < z → nI j &&& (B ^^^ (-1)) = 0 → T (nI j) = false) (fun res => ∃ C', om_fr og_pC M C' ∧ ((∃ r, res = .inl (r, C') ∧ og_few n (fun k => nI k &&& (B ^^^ (-1)) = 0) T r) ∨ (res = .inr C' ∧ og_few n (fun k => nI k &&& (B ^^^ (-1)) = 0) T (-1)))) (n + 1) (F := om_F) (Nat.lt_of_le_of_lt (Nat.succ_le_succ h8) (by decide)) (s := (B ^^^ (-1), 0, C)) ⟨C, rfl, hC, fun j _ hj => absurd hj (Nat.not_lt_zero _)⟩ (by
    rintro z st hz ⟨C', rfl, g1, g2⟩
    have e10' : C'.1 1 0 = nI n := by rw [g1.1 1 0 rfl, e10]
    have hlt : ¬ nI n < nI z := by rw [Int32.not_lt]; exact nI_le (by omega) (by omega)
    obtain ⟨res, C2, a1, a2, a3⟩ := og_buyC1 h8 e10 e5 hobj hT (B := B) (z := z) (by omega) g1
    rcases a3 with ⟨k, hk, rfl, b1, b2, b3, b4⟩ | ⟨rfl, b1⟩
    · refine .inr ⟨.inl (nI k, C2), ?_, C2, a2, .inl ⟨nI k, rfl, .inl ⟨k, hk, rfl, b2, b3, fun j hj hS hTj => ?_⟩⟩⟩
      · simp only [om_C_bought_L38_body, om_C_bought_b38, e10', hlt, if_false, a1, Option.bind_some, Sum.elim_inl]
      · by_cases h1 : og_cn n j < z
        · have := g2 j hj h1 hS; rw [hTj] at this; cases this
        · by_cases h3 : og_cn n j = z
          · refine .inr ⟨by omega, ?_⟩
            refine Classical.byContradiction fun hlt2 => ?_
            have := b4 j (by omega) h3 hS
            rw [hTj] at this; cases this
          · exact .inl (by omega)
    · refine .inl ⟨(B ^^^ (-1), nI (z + 1), C2), ?_, C2, rfl, a2, fun j hj hc hS => ?_⟩
      · simp only [om_C_bought_L38_body, om_C_bought_b38, e10', hlt, if_false, a1, Option.bind_some, Sum.elim_inr, og_nI1]
      · by_cases h1 : og_cn n j < z
        · exact g2 j hj h1 hS
        · exact b1 j hj (by omega) hS) (by
    rintro st ⟨C', rfl, g1, g2⟩
    have e10' : C'.1 1 0 = nI n := by rw [g1.1 1 0 rfl, e10]
    have hlt : nI n < nI (n + 1) := (nI_ltI (by omega) (by omega)).mpr (by omega)
    refine ⟨.inr C', by simp only [om_C_bought_L38_body, om_C_bought_b38, e10', hlt, if_true], C', g1, .inr ⟨rfl, .inr ⟨rfl, fun j hj hS => g2 j hj ?_ hS⟩⟩⟩
    have := og_cnt_le (om_b (nI j)) n
    unfold og_cn; omega)
  rcases q2 with ⟨r, rfl, q3⟩ | ⟨rfl, q3⟩
  · exact ⟨r, C', by simp only [om_C_bought_L38, hres, Option.bind_some, Sum.elim_inl], q1, q3⟩
  · exact ⟨-1, C', by simp only [om_C_bought_L38, hres, Option.bind_some, Sum.elim_inr], q1, q3⟩
theorem og_branching (h8 : n ≤ 8) {C : om_M} (e70 : C.1 7 0 = nI n) (hN : ∀ p, p < n → og_wn n (C.1 11 p)) : ∃ B, om_V_branching om_F C = some (B, C) ∧ ∀ p, p < n → (om_b B p = true ↔ 1 < og_cnt (om_b (C.1 11 p)) n) := by
  obtain ⟨z, hz, B, q0, q1⟩ := om_lp (f := om_V_branching_L4_body om_F) (fun i st => ∃ B, st = (B, nI i, C) ∧ ∀ p, p < n → (om_b B p = true ↔ (p < i ∧ 1 < og_cnt (om_b (C.1 11 p)) n))) (fun z => ∃ B, z = (B, C) ∧ ∀ p, p < n → (om_b B p = true ↔ 1 < og_cnt (om_b (C.1 11 p)) n)) n (F := om_F) (Nat.lt_of_le_of_lt h8 (by decide)) (s := (0, 0, C)) ⟨0, rfl, fun p _ => by rw [om_b_0]; exact ⟨fun h => (by cases h), fun h => absurd h.1 (Nat.not_lt_zero _)⟩⟩ (by
    rintro i st hi ⟨B, rfl, g1⟩
    have hin : om_in (nI i) 8 = true := om_in_nI (by omega) (by omega)
    have hcl : (nI i).toNatClampNeg = i := nI_clamp (by omega)
    have hlt : ¬ nI n ≤ nI i := nI_ge hi (by omega)
    have hcnt := og_bitCount om_F h8 (hN i hi) C
    have hle : nI (og_cnt (om_b (C.1 11 i)) n) ≤ 1 ↔ ¬ 1 < og_cnt (om_b (C.1 11 i)) n := by
      have h9 := og_cnt_le (om_b (C.1 11 i)) n
      rw [Int32.le_iff_toInt_le, nI_toInt (by omega), show (1 : Int32).toInt = 1 by decide]; omega
    by_cases h : 1 < og_cnt (om_b (C.1 11 i)) n
    · refine .inl ⟨(B ||| (1 <<< (nI i &&& 31)), nI (i + 1), C), ?_, _, rfl, fun p hp => ?_⟩
      · simp only [om_V_branching_L4_body, om_V_branching_b4, om_V_branching_b31, e70, hlt, hin, hcl, if_false, cond_true, hcnt, Option.bind_some, hle, h, not_true, og_nI1]
      · rw [om_b_or, om_b_shl (show i < 32 by omega), Bool.or_eq_true, g1 p hp, decide_eq_true_eq]
        constructor
        · rintro (⟨h1, h2⟩ | rfl)
          · exact ⟨by omega, h2⟩
          · exact ⟨by omega, h⟩
        · rintro ⟨h1, h2⟩
          by_cases hpi : p = i
          · exact .inr hpi
          · exact .inl ⟨by omega, h2⟩
    · refine .inl ⟨(B, nI (i + 1), C), ?_, _, rfl, fun p hp => ?_⟩
      · simp only [om_V_branching_L4_body, om_V_branching_b4, om_V_branching_b31, e70, hlt, hin, hcl, if_false, cond_true, hcnt, Option.bind_some, hle, h, not_false_eq_true, if_true, og_nI1]
      · rw [g1 p hp]
        constructor
        · rintro ⟨h1, h2⟩; exact ⟨by omega, h2⟩
        · rintro ⟨h1, h2⟩
          by_cases hpi : p = i
          · subst hpi; exact absurd h2 h
          · exact ⟨by omega, h2⟩) (by
    rintro st ⟨B, rfl, g1⟩
    refine ⟨(B, C), by simp only [om_V_branching_L4_body, om_V_branching_b4, e70]; rw [if_pos Int32.le_rfl], B, rfl, fun p hp => ?_⟩
    rw [g1 p hp]; exact ⟨And.right, fun h => ⟨hp, h⟩⟩)
  subst q0
  refine ⟨B, ?_, q1⟩
  unfold om_V_branching om_V_branching_b0 om_V_branching_L4
  rw [hz]; rfl
end BO
