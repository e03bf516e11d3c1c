/-- the first look at which a place is in, or -1 -/
def og_fst (f : Int32 → Int32) (n : Nat) (x : Int32) (p : Nat) (r : Int32) : Prop := (∃ k, k ≤ n ∧ om_b (og_itr f k x) p = true ∧ (∀ j, j < k → om_b (og_itr f j x) p = false) ∧ r = nI k) ∨ ((∀ k, k ≤ n → om_b (og_itr f k x) p = false) ∧ r = -1)
theorem og_fst_eq {f : Int32 → Int32} {n : Nat} {x : Int32} {p : Nat} {r r' : Int32} (h : og_fst f n x p r) (h' : og_fst f n x p r') : r = r' := by
  rcases h with ⟨k, h1, h2, h3, rfl⟩ | ⟨h1, rfl⟩
  · rcases h' with ⟨k', g1, g2, g3, rfl⟩ | ⟨g1, rfl⟩
    · rcases Nat.lt_trichotomy k k' with h | rfl | h
      · rw [g3 k h] at h2; cases h2
      · rfl
      · rw [h3 k' h] at g2; cases g2
    · rw [g1 k h1] at h2; cases h2
  · rcases h' with ⟨k', g1, g2, g3, rfl⟩ | ⟨g1, rfl⟩
    · rw [h1 k' g1] at g2; cases g2
    · rfl
theorem og_movesInto {M : om_M} {n pl p : Nat} (h8 : n ≤ 8) (hpl : pl < 2) (hp : p < n) (e : M.1 7 0 = nI n) (hN : ∀ p, p < n → og_wn n (M.1 11 p)) (x : Int32) : ∃ r, om_V_movesInto om_F (nI pl) x (nI p) M = some (r, M) ∧ og_fst (fun y => y ||| og_br (M.1 11) (og_mi (M.1 7 1) pl) n y) n x p r := by
  obtain ⟨z, hz, hq⟩ := om_lp (f := om_V_movesInto_L6_body om_F) (fun i s => s = (nI pl, nI p, og_itr (fun y => y ||| og_br (M.1 11) (og_mi (M.1 7 1) pl) n y) i x, nI i, M) ∧ ∀ k, k < i → om_b (og_itr (fun y => y ||| og_br (M.1 11) (og_mi (M.1 7 1) pl) n y) k x) p = false) (fun z => (∃ r, z = .inl (r, M) ∧ og_fst (fun y => y ||| og_br (M.1 11) (og_mi (M.1 7 1) pl) n y) n x p r) ∨ (z = .inr M ∧ og_fst (fun y => y ||| og_br (M.1 11) (og_mi (M.1 7 1) pl) n y) n x p (-1))) (n + 1) (F := om_F) (Nat.lt_of_le_of_lt (show n + 1 ≤ 9 by omega) (by decide)) (s := (nI pl, nI p, x, 0, M)) ⟨rfl, fun k hk => absurd hk (by omega)⟩ (by
    rintro i s hi ⟨rfl, hno⟩
    have hlt : ¬ nI n < nI i := nI_nlt (by omega) (by omega)
    simp only [om_V_movesInto_L6_body, om_V_movesInto_b6, e, hlt, if_false, og_everywhere om_F e, og_oneMove h8 hpl e, Option.bind_some, og_nI1, om_tst (show p < 32 by omega), og_one_br h8 hN]
    cases hb : om_b (og_itr (fun y => y ||| og_br (M.1 11) (og_mi (M.1 7 1) pl) n y) i x) p with
    | false =>
      refine .inl ⟨_, if_pos rfl, rfl, fun k hk => ?_⟩
      by_cases hki : k = i
      · rw [hki, hb]
      · exact hno k (by omega)
    | true => exact .inr ⟨_, if_neg (by decide), .inl ⟨_, rfl, .inl ⟨i, by omega, hb, hno, rfl⟩⟩⟩) (by
    rintro s ⟨rfl, hno⟩
    refine ⟨_, by simp only [om_V_movesInto_L6_body, om_V_movesInto_b6, e]; rw [if_pos (nI_lt (by omega) (by omega))], .inr ⟨rfl, .inr ⟨fun k hk => hno k (by omega), rfl⟩⟩⟩)
  unfold om_V_movesInto om_V_movesInto_b0 om_V_movesInto_L6
  rw [hz]
  rcases hq with ⟨r, rfl, h⟩ | ⟨rfl, h⟩
  · exact ⟨r, rfl, h⟩
  · exact ⟨-1, rfl, h⟩
theorem og_tst1 {p : Nat} (h : p < 32) (m : Int32) : (m >>> (nI p &&& 31)) &&& 1 = 1 ↔ om_b m p = true := by
  have h1 := om_tst h m
  have h2 : (m >>> (nI p &&& 31)) &&& 1 = 0 ∨ (m >>> (nI p &&& 31)) &&& 1 = 1 := by
    cases hb : om_b ((m >>> (nI p &&& 31)) &&& 1) 0 with
    | false =>
      left
      refine om_ext fun i _ => ?_
      rw [om_b_0]
      by_cases hi : i = 0
      · subst hi; exact hb
      · have : om_b (1 : Int32) i = false := by
          have h1 : (1 : Int32).toBitVec = 1#32 := by decide
          simp [om_b, h1, BitVec.getLsbD_one, hi]
        rw [om_b_and, this, Bool.and_false]
    | true =>
      right
      refine om_ext fun i _ => ?_
      have h1 : om_b (1 : Int32) i = decide (i = 0) := by
        have h1 : (1 : Int32).toBitVec = 1#32 := by decide
        simp [om_b, h1, BitVec.getLsbD_one]
      by_cases hi : i = 0
      · subst hi; rw [hb, h1]; rfl
      · rw [om_b_and, h1]; simp [hi]
  rcases h2 with h2 | h2
  · rw [h2]
    have := h1.mp h2
    rw [this]; decide
  · rw [h2]
    constructor
    · intro _
      cases hb : om_b m p with
      | true => rfl
      | false => have := h1.mpr hb; rw [h2] at this; exact absurd this (by decide)
    · intro _; rfl
theorem og_D_stepsL {M : om_M} {n pl p : Nat} (h8 : n ≤ 8) (hp : p < n) (e : M.1 46 2 = nI n) {mi : Nat → Bool} (hmi : ∀ p, p < n → (M.1 47 p = nI pl ↔ mi p = true)) (x : Int32) : ∃ r, ((om_D_steps_L39 om_F (nI pl, nI p, x, 0, M)).bind fun z5 => Sum.elim (fun z6 => some (z6.1, z6.2)) (fun z7 => some ((-1 : Int32), z7)) z5) = some (r, M) ∧ og_fst (fun y => y ||| og_br (M.1 58) mi n y) n x p r := by
  obtain ⟨z, hz, hq⟩ := om_lp (f := om_D_steps_L39_body om_F) (fun i s => s = (nI pl, nI p, og_itr (fun y => y ||| og_br (M.1 58) mi n y) i x, nI i, M) ∧ ∀ k, k < i → om_b (og_itr (fun y => y ||| og_br (M.1 58) mi n y) k x) p = false) (fun z => (∃ r, z = .inl (r, M) ∧ og_fst (fun y => y ||| og_br (M.1 58) mi n y) n x p r) ∨ (z = .inr M ∧ og_fst (fun y => y ||| og_br (M.1 58) mi n y) n x p (-1))) (n + 1) (F := om_F) (Nat.lt_of_le_of_lt (show n + 1 ≤ 9 by omega) (by decide)) (s := (nI pl, nI p, x, 0, M)) ⟨rfl, fun k hk => absurd hk (by omega)⟩ (by
    rintro i s hi ⟨rfl, hno⟩
    have hlt : ¬ nI n < nI i := nI_nlt (by omega) (by omega)
    simp only [om_D_steps_L39_body, om_D_steps_b39, e, hlt, if_false, og_bring h8 e _ hmi, Option.bind_some, og_nI1, og_tst1 (show p < 32 by omega)]
    cases hb : om_b (og_itr (fun y => y ||| og_br (M.1 58) mi n y) i x) p with
    | false =>
      refine .inl ⟨_, if_neg (by decide), rfl, fun k hk => ?_⟩
      by_cases hki : k = i
      · rw [hki, hb]
      · exact hno k (by omega)
    | true => exact .inr ⟨_, if_pos rfl, .inl ⟨_, rfl, .inl ⟨i, by omega, hb, hno, rfl⟩⟩⟩) (by
    rintro s ⟨rfl, hno⟩
    refine ⟨_, by simp only [om_D_steps_L39_body, om_D_steps_b39, e]; rw [if_pos (nI_lt (by omega) (by omega))], .inr ⟨rfl, .inr ⟨fun k hk => hno k (by omega), rfl⟩⟩⟩)
  unfold om_D_steps_L39
  rw [hz]
  rcases hq with ⟨r, rfl, h⟩ | ⟨rfl, h⟩
  · exact ⟨r, rfl, h⟩
  · exact ⟨-1, rfl, h⟩
theorem og_k7 {M : om_M} (h : om_Inv M) : om_ok7 om_Inv M := by
  have hI := h
  obtain ⟨n, m, L, hB, hT, hQ, hA⟩ := h
  have ⟨⟨h8, h20, e10, e11, e462, e466⟩, hp, ht, hBa⟩ := hB
  intro x0 x1 x2
  show om_ok om_Inv _ _ M
  cases hpl : om_pl x0 with
  | false => exact ⟨-2, M, M, by simp [om_C_steps, om_C_steps_b0, om_C_steps_b15, om_C_isPlayer_eq, hpl, om_bi], by simp [om_D_steps, om_D_steps_b0, om_D_steps_b15, om_D_isPlayer_eq, hpl, om_bi], hI⟩
  | true =>
  cases hpp : om_pp n x2 with
  | false => exact ⟨-2, M, M, by simp [om_C_steps, om_C_steps_b0, om_C_steps_b15, om_C_isPlayer_eq, om_C_isPlace_eq om_F x2 M e10, hpl, hpp, om_bi], by simp [om_D_steps, om_D_steps_b0, om_D_steps_b15, om_D_isPlayer_eq, om_D_isPlace_eq om_F x2 M h8 e462, hpl, hpp, om_bi], hI⟩
  | true =>
  cases hst : og_st n x1 with
  | false => exact ⟨-3, M, M, by simp [om_C_steps, om_C_steps_b0, om_C_isPlayer_eq, om_C_isPlace_eq om_F x2 M e10, om_C_isSet_eq om_F x1 M h8 e10, hpl, hpp, hst, om_bi], by simp [om_D_steps, om_D_steps_b0, om_D_isPlayer_eq, om_D_isPlace_eq om_F x2 M h8 e462, om_D_isSet_eq om_F x1 M h8 e462, hpl, hpp, hst, om_bi], hI⟩
  | true =>
  obtain ⟨pl, hpl2, rfl⟩ := om_pl_of hpl
  obtain ⟨p, hp0, rfl⟩ := om_pp_of (by omega) hpp
  have hx : og_wn n x1 := og_st_b h8 hst
  obtain ⟨M1, a1, a2, a3, a4, a5⟩ := og_both0 hB hA
  obtain ⟨M2, b1, b2, b3, b4⟩ := a5 M1 (og_sc_pv a2) (og_Al_fr hA (fun j => a2.1 59 j rfl) (a2.1 46 18 rfl))
  have e1 : M1.1 46 2 = nI n := by rw [a2.1 46 2 rfl, e462]
  have e2 : M2.1 46 2 = nI n := by rw [b2.1 46 2 rfl, e1]
  have hmi : ∀ p, p < n → (M2.1 47 p = nI pl ↔ og_mi (M.1 1 2) pl p = true) := fun p hpn => by
    rw [b2.1 47 p rfl, a2.1 47 p rfl]; exact og_hmi hp hpl2 p hpn
  obtain ⟨r1, c1, c2⟩ := og_movesInto h8 hpl2 hp0 a3.1 b4 x1
  obtain ⟨r2, d1, d2⟩ := og_D_stepsL h8 hp0 e2 hmi x1
  have ef : (fun y => y ||| og_br (M2.1 58) (og_mi (M.1 1 2) pl) n y) = (fun y => y ||| og_br (M1.1 11) (og_mi (M1.1 7 1) pl) n y) := funext fun y => by
    rw [a4, og_br_congr h8 (fun p hp => (b3 p hp).symm) (fun p _ => rfl)]
  rw [ef] at d2
  have := og_fst_eq c2 d2
  subst this
  refine ⟨r1, M1, M2, ?_, ?_, og_Inv_q hB hT hQ hA a2 b2⟩
  · show om_C_steps om_F (nI pl) x1 (nI p) M = _
    simp only [om_C_steps, om_C_steps_b0, om_C_isPlayer_eq, om_C_isPlace_eq om_F (nI p) M e10, om_C_isSet_eq om_F x1 M h8 e10, hpl, hpp, hst, om_bi, Option.bind_some, cond_true, show ¬ (1 : Int32) = 0 by decide, if_false, a1, c1]
  · show om_D_steps om_F (nI pl) x1 (nI p) M1 = _
    simp only [om_D_steps, om_D_steps_b0, om_D_isPlayer_eq, om_D_isPlace_eq om_F (nI p) M1 h8 e1, om_D_isSet_eq om_F x1 M1 h8 e1, hpl, hpp, hst, om_bi, Option.bind_some, cond_true, show ¬ (1 : Int32) = 0 by decide, if_false, b1, d1]
/-! ===== both of two sets ===== -/
/-- bits as a set -/
def og_S (x : Int32) (p : Nat) : Prop := om_b x p = true
theorem og_su_iff {N : Nat → Int32} {mi : Nat → Bool} {wi x : Int32} {p : Nat} : og_su N mi wi x p = true ↔ (mi p = true ∧ ∃ q, og_S (N p) q ∧ og_S wi q ∧ og_S x q) ∨ (mi p = false ∧ ∀ q, og_S (N p) q → og_S wi q → og_S x q) := by
  unfold og_su og_S
  cases hm : mi p with
  | true =>
    simp only [cond_true, Bool.not_eq_true', decide_eq_false_iff_not, om_and0]
    constructor
    · intro h
      refine .inl ⟨trivial, Classical.byContradiction fun h2 => h fun i hi h3 => ?_⟩
      rw [om_b_and, Bool.and_eq_true] at h3
      cases hb : om_b x i with
      | false => rfl
      | true => exact absurd ⟨i, h3.1, h3.2, hb⟩ h2
    · rintro (⟨-, q, h1, h2, h3⟩ | ⟨h, -⟩)
      · intro h
        have hq : q < 32 := by
          rcases Nat.lt_or_ge q 32 with h | h
          · exact h
          · rw [om_b_ge _ h] at h3; cases h3
        have := h q hq (by rw [om_b_and, h1, h2]; rfl)
        rw [h3] at this; cases this
      · cases h
  | false =>
    simp only [cond_false, decide_eq_true_eq, om_and0]
    constructor
    · intro h
      refine .inr ⟨trivial, fun q h1 h2 => ?_⟩
      have hq : q < 32 := by
        rcases Nat.lt_or_ge q 32 with h | h
        · exact h
        · rw [om_b_ge _ h] at h1; cases h1
      have := h q hq (by rw [om_b_and, h1, h2]; rfl)
      rw [om_b_not] at this
      simpa [hq] using this
    · rintro (⟨h, -⟩ | ⟨-, h⟩)
      · cases h
      · intro i hi h3
        rw [om_b_and, Bool.and_eq_true] at h3
        rw [om_b_not, h i h3.1 h3.2]
        simp
theorem og_su1_iff {N : Nat → Int32} {mi : Nat → Bool} {x : Int32} {p : Nat} : og_su1 N mi x p = true ↔ (mi p = true ∧ ∃ q, og_S (N p) q ∧ og_S x q) ∨ (mi p = false ∧ ∀ q, og_S (N p) q → og_S x q) := by
  have hm1 : ∀ q, og_S (N p) q → og_S (-1) q := fun q h => by
    unfold og_S at h ⊢
    rw [om_b_m1]
    rcases Nat.lt_or_ge q 32 with h2 | h2
    · simp [h2]
    · rw [om_b_ge _ h2] at h; cases h
  have : og_su1 N mi x p = og_su N mi (-1) x p := by
    unfold og_su1 og_su
    have : N p &&& (-1) = N p := om_ext fun i hi => by rw [om_b_and, om_b_m1]; simp [hi]
    rw [this]
  rw [this, og_su_iff]
  constructor
  · rintro (⟨h, q, h1, -, h2⟩ | ⟨h, h1⟩)
    · exact .inl ⟨h, q, h1, h2⟩
    · exact .inr ⟨h, fun q h2 => h1 q h2 (hm1 q h2)⟩
  · rintro (⟨h, q, h1, h2⟩ | ⟨h, h1⟩)
    · exact .inl ⟨h, q, h1, hm1 q h1, h2⟩
    · exact .inr ⟨h, fun q h2 _ => h1 q h2⟩
theorem og_S_one {N : Nat → Int32} {mi : Nat → Bool} {n : Nat} (h8 : n ≤ 8) {wi x : Int32} {p : Nat} : og_S (og_one N mi n wi x) p ↔ (p < n ∧ og_S wi p ∧ og_su N mi wi x p = true) := by
  unfold og_S og_one
  rw [om_b_and, og_b_mk _ (by omega)]
  simp only [Bool.and_eq_true, decide_eq_true_eq]
  exact ⟨fun h => ⟨h.1.1, h.2, h.1.2⟩, fun h => ⟨⟨h.1, h.2.2⟩, h.2.1⟩⟩
theorem og_S_br {N : Nat → Int32} {mi : Nat → Bool} {n : Nat} (h8 : n ≤ 8) {x : Int32} {p : Nat} : og_S (og_br N mi n x) p ↔ (p < n ∧ og_su1 N mi x p = true) := by
  unfold og_S og_br
  rw [og_b_mk _ (by omega)]
  simp only [Bool.and_eq_true, decide_eq_true_eq]
theorem og_S_or {x y : Int32} {p : Nat} : og_S (x ||| y) p ↔ og_S x p ∨ og_S y p := by
  unfold og_S; rw [om_b_or, Bool.or_eq_true]
theorem og_S_and {x y : Int32} {p : Nat} : og_S (x &&& y) p ↔ og_S x p ∧ og_S y p := by
  unfold og_S; rw [om_b_and, Bool.and_eq_true]
theorem og_S_less {x y : Int32} {p : Nat} : og_S (x &&& (y ^^^ (-1))) p ↔ og_S x p ∧ ¬ og_S y p := by
  rw [og_S_and]
  unfold og_S
  rw [om_b_not]
  constructor
  · rintro ⟨h1, h2⟩
    refine ⟨h1, fun h3 => ?_⟩
    rw [h3] at h2; simp at h2
  · rintro ⟨h1, h2⟩
    refine ⟨h1, ?_⟩
    have : p < 32 := by
      rcases Nat.lt_or_ge p 32 with h | h
      · exact h
      · rw [om_b_ge _ h] at h1; cases h1
    simp [this, h2]
theorem og_S_lt {n : Nat} {x : Int32} (hx : og_wn n x) {p : Nat} (h : og_S x p) : p < n := by
  rcases Nat.lt_or_ge p n with h1 | h1
  · exact h1
  · unfold og_S at h; rw [hx p h1] at h; cases h
theorem og_S_ext {n : Nat} {x y : Int32} (hx : og_wn n x) (hy : og_wn n y) (h : ∀ p, p < n → (og_S x p ↔ og_S y p)) : x = y :=
  og_wext hx hy fun i hi => Bool.eq_iff_iff.mpr (h i hi)
