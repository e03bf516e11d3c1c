/-! ===== the units of a question on both sides ===== -/
theorem og_qU {qa : Nat} (h : qa = 30 ∨ qa = 38) {k : Nat} (hk : 1 ≤ k ∧ k ≤ 5) {u : Nat} (hu : u < 10) : (om_isA (qa + k) 1 && om_in (nI u) (om_ln (qa + k))) = true := by
  have h1 : om_isA (qa + k) 1 = true ∧ om_ln (qa + k) = 10 := by
    have : k = 1 ∨ k = 2 ∨ k = 3 ∨ k = 4 ∨ k = 5 := by omega
    rcases h with rfl | rfl <;> rcases this with rfl | rfl | rfl | rfl | rfl <;> decide
  rw [h1.1, h1.2, om_in_nI hu (by omega)]; rfl
theorem og_Qr_c {M : om_M} {n q b s : Nat} {c d : Nat → Nat} (h : om_Qr M n q b s c d) : ∀ i, i ≤ s → c i ≤ i
  | 0, _ => by rw [h.1]; exact Nat.le_refl _
  | i + 1, hi => by
    have h1 := og_Qr_c h i (by omega)
    obtain ⟨-, h2⟩ := h.2.2 i (by omega)
    rcases h2 with ⟨-, -, h3, -⟩ | ⟨-, -, -, h3, -⟩ | ⟨-, -, -, h3, -⟩ | ⟨-, -, -, h3, -⟩ <;> omega
/-- the cells that the model writes into while it tells a unit -/
def og_pd (a j : Nat) : Bool := Nat.beq a 60 || (Nat.beq a 61 || (Nat.beq a 68 || og_pn a j))
theorem og_pd_pw {M M' : om_M} (h : om_fr og_pw M M') : om_fr og_pd M M' := om_fr_mono h fun a j h => by
  unfold og_pd at h; unfold og_pw
  cases h1 : Nat.beq a 60 with
  | true => rw [h1] at h; cases h
  | false =>
    cases h2 : Nat.beq a 61 with
    | true => rw [h1, h2] at h; cases h
    | false => rfl
theorem og_pd_pn {M M' : om_M} (h : om_fr og_pn M M') : om_fr og_pd M M' := om_fr_mono h fun a j h => by
  unfold og_pd at h
  cases h1 : og_pn a j with
  | false => rfl
  | true => rw [h1] at h; simp at h
theorem og_pn_68 {j : Nat} : og_pn 68 j = false := rfl
theorem og_uC {p : Nat} (hp : p < 8) (v : Int32) (C : om_M) : (if ((v >>> (nI p &&& 31)) &&& 1) = 0 then om_Q_isUnitTrue_b85 om_F 0 C else om_Q_isUnitTrue_b85 om_F 1 C) = some (om_bi (om_b v p), C) := by
  simp only [om_tst (show p < 32 by omega)]
  cases om_b v p
  · rw [if_pos rfl]; rfl
  · rw [if_neg (by decide)]; rfl
theorem og_uD {p : Nat} (hp : p < 8) (v : Int32) (D : om_M) : om_D_plainHolds_b100 om_F (nI p) v D = some (om_bi (om_b v p), D) := by
  unfold om_D_plainHolds_b100
  simp only [og_tst1 (show p < 32 by omega)]
  cases om_b v p
  · rw [if_neg (by decide)]; rfl
  · rw [if_pos rfl]; rfl
theorem og_redle {a x' : Int} {b b' : Nat} {c : Nat} (hb : 0 < b) (h : og_red a b x' b') : x' ≤ c * b' ↔ a ≤ c * b := by
  obtain ⟨h1, -, h3, -⟩ := h
  have e1 : (c : Int) * b' * b = c * b * b' := by rw [Int.mul_assoc, Int.mul_comm (b' : Int) b, ← Int.mul_assoc]
  constructor
  · intro hle
    have := Int.mul_le_mul_of_nonneg_right hle (show (0 : Int) ≤ b by omega)
    rw [h3, e1] at this
    exact Int.le_of_mul_le_mul_right this (by omega)
  · intro hle
    have := Int.mul_le_mul_of_nonneg_right hle (show (0 : Int) ≤ b' by omega)
    rw [← h3, ← e1] at this
    exact Int.le_of_mul_le_mul_right this (by omega)
theorem og_redge {a x' : Int} {b b' : Nat} {c : Nat} (hb : 0 < b) (h : og_red a b x' b') : (c : Int) * b' ≤ x' ↔ c * b ≤ a := by
  obtain ⟨h1, -, h3, -⟩ := h
  have e1 : (c : Int) * b' * b = c * b * b' := by rw [Int.mul_assoc, Int.mul_comm (b' : Int) b, ← Int.mul_assoc]
  constructor
  · intro hle
    have := Int.mul_le_mul_of_nonneg_right hle (show (0 : Int) ≤ b by omega)
    rw [h3, e1] at this
    exact Int.le_of_mul_le_mul_right this (by omega)
  · intro hle
    have := Int.mul_le_mul_of_nonneg_right hle (show (0 : Int) ≤ b' by omega)
    rw [← h3, ← e1] at this
    exact Int.le_of_mul_le_mul_right this (by omega)
theorem og_Ld_tot {M : om_M} {n : Nat} {R : Nat → Nat → Int32 → Prop} (hL : og_Ld M n R) (hR : og_Rok n R) : ∀ p, p < n → ∃ q, og_S (M.1 11 p) q := fun p hp => by
  obtain ⟨e70, s, hs, ⟨m1, m2, m3, m4⟩⟩ := hL
  obtain ⟨q, w, hq, h⟩ := hR.2.1 p hp
  exact ⟨q, (m4 p hp q).mpr ⟨hq, w, h⟩⟩
/-! ===== places with one move ===== -/
section SM
variable {n : Nat} {mi mi' : Nat → Bool} {N : Nat → Int32}
def og_sm (n : Nat) (N : Nat → Int32) (mi mi' : Nat → Bool) : Prop := ∀ p, p < n → mi p = mi' p ∨ ∀ q r, og_S (N p) q → og_S (N p) r → q = r
theorem og_su1_sm (hne : ∀ p, p < n → ∃ q, og_S (N p) q) (h : og_sm n N mi mi') {p : Nat} (hp : p < n) (x : Int32) : og_su1 N mi x p = og_su1 N mi' x p := by
  rcases h p hp with h | h
  · unfold og_su1; rw [h]
  · obtain ⟨q, hq⟩ := hne p hp
    have h1 : N p &&& x = 0 ↔ ¬ og_S x q := by
      constructor
      · intro h1 h2
        have h3 : og_S (N p &&& x) q := og_S_and.mpr ⟨hq, h2⟩
        rw [h1] at h3; exact og_S0 _ h3
      · intro h1
        refine om_ext fun r hr => ?_
        rw [om_b_0]
        cases h2 : om_b (N p &&& x) r with
        | false => rfl
        | true =>
          have h3 := og_S_and.mp (show og_S (N p &&& x) r from h2)
          rw [h r q h3.1 hq] at h3
          exact absurd h3.2 h1
    have h2 : N p &&& (x ^^^ (-1)) = 0 ↔ og_S x q := by
      rw [og_less0]
      exact ⟨fun h2 => h2 q hq, fun h2 r hr => by rw [h r q hr hq]; exact h2⟩
    have e : (!decide (N p &&& x = 0)) = decide (N p &&& (x ^^^ (-1)) = 0) := by
      apply Bool.eq_iff_iff.mpr
      rw [Bool.not_eq_true', decide_eq_false_iff_not, decide_eq_true_eq, h1, h2, Classical.not_not]
    unfold og_su1
    cases mi p <;> cases mi' p <;> simp only [cond_true, cond_false, e]
theorem og_br_sm (hne : ∀ p, p < n → ∃ q, og_S (N p) q) (h : og_sm n N mi mi') : og_br N mi n = og_br N mi' n := by
  funext x
  unfold og_br
  exact og_mk_congr fun p hp => og_su1_sm hne h hp x
theorem og_fo_sm (hne : ∀ p, p < n → ∃ q, og_S (N p) q) (h : og_sm n N mi mi') (x : Int32) : og_fo N mi n x = og_fo N mi' n x := by
  unfold og_fo; rw [og_br_sm hne h]
theorem og_ke_sm (hne : ∀ p, p < n → ∃ q, og_S (N p) q) (h : og_sm n N mi mi') (x : Int32) : og_ke N mi n x = og_ke N mi' n x := by
  unfold og_ke; rw [og_br_sm hne h]
theorem og_bo_sm (hne : ∀ p, p < n → ∃ q, og_S (N p) q) (h : og_sm n N mi mi') (t1 t2 : Int32) : og_bo N mi n t1 t2 = og_bo N mi' n t1 t2 := by
  unfold og_bo og_fo; rw [og_br_sm hne h]
theorem og_win_sm {G : Nat → Nat → Prop} {num : Nat → Nat} {b : Nat} {W E : Nat → Prop} (hne : ∀ p, W p → ∃ q, G p q) (hG : ∀ p q, G p q → W q) (hs : ∀ p, W p → mi p = mi' p ∨ ∀ q r, G p q → G p r → q = r) (h : og_win G mi num b W E) : og_win G mi' num b W E := by
  obtain ⟨h0, s, h1, h2, h3⟩ := h
  have hex : ∀ p, ∃ q, E p → (G p q ∧ E q ∧ (mi p = true → q = s p)) := by
    intro p
    by_cases hE : E p
    · cases hm : mi p with
      | true => exact ⟨s p, fun _ => ⟨(h1 p hE hm).1, (h1 p hE hm).2, fun _ => rfl⟩⟩
      | false =>
        obtain ⟨q, hq⟩ := hne p (h0 p hE)
        exact ⟨q, fun _ => ⟨hq, h2 p q hE hm hq (hG p q hq), fun h => by cases h⟩⟩
    · exact ⟨0, fun h => absurd h hE⟩
  obtain ⟨s', hs'⟩ := Classical.skolem.mp hex
  refine ⟨h0, s', fun p hE _ => ⟨(hs' p hE).1, (hs' p hE).2.1⟩, fun p q hE hm hg hw => ?_, fun c hc hst => h3 c hc fun i => ⟨(hst i).1, fun hm => ?_⟩⟩
  · cases hm2 : mi p with
    | false => exact h2 p q hE hm2 hg hw
    | true =>
      rcases hs p (h0 p hE) with h | h
      · rw [hm2, hm] at h; cases h
      · rw [h q (s p) hg (h1 p hE hm2).1]; exact (h1 p hE hm2).2
  · cases hm2 : mi' (c i) with
    | true => rw [(hst i).2 hm2, (hs' _ (hc i)).2.2 hm]
    | false =>
      rcases hs (c i) (h0 _ (hc i)) with h | h
      · rw [hm2, hm] at h; cases h
      · exact h _ _ (hst i).1 (h1 _ (hc i) hm).1
theorem og_Z_sm {G : Nat → Nat → Prop} {num : Nat → Nat} {W E : Nat → Prop} (hne : ∀ p, W p → ∃ q, G p q) (hG : ∀ p q, G p q → W q) (hs : ∀ p, W p → mi p = mi' p ∨ ∀ q r, G p q → G p r → q = r) (h : og_Z G mi num W E) : og_Z G mi' num W E :=
  ⟨h.1, og_win_sm hne hG hs h.2.1, og_win_sm hne hG (fun p hp => (hs p hp).imp (fun h => by rw [h]) id) h.2.2⟩
theorem og_V_sm {R : Nat → Nat → Int32 → Prop} (hR : og_Rok n R) (hs : ∀ p, p < n → mi p = mi' p ∨ ∀ q r u w, q < n → r < n → R p q u → R p r w → q = r) : ∀ k p, p < n → og_V n mi R k p = og_V n mi' R k p
  | 0, _, _ => rfl
  | k + 1, p, hp => by
    have h1 := og_V_bq (mi := mi) hR k hp
    have h2 := og_V_bq (mi := mi') hR k hp
    rcases hs p hp with h | h
    · rw [h] at h1
      exact og_bq_uniq (og_bq_congr h1 (fun _ _ _ => Iff.rfl) (fun q hq => og_V_sm hR hs k q hq)) h2
    · obtain ⟨⟨q, u, a1, a2, a3⟩, -⟩ := h1
      obtain ⟨⟨r, w, b1, b2, b3⟩, -⟩ := h2
      have e := h q r u w a1 b1 a2 b2
      subst e
      have e2 := hR.1 p q u w hp a1 a2 b2
      subst e2
      rw [a3, b3, og_V_sm hR hs k q a1]
end SM
/-- what both sides must have laid before they tell a unit -/
def og_SC (n : Nat) (R : Nat → Nat → Int32 → Prop) (x : Int32) (C : om_M) : Prop := og_Ld C n R ∧ C.1 7 1 = x ∧ om_Bp C n
def og_SD (n : Nat) (x : Int32) (C D : om_M) : Prop := D.1 46 2 = nI n ∧ (∀ p, p < n → C.1 11 p = D.1 58 p) ∧ (∃ x', og_sm n (C.1 11) (om_b x') (om_b x) ∧ ∀ pl, pl < 2 → ∀ p, p < n → (D.1 47 p = nI pl ↔ og_mi x' pl p = true)) ∧ ∀ p, p < n → D.1 48 p = C.1 2 p
section UA
variable {n : Nat} {R : Nat → Nat → Int32 → Prop} {x : Int32} {C0 D0 : om_M}
theorem og_SC_p17 {C' : om_M} (h : og_SC n R x C0) (g : om_fr og_p17 C0 C') : og_SC n R x C' := by
  refine ⟨og_Ld_p17 h.1 g, by rw [g.1 7 1 rfl]; exact h.2.1, fun i hi => ?_, fun p hp => ?_⟩
  · rw [g.1 1 2 rfl]; exact h.2.2.1 i hi
  · rw [g.1 47 p rfl, g.1 1 2 rfl, g.1 48 p rfl, g.1 2 p rfl]; exact h.2.2.2 p hp
theorem og_SD_pd {D' : om_M} (h : og_SD n x C0 D0) (g : om_fr og_pd D0 D') : og_SD n x C0 D' := by
  obtain ⟨x', hx1, hx2⟩ := h.2.2.1
  refine ⟨by rw [g.1 46 2 rfl]; exact h.1, fun p hp => ?_, ⟨x', hx1, fun pl hpl p hp => ?_⟩, fun p hp => ?_⟩
  · rw [g.1 58 p rfl]; exact h.2.1 p hp
  · rw [g.1 47 p rfl]; exact hx2 pl hpl p hp
  · rw [g.1 48 p rfl]; exact h.2.2.2 p hp
theorem og_sm_mi {N : Nat → Int32} {x' : Int32} (h : og_sm n N (om_b x') (om_b x)) (pl : Nat) : og_sm n N (og_mi x' pl) (og_mi x pl) := fun p hp => (h p hp).imp (fun h => by unfold og_mi; rw [h]) id
theorem og_wonSC (h8 : n ≤ 8) (hR : og_Rok n R) (hC : og_SC n R x C0) : ∃ E, om_V_wonBy om_F 0 C0 = some (E, C0) ∧ og_wn n E ∧ og_Z (fun p => og_S (og_NN (C0.1 11) n p)) (og_mi x 0) (og_num C0) (fun p => p < n) (og_S E) := by
  obtain ⟨h1, h2, h3⟩ := hC
  obtain ⟨E, d1, d2, d3⟩ := og_evenTop h8 h1.1 h3 (og_Ld_wn h1) (og_Ld_tot h1 hR)
  rw [h2] at d3
  refine ⟨E, ?_, d2, d3⟩
  unfold om_V_wonBy om_V_wonBy_b0 om_V_wonBy_b27
  rw [og_everywhere om_F h1.1]
  simp only [Option.bind_some, d1, if_true]
theorem og_wonSD (h8 : n ≤ 8) (hR : og_Rok n R) (hC : og_SC n R x C0) (hD : og_SD n x C0 D0) {E : Int32} (hE : og_wn n E) (hZ : og_Z (fun p => og_S (og_NN (C0.1 11) n p)) (og_mi x 0) (og_num C0) (fun p => p < n) (og_S E)) : ∃ D', om_D_wonNow om_F D0 = some (E, D') ∧ om_fr og_pw D0 D' := by
  obtain ⟨h1, h2, h3⟩ := hC
  obtain ⟨x', hx1, hx2⟩ := hD.2.2.1
  have hNN : ∀ p, p < n → og_NN (C0.1 11) n p = C0.1 11 p := fun p hp => og_NN_lt hp
  have hZ' : og_Z (fun p => og_S (og_NN (C0.1 11) n p)) (og_mi x' 0) (og_num C0) (fun p => p < n) (og_S E) := by
    refine og_Z_sm (fun p hp => ?_) (fun p q hg => ?_) (fun p hp => ?_) hZ
    · rw [hNN p hp]; exact og_Ld_tot h1 hR p hp
    · show q < n
      have hg' : og_S (og_NN (C0.1 11) n p) q := hg
      by_cases hpn : p < n
      · rw [hNN p hpn] at hg'
        refine Classical.byContradiction fun hq => ?_
        have := og_Ld_wn h1 p hpn q (by omega)
        unfold og_S at hg'; rw [this] at hg'; cases hg'
      · unfold og_NN at hg'; rw [if_neg hpn] at hg'; exact absurd hg' (og_S0 q)
    · rw [hNN p hp]
      exact (og_sm_mi hx1 0 p hp).imp Eq.symm id
  exact og_won_eq (M1 := C0) (M2 := D0) (mi := og_mi x' 0) (num := og_num C0) h8 (fun p hpn => (og_num_eq h3 hpn).2) (og_Ld_wn h1) (og_Ld_tot h1 hR) (fun p hpn => (hD.2.1 p hpn).symm) hE hZ' hD.1 (fun p hpn => by rw [hD.2.2.2 p hpn]; exact (og_num_eq h3 hpn).1) (fun p hpn => hx2 0 (by omega) p hpn)
end UA
section UT
variable {n : Nat} {R : Nat → Nat → Int32 → Prop} {x : Int32} {C0 D0 M : om_M} {qa u i : Nat}
theorem og_unitAt (h8 : n ≤ 8) (hq : qa = 30 ∨ qa = 38) (hi : i < 240) (hR : og_Rok n R) (hQ : om_Qu M n qa u i) (hC : og_SC n R x C0) (hD : og_SD n x C0 D0) (fC : ∀ a j, 30 ≤ a → a ≤ 45 → C0.1 a j = M.1 a j) (fD : ∀ a, 54 ≤ a → a ≤ 57 → D0.1 a i = M.1 a i) (hV : (M.1 54 i = 4 ∨ M.1 54 i = 5) → ∀ p, p < n → (D0.1 62 p).toInt = og_V n (og_mi x 0) R 9000 p) : ∃ t : Bool, (∀ C', om_fr og_p17 C0 C' → ∃ C'', om_Q_isUnitTrue om_F qa (nI u) C' = some (om_bi t, C'') ∧ om_fr og_p17 C0 C'') ∧ ∀ D', om_fr og_pd D0 D' → ∃ D'', om_D_plainHolds om_F (nI i) D' = some (om_bi t, D'') ∧ om_fr og_pd D0 D'' ∧ ∀ j, D''.1 68 j = D'.1 68 j := by
  obtain ⟨⟨p, ⟨hp, hu⟩, q4, w57⟩, hcase⟩ := hQ
  have hclu : (nI u).toNatClampNeg = u := nI_clamp (by omega)
  have hcli : (nI i).toNatClampNeg = i := nI_clamp (by omega)
  have hclp : (nI p).toNatClampNeg = p := nI_clamp (by omega)
  have hini : om_in (nI i) 240 = true := om_in_nI hi (by omega)
  have hinp : om_in (nI p) 8 = true := om_in_nI (by omega) (by omega)
  have U1 := og_qU hq (k := 1) (by omega) hu
  have U2 := og_qU hq (k := 2) (by omega) hu
  have U3 := og_qU hq (k := 3) (by omega) hu
  have U4 := og_qU hq (k := 4) (by omega) hu
  have U5 := og_qU hq (k := 5) (by omega) hu
  have hq1 := og_qa1 hq
  have hne0 := og_Ld_tot hC.1 hR
  have rC : ∀ C', om_fr og_p17 C0 C' → ∀ a j, 30 ≤ a ∧ a ≤ 45 → C'.1 a j = M.1 a j := fun C' g a j ha => by
    rw [g.1 a j (by
      cases h : og_p17 a j with
      | false => rfl
      | true =>
        exfalso
        unfold og_p17 at h
        rw [Bool.or_eq_true] at h
        rcases h with h | h
        · have := Nat.eq_of_beq_eq_true h; omega
        · have := Nat.eq_of_beq_eq_true h; omega)]
    exact fC a j ha.1 ha.2
  have rD : ∀ D', om_fr og_pd D0 D' → ∀ a, 54 ≤ a → a ≤ 57 → D'.1 a i = M.1 a i := fun D' g a h1 h2 => by
    rw [g.1 a i (by
      have : a = 54 ∨ a = 55 ∨ a = 56 ∨ a = 57 := by omega
      rcases this with rfl | rfl | rfl | rfl <;> rfl)]
    exact fD a h1 h2
  rcases hcase with ⟨k, hk, q1, w54, ⟨pl, hpl, q2, w55⟩, w56, hwn⟩ | ⟨q1, w54⟩ | ⟨c, hc, q5, w56, hcase⟩
  · have hk3 : k = 0 ∨ k = 1 ∨ k = 2 := by omega
    rcases hk3 with rfl | rfl | rfl
    · refine ⟨om_b (og_fo (C0.1 11) (og_mi x pl) n (M.1 (qa + 3) u)) p, fun C' g => ⟨C', ?_, g⟩, fun D' g => ⟨D', ?_, g, fun _ => rfl⟩⟩
      · obtain ⟨s1, s2, s3⟩ := og_SC_p17 hC g
        have s4 : C'.1 11 = C0.1 11 := funext fun j => g.1 11 j rfl
        have e1 : C'.1 (qa + 1) u = 11 := by rw [rC C' g _ _ (by omega), q1]; decide
        have e2 : C'.1 (qa + 2) u = nI pl := by rw [rC C' g _ _ (by omega), q2]
        have e3 : C'.1 (qa + 3) u = M.1 (qa + 3) u := rC C' g _ _ (by omega)
        have e4 : C'.1 (qa + 4) u = nI p := by rw [rC C' g _ _ (by omega), q4]
        unfold om_Q_isUnitTrue om_Q_isUnitTrue_b0
        simp only [hq1, U1, U2, U3, U4, cond_true, hclu, e1, e2, e3, e4, if_true, og_everywhere om_F s1.1, Option.bind_some, og_attracted h8 hpl s1.1 _ (og_wn_ev h8), og_and_ev h8 hwn, og_at_ev h8 (og_Ld_wn s1)]
        rw [og_uC (by omega), s2, s4]
      · have s := og_SD_pd hD g
        obtain ⟨x', hx1, hx2⟩ := s.2.2.1
        have e54 : D'.1 54 i = 0 := by rw [rD D' g 54 (by omega) (by omega), w54]; decide
        have e55 : D'.1 55 i = nI pl := by rw [rD D' g 55 (by omega) (by omega), w55]
        have e56 : D'.1 56 i = M.1 (qa + 3) u := by rw [rD D' g 56 (by omega) (by omega), w56]
        have e57 : D'.1 57 i = nI p := by rw [rD D' g 57 (by omega) (by omega), w57]
        unfold om_D_plainHolds om_D_plainHolds_b0
        simp only [hini, cond_true, hcli, e54, e55, e56, e57, show ¬ (4 : Int32) ≤ 0 by decide, if_false, if_true, og_forcedTo h8 s.1 (hx2 pl hpl) hwn, Option.bind_some]
        rw [og_uD (by omega), ← og_fo_congr h8 s.2.1 (fun _ _ => rfl), og_fo_sm hne0 (og_sm_mi hx1 pl)]
    · refine ⟨om_b (og_ke (C0.1 11) (og_mi x pl) n (M.1 (qa + 3) u)) p, fun C' g => ⟨C', ?_, g⟩, fun D' g => ⟨D', ?_, g, fun _ => rfl⟩⟩
      · obtain ⟨s1, s2, s3⟩ := og_SC_p17 hC g
        have s4 : C'.1 11 = C0.1 11 := funext fun j => g.1 11 j rfl
        have e1 : C'.1 (qa + 1) u = 12 := by rw [rC C' g _ _ (by omega), q1]; decide
        have e2 : C'.1 (qa + 2) u = nI pl := by rw [rC C' g _ _ (by omega), q2]
        have e3 : C'.1 (qa + 3) u = M.1 (qa + 3) u := rC C' g _ _ (by omega)
        have e4 : C'.1 (qa + 4) u = nI p := by rw [rC C' g _ _ (by omega), q4]
        unfold om_Q_isUnitTrue om_Q_isUnitTrue_b0
        simp only [hq1, U1, U2, U3, U4, cond_true, hclu, e1, e2, e3, e4, if_true, if_false, show ¬ (12 : Int32) = 11 by decide, Option.bind_some, og_keeping h8 hpl s1.1 (og_Ld_wn s1) hwn]
        have := og_uC (p := p) (by omega) (og_ke (C'.1 11) (og_mi (C'.1 7 1) pl) n (M.1 (qa + 3) u)) C'
        rw [s2, s4] at this ⊢
        exact this
      · have s := og_SD_pd hD g
        obtain ⟨x', hx1, hx2⟩ := s.2.2.1
        have e54 : D'.1 54 i = 1 := by rw [rD D' g 54 (by omega) (by omega), w54]; decide
        have e55 : D'.1 55 i = nI pl := by rw [rD D' g 55 (by omega) (by omega), w55]
        have e56 : D'.1 56 i = M.1 (qa + 3) u := by rw [rD D' g 56 (by omega) (by omega), w56]
        have e57 : D'.1 57 i = nI p := by rw [rD D' g 57 (by omega) (by omega), w57]
        unfold om_D_plainHolds om_D_plainHolds_b0
        simp only [hini, cond_true, hcli, e54, e55, e56, e57, show ¬ (4 : Int32) ≤ 1 by decide, show ¬ (1 : Int32) = 0 by decide, if_false, if_true, og_keptIn h8 s.1 (hx2 pl hpl) hwn, Option.bind_some]
        rw [og_uD (by omega), ← og_ke_congr h8 s.2.1 (fun _ _ => rfl), og_ke_sm hne0 (og_sm_mi hx1 pl)]
    · refine ⟨om_b (og_me (C0.1 11) (og_mi x pl) n (M.1 (qa + 3) u) (M.1 (qa + 3) u)) p, fun C' g => ⟨C', ?_, g⟩, fun D' g => ⟨D', ?_, g, fun _ => rfl⟩⟩
      · obtain ⟨s1, s2, s3⟩ := og_SC_p17 hC g
        have s4 : C'.1 11 = C0.1 11 := funext fun j => g.1 11 j rfl
        have e1 : C'.1 (qa + 1) u = 13 := by rw [rC C' g _ _ (by omega), q1]; decide
        have e2 : C'.1 (qa + 2) u = nI pl := by rw [rC C' g _ _ (by omega), q2]
        have e3 : C'.1 (qa + 3) u = M.1 (qa + 3) u := rC C' g _ _ (by omega)
        have e4 : C'.1 (qa + 4) u = nI p := by rw [rC C' g _ _ (by omega), q4]
        unfold om_Q_isUnitTrue om_Q_isUnitTrue_b0
        simp only [hq1, U1, U2, U3, U4, cond_true, hclu, e1, e2, e3, e4, if_true, if_false, show ¬ (13 : Int32) = 11 by decide, show ¬ (13 : Int32) = 12 by decide, Option.bind_some, og_meeting h8 hpl s1.1]
        have := og_uC (p := p) (by omega) (og_me (C'.1 11) (og_mi (C'.1 7 1) pl) n (M.1 (qa + 3) u) (M.1 (qa + 3) u)) C'
        rw [s2, s4] at this ⊢
        exact this
      · have s := og_SD_pd hD g
        obtain ⟨x', hx1, hx2⟩ := s.2.2.1
        have e54 : D'.1 54 i = 2 := by rw [rD D' g 54 (by omega) (by omega), w54]; decide
        have e55 : D'.1 55 i = nI pl := by rw [rD D' g 55 (by omega) (by omega), w55]
        have e56 : D'.1 56 i = M.1 (qa + 3) u := by rw [rD D' g 56 (by omega) (by omega), w56]
        have e57 : D'.1 57 i = nI p := by rw [rD D' g 57 (by omega) (by omega), w57]
        unfold om_D_plainHolds om_D_plainHolds_b0
        simp only [hini, cond_true, hcli, e54, e55, e56, e57, show ¬ (4 : Int32) ≤ 2 by decide, show ¬ (2 : Int32) = 0 by decide, show ¬ (2 : Int32) = 1 by decide, if_false, if_true, og_bothOf h8 s.1 (hx2 pl hpl) hwn hwn, Option.bind_some]
        rw [og_uD (by omega), og_me_bo' h8 (og_Ld_wn hC.1) hne0 hwn hwn, ← og_bo_congr h8 s.2.1 (fun _ _ => rfl), og_bo_sm hne0 (og_sm_mi hx1 pl)]
  · obtain ⟨E, a1, a2, a3⟩ := og_wonSC h8 hR hC
    refine ⟨om_b E p, fun C' g => ⟨C', ?_, g⟩, fun D' g => ?_⟩
    · have s := og_SC_p17 hC g
      have s4 : C'.1 11 = C0.1 11 := funext fun j => g.1 11 j rfl
      have e1 : C'.1 (qa + 1) u = 14 := by rw [rC C' g _ _ (by omega), q1]
      have e4 : C'.1 (qa + 4) u = nI p := by rw [rC C' g _ _ (by omega), q4]
      obtain ⟨E', b1, b2, b3⟩ := og_wonSC h8 hR s
      have s5 : og_num C' = og_num C0 := funext fun p => by unfold og_num; rw [g.1 2 p rfl]
      rw [s4, s5] at b3
      have hEE : E' = E := by
        obtain ⟨D1, d1, -⟩ := og_wonSD h8 hR hC hD a2 a3
        obtain ⟨D2, d2, -⟩ := og_wonSD h8 hR hC hD b2 b3
        rw [d1] at d2
        exact (congrArg Prod.fst (Option.some.inj d2)).symm
      subst hEE
      unfold om_Q_isUnitTrue om_Q_isUnitTrue_b0
      simp only [hq1, U1, U4, cond_true, hclu, e1, e4, if_true, if_false, show ¬ (14 : Int32) = 11 by decide, show ¬ (14 : Int32) = 12 by decide, show ¬ (14 : Int32) = 13 by decide, Option.bind_some, b1]
      exact og_uC (by omega) E' C'
    · have s := og_SD_pd hD g
      have e54 : D'.1 54 i = 3 := by rw [rD D' g 54 (by omega) (by omega), w54]
      have e57 : D'.1 57 i = nI p := by rw [rD D' g 57 (by omega) (by omega), w57]
      obtain ⟨D2, d1, d2⟩ := og_wonSD h8 hR hC s a2 a3
      have e57' : D2.1 57 i = nI p := by rw [d2.1 57 i rfl, e57]
      refine ⟨D2, ?_, om_fr_tr g (og_pd_pw d2), fun j => d2.1 68 j rfl⟩
      unfold om_D_plainHolds om_D_plainHolds_b0
      simp only [hini, cond_true, hcli, e54, e57, show ¬ (4 : Int32) ≤ 3 by decide, show ¬ (3 : Int32) = 0 by decide, show ¬ (3 : Int32) = 1 by decide, show ¬ (3 : Int32) = 2 by decide, if_false, d1, Option.bind_some]
      first
        | exact og_uD (by omega) E D2
        | (rw [e57']; exact og_uD (by omega) E D2)
  · obtain ⟨Ms, a, b, x', b', -, -, hb, hb8, -, -, hred, hVk⟩ := og_findSure (pl := 0) h8 hR hC.1 hp (by omega)
    rw [hC.2.1] at hVk
    have hVk' : ∀ k : Nat, -(70 * (b : Int)) ≤ (b : Int) * og_V n (og_mi x 0) R k p - a * k ∧ (b : Int) * og_V n (og_mi x 0) R k p - a * k ≤ 70 * b := hVk
    have hkind : M.1 54 i = 4 ∨ M.1 54 i = 5 := hcase.imp And.right And.right
    have h62 := hV hkind p hp
    have hVb := og_V_bound (mi := og_mi x 0) hR 9000 hp
    have hnear : ∀ D', om_fr og_pd D0 D' → ∃ D'', om_D_nearest om_F (D'.1 62 p) D' = some D'' ∧ om_fr og_pn D' D'' ∧ D''.1 46 24 = nI b' ∧ (D''.1 46 23).toInt = x' := fun D' g => og_nearest (S := og_V n (og_mi x 0) R 9000 p) (by rw [g.1 62 p rfl]; exact h62) (by omega) (by omega) hb hb8 hred (by have h := hVk' 9000; exact h)
    have hcb8 : c * b' ≤ 99 * 8 := Nat.mul_le_mul (by omega) (by have := hred.2.1; omega)
    have hcb : (nI c * nI b').toInt = (c : Int) * b' := by rw [pk_mul, nI_toInt (by omega), Int.natCast_mul]
    rcases hcase with ⟨q1, w54⟩ | ⟨q1, w54⟩
    · refine ⟨decide ((c : Int) * b < a), fun C' g => ?_, fun D' g => ?_⟩
      · have s := og_SC_p17 hC g
        have e1 : C'.1 (qa + 1) u = 16 := by rw [rC C' g _ _ (by omega), q1]
        have e4 : C'.1 (qa + 4) u = nI p := by rw [rC C' g _ _ (by omega), q4]
        have e5 : C'.1 (qa + 5) u = nI c := by rw [rC C' g _ _ (by omega), q5]
        obtain ⟨C2, r, z1, z2, z3⟩ := og_isHeld (M := C') h8 s.1 hR (pl := 1) (σ := -1) (.inr ⟨rfl, rfl⟩) hc hp (a := a) (b := b) (by omega) (by rw [s.2.1]; exact hVk')
        have z1' : om_E_isHeld om_F 1 (nI c) (nI p) C' = some (om_bi r, C2) := by rw [show (1 : Int32) = nI 1 by decide]; exact z1
        refine ⟨C2, ?_, om_fr_tr g z2⟩
        unfold om_Q_isUnitTrue om_Q_isUnitTrue_b0
        simp only [hq1, U1, U4, U5, cond_true, hclu, e1, e4, e5, if_true, if_false, show ¬ (16 : Int32) = 11 by decide, show ¬ (16 : Int32) = 12 by decide, show ¬ (16 : Int32) = 13 by decide, show ¬ (16 : Int32) = 14 by decide, show ¬ (16 : Int32) = 15 by decide, Option.bind_some, z1']
        cases r with
        | true =>
          have := z3.mp rfl
          rw [decide_eq_false (by omega), if_neg (by decide)]; rfl
        | false =>
          have h0 : ¬ 0 ≤ -1 * (a - (c : Int) * b) := fun h => (by have := z3.mpr h; cases this)
          rw [decide_eq_true (by omega), if_pos (show om_bi false = 0 from rfl)]; rfl
      · have e54 : D'.1 54 i = 4 := by rw [rD D' g 54 (by omega) (by omega), w54]
        have e57 : D'.1 57 i = nI p := by rw [rD D' g 57 (by omega) (by omega), w57]
        obtain ⟨D2, d1, d2, d3, d4⟩ := hnear D' g
        have e56 : D2.1 56 i = nI c := by rw [d2.1 56 i rfl, rD D' g 56 (by omega) (by omega), w56]
        refine ⟨D2, ?_, om_fr_tr g (og_pd_pn d2), fun j => d2.1 68 j rfl⟩
        have hle : D2.1 46 23 ≤ nI c * nI b' ↔ a ≤ (c : Int) * b := by
          rw [Int32.le_iff_toInt_le, hcb, d4]; exact og_redle hb hred
        unfold om_D_plainHolds om_D_plainHolds_b0 om_D_plainHolds_b182
        simp only [hini, cond_true, hcli, e54, e57, hinp, hclp, show (4 : Int32) ≤ 4 by decide, if_true, d1, Option.bind_some, e56, d3]
        by_cases h : a ≤ (c : Int) * b
        · rw [if_pos (hle.mpr h), decide_eq_false (by omega)]; rfl
        · rw [if_neg (fun h1 => h (hle.mp h1)), decide_eq_true (by omega)]; rfl
    · refine ⟨decide (a < (c : Int) * b), fun C' g => ?_, fun D' g => ?_⟩
      · have s := og_SC_p17 hC g
        have e1 : C'.1 (qa + 1) u = 17 := by rw [rC C' g _ _ (by omega), q1]
        have e4 : C'.1 (qa + 4) u = nI p := by rw [rC C' g _ _ (by omega), q4]
        have e5 : C'.1 (qa + 5) u = nI c := by rw [rC C' g _ _ (by omega), q5]
        obtain ⟨C2, r, z1, z2, z3⟩ := og_isHeld (M := C') h8 s.1 hR (pl := 0) (σ := 1) (.inl ⟨rfl, rfl⟩) hc hp (a := a) (b := b) (by omega) (by rw [s.2.1]; exact hVk')
        have z1' : om_E_isHeld om_F 0 (nI c) (nI p) C' = some (om_bi r, C2) := z1
        refine ⟨C2, ?_, om_fr_tr g z2⟩
        unfold om_Q_isUnitTrue om_Q_isUnitTrue_b0 om_Q_isUnitTrue_b196
        simp only [hq1, U1, U4, U5, cond_true, hclu, e1, e4, e5, if_false, show ¬ (17 : Int32) = 11 by decide, show ¬ (17 : Int32) = 12 by decide, show ¬ (17 : Int32) = 13 by decide, show ¬ (17 : Int32) = 14 by decide, show ¬ (17 : Int32) = 15 by decide, show ¬ (17 : Int32) = 16 by decide, Option.bind_some, z1']
        cases r with
        | true =>
          have := z3.mp rfl
          rw [decide_eq_false (by omega), if_neg (by decide)]; rfl
        | false =>
          have h0 : ¬ 0 ≤ 1 * (a - (c : Int) * b) := fun h => (by have := z3.mpr h; cases this)
          rw [decide_eq_true (by omega), if_pos (show om_bi false = 0 from rfl)]; rfl
      · have e54 : D'.1 54 i = 5 := by rw [rD D' g 54 (by omega) (by omega), w54]
        have e57 : D'.1 57 i = nI p := by rw [rD D' g 57 (by omega) (by omega), w57]
        obtain ⟨D2, d1, d2, d3, d4⟩ := hnear D' g
        have e56 : D2.1 56 i = nI c := by rw [d2.1 56 i rfl, rD D' g 56 (by omega) (by omega), w56]
        refine ⟨D2, ?_, om_fr_tr g (og_pd_pn d2), fun j => d2.1 68 j rfl⟩
        have hle : nI c * nI b' ≤ D2.1 46 23 ↔ (c : Int) * b ≤ a := by
          rw [Int32.le_iff_toInt_le, hcb, d4]; exact og_redge hb hred
        unfold om_D_plainHolds om_D_plainHolds_b0 om_D_plainHolds_b182
        simp only [hini, cond_true, hcli, e54, e57, hinp, hclp, show (4 : Int32) ≤ 5 by decide, show ¬ (5 : Int32) = 4 by decide, if_true, if_false, d1, Option.bind_some, e56, d3]
        by_cases h : (c : Int) * b ≤ a
        · rw [if_pos (hle.mpr h), decide_eq_false (by omega)]; rfl
        · rw [if_neg (fun h1 => h (hle.mp h1)), decide_eq_true (by omega)]; rfl
end UT
