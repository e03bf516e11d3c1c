def og_Cx (M : om_M) (n m : Nat) (al : Nat → Int32) (M' : om_M) : Prop := om_fr og_pv M M' ∧ M'.1 7 0 = nI n ∧ M'.1 7 1 = M.1 1 2 ∧ ∀ p, p < n → M'.1 11 p = og_Nal M m n al p
section PC
variable {M : om_M} {n m : Nat} {pl : Nat} {D : Int32}
theorem og_wonByC (hB : om_Bd M n m) (hpl : pl < 2) {al : Nat → Int32} {M' : om_M} (hC : og_Cx M n m al M') : ∃ R, om_V_wonBy om_F (nI pl) M' = some (R, M') ∧ og_Reg M m n pl al R := by
  obtain ⟨⟨h8, h20, e10, e11, e462, e466⟩, hp, ht, hBa⟩ := hB
  obtain ⟨c1, c2, c3, c4⟩ := hC
  have hs1 := og_sc_pv c1
  obtain ⟨E, d1, d2, d3⟩ := og_evenTop h8 c2 (og_Bp_pv hp hs1) (fun p hpn => by rw [c4 p hpn]; exact og_wn_Nal h8) (fun p hpn => by rw [c4 p hpn]; exact og_Nal_ne h8 hBa p hpn)
  rw [c3, og_num_sc hs1] at d3
  have hNN : ∀ p, og_NN (M'.1 11) n p = og_NN (og_Nal M m n al) n p := fun p => by
    unfold og_NN
    by_cases h : p < n
    · rw [if_pos h, if_pos h, c4 p h]
    · rw [if_neg h, if_neg h]
  have hG : (fun p => og_S (og_NN (M'.1 11) n p)) = og_Gal M m n al := funext fun p => by
    unfold og_Gal; rw [hNN]
  rw [hG] at d3
  refine ⟨og_reg n pl E, ?_, E, d2, d3, rfl⟩
  unfold om_V_wonBy om_V_wonBy_b0 om_V_wonBy_b27
  rw [og_everywhere om_F c2]
  simp only [Option.bind_some, d1]
  have : pl = 0 ∨ pl = 1 := by omega
  rcases this with rfl | rfl
  · rw [if_pos (show nI 0 = 0 from rfl)]; rfl
  · rw [if_neg (show ¬ nI 1 = 0 by decide), og_everywhere om_F c2]; rfl
theorem og_Tdec (h8 : n ≤ 8) (hpl : pl < 2) {al : Nat → Int32} {q k : Nat} {R : Int32} (hR : og_Reg M m n pl (og_seta al q (nI k)) R) : D &&& (R ^^^ (-1)) = 0 ↔ og_T M m n pl D al q k :=
  ⟨fun h R' hR' => by rw [og_Reg_uniq h8 hpl hR' hR]; exact h, fun h => h R hR⟩
theorem og_Cx_set (hB : om_Bd M n m) {al : Nat → Int32} {q k : Nat} (hq : q < n) (hk : k < m) (ht : M.1 4 k = nI q) {M' : om_M} (h1 : om_fr og_pv M M') (h2 : M'.1 7 0 = nI n) (h3 : M'.1 7 1 = M.1 1 2) (h4 : ∀ p, p < n → p ≠ q → M'.1 11 p = og_Nal M m n al p) : og_Cx M n m (og_seta al q (nI k)) (om_up M' 11 q (1 <<< (M.1 5 k &&& 31))) := by
  obtain ⟨⟨h8, h20, e10, e11, e462, e466⟩, hp, htt, hBa⟩ := hB
  refine ⟨om_fr_up h1 rfl, by simp [om_up_at, h2], by simp [om_up_at, h3], fun p hpn => ?_⟩
  obtain ⟨-, -, -, -, ⟨b, hb, h5⟩, -⟩ := hBa.1 k hk
  by_cases hpq : p = q
  · subst hpq
    have e : (om_up M' 11 p (1 <<< (M.1 5 k &&& 31))).1 11 p = 1 <<< (nI b &&& 31) := by simp [om_up_at, h5]
    rw [e]
    refine om_ext fun r hr => Bool.eq_iff_iff.mpr ?_
    rw [om_b_shl (by omega), decide_eq_true_eq]
    have := og_Nal_S (M := M) (m := m) (n := n) h8 (al := og_seta al p (nI k)) (p := p) (r := r)
    unfold og_S at this
    rw [this]
    constructor
    · rintro rfl
      exact ⟨hb, _, (og_E_at h20 h8 hq hk ht r _).mpr ⟨h5, rfl⟩⟩
    · rintro ⟨hrn, w, hE⟩
      have := ((og_E_at h20 h8 hq hk ht r w).mp hE).1
      exact (nI_eq (by omega) (by omega)).mp (this.symm.trans h5)
  · have e : (om_up M' 11 q (1 <<< (M.1 5 k &&& 31))).1 11 p = M'.1 11 p := by simp [om_up_at, hpq]
    rw [e, h4 p hpn hpq]
    refine og_S_ext (n := n) (og_wn_Nal h8) (og_wn_Nal h8) fun r _ => ?_
    rw [og_Nal_S h8, og_Nal_S h8]
    constructor
    · rintro ⟨g1, w, g2⟩; exact ⟨g1, w, (og_E_off hBa h8 hpn hq hpq _ r w).mpr g2⟩
    · rintro ⟨g1, w, g2⟩; exact ⟨g1, w, (og_E_off hBa h8 hpn hq hpq _ r w).mp g2⟩
theorem og_narrowed (hB : om_Bd M n m) (hpl : pl < 2) {al : Nat → Int32} {q : Nat} (hq : q < n) {M' : om_M} (hC : og_Cx M n m al M') : ∃ r M3, om_C_narrowed om_F (nI q) (nI pl) D M' = some (r, M3) ∧ ((∃ k, k < m ∧ M.1 4 k = nI q ∧ og_T M m n pl D al q k ∧ (∀ j, j < k → M.1 4 j = nI q → ¬ og_T M m n pl D al q j) ∧ r = nI k ∧ og_Cx M n m (og_seta al q (nI k)) M3) ∨ ((∀ k, k < m → M.1 4 k = nI q → ¬ og_T M m n pl D al q k) ∧ r = -1 ∧ (M3 = M' ∨ ∃ k, k < m ∧ M.1 4 k = nI q))) := by
  have ⟨⟨h8, h20, e10, e11, e462, e466⟩, hp, htt, hBa⟩ := hB
  obtain ⟨z, hz, hqz⟩ := om_lp (f := om_C_narrowed_L3_body om_F) (fun i s => ∃ M'', s = (nI q, nI pl, D, nI i, M'') ∧ (∀ j, j < i → M.1 4 j = nI q → ¬ og_T M m n pl D al q j) ∧ om_fr og_pv M M'' ∧ M''.1 7 0 = nI n ∧ M''.1 7 1 = M.1 1 2 ∧ (∀ p, p < n → p ≠ q → M''.1 11 p = og_Nal M m n al p) ∧ (M'' = M' ∨ ∃ k, k < m ∧ M.1 4 k = nI q)) (fun z => (∃ k M3, z = .inl (nI k, M3) ∧ k < m ∧ M.1 4 k = nI q ∧ og_T M m n pl D al q k ∧ (∀ j, j < k → M.1 4 j = nI q → ¬ og_T M m n pl D al q j) ∧ og_Cx M n m (og_seta al q (nI k)) M3) ∨ (∃ M3, z = .inr M3 ∧ (∀ k, k < m → M.1 4 k = nI q → ¬ og_T M m n pl D al q k) ∧ (M3 = M' ∨ ∃ k, k < m ∧ M.1 4 k = nI q))) m (F := om_F) (Nat.lt_of_le_of_lt h20 (by decide)) (s := (nI q, nI pl, D, 0, M')) ⟨M', rfl, fun j hj => absurd hj (by omega), hC.1, hC.2.1, hC.2.2.1, fun p hp _ => hC.2.2.2 p hp, .inl rfl⟩ (by
    rintro i s hi ⟨M'', rfl, g1, g2, g3, g4, g5, g6⟩
    have hin : om_in (nI i) 20 = true := om_in_nI (by omega) (by omega)
    have hcl : (nI i).toNatClampNeg = i := nI_clamp (by omega)
    have hin2 : om_in (nI q) 8 = true := om_in_nI (by omega) (by omega)
    have hcl2 : (nI q).toNatClampNeg = q := nI_clamp (by omega)
    have hlt : ¬ nI m ≤ nI i := nI_ge hi (by omega)
    have e11' : M''.1 1 1 = nI m := by rw [g2.1 1 1 rfl, e11]
    have e4 : M''.1 4 i = M.1 4 i := g2.1 4 i rfl
    have e5 : M''.1 5 i = M.1 5 i := g2.1 5 i rfl
    simp only [om_C_narrowed_L3_body, om_C_narrowed_b3, om_C_narrowed_b78, e11', hlt, hin, hcl, hin2, hcl2, if_false, cond_true, e4, e5, og_nI1]
    by_cases ht : M.1 4 i = nI q
    · rw [if_pos ht]
      have hCx := og_Cx_set hB (al := al) hq hi ht g2 g3 g4 g5
      obtain ⟨R, r1, r2⟩ := og_wonByC hB hpl hCx
      rw [r1]
      simp only [Option.bind_some]
      by_cases hT : og_T M m n pl D al q i
      · exact .inr ⟨_, if_pos ((og_Tdec h8 hpl r2).mpr hT), .inl ⟨i, _, rfl, hi, ht, hT, g1, hCx⟩⟩
      · refine .inl ⟨_, if_neg (fun h => hT ((og_Tdec h8 hpl r2).mp h)), _, rfl, fun j hj hjt => ?_, hCx.1, hCx.2.1, hCx.2.2.1, fun p hp hpq => ?_, .inr ⟨i, hi, ht⟩⟩
        · by_cases hji : j = i
          · subst hji; exact hT
          · exact g1 j (by omega) hjt
        · have e : (om_up M'' 11 q (1 <<< (M.1 5 i &&& 31))).1 11 p = M''.1 11 p := by simp [om_up_at, hpq]
          rw [e]; exact g5 p hp hpq
    · rw [if_neg ht]
      refine .inl ⟨_, rfl, M'', rfl, fun j hj hjt => ?_, g2, g3, g4, g5, g6⟩
      by_cases hji : j = i
      · subst hji; exact absurd hjt ht
      · exact g1 j (by omega) hjt) (by
    rintro s ⟨M'', rfl, g1, g2, g3, g4, g5, g6⟩
    have e11' : M''.1 1 1 = nI m := by rw [g2.1 1 1 rfl, e11]
    exact ⟨_, by simp only [om_C_narrowed_L3_body, om_C_narrowed_b3, e11']; rw [if_pos Int32.le_rfl], .inr ⟨M'', rfl, g1, g6⟩⟩)
  unfold om_C_narrowed om_C_narrowed_b0 om_C_narrowed_L3
  rw [hz]
  rcases hqz with ⟨k, M3, rfl, h1, h2, h3, h4, h5⟩ | ⟨M3, rfl, h1, h2⟩
  · exact ⟨nI k, M3, rfl, .inl ⟨k, h1, h2, h3, h4, rfl, h5⟩⟩
  · exact ⟨-1, M3, rfl, .inr ⟨h1, rfl, h2⟩⟩
theorem og_owner (hpl : pl < 2) (p : Nat) : (if om_b (M.1 1 2) p = true then (0 : Int32) else 1) = nI pl ↔ og_mi (M.1 1 2) pl p = true := by
  have : pl = 0 ∨ pl = 1 := by omega
  rcases this with rfl | rfl
  · show _ ↔ om_b (M.1 1 2) p = true
    cases om_b (M.1 1 2) p <;> decide
  · show _ ↔ (!om_b (M.1 1 2) p) = true
    cases om_b (M.1 1 2) p <;> decide
theorem og_C_planL (hB : om_Bd M n m) (hpl : pl < 2) (hD : og_Reg M m n pl (fun _ => -1) D) {p : Nat} (hp : p < n) {M' : om_M} (hC : og_Cx M n m (fun _ => -1) M') : ∃ r M3 al, om_C_plan_L55 om_F (nI p, nI pl, D, -1, 0, M') = some (r, M3) ∧ og_Rch M m n pl D (p + 1) al ∧ om_fr og_pv M M3 ∧ (og_cond M m pl D p → r = al p) ∧ (¬ og_cond M m pl D p → r = -1) := by
  have ⟨⟨h8, h20, e10, e11, e462, e466⟩, hBp, htt, hBa⟩ := hB
  obtain ⟨z, hz, r, M3, al, rfl, q1, q2, q3, q4⟩ := om_lp (f := om_C_plan_L55_body om_F) (fun i s => ∃ x M'' al, s = (nI p, nI pl, D, x, nI i, M'') ∧ og_Rch M m n pl D i al ∧ (∀ R, og_Reg M m n pl al R → D &&& (R ^^^ (-1)) = 0) ∧ og_Cx M n m al M'' ∧ (∀ j, i = j + 1 → (og_cond M m pl D j → x = al j) ∧ (¬ og_cond M m pl D j → x = -1))) (fun z => ∃ r M3 al, z = (r, M3) ∧ og_Rch M m n pl D (p + 1) al ∧ om_fr og_pv M M3 ∧ (og_cond M m pl D p → r = al p) ∧ (¬ og_cond M m pl D p → r = -1)) (p + 1) (F := om_F) (Nat.lt_of_le_of_lt (show p + 1 ≤ 8 by omega) (by decide)) (s := (nI p, nI pl, D, -1, 0, M')) ⟨-1, M', fun _ => -1, rfl, rfl, fun R hR => by rw [og_Reg_uniq h8 hpl hR hD]; exact og_less0.mpr fun p h => h, hC, fun j hj => by omega⟩ (by
    rintro i s hi ⟨x, M'', al, rfl, g1, g2, g3, g4⟩
    have hlt : ¬ nI p < nI i := nI_nlt (by omega) (by omega)
    have e12 : M''.1 1 2 = M.1 1 2 := g3.1.1 1 2 rfl
    simp only [om_C_plan_L55_body, om_C_plan_b55, om_C_plan_b87, om_C_plan_b88, om_C_plan_b107, hlt, if_false, og_ownerOf om_F (show i < 32 by omega), Option.bind_some, e12, og_owner hpl, om_tst (show i < 32 by omega), og_nI1]
    obtain ⟨al', s1, s2⟩ := og_St_ex hBa hBp h20 h8 hpl (show i < n by omega) (og_Rch_off g1 i (Nat.le_refl i)) g2
    have hstop : ¬ og_cond M m pl D i → ∃ s', some (Sum.inl (nI p, nI pl, D, (-1 : Int32), nI (i + 1), M'')) = some (Sum.inl (β := Int32 × om_M) s') ∧ ∃ x M'' al, s' = (nI p, nI pl, D, x, nI (i + 1), M'') ∧ og_Rch M m n pl D (i + 1) al ∧ (∀ R, og_Reg M m n pl al R → D &&& (R ^^^ (-1)) = 0) ∧ og_Cx M n m al M'' ∧ (∀ j, i + 1 = j + 1 → (og_cond M m pl D j → x = al j) ∧ (¬ og_cond M m pl D j → x = -1)) := by
      intro hc
      refine ⟨_, rfl, -1, M'', al, rfl, ⟨al, g1, .inr ⟨hc, rfl⟩⟩, g2, g3, fun j hj => ?_⟩
      have : j = i := by omega
      subst this
      exact ⟨fun h => absurd h hc, fun _ => rfl⟩
    by_cases hm : og_mi (M.1 1 2) pl i = true
    · rw [if_pos hm]
      cases hb : om_b D i with
      | false =>
        rw [if_pos rfl, if_pos trivial]
        exact .inl (hstop fun h => by have := h.2.1; unfold og_S at this; rw [hb] at this; cases this)
      | true =>
        rw [if_neg (by decide), if_neg (by decide)]
        obtain ⟨r, M3, n1, n2⟩ := og_narrowed (D := D) hB hpl (show i < n by omega) g3
        rw [n1]
        simp only [Option.bind_some]
        by_cases hex : ∃ k, k < m ∧ M.1 4 k = nI i
        · have hc : og_cond M m pl D i := ⟨hm, hb, hex⟩
          rcases n2 with ⟨k, k1, k2, k3, k4, rfl, k6⟩ | ⟨k1, -, -⟩
          · refine .inl ⟨_, rfl, nI k, M3, og_seta al i (nI k), rfl, ⟨al, g1, .inl ⟨hc, k, k1, k2, k3, k4, rfl⟩⟩, k3, k6, fun j hj => ?_⟩
            have : j = i := by omega
            subst this
            exact ⟨fun _ => by unfold og_seta; rw [if_pos rfl], fun h => absurd hc h⟩
          · rcases s1 with ⟨-, k, c1, c2, c3, -⟩ | ⟨h, -⟩
            · exact absurd c3 (k1 k c1 c2)
            · exact absurd hc h
        · have hc : ¬ og_cond M m pl D i := fun h => hex h.2.2
          rcases n2 with ⟨k, k1, k2, -⟩ | ⟨-, rfl, h | h⟩
          · exact absurd ⟨k, k1, k2⟩ hex
          · subst h; exact .inl (hstop hc)
          · exact absurd h hex
    · rw [if_neg hm, if_pos trivial]
      exact .inl (hstop fun h => hm h.1)) (by
    rintro s ⟨x, M'', al, rfl, g1, g2, g3, g4⟩
    exact ⟨_, by simp only [om_C_plan_L55_body, om_C_plan_b55]; rw [if_pos (nI_lt (by omega) (by omega))], x, M'', al, rfl, g1, g3.1, g4 p rfl⟩)
  exact ⟨r, M3, al, hz, q1, q2, q3, q4⟩
/-! ===== the model's ===== -/
def og_Dx (M : om_M) (al : Nat → Int32) (M' : om_M) : Prop := om_fr om_sc M M' ∧ M'.1 46 18 = -1 ∧ ∀ p, p < 8 → M'.1 59 p = al p
theorem og_Um_al {al : Nat → Int32} {M' : om_M} (hD : og_Dx M al M') {k : Nat} (hk : k < 20) : og_Ual M al k ↔ og_Um M' k := by
  obtain ⟨d1, d2, d3⟩ := hD
  unfold og_Um og_Ual
  rw [d2, d1.1 4 k rfl]
  constructor
  · intro h
    refine ⟨fun h1 => nI_pos (show k < 2 ^ 31 by omega) (by rw [h1]; decide), fun p h1 h2 => ?_⟩
    rw [d3 p h2]; exact h p h1 h2
  · rintro ⟨-, h⟩ p h1 h2
    have := h p h1 h2
    rw [d3 p h2] at this; exact this
theorem og_wonByD (hB : om_Bd M n m) (hpl : pl < 2) {al : Nat → Int32} {M' : om_M} (hD : og_Dx M al M') : ∃ R M'', om_D_wonBy om_F (nI pl) M' = some (R, M'') ∧ og_Reg M m n pl al R ∧ og_Dx M al M'' := by
  have ⟨⟨h8, h20, e10, e11, e462, e466⟩, hp, htt, hBa⟩ := hB
  have hB' := om_Bd_fr hB hD.1
  obtain ⟨M2, c1, c2, c3⟩ := og_layMoves hB'.1 hB'.2.2.2
  have hs2 := om_fr_tr hD.1 (og_sc_pm c2)
  have hN : ∀ p, p < n → M2.1 58 p = og_Nal M m n al p := fun p hpn => by
    refine om_ext fun q _ => Bool.eq_iff_iff.mpr ?_
    have := og_Nal_S (M := M) (m := m) (n := n) h8 (al := al) (p := p) (r := q)
    unfold og_S at this
    rw [c3 p hpn q, this]
    constructor
    · rintro ⟨h1, w, h2⟩; exact ⟨h1, w, (og_E_fr hD.1 (fun k hk => og_Um_al hD (by omega)) p q w).mp h2⟩
    · rintro ⟨h1, w, h2⟩; exact ⟨h1, w, (og_E_fr hD.1 (fun k hk => og_Um_al hD (by omega)) p q w).mpr h2⟩
  obtain ⟨E, d2, d3⟩ := og_Z_ex (M := M) h8 hp (N := og_Nal M m n al) (fun p _ => og_wn_Nal h8) (og_Nal_ne h8 hBa)
  have e2 : M2.1 46 2 = nI n := by rw [hs2.1 46 2 rfl, e462]
  obtain ⟨M3, f1, f2⟩ := og_won_eq (M1 := M) (M2 := M2) (mi := og_mi (M.1 1 2) 0) (num := og_num M) h8 (fun p hpn => (og_num_eq hp hpn).2) (fun p _ => og_wn_Nal h8) (og_Nal_ne h8 hBa) hN d2 d3 e2 (fun p hpn => by rw [hs2.1 48 p rfl, (hp.2 p hpn).2.1]; exact (og_num_eq hp hpn).1) (fun p hpn => by rw [hs2.1 47 p rfl]; exact og_hmi0 hp p hpn)
  refine ⟨og_reg n pl E, M3, ?_, ⟨E, d2, d3, rfl⟩, om_fr_tr hs2 (og_pw_frsc f2), ?_, fun p hp => ?_⟩
  · unfold om_D_wonBy om_D_wonBy_b0 om_D_wonBy_b29
    rw [c1]
    simp only [Option.bind_some, f1]
    have e3 : M3.1 46 2 = nI n := by rw [f2.1 46 2 rfl, e2]
    have : pl = 0 ∨ pl = 1 := by omega
    rcases this with rfl | rfl
    · rw [if_pos (show nI 0 = 0 from rfl)]; rfl
    · rw [if_neg (show ¬ nI 1 = 0 by decide), e3]; rfl
  · rw [f2.1 46 18 rfl, c2.1 46 18 rfl, hD.2.1]
  · rw [f2.1 59 p rfl, c2.1 59 p rfl, hD.2.2 p hp]
theorem og_hasArrows (hB : om_Bd M n m) {M' : om_M} (hf : om_fr om_sc M M') (q : Nat) : ∃ c, om_D_hasArrows om_F (nI q) M' = some (om_bi c, M') ∧ (c = true ↔ ∃ k, k < m ∧ M.1 4 k = nI q) := by
  have ⟨⟨h8, h20, e10, e11, e462, e466⟩, hp, htt, hBa⟩ := hB
  obtain ⟨z, hz, c, rfl, hc⟩ := om_lp (f := om_D_hasArrows_L4_body om_F) (fun i s => ∃ c, s = (nI q, om_bi c, nI i, M') ∧ (c = true ↔ ∃ k, k < i ∧ M.1 4 k = nI q)) (fun z => ∃ c, z = (om_bi c, M') ∧ (c = true ↔ ∃ k, k < m ∧ M.1 4 k = nI q)) m (F := om_F) (Nat.lt_of_le_of_lt h20 (by decide)) (s := (nI q, 0, 0, M')) ⟨false, rfl, ⟨fun h => (by cases h), fun ⟨k, hk, _⟩ => absurd hk (by omega)⟩⟩ (by
    rintro i s hi ⟨c, rfl, hc⟩
    have hin : om_in (nI i) 20 = true := om_in_nI (by omega) (by omega)
    have hcl : (nI i).toNatClampNeg = i := nI_clamp (by omega)
    have hlt : ¬ nI m ≤ nI i := nI_ge hi (by omega)
    have e' : M'.1 46 6 = nI m := by rw [hf.1 46 6 rfl, e466]
    have e4 : M'.1 49 i = M.1 4 i := by rw [hf.1 49 i rfl, (hBa.1 i hi).1]
    simp only [om_D_hasArrows_L4_body, om_D_hasArrows_b4, om_D_hasArrows_b26, om_D_hasArrows_b31, e', hlt, hin, hcl, if_false, cond_true, e4, og_nI1]
    cases c with
    | true =>
      refine .inl ⟨_, if_neg (by decide), true, rfl, ⟨fun _ => ?_, fun _ => rfl⟩⟩
      obtain ⟨k, h1, h2⟩ := hc.mp rfl
      exact ⟨k, by omega, h2⟩
    | false =>
      rw [if_pos (show om_bi false = 0 from rfl)]
      by_cases ht : M.1 4 i = nI q
      · exact .inl ⟨_, if_pos ht, true, rfl, ⟨fun _ => ⟨i, by omega, ht⟩, fun _ => rfl⟩⟩
      · refine .inl ⟨_, if_neg ht, false, rfl, ⟨fun h => (by cases h), fun ⟨k, h1, h2⟩ => ?_⟩⟩
        by_cases hki : k = i
        · subst hki; exact absurd h2 ht
        · exact hc.mpr ⟨k, by omega, h2⟩) (by
    rintro s ⟨c, rfl, hc⟩
    have e' : M'.1 46 6 = nI m := by rw [hf.1 46 6 rfl, e466]
    exact ⟨_, by simp only [om_D_hasArrows_L4_body, om_D_hasArrows_b4, e']; rw [if_pos Int32.le_rfl], c, rfl, hc⟩)
  refine ⟨c, ?_, hc⟩
  unfold om_D_hasArrows om_D_hasArrows_b0 om_D_hasArrows_L4
  rw [hz]
  simp only [Option.bind_some, om_nr_bi, cond_true]
theorem og_Dx_set {al : Nat → Int32} {q k : Nat} (hq : q < 8) {M' : om_M} (h1 : om_fr om_sc M M') (h2 : M'.1 46 18 = -1) (h3 : ∀ p, p < 8 → p ≠ q → M'.1 59 p = al p) : og_Dx M (og_seta al q (nI k)) (om_up M' 59 q (nI k)) := by
  refine ⟨om_fr_up h1 rfl, by simp [om_up_at, h2], fun p hp => ?_⟩
  unfold og_seta
  by_cases hpq : p = q
  · subst hpq; simp [om_up_at]
  · simp [om_up_at, hpq, h3 p hp hpq]
theorem og_D_inner (hB : om_Bd M n m) (hpl : pl < 2) {al : Nat → Int32} {q a : Nat} (hq : q < n) {M' : om_M} (hD : og_Dx M al M') (ha : a < m) (hat : M.1 4 a = nI q) (haT : og_T M m n pl D al q a) (hal : ∀ j, j < a → M.1 4 j = nI q → ¬ og_T M m n pl D al q j) (x1 : Int32) : ∃ M3, om_D_plan_L91 om_F (x1, nI pl, D, nI q, 0, 0, M') = some (x1, nI pl, D, nI q, M3) ∧ og_Dx M (og_seta al q (nI a)) M3 := by
  have ⟨⟨h8, h20, e10, e11, e462, e466⟩, hp, htt, hBa⟩ := hB
  obtain ⟨z, hz, M3, rfl, h3⟩ := om_lp (f := om_D_plan_L91_body om_F) (fun i s => ∃ M'', (i ≤ a ∧ s = (x1, nI pl, D, nI q, nI i, 0, M'') ∧ om_fr om_sc M M'' ∧ M''.1 46 18 = -1 ∧ ∀ p, p < 8 → p ≠ q → M''.1 59 p = al p) ∨ (i = a + 1 ∧ s = (x1, nI pl, D, nI q, nI i, 1, M'') ∧ og_Dx M (og_seta al q (nI a)) M'')) (fun z => ∃ M3, z = (x1, nI pl, D, nI q, M3) ∧ og_Dx M (og_seta al q (nI a)) M3) (a + 1) (F := om_F) (Nat.lt_of_le_of_lt (show a + 1 ≤ 20 by omega) (by decide)) (s := (x1, nI pl, D, nI q, 0, 0, M')) ⟨M', .inl ⟨by omega, rfl, hD.1, hD.2.1, fun p hp _ => hD.2.2 p hp⟩⟩ (by
    rintro i s hi ⟨M'', ⟨hia, rfl, g1, g2, g3⟩ | ⟨h, -⟩⟩
    rotate_left
    · omega
    have hin : om_in (nI i) 20 = true := om_in_nI (by omega) (by omega)
    have hcl : (nI i).toNatClampNeg = i := nI_clamp (by omega)
    have hin2 : om_in (nI q) 8 = true := om_in_nI (by omega) (by omega)
    have hcl2 : (nI q).toNatClampNeg = q := nI_clamp (by omega)
    have e4 : M''.1 49 i = M.1 4 i := by rw [g1.1 49 i rfl, (hBa.1 i (by omega)).1]
    simp only [om_D_plan_L91_body, om_D_plan_b91, om_D_plan_b134, om_D_plan_b136, hin, hcl, hin2, hcl2, if_true, cond_true, e4, og_nI1]
    by_cases ht : M.1 4 i = nI q
    · rw [if_pos ht]
      have hDx := og_Dx_set (M := M) (al := al) (k := i) (show q < 8 by omega) g1 g2 g3
      obtain ⟨R, M3, r1, r2, r3⟩ := og_wonByD hB hpl hDx
      rw [r1]
      simp only [Option.bind_some]
      by_cases hT : og_T M m n pl D al q i
      · have : i = a := by
          rcases Nat.lt_or_ge i a with h | h
          · exact absurd hT (hal i h ht)
          · omega
        subst this
        exact .inl ⟨_, if_pos ((og_Tdec h8 hpl r2).mpr hT), M3, .inr ⟨rfl, rfl, r3⟩⟩
      · have hne : i ≠ a := fun h => hT (h ▸ haT)
        refine .inl ⟨_, if_neg (fun h => hT ((og_Tdec h8 hpl r2).mp h)), M3, .inl ⟨by omega, rfl, r3.1, r3.2.1, fun p hp hpq => ?_⟩⟩
        rw [r3.2.2 p hp]
        unfold og_seta
        rw [if_neg hpq]
    · rw [if_neg ht]
      have hne : i ≠ a := fun h => ht (h ▸ hat)
      exact .inl ⟨_, rfl, M'', .inl ⟨by omega, rfl, g1, g2, g3⟩⟩) (by
    rintro s ⟨M'', ⟨hia, -⟩ | ⟨-, rfl, h⟩⟩
    · omega
    · exact ⟨_, by simp only [om_D_plan_L91_body, om_D_plan_b91]; rw [if_neg (by decide)], M'', rfl, h⟩)
  exact ⟨M3, hz, h3⟩
theorem og_D_planL (hB : om_Bd M n m) (hpl : pl < 2) (hD : og_Reg M m n pl (fun _ => -1) D) {p : Nat} (hp : p < n) {M' : om_M} (hDx : og_Dx M (fun _ => -1) M') : ∃ M3 al, om_D_plan_L45 om_F (nI p, nI pl, D, 0, M') = some (nI p, M3) ∧ og_Rch M m n pl D (p + 1) al ∧ og_Dx M al M3 := by
  have ⟨⟨h8, h20, e10, e11, e462, e466⟩, hBp, htt, hBa⟩ := hB
  obtain ⟨z, hz, M3, al, rfl, q1, q2⟩ := om_lp (f := om_D_plan_L45_body om_F) (fun i s => ∃ M'' al, s = (nI p, nI pl, D, nI i, M'') ∧ og_Rch M m n pl D i al ∧ (∀ R, og_Reg M m n pl al R → D &&& (R ^^^ (-1)) = 0) ∧ og_Dx M al M'') (fun z => ∃ M3 al, z = (nI p, M3) ∧ og_Rch M m n pl D (p + 1) al ∧ og_Dx M al M3) (p + 1) (F := om_F) (Nat.lt_of_le_of_lt (show p + 1 ≤ 8 by omega) (by decide)) (s := (nI p, nI pl, D, 0, M')) ⟨M', fun _ => -1, rfl, rfl, fun R hR => by rw [og_Reg_uniq h8 hpl hR hD]; exact og_less0.mpr fun p h => h, hDx⟩ (by
    rintro i s hi ⟨M'', al, rfl, g1, g2, g3⟩
    have hlt : ¬ nI p < nI i := nI_nlt (by omega) (by omega)
    have hin : om_in (nI i) 8 = true := om_in_nI (by omega) (by omega)
    have hcl : (nI i).toNatClampNeg = i := nI_clamp (by omega)
    have e47 : M''.1 47 i = nI pl ↔ og_mi (M.1 1 2) pl i = true := by rw [g3.1.1 47 i rfl]; exact og_hmi hBp hpl i (by omega)
    obtain ⟨al', s1, s2⟩ := og_St_ex hBa hBp h20 h8 hpl (show i < n by omega) (og_Rch_off g1 i (Nat.le_refl i)) g2
    obtain ⟨c, hc1, hc2⟩ := og_hasArrows hB g3.1 i
    simp only [om_D_plan_L45_body, om_D_plan_b45, om_D_plan_b89, om_D_plan_b142, hlt, hin, hcl, if_false, cond_true, e47, og_tst1 (show i < 32 by omega), hc1, Option.bind_some, og_nI1]
    by_cases hm : og_mi (M.1 1 2) pl i = true
    · rw [if_pos hm]
      cases hb : om_b D i with
      | false =>
        rw [if_neg (by decide)]
        exact .inl ⟨_, rfl, M'', al, rfl, ⟨al, g1, .inr ⟨fun h => (by have := h.2.1; unfold og_S at this; rw [hb] at this; cases this), rfl⟩⟩, g2, g3⟩
      | true =>
        rw [if_pos rfl]
        cases c with
        | false =>
          have hno : ¬ og_cond M m pl D i := fun h => by have := hc2.mpr h.2.2; cases this
          rw [if_pos (show om_bi false = 0 from rfl)]
          have : om_D_plan_L91 om_F (nI p, nI pl, D, nI i, 0, 1, M'') = some (nI p, nI pl, D, nI i, M'') := by
            unfold om_D_plan_L91
            show om_it (om_D_plan_L91_body om_F) (99999 + 1) _ = _
            refine om_it_r ?_
            simp only [om_D_plan_L91_body, om_D_plan_b91]
            rw [if_neg (by decide)]
          rw [this]
          exact .inl ⟨(nI p, nI pl, D, nI (i + 1), M''), by show some (Sum.inl (nI p, nI pl, D, nI i + 1, M'')) = _; rw [og_nI1], M'', al, rfl, ⟨al, g1, .inr ⟨hno, rfl⟩⟩, g2, g3⟩
        | true =>
          have hcd : og_cond M m pl D i := ⟨hm, hb, hc2.mp rfl⟩
          rw [if_neg (show ¬ om_bi true = 0 by decide)]
          rcases s1 with ⟨-, k, k1, k2, k3, k4, k5⟩ | ⟨h, -⟩
          · obtain ⟨M3, m1, m2⟩ := og_D_inner hB hpl (show i < n by omega) g3 k1 k2 k3 k4 (nI p)
            rw [m1]
            exact .inl ⟨(nI p, nI pl, D, nI (i + 1), M3), by show some (Sum.inl (nI p, nI pl, D, nI i + 1, M3)) = _; rw [og_nI1], M3, _, rfl, ⟨al, g1, .inl ⟨hcd, k, k1, k2, k3, k4, rfl⟩⟩, k3, m2⟩
          · exact absurd hcd h
    · rw [if_neg hm]
      exact .inl ⟨_, rfl, M'', al, rfl, ⟨al, g1, .inr ⟨fun h => hm h.1, rfl⟩⟩, g2, g3⟩) (by
    rintro s ⟨M'', al, rfl, g1, g2, g3⟩
    exact ⟨_, by simp only [om_D_plan_L45_body, om_D_plan_b45]; rw [if_pos (nI_lt (by omega) (by omega))], M'', al, rfl, g1, g3⟩)
  exact ⟨M3, al, hz, q1, q2⟩
end PC
theorem og_noneAlone (M : om_M) : ∃ M', om_D_noneAlone om_F M = some M' ∧ (∀ j, j < 8 → M'.1 59 j = -1) ∧ (∀ a j, a ≠ 59 → M'.1 a j = M.1 a j) ∧ M'.2 = M.2 := by
  obtain ⟨M', hz, q1, q2, q3⟩ := om_lp (f := om_D_noneAlone_L2_body om_F) (fun i s => ∃ M', s = (nI i, M') ∧ (∀ j, j < i → M'.1 59 j = -1) ∧ (∀ a j, a ≠ 59 → M'.1 a j = M.1 a j) ∧ M'.2 = M.2) (fun M' : om_M => (∀ j, j < 8 → M'.1 59 j = -1) ∧ (∀ a j, a ≠ 59 → M'.1 a j = M.1 a j) ∧ M'.2 = M.2) 8 (F := om_F) (by decide) (s := (0, M)) ⟨M, rfl, fun j hj => absurd hj (by omega), fun _ _ _ => rfl, rfl⟩ (by
    rintro i s hi ⟨M', rfl, g1, g2, g3⟩
    have hin : om_in (nI i) 8 = true := om_in_nI (by omega) (by omega)
    have hcl : (nI i).toNatClampNeg = i := nI_clamp (by omega)
    have hlt : ¬ (8 : Int32) ≤ nI i := nI_ge (b := 8) hi (by omega)
    refine .inl ⟨(nI (i + 1), om_up M' 59 i (-1)), by simp only [om_D_noneAlone_L2_body, om_D_noneAlone_b2, hlt, hin, hcl, if_false, cond_true, og_nI1], _, rfl, fun j hj => ?_, fun a j ha => by simp [om_up_at, ha, g2 a j ha], g3⟩
    by_cases hji : j = i
    · subst hji; simp [om_up_at]
    · simp [om_up_at, hji, g1 j (by omega)]) (by
    rintro s ⟨M', rfl, g⟩
    exact ⟨_, by simp only [om_D_noneAlone_L2_body, om_D_noneAlone_b2]; rw [if_pos (by decide)], g⟩)
  refine ⟨M', ?_, q1, q2, q3⟩
  unfold om_D_noneAlone om_D_noneAlone_b0 om_D_noneAlone_L2
  rw [hz]; rfl
theorem og_k12 {M : om_M} (h : om_Inv M) : om_ok12 om_Inv M := by
  have hI := h
  obtain ⟨n, m, L, hB, hT, hQ, hA⟩ := h
  have ⟨⟨h8, h20, e10, e11, e462, e466⟩, hp, ht, hBa⟩ := hB
  intro x0
  show om_ok om_Inv _ _ M
  cases hpp : om_pp n x0 with
  | false => exact ⟨-2, M, M, by simp [om_C_plan, om_C_plan_b0, om_C_isPlace_eq om_F x0 M e10, hpp, om_bi], by simp [om_D_plan, om_D_plan_b0, om_D_isPlace_eq om_F x0 M h8 e462, hpp, om_bi], hI⟩
  | true =>
  obtain ⟨p, hp0, rfl⟩ := om_pp_of (by omega) hpp
  obtain ⟨M1, a1, a2, a3, a4, a5⟩ := og_both0 hB hA
  have hs1 := og_sc_pv a2
  -- whose it is
  obtain ⟨pl, hpl, hown, hown2⟩ : ∃ pl, pl < 2 ∧ (if om_b (M.1 1 2) p = true then (0 : Int32) else 1) = nI pl ∧ og_mi (M.1 1 2) pl p = true := by
    cases hb : om_b (M.1 1 2) p with
    | true => exact ⟨0, by omega, rfl, hb⟩
    | false => exact ⟨1, by omega, rfl, by show (!om_b (M.1 1 2) p) = true; rw [hb]; rfl⟩
  have hCx : og_Cx M n m (fun _ => -1) M1 := by
    refine ⟨a2, a3.1, a4, fun q hq => ?_⟩
    obtain ⟨-, s, -, -, -, -, h4⟩ := a3
    refine om_ext fun r _ => Bool.eq_iff_iff.mpr ?_
    have h5 := og_Nal_S (M := M) (m := m) (n := n) h8 (al := fun _ => -1) (p := q) (r := r)
    unfold og_S at h5
    rw [h4 q hq r, h5]
    have hU : ∀ k, k < m → (True ↔ og_Ual M (fun _ => -1) k) := fun k _ => ⟨fun _ _ _ _ => .inl rfl, fun _ => trivial⟩
    constructor
    · rintro ⟨h1, w, h2⟩; exact ⟨h1, w, (og_E_fr om_fr_rfl hU q r w).mpr h2⟩
    · rintro ⟨h1, w, h2⟩; exact ⟨h1, w, (og_E_fr om_fr_rfl hU q r w).mp h2⟩
  obtain ⟨D, b1, b2⟩ := og_wonByC hB hpl hCx
  obtain ⟨r, M3, al, c1, c2, c3, c4, c5⟩ := og_C_planL hB hpl b2 hp0 hCx
  have hC : om_C_plan om_F (nI p) M = some (r, M3) := by
    have e12 : M1.1 1 2 = M.1 1 2 := hs1.1 1 2 rfl
    simp only [om_C_plan, om_C_plan_b0, om_C_isPlace_eq om_F (nI p) M e10, hpp, om_bi, Option.bind_some, cond_true, show ¬ (1 : Int32) = 0 by decide, if_false, a1, og_ownerOf om_F (show p < 32 by omega), e12, hown, b1, c1]
  have hs3 := og_sc_pv c3
  have hA3 : om_Al M3 := og_Al_fr hA (fun j => c3.1 59 j rfl) (c3.1 46 18 rfl)
  have hDx : og_Dx M (fun _ => -1) M3 := ⟨hs3, hA3.2, fun q hq => hA3.1 q hq⟩
  obtain ⟨D', M4, d1, d2, d3⟩ := og_wonByD hB hpl hDx
  have := og_Reg_uniq h8 hpl d2 b2
  subst this
  have e2 : M3.1 46 2 = nI n := by rw [hs3.1 46 2 rfl, e462]
  have hin : om_in (nI p) 8 = true := om_in_nI (by omega) (by omega)
  have hcl : (nI p).toNatClampNeg = p := nI_clamp (by omega)
  have e47 : M3.1 47 p = nI pl := by rw [hs3.1 47 p rfl]; exact (og_hmi hp hpl p hp0).mpr hown2
  obtain ⟨c, hc1, hc2⟩ := og_hasArrows hB d3.1 p
  have hInv4 : om_Inv M4 := om_Inv_fr hB hT hQ d3.1 ⟨fun j hj => d3.2.2 j hj, d3.2.1⟩
  have hstart : om_D_plan om_F (nI p) M3 = (if ((D' >>> (nI p &&& 31)) &&& 1) = 0 then om_D_plan_b40 om_F M4 else (if om_bi c = 0 then om_D_plan_b40 om_F M4 else (om_D_plan_L45 om_F (nI p, nI pl, D', 0, M4)).bind fun z4 => (bif om_in z4.1 8 then (om_D_noneAlone om_F z4.2).bind (fun q_5 => some (z4.2.1 59 (z4.1).toNatClampNeg, q_5)) else none))) := by
    simp only [om_D_plan, om_D_plan_b0, om_D_isPlace_eq om_F (nI p) M3 h8 e2, hpp, om_bi, Option.bind_some, cond_true, show ¬ (1 : Int32) = 0 by decide, if_false, hin, hcl, e47, d1, hc1]
    rfl
  cases hb : om_b D' p with
  | false =>
    have hno : ¬ og_cond M m pl D' p := fun h => by have := h.2.1; unfold og_S at this; rw [hb] at this; cases this
    refine ⟨-1, M3, M4, by rw [← c5 hno]; exact hC, ?_, hInv4⟩
    show om_D_plan om_F (nI p) M3 = _
    rw [hstart, if_pos ((om_tst (show p < 32 by omega) _).mpr hb)]
    rfl
  | true =>
    have hnz : ¬ ((D' >>> (nI p &&& 31)) &&& 1) = 0 := fun h => by rw [(om_tst (show p < 32 by omega) _).mp h] at hb; cases hb
    cases c with
    | false =>
      have hno : ¬ og_cond M m pl D' p := fun h => by have := hc2.mpr h.2.2; cases this
      refine ⟨-1, M3, M4, by rw [← c5 hno]; exact hC, ?_, hInv4⟩
      show om_D_plan om_F (nI p) M3 = _
      rw [hstart, if_neg hnz, if_pos (show om_bi false = 0 from rfl)]
      rfl
    | true =>
      have hcd : og_cond M m pl D' p := ⟨hown2, hb, hc2.mp rfl⟩
      obtain ⟨M5, al', f1, f2, f3⟩ := og_D_planL hB hpl b2 hp0 d3
      have := og_Rch_uniq f2 c2
      subst this
      obtain ⟨M6, g1, g2, g3, g4⟩ := og_noneAlone M5
      refine ⟨r, M3, M6, hC, ?_, om_Inv_fr hB hT hQ (om_fr_tr f3.1 ⟨fun a j h => ?_, g4⟩) ⟨g2, by rw [g3 46 18 (by decide)]; exact f3.2.1⟩⟩
      · show om_D_plan om_F (nI p) M3 = _
        rw [hstart, if_neg hnz, if_neg (show ¬ om_bi true = 0 by decide), f1]
        simp only [Option.bind_some, hin, cond_true, g1, hcl, f3.2.2 p (show p < 8 by omega), c4 hcd]
      · by_cases ha : a = 59
        · subst ha; cases h
        · exact g3 a j ha
