/-! ===== the calls fault and ask ===== -/
section FA
variable {M : om_M} {n m L qa qd : Nat} {bt : Nat → Nat}
theorem og_bytes (hT : om_Tx M L) : ∃ bt : Nat → Nat, (∀ i, bt i < 256) ∧ og_TC L bt M ∧ og_TD L bt M := by
  obtain ⟨h1, h2, h3, h4⟩ := hT
  have hex : ∀ i, ∃ v, v < 256 ∧ (i < L → M.1 29 i = nI v) := fun i => by
    by_cases hi : i < L
    · obtain ⟨-, c, h5, h6⟩ := h4 i hi
      exact ⟨c, h5, fun _ => h6⟩
    · exact ⟨0, by omega, fun h => absurd h hi⟩
  obtain ⟨bt, hbt⟩ := Classical.skolem.mp hex
  exact ⟨bt, fun i => (hbt i).1, ⟨h2, fun i hi => (hbt i).2 hi⟩, ⟨h3, fun i hi => by rw [(h4 i hi).1]; exact (hbt i).2 hi⟩⟩
/-- cells that reading a text leaves -/
def og_lv (qd a j : Nat) : Prop := ¬ (a = 28 ∧ 2 ≤ j ∧ j ≤ 6) ∧ ¬ (qd ≤ a ∧ a ≤ qd + 7) ∧ ¬ (a = 46 ∧ (j = 14 ∨ (29 ≤ j ∧ j ≤ 32) ∨ j = 34 ∨ j = 35)) ∧ ¬ (54 ≤ a ∧ a ≤ 57 ∧ j < 120) ∧ a ≠ 67
theorem og_k23 {M : om_M} (h : om_Inv M) : om_ok23 om_Inv M := by
  obtain ⟨n, m, L, hB, hT, hQ, hA⟩ := h
  have ⟨⟨h8, h20, e10, e11, e462, e466⟩, hp, ht, hBa⟩ := hB
  obtain ⟨qa, qd, s, c, d, hqq, e5, e6, hs, f6, f15, hr, f0, hsd⟩ := hQ
  have hq : qd = 30 ∨ qd = 38 := by omega
  obtain ⟨bt, hbt, hTC, hTD⟩ := og_bytes hT
  obtain ⟨r, C', D1, a1, a2, a3, a4, -⟩ := og_parse hq h8 hT.1 hbt hTC hTD e462
  have hC' : ∀ a j, ¬ (a = 28 ∧ 2 ≤ j ∧ j ≤ 6) → ¬ (qd ≤ a ∧ a ≤ qd + 7) → C'.1 a j = M.1 a j := fun a j h1 h2 => by rw [a3.1 a j h1 h2, og_stC_at hq h1 h2]
  obtain ⟨r2, C2, D2, b1, b2, b3, b4, -⟩ := og_parse hq h8 hT.1 hbt hTC (D0 := C') ⟨by rw [hC' 46 9 (by omega) (by omega)]; exact hTD.1, fun i hi => by rw [hC' 53 i (by omega) (by omega)]; exact hTD.2 i hi⟩ (by rw [hC' 46 2 (by omega) (by omega)]; exact e462)
  rw [a1] at b1
  have e1 := Option.some.inj b1
  have er : r = r2 := congrArg Prod.fst e1
  subst er
  have hcell : ∀ a j, og_lv qd a j → D2.1 a j = M.1 a j := fun a j ⟨h1, h2, h3, h4, h5⟩ => by
    rw [b4.1 a j h3 h4 h5, og_stD_at h3, hC' a j h1 h2]
  have href : ∀ b k, b ≠ 28 → D2.2 b k = M.2 b k := fun b k hb => by
    rw [b4.2]
    show C'.2 b k = _
    rw [a3.2]
    show (if b = 28 then _ else M.2 b k) = _
    rw [if_neg hb]
  refine ⟨r, C', D2, ?_, b2, n, m, L, om_Bd_eq hB (fun a j ha => hcell a j ⟨by omega, by omega, by omega, by omega, by omega⟩), ⟨hT.1, by rw [hcell 28 0 ⟨by omega, by omega, by omega, by omega, by omega⟩]; exact hT.2.1, by rw [hcell 46 9 ⟨by omega, by omega, by omega, by omega, by omega⟩]; exact hT.2.2.1, fun i hi => by rw [hcell 53 i ⟨by omega, by omega, by omega, by omega, by omega⟩, hcell 29 i ⟨by omega, by omega, by omega, by omega, by omega⟩]; exact hT.2.2.2 i hi⟩, ⟨qa, qd, s, c, d, hqq, by rw [href 0 5 (by decide)]; exact e5, by rw [href 0 6 (by decide)]; exact e6, hs, by rw [hcell qa 6 ⟨by omega, by omega, by omega, by omega, by omega⟩]; exact f6, by rw [hcell 46 15 ⟨by omega, by omega, by omega, by omega, by omega⟩]; exact f15, ⟨hr.1, hr.2.1, fun i hi => om_Qc_eq (hr.2.2 i hi) (fun k j h1 h2 => hcell (qa + k) j ⟨by omega, by omega, by omega, by omega, by omega⟩) (fun a h1 h2 => hcell a (120 + i) ⟨by omega, by omega, by omega, by omega, by omega⟩)⟩, by rw [hcell qa 0 ⟨by omega, by omega, by omega, by omega, by omega⟩]; exact f0, hsd⟩, fun j hj => by rw [hcell 59 j ⟨by omega, by omega, by omega, by omega, by omega⟩]; exact hA.1 j hj, by rw [hcell 46 18 ⟨by omega, by omega, by omega, by omega, by omega⟩]; exact hA.2⟩
  show om_C_fault om_F M = _
  unfold om_C_fault om_C_fault_b0
  rw [e6, e10]
  simp only [Option.bind_some, a1]
theorem og_copy {D : om_M} {R : Nat} (hR : R ≤ 120) (h14 : D.1 46 14 = nI R) : ∃ Z, om_D_ask_L13 om_F (0, D) = some Z ∧ (∀ a i, 54 ≤ a → a ≤ 57 → i < R → Z.1 a (120 + i) = D.1 a i) ∧ (∀ a j, ¬ (54 ≤ a ∧ a ≤ 57 ∧ 120 ≤ j) → Z.1 a j = D.1 a j) ∧ Z.2 = D.2 := by
  obtain ⟨Z, hz, q1, q2, q3⟩ := om_lp (f := om_D_ask_L13_body om_F) (fun i st => ∃ Z, st = (nI i, Z) ∧ (∀ a l, 54 ≤ a → a ≤ 57 → l < i → Z.1 a (120 + l) = D.1 a l) ∧ (∀ a j, ¬ (54 ≤ a ∧ a ≤ 57 ∧ 120 ≤ j) → Z.1 a j = D.1 a j) ∧ Z.2 = D.2) (fun Z : om_M => (∀ a i, 54 ≤ a → a ≤ 57 → i < R → Z.1 a (120 + i) = D.1 a i) ∧ (∀ a j, ¬ (54 ≤ a ∧ a ≤ 57 ∧ 120 ≤ j) → Z.1 a j = D.1 a j) ∧ Z.2 = D.2) R (F := om_F) (Nat.lt_of_le_of_lt hR (by decide)) (s := (0, D)) ⟨D, rfl, fun a l h1 h2 h3 => absurd h3 (Nat.not_lt_zero _), fun _ _ _ => rfl, rfl⟩ (by
    rintro i st hi ⟨Z, rfl, g1, g2, g3⟩
    have hlt : ¬ nI R ≤ nI i := nI_ge hi (by omega)
    have e14 : Z.1 46 14 = nI R := by rw [g2 46 14 (by omega)]; exact h14
    have hin : om_in (nI i) 240 = true := om_in_nI (by omega) (by omega)
    have hcl : (nI i).toNatClampNeg = i := nI_clamp (by omega)
    have hadd : (120 : Int32) + nI i = nI (120 + i) := by rw [og_n120, nI_add]
    have hin2 : om_in (nI (120 + i)) 240 = true := om_in_nI (by omega) (by omega)
    have hcl2 : (nI (120 + i)).toNatClampNeg = 120 + i := nI_clamp (by omega)
    have hat : ∀ a j, (om_up (om_up (om_up (om_up Z 54 (120 + i) (Z.1 54 i)) 55 (120 + i) (Z.1 55 i)) 56 (120 + i) (Z.1 56 i)) 57 (120 + i) (Z.1 57 i)).1 a j = if 54 ≤ a ∧ a ≤ 57 ∧ j = 120 + i then Z.1 a i else Z.1 a j := fun a j => by
      simp only [om_up_at]
      by_cases h57 : a = 57
      · subst h57
        by_cases hj : j = 120 + i <;> simp [hj]
      · by_cases h56 : a = 56
        · subst h56
          by_cases hj : j = 120 + i <;> simp [hj]
        · by_cases h55 : a = 55
          · subst h55
            by_cases hj : j = 120 + i <;> simp [hj]
          · by_cases h54 : a = 54
            · subst h54
              by_cases hj : j = 120 + i <;> simp [hj]
            · rw [if_neg h57, if_neg h56, if_neg h55, if_neg h54, if_neg (by omega)]
    have r1 : (om_up Z 54 (120 + i) (Z.1 54 i)).1 55 i = Z.1 55 i := by rw [om_up_at, if_neg (by decide)]
    have r2 : (om_up (om_up Z 54 (120 + i) (Z.1 54 i)) 55 (120 + i) (Z.1 55 i)).1 56 i = Z.1 56 i := by rw [om_up_at, if_neg (by decide), om_up_at, if_neg (by decide)]
    have r3 : (om_up (om_up (om_up Z 54 (120 + i) (Z.1 54 i)) 55 (120 + i) (Z.1 55 i)) 56 (120 + i) (Z.1 56 i)).1 57 i = Z.1 57 i := by rw [om_up_at, if_neg (by decide), om_up_at, if_neg (by decide), om_up_at, if_neg (by decide)]
    refine .inl ⟨(nI (i + 1), om_up (om_up (om_up (om_up Z 54 (120 + i) (Z.1 54 i)) 55 (120 + i) (Z.1 55 i)) 56 (120 + i) (Z.1 56 i)) 57 (120 + i) (Z.1 57 i)), ?_, _, rfl, fun a l h1 h2 h3 => ?_, fun a j hx => ?_, g3⟩
    · simp only [om_D_ask_L13_body, om_D_ask_b13, e14, hlt, if_false, hin, hcl, hadd, hin2, hcl2, cond_true, r1, r2, r3, og_nI1]
    · rw [hat]
      by_cases hl : l = i
      · subst hl
        rw [if_pos ⟨h1, h2, rfl⟩]; exact g2 a l (by omega)
      · rw [if_neg (by omega)]; exact g1 a l h1 h2 (by omega)
    · rw [hat, if_neg (by omega)]; exact g2 a j hx) (by
    rintro st ⟨Z, rfl, g1, g2, g3⟩
    have e14 : Z.1 46 14 = nI R := by rw [g2 46 14 (by omega)]; exact h14
    exact ⟨Z, by simp only [om_D_ask_L13_body, om_D_ask_b13, e14]; rw [if_pos Int32.le_rfl], g1, g2, g3⟩)
  exact ⟨Z, hz, q1, q2, q3⟩
theorem og_Qr_shift {X Y : om_M} {q R : Nat} {c d : Nat → Nat} (h : om_Qr X n q 0 R c d) (hq : ∀ k j, 1 ≤ k → k ≤ 6 → Y.1 (q + k) j = X.1 (q + k) j) (hm : ∀ a i, 54 ≤ a → a ≤ 57 → i < R → Y.1 a (120 + i) = X.1 a i) : om_Qr Y n q 120 R c d := by
  refine ⟨h.1, h.2.1, fun i hi => ?_⟩
  have h1 := h.2.2 i hi
  unfold om_Qc om_Qu at h1 ⊢
  rw [hq 6 i (by omega) (by omega), hq 1 _ (by omega) (by omega), hq 2 _ (by omega) (by omega), hq 3 _ (by omega) (by omega), hq 4 _ (by omega) (by omega), hq 5 _ (by omega) (by omega), hm 54 i (by omega) (by omega) hi, hm 55 i (by omega) (by omega) hi, hm 56 i (by omega) (by omega) hi, hm 57 i (by omega) (by omega) hi]
  rw [Nat.zero_add] at h1
  exact h1
theorem og_k24 {M : om_M} (h : om_Inv M) : om_ok24 om_Inv M := by
  obtain ⟨n, m, L, hB, hT, hQ, hA⟩ := h
  have ⟨⟨h8, h20, e10, e11, e462, e466⟩, hp, ht, hBa⟩ := hB
  obtain ⟨qa, qd, s, c, d, hqq, e5, e6, hs, f6, f15, hr, f0, hsd⟩ := hQ
  have hq : qd = 30 ∨ qd = 38 := by omega
  have hqa : qa = 30 ∨ qa = 38 := by omega
  obtain ⟨bt, hbt, hTC, hTD⟩ := og_bytes hT
  obtain ⟨r, C', D1, a1, a2, a3, a4, a5⟩ := og_parse hq h8 hT.1 hbt hTC hTD e462
  have hC' : ∀ a j, ¬ (a = 28 ∧ 2 ≤ j ∧ j ≤ 6) → ¬ (qd ≤ a ∧ a ≤ qd + 7) → C'.1 a j = M.1 a j := fun a j h1 h2 => by rw [a3.1 a j h1 h2, og_stC_at hq h1 h2]
  have href : ∀ b k, b ≠ 28 → C'.2 b k = M.2 b k := fun b k hb => by
    rw [a3.2]
    show (if b = 28 then _ else M.2 b k) = _
    rw [if_neg hb]
  by_cases hrn : r = -1
  · subst hrn
    obtain ⟨R0, u0, cf0, df0, hR0, q1, q2, q3, c6, c0, d14⟩ := a5 rfl
    -- the class's state in which it asks
    obtain ⟨E, hE⟩ : ∃ E, E = om_up (om_up (om_up (om_up (om_up (om_upR (om_upR C' 0 5 qd) 0 6 qa) qa 0 0) qa 6 0) qa 8 0) qa 10 0) 28 0 0 := ⟨_, rfl⟩
    have hEc : ∀ a j, ¬ (a = qa ∧ (j = 0 ∨ j = 6 ∨ j = 8 ∨ j = 10)) → ¬ (a = 28 ∧ j = 0) → E.1 a j = C'.1 a j := fun a j h1 h2 => by
      rw [hE, om_up_at]
      by_cases h28 : a = 28
      · rw [if_pos h28, if_neg (fun hj => h2 ⟨h28, hj⟩), om_up_at, if_neg (by omega), om_up_at, if_neg (by omega), om_up_at, if_neg (by omega), om_up_at, if_neg (by omega)]; rfl
      · rw [if_neg h28, om_up_at]
        by_cases hqa' : a = qa
        · rw [if_pos hqa', if_neg (fun hj => h1 ⟨hqa', by omega⟩), om_up_at, if_pos hqa', if_neg (fun hj => h1 ⟨hqa', by omega⟩), om_up_at, if_pos hqa', if_neg (fun hj => h1 ⟨hqa', by omega⟩), om_up_at, if_pos hqa', if_neg (fun hj => h1 ⟨hqa', by omega⟩)]; rfl
        · rw [if_neg hqa', om_up_at, if_neg hqa', om_up_at, if_neg hqa', om_up_at, if_neg hqa']; rfl
    have hE2 : E.2 0 5 = some qd ∧ E.2 0 6 = some qa := by rw [hE]; exact ⟨rfl, rfl⟩
    have hE28 : E.1 28 0 = 0 := by rw [hE, om_up_at, if_pos rfl, if_pos rfl]
    have hCask : ∀ X t, om_Q_isTrue om_F qd (-1) 0 E = some (om_bi t, X) → om_C_ask om_F M = some (om_bi t, X) := by
      intro X t hX
      have hclr : om_Q_clear om_F qa (om_upR (om_upR C' 0 5 qd) 0 6 qa) = some (om_up (om_up (om_up (om_up (om_upR (om_upR C' 0 5 qd) 0 6 qa) qa 0 0) qa 6 0) qa 8 0) qa 10 0) := by
        unfold om_Q_clear om_Q_clear_b0
        simp only [og_qa1 hqa, cond_true]
      rw [hE] at hX
      unfold om_C_ask om_C_ask_b0
      rw [e6, e10]
      simp only [Option.bind_some, a1]
      rw [if_pos trivial, href 0 5 (by decide), href 0 6 (by decide), e5, e6]
      simp only [Option.bind_some]
      show (bif om_obj qa 4 then (om_Q_clear om_F qa (om_upR (om_upR C' 0 5 qd) 0 6 qa)).bind _ else none) = _
      rw [og_qa1 hqa, cond_true, hclr]
      simp only [Option.bind_some]
      show (bif om_obj qd 4 then (om_Q_isTrue om_F qd (-1) 0 _).bind _ else none) = _
      rw [og_qa1 hq, cond_true, hX]
      simp only [Option.bind_some, om_C_ask_b87]
      cases t
      · rw [if_pos (show om_bi false = 0 from rfl)]; rfl
      · rw [if_neg (show ¬ om_bi true = 0 by decide)]; rfl
    -- what the model's rows give
    have key : ∀ B D : om_M, (∀ a j, 46 ≤ a → B.1 a j = M.1 a j) → og_gD (og_stD B) D → (∃ R u cf df, R ≤ 120 ∧ om_Qr (og_mix C' D) n qd 0 R cf df ∧ cf R = u ∧ df R = 1 ∧ C'.1 qd 6 = nI R ∧ C'.1 qd 0 = nI u ∧ D.1 46 14 = nI R) → ∃ Z D3 R cf df, om_D_ask_L13 om_F (0, D) = some Z ∧ D3 = om_up (om_up Z 46 15 (Z.1 46 14)) 46 9 0 ∧ R ≤ 120 ∧ om_Bd (og_mix E D3) n m ∧ (og_mix E D3).1 qd 6 = nI R ∧ (og_mix E D3).1 46 15 = nI R ∧ om_Qr (og_mix E D3) n qd 120 R cf df ∧ df R = 1 ∧ E.1 qd 0 = nI (cf R) ∧ D3.2 = B.2 ∧ (∀ a j, a < 46 → D3.1 a j = B.1 a j) ∧ D3.1 46 9 = 0 ∧ D3.1 46 18 = -1 ∧ (∀ j, j < 8 → D3.1 59 j = -1) ∧ ∀ a j, (a = 46 ∧ (j = 2 ∨ j = 6)) ∨ (47 ≤ a ∧ a ≤ 52) → D3.1 a j = M.1 a j := by
      rintro B D hBM hgD ⟨R, u, cf, df, hR, y1, y2, y3, y4, y5, y6⟩
      obtain ⟨Z, z1, z2, z3, z4⟩ := og_copy hR y6
      have hZ14 : Z.1 46 14 = nI R := by rw [z3 46 14 (by omega)]; exact y6
      have hD3 : ∀ a j, ¬ (a = 46 ∧ (j = 15 ∨ j = 9)) → (om_up (om_up Z 46 15 (Z.1 46 14)) 46 9 0).1 a j = Z.1 a j := fun a j hx => by
        rw [om_up_at]
        by_cases h46 : a = 46
        · rw [if_pos h46, if_neg (fun hj => hx ⟨h46, .inr hj⟩), om_up_at, if_pos h46, if_neg (fun hj => hx ⟨h46, .inl hj⟩)]
        · rw [if_neg h46, om_up_at, if_neg h46]
      have hDB : ∀ a j, ¬ (a = 46 ∧ (j = 14 ∨ (29 ≤ j ∧ j ≤ 32) ∨ j = 34 ∨ j = 35)) → ¬ (54 ≤ a ∧ a ≤ 57) → a ≠ 67 → D.1 a j = B.1 a j := fun a j h1 h2 h3 => by rw [hgD.1 a j h1 (fun hx => h2 ⟨hx.1, hx.2.1⟩) h3, og_stD_at h1]
      have hall : ∀ a j, ¬ (a = 46 ∧ (j = 15 ∨ j = 9 ∨ j = 14 ∨ (29 ≤ j ∧ j ≤ 32) ∨ j = 34 ∨ j = 35)) → ¬ (54 ≤ a ∧ a ≤ 57) → a ≠ 67 → (om_up (om_up Z 46 15 (Z.1 46 14)) 46 9 0).1 a j = B.1 a j := fun a j h1 h2 h3 => by
        rw [hD3 a j (fun hx => h1 ⟨hx.1, by omega⟩), z3 a j (by omega)]
        exact hDB a j (fun hx => h1 ⟨hx.1, by omega⟩) h2 h3
      have hq6 : E.1 qd 6 = nI R := by rw [hEc qd 6 (by omega) (by omega)]; exact y4
      refine ⟨Z, _, R, cf, df, z1, rfl, hR, om_Bd_eq hB (fun a j ha => ?_), by rw [og_mix_lo (by omega)]; exact hq6, by rw [og_mix_hi (by omega), om_up_at, if_pos rfl, if_neg (by decide), om_up_at, if_pos rfl, if_pos rfl]; exact hZ14, og_Qr_shift y1 (fun k j h1 h2 => ?_) (fun a i h1 h2 h3 => ?_), y3, by rw [hEc qd 0 (by omega) (by omega), y5, y2], ?_, fun a j ha => hall a j (by omega) (by omega) (by omega), by rw [om_up_at, if_pos rfl, if_pos rfl], by rw [hall 46 18 (by omega) (by omega) (by omega), hBM 46 18 (by omega)]; exact hA.2, fun j hj => by rw [hall 59 j (by omega) (by omega) (by omega), hBM 59 j (by omega)]; exact hA.1 j hj, fun a j ha => by rw [hall a j (by omega) (by omega) (by omega), hBM a j (by omega)]⟩
      · by_cases h46 : a < 46
        · rw [og_mix_lo h46, hEc a j (by omega) (by omega), hC' a j (by omega) (by omega)]
        · rw [og_mix_hi (by omega), hall a j (by omega) (by omega) (by omega), hBM a j (by omega)]
      · rw [og_mix_lo (by omega), og_mix_lo (by omega), hEc _ _ (by omega) (by omega)]
      · rw [og_mix_hi (by omega), og_mix_hi (by omega), hD3 a _ (by omega), z2 a i h1 h2 h3]
      · show Z.2 = _
        rw [z4, hgD.2]; rfl
    -- the class's answer, by the rows of a first run of the model
    obtain ⟨Z1, D31, R1, cf1, df1, k1, k2, k3, k4, k5, k6, k7, k8, k9, k10, k11, k12, k13, k14, k15⟩ := key M D1 (fun _ _ _ => rfl) a4 ⟨R0, u0, cf0, df0, hR0, q1, q2, q3, c6, c0, d14⟩
    obtain ⟨t, g1, -⟩ := og_now2 k4 hq k3 k5 k6 k7 k8 (-1) 0
    have hEM : ∀ a j, 46 ≤ a → E.1 a j = M.1 a j := fun a j ha => by rw [hEc a j (by omega) (by omega), hC' a j (by omega) (by omega)]
    have hfr2 : ∀ D3 : om_M, (∀ a j, (a = 46 ∧ (j = 2 ∨ j = 6)) ∨ (47 ≤ a ∧ a ≤ 52) → D3.1 a j = M.1 a j) → og_fr2 (og_mix E D3) E := fun D3 hD3 a j ha _ => by
      by_cases h46 : a < 46
      · rw [og_mix_lo h46]
      · rw [og_mix_hi (by omega), hD3 a j (by omega), hEM a j (by omega)]
    obtain ⟨X, x1, x2⟩ := g1 E (hfr2 D31 k15)
    have hXE : ∀ a j, om_sc a j = false → X.1 a j = E.1 a j := fun a j ha => x2.1 a j (og_pC_sc ha)
    have hXM : ∀ a j, 46 ≤ a → X.1 a j = M.1 a j := fun a j ha => by
      rw [x2.1 a j (by
        unfold og_pC
        cases hb : Nat.ble a 27 with
        | false => simp
        | true => have := Nat.le_of_ble_eq_true hb; omega)]
      exact hEM a j ha
    obtain ⟨r2, C2, D2, b1, b2, b3, b4, b5⟩ := og_parse hq h8 hT.1 hbt hTC (D0 := X) ⟨by rw [hXM 46 9 (by omega)]; exact hTD.1, fun i hi => by rw [hXM 53 i (by omega)]; exact hTD.2 i hi⟩ (by rw [hXM 46 2 (by omega)]; exact e462)
    rw [a1] at b1
    have ee := Option.some.inj b1
    have er : (-1 : Int32) = r2 := congrArg Prod.fst ee
    have eC : C' = C2 := congrArg Prod.snd ee
    subst er; subst eC
    obtain ⟨Z2, D32, R2, cf2, df2, l1, l2, l3, l4, l5, l6, l7, l8, l9, l10, l11, l12, l13, l14, l15⟩ := key X D2 hXM b4 (b5 rfl)
    obtain ⟨t', g1', g2'⟩ := og_now2 l4 hq l3 l5 l6 l7 l8 (-1) 0
    obtain ⟨X', y1, -⟩ := g1' E (hfr2 D32 l15)
    rw [x1] at y1
    have ht' : t = t' := og_bi_inj.mp (congrArg Prod.fst (Option.some.inj y1))
    subst ht'
    have hD32 : ∀ a j, om_sc a j = false → D32.1 a j = (og_mix E D32).1 a j := fun a j ha => by
      by_cases h46 : a < 46
      · rw [og_mix_lo h46, l11 a j h46, hXE a j ha]
      · rw [og_mix_hi (by omega)]
    have hFD : og_FD (og_mix E D32) n (-1) 0 D32 := ⟨fun b j hb _ => hD32 b j hb, by rw [l10, x2.2]; rfl, fun p => by
      rw [og_mix_hi (by omega)]
      by_cases hpn : p < n
      · rw [if_pos hpn, og_sh0 (by omega), Int32.xor_zero]
      · rw [if_neg hpn], l13, l14⟩
    obtain ⟨D4, v1, v2⟩ := g2' D32 hFD
    have hD4 : ∀ a j, om_sc a j = false → D4.1 a j = (og_mix E D32).1 a j := fun a j ha => by rw [v2.1 a j (og_pE_sc ha)]; exact hD32 a j ha
    have hsc45 : ∀ a j, 30 ≤ a → a ≤ 45 → om_sc a j = false := fun a j h1 h2 => by
      have : a = 30 ∨ a = 31 ∨ a = 32 ∨ a = 33 ∨ a = 34 ∨ a = 35 ∨ a = 36 ∨ a = 37 ∨ a = 38 ∨ a = 39 ∨ a = 40 ∨ a = 41 ∨ a = 42 ∨ a = 43 ∨ a = 44 ∨ a = 45 := by omega
      rcases this with rfl | rfl | rfl | rfl | rfl | rfl | rfl | rfl | rfl | rfl | rfl | rfl | rfl | rfl | rfl | rfl <;> rfl
    have hrefs : D4.2 = E.2 := by rw [v2.2, l10, x2.2]
    refine ⟨om_bi t, X, D4, hCask X t x1, ?_, n, m, 0, om_Bd_eq l4 (fun a j ha => hD4 a j (og_sc_bd ha)), ⟨by omega, by rw [hD4 28 0 rfl, og_mix_lo (by omega), hE28]; rfl, by rw [hD4 46 9 rfl, og_mix_hi (by omega), l12]; rfl, fun i hi => absurd hi (Nat.not_lt_zero _)⟩, ⟨qd, qa, R2, cf2, df2, by omega, by rw [hrefs]; exact hE2.1, by rw [hrefs]; exact hE2.2, l3, by rw [hD4 qd 6 (hsc45 _ _ (by omega) (by omega))]; exact l5, by rw [hD4 46 15 rfl]; exact l6, ⟨l7.1, l7.2.1, fun i hi => om_Qc_eq (l7.2.2 i hi) (fun k j h1 h2 => hD4 _ _ (hsc45 _ _ (by omega) (by omega))) (fun a h1 h2 => hD4 _ _ (om_sc_k h1 h2))⟩, by rw [hD4 qd 0 (hsc45 _ _ (by omega) (by omega)), og_mix_lo (by omega)]; exact l9, .inr l8⟩, fun j hj => by rw [v2.1 59 j rfl]; exact l14 j hj, by rw [v2.1 46 18 rfl]; exact l13⟩
    show om_D_ask om_F X = _
    unfold om_D_ask om_D_ask_b0
    rw [b2]
    simp only [Option.bind_some]
    rw [if_pos trivial, l1]
    simp only [Option.bind_some]
    rw [← l2, v1]
    simp only [Option.bind_some, om_D_ask_b112]
    cases t
    · rw [if_pos (show om_bi false = 0 from rfl)]; rfl
    · rw [if_neg (show ¬ om_bi true = 0 by decide)]; rfl
  · -- a fault
    have hC'TD : og_TD L bt C' := ⟨by rw [hC' 46 9 (by omega) (by omega)]; exact hTD.1, fun i hi => by rw [hC' 53 i (by omega) (by omega)]; exact hTD.2 i hi⟩
    obtain ⟨r2, C2, D2, b1, b2, b3, b4, -⟩ := og_parse hq h8 hT.1 hbt hTC (D0 := C') hC'TD (by rw [hC' 46 2 (by omega) (by omega)]; exact e462)
    rw [a1] at b1
    have er : r = r2 := congrArg Prod.fst (Option.some.inj b1)
    subst er
    have h23 := og_k23 (M := M) ⟨n, m, L, hB, hT, ⟨qa, qd, s, c, d, hqq, e5, e6, hs, f6, f15, hr, f0, hsd⟩, hA⟩
    obtain ⟨r3, M1, M2, p1, p2, p3⟩ := h23
    have hCf : om_C_fault om_F M = some (r, C') := by
      unfold om_C_fault om_C_fault_b0
      rw [e6, e10]
      simp only [Option.bind_some, a1]
    have p1' : om_C_fault om_F M = some (r3, M1) := p1
    rw [hCf] at p1'
    have ee := Option.some.inj p1'
    have e1 : r = r3 := congrArg Prod.fst ee
    have e2 : C' = M1 := congrArg Prod.snd ee
    subst e1; subst e2
    have p2' : om_D_fault om_F C' = some (r, M2) := p2
    refine ⟨-4, C', M2, ?_, ?_, p3⟩
    · show om_C_ask om_F M = _
      unfold om_C_ask om_C_ask_b0
      rw [e6, e10]
      simp only [Option.bind_some, a1]
      rw [if_neg hrn]
    · show om_D_ask om_F C' = _
      unfold om_D_ask om_D_ask_b0
      rw [p2']
      simp only [Option.bind_some]
      rw [if_neg hrn]
end FA
