/-! ===== holds and turned ===== -/
theorem og_sh0 {p : Nat} (hp : p < 32) : (((0 : Int32) >>> (nI p &&& 31)) &&& 1) = 0 := (om_tst hp 0).mpr (om_b_0 p)
theorem og_Qr_d {M : om_M} {n q b s : Nat} {c d : Nat → Nat} (h : om_Qr M n q b s c d) : ∀ i, i ≤ s → d i ≤ c i
  | 0, _ => by rw [h.2.1]; exact Nat.zero_le _
  | i + 1, hi => by
    have h1 := og_Qr_d h i (by omega)
    obtain ⟨-, h2⟩ := h.2.2 i (by omega)
    rcases h2 with ⟨-, -, h3, h4⟩ | ⟨-, -, -, h3, h4⟩ | ⟨-, -, -, h3, h4⟩ | ⟨-, -, -, h3, h4⟩ <;> omega
section HO
variable {M : om_M} {n m : Nat}
theorem og_FD_of (hn : n ≤ 8) (hA : om_Al M) {C : om_M} (h : om_fr og_pC M C) : og_FD M n (-1) 0 C := by
  have hs := og_sc_pC h
  refine ⟨fun b j hb _ => hs.1 b j hb, h.2, fun p => ?_, by rw [h.1 46 18 rfl]; exact hA.2, fun j hj => by rw [h.1 59 j rfl]; exact hA.1 j hj⟩
  rw [h.1 47 p rfl]
  by_cases hp : p < n
  · rw [if_pos hp, og_sh0 (by omega), Int32.xor_zero]
  · rw [if_neg hp]
theorem og_FD_a {a a' f : Int32} {D : om_M} (h : og_FD M n a f D) : og_FD M n a' f (om_up D 46 18 a') := by
  obtain ⟨h1, h2, h3, h4, h5⟩ := h
  refine ⟨fun b j hb hne => ?_, h2, fun p => ?_, by simp [om_up_at], fun j hj => ?_⟩
  · rw [om_up_at]
    by_cases hb46 : b = 46
    · by_cases hj : j = 18
      · subst hb46; subst hj; cases hb
      · rw [if_pos hb46, if_neg hj]; rw [← h1 b j hb hne, hb46]
    · rw [if_neg hb46]; exact h1 b j hb hne
  · rw [om_up_at, if_neg (by decide)]; exact h3 p
  · rw [om_up_at, if_neg (by decide)]; exact h5 j hj
theorem og_FD_sc (hn : n ≤ 8) {a : Int32} {D : om_M} (h : og_FD M n a 0 D) : om_fr om_sc M D := by
  obtain ⟨h1, h2, h3, h4, h5⟩ := h
  refine ⟨fun b j hb => ?_, h2⟩
  by_cases hne : b = 47
  · subst hne
    rw [h3 j]
    by_cases hp : j < n
    · rw [if_pos hp, og_sh0 (by omega), Int32.xor_zero]
    · rw [if_neg hp]
  · exact h1 b j hb hne
theorem og_FD_Inv {L : Nat} (hB : om_Bd M n m) (hT : om_Tx M L) (hQ : om_Qq M n) {D : om_M} (h : og_FD M n (-1) 0 D) : om_Inv D :=
  om_Inv_fr hB hT hQ (og_FD_sc hB.1.1 h) ⟨h.2.2.2.2, h.2.2.2.1⟩
theorem og_k25 {M : om_M} (h : om_Inv M) : om_ok25 om_Inv M := by
  have hI := h
  obtain ⟨n, m, L, hB, hT, hQ, hA⟩ := h
  have ⟨⟨h8, h20, e10, e11, e462, e466⟩, hp, ht, hBa⟩ := hB
  obtain ⟨qa, qd, s, c, d, hqq, e5, e6, hs, f6, f15, hr, f0, hsd⟩ := id hQ
  have hq : qa = 30 ∨ qa = 38 := by omega
  have hobj := og_qa1 hq
  show om_ok om_Inv _ _ M
  have hC : ∀ k, om_C_holds om_F M = k → k = (if M.1 qa 0 = 0 then some ((-4 : Int32), M) else (om_Q_isTrue om_F qa (-1) 0 M).bind (fun q_1 => (if q_1.1 = 0 then om_C_holds_b42 om_F 0 q_1.2 else om_C_holds_b42 om_F 1 q_1.2))) := by
    intro k hk
    rw [← hk]
    unfold om_C_holds om_C_holds_b0
    rw [e5]
    simp only [Option.bind_some, hobj, cond_true]
  have hC' := hC _ rfl
  rcases hsd with rfl | hd
  · have h0 : M.1 qa 0 = 0 := by rw [f0, hr.1]; rfl
    have h15 : M.1 46 15 = 0 := by rw [f15]; rfl
    refine ⟨-4, M, M, ?_, ?_, hI⟩
    · show om_C_holds om_F M = _
      rw [hC', if_pos h0]
    · show om_D_holds om_F M = _
      unfold om_D_holds om_D_holds_b0 om_D_holds_b24
      rw [if_pos h15]
  · have hcs := og_Qr_c hr s (Nat.le_refl _)
    have hds := og_Qr_d hr s (Nat.le_refl _)
    have hs0 : 0 < s := by omega
    have h0 : ¬ M.1 qa 0 = 0 := by
      rw [f0, show (0 : Int32) = nI 0 from rfl, nI_eq (by omega) (by omega)]; omega
    have h15 : ¬ M.1 46 15 = 0 := by
      rw [f15, show (0 : Int32) = nI 0 from rfl, nI_eq (by omega) (by omega)]; omega
    obtain ⟨t, g1, g2⟩ := og_now hB hq hs f6 f15 hr hd (-1) 0
    obtain ⟨C', a1, a2⟩ := g1 M om_fr_rfl
    have hFD := og_FD_of h8 hA a2
    obtain ⟨D', b1, b2⟩ := g2 C' hFD
    have h15' : ¬ C'.1 46 15 = 0 := by rw [a2.1 46 15 rfl]; exact h15
    refine ⟨om_bi t, C', D', ?_, ?_, og_FD_Inv hB hT hQ (og_FD_pE hFD b2)⟩
    · show om_C_holds om_F M = _
      rw [hC', if_neg h0, a1]
      cases t <;> rfl
    · show om_D_holds om_F C' = _
      unfold om_D_holds om_D_holds_b0 om_D_holds_b24
      rw [if_neg h15', b1]
      cases t <;> rfl
def og_tm (t0 : Bool) (τ : Nat → Bool) : Nat → Int32
  | 0 => 0
  | k + 1 => if τ k = t0 then og_tm t0 τ k else og_tm t0 τ k ||| ((1 : Int32) <<< (nI k &&& 31))
theorem og_bi_inj {t t' : Bool} : om_bi t = om_bi t' ↔ t = t' := by cases t <;> cases t' <;> decide
theorem og_k26 {M : om_M} (h : om_Inv M) : om_ok26 om_Inv M := by
  have hI := h
  obtain ⟨n, m, L, hB, hT, hQ, hA⟩ := h
  have ⟨⟨h8, h20, e10, e11, e462, e466⟩, hp, ht, hBa⟩ := hB
  obtain ⟨qa, qd, s, c, d, hqq, e5, e6, hs, f6, f15, hr, f0, hsd⟩ := id hQ
  have hq : qa = 30 ∨ qa = 38 := by omega
  have hobj := og_qa1 hq
  show om_ok om_Inv _ _ M
  have hC : ∀ k, om_C_turned om_F M = k → k = (if M.1 qa 0 = 0 then some ((-4 : Int32), M) else (om_Q_isTrue om_F qa (-1) 0 M).bind (fun q_1 => (om_C_turned_L39 om_F (q_1.1, 0, 0, q_1.2)).bind fun z2 => some (z2.1, z2.2))) := by
    intro k hk
    rw [← hk]
    unfold om_C_turned om_C_turned_b0
    rw [e5]
    simp only [Option.bind_some, hobj, cond_true]
  have hC' := hC _ rfl
  rcases hsd with rfl | hd
  · have h0 : M.1 qa 0 = 0 := by rw [f0, hr.1]; rfl
    have h15 : M.1 46 15 = 0 := by rw [f15]; rfl
    refine ⟨-4, M, M, ?_, ?_, hI⟩
    · show om_C_turned om_F M = _
      rw [hC', if_pos h0]
    · show om_D_turned om_F M = _
      unfold om_D_turned om_D_turned_b0
      rw [if_pos h15]
  · have hcs := og_Qr_c hr s (Nat.le_refl _)
    have hds := og_Qr_d hr s (Nat.le_refl _)
    have h0 : ¬ M.1 qa 0 = 0 := by
      rw [f0, show (0 : Int32) = nI 0 from rfl, nI_eq (by omega) (by omega)]; omega
    have h15 : ¬ M.1 46 15 = 0 := by
      rw [f15, show (0 : Int32) = nI 0 from rfl, nI_eq (by omega) (by omega)]; omega
    obtain ⟨t0, g1, g2⟩ := og_now hB hq hs f6 f15 hr hd (-1) 0
    obtain ⟨τ, hτ⟩ := Classical.skolem.mp (fun k : Nat => og_now hB hq hs f6 f15 hr hd (nI k) 0)
    obtain ⟨C1, a1, a2⟩ := g1 M om_fr_rfl
    obtain ⟨z, hz, C2, q0, q1⟩ := om_lp (f := om_C_turned_L39_body om_F) (fun k st => ∃ C', st = (om_bi t0, og_tm t0 τ k, nI k, C') ∧ om_fr og_pC M C') (fun z => ∃ C', z = (og_tm t0 τ m, C') ∧ om_fr og_pC M C') m (F := om_F) (Nat.lt_of_le_of_lt h20 (by decide)) (s := (om_bi t0, 0, 0, C1)) ⟨C1, rfl, a2⟩ (by
      rintro k st hk ⟨C', rfl, u1⟩
      have hlt : ¬ nI m ≤ nI k := nI_ge hk (by omega)
      have e11' : C'.1 1 1 = nI m := by rw [u1.1 1 1 rfl, e11]
      have e5' : C'.2 0 5 = some qa := by rw [u1.2]; exact e5
      obtain ⟨C2, v1, v2⟩ := (hτ k).1 C' (og_sc_pC u1)
      refine .inl ⟨(om_bi t0, og_tm t0 τ (k + 1), nI (k + 1), C2), ?_, C2, rfl, om_fr_tr u1 v2⟩
      simp only [om_C_turned_L39_body, om_C_turned_b39, om_C_turned_b81, e11', hlt, if_false, e5', Option.bind_some, hobj, cond_true, v1, og_bi_inj, og_nI1, og_tm]
      by_cases hh : τ k = t0
      · rw [if_pos hh, if_pos hh]
      · rw [if_neg hh, if_neg hh]) (by
      rintro st ⟨C', rfl, u1⟩
      have e11' : C'.1 1 1 = nI m := by rw [u1.1 1 1 rfl, e11]
      exact ⟨_, by simp only [om_C_turned_L39_body, om_C_turned_b39, e11']; rw [if_pos Int32.le_rfl], C', rfl, u1⟩)
    subst q0
    have hFD := og_FD_of h8 hA q1
    obtain ⟨D1, b1, b2⟩ := g2 C2 hFD
    have h15' : ¬ C2.1 46 15 = 0 := by rw [q1.1 46 15 rfl]; exact h15
    obtain ⟨z, hz2, D2, q0, a, q2⟩ := om_lp (f := om_D_turned_L19_body om_F) (fun k st => ∃ D', st = (om_bi t0, og_tm t0 τ k, nI k, D') ∧ ∃ a, og_FD M n a 0 D') (fun z => ∃ D', z = (og_tm t0 τ m, D') ∧ ∃ a, og_FD M n a 0 D') m (F := om_F) (Nat.lt_of_le_of_lt h20 (by decide)) (s := (om_bi t0, 0, 0, D1)) ⟨D1, rfl, -1, og_FD_pE hFD b2⟩ (by
      rintro k st hk ⟨D', rfl, a, u1⟩
      have hlt : ¬ nI m ≤ nI k := nI_ge hk (by omega)
      have e6' : D'.1 46 6 = nI m := by rw [u1.1 46 6 rfl (by decide), e466]
      obtain ⟨D2, v1, v2⟩ := (hτ k).2 (om_up D' 46 18 (nI k)) (og_FD_a u1)
      refine .inl ⟨(om_bi t0, og_tm t0 τ (k + 1), nI (k + 1), D2), ?_, D2, rfl, nI k, og_FD_pE (og_FD_a u1) v2⟩
      simp only [om_D_turned_L19_body, om_D_turned_b19, om_D_turned_b48, e6', hlt, if_false, Option.bind_some, v1, og_bi_inj, og_nI1, og_tm]
      by_cases hh : τ k = t0
      · rw [if_pos hh, if_pos hh, Int32.or_zero]
      · rw [if_neg hh, if_neg hh]) (by
      rintro st ⟨D', rfl, a, u1⟩
      have e6' : D'.1 46 6 = nI m := by rw [u1.1 46 6 rfl (by decide), e466]
      exact ⟨_, by simp only [om_D_turned_L19_body, om_D_turned_b19, e6']; rw [if_pos Int32.le_rfl], D', rfl, a, u1⟩)
    subst q0
    refine ⟨og_tm t0 τ m, C2, om_up D2 46 18 (-1), ?_, ?_, og_FD_Inv hB hT hQ (og_FD_a q2)⟩
    · show om_C_turned om_F M = _
      rw [hC', if_neg h0, a1]
      simp only [Option.bind_some, om_C_turned_L39, hz]
    · show om_D_turned om_F C2 = _
      unfold om_D_turned om_D_turned_b0
      rw [if_neg h15', b1]
      simp only [Option.bind_some, om_D_turned_L19, hz2]
end HO
