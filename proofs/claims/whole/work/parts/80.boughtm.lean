/-! ===== bought: the model's side ===== -/
section CG
variable {M : om_M} {n m : Nat}
theorem og_change (h8 : n ≤ 8) {D : om_M} (e : D.1 46 2 = nI n) (f : Int32) : ∃ D', om_D_change om_F f D = some D' ∧ (∀ b j, b ≠ 47 → D'.1 b j = D.1 b j) ∧ D'.2 = D.2 ∧ ∀ p, D'.1 47 p = if p < n then D.1 47 p ^^^ ((f >>> (nI p &&& 31)) &&& 1) else D.1 47 p := by
  obtain ⟨D', hz, q1, q2, q3⟩ := om_lp (f := om_D_change_L2_body om_F) (fun i st => ∃ D', st = (f, nI i, D') ∧ (∀ b j, b ≠ 47 → D'.1 b j = D.1 b j) ∧ D'.2 = D.2 ∧ ∀ p, D'.1 47 p = if p < i then D.1 47 p ^^^ ((f >>> (nI p &&& 31)) &&& 1) else D.1 47 p) (fun D' : om_M => (∀ b j, b ≠ 47 → D'.1 b j = D.1 b j) ∧ D'.2 = D.2 ∧ ∀ p, D'.1 47 p = if p < n then D.1 47 p ^^^ ((f >>> (nI p &&& 31)) &&& 1) else D.1 47 p) n (F := om_F) (Nat.lt_of_le_of_lt h8 (by decide)) (s := (f, 0, D)) ⟨D, rfl, fun _ _ _ => rfl, rfl, fun p => by rw [if_neg (Nat.not_lt_zero _)]⟩ (by
    rintro i st hi ⟨D', rfl, g1, g2, g3⟩
    have hin : om_in (nI i) 8 = true := om_in_nI (by omega) (by omega)
    have hcl : (nI i).toNatClampNeg = i := nI_clamp (by omega)
    have hlt : ¬ nI n ≤ nI i := nI_ge hi (by omega)
    have e' : D'.1 46 2 = nI n := by rw [g1 46 2 (by decide), e]
    refine .inl ⟨(f, nI (i + 1), om_up D' 47 i (D'.1 47 i ^^^ ((f >>> (nI i &&& 31)) &&& 1))), ?_, _, rfl, fun b j hb => ?_, g2, fun p => ?_⟩
    · simp only [om_D_change_L2_body, om_D_change_b2, e', hlt, hin, hcl, if_false, cond_true, og_nI1]
    · rw [om_up_at, if_neg hb]; exact g1 b j hb
    · by_cases hpi : p = i
      · subst hpi
        have : (om_up D' 47 p (D'.1 47 p ^^^ ((f >>> (nI p &&& 31)) &&& 1))).1 47 p = D'.1 47 p ^^^ ((f >>> (nI p &&& 31)) &&& 1) := by simp [om_up_at]
        rw [this, g3 p, if_neg (Nat.lt_irrefl _), if_pos (Nat.lt_succ_self _)]
      · have : (om_up D' 47 i (D'.1 47 i ^^^ ((f >>> (nI i &&& 31)) &&& 1))).1 47 p = D'.1 47 p := by simp [om_up_at, hpi]
        rw [this, g3 p]
        by_cases h : p < i
        · rw [if_pos h, if_pos (by omega)]
        · rw [if_neg h, if_neg (by omega)]) (by
    rintro st ⟨D', rfl, g1, g2, g3⟩
    have e' : D'.1 46 2 = nI n := by rw [g1 46 2 (by decide), e]
    exact ⟨_, by simp only [om_D_change_L2_body, om_D_change_b2, e']; rw [if_pos Int32.le_rfl], g1, g2, g3⟩)
  refine ⟨D', ?_, q1, q2, q3⟩
  unfold om_D_change om_D_change_b0 om_D_change_L2
  rw [hz]; rfl
theorem og_FD_chg (h8 : n ≤ 8) {a f : Int32} {D D' : om_M} (h : og_FD M n a 0 D) (g1 : ∀ b j, b ≠ 47 → D'.1 b j = D.1 b j) (g2 : D'.2 = D.2) (g3 : ∀ p, D'.1 47 p = if p < n then D.1 47 p ^^^ ((f >>> (nI p &&& 31)) &&& 1) else D.1 47 p) : og_FD M n a f D' := by
  obtain ⟨h1, h2, h3, h4, h5⟩ := h
  refine ⟨fun b j hb hne => by rw [g1 b j hne]; exact h1 b j hb hne, by rw [g2]; exact h2, fun p => ?_, by rw [g1 46 18 (by decide)]; exact h4, fun j hj => by rw [g1 59 j (by decide)]; exact h5 j hj⟩
  rw [g3 p, h3 p]
  by_cases hp : p < n
  · rw [if_pos hp, if_pos hp, if_pos hp, og_sh0 (by omega), Int32.xor_zero]
  · rw [if_neg hp, if_neg hp, if_neg hp]
theorem og_FD_unchg (h8 : n ≤ 8) {a f : Int32} {D D' : om_M} (h : og_FD M n a f D) (g1 : ∀ b j, b ≠ 47 → D'.1 b j = D.1 b j) (g2 : D'.2 = D.2) (g3 : ∀ p, D'.1 47 p = if p < n then D.1 47 p ^^^ ((f >>> (nI p &&& 31)) &&& 1) else D.1 47 p) : og_FD M n a 0 D' := by
  obtain ⟨h1, h2, h3, h4, h5⟩ := h
  refine ⟨fun b j hb hne => by rw [g1 b j hne]; exact h1 b j hb hne, by rw [g2]; exact h2, fun p => ?_, by rw [g1 46 18 (by decide)]; exact h4, fun j hj => by rw [g1 59 j (by decide)]; exact h5 j hj⟩
  rw [g3 p, h3 p]
  by_cases hp : p < n
  · rw [if_pos hp, if_pos hp, if_pos hp, og_sh0 (by omega), Int32.xor_zero, Int32.xor_assoc, Int32.xor_self, Int32.xor_zero]
  · rw [if_neg hp, if_neg hp, if_neg hp]
theorem og_countD (h8 : n ≤ 8) {D : om_M} (e : D.1 46 2 = nI n) (x1 x2 : Int32) : om_D_bought_L37 om_F (x1, x2, 0, 0, D) = some (x1, x2, nI (og_cnt (om_b x2) n), D) := by
  obtain ⟨z, hz, q0⟩ := om_lp (f := om_D_bought_L37_body om_F) (fun i st => st = (x1, x2, nI (og_cnt (om_b x2) i), nI i, D)) (fun z => z = (x1, x2, nI (og_cnt (om_b x2) n), D)) n (F := om_F) (Nat.lt_of_le_of_lt h8 (by decide)) (s := (x1, x2, 0, 0, D)) rfl (by
    rintro i st hi rfl
    have hlt : ¬ nI n ≤ nI i := nI_ge hi (by omega)
    refine .inl ⟨(x1, x2, nI (og_cnt (om_b x2) (i + 1)), nI (i + 1), D), ?_, rfl⟩
    simp only [om_D_bought_L37_body, om_D_bought_b37, e, hlt, if_false, og_bit01 (show i < 32 by omega), og_nI1]
    have : nI (og_cnt (om_b x2) i) + (if om_b x2 i = true then 1 else 0) = nI (og_cnt (om_b x2) (i + 1)) := by
      show _ = nI (og_cnt (om_b x2) i + (if om_b x2 i = true then 1 else 0))
      by_cases h : om_b x2 i = true
      · rw [if_pos h, if_pos h, og_nI1]
      · rw [if_neg h, if_neg h, Int32.add_zero, Nat.add_zero]
    rw [this]) (by
    rintro st rfl
    exact ⟨_, by simp only [om_D_bought_L37_body, om_D_bought_b37, e]; rw [if_pos Int32.le_rfl], rfl⟩)
  subst q0
  exact hz
theorem og_buyD1 (h8 : n ≤ 8) (e462 : M.1 46 2 = nI n) {T : Int32 → Bool} (hT : ∀ f D, og_FD M n (-1) f D → ∃ D', om_D_holdsNow om_F D = some (om_bi (T f), D') ∧ og_FD M n (-1) f D') {z : Nat} (hz : z ≤ n + 1) {D : om_M} (hD : og_FD M n (-1) 0 D) : ∃ res D', om_D_bought_L22 om_F (nI z, 0, D) = some res ∧ og_FD M n (-1) 0 D' ∧ ((∃ k, k < 2 ^ n ∧ res = .inl (nI k, D') ∧ og_cn n k = z ∧ T (nI k) = true ∧ ∀ j, j < k → og_cn n j = z → T (nI j) = false) ∨ (res = .inr (nI z, D') ∧ ∀ j, j < 2 ^ n → og_cn n j = z → T (nI j) = false)) := by
  have h2 := og_2n h8
  obtain ⟨res, hres, D', q1, q2⟩ := om_lp (f := om_D_bought_L22_body om_F) (fun k st => ∃ D', st = (nI z, nI k, D') ∧ og_FD M n (-1) 0 D' ∧ ∀ j, j < k → og_cn n j = z → T (nI j) = false) (fun res => ∃ D', og_FD M n (-1) 0 D' ∧ ((∃ k, k < 2 ^ n ∧ res = .inl (nI k, D') ∧ og_cn n k = z ∧ T (nI k) = true ∧ ∀ j, j < k → og_cn n j = z → T (nI j) = false) ∨ (res = .inr (nI z, D') ∧ ∀ j, j < 2 ^ n → og_cn n j = z → T (nI j) = false))) (2 ^ n) (F := om_F) (Nat.lt_of_le_of_lt h2 (by decide)) (s := (nI z, 0, D)) ⟨D, rfl, hD, fun j hj => absurd hj (Nat.not_lt_zero _)⟩ (by
    rintro k st hk ⟨D', rfl, g1, g2⟩
    have e' : D'.1 46 2 = nI n := by rw [g1.1 46 2 rfl (by decide), e462]
    have hlt : ¬ nI (2 ^ n) ≤ nI k := nI_ge hk (by omega)
    have hcnt := og_countD h8 e' (nI z) (nI k)
    have hcz : nI (og_cnt (om_b (nI k)) n) = nI z ↔ og_cn n k = z := nI_eq (by have := og_cnt_le (om_b (nI k)) n; omega) (by omega)
    have next : (og_cn n k = z → T (nI k) = false) → ∀ j, j < k + 1 → og_cn n j = z → T (nI j) = false := by
      intro h j hj
      by_cases hjk : j = k
      · subst hjk; exact h
      · exact g2 j (by omega)
    by_cases hc : og_cn n k = z
    · obtain ⟨D1, a1, a2, a3, a4⟩ := og_change h8 e' (nI k)
      have hF1 := og_FD_chg h8 g1 a2 a3 a4
      obtain ⟨D2, b1, b2⟩ := hT (nI k) D1 hF1
      have e2' : D2.1 46 2 = nI n := by rw [b2.1 46 2 rfl (by decide), e462]
      obtain ⟨D3, c1, c2, c3, c4⟩ := og_change h8 e2' (nI k)
      have hF3 := og_FD_unchg h8 b2 c2 c3 c4
      cases ht : T (nI k) with
      | true =>
        refine .inr ⟨.inl (nI k, D3), ?_, D3, hF3, .inl ⟨k, hk, rfl, hc, ht, g2⟩⟩
        simp only [om_D_bought_L22_body, om_D_bought_b22, e', og_1shl h8, hlt, if_false, hcnt, Option.bind_some, hcz, hc, if_true, a1, b1, c1, ht]
        rw [if_neg (show ¬ om_bi true = 0 by decide)]
      | false =>
        refine .inl ⟨(nI z, nI (k + 1), D3), ?_, D3, rfl, hF3, next (fun _ => ht)⟩
        simp only [om_D_bought_L22_body, om_D_bought_b22, om_D_bought_b89, e', og_1shl h8, hlt, if_false, hcnt, Option.bind_some, hcz, hc, if_true, a1, b1, c1, ht, og_nI1]
        rw [if_pos (show om_bi false = 0 from rfl)]
    · refine .inl ⟨(nI z, nI (k + 1), D'), ?_, D', rfl, g1, next (fun h => absurd h hc)⟩
      simp only [om_D_bought_L22_body, om_D_bought_b22, om_D_bought_b89, e', og_1shl h8, hlt, if_false, hcnt, Option.bind_some, hcz, hc, og_nI1]) (by
    rintro st ⟨D', rfl, g1, g2⟩
    have e' : D'.1 46 2 = nI n := by rw [g1.1 46 2 rfl (by decide), e462]
    exact ⟨_, by simp only [om_D_bought_L22_body, om_D_bought_b22, e', og_1shl h8]; rw [if_pos Int32.le_rfl], D', g1, .inr ⟨rfl, g2⟩⟩)
  exact ⟨res, D', hres, q1, q2⟩
theorem og_buyD (h8 : n ≤ 8) (e462 : M.1 46 2 = nI n) {T : Int32 → Bool} (hT : ∀ f D, og_FD M n (-1) f D → ∃ D', om_D_holdsNow om_F D = some (om_bi (T f), D') ∧ og_FD M n (-1) f D') {D : om_M} (hD : og_FD M n (-1) 0 D) : ∃ r D', ((om_D_bought_L12 om_F (0, D)).bind fun z1 => Sum.elim (fun z2 => some (z2.1, z2.2)) (fun z3 => some ((-1 : Int32), z3)) z1) = some (r, D') ∧ og_FD M n (-1) 0 D' ∧ og_few n (fun _ => True) T r := by
  have h2 := og_2n h8
  obtain ⟨res, hres, D', q1, q2⟩ := om_lp (f := om_D_bought_L12_body om_F) (fun z st => ∃ D', st = (nI z, D') ∧ og_FD M n (-1) 0 D' ∧ ∀ j, j < 2 ^ n → og_cn n j < z → T (nI j) = false) (fun res => ∃ D', og_FD M n (-1) 0 D' ∧ ((∃ r, res = .inl (r, D') ∧ og_few n (fun _ => True) T r) ∨ (res = .inr D' ∧ og_few n (fun _ => True) T (-1)))) (n + 1) (F := om_F) (Nat.lt_of_le_of_lt (Nat.succ_le_succ h8) (by decide)) (s := (0, D)) ⟨D, rfl, hD, fun j _ hj => absurd hj (Nat.not_lt_zero _)⟩ (by
    rintro z st hz ⟨D', rfl, g1, g2⟩
    have e' : D'.1 46 2 = nI n := by rw [g1.1 46 2 rfl (by decide), e462]
    have hlt : ¬ nI n < nI z := by rw [Int32.not_lt]; exact nI_le (by omega) (by omega)
    obtain ⟨res, C2, a1, a2, a3⟩ := og_buyD1 h8 e462 hT (z := z) (by omega) g1
    rcases a3 with ⟨k, hk, rfl, b1, b3, b4⟩ | ⟨rfl, b1⟩
    · refine .inr ⟨.inl (nI k, C2), ?_, C2, a2, .inl ⟨nI k, rfl, .inl ⟨k, hk, rfl, trivial, b3, fun j hj _ hTj => ?_⟩⟩⟩
      · simp only [om_D_bought_L12_body, om_D_bought_b12, e', hlt, if_false, a1, Option.bind_some, Sum.elim_inl]
      · by_cases h1 : og_cn n j < z
        · have := g2 j hj h1; rw [hTj] at this; cases this
        · by_cases h3 : og_cn n j = z
          · refine .inr ⟨by omega, ?_⟩
            refine Classical.byContradiction fun hlt2 => ?_
            have := b4 j (by omega) h3
            rw [hTj] at this; cases this
          · exact .inl (by omega)
    · refine .inl ⟨(nI (z + 1), C2), ?_, C2, rfl, a2, fun j hj hc => ?_⟩
      · simp only [om_D_bought_L12_body, om_D_bought_b12, e', hlt, if_false, a1, Option.bind_some, Sum.elim_inr, og_nI1]
      · by_cases h1 : og_cn n j < z
        · exact g2 j hj h1
        · exact b1 j hj (by omega)) (by
    rintro st ⟨D', rfl, g1, g2⟩
    have e' : D'.1 46 2 = nI n := by rw [g1.1 46 2 rfl (by decide), e462]
    have hlt : nI n < nI (n + 1) := (nI_ltI (by omega) (by omega)).mpr (by omega)
    refine ⟨.inr D', by simp only [om_D_bought_L12_body, om_D_bought_b12, e', hlt, if_true], D', g1, .inr ⟨rfl, .inr ⟨rfl, fun j hj _ => g2 j hj ?_⟩⟩⟩
    have := og_cnt_le (om_b (nI j)) n
    unfold og_cn; omega)
  rcases q2 with ⟨r, rfl, q3⟩ | ⟨rfl, q3⟩
  · exact ⟨r, D', by simp only [om_D_bought_L12, hres, Option.bind_some, Sum.elim_inl], q1, q3⟩
  · exact ⟨-1, D', by simp only [om_D_bought_L12, hres, Option.bind_some, Sum.elim_inr], q1, q3⟩
theorem og_one_of_cnt {x : Int32} (hx : og_wn n x) (h : ¬ 1 < og_cnt (om_b x) n) {q r : Nat} (hq : og_S x q) (hr : og_S x r) (hn : n ≤ 8) : q = r := by
  refine Classical.byContradiction fun hne => h ?_
  have hqn : q < n := og_S_lt hx hq
  have hrn : r < n := og_S_lt hx hr
  have hy : ∀ p, og_S ((1 : Int32) <<< (nI q &&& 31)) p ↔ p = q := fun p => by
    unfold og_S; rw [om_b_shl (show q < 32 by omega), decide_eq_true_eq]
  have h1 := og_cnt_S_lt (x := 0) (y := (1 : Int32) <<< (nI q &&& 31)) (n := n) (fun p hp => absurd hp (og_S0 p)) hqn ((hy q).mpr rfl) (og_S0 q)
  have h2 := og_cnt_S_lt (x := (1 : Int32) <<< (nI q &&& 31)) (y := x) (n := n) (fun p hp => by rw [(hy p).mp hp]; exact hq) hrn hr (fun h => hne ((hy r).mp h).symm)
  omega
theorem og_k27 {M : om_M} (h : om_Inv M) : om_ok27 om_Inv M := by
  have hI := h
  obtain ⟨n, m, L, hB, hT, hQ, hA⟩ := h
  have ⟨⟨h8, h20, e10, e11, e462, e466⟩, hp, ht, hBa⟩ := hB
  obtain ⟨qa, qd, s, c, d, hqq, e5, e6, hs, f6, f15, hr, f0, hsd⟩ := id hQ
  have hq : qa = 30 ∨ qa = 38 := by omega
  have hobj := og_qa1 hq
  show om_ok om_Inv _ _ M
  have hC : ∀ k, om_C_bought om_F M = k → k = (if M.1 qa 0 = 0 then some ((-4 : Int32), M) else (om_V_load om_F (-1) 0 M).bind (fun q_1 => (om_V_branching om_F q_1).bind (fun q_2 => (om_C_bought_L38 om_F (q_2.1 ^^^ (-1), 0, q_2.2)).bind fun z3 => Sum.elim (fun z4 => some (z4.1, z4.2)) (fun z5 => some (-1, z5)) z3))) := by
    intro k hk
    rw [← hk]
    unfold om_C_bought om_C_bought_b0
    rw [e5]
    simp only [Option.bind_some, hobj, cond_true]
  have hC' := hC _ rfl
  rcases hsd with rfl | hd
  · have h0 : M.1 qa 0 = 0 := by rw [f0, hr.1]; rfl
    have h15 : M.1 46 15 = 0 := by rw [f15]; rfl
    refine ⟨-4, M, M, ?_, ?_, hI⟩
    · show om_C_bought om_F M = _
      rw [hC', if_pos h0]
    · show om_D_bought om_F M = _
      unfold om_D_bought om_D_bought_b0
      rw [if_pos h15]
  · have hcs := og_Qr_c hr s (Nat.le_refl _)
    have hds := og_Qr_d hr s (Nat.le_refl _)
    have h0 : ¬ M.1 qa 0 = 0 := by
      rw [f0, show (0 : Int32) = nI 0 from rfl, nI_eq (by omega) (by omega)]; omega
    have h15 : ¬ M.1 46 15 = 0 := by
      rw [f15, show (0 : Int32) = nI 0 from rfl, nI_eq (by omega) (by omega)]; omega
    obtain ⟨T, hT2⟩ := Classical.skolem.mp (fun f : Int32 => og_now hB hq hs f6 f15 hr hd (-1) f)
    obtain ⟨C1, a1, a2, a3, a4⟩ := og_load (M := M) hB.1 hBa (-1) 0
    obtain ⟨B, b1, b2⟩ := og_branching h8 a2.1 (og_Ld_wn a2)
    have hTB : ∀ f, T f = T (f &&& B) := by
      intro f
      obtain ⟨D0, hD0⟩ := og_FD_ex M n (-1) f
      obtain ⟨t, C', D', g1, -, g3, -⟩ := og_nowPair (f := f &&& B) (g := f) hB hq hs f6 f15 hr hd (fun p hpn => by
        cases hb : om_b B p with
        | true => left; rw [om_b_and, hb, Bool.and_true]
        | false =>
          right
          intro q r u w hqn hrn hu hw
          obtain ⟨e70, s', hs', ⟨m1, m2, m3, m4⟩⟩ := id a2
          exact og_one_of_cnt (og_Ld_wn a2 p hpn) (fun h => by rw [(b2 p hpn).mpr h] at hb; cases hb) ((m4 p hpn q).mpr ⟨hqn, u, hu⟩) ((m4 p hpn r).mpr ⟨hrn, w, hw⟩) h8) (C := M) om_fr_rfl hD0
      obtain ⟨C2, u1, -⟩ := (hT2 (f &&& B)).1 M om_fr_rfl
      obtain ⟨D2, u2, -⟩ := (hT2 f).2 D0 hD0
      rw [u1] at g1
      rw [u2] at g3
      have v1 := og_bi_inj.mp (congrArg Prod.fst (Option.some.inj g1))
      have v2 := og_bi_inj.mp (congrArg Prod.fst (Option.some.inj g3))
      rw [v1, v2]
    obtain ⟨r, C2, c1, c2, c3⟩ := og_buyC h8 e10 e5 hobj (fun f C hC => (hT2 f).1 C hC) (B := B) (C := C1) (og_pC_pv a3)
    obtain ⟨r', D2, d1, d2, d3⟩ := og_buyD h8 e462 (fun f D hD => by
      obtain ⟨D', u1, u2⟩ := (hT2 f).2 D hD
      exact ⟨D', u1, og_FD_pE hD u2⟩) (og_FD_of h8 hA c2)
    have hrr := og_few_eq h8 hTB c3 d3
    subst hrr
    have h15' : ¬ C2.1 46 15 = 0 := by rw [c2.1 46 15 rfl]; exact h15
    refine ⟨r, C2, D2, ?_, ?_, og_FD_Inv hB hT hQ d2⟩
    · show om_C_bought om_F M = _
      rw [hC', if_neg h0, a1]
      simp only [Option.bind_some, b1]
      exact c1
    · show om_D_bought om_F C2 = _
      unfold om_D_bought om_D_bought_b0
      rw [if_neg h15']
      exact d1
end CG
