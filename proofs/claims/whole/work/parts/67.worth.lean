theorem og_divisor (a b : Nat) (ha : a < 1000) (hb : b < 1000) (M : om_M) : om_D_divisor om_F (nI a) (nI b) M = some (nI (Nat.gcd a b), M) := by
  obtain ⟨z, hz, rfl⟩ := om_lw (f := om_D_divisor_L4_body om_F) (fun s => ∃ x y, s = (nI x, nI y, M) ∧ x < 1000 ∧ y < 1000 ∧ Nat.gcd x y = Nat.gcd a b) (fun z => z = (nI (Nat.gcd a b), M)) (fun s => s.2.1.toNatClampNeg) (by
    rintro s ⟨x, y, rfl, hx, hy, hg⟩
    by_cases h0 : y = 0
    · subst h0
      refine .inr ⟨_, ?_, rfl⟩
      rw [Nat.gcd_zero_right] at hg
      simp only [om_D_divisor_L4_body, om_D_divisor_b4]
      rw [if_pos (show nI 0 = 0 from rfl), hg]
    · have hne : ¬ nI y = 0 := fun h => h0 ((nI_eq (a := y) (b := 0) (by omega) (by omega)).mp h)
      have hr := pk_rem (a := x) (d := y) (by omega) (by omega) (by omega)
      have hm := Nat.mod_lt x (show y > 0 by omega)
      refine .inl ⟨(nI y, nI (x % y), M), by simp only [om_D_divisor_L4_body, om_D_divisor_b4, hne, if_false, decide_false, Bool.not_false, cond_true, hr], ⟨y, x % y, rfl, hy, by omega, by rw [← hg, Nat.gcd_comm y, Nat.gcd_comm x, ← Nat.gcd_rec]⟩, ?_⟩
      show (nI (x % y)).toNatClampNeg < (nI y).toNatClampNeg
      rw [nI_clamp (by omega), nI_clamp (by omega)]; exact hm) om_F (nI a, nI b, M) (by
    show (nI b).toNatClampNeg < om_F
    rw [nI_clamp (by omega)]
    exact Nat.lt_of_lt_of_le hb (by decide)) ⟨a, b, rfl, ha, hb, rfl⟩
  unfold om_D_divisor om_D_divisor_b0 om_D_divisor_L4
  rw [hz]; rfl
/-- lowest terms are alone -/
theorem og_low {X x' : Int} {B b' : Nat} (hB : 0 < B) (hb : 0 < b') (h1 : Nat.gcd X.natAbs B = 1) (h2 : ∀ e : Nat, 1 < e → (e : Int) ∣ x' → e ∣ b' → False) (h : X * b' = x' * B) : X = x' ∧ B = b' := by
  have h3 : Nat.gcd x'.natAbs b' = 1 := by
    have hg : 0 < Nat.gcd x'.natAbs b' := Nat.gcd_pos_of_pos_right _ hb
    refine Classical.byContradiction fun hne => h2 (Nat.gcd x'.natAbs b') (by omega) ?_ (Nat.gcd_dvd_right _ _)
    exact Int.ofNat_dvd_left.mpr (Nat.gcd_dvd_left _ _)
  have hn : X.natAbs * b' = x'.natAbs * B := by
    have := congrArg Int.natAbs h
    rwa [Int.natAbs_mul, Int.natAbs_mul, Int.natAbs_natCast, Int.natAbs_natCast] at this
  have d1 : B ∣ b' := Nat.Coprime.dvd_of_dvd_mul_left (Nat.Coprime.symm h1) ⟨x'.natAbs, by rw [hn, Nat.mul_comm]⟩
  have d2 : b' ∣ B := Nat.Coprime.dvd_of_dvd_mul_left (Nat.Coprime.symm h3) ⟨X.natAbs, by rw [← hn, Nat.mul_comm]⟩
  have e : B = b' := Nat.dvd_antisymm d1 d2
  subst e
  exact ⟨Int.eq_of_mul_eq_mul_right (show (B : Int) ≠ 0 by omega) h, rfl⟩
theorem og_div8 {v : Int32} {x : Int} (h : v.toInt = x) (h1 : -80 ≤ x) (h2 : x ≤ 80) {d : Nat} (hd : 1 ≤ d) (hd8 : d ≤ 8) (hdv : (d : Int) ∣ x) : (v / nI d).toInt = x / d := by
  by_cases h1d : d = 1
  · subst h1d
    rw [Int32.toInt_div, show (nI 1).toInt = 1 from rfl, h, Int.tdiv_one]
    rw [Int.bmod_eq_of_le (by omega) (by omega)]
    omega
  · exact (og_rem8 h h1 h2 (d := d) (by omega) hd8).2 hdv
/-- Karp's value is the least of the closed walks' -/
theorem og_least {n : Nat} {H : Nat → Nat → Prop} {u : Nat → Nat → Int} (hH : ∀ r q, H r q → q < n) (hu : ∀ p q, H p q → -5 ≤ u p q ∧ u p q ≤ 5) {p : Nat} (hp : p < n) {a : Int} {b : Nat} (hb : 0 < b) (k1 : og_K1 n H (fun r q => (b : Int) * u r q - a) p) (k2 : og_K2 n H (fun r q => (b : Int) * u r q - a) p) {S : Nat → Prop} (hS1 : S p) (hS2 : ∀ r q, S r → H r q → S q) (hS3 : ∀ Z : Nat → Prop, Z p → (∀ r q, Z r → H r q → Z q) → ∀ q, S q → Z q) {v d : Int32} (hbt : og_bt (og_Pw (fun k => og_wk H u k) S n (n + 1) 0) v d) : ∃ (am : Int) (bm : Nat), v.toInt = am ∧ d = nI bm ∧ 0 < bm ∧ bm ≤ 8 ∧ -50 ≤ am ∧ am ≤ 50 ∧ (b : Int) * am = a * bm := by
  obtain ⟨i, w, y, j, z, w1, hj, hjn, w2, hz⟩ := og_K2_loop hH hp k2
  obtain ⟨y', w1', -⟩ := og_wk_unlin w1
  obtain ⟨t, w3, ht⟩ := og_wk_unlin w2
  have hwS : ∀ {k q : Nat} {x : Int}, og_wk H u k p q x → S q := by
    intro k
    induction k with
    | zero => intro q x h; rw [← h.1]; exact hS1
    | succ k ih => rintro q x ⟨r, y, h1, h2, -⟩; exact hS2 r q (ih h1) h2
  have hwn : w < n := by
    match i, w1' with
    | 0, h => rw [← h.1]; exact hp
    | i + 1, ⟨r, y, h1, h2, h3⟩ => exact hH r w h2
  have hin : og_Pw (fun k => og_wk H u k) S n (n + 1) 0 j t := .inl ⟨hj, by omega, w, hwn, hwS w1', w3⟩
  rcases hbt with ⟨-, hno⟩ | ⟨am, bm, c1, c2, c3, c4, c5, c6, c7, c8⟩
  · exact absurd hin (hno j t)
  · refine ⟨am, bm, c1, c2, c3, c4, c5, c6, ?_⟩
    have g1 := c8 j t hin
    -- the walk of Karp's is no less
    have hle : (b : Int) * am ≤ a * bm := by
      have hj' : (0 : Int) < j := by omega
      refine Int.le_of_mul_le_mul_right (a := (j : Int)) ?_ hj'
      have e1 : (b : Int) * am * j = b * (am * j) := Int.mul_assoc _ _ _
      have e2 : a * bm * j = (a * j) * bm := by rw [Int.mul_assoc, Int.mul_comm (bm : Int), ← Int.mul_assoc]
      have e3 : (b : Int) * (t * bm) = (b * t) * bm := (Int.mul_assoc _ _ _).symm
      have m1 := Int.mul_le_mul_of_nonneg_left g1 (show (0 : Int) ≤ b by omega)
      have m2 := Int.mul_le_mul_of_nonneg_right (show (b : Int) * t ≤ a * j by omega) (show (0 : Int) ≤ bm by omega)
      omega
    have hge : a * bm ≤ (b : Int) * am := by
      rcases c7 with ⟨h1, h2, x, h3, h4, h5⟩ | ⟨h1, x, h2, -⟩
      · have hC : ∀ r q, H r q → -(5 * (b : Int) + (a.natAbs : Int)) ≤ b * u r q - a := fun r q h => by
          have := Int.mul_le_mul_of_nonneg_left (hu r q h).1 (show (0 : Int) ≤ b by omega)
          omega
        obtain ⟨A, π, q1, q2, q3, q4⟩ := og_pot (u := fun r q => (b : Int) * u r q - a) hH hp (C := 5 * (b : Int) + (a.natAbs : Int)) (by omega) hC k1
        have hA := hS3 A q1 (fun r q hr h => (q4 r q hr h).1) x h4
        obtain ⟨-, k3⟩ := og_pot_wk q4 hA (og_wk_lin (a := a) (b := (b : Int)) h5)
        omega
      · omega
    omega
theorem og_lowest {am a x' : Int} {bm b b' : Nat} {s : Int} (hs : s = 1 ∨ s = -1) (hb : 0 < b) (hbm : 0 < bm) (he : (b : Int) * am = a * bm) (hr : og_red (a * s) b x' b') : 0 < Nat.gcd am.natAbs bm ∧ ((Nat.gcd am.natAbs bm : Nat) : Int) ∣ s * am ∧ s * am / ((Nat.gcd am.natAbs bm : Nat) : Int) = x' ∧ bm / Nat.gcd am.natAbs bm = b' := by
  obtain ⟨r1, r2, r3, r4⟩ := hr
  have hg : 0 < Nat.gcd am.natAbs bm := Nat.gcd_pos_of_pos_right _ hbm
  obtain ⟨c, hc⟩ := Int.ofNat_dvd_left.mpr (Nat.gcd_dvd_left am.natAbs bm)
  obtain ⟨e, hE⟩ := Nat.gcd_dvd_right am.natAbs bm
  generalize hgg : Nat.gcd am.natAbs bm = g at hg hc hE ⊢
  have hg' : (0 : Int) < g := by omega
  have hco : Nat.gcd c.natAbs e = 1 := by
    have h1 : Nat.gcd (g * c.natAbs) (g * e) = g * Nat.gcd c.natAbs e := Nat.gcd_mul_left _ _ _
    have h2 : am.natAbs = g * c.natAbs := by rw [hc, Int.natAbs_mul, Int.natAbs_natCast]
    rw [← h2, ← hE, hgg] at h1
    exact (Nat.eq_of_mul_eq_mul_left hg (by rw [Nat.mul_one]; exact h1)).symm
  have he0 : 0 < e := by
    refine Nat.pos_of_ne_zero fun h => ?_
    rw [h, Nat.mul_zero] at hE; omega
  have hX : s * am = g * (s * c) := by rw [hc]; exact Int.mul_left_comm _ _ _
  have hXn : (s * c).natAbs = c.natAbs := by
    rcases hs with rfl | rfl
    · rw [Int.one_mul]
    · rw [Int.neg_mul, Int.one_mul, Int.natAbs_neg]
  have hbe : (b : Int) * c = a * e := by
    refine Int.eq_of_mul_eq_mul_left (a := (g : Int)) (by omega) ?_
    have h1 : (g : Int) * (b * c) = b * (g * c) := Int.mul_left_comm _ _ _
    have h2 : (g : Int) * (a * e) = a * (g * e) := Int.mul_left_comm _ _ _
    have h3 : ((bm : Nat) : Int) = (g : Int) * e := by rw [hE]; exact Int.natCast_mul _ _
    rw [h1, h2, ← hc, he, h3]
  have hx : (s * c) * b' = x' * e := by
    refine Int.eq_of_mul_eq_mul_right (a := (b : Int)) (by omega) ?_
    have h1 : s * c * b' * b = s * b' * (b * c) := by ac_rfl
    have h2 : x' * e * b = x' * b * e := by ac_rfl
    rw [h1, h2, r3, hbe]; ac_rfl
  obtain ⟨y1, y2⟩ := og_low (X := s * c) (x' := x') he0 r1 (by rw [hXn]; exact hco) r4 hx
  refine ⟨hg, ⟨s * c, hX⟩, ?_, ?_⟩
  · rw [hX, Int.mul_ediv_cancel_left _ (by omega)]; exact y1
  · rw [hE, Nat.mul_div_cancel_left _ hg]; exact y2
theorem og_k20 {M : om_M} (h : om_Inv M) : om_ok20 om_Inv M := by
  have hI := h
  obtain ⟨n, m, L, hB, hT, hQ, hA⟩ := h
  have ⟨⟨h8, h20, e10, e11, e462, e466⟩, hp, ht, hBa⟩ := hB
  intro x0 x1 x2
  show om_ok om_Inv _ _ M
  have hbad : om_C_worth om_F x0 x1 x2 M = some (-2147483648, M) → om_D_worth om_F x0 x1 x2 M = some (-2147483648, M) → om_ok om_Inv (fun M => om_C_worth om_F x0 x1 x2 M) (fun M => om_D_worth om_F x0 x1 x2 M) M := fun h1 h2 => ⟨_, M, M, h1, h2, hI⟩
  have c1 := om_C_isPlace_eq om_F x1 M e10
  have c2 := om_D_isPlace_eq om_F x1 M h8 e462
  have c3 := om_C_isPart_eq om_F x2 M
  have c4 : ∀ M, om_D_in om_F x2.toInt64 0 1 M = some (om_bi (om_pl x2), M) := fun M => by
    rw [om_D_in_rg om_F x2 0 1 0 1 M rfl rfl]
    have : om_rg 0 1 x2 = om_pl x2 := by
      unfold om_rg om_pl
      apply Bool.eq_iff_iff.mpr
      simp only [Bool.and_eq_true, Bool.or_eq_true, decide_eq_true_eq, Int32.le_iff_toInt_le, ← Int32.toInt_inj]
      have e0 : (0 : Int32).toInt = 0 := by decide
      have e1 : (1 : Int32).toInt = 1 := by decide
      omega
    rw [this]
  cases hpl : om_pl x0 with
  | false => exact hbad (by simp [om_C_worth, om_C_worth_b0, om_C_worth_b22, om_C_isPlayer_eq, hpl, om_bi]) (by simp [om_D_worth, om_D_worth_b0, om_D_worth_b25, om_D_isPlayer_eq, hpl, om_bi])
  | true =>
  cases hpp : om_pp n x1 with
  | false => exact hbad (by simp [om_C_worth, om_C_worth_b0, om_C_worth_b22, om_C_isPlayer_eq, c1, hpl, hpp, om_bi]) (by simp [om_D_worth, om_D_worth_b0, om_D_worth_b25, om_D_isPlayer_eq, c2, hpl, hpp, om_bi])
  | true =>
  cases hpt : om_pl x2 with
  | false => exact hbad (by simp [om_C_worth, om_C_worth_b0, om_C_worth_b22, om_C_isPlayer_eq, c1, c3, hpl, hpp, hpt, om_bi]) (by simp [om_D_worth, om_D_worth_b0, om_D_worth_b25, om_D_isPlayer_eq, c2, c4, hpl, hpp, hpt, om_bi])
  | true =>
  obtain ⟨pl, hpl2, rfl⟩ := om_pl_of hpl
  obtain ⟨p, hp0, rfl⟩ := om_pp_of (by omega) hpp
  obtain ⟨M1, a1, a2, a3, a4⟩ := og_loadTold hB.1 hBa (nI pl)
  have hs1 := og_sc_pv a3
  have hw1 := og_Ld_wn a2
  have hRk : og_Rok n (og_E M m (og_Ut M (nI pl))) := by
    have h := og_Ws_ok (n := n) hBa (og_Ut M (nI pl)) (-1)
    unfold og_Ws at h
    simpa using h
  have hGR : ∀ r q, r < n → (om_b (M1.1 11 r) q = true ↔ og_GR n (og_E M m (og_Ut M (nI pl))) r q) := fun r q hr => by
    obtain ⟨-, s, -, -, -, -, h4⟩ := a2
    rw [h4 r hr q]
    exact ⟨fun ⟨h1, h2⟩ => ⟨hr, h1, h2⟩, fun ⟨_, h1, h2⟩ => ⟨h1, h2⟩⟩
  have hne : ∀ r, r < n → ∃ q, og_S (M1.1 11 r) q := fun r hr => by
    obtain ⟨q, w, h1, h2⟩ := hRk.2.1 r hr
    exact ⟨q, (hGR r q hr).mpr ⟨hr, h1, w, h2⟩⟩
  have hP1 : og_P (fun _ => false) (og_ch (M1.1 11) n) n = 1 := by
    have : ∀ k, og_P (fun _ => false) (og_ch (M1.1 11) n) k = 1 := fun k => by
      induction k with
      | zero => rfl
      | succ k ih => show (if false = true then _ else og_P (fun _ => false) (og_ch (M1.1 11) n) k) = 1; rw [if_neg (by decide), ih]
    exact this n
  obtain ⟨σ, hσ, hσv⟩ : ∃ σ : Int32, og_sg σ ∧ σ = if pl = 0 then 1 else -1 := by
    by_cases h : pl = 0
    · exact ⟨1, .inl rfl, by rw [if_pos h]⟩
    · exact ⟨-1, .inr rfl, by rw [if_neg h]⟩
  obtain ⟨M2, a, b, x', b', i0, f1, f2, f3, f4, f5, f6, f7, f8, f9, f10, f11⟩ := og_findBest (M := M1) (σ := σ) h8 hRk hσ a2 hp0 hw1 hne (mi := fun _ => false) (x2 := -1) (.inl ⟨rfl, fun _ => rfl⟩) (by rw [hP1]; decide)
  rw [hP1] at f1
  have hHo : og_Ho n (og_E M m (og_Ut M (nI pl))) (og_On (M1.1 11) (fun _ => false) n i0) = og_GR n (og_E M m (og_Ut M (nI pl))) := by
    funext r q
    refine propext ⟨fun h => h.1, fun h => ⟨h, ?_⟩⟩
    show om_b (if false = true then _ else M1.1 11 r) q = true
    rw [if_neg (by decide)]
    exact (hGR r q h.1).mpr h
  rw [hHo] at f6 f7
  have hs2 : om_fr om_sc M M2 := om_fr_tr hs1 (og_pe_frsc f2)
  have hA2 : om_Al M2 := og_Al_fr (og_Al_fr hA (fun j => a3.1 59 j rfl) (a3.1 46 18 rfl)) (fun j => f2.1 59 j rfl) (f2.1 46 18 rfl)
  have hB2 := om_Bd_fr hB hs2
  obtain ⟨M3, M4, b1, b2, b3, b4, b5, bU, b6⟩ := og_layTold hB2 hA2 hpl2
  have hs4 : om_fr om_sc M M4 := om_fr_tr hs2 (om_fr_tr (og_sc_p59 b2) (og_sc_pm b3))
  have hUt : ∀ k, k < m → (og_Ut M2 (nI pl) k ↔ og_Ut M (nI pl) k) := fun k _ => by
    unfold og_Ut
    rw [hs2.1 4 k rfl, hs2.1 1 2 rfl]
    exact ⟨fun h p h1 h2 h3 => by have := h p h1 h2 h3; rwa [hs2.1 3 p rfl] at this, fun h p h1 h2 h3 => by rw [hs2.1 3 p rfl]; exact h p h1 h2 h3⟩
  have hU4 : ∀ k, k < m → (og_Um M4 k ↔ og_Ut M (nI pl) k) := fun k hk => (og_Um_pm b3).trans ((bU k hk).trans (hUt k hk))
  have hm : ∀ p, p < n → M1.1 11 p = M4.1 58 p := og_masks h8 a2 b6 (fun p q w _ _ => (og_E_fr hs2 (fun k hk => (hUt k hk).symm) p q w).symm)
  have hw4 := og_wn_59 hm hw1
  have e4 : M4.1 46 2 = nI n := by rw [hs4.1 46 2 rfl, e462]
  have hrf := og_reachFrom (M := M4) h8 e4 hw4 (og_ev n) (og_wn_bit h8 hp0)
  obtain ⟨M5, g1, g2, g3, g4⟩ := og_wo4 (om_up (om_up M4 46 23 0) 46 24 0) x2 (og_rc (M4.1 58) n (og_ev n) (1 <<< (nI p &&& 31))) σ
  have hp5 : om_fr og_pq M4 M5 := ⟨fun a j h => by
    have h5 : a ≠ 65 := fun h0 => by subst h0; cases h
    rw [g3 a j h5, om_up_at, om_up_at]
    by_cases ha : a = 46
    · subst ha
      have h6 : j ≠ 24 := fun h0 => by subst h0; cases h
      have h7 : j ≠ 23 := fun h0 => by subst h0; cases h
      rw [if_pos rfl, if_neg h6, if_pos rfl, if_neg h7]
    · rw [if_neg ha, if_neg ha], g4⟩
  have hs5 := om_fr_tr hs4 (og_sc_pq hp5)
  have hE5 : og_E M5 m (og_Um M5) = og_E M m (og_Ut M (nI pl)) := by
    rw [og_EU_fr hp5 m]
    funext r q w
    exact propext (og_E_fr hs4 (fun k hk => (hU4 k hk).symm) r q w)
  have hUm5 : ∀ k, k < m → (og_Um M5 k ↔ og_Ut M (nI pl) k) := fun k hk => by
    rw [← hU4 k hk]
    unfold og_Um
    rw [hp5.1 46 18 rfl, hp5.1 4 k rfl]
    exact ⟨fun ⟨h0, h3⟩ => ⟨h0, fun p h1 h2 => by have := h3 p h1 h2; rwa [hp5.1 59 p rfl] at this⟩, fun ⟨h0, h3⟩ => ⟨h0, fun p h1 h2 => by rw [hp5.1 59 p rfl]; exact h3 p h1 h2⟩⟩
  obtain ⟨M6, k1, k2, k3⟩ := og_wo5 (M := M5) (om_Bd_fr hB hs5) hσ (fun q ⟨k, hk, h⟩ => by
    rw [hs5.1 4 k rfl] at h
    obtain ⟨-, -, -, ⟨a, ha, hka⟩, -⟩ := hBa.1 k hk
    have hqa : nI q = nI a := h.symm.trans hka
    have hun : ∀ k', M.1 4 k' = nI a → (M.1 3 a = -1 ∨ M.1 3 a = nI k' ∨ ¬ (if om_b (M.1 1 2) a = true then (0 : Int32) else 1) = nI pl) → og_Ut M (nI pl) k' := fun k' h1 h2 r h3 h4 h5 => by
      have hra : r = a := (nI_eq (by omega) (by omega)).mp (h3.symm.trans h1)
      rw [hra] at h5 ⊢
      rcases h2 with h2 | h2 | h2
      · exact .inl h2
      · exact .inr h2
      · exact absurd h5 h2
    by_cases how : (if om_b (M.1 1 2) a = true then (0 : Int32) else 1) = nI pl
    · rcases (ht a ha).2 with h1 | ⟨k', h1, h2, h3⟩
      · exact ⟨k, hk, (hUm5 k hk).mpr (hun k hka (.inl h1)), by rw [hs5.1 4 k rfl, h]⟩
      · exact ⟨k', h1, (hUm5 k' h1).mpr (hun k' h3 (.inr (.inl h2))), by rw [hs5.1 4 k' rfl, h3, hqa]⟩
    · exact ⟨k, hk, (hUm5 k hk).mpr (hun k hka (.inr (.inr how))), by rw [hs5.1 4 k rfl, h]⟩) (by rw [hE5]; exact hRk) x2 (og_rc (M4.1 58) n (og_ev n) (1 <<< (nI p &&& 31))) g2 (by rw [g3 46 23 (by decide)]; simp [om_up_at]) (by rw [g3 46 24 (by decide)]; simp [om_up_at])
  rw [hE5] at k3
  have hS : ∀ r q, r < n → (og_S (M4.1 58 r) q ↔ og_GR n (og_E M m (og_Ut M (nI pl))) r q) := fun r q hr => by rw [← hm r hr]; exact hGR r q hr
  have hev : ∀ q, q < n → og_S (og_ev n) q := fun q hq => by unfold og_S; rw [og_b_ev h8]; simp [hq]
  obtain ⟨am, bm, l1, l2, l3, l4, l5, l6, l7⟩ := og_least (fun r q h => h.2.1) (fun p q h => og_us_b hRk hσ h) hp0 f3 f6 f7 (S := og_S (og_rc (M4.1 58) n (og_ev n) (1 <<< (nI p &&& 31)))) (og_rc_sub ((og_S_bit (by omega)).mpr rfl)) (fun r q hr h => og_rc_cl hw4 (og_wn_bit h8 hp0) h.1 hr ((hS r q h.1).mpr h) (hev q h.2.1)) (fun Z hZ hZ2 q hq => og_rc_min (Z := Z) (fun r hr => by rw [(og_S_bit (by omega)).mp hr]; exact hZ) (fun r q hr hA hB _ => hZ2 r q hA ((hS r q hr).mp hB)) q hq) k3
  obtain ⟨M7, d1, d2, d3, d4⟩ := og_noneAlone M6
  have hσi : σ.toInt = 1 ∨ σ.toInt = -1 := by
    rcases hσ with h | h
    · left; rw [h]; decide
    · right; rw [h]; decide
  obtain ⟨y1, y2, y3, y4⟩ := og_lowest hσi f3 l3 l7 f11
  have hs6 : om_fr om_sc M M6 := om_fr_tr hs5 (og_sc_pq k2)
  have hs7 : om_fr om_sc M M7 := om_fr_tr hs6 ⟨fun a j h => d3 a j (fun h0 => by subst h0; cases h), d4⟩
  have v23 : (M7.1 46 23).toInt = am := by rw [d3 46 23 (by decide), l1]
  have v24 : M7.1 46 24 = nI bm := by rw [d3 46 24 (by decide), l2]
  have h18 : M7.1 46 18 = -1 := by rw [d3 46 18 (by decide), k2.1 46 18 rfl, hp5.1 46 18 rfl, b3.1 46 18 rfl, b2.1 46 18 rfl, hA2.2]
  have hg8 : Nat.gcd am.natAbs bm ≤ 8 := Nat.le_trans (Nat.le_of_dvd l3 (Nat.gcd_dvd_right _ _)) l4
  have hgn : ¬ nI (Nat.gcd am.natAbs bm) = 0 := fun h => by
    have := (nI_eq (b := 0) (by omega) (by omega)).mp h; omega
  have habs : (if 0 ≤ M7.1 46 23 then M7.1 46 23 else -(M7.1 46 23)) = nI am.natAbs := by
    apply Int32.toInt_inj.mp
    rw [nI_toInt (by omega)]
    by_cases h0 : 0 ≤ M7.1 46 23
    · rw [if_pos h0, v23]
      have := Int32.le_iff_toInt_le.mp h0
      rw [v23, show (0 : Int32).toInt = 0 by decide] at this
      omega
    · rw [if_neg h0, Int32.toInt_neg, v23, Int.bmod_eq_of_le (by omega) (by omega)]
      rw [Int32.le_iff_toInt_le, v23, show (0 : Int32).toInt = 0 by decide] at h0
      omega
  have hdv := og_divisor am.natAbs bm (by omega) (by omega) M7
  have hmul : (σ * M7.1 46 23).toInt = σ.toInt * am := by
    refine og_mul_toInt rfl v23 (B := 50) ?_ ?_ (by omega) <;> (rcases hσi with h | h <;> rw [h] <;> omega)
  have hX : σ * M7.1 46 23 / nI (Nat.gcd am.natAbs bm) = M2.1 14 0 := by
    apply Int32.toInt_inj.mp
    rw [og_div8 hmul (by rcases hσi with h | h <;> rw [h] <;> omega) (by rcases hσi with h | h <;> rw [h] <;> omega) y1 hg8 y2, y3, f9]
  have hY : nI bm / nI (Nat.gcd am.natAbs bm) = M2.1 14 1 := by
    rw [pk_div (by omega) y1 (by omega), y4, f10]
  refine ⟨if x2 = 0 then M2.1 14 0 else M2.1 14 1, M2, M7, ?_, ?_, om_Inv_fr hB hT hQ hs7 ⟨d2, h18⟩⟩
  · show om_C_worth om_F (nI pl) (nI p) x2 M = _
    have hfl : om_E_findLeft om_F (nI pl) (nI p) M1 = some M2 := by
      unfold om_E_findLeft om_E_findLeft_b0 om_E_findLeft_b13
      have h01 : nI pl = 0 ↔ pl = 0 := nI_eq (b := 0) (by omega) (by omega)
      have f1' : om_E_findBest om_F (-1) 1 σ (nI p) M1 = some M2 := f1
      rw [hσv] at f1'
      by_cases h : pl = 0
      · rw [if_pos (h01.mpr h)]; rw [if_pos h] at f1'; rw [f1']; rfl
      · rw [if_neg (fun h' => h (h01.mp h'))]; rw [if_neg h] at f1'; rw [f1']; rfl
    simp only [om_C_worth, om_C_worth_b0, om_C_worth_b71, om_C_isPlayer_eq, c1, c3, hpl, hpp, hpt, om_bi, Option.bind_some, cond_true, show ¬ (1 : Int32) = 0 by decide, if_false, a1, hfl]
    split <;> rfl
  · show om_D_worth om_F (nI pl) (nI p) x2 M2 = _
    have h59 : om_D_worth_b59 om_F x2 (og_rc (M4.1 58) n (og_ev n) (1 <<< (nI p &&& 31))) σ M4 = some (if x2 = 0 then M2.1 14 0 else M2.1 14 1, M7) := by
      have h299 : om_D_worth_b299 om_F x2 σ (nI am.natAbs) M7 = some (if x2 = 0 then M2.1 14 0 else M2.1 14 1, M7) := by
        unfold om_D_worth_b299 om_D_worth_b332
        rw [v24, hdv]
        simp only [Option.bind_some, hgn, decide_false, Bool.not_false, cond_true, v24, hX, hY]
        split <;> rfl
      unfold om_D_worth_b59
      rw [g1]
      simp only [Option.bind_some, k1, d1]
      rw [← habs] at h299
      by_cases h0 : 0 ≤ M7.1 46 23
      · rw [if_pos h0] at h299 ⊢; exact h299
      · rw [if_neg h0] at h299 ⊢; exact h299
    have hev2 : (1 : Int32) <<< (M4.1 46 2 &&& 31) - 1 = og_ev n := by rw [e4]; rfl
    have h01 : nI pl = 0 ↔ pl = 0 := nI_eq (b := 0) (by omega) (by omega)
    simp only [om_D_worth, om_D_worth_b0, om_D_isPlayer_eq, om_D_isPlace_eq om_F (nI p) M2 h8 hB2.1.2.2.2.2.1, c4, hpl, hpp, hpt, om_bi, Option.bind_some, cond_true, show ¬ (1 : Int32) = 0 by decide, if_false, b1, hev2, hrf]
    rw [hσv] at h59
    by_cases h : pl = 0
    · rw [if_pos (h01.mpr h)]; rw [if_pos h] at h59; exact h59
    · rw [if_neg (fun h' => h (h01.mp h'))]; rw [if_neg h] at h59; exact h59
