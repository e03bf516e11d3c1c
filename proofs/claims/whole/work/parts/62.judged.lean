/-! ===== judged ===== -/
def og_p59 (a _j : Nat) : Bool := Nat.beq a 59
theorem og_p59_sc {a j : Nat} (h : om_sc a j = false) : og_p59 a j = false := by
  cases h1 : og_p59 a j with
  | false => rfl
  | true =>
    have : a = 59 := Nat.eq_of_beq_eq_true h1
    subst this; cases h
theorem og_sc_p59 {M M' : om_M} (h : om_fr og_p59 M M') : om_fr om_sc M M' := om_fr_mono h fun _ _ h => og_p59_sc h
theorem og_wn_59 {M1 M2 : om_M} {n : Nat} (h : ∀ p, p < n → M1.1 11 p = M2.1 58 p) (h2 : ∀ p, p < n → og_wn n (M1.1 11 p)) : ∀ p, p < n → og_wn n (M2.1 58 p) := fun p hp => by rw [← h p hp]; exact h2 p hp
theorem og_ps_congr {N N' : Nat → Int32} {n : Nat} (h : ∀ p, p < n → N p = N' p) (wi : Int32) : ∀ k, k ≤ n → ∀ x, og_ps N wi k x = og_ps N' wi k x
  | 0, _, _ => rfl
  | k + 1, hk, x => by
    show (if om_b (og_ps N wi k x) k = true then og_ps N wi k x ||| (N k &&& wi) else og_ps N wi k x) = (if om_b (og_ps N' wi k x) k = true then og_ps N' wi k x ||| (N' k &&& wi) else og_ps N' wi k x)
    rw [og_ps_congr h wi k (by omega) x, h k (by omega)]
theorem og_itr_congr {f g : Int32 → Int32} (h : ∀ x, f x = g x) : ∀ k x, og_itr f k x = og_itr g k x := by
  have : f = g := funext h
  subst this; exact fun _ _ => rfl
theorem og_rc_congr {N N' : Nat → Int32} {n : Nat} (h : ∀ p, p < n → N p = N' p) (wi x : Int32) : og_rc N n wi x = og_rc N' n wi x :=
  og_itr_congr (fun x => og_ps_congr h wi n (Nat.le_refl n) x) n x
theorem og_mk_congr {f g : Nat → Bool} : ∀ {n : Nat}, (∀ p, p < n → f p = g p) → og_mk f n = og_mk g n
  | 0, _ => rfl
  | n + 1, h => by
    show (if f n = true then og_mk f n ||| (1 <<< (nI n &&& 31)) else og_mk f n) = (if g n = true then og_mk g n ||| (1 <<< (nI n &&& 31)) else og_mk g n)
    rw [og_mk_congr (n := n) (fun p hp => h p (by omega)), h n (by omega)]
theorem og_bad_congr {N N' : Nat → Int32} {n : Nat} (h : ∀ p, p < n → N p = N' p) (num : Nat → Nat) (w : Nat) : og_bad N num n w = og_bad N' num n w :=
  og_mk_congr fun p hp => by rw [og_rc_congr h, h p hp]
theorem og_right_congr {N N' : Nat → Int32} {n : Nat} (h : ∀ p, p < n → N p = N' p) (num : Nat → Nat) (w : Nat) : og_right N num n w = og_right N' num n w :=
  og_mk_congr fun p _ => by rw [og_rc_congr h, og_bad_congr h]
/-- the told moves of one player, laid by the model -/
theorem og_layTold {M : om_M} {n m pl : Nat} (hB : om_Bd M n m) (hA : om_Al M) (hpl : pl < 2) : ∃ M1 M2, om_D_layTold om_F (nI pl) M = some M2 ∧ om_fr og_p59 M M1 ∧ om_fr og_pm M1 M2 ∧ (∀ p, p < n → M1.1 59 p = if M.1 47 p = nI pl then M.1 52 p else -1) ∧ (∀ p, n ≤ p → p < 8 → M1.1 59 p = -1) ∧ (∀ k, k < m → (og_Um M1 k ↔ og_Ut M (nI pl) k)) ∧ ∀ p, p < n → ∀ q, om_b (M2.1 58 p) q = true ↔ (q < n ∧ ∃ w, og_E M m (og_Ut M (nI pl)) p q w) := by
  have ⟨⟨h8, h20, e10, e11, e462, e466⟩, hp, ht, hBa⟩ := hB
  have hF : n < om_F := Nat.lt_of_le_of_lt h8 (by decide)
  obtain ⟨M1, hz, q1, q2, q3⟩ := om_lp (f := om_D_layTold_L2_body om_F) (fun i s => ∃ M', s = (nI pl, nI i, M') ∧ om_fr og_p59 M M' ∧ (∀ p, p < i → M'.1 59 p = if M.1 47 p = nI pl then M.1 52 p else -1) ∧ (∀ p, i ≤ p → p < 8 → M'.1 59 p = -1)) (fun M' : om_M => om_fr og_p59 M M' ∧ (∀ p, p < n → M'.1 59 p = if M.1 47 p = nI pl then M.1 52 p else -1) ∧ (∀ p, n ≤ p → p < 8 → M'.1 59 p = -1)) n (F := om_F) hF (s := (nI pl, 0, M)) ⟨M, rfl, om_fr_rfl, fun j hj => absurd hj (by omega), fun p _ hp => hA.1 p hp⟩ (by
    rintro i s hi ⟨M', rfl, g1, g2, g3⟩
    have hin : om_in (nI i) 8 = true := om_in_nI (by omega) (by omega)
    have hcl : (nI i).toNatClampNeg = i := nI_clamp (by omega)
    have hlt : ¬ nI n ≤ nI i := nI_ge hi (by omega)
    have e2 : M'.1 46 2 = nI n := by rw [g1.1 46 2 rfl, e462]
    refine .inl ⟨(nI pl, nI (i + 1), om_up M' 59 i (if M.1 47 i = nI pl then M.1 52 i else -1)), ?_, _, rfl, om_fr_up g1 rfl, fun j hj => ?_, fun j hj hj8 => ?_⟩
    · simp only [om_D_layTold_L2_body, om_D_layTold_b2, om_D_layTold_b35, e2, hlt, hin, hcl, if_false, cond_true, og_nI1, g1.1 47 i rfl, g1.1 52 i rfl]
      split <;> rfl
    · by_cases hji : j = i
      · subst hji; simp [om_up_at]
      · simp [om_up_at, hji, g2 j (by omega)]
    · simp [om_up_at, show ¬ j = i by omega, g3 j (by omega) hj8]) (by
    rintro s ⟨M', rfl, g1, g2, g3⟩
    have e2 : M'.1 46 2 = nI n := by rw [g1.1 46 2 rfl, e462]
    exact ⟨_, by simp only [om_D_layTold_L2_body, om_D_layTold_b2, e2]; rw [if_pos Int32.le_rfl], g1, g2, g3⟩)
  have hB1 := om_Bd_fr hB (og_sc_p59 q1)
  obtain ⟨M2, c1, c2, c3⟩ := og_layMoves hB1.1 hB1.2.2.2
  have hU : ∀ k, k < m → (og_Um M1 k ↔ og_Ut M (nI pl) k) := by
    intro k hk
    obtain ⟨-, -, -, ⟨a, ha, hka⟩, -⟩ := hBa.1 k hk
    have hw : ∀ p, M.1 4 k = nI p → p < 8 → p < n := fun p h hp8 => by
      rw [hka] at h
      have := (nI_eq (a := a) (b := p) (by omega) (by omega)).mp h
      omega
    unfold og_Um og_Ut
    rw [q1.1 46 18 rfl, hA.2]
    constructor
    · rintro ⟨-, h⟩ p h1 h2 h3
      have hpn := hw p h1 h2
      have := h p (by rw [q1.1 4 k rfl, h1]) h2
      rw [q2 p hpn, (hp.2 p hpn).1, if_pos h3, (ht p hpn).1] at this
      exact this
    · intro h
      refine ⟨fun h => nI_pos (show k < 2 ^ 31 by omega) (by rw [h]; decide), fun p h1 h2 => ?_⟩
      rw [q1.1 4 k rfl] at h1
      have hpn := hw p h1 h2
      rw [q2 p hpn, (hp.2 p hpn).1, (ht p hpn).1]
      by_cases h3 : (if om_b (M.1 1 2) p = true then (0 : Int32) else 1) = nI pl
      · rw [if_pos h3]; exact h p h1 h2 h3
      · rw [if_neg h3]; exact .inl rfl
  refine ⟨M1, M2, ?_, q1, c2, q2, q3, hU, fun p hp q => ?_⟩
  · unfold om_D_layTold om_D_layTold_b0 om_D_layTold_L2
    rw [hz]
    simp only [Option.bind_some, c1]
  · rw [c3 p hp q]
    exact ⟨fun ⟨h1, w, h2⟩ => ⟨h1, w, (og_E_fr (og_sc_p59 q1) (fun k hk => (hU k hk).symm) p q w).mp h2⟩, fun ⟨h1, w, h2⟩ => ⟨h1, w, (og_E_fr (og_sc_p59 q1) (fun k hk => (hU k hk).symm) p q w).mpr h2⟩⟩
theorem og_right_L {n : Nat} {M : om_M} (h8 : n ≤ 8) (e : M.1 46 2 = nI n) (hN : ∀ p, p < n → og_wn n (M.1 58 p)) (num : Nat → Nat) (w : Nat) : om_D_rightOf_L16 om_F (og_bad (M.1 58) num n w, 0, 0, M) = some (og_right (M.1 58) num n w, M) := by
  have hF : n < om_F := Nat.lt_of_le_of_lt h8 (by decide)
  have or0 : ∀ y : Int32, y ||| 0 = y := fun y => om_ext fun j _ => by rw [om_b_or, om_b_0, Bool.or_false]
  obtain ⟨z, hz, rfl⟩ := om_lp (f := om_D_rightOf_L16_body om_F) (fun i s => s = (og_bad (M.1 58) num n w, og_mk (fun p => decide (og_rc (M.1 58) n (og_ev n) (1 <<< (nI p &&& 31)) &&& og_bad (M.1 58) num n w = 0)) i, nI i, M)) (fun z => z = (og_right (M.1 58) num n w, M)) n hF (s := (og_bad (M.1 58) num n w, 0, 0, M)) rfl (by
    rintro i s hi rfl
    have hlt : ¬ nI n ≤ nI i := nI_ge hi (by omega)
    refine .inl ⟨_, ?_, rfl⟩
    have h := og_reachFrom (M := M) h8 e hN (og_ev n) (og_wn_bit h8 hi)
    unfold og_ev at h ⊢
    simp only [om_D_rightOf_L16_body, om_D_rightOf_b16, om_D_rightOf_b55, e, hlt, if_false, h, Option.bind_some, og_nI1, or0, og_mk]
    by_cases h0 : og_rc (M.1 58) n ((1 : Int32) <<< (nI n &&& 31) - 1) (1 <<< (nI i &&& 31)) &&& og_bad (M.1 58) num n w = 0
    · simp [h0]
    · simp [h0]) (by
    rintro s rfl
    exact ⟨_, by simp only [om_D_rightOf_L16_body, om_D_rightOf_b16, e]; rw [if_pos Int32.le_rfl]; rfl, rfl⟩)
  exact hz
theorem og_k18 {M : om_M} (h : om_Inv M) : om_ok18 om_Inv M := by
  have hI := h
  obtain ⟨n, m, L, hB, hT, hQ, hA⟩ := h
  have ⟨⟨h8, h20, e10, e11, e462, e466⟩, hp, ht, hBa⟩ := hB
  intro x0
  show om_ok om_Inv _ _ M
  cases hpl : om_pl x0 with
  | false => exact ⟨-2, M, M, by simp [om_C_judged, om_C_judged_b0, om_C_isPlayer_eq, hpl, om_bi], by simp [om_D_judged, om_D_judged_b0, om_D_judged_b17, om_D_isPlayer_eq, hpl, om_bi], hI⟩
  | true =>
  obtain ⟨pl, hpl2, rfl⟩ := om_pl_of hpl
  obtain ⟨M1, a1, a2, a3, a4⟩ := og_loadTold hB.1 hBa (nI pl)
  have hs1 := og_sc_pv a3
  have hA1 : om_Al M1 := og_Al_fr hA (fun j => a3.1 59 j rfl) (a3.1 46 18 rfl)
  have hB1 := om_Bd_fr hB hs1
  obtain ⟨M2, M3, b1, b2, b3, b4, b5, -, b6⟩ := og_layTold hB1 hA1 hpl2
  obtain ⟨M4, d1, d2, d3, d4⟩ := og_noneAlone M3
  have hUt : ∀ k, k < m → (og_Ut M1 (nI pl) k ↔ og_Ut M (nI pl) k) := fun k _ => by
    unfold og_Ut
    rw [a3.1 4 k rfl, a3.1 1 2 rfl]
    exact ⟨fun h p h1 h2 h3 => by have := h p h1 h2 h3; rwa [a3.1 3 p rfl] at this, fun h p h1 h2 h3 => by rw [a3.1 3 p rfl]; exact h p h1 h2 h3⟩
  have hm : ∀ p, p < n → M1.1 11 p = M3.1 58 p := og_masks h8 a2 b6 (fun p q w _ _ => (og_E_fr hs1 (fun k hk => (hUt k hk).symm) p q w).symm)
  have hw1 := og_Ld_wn a2
  have hw3 := og_wn_59 hm hw1
  have hs3 : om_fr om_sc M M3 := om_fr_tr hs1 (om_fr_tr (og_sc_p59 b2) (og_sc_pm b3))
  have e1 : M3.1 46 2 = nI n := by rw [hs3.1 46 2 rfl, e462]
  have hnum : ∀ p, p < n → M1.1 2 p = nI (og_num M p) ∧ og_num M p < 8 := fun p hpn => by rw [a3.1 2 p rfl]; exact og_num_eq hp hpn
  have hnum3 : ∀ p, p < n → M3.1 48 p = nI (og_num M p) ∧ og_num M p < 8 := fun p hpn => by rw [hs3.1 48 p rfl, (hp.2 p hpn).2.1]; exact og_num_eq hp hpn
  have hodd : om_C_oddness om_F (nI pl) M1 = some (nI (1 - pl), M1) := by
    have : pl = 0 ∨ pl = 1 := by omega
    rcases this with rfl | rfl <;> rfl
  have hs4 : om_fr om_sc M M4 := om_fr_tr hs3 ⟨fun a j h => d3 a j (fun h0 => by subst h0; cases h), d4⟩
  refine ⟨og_right (M1.1 11) (og_num M) n (1 - pl), M1, M4, ?_, ?_, om_Inv_fr hB hT hQ hs4 ⟨d2, by rw [d3 46 18 (by decide), b3.1 46 18 rfl, b2.1 46 18 rfl, a3.1 46 18 rfl, hA.2]⟩⟩
  · show om_C_judged om_F (nI pl) M = _
    simp only [om_C_judged, om_C_judged_b0, om_C_isPlayer_eq, hpl, om_bi, Option.bind_some, cond_true, show ¬ (1 : Int32) = 0 by decide, if_false, a1, og_everywhere om_F a2.1, hodd, og_wrong h8 a2.1 hnum (show 1 - pl < 2 by omega), og_judge_eq h8 hw1]
  · show om_D_judged om_F (nI pl) M1 = _
    simp only [om_D_judged, om_D_judged_b0, om_D_judged_b17, om_D_rightOf, om_D_rightOf_b0, om_D_isPlayer_eq, hpl, om_bi, Option.bind_some, cond_true, show ¬ (1 : Int32) = 0 by decide, if_false, b1, og_badFor h8 e1 hw3 hnum3 hpl2, og_right_L h8 e1 hw3, d1, og_right_congr hm]
