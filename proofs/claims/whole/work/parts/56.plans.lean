/-! ===== all plans ===== -/
def og_ba (x : Int32) (k : Nat) : Int32 := og_itr (fun x => x &&& (x - 1)) k x &&& -og_itr (fun x => x &&& (x - 1)) k x
theorem og_bitAt {k : Nat} (hk : k < 100) (x : Int32) (M : om_M) : om_E_bitAt om_F x (nI k) M = some (og_ba x k, M) := by
  obtain ⟨z, hz, rfl⟩ := om_lp (f := om_E_bitAt_L4_body om_F) (fun i s => s = (nI k, og_itr (fun x => x &&& (x - 1)) i x, nI i, M)) (fun z => z = (og_itr (fun x => x &&& (x - 1)) k x, M)) k (F := om_F) (Nat.lt_trans hk (by decide)) (s := (nI k, x, 0, M)) rfl (by
    rintro i s hi rfl
    have hlt : ¬ nI k ≤ nI i := nI_ge hi (by omega)
    refine .inl ⟨_, ?_, rfl⟩
    simp only [om_E_bitAt_L4_body, om_E_bitAt_b4, hlt, if_false, og_nI1]
    rfl) (by
    rintro s rfl
    exact ⟨_, by simp only [om_E_bitAt_L4_body, om_E_bitAt_b4]; rw [if_pos Int32.le_rfl], rfl⟩)
  unfold om_E_bitAt om_E_bitAt_b0 om_E_bitAt_L4
  rw [hz]; rfl
set_option maxRecDepth 100000 in
theorem og_ba_all : ∀ c : Fin 256, (∀ i : Fin 8, i.val < og_cnt (om_b (nI c.val)) 8 → ∃ q : Fin 8, om_b (nI c.val) q.val = true ∧ og_ba (nI c.val) i.val = 1 <<< (nI q.val &&& 31)) ∧ (∀ q : Fin 8, om_b (nI c.val) q.val = true → ∃ i : Fin 8, i.val < og_cnt (om_b (nI c.val)) 8 ∧ og_ba (nI c.val) i.val = 1 <<< (nI q.val &&& 31)) := by decide +kernel
set_option maxRecDepth 100000 in
theorem og_ba_one : ∀ c : Fin 256, og_cnt (om_b (nI c.val)) 8 = 1 → og_ba (nI c.val) 0 = nI c.val := by decide +kernel
theorem og_cnt8 {n : Nat} (h8 : n ≤ 8) {x : Int32} (hx : og_wn n x) : og_cnt (om_b x) 8 = og_cnt (om_b x) n := by
  have := og_cnt_more (f := om_b x) (n := n) (k := 8 - n) hx
  rw [show n + (8 - n) = 8 by omega] at this
  exact this
theorem og_ba_bit {n : Nat} (h8 : n ≤ 8) {x : Int32} (hx : og_wn n x) {i : Nat} (hi : i < og_cnt (om_b x) n) : ∃ q, q < n ∧ om_b x q = true ∧ og_ba x i = 1 <<< (nI q &&& 31) := by
  obtain ⟨c, hc, rfl⟩ := og_small (n := 8) (fun i hi => hx i (by omega))
  have hle := og_cnt_le (om_b (nI c)) n
  obtain ⟨q, h1, h2⟩ := (og_ba_all ⟨c, hc⟩).1 ⟨i, by omega⟩ (by rw [og_cnt8 h8 hx]; exact hi)
  exact ⟨q.val, og_S_lt hx h1, h1, h2⟩
theorem og_ba_sur {n : Nat} (h8 : n ≤ 8) {x : Int32} (hx : og_wn n x) {q : Nat} (hq : om_b x q = true) : ∃ i, i < og_cnt (om_b x) n ∧ og_ba x i = 1 <<< (nI q &&& 31) := by
  have hqn := og_S_lt hx hq
  obtain ⟨c, hc, rfl⟩ := og_small (n := 8) (fun i hi => hx i (by omega))
  obtain ⟨i, h1, h2⟩ := (og_ba_all ⟨c, hc⟩).2 ⟨q, by omega⟩ hq
  exact ⟨i.val, by rw [← og_cnt8 h8 hx]; exact h1, h2⟩
theorem og_ba_1 {n : Nat} (h8 : n ≤ 8) {x : Int32} (hx : og_wn n x) (h : og_cnt (om_b x) n = 1) : og_ba x 0 = x := by
  obtain ⟨c, hc, rfl⟩ := og_small (n := 8) (fun i hi => hx i (by omega))
  exact og_ba_one ⟨c, hc⟩ (by rw [og_cnt8 h8 hx]; exact h)
/-- how many plans the first places have -/
def og_P (mi : Nat → Bool) (c : Nat → Nat) : Nat → Nat
  | 0 => 1
  | p + 1 => if mi p = true then og_P mi c p * c p else og_P mi c p
theorem og_P_pos {mi : Nat → Bool} {c : Nat → Nat} (hc : ∀ p, 0 < c p) : ∀ p, 0 < og_P mi c p
  | 0 => Nat.one_pos
  | p + 1 => by
    show 0 < if mi p = true then og_P mi c p * c p else og_P mi c p
    split
    · exact Nat.mul_pos (og_P_pos hc p) (hc p)
    · exact og_P_pos hc p
theorem og_P_le {mi : Nat → Bool} {c : Nat → Nat} (hc : ∀ p, c p ≤ 8) : ∀ p, og_P mi c p ≤ 8 ^ p
  | 0 => Nat.le_refl 1
  | p + 1 => by
    have ih := og_P_le (mi := mi) hc p
    show (if mi p = true then og_P mi c p * c p else og_P mi c p) ≤ 8 ^ p * 8
    split
    · exact Nat.mul_le_mul ih (hc p)
    · have := Nat.le_mul_of_pos_right (8 ^ p) (show 0 < 8 by omega); omega
theorem og_P_two {mi : Nat → Bool} {c : Nat → Nat} (hc : ∀ p, c p ≤ 8) : ∀ p, og_P mi c p * og_P (fun p => !mi p) c p ≤ 8 ^ p
  | 0 => Nat.le_refl 1
  | p + 1 => by
    have ih := og_P_two (mi := mi) hc p
    show (if mi p = true then og_P mi c p * c p else og_P mi c p) * (if (!mi p) = true then og_P (fun p => !mi p) c p * c p else og_P (fun p => !mi p) c p) ≤ 8 ^ p * 8
    cases hm : mi p with
    | true =>
      simp only [if_true, Bool.not_true, if_false]
      have e : og_P mi c p * c p * og_P (fun p => !mi p) c p = og_P mi c p * og_P (fun p => !mi p) c p * c p := Nat.mul_right_comm _ _ _
      simp
      rw [e]; exact Nat.mul_le_mul ih (hc p)
    | false =>
      simp
      rw [← Nat.mul_assoc]; exact Nat.mul_le_mul ih (hc p)
/-- every choice has its number -/
theorem og_P_sur {mi : Nat → Bool} {c d : Nat → Nat} (hc : ∀ p, 0 < c p) (hd : ∀ p, d p < c p) : ∀ n, ∃ i, i < og_P mi c n ∧ ∀ l, l < n → mi l = true → i / og_P mi c l % c l = d l
  | 0 => ⟨0, Nat.one_pos, fun l h => absurd h (by omega)⟩
  | n + 1 => by
    obtain ⟨i, h1, h2⟩ := og_P_sur (mi := mi) hc hd n
    by_cases hm : mi n = true
    · refine ⟨i + og_P mi c n * d n, ?_, fun l hl hml => ?_⟩
      · show _ < if mi n = true then og_P mi c n * c n else og_P mi c n
        rw [if_pos hm]
        have h3 : og_P mi c n * (d n + 1) ≤ og_P mi c n * c n := Nat.mul_le_mul_left _ (hd n)
        rw [Nat.mul_add, Nat.mul_one] at h3
        omega
      · have hdvd : ∀ k, l + 1 ≤ k → og_P mi c l * c l ∣ og_P mi c k := by
          intro k hk
          induction k with
          | zero => omega
          | succ k ih =>
            show _ ∣ if mi k = true then og_P mi c k * c k else og_P mi c k
            by_cases hlk : l = k
            · subst hlk; rw [if_pos hml]; exact Nat.dvd_refl _
            · have := ih (by omega)
              split
              · exact Nat.dvd_mul_right_of_dvd this _
              · exact this
        by_cases hln : l = n
        · subst hln
          rw [Nat.add_mul_div_left _ _ (og_P_pos hc l), Nat.div_eq_of_lt h1, Nat.zero_add, Nat.mod_eq_of_lt (hd l)]
        · obtain ⟨t, ht⟩ := hdvd n (by omega)
          rw [ht, Nat.mul_assoc, Nat.mul_assoc, Nat.add_mul_div_left _ _ (og_P_pos hc l), Nat.add_mul_mod_self_left]
          exact h2 l (by omega) hml
    · refine ⟨i, ?_, fun l hl hml => ?_⟩
      · show i < if mi n = true then og_P mi c n * c n else og_P mi c n
        rw [if_neg hm]; exact h1
      · by_cases hln : l = n
        · subst hln; exact absurd hml hm
        · exact h2 l (by omega) hml
theorem og_P_div {mi : Nat → Bool} {c : Nat → Nat} (i p : Nat) : i / og_P mi c (p + 1) = if mi p = true then i / og_P mi c p / c p else i / og_P mi c p := by
  show i / (if mi p = true then og_P mi c p * c p else og_P mi c p) = _
  split
  · rw [Nat.div_div_eq_div_mul]
  · rfl
section CP
variable {n : Nat} {M : om_M} {mi : Nat → Bool}
/-- the choices of a place (one where there is no place) -/
def og_ch (N : Nat → Int32) (n p : Nat) : Nat := if p < n then og_cnt (om_b (N p)) n else 1
theorem og_ch_pos {N : Nat → Int32} (hN : ∀ p, p < n → og_wn n (N p)) (hne : ∀ p, p < n → ∃ q, og_S (N p) q) (p : Nat) : 0 < og_ch N n p := by
  unfold og_ch
  split
  · rename_i hp
    obtain ⟨q, hq⟩ := hne p hp
    have := og_cnt_S_lt (x := 0) (y := N p) (n := n) (fun p h => absurd h (og_S0 p)) (og_S_lt (hN p hp) hq) hq (og_S0 q)
    omega
  · omega
theorem og_ch_le {N : Nat → Int32} (h8 : n ≤ 8) (p : Nat) : og_ch N n p ≤ 8 := by
  unfold og_ch
  split
  · have := og_cnt_le (om_b (N p)) n; omega
  · omega
theorem og_choosePlan (h8 : n ≤ 8) (e70 : M.1 7 0 = nI n) (hN : ∀ p, p < n → og_wn n (M.1 11 p)) (hne : ∀ p, p < n → ∃ q, og_S (M.1 11 p) q) {x2 : Int32} (hx2 : (x2 = -1 ∧ ∀ p, mi p = false) ∨ ∃ pl, pl < 2 ∧ x2 = nI pl ∧ mi = og_mi (M.1 7 1) pl) {i : Nat} (hi : i < 2 ^ 31) : ∃ M', om_E_choosePlan om_F x2 (nI i) M = some M' ∧ (∀ a j, a ≠ 15 → M'.1 a j = M.1 a j) ∧ M'.2 = M.2 ∧ ∀ p, p < n → M'.1 15 p = if mi p = true then og_ba (M.1 11 p) (i / og_P mi (og_ch (M.1 11) n) p % og_ch (M.1 11) n p) else M.1 11 p := by
  have key : ∀ s0 : Int32, (∀ p, p < 8 → om_b s0 p = mi p) → ∃ M', om_E_choosePlan_b14 om_F (nI i) s0 M = some M' ∧ (∀ a j, a ≠ 15 → M'.1 a j = M.1 a j) ∧ M'.2 = M.2 ∧ ∀ p, p < n → M'.1 15 p = if mi p = true then og_ba (M.1 11 p) (i / og_P mi (og_ch (M.1 11) n) p % og_ch (M.1 11) n p) else M.1 11 p := by
    intro s0 hs0
    obtain ⟨M', hz, q1, q2, q3⟩ := om_lp (f := om_E_choosePlan_L22_body om_F) (fun t s => ∃ M', s = (s0, nI (i / og_P mi (og_ch (M.1 11) n) t), nI t, M') ∧ (∀ a j, a ≠ 15 → M'.1 a j = M.1 a j) ∧ M'.2 = M.2 ∧ ∀ p, p < t → M'.1 15 p = if mi p = true then og_ba (M.1 11 p) (i / og_P mi (og_ch (M.1 11) n) p % og_ch (M.1 11) n p) else M.1 11 p) (fun M' : om_M => (∀ a j, a ≠ 15 → M'.1 a j = M.1 a j) ∧ M'.2 = M.2 ∧ ∀ p, p < n → M'.1 15 p = if mi p = true then og_ba (M.1 11 p) (i / og_P mi (og_ch (M.1 11) n) p % og_ch (M.1 11) n p) else M.1 11 p) n (F := om_F) (Nat.lt_of_le_of_lt h8 (by decide)) (s := (s0, nI i, 0, M)) ⟨M, by show _ = (s0, nI (i / 1), nI 0, M); rw [Nat.div_one]; rfl, fun _ _ _ => rfl, rfl, fun p hp => absurd hp (by omega)⟩ (by
      rintro t s ht ⟨M', rfl, g1, g2, g3⟩
      have hin : om_in (nI t) 8 = true := om_in_nI (by omega) (by omega)
      have hcl : (nI t).toNatClampNeg = t := nI_clamp (by omega)
      have hlt : ¬ nI n ≤ nI t := nI_ge ht (by omega)
      have e7 : M'.1 7 0 = nI n := by rw [g1 7 0 (by decide), e70]
      have e11 : M'.1 11 t = M.1 11 t := g1 11 t (by decide)
      have u15 : (om_up M' 15 t (M.1 11 t)).1 15 t = M.1 11 t := by simp [om_up_at]
      have hbc := fun M'' => og_bitCount om_F h8 (hN t ht) M''
      have hc : og_ch (M.1 11) n t = og_cnt (om_b (M.1 11 t)) n := by unfold og_ch; rw [if_pos ht]
      have hcp := og_ch_pos hN hne t
      have hc8 := og_ch_le (N := M.1 11) h8 t
      rw [← hc] at hbc
      have hL : i / og_P mi (og_ch (M.1 11) n) t < 2 ^ 31 := Nat.lt_of_le_of_lt (Nat.div_le_self _ _) hi
      have put : ∀ y : Int32, y = (if mi t = true then og_ba (M.1 11 t) (i / og_P mi (og_ch (M.1 11) n) t % og_ch (M.1 11) n t) else M.1 11 t) → ∀ M'' : om_M, (∀ a j, ¬ (a = 15 ∧ j = t) → M''.1 a j = M'.1 a j) → M''.2 = M'.2 → M''.1 15 t = y → (∀ a j, a ≠ 15 → M''.1 a j = M.1 a j) ∧ M''.2 = M.2 ∧ ∀ p, p < t + 1 → M''.1 15 p = if mi p = true then og_ba (M.1 11 p) (i / og_P mi (og_ch (M.1 11) n) p % og_ch (M.1 11) n p) else M.1 11 p := by
        intro y hy M'' h1 h2 h3
        refine ⟨fun a j ha => by rw [h1 a j (by omega), g1 a j ha], h2.trans g2, fun p hp => ?_⟩
        by_cases hpt : p = t
        · subst hpt; rw [h3, hy]
        · rw [h1 15 p (by omega)]; exact g3 p (by omega)
      have up1 : ∀ y, (∀ a j, ¬ (a = 15 ∧ j = t) → (om_up M' 15 t y).1 a j = M'.1 a j) := fun y a j h => by
        simp only [om_up_at]
        by_cases ha : a = 15
        · rw [if_pos ha, if_neg (by omega)]
        · rw [if_neg ha]
      have up2 : ∀ y z, (∀ a j, ¬ (a = 15 ∧ j = t) → (om_up (om_up M' 15 t y) 15 t z).1 a j = M'.1 a j) := fun y z a j h => by
        simp only [om_up_at]
        by_cases ha : a = 15
        · rw [if_pos ha, if_neg (by omega), if_pos ha, if_neg (by omega)]
        · rw [if_neg ha, if_neg ha]
      simp only [om_E_choosePlan_L22_body, om_E_choosePlan_b22, om_E_choosePlan_b105, e7, hlt, hin, hcl, if_false, cond_true, e11, u15, hbc, Option.bind_some, om_tst (show t < 32 by omega), hs0 t (by omega), og_nI1]
      cases hm : mi t with
      | false =>
        rw [if_pos rfl]
        obtain ⟨p1, p2, p3⟩ := put (M.1 11 t) (by rw [hm]; rfl) (om_up M' 15 t (M.1 11 t)) (up1 _) rfl u15
        refine .inl ⟨_, rfl, _, ?_, p1, p2, p3⟩
        rw [og_P_div, hm]; rfl
      | true =>
        rw [if_neg (by decide)]
        by_cases hc2 : (2 : Int32) ≤ nI (og_ch (M.1 11) n t)
        · rw [if_pos hc2]
          have hne0 : ¬ nI (og_ch (M.1 11) n t) = 0 := nI_ne0 hcp (by omega)
          have hrem : nI (i / og_P mi (og_ch (M.1 11) n) t) - nI (i / og_P mi (og_ch (M.1 11) n) t) / nI (og_ch (M.1 11) n t) * nI (og_ch (M.1 11) n t) = nI (i / og_P mi (og_ch (M.1 11) n) t % og_ch (M.1 11) n t) := pk_rem hL hcp (by omega)
          have hdiv : nI (i / og_P mi (og_ch (M.1 11) n) t) / nI (og_ch (M.1 11) n t) = nI (i / og_P mi (og_ch (M.1 11) n) t / og_ch (M.1 11) n t) := pk_div hL hcp (by omega)
          have hmod : i / og_P mi (og_ch (M.1 11) n) t % og_ch (M.1 11) n t < 100 := by
            have := Nat.mod_lt (i / og_P mi (og_ch (M.1 11) n) t) hcp; omega
          simp only [hne0, decide_false, Bool.not_false, cond_true, hrem, og_bitAt hmod, Option.bind_some]
          obtain ⟨p1, p2, p3⟩ := put _ (by rw [hm, if_pos rfl]) (om_up (om_up M' 15 t (M.1 11 t)) 15 t (og_ba (M.1 11 t) (i / og_P mi (og_ch (M.1 11) n) t % og_ch (M.1 11) n t))) (up2 _ _) rfl (by simp [om_up_at])
          refine .inl ⟨_, rfl, _, ?_, p1, p2, p3⟩
          rw [hdiv, og_P_div, hm]; rfl
        · rw [if_neg hc2]
          have h1 : og_ch (M.1 11) n t = 1 := by
            refine Classical.byContradiction fun h => hc2 ?_
            exact nI_le (a := 2) (by omega) (by omega)
          obtain ⟨p1, p2, p3⟩ := put (M.1 11 t) (by rw [hm, if_pos rfl, h1, Nat.mod_one, og_ba_1 h8 (hN t ht) (by rw [← hc, h1])]) (om_up M' 15 t (M.1 11 t)) (up1 _) rfl u15
          refine .inl ⟨_, rfl, _, ?_, p1, p2, p3⟩
          rw [og_P_div, hm, h1, if_pos rfl, Nat.div_one]) (by
      rintro s ⟨M', rfl, g1, g2, g3⟩
      have e7 : M'.1 7 0 = nI n := by rw [g1 7 0 (by decide), e70]
      exact ⟨_, by simp only [om_E_choosePlan_L22_body, om_E_choosePlan_b22, e7]; rw [if_pos Int32.le_rfl], g1, g2, g3⟩)
    refine ⟨M', ?_, q1, q2, q3⟩
    unfold om_E_choosePlan_b14 om_E_choosePlan_L22
    rw [hz]; rfl
  unfold om_E_choosePlan om_E_choosePlan_b0
  rcases hx2 with ⟨rfl, hmi⟩ | ⟨pl, hpl, rfl, rfl⟩
  · rw [if_pos rfl]
    exact key 0 (fun p _ => by rw [om_b_0, hmi p])
  · have hne1 : ¬ nI pl = -1 := fun h => nI_pos (show pl < 2 ^ 31 by omega) (by rw [h]; decide)
    rw [if_neg hne1]
    have hpo : ∃ s0, om_V_placesOf om_F (nI pl) M = some (s0, M) ∧ ∀ p, p < 8 → om_b s0 p = og_mi (M.1 7 1) pl p := by
      unfold om_V_placesOf om_V_placesOf_b0 om_V_placesOf_b17
      have : pl = 0 ∨ pl = 1 := by omega
      rcases this with rfl | rfl
      · rw [if_pos (show nI 0 = 0 from rfl)]
        exact ⟨_, rfl, fun p _ => rfl⟩
      · rw [if_neg (show ¬ nI 1 = 0 by decide)]
        refine ⟨_, rfl, fun p hp => ?_⟩
        rw [om_b_not]
        show _ = !om_b (M.1 7 1) p
        simp [show p < 32 by omega]
    obtain ⟨s0, h1, h2⟩ := hpo
    rw [h1]
    exact key s0 h2
theorem og_plansOf (h8 : n ≤ 8) (e70 : M.1 7 0 = nI n) (hN : ∀ p, p < n → og_wn n (M.1 11 p)) {pl : Nat} (hpl : pl < 2) : om_E_plansOf om_F (nI pl) M = some (nI (og_P (og_mi (M.1 7 1) pl) (og_ch (M.1 11) n) n), M) := by
  have key : ∀ s0 : Int32, (∀ p, p < 8 → om_b s0 p = og_mi (M.1 7 1) pl p) → om_E_plansOf_L12 om_F (s0, 1, 0, M) = some (nI (og_P (og_mi (M.1 7 1) pl) (og_ch (M.1 11) n) n), M) := by
    intro s0 hs0
    obtain ⟨z, hz, rfl⟩ := om_lp (f := om_E_plansOf_L12_body om_F) (fun t s => s = (s0, nI (og_P (og_mi (M.1 7 1) pl) (og_ch (M.1 11) n) t), nI t, M)) (fun z => z = (nI (og_P (og_mi (M.1 7 1) pl) (og_ch (M.1 11) n) n), M)) n (F := om_F) (Nat.lt_of_le_of_lt h8 (by decide)) (s := (s0, 1, 0, M)) rfl (by
      rintro t s ht rfl
      have hin : om_in (nI t) 8 = true := om_in_nI (by omega) (by omega)
      have hcl : (nI t).toNatClampNeg = t := nI_clamp (by omega)
      have hlt : ¬ nI n ≤ nI t := nI_ge ht (by omega)
      have hc : og_ch (M.1 11) n t = og_cnt (om_b (M.1 11 t)) n := by unfold og_ch; rw [if_pos ht]
      refine .inl ⟨_, ?_, rfl⟩
      simp only [om_E_plansOf_L12_body, om_E_plansOf_b12, om_E_plansOf_b45, e70, hlt, hin, hcl, if_false, cond_true, og_bitCount om_F h8 (hN t ht), Option.bind_some, om_tst (show t < 32 by omega), hs0 t (by omega), og_nI1, pk_mul, og_P, ← hc]
      rcases Bool.eq_false_or_eq_true (og_mi (M.1 7 1) pl t) with hm | hm <;> simp [hm]) (by
      rintro s rfl
      exact ⟨_, by simp only [om_E_plansOf_L12_body, om_E_plansOf_b12, e70]; rw [if_pos Int32.le_rfl], rfl⟩)
    exact hz
  unfold om_E_plansOf om_E_plansOf_b0 om_V_placesOf om_V_placesOf_b0 om_V_placesOf_b17
  have : pl = 0 ∨ pl = 1 := by omega
  rcases this with rfl | rfl
  · rw [if_pos (show nI 0 = 0 from rfl)]
    simp only [Option.bind_some, key (M.1 7 1) (fun _ _ => rfl)]
  · rw [if_neg (show ¬ nI 1 = 0 by decide)]
    simp only [Option.bind_some]
    rw [key (M.1 7 1 ^^^ (-1)) (fun p hp => by
      rw [om_b_not]
      show _ = !om_b (M.1 7 1) p
      simp [show p < 32 by omega])]
    rfl
end CP
