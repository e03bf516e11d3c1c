/-! ===== held, and the sum by each move ===== -/
section IH
variable {n : Nat} {mi : Nat → Bool} {G : Nat → Nat → Prop} {u : Nat → Nat → Int} {T : Int}
noncomputable def og_Fc (n : Nat) (mi : Nat → Bool) (G : Nat → Nat → Prop) (u : Nat → Nat → Int) (T : Int) : Nat → Nat → Int
  | 0 => fun _ => 0
  | k + 1 => fun p => Classical.epsilon (fun x => og_bx n (!mi p) (G p) (og_cp T u (og_Fc n mi G u T k) p) x)
theorem og_Fc_ok (hne : ∀ p, p < n → ∃ q, q < n ∧ G p q) : og_Fs n mi G u T (og_Fc n mi G u T) :=
  ⟨fun _ _ => rfl, fun k p hp => Classical.epsilon_spec (p := fun x => og_bx n (!mi p) (G p) (og_cp T u (og_Fc n mi G u T k) p) x) (og_bx_ex (hne p hp))⟩
theorem og_bx_uniq {mx : Bool} {P : Nat → Prop} {f f' : Nat → Int} {x y : Int} (h : og_bx n mx P f x) (h' : og_bx n mx P f' y) (hf : ∀ q, q < n → f q = f' q) : x = y := by
  obtain ⟨⟨q, a1, a2, a3⟩, a4⟩ := h
  obtain ⟨⟨r, b1, b2, b3⟩, b4⟩ := h'
  have h1 := a4 r b1 b2
  have h2 := b4 q a1 a2
  have h3 := hf q a1
  have h4 := hf r b1
  cases mx with
  | true => have := h1.1 rfl; have := h2.1 rfl; omega
  | false => have := h1.2 rfl; have := h2.2 rfl; omega
theorem og_cp_congr {F F' : Nat → Int} {p q : Nat} (h : F q = F' q) : og_cp T u F p q = og_cp T u F' p q := by
  unfold og_cp; rw [h]
end IH
section IV
variable {n : Nat} {R : Nat → Nat → Int32 → Prop} {pl c : Nat} {σ : Int} {x : Int32}
theorem og_heldVs (hR : og_Rok n R) (hσ : (pl = 0 ∧ σ = 1) ∨ (pl = 1 ∧ σ = -1)) (x : Int32) (c : Nat) : og_Vs n (og_mi x pl) (og_GR n R) (fun p q => σ * (og_wt R p q - c)) (fun k p => σ * (og_V n (og_mi x 0) R k p - c * k)) := by
  have h := og_Vs_lin (a := c) (b := 1) (by omega) (og_V_Vs (mi := og_mi x 0) hR)
  rcases hσ with ⟨rfl, rfl⟩ | ⟨rfl, rfl⟩
  · have e1 : (fun p q => (1 : Int) * (og_wt R p q - c)) = fun p q => 1 * og_wt R p q - c := by funext p q; omega
    have e2 : (fun (k p : Nat) => (1 : Int) * (og_V n (og_mi x 0) R k p - c * k)) = fun (k p : Nat) => 1 * og_V n (og_mi x 0) R k p - c * k := by funext k p; omega
    rw [e1, e2]; exact h
  · have h' := og_Vs_neg h
    have e1 : (fun p q => (-1 : Int) * (og_wt R p q - c)) = fun p q => -(1 * og_wt R p q - c) := by funext p q; omega
    have e2 : (fun (k p : Nat) => (-1 : Int) * (og_V n (og_mi x 0) R k p - c * k)) = fun (k p : Nat) => -(1 * og_V n (og_mi x 0) R k p - c * k) := by funext k p; omega
    rw [e1, e2]; exact h'
theorem og_GR_ne (hR : og_Rok n R) : ∀ p, p < n → ∃ q, q < n ∧ og_GR n R p q := fun p hp => by
  obtain ⟨q, w, h1, h2⟩ := hR.2.1 p hp
  exact ⟨q, h1, hp, h1, w, h2⟩
theorem og_held_ub (hR : og_Rok n R) (hσ : σ = 1 ∨ σ = -1) : ∀ p q, og_GR n R p q → -((c : Int) + 5) ≤ σ * (og_wt R p q - c) ∧ -((c : Int) + 5) ≤ σ * (og_wt R p q - c) ∧ σ * (og_wt R p q - c) ≤ c + 5 := by
  rintro p q ⟨hp, hq, w, hw⟩
  have h1 := hR.2.2 p q w hp hq hw
  rw [og_wt_eq hR hp hq hw]
  rcases hσ with rfl | rfl <;> omega
/-- two whole numbers in a line that is bounded -/
theorem og_line {d B : Int} (h : ∀ k : Nat, -B ≤ d * k) : 0 ≤ d := by
  refine Classical.byContradiction fun hd => ?_
  have h1 := h (B.toNat + 1)
  have h2 : d * ((B.toNat + 1 : Nat) : Int) ≤ -1 * ((B.toNat + 1 : Nat) : Int) := Int.mul_le_mul_of_nonneg_right (by omega) (by omega)
  omega
theorem og_held_iff (h8 : n ≤ 8) (hR : og_Rok n R) (hσ : (pl = 0 ∧ σ = 1) ∨ (pl = 1 ∧ σ = -1)) {p : Nat} (hp : p < n) {a b : Int} (hb : 0 < b) (hV : ∀ k : Nat, -(70 * b) ≤ b * og_V n (og_mi x 0) R k p - a * k ∧ b * og_V n (og_mi x 0) R k p - a * k ≤ 70 * b) {T : Int} (hT : T = n * ((c : Int) + 5)) {F : Nat → Nat → Int} (hF : og_Fs n (og_mi x pl) (og_GR n R) (fun p q => σ * (og_wt R p q - c)) T F) (k : Nat) : ((∀ q, q < n → F (k + 1) q ≤ F k q) → F k p ≤ T → 0 ≤ σ * (a - c * b)) ∧ (0 ≤ σ * (a - c * b) → F k p ≤ T) := by
  have hT0 : 0 ≤ T := by rw [hT]; exact Int.mul_nonneg (by omega) (by omega)
  have hσ' : σ = 1 ∨ σ = -1 := by rcases hσ with ⟨-, h⟩ | ⟨-, h⟩ <;> simp [h]
  have hVs := og_heldVs (n := n) (R := R) hR hσ x c
  -- b times the sum by each move less the bound's
  have hx : ∀ k : Nat, b * (σ * (og_V n (og_mi x 0) R k p - c * k)) = σ * (b * og_V n (og_mi x 0) R k p - a * k) + (σ * (a - c * b)) * k := by
    intro k
    have e1 : b * (c * (k : Int)) = c * b * k := by rw [← Int.mul_assoc, Int.mul_comm b c]
    have e2 : (a - c * b) * (k : Int) = a * k - c * b * k := Int.sub_mul ..
    have e3 : b * (og_V n (og_mi x 0) R k p - c * k) = b * og_V n (og_mi x 0) R k p - c * b * k := by rw [Int.mul_sub, e1]
    rcases hσ' with rfl | rfl
    · rw [Int.one_mul, Int.one_mul, Int.one_mul, e3, e2]; omega
    · have f1 : (-1 : Int) * (og_V n (og_mi x 0) R k p - c * k) = -(og_V n (og_mi x 0) R k p - c * k) := by omega
      have f2 : (-1 : Int) * (a - c * b) * k = -((a - c * b) * k) := by rw [show (-1 : Int) * (a - c * b) = -(a - c * b) by omega, Int.neg_mul]
      rw [f1, f2, Int.mul_neg, e3, e2]; omega
  have hab : ∀ k : Nat, -(70 * b) ≤ σ * (b * og_V n (og_mi x 0) R k p - a * k) ∧ σ * (b * og_V n (og_mi x 0) R k p - a * k) ≤ 70 * b := by
    intro k
    have := hV k
    rcases hσ' with rfl | rfl <;> omega
  constructor
  · intro hfix hle
    obtain ⟨s, hc⟩ := og_Fs_fix hT0 hF (fun _ _ h => h.2.1) hfix
    refine og_line (B := 70 * b + b * F k p) fun j => ?_
    have h1 := og_cert_V hVs hc j p ⟨hp, hle⟩
    have h2 := hx j
    have h3 := hab j
    have h4 : b * -(F k p) ≤ b * (σ * (og_V n (og_mi x 0) R j p - c * j)) := Int.mul_le_mul_of_nonneg_left h1 (by omega)
    rw [Int.mul_neg] at h4
    omega
  · intro hsg
    refine og_Fs_low h8 (fun _ _ h => h.2.1) (og_GR_ne hR) (C := c + 5) (W := c + 5) (by omega) (by omega) (og_held_ub hR hσ') ?_ hT0 hVs hp (B := 70) (fun k => ?_) hF k
    · rw [hT]
      exact Int.mul_le_mul_of_nonneg_right (by omega) (by omega)
    · have h2 := hx k
      have h3 := hab k
      have h4 : 0 ≤ σ * (a - c * b) * k := Int.mul_nonneg hsg (by omega)
      refine Int.le_of_mul_le_mul_left (a := b) ?_ hb
      omega
end IV
section IC
variable {n : Nat} {M : om_M} {R : Nat → Nat → Int32 → Prop}
theorem og_p17_tr {M M' M'' : om_M} (h : om_fr og_p17 M M') (h' : om_fr og_p17 M' M'') : om_fr og_p17 M M'' := om_fr_tr h h'
theorem og_Ld_p17 {M M' : om_M} (hL : og_Ld M n R) (g : om_fr og_p17 M M') : og_Ld M' n R := by
  obtain ⟨h1, s, h2, ⟨m1, m2, m3, m4⟩⟩ := hL
  have e8 : M'.1 8 = M.1 8 := funext fun j => g.1 8 j rfl
  have e9 : M'.1 9 = M.1 9 := funext fun j => g.1 9 j rfl
  have e10 : M'.1 10 = M.1 10 := funext fun j => g.1 10 j rfl
  have e11 : M'.1 11 = M.1 11 := funext fun j => g.1 11 j rfl
  refine ⟨by rw [g.1 7 0 rfl]; exact h1, s, h2, by rw [g.1 7 2 rfl]; exact m1, ?_, ?_, ?_⟩
  · rw [e8, e9]; exact m2
  · rw [e8, e9, e10]; exact m3
  · rw [e11]; exact m4
theorem og_heldZ (e70 : M.1 7 0 = nI n) (h8 : n ≤ 8) (a1 a2 a3 a4 : Int32) : ∃ M', om_E_isHeld_L13 om_F (a1, a2, a3, a4, 0, M) = some (a1, a2, a3, a4, M') ∧ om_fr og_p17 M M' ∧ ∀ p, p < n → M'.1 17 p = 0 := by
  obtain ⟨z, hz, M', q0, q1, q2⟩ := om_lp (f := om_E_isHeld_L13_body om_F) (fun i st => ∃ M', st = (a1, a2, a3, a4, nI i, M') ∧ om_fr og_p17 M M' ∧ ∀ p, p < i → M'.1 17 p = 0) (fun z => ∃ M' : om_M, z = (a1, a2, a3, a4, M') ∧ om_fr og_p17 M M' ∧ ∀ p, p < n → M'.1 17 p = 0) n (F := om_F) (Nat.lt_of_le_of_lt h8 (by decide)) (s := (a1, a2, a3, a4, 0, M)) ⟨M, rfl, om_fr_rfl, fun p hp => absurd hp (by omega)⟩ (by
    rintro i st hi ⟨M', rfl, g1, g2⟩
    have hin : om_in (nI i) 8 = true := om_in_nI (by omega) (by omega)
    have hcl : (nI i).toNatClampNeg = i := nI_clamp (by omega)
    have hlt : ¬ nI n ≤ nI i := nI_ge hi (by omega)
    have e7 : M'.1 7 0 = nI n := by rw [g1.1 7 0 rfl, e70]
    refine .inl ⟨_, by simp only [om_E_isHeld_L13_body, om_E_isHeld_b13, e7, hlt, hin, hcl, if_false, cond_true, og_nI1], om_up M' 17 i 0, rfl, om_fr_up g1 rfl, fun p hp => ?_⟩
    by_cases hpi : p = i
    · subst hpi; simp [om_up_at]
    · simp [om_up_at, hpi, g2 p (by omega)]) (by
    rintro st ⟨M', rfl, g1, g2⟩
    have e7 : M'.1 7 0 = nI n := by rw [g1.1 7 0 rfl, e70]
    exact ⟨_, by simp only [om_E_isHeld_L13_body, om_E_isHeld_b13, e7]; rw [if_pos Int32.le_rfl], M', rfl, g1, g2⟩)
  subst q0
  exact ⟨M', hz, q1, q2⟩
theorem og_isHeld (h8 : n ≤ 8) (hL : og_Ld M n R) (hR : og_Rok n R) {c pl : Nat} {σ : Int} (hσ : (pl = 0 ∧ σ = 1) ∨ (pl = 1 ∧ σ = -1)) (hc : c < 100) {p : Nat} (hp : p < n) {a b : Int} (hb : 0 < b) (hV : ∀ k : Nat, -(70 * b) ≤ b * og_V n (og_mi (M.1 7 1) 0) R k p - a * k ∧ b * og_V n (og_mi (M.1 7 1) 0) R k p - a * k ≤ 70 * b) : ∃ M' r, om_E_isHeld om_F (nI pl) (nI c) (nI p) M = some (om_bi r, M') ∧ om_fr og_p17 M M' ∧ (r = true ↔ 0 ≤ σ * (a - c * b)) := by
  have hT8 : n * (c + 5) ≤ 8 * 104 := Nat.mul_le_mul h8 (by omega)
  obtain ⟨T, hT⟩ : ∃ T, T = n * (c + 5) := ⟨_, rfl⟩
  rw [← hT] at hT8
  have hTi : (T : Int) = n * ((c : Int) + 5) := by rw [hT]; simp
  have hF := og_Fc_ok (n := n) (mi := og_mi (M.1 7 1) pl) (G := og_GR n R) (u := fun p q => σ * (og_wt R p q - c)) (T := (T : Int)) (og_GR_ne hR)
  generalize og_Fc n (og_mi (M.1 7 1) pl) (og_GR n R) (fun p q => σ * (og_wt R p q - c)) (T : Int) = F at hF
  have hTn : n * (T + 1) ≤ 8 * 833 := Nat.mul_le_mul h8 (by omega)
  obtain ⟨M1, z1, z2, z3⟩ := og_heldZ (M := M) hL.1 h8 (nI pl) (nI c) (nI p) (nI T)
  obtain ⟨z, hz, M', k, q0, q1, q2, q3⟩ := om_lp (f := om_E_isHeld_L39_body om_F) (fun k st => ∃ M', st = (nI pl, nI c, nI p, nI T, nI k, M') ∧ om_fr og_p17 M M' ∧ (∀ q, q < n → (M'.1 17 q).toInt = F k q) ∧ ∀ j, j < k → ∃ q, q < n ∧ F j q < F (j + 1) q) (fun z => ∃ (M' : om_M) (k : Nat), (z = .inl (nI p, nI T, M') ∨ z = .inr (nI p, nI T, M')) ∧ om_fr og_p17 M M' ∧ (M'.1 17 p).toInt = F k p ∧ ((T : Int) < F k p ∨ ∀ q, q < n → F (k + 1) q ≤ F k q)) (n * (T + 1) + 1) (F := om_F) (Nat.lt_of_le_of_lt (Nat.succ_le_succ hTn) (by decide)) (s := (nI pl, nI c, nI p, nI T, 0, M1)) ⟨M1, rfl, z2, fun q hq => by rw [z3 q hq, hF.1 q hq]; rfl, fun j hj => absurd hj (by omega)⟩ (by
    rintro k st hk ⟨M', rfl, g1, g2, g3⟩
    have e7 : M'.1 7 0 = nI n := by rw [g1.1 7 0 rfl]; exact hL.1
    have hm : nI n * (nI T + 1) = nI (n * (T + 1)) := by rw [og_nI1, pk_mul]
    have hlt : ¬ nI n * (nI T + 1) < nI k := by
      rw [hm, Int32.lt_iff_toInt_lt, nI_toInt (by omega), nI_toInt (by omega)]; omega
    have hin : om_in (nI p) 8 = true := om_in_nI (by omega) (by omega)
    have hcl : (nI p).toNatClampNeg = p := nI_clamp (by omega)
    have hv : ∀ q, q < n → (M'.1 17 q).toInt = F k q ∧ 0 ≤ F k q ∧ F k q ≤ T + 1 := fun q hq => ⟨g2 q hq, og_Fs_b (by omega) hF k q hq⟩
    by_cases hov : nI T < M'.1 17 p
    · refine .inr ⟨_, by simp only [om_E_isHeld_L39_body, om_E_isHeld_b39, e7, hlt, hin, hcl, hov, if_false, if_true, cond_true], M', k, .inr rfl, g1, g2 p hp, .inl ?_⟩
      rw [Int32.lt_iff_toInt_lt, nI_toInt (by omega), g2 p hp] at hov; exact hov
    · obtain ⟨M2, r, b1, b2, b3, b4⟩ := og_isRaised (M := M') h8 (og_Ld_p17 hL g1) hR hσ (T := T) (by omega) hc hv
      rw [g1.1 7 1 rfl] at b3
      have hF2 : ∀ q, q < n → (M2.1 17 q).toInt = F (k + 1) q := fun q hq => og_bx_uniq (b3 q hq) (hF.2 k q hq) fun _ _ => rfl
      cases r with
      | false =>
        refine .inr ⟨.inl (nI p, nI T, M2), ?_, M2, k, .inl rfl, om_fr_tr g1 b2, ?_, .inr fun q hq => ?_⟩
        · simp only [om_E_isHeld_L39_body, om_E_isHeld_b39, e7, hlt, hin, hcl, hov, if_false, cond_true, b1, Option.bind_some]
          rw [if_pos (show om_bi false = 0 from rfl)]
        · have h1 := og_Fs_step (by omega) hF k p hp
          have h2 : ¬ F k p < (M2.1 17 p).toInt := fun h => (by have := b4.mpr ⟨p, hp, h⟩; cases this)
          have h3 := hF2 p hp
          omega
        · have h2 : ¬ F k q < (M2.1 17 q).toInt := fun h => (by have := b4.mpr ⟨q, hq, h⟩; cases this)
          have h3 := hF2 q hq
          omega
      | true =>
        refine .inl ⟨(nI pl, nI c, nI p, nI T, nI (k + 1), M2), ?_, M2, rfl, om_fr_tr g1 b2, hF2, fun j hj => ?_⟩
        · simp only [om_E_isHeld_L39_body, om_E_isHeld_b39, e7, hlt, hin, hcl, hov, if_false, cond_true, b1, Option.bind_some]
          rw [if_neg (show ¬ om_bi true = 0 by decide), og_nI1]
        · by_cases hjk : j = k
          · subst hjk
            obtain ⟨q, h1, h2⟩ := b4.mp rfl
            exact ⟨q, h1, by rw [← hF2 q h1]; exact h2⟩
          · exact g3 j (by omega)) (by
    rintro st ⟨M', rfl, g1, g2, g3⟩
    exfalso
    have h1 := og_Fs_sum (by omega) hF g3
    have h2 := og_sum_le (f := fun p => if p < n then (F (n * (T + 1) + 1) p).toNat else 0) (b := T + 1) (fun p => by
      by_cases hpn : p < n
      · rw [if_pos hpn]
        have := og_Fs_b (by omega) hF (n * (T + 1) + 1) p hpn
        omega
      · rw [if_neg hpn]; omega) n
    have h3 := og_sum_mono (f := fun p => (F (n * (T + 1) + 1) p).toNat) (g := fun p => if p < n then (F (n * (T + 1) + 1) p).toNat else 0) (n := n) (fun p hp => by
      show _ ≤ (if p < n then _ else _)
      rw [if_pos hp]; exact Nat.le_refl _)
    omega)
  have hin : om_in (nI p) 8 = true := om_in_nI (by omega) (by omega)
  have hcl : (nI p).toNatClampNeg = p := nI_clamp (by omega)
  have hT1 : nI n * (nI c + 5) = nI T := by
    rw [show nI c + 5 = nI (c + 5) from nI_add .., pk_mul, hT]
  have hiff := og_held_iff (x := M.1 7 1) h8 hR hσ hp hb hV hTi hF k
  refine ⟨M', decide (F k p ≤ T), ?_, q1, ?_⟩
  · have hfin : om_E_isHeld_b86 om_F (nI p) (nI T) M' = some (om_bi (decide (F k p ≤ T)), M') := by
      unfold om_E_isHeld_b86 om_E_isHeld_b103
      rw [hin, cond_true, hcl]
      by_cases h : nI T < M'.1 17 p
      · rw [if_pos h]
        rw [Int32.lt_iff_toInt_lt, nI_toInt (by omega), q2] at h
        rw [decide_eq_false (by omega)]; rfl
      · rw [if_neg h]
        rw [Int32.lt_iff_toInt_lt, nI_toInt (by omega), q2] at h
        rw [decide_eq_true (by omega)]; rfl
    unfold om_E_isHeld om_E_isHeld_b0
    rw [hL.1, hT1, z1]
    show (om_it (om_E_isHeld_L39_body om_F) om_F (nI pl, nI c, nI p, nI T, 0, M1)).bind _ = _
    rw [hz]
    rcases q0 with rfl | rfl
    · exact hfin
    · exact hfin
  · rw [decide_eq_true_eq]
    constructor
    · intro h
      rcases q3 with q3 | q3
      · omega
      · exact hiff.1 q3 h
    · exact hiff.2
end IC
