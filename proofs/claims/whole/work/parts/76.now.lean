/-! ===== the truth of a question on both sides ===== -/
def og_pC (a _j : Nat) : Bool := Nat.ble 7 a && Nat.ble a 27
def og_pE (a j : Nat) : Bool := Nat.beq a 58 || (Nat.beq a 62 || (Nat.beq a 63 || og_pd a j))
theorem og_pC_sc {a j : Nat} (h : om_sc a j = false) : og_pC a j = false := by
  unfold om_sc at h; unfold og_pC
  cases h1 : (Nat.ble 7 a && Nat.ble a 27) with
  | false => rfl
  | true => rw [h1] at h; cases h
theorem og_sc_pC {M M' : om_M} (h : om_fr og_pC M M') : om_fr om_sc M M' := om_fr_mono h fun _ _ h => og_pC_sc h
theorem og_pC_pv {M M' : om_M} (h : om_fr og_pv M M') : om_fr og_pC M M' := om_fr_mono h fun a j h => by
  unfold og_pC at h; unfold og_pv
  cases h1 : Nat.ble 7 a with
  | false => rfl
  | true =>
    rw [h1, Bool.true_and] at h
    rw [Bool.true_and]
    cases h2 : Nat.ble a 11 with
    | false => rfl
    | true =>
      have := Nat.le_of_ble_eq_true h2
      have h3 : Nat.ble a 27 = true := Nat.ble_eq_true_of_le (by omega)
      rw [h3] at h; cases h
theorem og_pC_p17 {M M' : om_M} (h : om_fr og_p17 M M') : om_fr og_pC M M' := om_fr_mono h fun a j h => by
  cases h1 : og_p17 a j with
  | false => rfl
  | true =>
    unfold og_p17 at h1
    rw [Bool.or_eq_true] at h1
    rcases h1 with h1 | h1
    · have := Nat.eq_of_beq_eq_true h1; subst this; cases h
    · have := Nat.eq_of_beq_eq_true h1; subst this; cases h
theorem og_beq {a b : Nat} : Nat.beq a b = true ↔ a = b := ⟨Nat.eq_of_beq_eq_true, fun h => by rw [h]; exact Nat.beq_refl b⟩
theorem og_pE_iff {a j : Nat} : og_pE a j = true ↔ (a = 58 ∨ a = 62 ∨ a = 63 ∨ a = 60 ∨ a = 61 ∨ a = 68 ∨ (a = 46 ∧ (j = 23 ∨ j = 24))) := by
  unfold og_pE og_pd og_pn
  simp only [Bool.or_eq_true, Bool.and_eq_true, og_beq]
theorem og_pE_mono {P : Nat → Nat → Bool} {M M' : om_M} (h : om_fr P M M') (hp : ∀ a j, P a j = true → og_pE a j = true) : om_fr og_pE M M' := om_fr_mono h fun a j h1 => by
  cases h2 : P a j with
  | false => rfl
  | true => rw [hp a j h2] at h1; cases h1
theorem og_pE_pm {M M' : om_M} (h : om_fr og_pm M M') : om_fr og_pE M M' := og_pE_mono h fun a j h => by
  unfold og_pm at h; rw [og_beq] at h; exact og_pE_iff.mpr (.inl h)
theorem og_pE_p62 {M M' : om_M} (h : om_fr og_p62 M M') : om_fr og_pE M M' := og_pE_mono h fun a j h => by
  unfold og_p62 at h; rw [Bool.or_eq_true, og_beq, og_beq] at h
  rw [og_pE_iff]; omega
theorem og_pE_pd {M M' : om_M} (h : om_fr og_pd M M') : om_fr og_pE M M' := og_pE_mono h fun a j h => by
  unfold og_pd og_pn at h
  simp only [Bool.or_eq_true, Bool.and_eq_true, og_beq] at h
  rw [og_pE_iff]; omega
theorem og_pE_sc {a j : Nat} (h : om_sc a j = false) : og_pE a j = false := by
  cases h1 : og_pE a j with
  | false => rfl
  | true =>
    rw [og_pE_iff] at h1
    rcases h1 with rfl | rfl | rfl | rfl | rfl | rfl | ⟨rfl, rfl | rfl⟩ <;> cases h
theorem og_sc_pE {M M' : om_M} (h : om_fr og_pE M M') : om_fr om_sc M M' := om_fr_mono h fun _ _ h => og_pE_sc h
/-- a state in which the model asks with an arrow away and places changed -/
def og_FD (M : om_M) (n : Nat) (a f : Int32) (D : om_M) : Prop := (∀ b j, om_sc b j = false → b ≠ 47 → D.1 b j = M.1 b j) ∧ D.2 = M.2 ∧ (∀ p, D.1 47 p = if p < n then M.1 47 p ^^^ ((f >>> (nI p &&& 31)) &&& 1) else M.1 47 p) ∧ D.1 46 18 = a ∧ ∀ j, j < 8 → D.1 59 j = -1
theorem og_FD_pE {M D D' : om_M} {n : Nat} {a f : Int32} (h : og_FD M n a f D) (g : om_fr og_pE D D') : og_FD M n a f D' := by
  obtain ⟨h1, h2, h3, h4, h5⟩ := h
  exact ⟨fun b j hb hne => by rw [g.1 b j (og_pE_sc hb)]; exact h1 b j hb hne, by rw [g.2]; exact h2, fun p => by rw [g.1 47 p rfl]; exact h3 p, by rw [g.1 46 18 rfl]; exact h4, fun j hj => by rw [g.1 59 j rfl]; exact h5 j hj⟩
theorem og_FD_ex (M : om_M) (n : Nat) (a f : Int32) : ∃ D, og_FD M n a f D := by
  refine ⟨(fun b j => if b = 47 then (if j < n then M.1 47 j ^^^ ((f >>> (nI j &&& 31)) &&& 1) else M.1 47 j) else if b = 46 ∧ j = 18 then a else if b = 59 then -1 else M.1 b j, M.2), fun b j hb hne => ?_, rfl, fun p => rfl, rfl, fun j _ => rfl⟩
  show (if b = 47 then _ else if b = 46 ∧ j = 18 then a else if b = 59 then -1 else M.1 b j) = _
  rw [if_neg hne, if_neg (fun h => by rw [h.1, h.2] at hb; cases hb), if_neg (fun h => by rw [h] at hb; cases hb)]
section NW
variable {M : om_M} {n m : Nat}
theorem og_FD_B (hB : om_Bd M n m) {a f : Int32} {D : om_M} (hD : og_FD M n a f D) : om_Bn D n m ∧ om_Ba D n m := by
  obtain ⟨⟨h1, h2, h3, h4, h5, h6⟩, -, -, ha, hd⟩ := hB
  have e : ∀ b j, om_sc b j = false → b ≠ 47 → D.1 b j = M.1 b j := hD.1
  refine ⟨⟨h1, h2, by rw [e 1 0 rfl (by decide), h3], by rw [e 1 1 rfl (by decide), h4], by rw [e 46 2 rfl (by decide), h5], by rw [e 46 6 rfl (by decide), h6]⟩, fun k hk => ?_, fun k l hk hl => ?_⟩
  · rw [e 49 k rfl (by decide), e 50 k rfl (by decide), e 51 k rfl (by decide), e 4 k rfl (by decide), e 5 k rfl (by decide), e 6 k rfl (by decide)]; exact ha k hk
  · rw [e 4 k rfl (by decide), e 5 k rfl (by decide), e 4 l rfl (by decide), e 5 l rfl (by decide)]; exact hd k l hk hl
theorem og_FD_U {a f : Int32} {D : om_M} (hD : og_FD M n a f D) : og_Um D = fun k => nI k ≠ a := by
  funext k
  unfold og_Um
  rw [hD.2.2.2.1]
  exact propext ⟨And.left, fun h => ⟨h, fun p _ hp => .inl (hD.2.2.2.2 p hp)⟩⟩
theorem og_FD_E {a f : Int32} {D : om_M} (hD : og_FD M n a f D) (U : Nat → Prop) : og_E D m U = og_E M m U := by
  have e4 : D.1 4 = M.1 4 := funext fun j => hD.1 4 j rfl (by decide)
  have e5 : D.1 5 = M.1 5 := funext fun j => hD.1 5 j rfl (by decide)
  have e6 : D.1 6 = M.1 6 := funext fun j => hD.1 6 j rfl (by decide)
  funext p q w
  unfold og_E og_E0
  rw [e4, e5, e6]
theorem og_FD_mi (hB : om_Bp M n) (h8 : n ≤ 8) {a f : Int32} {D : om_M} (hD : og_FD M n a f D) : ∀ pl, pl < 2 → ∀ p, p < n → (D.1 47 p = nI pl ↔ og_mi (M.1 1 2 ^^^ f) pl p = true) := by
  intro pl hpl p hp
  rw [hD.2.2.1 p, if_pos hp, (hB.2 p hp).1]
  have h1 : ((f >>> (nI p &&& 31)) &&& 1) = if om_b f p = true then 1 else 0 := by
    cases h : om_b f p with
    | true => rw [if_pos rfl]; exact (og_tst1 (show p < 32 by omega) f).mpr h
    | false => rw [if_neg (by decide)]; exact (om_tst (show p < 32 by omega) f).mpr h
  rw [h1]
  have h2 : og_mi (M.1 1 2 ^^^ f) pl p = bif Nat.beq pl 0 then (om_b (M.1 1 2) p ^^ om_b f p) else !(om_b (M.1 1 2) p ^^ om_b f p) := by
    unfold og_mi; rw [om_b_xor]
  rw [h2]
  have : pl = 0 ∨ pl = 1 := by omega
  rcases this with rfl | rfl <;> cases om_b (M.1 1 2) p <;> cases om_b f p <;> decide
/-- whether a row asks for the most by each move -/
theorem og_scan {D : om_M} {s : Nat} (hs : s ≤ 120) (h15 : D.1 46 15 = nI s) : ∃ b : Bool, om_D_holdsNow_L9 om_F (0, 120, D) = some (om_bi b, D) ∧ ∀ i, i < s → (D.1 54 (120 + i) = 4 ∨ D.1 54 (120 + i) = 5) → b = true := by
  obtain ⟨z, hz, b, q0, q1⟩ := om_lp (f := om_D_holdsNow_L9_body om_F) (fun i st => ∃ b : Bool, st = (om_bi b, nI (120 + i), D) ∧ ∀ j, j < i → (D.1 54 (120 + j) = 4 ∨ D.1 54 (120 + j) = 5) → b = true) (fun z => ∃ b : Bool, z = (om_bi b, D) ∧ ∀ j, j < s → (D.1 54 (120 + j) = 4 ∨ D.1 54 (120 + j) = 5) → b = true) s (F := om_F) (Nat.lt_of_le_of_lt hs (by decide)) (s := (0, 120, D)) ⟨false, by rw [og_n120]; rfl, fun j hj => absurd hj (Nat.not_lt_zero _)⟩ (by
    rintro i st hi ⟨b, rfl, g1⟩
    have hlt := og_sD_lt hs hi
    have hin : om_in (nI (120 + i)) 240 = true := om_in_nI (by omega) (by omega)
    have hcl : (nI (120 + i)).toNatClampNeg = 120 + i := nI_clamp (by omega)
    refine .inl ?_
    have fin : ∀ b' : Bool, (b = true → b' = true) → ((D.1 54 (120 + i) = 4 ∨ D.1 54 (120 + i) = 5) → b' = true) → ∀ j, j < i + 1 → (D.1 54 (120 + j) = 4 ∨ D.1 54 (120 + j) = 5) → b' = true := by
      intro b' h1 h2 j hj h3
      by_cases hji : j = i
      · subst hji; exact h2 h3
      · exact h1 (g1 j (by omega) h3)
    cases b with
    | true =>
      refine ⟨(om_bi true, nI (120 + (i + 1)), D), ?_, true, rfl, fin true (fun _ => rfl) (fun _ => rfl)⟩
      simp only [om_D_holdsNow_L9_body, om_D_holdsNow_b9, om_D_holdsNow_b44, om_D_holdsNow_b49, h15, hlt, if_false, og_sD_nx, show ¬ om_bi true = 0 by decide]
      rfl
    | false =>
      by_cases h4 : D.1 54 (120 + i) = 4
      · refine ⟨(om_bi true, nI (120 + (i + 1)), D), ?_, true, rfl, fin true (fun _ => rfl) (fun _ => rfl)⟩
        simp only [om_D_holdsNow_L9_body, om_D_holdsNow_b9, om_D_holdsNow_b44, om_D_holdsNow_b49, h15, hlt, if_false, og_sD_nx, show om_bi false = 0 from rfl, if_true, hin, hcl, h4, cond_true]
        rfl
      · by_cases h5 : D.1 54 (120 + i) = 5
        · refine ⟨(om_bi true, nI (120 + (i + 1)), D), ?_, true, rfl, fin true (fun _ => rfl) (fun _ => rfl)⟩
          simp only [om_D_holdsNow_L9_body, om_D_holdsNow_b9, om_D_holdsNow_b44, om_D_holdsNow_b49, h15, hlt, if_false, og_sD_nx, show om_bi false = 0 from rfl, if_true, hin, hcl, h5, cond_true, show ¬ (5 : Int32) = 4 by decide]
          rfl
        · refine ⟨(om_bi false, nI (120 + (i + 1)), D), ?_, false, rfl, fin false (fun h => h) (fun h => (h.elim (fun h => absurd h h4) (fun h => absurd h h5)))⟩
          simp only [om_D_holdsNow_L9_body, om_D_holdsNow_b9, om_D_holdsNow_b44, om_D_holdsNow_b49, h15, hlt, if_false, og_sD_nx, show om_bi false = 0 from rfl, if_true, hin, hcl, h4, h5, cond_true]) (by
    rintro st ⟨b, rfl, g1⟩
    have h : (120 : Int32) + nI s ≤ nI (120 + s) := by rw [og_n120, nI_add]; exact Int32.le_rfl
    exact ⟨_, by simp only [om_D_holdsNow_L9_body, om_D_holdsNow_b9, h15]; rw [if_pos h], b, rfl, g1⟩)
  subst q0
  exact ⟨b, hz, q1⟩
end NW
