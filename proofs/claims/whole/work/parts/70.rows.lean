/-! ===== the rows of a question, run on both sides ===== -/
def og_stk (kd : Nat → Int32) (τ : Nat → Bool) (d : Nat → Nat) : Nat → Nat → Bool
  | 0 => fun _ => false
  | i + 1 => fun j => if kd i = 6 then (if j = d i - 1 then !(og_stk kd τ d i j) else og_stk kd τ d i j) else if kd i = 7 then (if j = d i - 2 then (og_stk kd τ d i (d i - 2) && og_stk kd τ d i (d i - 1)) else og_stk kd τ d i j) else if kd i = 8 then (if j = d i - 2 then (og_stk kd τ d i (d i - 2) || og_stk kd τ d i (d i - 1)) else og_stk kd τ d i j) else (if j = d i then τ i else og_stk kd τ d i j)
theorem og_qa1 {qa : Nat} (h : qa = 30 ∨ qa = 38) : om_obj qa 4 = true := by rcases h with rfl | rfl <;> decide
theorem og_qa2 {qa : Nat} (h : qa = 30 ∨ qa = 38) {i : Nat} (hi : i < 120) : (om_isA (qa + 6) 1 && om_in (nI i) (om_ln (qa + 6))) = true := by
  have h1 : om_isA (qa + 6) 1 = true ∧ om_ln (qa + 6) = 120 := by rcases h with rfl | rfl <;> decide
  rw [h1.1, h1.2, om_in_nI hi (by omega)]; rfl
theorem og_nI_pos {k : Nat} (h : k < 2 ^ 31) : ¬ nI k < 0 := fun h1 => by
  have := nI_toInt h
  rw [Int32.lt_iff_toInt_lt, this, show (0 : Int32).toInt = 0 by decide] at h1
  omega
theorem og_runC {M : om_M} {n qa s : Nat} {c d : Nat → Nat} (hq : qa = 30 ∨ qa = 38) (hs : s ≤ 120) (h6 : M.1 qa 6 = nI s) (hr : om_Qr M n qa 120 s c d) {τ : Nat → Bool} {Fr : om_M → Prop} (hFr : ∀ M', Fr M' → ∀ a j, 30 ≤ a → a ≤ 45 → M'.1 a j = M.1 a j) (hu : ∀ i, i < s → om_Qu M n qa (c i) (120 + i) → ∀ M', Fr M' → ∃ M'', om_Q_isUnitTrue om_F qa (nI (c i)) M' = some (om_bi (τ i), M'') ∧ Fr M'') (hc : ∀ i, i < s → c i < 2 ^ 31) {M1 : om_M} (h1 : Fr M1) : ∃ x M', om_Q_isTrue_L15 om_F (qa, 0, 0, M1) = some (x, M') ∧ og_sk x (d s) (og_stk (fun i => M.1 54 (120 + i)) τ d s) ∧ Fr M' := by
  obtain ⟨z, hz, x, M', rfl, q1, q2⟩ := om_lp (f := om_Q_isTrue_L15_body om_F) (fun i s => ∃ x M', s = (qa, x, nI i, M') ∧ og_sk x (d i) (og_stk (fun i => M.1 54 (120 + i)) τ d i) ∧ Fr M') (fun z => ∃ x M', z = (x, M') ∧ og_sk x (d s) (og_stk (fun i => M.1 54 (120 + i)) τ d s) ∧ Fr M') s (F := om_F) (Nat.lt_of_le_of_lt hs (by decide)) (s := (qa, 0, 0, M1)) ⟨0, M1, rfl, ⟨by rw [hr.2.1]; omega, fun i hi => by rw [og_lb_0, hr.2.1]; simp⟩, h1⟩ (by
    rintro i s' hi ⟨x, M2, rfl, g1, g2⟩
    have hlt : ¬ nI s ≤ nI i := nI_ge hi (by omega)
    have f6 : M2.1 qa 6 = nI s := by rw [hFr M2 g2 _ _ (by omega) (by omega), h6]
    have f66 : M2.1 (qa + 6) i = M.1 (qa + 6) i := hFr M2 g2 _ _ (by omega) (by omega)
    have hcl : (nI i).toNatClampNeg = i := nI_clamp (by omega)
    have hstk : og_stk (fun i => M.1 54 (120 + i)) τ d (i + 1) = fun j => if M.1 54 (120 + i) = 6 then (if j = d i - 1 then !(og_stk (fun i => M.1 54 (120 + i)) τ d i j) else og_stk (fun i => M.1 54 (120 + i)) τ d i j) else if M.1 54 (120 + i) = 7 then (if j = d i - 2 then (og_stk (fun i => M.1 54 (120 + i)) τ d i (d i - 2) && og_stk (fun i => M.1 54 (120 + i)) τ d i (d i - 1)) else og_stk (fun i => M.1 54 (120 + i)) τ d i j) else if M.1 54 (120 + i) = 8 then (if j = d i - 2 then (og_stk (fun i => M.1 54 (120 + i)) τ d i (d i - 2) || og_stk (fun i => M.1 54 (120 + i)) τ d i (d i - 1)) else og_stk (fun i => M.1 54 (120 + i)) τ d i j) else (if j = d i then τ i else og_stk (fun i => M.1 54 (120 + i)) τ d i j) := rfl
    obtain ⟨hd60, hcase⟩ := hr.2.2 i hi
    rcases hcase with ⟨e1, e2, e3, e4⟩ | ⟨e1, e2, e3, e4, e5⟩ | ⟨e1, e2, e3, e4, e5⟩ | ⟨e1, e2, e3, e4, e5⟩
    · obtain ⟨M3, u1, u2⟩ := hu i hi e2 M2 g2
      have hk : ¬ M.1 54 (120 + i) = 6 ∧ ¬ M.1 54 (120 + i) = 7 ∧ ¬ M.1 54 (120 + i) = 8 := by
        rcases e2.2 with ⟨k, k1, -, k2, -⟩ | ⟨-, k2⟩ | ⟨_, _, _, _, ⟨-, k2⟩ | ⟨-, k2⟩⟩
        · have : k = 0 ∨ k = 1 ∨ k = 2 := by omega
          rw [k2]
          rcases this with rfl | rfl | rfl <;> decide
        · rw [k2]; decide
        · rw [k2]; decide
        · rw [k2]; decide
      have hstep : om_Q_isTrue_L15_body om_F (qa, x, nI i, M2) = some (.inl (qa, (x <<< ((1 : Int32).toInt64 &&& 63)) ||| (om_bi (τ i)).toInt64, nI (i + 1), M3)) := by
        simp only [om_Q_isTrue_L15_body, om_Q_isTrue_b15, om_Q_isTrue_b62, om_Q_isTrue_b124, og_qa1 hq, og_qa2 hq (show i < 120 by omega), f6, hlt, hcl, f66, e1, og_nI_pos (hc i hi), if_false, cond_true, u1, Option.bind_some, og_nI1]
        cases τ i <;> simp [om_bi]
      refine .inl ⟨_, hstep, _, M3, rfl, ?_, u2⟩
      rw [e4, hstk]
      simp only [hk.1, hk.2.1, hk.2.2, if_false]
      exact og_sk_push g1 hd60 (τ i)
    · refine .inl ⟨(qa, x ^^^ 1, nI (i + 1), M2), by simp [om_Q_isTrue_L15_body, om_Q_isTrue_b15, om_Q_isTrue_b124, og_qa1 hq, og_qa2 hq (show i < 120 by omega), f6, hlt, hcl, f66, e1, og_nI1], _, M2, rfl, ?_, g2⟩
      rw [e5, hstk]
      simp only [e2, if_true]
      exact og_sk_not g1 e3
    · refine .inl ⟨(qa, (x >>> ((1 : Int32).toInt64 &&& 63)) &&& ((x &&& 1) ||| (-2)), nI (i + 1), M2), by simp [om_Q_isTrue_L15_body, om_Q_isTrue_b15, om_Q_isTrue_b124, og_qa1 hq, og_qa2 hq (show i < 120 by omega), f6, hlt, hcl, f66, e1, og_nI1], _, M2, rfl, ?_, g2⟩
      rw [show d (i + 1) = d i - 1 by omega, hstk]
      simp only [e2, show ¬ (7 : Int32) = 6 by decide, if_false, if_true]
      exact og_sk_and g1 e3
    · refine .inl ⟨(qa, (x >>> ((1 : Int32).toInt64 &&& 63)) ||| (x &&& 1), nI (i + 1), M2), by simp [om_Q_isTrue_L15_body, om_Q_isTrue_b15, om_Q_isTrue_b124, og_qa1 hq, og_qa2 hq (show i < 120 by omega), f6, hlt, hcl, f66, e1, og_nI1], _, M2, rfl, ?_, g2⟩
      rw [show d (i + 1) = d i - 1 by omega, hstk]
      simp only [e2, show ¬ (8 : Int32) = 6 by decide, show ¬ (8 : Int32) = 7 by decide, if_false, if_true]
      exact og_sk_or g1 e3) (by
    rintro s' ⟨x, M2, rfl, g1, g2⟩
    have f6 : M2.1 qa 6 = nI s := by rw [hFr M2 g2 _ _ (by omega) (by omega), h6]
    exact ⟨_, by simp only [om_Q_isTrue_L15_body, om_Q_isTrue_b15, og_qa1 hq, f6, cond_true]; rw [if_pos Int32.le_rfl], x, M2, rfl, g1, g2⟩)
  exact ⟨x, M', hz, q1, q2⟩
