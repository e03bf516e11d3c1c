/-! ===== the class's steps ===== -/
theorem og_Q_begin {qd : Nat} (hq : qd = 30 ∨ qd = 38) {C : om_M} {u : Nat} (hu : u < 10) (h0 : C.1 qd 0 = nI u) (kd pl : Int32) : om_Q_begin om_F qd kd pl C = some (om_up (om_up (om_up (om_up (om_up (om_up C qd 10 (nI u)) (qd + 1) u kd) (qd + 2) u pl) (qd + 3) u 0) (qd + 4) u 0) (qd + 5) u 0) := by
  have hlt : ¬ (9 : Int32) < nI u := by rw [show (9 : Int32) = nI 9 by decide, nI_ltI (by omega) (by omega)]; omega
  have hcl : (nI u).toNatClampNeg = u := nI_clamp (by omega)
  have hne : ∀ k, ¬ qd = qd + (k + 1) := fun k => by omega
  have r1 : (om_up C qd 10 (nI u)).1 qd 10 = nI u := by simp [om_up_at]
  have r2 : ∀ v, (om_up (om_up C qd 10 (nI u)) (qd + 1) u v).1 qd 10 = nI u := fun v => by rw [om_up_at, if_neg (by omega), r1]
  have r3 : ∀ v w, (om_up (om_up (om_up C qd 10 (nI u)) (qd + 1) u v) (qd + 2) u w).1 qd 10 = nI u := fun v w => by rw [om_up_at, if_neg (by omega), r2]
  have r4 : ∀ v w y, (om_up (om_up (om_up (om_up C qd 10 (nI u)) (qd + 1) u v) (qd + 2) u w) (qd + 3) u y).1 qd 10 = nI u := fun v w y => by rw [om_up_at, if_neg (by omega), r3]
  have r5 : ∀ v w y z, (om_up (om_up (om_up (om_up (om_up C qd 10 (nI u)) (qd + 1) u v) (qd + 2) u w) (qd + 3) u y) (qd + 4) u z).1 qd 10 = nI u := fun v w y z => by rw [om_up_at, if_neg (by omega), r4]
  unfold om_Q_begin om_Q_begin_b0
  simp only [og_qa1 hq, cond_true, h0, hlt, if_false, r1, r2, r3, r4, r5, hcl, og_qU hq (show 1 ≤ 1 ∧ 1 ≤ 5 by omega) hu, og_qU hq (show 1 ≤ 2 ∧ 2 ≤ 5 by omega) hu, og_qU hq (show 1 ≤ 3 ∧ 3 ≤ 5 by omega) hu, og_qU hq (show 1 ≤ 4 ∧ 4 ≤ 5 by omega) hu, og_qU hq (show 1 ≤ 5 ∧ 5 ≤ 5 by omega) hu]
def og_ans (z : (Int32 × om_M) ⊕ (om_M ⊕ (Int32 × om_M))) : Option (Int32 × om_M) := Sum.elim (fun z3 => om_R_read_b73 om_F z3.1 z3.2) (fun z4 => Sum.elim (fun z5 => some (z5.1 28 3, z5)) (fun z6 => om_R_read_b73 om_F z6.1 z6.2) z4) z
def og_fl (qd : Nat) (C0 : om_M) (s : Int32 × Int32 × Int32 × om_M) (f : Nat) : Prop := ∃ z C', om_R_read_L27_body om_F s = some (.inr z) ∧ og_ans z = some (nI f, C') ∧ og_gC qd C0 C'
section ST
variable {n qd L : Nat} {bt : Nat → Nat} {C0 D0 : om_M} {x c H R u i f e : Nat} {h : Nat → Nat} {C D : om_M}
theorem og_fail (hE : og_Env n qd L bt C0 D0) (hS : og_Sim n qd L bt C0 D0 x c H h R u C D) (hcu : og_cu L bt D c f e) (hi : i ≤ c) {st : Int32} (hst : st ≠ 1) (hsa : ∀ C1 t, C1.1 28 4 = nI t → t ≠ 0 → og_tkT bt L f e t → (t = 1 → C1.1 28 5 = if e - f ≤ 2 then nI (og_nv bt f (e - f)) else -1) → om_R_stateAfter om_F st (nI n) C1 = some (-1, C1)) : og_fl qd C0 (nI n, st, nI i, C) f := by
  obtain ⟨C1, t, a1, a2, a3, a4, a5, a6, a7⟩ := og_tokC hE hS hcu
  have hb := og_bodyC hE hS hi st a1
  obtain ⟨hTC, -⟩ := og_S_T hE hS
  have hg := og_gC_tr hS.1 (og_gC_fT (qd := qd) a2)
  have h0 : C1.1 28 4 = 0 ↔ t = 0 := by rw [a5]; exact nI_eq (b := 0) (by have := a6.1; omega) (by omega)
  by_cases ht : t = 0
  · rw [if_pos (h0.mpr ht)] at hb
    refine ⟨_, C1, hb, ?_, hg⟩
    have hfL := a6.2.1.mp ht
    show om_R_read_b73 om_F st C1 = _
    unfold om_R_read_b73 om_R_read_b85
    rw [if_neg hst, (og_TC_fT hTC a2).1, hfL]
  · rw [if_neg (fun hx => ht (h0.mp hx)), hsa C1 t a5 ht a6 a7] at hb
    refine ⟨_, C1, hb, ?_, hg⟩
    show some (C1.1 28 3, C1) = _
    rw [a3]
theorem og_step (hE : og_Env n qd L bt C0 D0) (hS : og_Sim n qd L bt C0 D0 x c H h R u C D) (hcu : og_cu L bt D c f e) (hi : i ≤ c) {st st' : Int32} (hst' : st' ≠ -1) {P : om_M → Prop} (hsa : ∀ C1 t, og_fT C C1 → C1.1 28 2 = nI e → C1.1 28 4 = nI t → og_tkT bt L f e t → (t = 1 → C1.1 28 5 = if e - f ≤ 2 then nI (og_nv bt f (e - f)) else -1) → t ≠ 0 ∧ ∃ C2, om_R_stateAfter om_F st (nI n) C1 = some (st', C2) ∧ P C2) : ∃ C2, og_tr (om_R_read_L27_body om_F) 1 (nI n, st, nI i, C) (nI n, st', nI (i + 1), C2) ∧ P C2 := by
  obtain ⟨C1, t, a1, a2, a3, a4, a5, a6, a7⟩ := og_tokC hE hS hcu
  have hb := og_bodyC hE hS hi st a1
  have h0 : C1.1 28 4 = 0 ↔ t = 0 := by rw [a5]; exact nI_eq (b := 0) (by have := a6.1; omega) (by omega)
  obtain ⟨ht, C2, s1, s2⟩ := hsa C1 t a2 a4 a5 a6 a7
  rw [if_neg (fun hx => ht (h0.mp hx)), s1] at hb
  refine ⟨C2, og_tr_one ?_, s2⟩
  rw [hb]
  show (if st' = -1 then _ else _) = _
  rw [if_neg hst', og_nI1]

theorem og_c_one (hE : og_Env n qd L bt C0 D0) (hS : og_Sim n qd L bt C0 D0 0 c H h R u C D) (hcu : og_cu L bt D c f e) (hi : i ≤ c) (hw : og_isw bt 3 f e) : ∃ C2, og_tr (om_R_read_L27_body om_F) 1 (nI n, 0, nI i, C) (nI n, 2, nI (i + 1), C2) ∧ (og_mv qd u C C2 ∧ C2.1 28 2 = nI e ∧ C2.1 qd 10 = nI u ∧ C2.1 (qd + 1) u = 11 ∧ C2.1 (qd + 2) u = 0 ∧ C2.1 (qd + 3) u = 0) := by
  have hu : u < 10 := og_S_u9 hE.2.1 hS (og_w_lt (k := 3) (by omega) hcu.1 hw)
  have hq := hE.2.2.2.1
  have hqd := (og_S_T hE hS).2.2.1
  have h0 : C.1 qd 0 = nI u := hS.2.2.2.2.2.2.1.2.2.2.2.2.1
  refine og_step hE hS hcu hi (by decide) fun C1 t a2 a4 a5 a6 a7 => ?_
  have ht : t = 8 := (a6.2.2.2.2.2 3 (by omega)).mpr hw
  have e4 : C1.1 28 4 = 8 := by rw [a5, ht]; decide
  have e7 : C1.2 28 7 = some qd := by rw [a2.2]; exact hqd
  have e0 : C1.1 qd 0 = nI u := by rw [a2.1 qd 0 (by omega)]; exact h0
  have hbeg := og_Q_begin hq (C := C1) hu e0 11 0
  refine ⟨by omega, om_up (om_up (om_up (om_up (om_up (om_up C1 qd 10 (nI u)) (qd + 1) u 11) (qd + 2) u 0) (qd + 3) u 0) (qd + 4) u 0) (qd + 5) u 0, ?_, og_mv_up (k := 5) (og_mv_up (k := 4) (og_mv_up (k := 3) (og_mv_up (k := 2) (og_mv_up (k := 1) (og_mv_10 (og_mv_fT a2) _) (by omega) _) (by omega) _) (by omega) _) (by omega) _) (by omega) _, ?_, ?_, ?_, ?_, ?_⟩
  · simp only [om_R_stateAfter, om_R_stateAfter_b0, om_R_beginUnit, om_R_beginUnit_b0, om_R_beginUnit_b107, om_R_beginUnit_b127, if_true, if_false, e4, show ¬ (8 : Int32) = 2 by decide, show ¬ (8 : Int32) = 3 by decide, show ¬ (8 : Int32) = 4 by decide, show ¬ (8 : Int32) = 5 by decide, show ¬ (8 : Int32) = 6 by decide, show ¬ (8 : Int32) = 7 by decide, show ¬ (8 : Int32) = 9 by decide, show ¬ (8 : Int32) = 10 by decide, show ¬ (8 : Int32) = 11 by decide, show ¬ (8 : Int32) = 12 by decide, show ¬ (8 : Int32) = 13 by decide, show ¬ (8 : Int32) = 14 by decide, show ¬ (8 : Int32) = 15 by decide, show ¬ (8 : Int32) = 16 by decide, show ¬ (8 : Int32) = 17 by decide, e7, Option.bind_some, og_qa1 hq, cond_true, hbeg]
  · simp only [om_up_at]
    rw [if_neg (by omega), if_neg (by omega), if_neg (by omega), if_neg (by omega), if_neg (by omega), if_neg (by omega)]; exact a4
  · rw [om_up_at, if_neg (by omega), om_up_at, if_neg (by omega), om_up_at, if_neg (by omega), om_up_at, if_neg (by omega), om_up_at, if_neg (by omega), om_up_at, if_pos rfl, if_pos rfl]
  · rw [om_up_at, if_neg (by omega), om_up_at, if_neg (by omega), om_up_at, if_neg (by omega), om_up_at, if_neg (by omega), om_up_at, if_pos rfl, if_pos rfl]
  · rw [om_up_at, if_neg (by omega), om_up_at, if_neg (by omega), om_up_at, if_neg (by omega), om_up_at, if_pos rfl, if_pos rfl]
  · rw [om_up_at, if_neg (by omega), om_up_at, if_neg (by omega), om_up_at, if_pos rfl, if_pos rfl]
theorem og_c_other (hE : og_Env n qd L bt C0 D0) (hS : og_Sim n qd L bt C0 D0 0 c H h R u C D) (hcu : og_cu L bt D c f e) (hi : i ≤ c) (hw : og_isw bt 4 f e) : ∃ C2, og_tr (om_R_read_L27_body om_F) 1 (nI n, 0, nI i, C) (nI n, 2, nI (i + 1), C2) ∧ (og_mv qd u C C2 ∧ C2.1 28 2 = nI e ∧ C2.1 qd 10 = nI u ∧ C2.1 (qd + 1) u = 11 ∧ C2.1 (qd + 2) u = 1 ∧ C2.1 (qd + 3) u = 0) := by
  have hu : u < 10 := og_S_u9 hE.2.1 hS (og_w_lt (k := 4) (by omega) hcu.1 hw)
  have hq := hE.2.2.2.1
  have hqd := (og_S_T hE hS).2.2.1
  have h0 : C.1 qd 0 = nI u := hS.2.2.2.2.2.2.1.2.2.2.2.2.1
  refine og_step hE hS hcu hi (by decide) fun C1 t a2 a4 a5 a6 a7 => ?_
  have ht : t = 9 := (a6.2.2.2.2.2 4 (by omega)).mpr hw
  have e4 : C1.1 28 4 = 9 := by rw [a5, ht]; decide
  have e7 : C1.2 28 7 = some qd := by rw [a2.2]; exact hqd
  have e0 : C1.1 qd 0 = nI u := by rw [a2.1 qd 0 (by omega)]; exact h0
  have hbeg := og_Q_begin hq (C := C1) hu e0 11 1
  refine ⟨by omega, om_up (om_up (om_up (om_up (om_up (om_up C1 qd 10 (nI u)) (qd + 1) u 11) (qd + 2) u 1) (qd + 3) u 0) (qd + 4) u 0) (qd + 5) u 0, ?_, og_mv_up (k := 5) (og_mv_up (k := 4) (og_mv_up (k := 3) (og_mv_up (k := 2) (og_mv_up (k := 1) (og_mv_10 (og_mv_fT a2) _) (by omega) _) (by omega) _) (by omega) _) (by omega) _) (by omega) _, ?_, ?_, ?_, ?_, ?_⟩
  · simp only [om_R_stateAfter, om_R_stateAfter_b0, om_R_beginUnit, om_R_beginUnit_b0, om_R_beginUnit_b107, om_R_beginUnit_b127, if_true, if_false, e4, show ¬ (9 : Int32) = 2 by decide, show ¬ (9 : Int32) = 3 by decide, show ¬ (9 : Int32) = 4 by decide, show ¬ (9 : Int32) = 5 by decide, show ¬ (9 : Int32) = 6 by decide, show ¬ (9 : Int32) = 7 by decide, show ¬ (9 : Int32) = 8 by decide, show ¬ (9 : Int32) = 10 by decide, show ¬ (9 : Int32) = 11 by decide, show ¬ (9 : Int32) = 12 by decide, show ¬ (9 : Int32) = 13 by decide, show ¬ (9 : Int32) = 14 by decide, show ¬ (9 : Int32) = 15 by decide, show ¬ (9 : Int32) = 16 by decide, show ¬ (9 : Int32) = 17 by decide, e7, Option.bind_some, og_qa1 hq, cond_true, hbeg]
  · simp only [om_up_at]
    rw [if_neg (by omega), if_neg (by omega), if_neg (by omega), if_neg (by omega), if_neg (by omega), if_neg (by omega)]; exact a4
  · rw [om_up_at, if_neg (by omega), om_up_at, if_neg (by omega), om_up_at, if_neg (by omega), om_up_at, if_neg (by omega), om_up_at, if_neg (by omega), om_up_at, if_pos rfl, if_pos rfl]
  · rw [om_up_at, if_neg (by omega), om_up_at, if_neg (by omega), om_up_at, if_neg (by omega), om_up_at, if_neg (by omega), om_up_at, if_pos rfl, if_pos rfl]
  · rw [om_up_at, if_neg (by omega), om_up_at, if_neg (by omega), om_up_at, if_neg (by omega), om_up_at, if_pos rfl, if_pos rfl]
  · rw [om_up_at, if_neg (by omega), om_up_at, if_neg (by omega), om_up_at, if_pos rfl, if_pos rfl]
theorem og_c_even (hE : og_Env n qd L bt C0 D0) (hS : og_Sim n qd L bt C0 D0 0 c H h R u C D) (hcu : og_cu L bt D c f e) (hi : i ≤ c) (hw : og_isw bt 9 f e) : ∃ C2, og_tr (om_R_read_L27_body om_F) 1 (nI n, 0, nI i, C) (nI n, 6, nI (i + 1), C2) ∧ (og_mv qd u C C2 ∧ C2.1 28 2 = nI e ∧ C2.1 qd 10 = nI u ∧ C2.1 (qd + 1) u = 14 ∧ C2.1 (qd + 2) u = 0 ∧ C2.1 (qd + 3) u = 0) := by
  have hu : u < 10 := og_S_u9 hE.2.1 hS (og_w_lt (k := 9) (by omega) hcu.1 hw)
  have hq := hE.2.2.2.1
  have hqd := (og_S_T hE hS).2.2.1
  have h0 : C.1 qd 0 = nI u := hS.2.2.2.2.2.2.1.2.2.2.2.2.1
  refine og_step hE hS hcu hi (by decide) fun C1 t a2 a4 a5 a6 a7 => ?_
  have ht : t = 14 := (a6.2.2.2.2.2 9 (by omega)).mpr hw
  have e4 : C1.1 28 4 = 14 := by rw [a5, ht]; decide
  have e7 : C1.2 28 7 = some qd := by rw [a2.2]; exact hqd
  have e0 : C1.1 qd 0 = nI u := by rw [a2.1 qd 0 (by omega)]; exact h0
  have hbeg := og_Q_begin hq (C := C1) hu e0 14 0
  refine ⟨by omega, om_up (om_up (om_up (om_up (om_up (om_up C1 qd 10 (nI u)) (qd + 1) u 14) (qd + 2) u 0) (qd + 3) u 0) (qd + 4) u 0) (qd + 5) u 0, ?_, og_mv_up (k := 5) (og_mv_up (k := 4) (og_mv_up (k := 3) (og_mv_up (k := 2) (og_mv_up (k := 1) (og_mv_10 (og_mv_fT a2) _) (by omega) _) (by omega) _) (by omega) _) (by omega) _) (by omega) _, ?_, ?_, ?_, ?_, ?_⟩
  · simp only [om_R_stateAfter, om_R_stateAfter_b0, om_R_beginUnit, om_R_beginUnit_b0, om_R_beginUnit_b107, om_R_beginUnit_b127, if_true, if_false, e4, show ¬ (14 : Int32) = 2 by decide, show ¬ (14 : Int32) = 3 by decide, show ¬ (14 : Int32) = 4 by decide, show ¬ (14 : Int32) = 5 by decide, show ¬ (14 : Int32) = 6 by decide, show ¬ (14 : Int32) = 7 by decide, show ¬ (14 : Int32) = 8 by decide, show ¬ (14 : Int32) = 9 by decide, show ¬ (14 : Int32) = 10 by decide, show ¬ (14 : Int32) = 11 by decide, show ¬ (14 : Int32) = 12 by decide, show ¬ (14 : Int32) = 13 by decide, show ¬ (14 : Int32) = 15 by decide, show ¬ (14 : Int32) = 16 by decide, show ¬ (14 : Int32) = 17 by decide, e7, Option.bind_some, og_qa1 hq, cond_true, hbeg]
  · simp only [om_up_at]
    rw [if_neg (by omega), if_neg (by omega), if_neg (by omega), if_neg (by omega), if_neg (by omega), if_neg (by omega)]; exact a4
  · rw [om_up_at, if_neg (by omega), om_up_at, if_neg (by omega), om_up_at, if_neg (by omega), om_up_at, if_neg (by omega), om_up_at, if_neg (by omega), om_up_at, if_pos rfl, if_pos rfl]
  · rw [om_up_at, if_neg (by omega), om_up_at, if_neg (by omega), om_up_at, if_neg (by omega), om_up_at, if_neg (by omega), om_up_at, if_pos rfl, if_pos rfl]
  · rw [om_up_at, if_neg (by omega), om_up_at, if_neg (by omega), om_up_at, if_neg (by omega), om_up_at, if_pos rfl, if_pos rfl]
  · rw [om_up_at, if_neg (by omega), om_up_at, if_neg (by omega), om_up_at, if_pos rfl, if_pos rfl]
theorem og_c_mean (hE : og_Env n qd L bt C0 D0) (hS : og_Sim n qd L bt C0 D0 0 c H h R u C D) (hcu : og_cu L bt D c f e) (hi : i ≤ c) (hw : og_isw bt 10 f e) : ∃ C2, og_tr (om_R_read_L27_body om_F) 1 (nI n, 0, nI i, C) (nI n, 7, nI (i + 1), C2) ∧ (og_mv qd u C C2 ∧ C2.1 28 2 = nI e ∧ C2.1 qd 10 = nI u ∧ C2.1 (qd + 1) u = 16 ∧ C2.1 (qd + 2) u = 0 ∧ C2.1 (qd + 3) u = 0) := by
  have hu : u < 10 := og_S_u9 hE.2.1 hS (og_w_lt (k := 10) (by omega) hcu.1 hw)
  have hq := hE.2.2.2.1
  have hqd := (og_S_T hE hS).2.2.1
  have h0 : C.1 qd 0 = nI u := hS.2.2.2.2.2.2.1.2.2.2.2.2.1
  refine og_step hE hS hcu hi (by decide) fun C1 t a2 a4 a5 a6 a7 => ?_
  have ht : t = 15 := (a6.2.2.2.2.2 10 (by omega)).mpr hw
  have e4 : C1.1 28 4 = 15 := by rw [a5, ht]; decide
  have e7 : C1.2 28 7 = some qd := by rw [a2.2]; exact hqd
  have e0 : C1.1 qd 0 = nI u := by rw [a2.1 qd 0 (by omega)]; exact h0
  have hbeg := og_Q_begin hq (C := C1) hu e0 16 0
  refine ⟨by omega, om_up (om_up (om_up (om_up (om_up (om_up C1 qd 10 (nI u)) (qd + 1) u 16) (qd + 2) u 0) (qd + 3) u 0) (qd + 4) u 0) (qd + 5) u 0, ?_, og_mv_up (k := 5) (og_mv_up (k := 4) (og_mv_up (k := 3) (og_mv_up (k := 2) (og_mv_up (k := 1) (og_mv_10 (og_mv_fT a2) _) (by omega) _) (by omega) _) (by omega) _) (by omega) _) (by omega) _, ?_, ?_, ?_, ?_, ?_⟩
  · simp only [om_R_stateAfter, om_R_stateAfter_b0, om_R_beginUnit, om_R_beginUnit_b0, om_R_beginUnit_b107, om_R_beginUnit_b127, if_true, if_false, e4, show ¬ (15 : Int32) = 2 by decide, show ¬ (15 : Int32) = 3 by decide, show ¬ (15 : Int32) = 4 by decide, show ¬ (15 : Int32) = 5 by decide, show ¬ (15 : Int32) = 6 by decide, show ¬ (15 : Int32) = 7 by decide, show ¬ (15 : Int32) = 8 by decide, show ¬ (15 : Int32) = 9 by decide, show ¬ (15 : Int32) = 10 by decide, show ¬ (15 : Int32) = 11 by decide, show ¬ (15 : Int32) = 12 by decide, show ¬ (15 : Int32) = 13 by decide, show ¬ (15 : Int32) = 14 by decide, show ¬ (15 : Int32) = 16 by decide, show ¬ (15 : Int32) = 17 by decide, e7, Option.bind_some, og_qa1 hq, cond_true, hbeg]
  · simp only [om_up_at]
    rw [if_neg (by omega), if_neg (by omega), if_neg (by omega), if_neg (by omega), if_neg (by omega), if_neg (by omega)]; exact a4
  · rw [om_up_at, if_neg (by omega), om_up_at, if_neg (by omega), om_up_at, if_neg (by omega), om_up_at, if_neg (by omega), om_up_at, if_neg (by omega), om_up_at, if_pos rfl, if_pos rfl]
  · rw [om_up_at, if_neg (by omega), om_up_at, if_neg (by omega), om_up_at, if_neg (by omega), om_up_at, if_neg (by omega), om_up_at, if_pos rfl, if_pos rfl]
  · rw [om_up_at, if_neg (by omega), om_up_at, if_neg (by omega), om_up_at, if_neg (by omega), om_up_at, if_pos rfl, if_pos rfl]
  · rw [om_up_at, if_neg (by omega), om_up_at, if_neg (by omega), om_up_at, if_pos rfl, if_pos rfl]
theorem og_c_verb (hE : og_Env n qd L bt C0 D0) (hS : og_Sim n qd L bt C0 D0 0 c H h R u C D) (hcu : og_cu L bt D c f e) (hi : i ≤ c) (hU : C.1 qd 10 = nI u) {j : Nat} (hj : j < 3) (hw : og_isw bt (6 + j) f e) : ∃ C2, og_tr (om_R_read_L27_body om_F) 1 (nI n, 2, nI i, C) (nI n, 3, nI (i + 1), C2) ∧ (og_mv qd u C C2 ∧ C2.1 28 2 = nI e ∧ C2.1 qd 10 = nI u ∧ C2.1 (qd + 1) u = nI (11 + j) ∧ ∀ k, 2 ≤ k → k ≤ 5 → C2.1 (qd + k) u = C.1 (qd + k) u) := by
  have hu : u < 10 := og_S_u9 hE.2.1 hS (og_w_lt (k := 6 + j) (by omega) hcu.1 hw)
  have hq := hE.2.2.2.1
  have hqd := (og_S_T hE hS).2.2.1
  refine og_step hE hS hcu hi (by decide) fun C1 t a2 a4 a5 a6 a7 => ?_
  have ht : t = 5 + (6 + j) := (a6.2.2.2.2.2 (6 + j) (by omega)).mpr hw
  have e7 : C1.2 28 7 = some qd := by rw [a2.2]; exact hqd
  have e10 : C1.1 qd 10 = nI u := by rw [a2.1 qd 10 (by omega)]; exact hU
  have hcl : (nI u).toNatClampNeg = u := nI_clamp (by omega)
  have ekk : C1.1 28 4 = nI (11 + j) := by rw [a5, ht]; congr 1; omega
  refine ⟨by omega, om_up C1 (qd + 1) u (nI (11 + j)), ?_, og_mv_up (og_mv_fT a2) (by omega) _, ?_, ?_, ?_, fun k h1 h2 => ?_⟩
  · have hjj : j = 0 ∨ j = 1 ∨ j = 2 := by omega
    rcases hjj with rfl | rfl | rfl
    · have e4 : C1.1 28 4 = 11 := by rw [ekk]; decide
      simp only [om_R_stateAfter, om_R_stateAfter_b0, om_R_takeVerb, om_R_takeVerb_b0, om_R_takeVerb_b29, show ¬ (2 : Int32) = 0 by decide, show ¬ (2 : Int32) = 1 by decide, show ¬ (2 : Int32) = 3 by decide, show ¬ (2 : Int32) = 4 by decide, show ¬ (2 : Int32) = 5 by decide, show ¬ (2 : Int32) = 6 by decide, show ¬ (2 : Int32) = 7 by decide, show ¬ (2 : Int32) = 8 by decide, show ¬ (2 : Int32) = 9 by decide, if_true, if_false, e4, show ¬ (11 : Int32) = 2 by decide, show ¬ (11 : Int32) = 3 by decide, show ¬ (11 : Int32) = 4 by decide, show ¬ (11 : Int32) = 5 by decide, show ¬ (11 : Int32) = 6 by decide, show ¬ (11 : Int32) = 7 by decide, show ¬ (11 : Int32) = 8 by decide, show ¬ (11 : Int32) = 9 by decide, show ¬ (11 : Int32) = 10 by decide, show ¬ (11 : Int32) = 12 by decide, show ¬ (11 : Int32) = 13 by decide, show ¬ (11 : Int32) = 14 by decide, show ¬ (11 : Int32) = 15 by decide, show ¬ (11 : Int32) = 16 by decide, show ¬ (11 : Int32) = 17 by decide, e7, Option.bind_some, og_qa1 hq, cond_true, e10, og_qU hq (show 1 ≤ 1 ∧ 1 ≤ 5 by omega) hu, hcl]
      rfl
    · have e4 : C1.1 28 4 = 12 := by rw [ekk]; decide
      simp only [om_R_stateAfter, om_R_stateAfter_b0, om_R_takeVerb, om_R_takeVerb_b0, om_R_takeVerb_b29, show ¬ (2 : Int32) = 0 by decide, show ¬ (2 : Int32) = 1 by decide, show ¬ (2 : Int32) = 3 by decide, show ¬ (2 : Int32) = 4 by decide, show ¬ (2 : Int32) = 5 by decide, show ¬ (2 : Int32) = 6 by decide, show ¬ (2 : Int32) = 7 by decide, show ¬ (2 : Int32) = 8 by decide, show ¬ (2 : Int32) = 9 by decide, if_true, if_false, e4, show ¬ (12 : Int32) = 2 by decide, show ¬ (12 : Int32) = 3 by decide, show ¬ (12 : Int32) = 4 by decide, show ¬ (12 : Int32) = 5 by decide, show ¬ (12 : Int32) = 6 by decide, show ¬ (12 : Int32) = 7 by decide, show ¬ (12 : Int32) = 8 by decide, show ¬ (12 : Int32) = 9 by decide, show ¬ (12 : Int32) = 10 by decide, show ¬ (12 : Int32) = 11 by decide, show ¬ (12 : Int32) = 13 by decide, show ¬ (12 : Int32) = 14 by decide, show ¬ (12 : Int32) = 15 by decide, show ¬ (12 : Int32) = 16 by decide, show ¬ (12 : Int32) = 17 by decide, e7, Option.bind_some, og_qa1 hq, cond_true, e10, og_qU hq (show 1 ≤ 1 ∧ 1 ≤ 5 by omega) hu, hcl]
      rfl
    · have e4 : C1.1 28 4 = 13 := by rw [ekk]; decide
      simp only [om_R_stateAfter, om_R_stateAfter_b0, om_R_takeVerb, om_R_takeVerb_b0, om_R_takeVerb_b29, show ¬ (2 : Int32) = 0 by decide, show ¬ (2 : Int32) = 1 by decide, show ¬ (2 : Int32) = 3 by decide, show ¬ (2 : Int32) = 4 by decide, show ¬ (2 : Int32) = 5 by decide, show ¬ (2 : Int32) = 6 by decide, show ¬ (2 : Int32) = 7 by decide, show ¬ (2 : Int32) = 8 by decide, show ¬ (2 : Int32) = 9 by decide, if_true, if_false, e4, show ¬ (13 : Int32) = 2 by decide, show ¬ (13 : Int32) = 3 by decide, show ¬ (13 : Int32) = 4 by decide, show ¬ (13 : Int32) = 5 by decide, show ¬ (13 : Int32) = 6 by decide, show ¬ (13 : Int32) = 7 by decide, show ¬ (13 : Int32) = 8 by decide, show ¬ (13 : Int32) = 9 by decide, show ¬ (13 : Int32) = 10 by decide, show ¬ (13 : Int32) = 11 by decide, show ¬ (13 : Int32) = 12 by decide, show ¬ (13 : Int32) = 14 by decide, show ¬ (13 : Int32) = 15 by decide, show ¬ (13 : Int32) = 16 by decide, show ¬ (13 : Int32) = 17 by decide, e7, Option.bind_some, og_qa1 hq, cond_true, e10, og_qU hq (show 1 ≤ 1 ∧ 1 ≤ 5 by omega) hu, hcl]
      rfl
  · rw [om_up_at, if_neg (by omega)]; exact a4
  · rw [om_up_at, if_neg (by omega)]; exact e10
  · rw [om_up_at, if_pos rfl, if_pos rfl]
  · rw [om_up_at, if_neg (by omega)]; exact a2.1 _ _ (by omega)
theorem og_c_side (hE : og_Env n qd L bt C0 D0) (hS : og_Sim n qd L bt C0 D0 0 c H h R u C D) (hcu : og_cu L bt D c f e) (hi : i ≤ c) (hU : C.1 qd 10 = nI u) {j : Nat} (hj : j < 2) (hw : og_isw bt (11 + j) f e) : ∃ C2, og_tr (om_R_read_L27_body om_F) 1 (nI n, 8, nI i, C) (nI n, 9, nI (i + 1), C2) ∧ (og_mv qd u C C2 ∧ C2.1 28 2 = nI e ∧ C2.1 qd 10 = nI u ∧ C2.1 (qd + 1) u = nI (16 + j) ∧ ∀ k, 2 ≤ k → k ≤ 5 → C2.1 (qd + k) u = C.1 (qd + k) u) := by
  have hu : u < 10 := og_S_u9 hE.2.1 hS (og_w_lt (k := 11 + j) (by omega) hcu.1 hw)
  have hq := hE.2.2.2.1
  have hqd := (og_S_T hE hS).2.2.1
  refine og_step hE hS hcu hi (by decide) fun C1 t a2 a4 a5 a6 a7 => ?_
  have ht : t = 5 + (11 + j) := (a6.2.2.2.2.2 (11 + j) (by omega)).mpr hw
  have e7 : C1.2 28 7 = some qd := by rw [a2.2]; exact hqd
  have e10 : C1.1 qd 10 = nI u := by rw [a2.1 qd 10 (by omega)]; exact hU
  have hcl : (nI u).toNatClampNeg = u := nI_clamp (by omega)
  have ekk : C1.1 28 4 = nI (16 + j) := by rw [a5, ht]; congr 1; omega
  refine ⟨by omega, om_up C1 (qd + 1) u (nI (16 + j)), ?_, og_mv_up (og_mv_fT a2) (by omega) _, ?_, ?_, ?_, fun k h1 h2 => ?_⟩
  · have hjj : j = 0 ∨ j = 1 := by omega
    rcases hjj with rfl | rfl
    · have e4 : C1.1 28 4 = 16 := by rw [ekk]; decide
      simp only [om_R_stateAfter, om_R_stateAfter_b0, om_R_takeSide, om_R_takeSide_b0, om_R_takeSide_b20, show ¬ (8 : Int32) = 0 by decide, show ¬ (8 : Int32) = 1 by decide, show ¬ (8 : Int32) = 2 by decide, show ¬ (8 : Int32) = 3 by decide, show ¬ (8 : Int32) = 4 by decide, show ¬ (8 : Int32) = 5 by decide, show ¬ (8 : Int32) = 6 by decide, show ¬ (8 : Int32) = 7 by decide, show ¬ (8 : Int32) = 9 by decide, if_true, if_false, e4, show ¬ (16 : Int32) = 2 by decide, show ¬ (16 : Int32) = 3 by decide, show ¬ (16 : Int32) = 4 by decide, show ¬ (16 : Int32) = 5 by decide, show ¬ (16 : Int32) = 6 by decide, show ¬ (16 : Int32) = 7 by decide, show ¬ (16 : Int32) = 8 by decide, show ¬ (16 : Int32) = 9 by decide, show ¬ (16 : Int32) = 10 by decide, show ¬ (16 : Int32) = 11 by decide, show ¬ (16 : Int32) = 12 by decide, show ¬ (16 : Int32) = 13 by decide, show ¬ (16 : Int32) = 14 by decide, show ¬ (16 : Int32) = 15 by decide, show ¬ (16 : Int32) = 17 by decide, e7, Option.bind_some, og_qa1 hq, cond_true, e10, og_qU hq (show 1 ≤ 1 ∧ 1 ≤ 5 by omega) hu, hcl]
      rfl
    · have e4 : C1.1 28 4 = 17 := by rw [ekk]; decide
      simp only [om_R_stateAfter, om_R_stateAfter_b0, om_R_takeSide, om_R_takeSide_b0, om_R_takeSide_b20, show ¬ (8 : Int32) = 0 by decide, show ¬ (8 : Int32) = 1 by decide, show ¬ (8 : Int32) = 2 by decide, show ¬ (8 : Int32) = 3 by decide, show ¬ (8 : Int32) = 4 by decide, show ¬ (8 : Int32) = 5 by decide, show ¬ (8 : Int32) = 6 by decide, show ¬ (8 : Int32) = 7 by decide, show ¬ (8 : Int32) = 9 by decide, if_true, if_false, e4, show ¬ (17 : Int32) = 2 by decide, show ¬ (17 : Int32) = 3 by decide, show ¬ (17 : Int32) = 4 by decide, show ¬ (17 : Int32) = 5 by decide, show ¬ (17 : Int32) = 6 by decide, show ¬ (17 : Int32) = 7 by decide, show ¬ (17 : Int32) = 8 by decide, show ¬ (17 : Int32) = 9 by decide, show ¬ (17 : Int32) = 10 by decide, show ¬ (17 : Int32) = 11 by decide, show ¬ (17 : Int32) = 12 by decide, show ¬ (17 : Int32) = 13 by decide, show ¬ (17 : Int32) = 14 by decide, show ¬ (17 : Int32) = 15 by decide, show ¬ (17 : Int32) = 16 by decide, e7, Option.bind_some, og_qa1 hq, cond_true, e10, og_qU hq (show 1 ≤ 1 ∧ 1 ≤ 5 by omega) hu, hcl]
      rfl
  · rw [om_up_at, if_neg (by omega)]; exact a4
  · rw [om_up_at, if_neg (by omega)]; exact e10
  · rw [om_up_at, if_pos rfl, if_pos rfl]
  · rw [om_up_at, if_neg (by omega)]; exact a2.1 _ _ (by omega)
theorem og_c_from4 (hE : og_Env n qd L bt C0 D0) (hS : og_Sim n qd L bt C0 D0 x c H h R u C D) (hcu : og_cu L bt D c f e) (hi : i ≤ c) (hU : C.1 qd 10 = nI u) (hw : og_isw bt 5 f e) : ∃ C2, og_tr (om_R_read_L27_body om_F) 1 (nI n, 4, nI i, C) (nI n, 5, nI (i + 1), C2) ∧ (og_mv qd u C C2 ∧ C2.1 28 2 = nI e ∧ C2.1 qd 10 = nI u ∧ ∀ k, 1 ≤ k → k ≤ 5 → C2.1 (qd + k) u = C.1 (qd + k) u) := by
  have hq := hE.2.2.2.1
  refine og_step hE hS hcu hi (by decide) fun C1 t a2 a4 a5 a6 a7 => ?_
  have ht : t = 10 := (a6.2.2.2.2.2 5 (by omega)).mpr hw
  have e4 : C1.1 28 4 = 10 := by rw [a5, ht]; decide
  refine ⟨by omega, C1, ?_, og_mv_fT a2, a4, by rw [a2.1 qd 10 (by omega)]; exact hU, fun k h1 h2 => a2.1 _ _ (by omega)⟩
  simp only [om_R_stateAfter, om_R_stateAfter_b0, om_R_stateAfter_b91, om_R_stateAfter_b123, show ¬ (4 : Int32) = 0 by decide, show ¬ (4 : Int32) = 1 by decide, show ¬ (4 : Int32) = 2 by decide, show ¬ (4 : Int32) = 3 by decide, show ¬ (4 : Int32) = 5 by decide, show ¬ (4 : Int32) = 6 by decide, show ¬ (4 : Int32) = 7 by decide, show ¬ (4 : Int32) = 8 by decide, show ¬ (4 : Int32) = 9 by decide, if_true, if_false, e4]
theorem og_c_from6 (hE : og_Env n qd L bt C0 D0) (hS : og_Sim n qd L bt C0 D0 x c H h R u C D) (hcu : og_cu L bt D c f e) (hi : i ≤ c) (hU : C.1 qd 10 = nI u) (hw : og_isw bt 5 f e) : ∃ C2, og_tr (om_R_read_L27_body om_F) 1 (nI n, 6, nI i, C) (nI n, 5, nI (i + 1), C2) ∧ (og_mv qd u C C2 ∧ C2.1 28 2 = nI e ∧ C2.1 qd 10 = nI u ∧ ∀ k, 1 ≤ k → k ≤ 5 → C2.1 (qd + k) u = C.1 (qd + k) u) := by
  have hq := hE.2.2.2.1
  refine og_step hE hS hcu hi (by decide) fun C1 t a2 a4 a5 a6 a7 => ?_
  have ht : t = 10 := (a6.2.2.2.2.2 5 (by omega)).mpr hw
  have e4 : C1.1 28 4 = 10 := by rw [a5, ht]; decide
  refine ⟨by omega, C1, ?_, og_mv_fT a2, a4, by rw [a2.1 qd 10 (by omega)]; exact hU, fun k h1 h2 => a2.1 _ _ (by omega)⟩
  simp only [om_R_stateAfter, om_R_stateAfter_b0, om_R_stateAfter_b91, om_R_stateAfter_b123, show ¬ (6 : Int32) = 0 by decide, show ¬ (6 : Int32) = 1 by decide, show ¬ (6 : Int32) = 2 by decide, show ¬ (6 : Int32) = 3 by decide, show ¬ (6 : Int32) = 4 by decide, show ¬ (6 : Int32) = 5 by decide, show ¬ (6 : Int32) = 7 by decide, show ¬ (6 : Int32) = 8 by decide, show ¬ (6 : Int32) = 9 by decide, if_true, if_false, e4]
theorem og_isPlaceY {C1 : om_M} {v : Nat} (h8 : n ≤ 8) (hv : og_num2 bt L f e v) (hvn : v < n) {t : Nat} (a5 : C1.1 28 4 = nI t) (a6 : og_tkT bt L f e t) (a7 : t = 1 → C1.1 28 5 = if e - f ≤ 2 then nI (og_nv bt f (e - f)) else -1) : t = 1 ∧ C1.1 28 5 = nI v ∧ om_R_isPlaceNumber om_F (nI n) C1 = some (1, C1) := by
  have ht : t = 1 := a6.2.2.1.mpr ⟨hv.1, hv.2.1⟩
  have e5 : C1.1 28 5 = nI v := by rw [a7 ht, if_pos hv.2.2.1, hv.2.2.2]
  refine ⟨ht, e5, ?_⟩
  have e4 : C1.1 28 4 = 1 := by rw [a5, ht]; decide
  have h1 : ¬ nI v = -1 := fun hx => nI_pos (show v < 2 ^ 31 by omega) (by rw [hx]; decide)
  have h2 : ¬ nI n ≤ nI v := nI_ge hvn (by omega)
  simp only [om_R_isPlaceNumber, om_R_isPlaceNumber_b0, om_R_isPlaceNumber_b29, e4, if_true, e5, h1, if_false, h2]
  rfl
theorem og_isPlaceN {C1 : om_M} (hL : L ≤ 120) (hno : ¬ ∃ v, og_num2 bt L f e v ∧ v < n) (h8 : n ≤ 8) (htk : og_tok bt L c f e) {t : Nat} (a5 : C1.1 28 4 = nI t) (a6 : og_tkT bt L f e t) (a7 : t = 1 → C1.1 28 5 = if e - f ≤ 2 then nI (og_nv bt f (e - f)) else -1) : om_R_isPlaceNumber om_F (nI n) C1 = some (0, C1) := by
  have h1 : nI t = 1 ↔ t = 1 := nI_eq (b := 1) (by have := a6.1; omega) (by omega)
  unfold om_R_isPlaceNumber om_R_isPlaceNumber_b0 om_R_isPlaceNumber_b28 om_R_isPlaceNumber_b29
  rw [a5]
  by_cases ht : t = 1
  · rw [if_pos (h1.mpr ht), a7 ht]
    by_cases hlen : e - f ≤ 2
    · rw [if_pos hlen]
      have hf := a6.2.2.1.mp ht
      have hall : ∀ i, f ≤ i → i < e → og_so (bt i) = 2 := fun i h1 h2 => by
        by_cases hif : i = f
        · subst hif; exact hf.2
        · rw [((htk.2.2.2.2.2 hf.1).2.2.1 i (by omega) h2).2, hf.2]
      have hnv : og_nv bt f (e - f) < 100 := by
        have h1 := og_nv_lt (bt := bt) hall
        have h2 : e - f = 1 ∨ e - f = 2 := by have := (htk.2.2.2.2.2 hf.1).1; omega
        rcases h2 with h2 | h2 <;> rw [h2]
        · have := h1.1 (by omega); omega
        · exact h1.2 (by omega)
      have hge : n ≤ og_nv bt f (e - f) := Classical.byContradiction fun hx => hno ⟨_, ⟨hf.1, hf.2, hlen, rfl⟩, by omega⟩
      have h3 : ¬ nI (og_nv bt f (e - f)) = -1 := fun hx => nI_pos (show og_nv bt f (e - f) < 2 ^ 31 by omega) (by rw [hx]; decide)
      rw [if_neg h3, if_pos (nI_le hge (by omega))]; rfl
    · rw [if_neg hlen, if_pos rfl]; rfl
  · rw [if_neg (fun hx => ht (h1.mp hx))]; rfl
theorem og_c_member3 (hE : og_Env n qd L bt C0 D0) (hS : og_Sim n qd L bt C0 D0 0 c H h R u C D) (hcu : og_cu L bt D c f e) (hi : i ≤ c) (hU : C.1 qd 10 = nI u) {v : Nat} (hv : og_num2 bt L f e v) (hvn : v < n) : ∃ C2, og_tr (om_R_read_L27_body om_F) 1 (nI n, 3, nI i, C) (nI n, 4, nI (i + 1), C2) ∧ (og_mv qd u C C2 ∧ C2.1 28 2 = nI e ∧ C2.1 qd 10 = nI u ∧ C2.1 (qd + 3) u = C.1 (qd + 3) u ||| (1 <<< (nI v &&& 31)) ∧ ∀ k, 1 ≤ k → k ≤ 5 → k ≠ 3 → C2.1 (qd + k) u = C.1 (qd + k) u) := by
  have hu : u < 10 := og_S_u9 hE.2.1 hS (Nat.lt_of_le_of_lt hcu.1.1 hv.1)
  have hq := hE.2.2.2.1
  have hqd := (og_S_T hE hS).2.2.1
  refine og_step hE hS hcu hi (by decide) fun C1 t a2 a4 a5 a6 a7 => ?_
  obtain ⟨ht, e5, hp⟩ := og_isPlaceY hE.1 hv hvn a5 a6 a7
  have e4 : C1.1 28 4 = 1 := by rw [a5, ht]; decide
  have e7 : C1.2 28 7 = some qd := by rw [a2.2]; exact hqd
  have e10 : C1.1 qd 10 = nI u := by rw [a2.1 qd 10 (by omega)]; exact hU
  have hcl : (nI u).toNatClampNeg = u := nI_clamp (by omega)
  have e3 : C1.1 (qd + 3) u = C.1 (qd + 3) u := a2.1 _ _ (by omega)
  refine ⟨by omega, om_up C1 (qd + 3) u (C.1 (qd + 3) u ||| (1 <<< (nI v &&& 31))), ?_, og_mv_up (og_mv_fT a2) (by omega) _, ?_, ?_, ?_, fun k h1 h2 h3 => ?_⟩
  · simp only [om_R_stateAfter, om_R_stateAfter_b0, om_R_stateAfter_b91, om_R_takeMember, om_R_takeMember_b0, show ¬ (3 : Int32) = 0 by decide, show ¬ (3 : Int32) = 1 by decide, show ¬ (3 : Int32) = 2 by decide, show ¬ (3 : Int32) = 4 by decide, show ¬ (3 : Int32) = 5 by decide, show ¬ (3 : Int32) = 6 by decide, show ¬ (3 : Int32) = 7 by decide, show ¬ (3 : Int32) = 8 by decide, show ¬ (3 : Int32) = 9 by decide, if_true, if_false, e4, hp, show ¬ (1 : Int32) = 0 by decide, e7, Option.bind_some, og_qa1 hq, cond_true, e10, og_qU hq (show 1 ≤ 3 ∧ 3 ≤ 5 by omega) hu, hcl, e3, e5]
  · rw [om_up_at, if_neg (by omega)]; exact a4
  · rw [om_up_at, if_neg (by omega)]; exact e10
  · rw [om_up_at, if_pos rfl, if_pos rfl]
  · rw [om_up_at, if_neg (by omega)]; exact a2.1 _ _ (by omega)
theorem og_c_member4 (hE : og_Env n qd L bt C0 D0) (hS : og_Sim n qd L bt C0 D0 0 c H h R u C D) (hcu : og_cu L bt D c f e) (hi : i ≤ c) (hU : C.1 qd 10 = nI u) {v : Nat} (hv : og_num2 bt L f e v) (hvn : v < n) : ∃ C2, og_tr (om_R_read_L27_body om_F) 1 (nI n, 4, nI i, C) (nI n, 4, nI (i + 1), C2) ∧ (og_mv qd u C C2 ∧ C2.1 28 2 = nI e ∧ C2.1 qd 10 = nI u ∧ C2.1 (qd + 3) u = C.1 (qd + 3) u ||| (1 <<< (nI v &&& 31)) ∧ ∀ k, 1 ≤ k → k ≤ 5 → k ≠ 3 → C2.1 (qd + k) u = C.1 (qd + k) u) := by
  have hu : u < 10 := og_S_u9 hE.2.1 hS (Nat.lt_of_le_of_lt hcu.1.1 hv.1)
  have hq := hE.2.2.2.1
  have hqd := (og_S_T hE hS).2.2.1
  refine og_step hE hS hcu hi (by decide) fun C1 t a2 a4 a5 a6 a7 => ?_
  obtain ⟨ht, e5, hp⟩ := og_isPlaceY hE.1 hv hvn a5 a6 a7
  have e4 : C1.1 28 4 = 1 := by rw [a5, ht]; decide
  have e7 : C1.2 28 7 = some qd := by rw [a2.2]; exact hqd
  have e10 : C1.1 qd 10 = nI u := by rw [a2.1 qd 10 (by omega)]; exact hU
  have hcl : (nI u).toNatClampNeg = u := nI_clamp (by omega)
  have e3 : C1.1 (qd + 3) u = C.1 (qd + 3) u := a2.1 _ _ (by omega)
  refine ⟨by omega, om_up C1 (qd + 3) u (C.1 (qd + 3) u ||| (1 <<< (nI v &&& 31))), ?_, og_mv_up (og_mv_fT a2) (by omega) _, ?_, ?_, ?_, fun k h1 h2 h3 => ?_⟩
  · simp only [om_R_stateAfter, om_R_stateAfter_b0, om_R_stateAfter_b91, om_R_takeMember, om_R_takeMember_b0, show ¬ (4 : Int32) = 0 by decide, show ¬ (4 : Int32) = 1 by decide, show ¬ (4 : Int32) = 2 by decide, show ¬ (4 : Int32) = 3 by decide, show ¬ (4 : Int32) = 5 by decide, show ¬ (4 : Int32) = 6 by decide, show ¬ (4 : Int32) = 7 by decide, show ¬ (4 : Int32) = 8 by decide, show ¬ (4 : Int32) = 9 by decide, if_true, if_false, e4, show ¬ (1 : Int32) = 10 by decide, hp, show ¬ (1 : Int32) = 0 by decide, e7, Option.bind_some, og_qa1 hq, cond_true, e10, og_qU hq (show 1 ≤ 3 ∧ 3 ≤ 5 by omega) hu, hcl, e3, e5]
  · rw [om_up_at, if_neg (by omega)]; exact a4
  · rw [om_up_at, if_neg (by omega)]; exact e10
  · rw [om_up_at, if_pos rfl, if_pos rfl]
  · rw [om_up_at, if_neg (by omega)]; exact a2.1 _ _ (by omega)
theorem og_c_place7 (hE : og_Env n qd L bt C0 D0) (hS : og_Sim n qd L bt C0 D0 0 c H h R u C D) (hcu : og_cu L bt D c f e) (hi : i ≤ c) (hU : C.1 qd 10 = nI u) {v : Nat} (hv : og_num2 bt L f e v) (hvn : v < n) : ∃ C2, og_tr (om_R_read_L27_body om_F) 1 (nI n, 7, nI i, C) (nI n, 8, nI (i + 1), C2) ∧ (og_mv qd u C C2 ∧ C2.1 28 2 = nI e ∧ C2.1 qd 10 = nI u ∧ C2.1 (qd + 4) u = nI v ∧ ∀ k, 1 ≤ k → k ≤ 5 → k ≠ 4 → C2.1 (qd + k) u = C.1 (qd + k) u) := by
  have hu : u < 10 := og_S_u9 hE.2.1 hS (Nat.lt_of_le_of_lt hcu.1.1 hv.1)
  have hq := hE.2.2.2.1
  have hqd := (og_S_T hE hS).2.2.1
  refine og_step hE hS hcu hi (by decide) fun C1 t a2 a4 a5 a6 a7 => ?_
  obtain ⟨ht, e5, hp⟩ := og_isPlaceY hE.1 hv hvn a5 a6 a7
  have e7 : C1.2 28 7 = some qd := by rw [a2.2]; exact hqd
  have e10 : C1.1 qd 10 = nI u := by rw [a2.1 qd 10 (by omega)]; exact hU
  have hcl : (nI u).toNatClampNeg = u := nI_clamp (by omega)
  refine ⟨by omega, om_up C1 (qd + 4) u (nI v), ?_, og_mv_up (og_mv_fT a2) (by omega) _, ?_, ?_, ?_, fun k h1 h2 h3 => ?_⟩
  · simp only [om_R_stateAfter, om_R_stateAfter_b0, om_R_stateAfter_b138, om_R_takePlace, om_R_takePlace_b0, show ¬ (7 : Int32) = 0 by decide, show ¬ (7 : Int32) = 1 by decide, show ¬ (7 : Int32) = 2 by decide, show ¬ (7 : Int32) = 3 by decide, show ¬ (7 : Int32) = 4 by decide, show ¬ (7 : Int32) = 5 by decide, show ¬ (7 : Int32) = 6 by decide, show ¬ (7 : Int32) = 8 by decide, show ¬ (7 : Int32) = 9 by decide, if_true, if_false, hp, show ¬ (1 : Int32) = 0 by decide, show om_nr 1 1 = true from rfl, e7, Option.bind_some, og_qa1 hq, cond_true, e10, og_qU hq (show 1 ≤ 4 ∧ 4 ≤ 5 by omega) hu, hcl, e5]
  · rw [om_up_at, if_neg (by omega)]; exact a4
  · rw [om_up_at, if_neg (by omega)]; exact e10
  · rw [om_up_at, if_pos rfl, if_pos rfl]
  · rw [om_up_at, if_neg (by omega)]; exact a2.1 _ _ (by omega)
theorem og_endUnit {Cx : om_M} {m : Nat} (hq : qd = 30 ∨ qd = 38) (hu : u ≤ 60) (hU : Cx.1 qd 10 = nI u) (h6 : Cx.1 qd 6 = nI R) (h8 : Cx.1 qd 8 = nI H) (hHR : H + R + 1 ≤ 120) (hw : ∀ j, j < H → Cx.1 (qd + 7) j = og_wv (h j) ∧ 6 ≤ h j ∧ h j ≤ 9) (hm : og_pp 6 h H m) : om_Q_endUnit om_F qd Cx = some (og_poC qd h (og_enC qd Cx R u) (R + 1) H m) := by
  have r10 : (om_up (om_up Cx qd 6 (nI (R + 1))) (qd + 6) R (nI u)).1 qd 10 = nI u := by
    rw [om_up_at, if_neg (by omega), om_up_at, if_pos rfl, if_neg (by decide), hU]
  have e8 : (og_enC qd Cx R u).1 qd 8 = nI H := by
    unfold og_enC
    rw [om_up_at, if_pos rfl, if_neg (by decide), om_up_at, if_neg (by omega), om_up_at, if_pos rfl, if_neg (by decide), h8]
  have e6 : (og_enC qd Cx R u).1 qd 6 = nI (R + 1) := by
    unfold og_enC
    rw [om_up_at, if_pos rfl, if_neg (by decide), om_up_at, if_neg (by omega), om_up_at, if_pos rfl, if_pos rfl]
  have e7 : ∀ j, (og_enC qd Cx R u).1 (qd + 7) j = Cx.1 (qd + 7) j := fun j => by
    unfold og_enC
    rw [om_up_at, if_neg (by omega), om_up_at, if_neg (by omega), om_up_at, if_neg (by omega)]
  have hn := og_emitNots hq (C := og_enC qd Cx R u) (R := R + 1) (H := H) (h := h) e6 e8 (by omega) (fun j hj => by rw [e7]; exact hw j hj) hm
  unfold og_enC at hn
  unfold om_Q_endUnit om_Q_endUnit_b0
  simp only [og_qa1 hq, cond_true, hU, og_Q_emit hq (show R < 120 by omega) h6, Option.bind_some, r10, og_nI1, hn]
  rfl
theorem og_c_last (hE : og_Env n qd L bt C0 D0) (hS : og_Sim n qd L bt C0 D0 0 c H h R u C D) (hcu : og_cu L bt D c f e) (hi : i ≤ c) (hce : c < e) (hU : C.1 qd 10 = nI u) {v m : Nat} (hv : og_num2 bt L f e v) (hvn : v < n) (hm : og_pp 6 h H m) : ∃ C3, og_tr (om_R_read_L27_body om_F) 1 (nI n, 5, nI i, C) (nI n, 1, nI (i + 1), C3) ∧ ∃ C2, C3 = og_poC qd h (og_enC qd C2 R u) (R + 1) H m ∧ og_mv qd u C C2 ∧ C2.1 28 2 = nI e ∧ C2.1 (qd + 4) u = nI v ∧ ∀ k, 1 ≤ k → k ≤ 5 → k ≠ 4 → C2.1 (qd + k) u = C.1 (qd + k) u := by
  have hu : u < 10 := og_S_u9 hE.2.1 hS (Nat.lt_of_le_of_lt hcu.1.1 hv.1)
  have hq := hE.2.2.2.1
  have hqd := (og_S_T hE hS).2.2.1
  have hcL := (og_tok_le hcu.1).2.1
  have hL := hE.2.1
  obtain ⟨s1, s2, s3, s4, s5, s6, ⟨r1, r2, r3, r4, r5, r6, r7, -⟩, s8, s9, s10⟩ := id hS
  refine og_step hE hS hcu hi (by decide) fun C1 t a2 a4 a5 a6 a7 => ?_
  obtain ⟨ht, e5, hp⟩ := og_isPlaceY hE.1 hv hvn a5 a6 a7
  have e4 : C1.1 28 4 = 1 := by rw [a5, ht]; decide
  have e7 : C1.2 28 7 = some qd := by rw [a2.2]; exact hqd
  have e10 : C1.1 qd 10 = nI u := by rw [a2.1 qd 10 (by omega)]; exact hU
  have hcl : (nI u).toNatClampNeg = u := nI_clamp (by omega)
  have g10 : (om_up C1 (qd + 4) u (nI v)).1 qd 10 = nI u := by rw [om_up_at, if_neg (by omega)]; exact e10
  have g6 : (om_up C1 (qd + 4) u (nI v)).1 qd 6 = nI R := by rw [om_up_at, if_neg (by omega), a2.1 qd 6 (by omega)]; exact r4
  have g8 : (om_up C1 (qd + 4) u (nI v)).1 qd 8 = nI H := by rw [om_up_at, if_neg (by omega), a2.1 qd 8 (by omega)]; exact r1
  have g7 : ∀ j, j < H → (om_up C1 (qd + 4) u (nI v)).1 (qd + 7) j = og_wv (h j) ∧ 6 ≤ h j ∧ h j ≤ 9 := fun j hj => by
    rw [om_up_at, if_neg (by omega), a2.1 (qd + 7) j (by omega)]
    obtain ⟨b1, b2, b3⟩ := r3 j hj
    exact ⟨b1, b3⟩
  have gq : (om_up C1 (qd + 4) u (nI v)).2 28 7 = some qd := e7
  have hend := og_endUnit hq (show u ≤ 60 by omega) g10 g6 g8 (by omega) g7 hm
  refine ⟨by omega, _, ?_, om_up C1 (qd + 4) u (nI v), rfl, og_mv_up (og_mv_fT a2) (by omega) _, ?_, ?_, fun k h1 h2 h3 => ?_⟩
  · simp only [om_R_stateAfter, om_R_stateAfter_b0, om_R_stateAfter_b108, om_R_takePlace, om_R_takePlace_b0, om_R_endUnit, om_R_endUnit_b0, show ¬ (5 : Int32) = 0 by decide, show ¬ (5 : Int32) = 1 by decide, show ¬ (5 : Int32) = 2 by decide, show ¬ (5 : Int32) = 3 by decide, show ¬ (5 : Int32) = 4 by decide, show ¬ (5 : Int32) = 6 by decide, show ¬ (5 : Int32) = 7 by decide, show ¬ (5 : Int32) = 8 by decide, show ¬ (5 : Int32) = 9 by decide, if_true, if_false, e4, hp, show ¬ (1 : Int32) = 0 by decide, show om_nr 1 1 = true from rfl, e7, Option.bind_some, og_qa1 hq, cond_true, e10, og_qU hq (show 1 ≤ 4 ∧ 4 ≤ 5 by omega) hu, hcl, e5, gq, hend]
  · rw [om_up_at, if_neg (by omega)]; exact a4
  · rw [om_up_at, if_pos rfl, if_pos rfl]
  · rw [om_up_at, if_neg (by omega)]; exact a2.1 _ _ (by omega)
theorem og_c_bound (hE : og_Env n qd L bt C0 D0) (hS : og_Sim n qd L bt C0 D0 0 c H h R u C D) (hcu : og_cu L bt D c f e) (hi : i ≤ c) (hce : c < e) (hU : C.1 qd 10 = nI u) {v m : Nat} (hv : og_num2 bt L f e v) (hv100 : v < 100) (hm : og_pp 6 h H m) : ∃ C3, og_tr (om_R_read_L27_body om_F) 1 (nI n, 9, nI i, C) (nI n, 1, nI (i + 1), C3) ∧ ∃ C2, C3 = og_poC qd h (og_enC qd C2 R u) (R + 1) H m ∧ og_mv qd u C C2 ∧ C2.1 28 2 = nI e ∧ C2.1 (qd + 5) u = nI v ∧ ∀ k, 1 ≤ k → k ≤ 5 → k ≠ 5 → C2.1 (qd + k) u = C.1 (qd + k) u := by
  have hu : u < 10 := og_S_u9 hE.2.1 hS (Nat.lt_of_le_of_lt hcu.1.1 hv.1)
  have hq := hE.2.2.2.1
  have hqd := (og_S_T hE hS).2.2.1
  have hcL := (og_tok_le hcu.1).2.1
  have hL := hE.2.1
  obtain ⟨s1, s2, s3, s4, s5, s6, ⟨r1, r2, r3, r4, r5, r6, r7, -⟩, s8, s9, s10⟩ := id hS
  refine og_step hE hS hcu hi (by decide) fun C1 t a2 a4 a5 a6 a7 => ?_
  have ht : t = 1 := a6.2.2.1.mpr ⟨hv.1, hv.2.1⟩
  have e5 : C1.1 28 5 = nI v := by rw [a7 ht, if_pos hv.2.2.1, hv.2.2.2]
  have hp : ¬ nI v = -1 := fun hx => nI_pos (show v < 2 ^ 31 by omega) (by rw [hx]; decide)
  have e4 : C1.1 28 4 = 1 := by rw [a5, ht]; decide
  have e7 : C1.2 28 7 = some qd := by rw [a2.2]; exact hqd
  have e10 : C1.1 qd 10 = nI u := by rw [a2.1 qd 10 (by omega)]; exact hU
  have hcl : (nI u).toNatClampNeg = u := nI_clamp (by omega)
  have g10 : (om_up C1 (qd + 5) u (nI v)).1 qd 10 = nI u := by rw [om_up_at, if_neg (by omega)]; exact e10
  have g6 : (om_up C1 (qd + 5) u (nI v)).1 qd 6 = nI R := by rw [om_up_at, if_neg (by omega), a2.1 qd 6 (by omega)]; exact r4
  have g8 : (om_up C1 (qd + 5) u (nI v)).1 qd 8 = nI H := by rw [om_up_at, if_neg (by omega), a2.1 qd 8 (by omega)]; exact r1
  have g7 : ∀ j, j < H → (om_up C1 (qd + 5) u (nI v)).1 (qd + 7) j = og_wv (h j) ∧ 6 ≤ h j ∧ h j ≤ 9 := fun j hj => by
    rw [om_up_at, if_neg (by omega), a2.1 (qd + 7) j (by omega)]
    obtain ⟨b1, b2, b3⟩ := r3 j hj
    exact ⟨b1, b3⟩
  have gq : (om_up C1 (qd + 5) u (nI v)).2 28 7 = some qd := e7
  have hend := og_endUnit hq (show u ≤ 60 by omega) g10 g6 g8 (by omega) g7 hm
  refine ⟨by omega, _, ?_, om_up C1 (qd + 5) u (nI v), rfl, og_mv_up (og_mv_fT a2) (by omega) _, ?_, ?_, fun k h1 h2 h3 => ?_⟩
  · simp only [om_R_stateAfter, om_R_stateAfter_b0, om_R_stateAfter_b159, om_R_takeBound, om_R_takeBound_b0, om_R_endUnit, om_R_endUnit_b0, show ¬ (9 : Int32) = 0 by decide, show ¬ (9 : Int32) = 1 by decide, show ¬ (9 : Int32) = 2 by decide, show ¬ (9 : Int32) = 3 by decide, show ¬ (9 : Int32) = 4 by decide, show ¬ (9 : Int32) = 5 by decide, show ¬ (9 : Int32) = 6 by decide, show ¬ (9 : Int32) = 7 by decide, show ¬ (9 : Int32) = 8 by decide, if_true, if_false, e4, hp, show ¬ (1 : Int32) = 0 by decide, show om_nr 1 1 = true from rfl, e7, Option.bind_some, og_qa1 hq, cond_true, e10, og_qU hq (show 1 ≤ 5 ∧ 5 ≤ 5 by omega) hu, hcl, e5, gq, hend]
  · rw [om_up_at, if_neg (by omega)]; exact a4
  · rw [om_up_at, if_pos rfl, if_pos rfl]
  · rw [om_up_at, if_neg (by omega)]; exact a2.1 _ _ (by omega)
theorem og_f_plain (hE : og_Env n qd L bt C0 D0) (hS : og_Sim n qd L bt C0 D0 x c H h R u C D) (hcu : og_cu L bt D c f e) (hi : i ≤ c) (h2 : ¬ (f < L ∧ bt f = 40)) (h0 : ¬ og_isw bt 0 f e) (h3 : ¬ og_isw bt 3 f e) (h4 : ¬ og_isw bt 4 f e) (h9 : ¬ og_isw bt 9 f e) (h10 : ¬ og_isw bt 10 f e) : og_fl qd C0 (nI n, 0, nI i, C) f := by
  refine og_fail hE hS hcu hi (by decide) fun C1 t a5 a0 a6 a7 => ?_
  have ht18 := a6.1
  have n2 : t ≠ 2 := fun hx => h2 (a6.2.2.2.1.mp hx)
  have n5 : t ≠ 5 := fun hx => h0 ((a6.2.2.2.2.2 0 (by omega)).mp hx)
  have n8 : t ≠ 8 := fun hx => h3 ((a6.2.2.2.2.2 3 (by omega)).mp hx)
  have n9 : t ≠ 9 := fun hx => h4 ((a6.2.2.2.2.2 4 (by omega)).mp hx)
  have n14 : t ≠ 14 := fun hx => h9 ((a6.2.2.2.2.2 9 (by omega)).mp hx)
  have n15 : t ≠ 15 := fun hx => h10 ((a6.2.2.2.2.2 10 (by omega)).mp hx)
  have hcmp : ∀ k, k < 2 ^ 31 → (nI t = nI k ↔ t = k) := fun k hk => nI_eq (by omega) hk
  have c2 : ¬ C1.1 28 4 = 2 := fun hx => n2 ((hcmp 2 (by omega)).mp (a5.symm.trans hx))
  have c5 : ¬ C1.1 28 4 = 5 := fun hx => n5 ((hcmp 5 (by omega)).mp (a5.symm.trans hx))
  have c8 : ¬ C1.1 28 4 = 8 := fun hx => n8 ((hcmp 8 (by omega)).mp (a5.symm.trans hx))
  have c9 : ¬ C1.1 28 4 = 9 := fun hx => n9 ((hcmp 9 (by omega)).mp (a5.symm.trans hx))
  have c14 : ¬ C1.1 28 4 = 14 := fun hx => n14 ((hcmp 14 (by omega)).mp (a5.symm.trans hx))
  have c15 : ¬ C1.1 28 4 = 15 := fun hx => n15 ((hcmp 15 (by omega)).mp (a5.symm.trans hx))
  simp only [om_R_stateAfter, om_R_stateAfter_b0, om_R_beginUnit, om_R_beginUnit_b0, om_R_beginUnit_b158, if_true, c2, c5, c8, c9, c14, c15, if_false, ite_self, Option.bind_some]
theorem og_f_verb (hE : og_Env n qd L bt C0 D0) (hS : og_Sim n qd L bt C0 D0 x c H h R u C D) (hcu : og_cu L bt D c f e) (hi : i ≤ c) (h6 : ¬ og_isw bt 6 f e) (h7 : ¬ og_isw bt 7 f e) (h8 : ¬ og_isw bt 8 f e) : og_fl qd C0 (nI n, 2, nI i, C) f := by
  refine og_fail hE hS hcu hi (by decide) fun C1 t a5 a0 a6 a7 => ?_
  have ht18 := a6.1
  have hcmp : ∀ k, k < 2 ^ 31 → (nI t = nI k ↔ t = k) := fun k hk => nI_eq (by omega) hk
  have c11 : ¬ C1.1 28 4 = 11 := fun hx => h6 ((a6.2.2.2.2.2 6 (by omega)).mp ((hcmp 11 (by omega)).mp (a5.symm.trans hx)))
  have c12 : ¬ C1.1 28 4 = 12 := fun hx => h7 ((a6.2.2.2.2.2 7 (by omega)).mp ((hcmp 12 (by omega)).mp (a5.symm.trans hx)))
  have c13 : ¬ C1.1 28 4 = 13 := fun hx => h8 ((a6.2.2.2.2.2 8 (by omega)).mp ((hcmp 13 (by omega)).mp (a5.symm.trans hx)))
  simp only [om_R_stateAfter, om_R_stateAfter_b0, om_R_takeVerb, om_R_takeVerb_b0, show ¬ (2 : Int32) = 0 by decide, show ¬ (2 : Int32) = 1 by decide, show ¬ (2 : Int32) = 3 by decide, show ¬ (2 : Int32) = 4 by decide, show ¬ (2 : Int32) = 5 by decide, show ¬ (2 : Int32) = 6 by decide, show ¬ (2 : Int32) = 7 by decide, show ¬ (2 : Int32) = 8 by decide, show ¬ (2 : Int32) = 9 by decide, if_true, if_false, c11, c12, c13, Option.bind_some]
theorem og_f_side (hE : og_Env n qd L bt C0 D0) (hS : og_Sim n qd L bt C0 D0 x c H h R u C D) (hcu : og_cu L bt D c f e) (hi : i ≤ c) (h11 : ¬ og_isw bt 11 f e) (h12 : ¬ og_isw bt 12 f e) : og_fl qd C0 (nI n, 8, nI i, C) f := by
  refine og_fail hE hS hcu hi (by decide) fun C1 t a5 a0 a6 a7 => ?_
  have ht18 := a6.1
  have hcmp : ∀ k, k < 2 ^ 31 → (nI t = nI k ↔ t = k) := fun k hk => nI_eq (by omega) hk
  have c16 : ¬ C1.1 28 4 = 16 := fun hx => h11 ((a6.2.2.2.2.2 11 (by omega)).mp ((hcmp 16 (by omega)).mp (a5.symm.trans hx)))
  have c17 : ¬ C1.1 28 4 = 17 := fun hx => h12 ((a6.2.2.2.2.2 12 (by omega)).mp ((hcmp 17 (by omega)).mp (a5.symm.trans hx)))
  simp only [om_R_stateAfter, om_R_stateAfter_b0, om_R_takeSide, om_R_takeSide_b0, show ¬ (8 : Int32) = 0 by decide, show ¬ (8 : Int32) = 1 by decide, show ¬ (8 : Int32) = 2 by decide, show ¬ (8 : Int32) = 3 by decide, show ¬ (8 : Int32) = 4 by decide, show ¬ (8 : Int32) = 5 by decide, show ¬ (8 : Int32) = 6 by decide, show ¬ (8 : Int32) = 7 by decide, show ¬ (8 : Int32) = 9 by decide, if_true, if_false, c16, c17, Option.bind_some]
theorem og_f_member3 (hE : og_Env n qd L bt C0 D0) (hS : og_Sim n qd L bt C0 D0 x c H h R u C D) (hcu : og_cu L bt D c f e) (hi : i ≤ c) (hno : ¬ ∃ v, og_num2 bt L f e v ∧ v < n) : og_fl qd C0 (nI n, 3, nI i, C) f := by
  refine og_fail hE hS hcu hi (by decide) fun C1 t a5 a0 a6 a7 => ?_
  have ht18 := a6.1
  have hp := og_isPlaceN hE.2.1 hno hE.1 hcu.1 a5 a6 a7
  simp only [om_R_stateAfter, om_R_stateAfter_b0, om_R_takeMember, om_R_takeMember_b0, show ¬ (3 : Int32) = 0 by decide, show ¬ (3 : Int32) = 1 by decide, show ¬ (3 : Int32) = 2 by decide, show ¬ (3 : Int32) = 4 by decide, show ¬ (3 : Int32) = 5 by decide, show ¬ (3 : Int32) = 6 by decide, show ¬ (3 : Int32) = 7 by decide, show ¬ (3 : Int32) = 8 by decide, show ¬ (3 : Int32) = 9 by decide, if_true, if_false, hp, Option.bind_some]
theorem og_f_member4 (hE : og_Env n qd L bt C0 D0) (hS : og_Sim n qd L bt C0 D0 x c H h R u C D) (hcu : og_cu L bt D c f e) (hi : i ≤ c) (hno : ¬ ∃ v, og_num2 bt L f e v ∧ v < n) (h5 : ¬ og_isw bt 5 f e) : og_fl qd C0 (nI n, 4, nI i, C) f := by
  refine og_fail hE hS hcu hi (by decide) fun C1 t a5 a0 a6 a7 => ?_
  have ht18 := a6.1
  have hcmp : ∀ k, k < 2 ^ 31 → (nI t = nI k ↔ t = k) := fun k hk => nI_eq (by omega) hk
  have c10 : ¬ C1.1 28 4 = 10 := fun hx => h5 ((a6.2.2.2.2.2 5 (by omega)).mp ((hcmp 10 (by omega)).mp (a5.symm.trans hx)))
  have hp := og_isPlaceN hE.2.1 hno hE.1 hcu.1 a5 a6 a7
  simp only [om_R_stateAfter, om_R_stateAfter_b0, om_R_stateAfter_b91, om_R_takeMember, om_R_takeMember_b0, show ¬ (4 : Int32) = 0 by decide, show ¬ (4 : Int32) = 1 by decide, show ¬ (4 : Int32) = 2 by decide, show ¬ (4 : Int32) = 3 by decide, show ¬ (4 : Int32) = 5 by decide, show ¬ (4 : Int32) = 6 by decide, show ¬ (4 : Int32) = 7 by decide, show ¬ (4 : Int32) = 8 by decide, show ¬ (4 : Int32) = 9 by decide, if_true, if_false, c10, hp, Option.bind_some]
theorem og_f_last (hE : og_Env n qd L bt C0 D0) (hS : og_Sim n qd L bt C0 D0 x c H h R u C D) (hcu : og_cu L bt D c f e) (hi : i ≤ c) (hno : ¬ ∃ v, og_num2 bt L f e v ∧ v < n) : og_fl qd C0 (nI n, 5, nI i, C) f := by
  refine og_fail hE hS hcu hi (by decide) fun C1 t a5 a0 a6 a7 => ?_
  have ht18 := a6.1
  have hp := og_isPlaceN hE.2.1 hno hE.1 hcu.1 a5 a6 a7
  simp only [om_R_stateAfter, om_R_stateAfter_b0, om_R_stateAfter_b108, om_R_takePlace, om_R_takePlace_b0, show ¬ (5 : Int32) = 0 by decide, show ¬ (5 : Int32) = 1 by decide, show ¬ (5 : Int32) = 2 by decide, show ¬ (5 : Int32) = 3 by decide, show ¬ (5 : Int32) = 4 by decide, show ¬ (5 : Int32) = 6 by decide, show ¬ (5 : Int32) = 7 by decide, show ¬ (5 : Int32) = 8 by decide, show ¬ (5 : Int32) = 9 by decide, if_true, if_false, hp, show om_nr 1 0 = true from rfl, cond_true, Option.bind_some]
theorem og_f_place7 (hE : og_Env n qd L bt C0 D0) (hS : og_Sim n qd L bt C0 D0 x c H h R u C D) (hcu : og_cu L bt D c f e) (hi : i ≤ c) (hno : ¬ ∃ v, og_num2 bt L f e v ∧ v < n) : og_fl qd C0 (nI n, 7, nI i, C) f := by
  refine og_fail hE hS hcu hi (by decide) fun C1 t a5 a0 a6 a7 => ?_
  have ht18 := a6.1
  have hp := og_isPlaceN hE.2.1 hno hE.1 hcu.1 a5 a6 a7
  simp only [om_R_stateAfter, om_R_stateAfter_b0, om_R_stateAfter_b138, om_R_takePlace, om_R_takePlace_b0, show ¬ (7 : Int32) = 0 by decide, show ¬ (7 : Int32) = 1 by decide, show ¬ (7 : Int32) = 2 by decide, show ¬ (7 : Int32) = 3 by decide, show ¬ (7 : Int32) = 4 by decide, show ¬ (7 : Int32) = 5 by decide, show ¬ (7 : Int32) = 6 by decide, show ¬ (7 : Int32) = 8 by decide, show ¬ (7 : Int32) = 9 by decide, if_true, if_false, hp, show om_nr 1 0 = true from rfl, cond_true, Option.bind_some]
theorem og_f_from6 (hE : og_Env n qd L bt C0 D0) (hS : og_Sim n qd L bt C0 D0 x c H h R u C D) (hcu : og_cu L bt D c f e) (hi : i ≤ c) (h5 : ¬ og_isw bt 5 f e) : og_fl qd C0 (nI n, 6, nI i, C) f := by
  refine og_fail hE hS hcu hi (by decide) fun C1 t a5 a0 a6 a7 => ?_
  have ht18 := a6.1
  have hcmp : ∀ k, k < 2 ^ 31 → (nI t = nI k ↔ t = k) := fun k hk => nI_eq (by omega) hk
  have c10 : ¬ C1.1 28 4 = 10 := fun hx => h5 ((a6.2.2.2.2.2 5 (by omega)).mp ((hcmp 10 (by omega)).mp (a5.symm.trans hx)))
  simp only [om_R_stateAfter, om_R_stateAfter_b0, om_R_stateAfter_b123, show ¬ (6 : Int32) = 0 by decide, show ¬ (6 : Int32) = 1 by decide, show ¬ (6 : Int32) = 2 by decide, show ¬ (6 : Int32) = 3 by decide, show ¬ (6 : Int32) = 4 by decide, show ¬ (6 : Int32) = 5 by decide, show ¬ (6 : Int32) = 7 by decide, show ¬ (6 : Int32) = 8 by decide, show ¬ (6 : Int32) = 9 by decide, if_true, if_false, c10, Option.bind_some]
theorem og_f_bound (hE : og_Env n qd L bt C0 D0) (hS : og_Sim n qd L bt C0 D0 x c H h R u C D) (hcu : og_cu L bt D c f e) (hi : i ≤ c) (hno : ¬ ∃ v, og_num2 bt L f e v) : og_fl qd C0 (nI n, 9, nI i, C) f := by
  refine og_fail hE hS hcu hi (by decide) fun C1 t a5 a0 a6 a7 => ?_
  have ht18 := a6.1
  have h1 : nI t = 1 ↔ t = 1 := nI_eq (b := 1) (by omega) (by omega)
  have hb : om_R_takeBound om_F C1 = some (0, C1) := by
    unfold om_R_takeBound om_R_takeBound_b0 om_R_takeBound_b16
    rw [a5]
    by_cases ht : t = 1
    · rw [if_pos (h1.mpr ht), a7 ht]
      by_cases hlen : e - f ≤ 2
      · have hf := a6.2.2.1.mp ht
        exact absurd ⟨_, hf.1, hf.2, hlen, rfl⟩ hno
      · rw [if_neg hlen, if_pos rfl]; rfl
    · rw [if_neg (fun hx => ht (h1.mp hx))]; rfl
  simp only [om_R_stateAfter, om_R_stateAfter_b0, om_R_stateAfter_b159, show ¬ (9 : Int32) = 0 by decide, show ¬ (9 : Int32) = 1 by decide, show ¬ (9 : Int32) = 2 by decide, show ¬ (9 : Int32) = 3 by decide, show ¬ (9 : Int32) = 4 by decide, show ¬ (9 : Int32) = 5 by decide, show ¬ (9 : Int32) = 6 by decide, show ¬ (9 : Int32) = 7 by decide, show ¬ (9 : Int32) = 8 by decide, if_true, if_false, hb, Option.bind_some]
end ST
