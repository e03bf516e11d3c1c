def og_at (N : Nat → Int32) (mi : Nat → Bool) (n : Nat) (wi x : Int32) : Int32 := og_itr (fun y => y ||| og_one N mi n wi y) n x
def og_fo (N : Nat → Int32) (mi : Nat → Bool) (n : Nat) (x : Int32) : Int32 := og_itr (fun y => y ||| og_br N mi n y) n x
def og_ke (N : Nat → Int32) (mi : Nat → Bool) (n : Nat) (x : Int32) : Int32 := og_itr (fun y => y &&& og_br N mi n y) n x
theorem og_wn_one {N : Nat → Int32} {mi : Nat → Bool} {n : Nat} {wi x : Int32} (h8 : n ≤ 8) : og_wn n (og_one N mi n wi x) := og_wn_and (og_wn_mk (by omega))
theorem og_wn_br {N : Nat → Int32} {mi : Nat → Bool} {n : Nat} {x : Int32} (h8 : n ≤ 8) : og_wn n (og_br N mi n x) := og_wn_mk (by omega)
theorem og_at_st {N : Nat → Int32} {mi : Nat → Bool} {n : Nat} {wi x : Int32} (h8 : n ≤ 8) (hx : og_wn n x) : og_itr (fun y => y ||| og_one N mi n wi y) (n + 1) x = og_at N mi n wi x :=
  og_grow (fun x h => og_wn_or h (og_wn_one h8)) (fun x i _ h => by rw [om_b_or, h]; rfl) hx
theorem og_fo_st {N : Nat → Int32} {mi : Nat → Bool} {n : Nat} {x : Int32} (h8 : n ≤ 8) (hx : og_wn n x) : og_itr (fun y => y ||| og_br N mi n y) (n + 1) x = og_fo N mi n x :=
  og_grow (fun x h => og_wn_or h (og_wn_br h8)) (fun x i _ h => by rw [om_b_or, h]; rfl) hx
theorem og_ke_st {N : Nat → Int32} {mi : Nat → Bool} {n : Nat} {x : Int32} (hx : og_wn n x) : og_itr (fun y => y &&& og_br N mi n y) (n + 1) x = og_ke N mi n x :=
  og_shrink (fun x h => og_wn_and h) (fun x i _ h => by rw [om_b_and] at h; simp only [Bool.and_eq_true] at h; exact h.1) hx
theorem og_itr_wn {f : Int32 → Int32} {n : Nat} (hf : ∀ x, og_wn n x → og_wn n (f x)) {x : Int32} (h : og_wn n x) (k : Nat) : og_wn n (og_itr f k x) := og_itr_in hf h k
theorem og_wn_at {N : Nat → Int32} {mi : Nat → Bool} {n : Nat} {wi x : Int32} (h8 : n ≤ 8) (hx : og_wn n x) : og_wn n (og_at N mi n wi x) := og_itr_wn (fun _ h => og_wn_or h (og_wn_one h8)) hx n
theorem og_wn_fo {N : Nat → Int32} {mi : Nat → Bool} {n : Nat} {x : Int32} (h8 : n ≤ 8) (hx : og_wn n x) : og_wn n (og_fo N mi n x) := og_itr_wn (fun _ h => og_wn_or h (og_wn_br h8)) hx n
theorem og_attracted {M : om_M} {n pl : Nat} (h8 : n ≤ 8) (hpl : pl < 2) (e : M.1 7 0 = nI n) (x : Int32) {wi : Int32} (hw : og_wn n wi) : om_V_attracted om_F (nI pl) x wi M = some (og_at (M.1 11) (og_mi (M.1 7 1) pl) n wi (x &&& wi), M) := by
  have hst := og_at_st (N := M.1 11) (mi := og_mi (M.1 7 1) pl) (wi := wi) h8 (og_wn_and' (x := x) hw)
  obtain ⟨z, hz, hq⟩ := om_lp (f := om_V_attracted_L8_body om_F) (fun i s => s = (nI pl, wi, og_itr (fun y => y ||| og_one (M.1 11) (og_mi (M.1 7 1) pl) n wi y) i (x &&& wi), nI i, M)) (fun z => z = .inl (og_at (M.1 11) (og_mi (M.1 7 1) pl) n wi (x &&& wi), M) ∨ z = .inr (og_at (M.1 11) (og_mi (M.1 7 1) pl) n wi (x &&& wi), M)) n (F := om_F) (Nat.lt_of_le_of_lt h8 (by decide)) (s := (nI pl, wi, x &&& wi, 0, M)) rfl (by
    rintro i s hi rfl
    have hlt : ¬ nI n ≤ nI i := nI_ge hi (by omega)
    simp only [om_V_attracted_L8_body, om_V_attracted_b8, e, hlt, if_false, og_oneMove h8 hpl e, Option.bind_some, og_nI1]
    by_cases h : og_itr (fun y => y ||| og_one (M.1 11) (og_mi (M.1 7 1) pl) n wi y) (i + 1) (x &&& wi) = og_itr (fun y => y ||| og_one (M.1 11) (og_mi (M.1 7 1) pl) n wi y) i (x &&& wi)
    · refine .inr ⟨_, if_pos h, .inl ?_⟩
      have h1 := og_itr_fix h (n - i)
      rw [show i + (n - i) = n by omega] at h1
      rw [← h1]; rfl
    · exact .inl ⟨_, if_neg h, rfl⟩) (by
    rintro s rfl
    exact ⟨_, by simp only [om_V_attracted_L8_body, om_V_attracted_b8, e]; rw [if_pos Int32.le_rfl]; rfl, .inr rfl⟩)
  unfold om_V_attracted om_V_attracted_b0 om_V_attracted_L8
  rw [hz]
  rcases hq with rfl | rfl <;> rfl
theorem og_forcedTo {M : om_M} {n pl : Nat} (h8 : n ≤ 8) (e : M.1 46 2 = nI n) {mi : Nat → Bool} (hmi : ∀ p, p < n → (M.1 47 p = nI pl ↔ mi p = true)) {x : Int32} (hx : og_wn n x) : om_D_forcedTo om_F (nI pl) x M = some (og_fo (M.1 58) mi n x, M) := by
  have := og_while (F := om_F) (Nat.lt_of_le_of_lt (show n + 1 ≤ 9 by omega) (by decide)) (og_wn_ne h8 hx) (og_fo_st (N := M.1 58) (mi := mi) h8 hx) (om_D_forcedTo_L5_body om_F) (fun b h => (nI pl, b, h, M)) (fun b => (b, M)) (fun k h => by
    simp only [om_D_forcedTo_L5_body, om_D_forcedTo_b5, og_bring h8 e _ hmi, Option.bind_some])
  unfold om_D_forcedTo om_D_forcedTo_b0 om_D_forcedTo_L5
  rw [this]; rfl
theorem og_keptIn {M : om_M} {n pl : Nat} (h8 : n ≤ 8) (e : M.1 46 2 = nI n) {mi : Nat → Bool} (hmi : ∀ p, p < n → (M.1 47 p = nI pl ↔ mi p = true)) {x : Int32} (hx : og_wn n x) : om_D_keptIn om_F (nI pl) x M = some (og_ke (M.1 58) mi n x, M) := by
  have := og_while (F := om_F) (Nat.lt_of_le_of_lt (show n + 1 ≤ 9 by omega) (by decide)) (og_wn_ne h8 hx) (og_ke_st (N := M.1 58) (mi := mi) hx) (om_D_keptIn_L5_body om_F) (fun b h => (nI pl, b, h, M)) (fun b => (b, M)) (fun k h => by
    simp only [om_D_keptIn_L5_body, om_D_keptIn_b5, og_bring h8 e _ hmi, Option.bind_some])
  unfold om_D_keptIn om_D_keptIn_b0 om_D_keptIn_L5
  rw [this]; rfl
theorem og_everywhere {M : om_M} {n : Nat} (F : Nat) (e : M.1 7 0 = nI n) : om_V_everywhere F M = some (og_ev n, M) := by
  unfold om_V_everywhere om_V_everywhere_b0
  rw [e]; rfl
theorem og_at_ev {N : Nat → Int32} {mi : Nat → Bool} {n : Nat} (h8 : n ≤ 8) (hN : ∀ p, p < n → og_wn n (N p)) {x : Int32} : og_at N mi n (og_ev n) x = og_fo N mi n x := by
  unfold og_at og_fo
  have : (fun y => y ||| og_one N mi n (og_ev n) y) = (fun y => y ||| og_br N mi n y) := funext fun y => by rw [og_one_br h8 hN]
  rw [this]
theorem og_fo_congr {N N' : Nat → Int32} {mi mi' : Nat → Bool} {n : Nat} (h8 : n ≤ 8) (hN : ∀ p, p < n → N p = N' p) (hm : ∀ p, p < n → mi p = mi' p) (x : Int32) : og_fo N mi n x = og_fo N' mi' n x := by
  unfold og_fo
  have : (fun y => y ||| og_br N mi n y) = (fun y => y ||| og_br N' mi' n y) := funext fun y => by rw [og_br_congr h8 hN hm]
  rw [this]
theorem og_ke_congr {N N' : Nat → Int32} {mi mi' : Nat → Bool} {n : Nat} (h8 : n ≤ 8) (hN : ∀ p, p < n → N p = N' p) (hm : ∀ p, p < n → mi p = mi' p) (x : Int32) : og_ke N mi n x = og_ke N' mi' n x := by
  unfold og_ke
  have : (fun y => y &&& og_br N mi n y) = (fun y => y &&& og_br N' mi' n y) := funext fun y => by rw [og_br_congr h8 hN hm]
  rw [this]
theorem og_and_ev {n : Nat} (h8 : n ≤ 8) {x : Int32} (hx : og_wn n x) : x &&& og_ev n = x := og_wext (n := n) (og_wn_and hx) hx fun i hi => by rw [om_b_and, og_b_ev h8]; simp [hi]
theorem og_ev_and {n : Nat} (h8 : n ≤ 8) {x : Int32} (hx : og_wn n x) : og_ev n &&& x = x := og_wext (n := n) (og_wn_and' hx) hx fun i hi => by rw [om_b_and, og_b_ev h8]; simp [hi]
/-- the other's -/
theorem og_mi_other (ones : Int32) {pl : Nat} (hpl : pl < 2) (p : Nat) : og_mi ones (1 - pl) p = !og_mi ones pl p := by
  have : pl = 0 ∨ pl = 1 := by omega
  rcases this with rfl | rfl
  · rfl
  · show om_b ones p = !!om_b ones p
    rw [Bool.not_not]
theorem og_nI_other {pl : Nat} (hpl : pl < 2) : (1 : Int32) - nI pl = nI (1 - pl) := by
  have : pl = 0 ∨ pl = 1 := by omega
  rcases this with rfl | rfl <;> decide
/-- one player's sure places are what the other's leave -/
theorem og_br_dual {N : Nat → Int32} {mi : Nat → Bool} {n : Nat} (h8 : n ≤ 8) (hN : ∀ p, p < n → og_wn n (N p)) {x : Int32} (hx : og_wn n x) {i : Nat} (hi : i < n) : om_b (og_br N (fun p => !mi p) n (og_ev n &&& (x ^^^ (-1)))) i = !om_b (og_br N mi n x) i := by
  have e1 : og_ev n &&& ((og_ev n &&& (x ^^^ (-1))) ^^^ (-1)) = x := og_wext (n := n) (og_wn_and (og_wn_ev h8)) hx fun j hj => by
    rw [om_b_and, om_b_not, om_b_and, om_b_not, og_b_ev h8]; simp [hj, show j < 32 by omega]
  have e2 : ∀ y : Int32, N i &&& y = N i &&& (og_ev n &&& y) := fun y => og_wext (n := n) (og_wn_and (hN i hi)) (og_wn_and (hN i hi)) fun j hj => by
    rw [om_b_and, om_b_and, om_b_and, og_b_ev h8]; simp [hj]
  unfold og_br
  rw [og_b_mk _ (by omega), og_b_mk _ (by omega)]
  simp only [hi, decide_true, Bool.true_and]
  unfold og_su1
  rw [e2 ((og_ev n &&& (x ^^^ (-1))) ^^^ (-1)), e1, ← e2]
  rcases Bool.eq_false_or_eq_true (mi i) with h | h <;> simp [h]
theorem og_ke_fo {N : Nat → Int32} {mi : Nat → Bool} {n : Nat} (h8 : n ≤ 8) (hN : ∀ p, p < n → og_wn n (N p)) {x : Int32} (hx : og_wn n x) : og_ev n &&& (og_fo N (fun p => !mi p) n (og_ev n &&& (x ^^^ (-1))) ^^^ (-1)) = og_ke N mi n x := by
  have key : ∀ k, og_itr (fun y => y ||| og_br N (fun p => !mi p) n y) k (og_ev n &&& (x ^^^ (-1))) = og_ev n &&& (og_itr (fun y => y &&& og_br N mi n y) k x ^^^ (-1)) := by
    intro k
    induction k with
    | zero => rfl
    | succ k ih =>
      show og_itr _ k _ ||| og_br N (fun p => !mi p) n (og_itr _ k _) = _
      rw [ih]
      have hk : og_wn n (og_itr (fun y => y &&& og_br N mi n y) k x) := og_itr_wn (fun _ h => og_wn_and h) hx k
      refine og_wext (n := n) (og_wn_or (og_wn_and (og_wn_ev h8)) (og_wn_br h8)) (og_wn_and (og_wn_ev h8)) fun i hi => ?_
      rw [om_b_or, og_br_dual h8 hN hk hi]
      show _ = om_b (og_ev n &&& ((og_itr _ k x &&& og_br N mi n (og_itr _ k x)) ^^^ (-1))) i
      rw [om_b_and, om_b_and, om_b_not, om_b_not, om_b_and, og_b_ev h8]
      simp [hi, show i < 32 by omega]
  unfold og_fo og_ke
  rw [key]
  refine og_wext (n := n) (og_wn_and (og_wn_ev h8)) (og_itr_wn (fun _ h => og_wn_and h) hx n) fun i hi => ?_
  rw [om_b_and, om_b_not, om_b_and, om_b_not, og_b_ev h8]
  simp [hi, show i < 32 by omega]
theorem og_keeping {M : om_M} {n pl : Nat} (h8 : n ≤ 8) (hpl : pl < 2) (e : M.1 7 0 = nI n) (hN : ∀ p, p < n → og_wn n (M.1 11 p)) {x : Int32} (hx : og_wn n x) : om_V_keeping om_F (nI pl) x M = some (og_ke (M.1 11) (og_mi (M.1 7 1) pl) n x, M) := by
  unfold om_V_keeping om_V_keeping_b0
  rw [og_everywhere om_F e]
  simp only [Option.bind_some]
  rw [og_nI_other hpl, og_attracted h8 (show 1 - pl < 2 by omega) e _ (og_wn_ev h8)]
  simp only [Option.bind_some]
  have e1 : og_mi (M.1 7 1) (1 - pl) = fun p => !og_mi (M.1 7 1) pl p := funext fun p => og_mi_other _ hpl p
  rw [og_and_ev h8 (og_wn_and (og_wn_ev h8)), e1, og_at_ev h8 hN, og_ke_fo h8 hN hx]
/-! ===== the looks of both sides ===== -/
theorem og_E_fr {M M' : om_M} {m : Nat} (hf : om_fr om_sc M M') {U U' : Nat → Prop} (hU : ∀ k, k < m → (U k ↔ U' k)) (p q : Nat) (w : Int32) : og_E M' m U' p q w ↔ og_E M m U p q w := by
  unfold og_E og_E0
  constructor
  · rintro (⟨k, hk, h1, h2, h3, h4⟩ | ⟨h1, h2⟩)
    · rw [hf.1 4 k rfl] at h2; rw [hf.1 5 k rfl] at h3; rw [hf.1 6 k rfl] at h4
      exact .inl ⟨k, hk, (hU k hk).mpr h1, h2, h3, h4⟩
    · exact .inr ⟨fun k hk hu => by have := h1 k hk ((hU k hk).mp hu); rwa [hf.1 4 k rfl] at this, h2⟩
  · rintro (⟨k, hk, h1, h2, h3, h4⟩ | ⟨h1, h2⟩)
    · exact .inl ⟨k, hk, (hU k hk).mp h1, by rw [hf.1 4 k rfl, h2], by rw [hf.1 5 k rfl, h3], by rw [hf.1 6 k rfl, h4]⟩
    · exact .inr ⟨fun k hk hu => by rw [hf.1 4 k rfl]; exact h1 k hk ((hU k hk).mpr hu), h2⟩
theorem og_Ld_wn {M : om_M} {n : Nat} {R : Nat → Nat → Int32 → Prop} (h : og_Ld M n R) : ∀ p, p < n → og_wn n (M.1 11 p) := by
  obtain ⟨-, s, -, -, -, -, h4⟩ := h
  intro p hp i hi
  cases hb : om_b (M.1 11 p) i with
  | false => rfl
  | true => exact absurd ((h4 p hp i).mp hb).1 (by omega)
theorem og_masks {M1 M2 : om_M} {n : Nat} (h8 : n ≤ 8) {R R' : Nat → Nat → Int32 → Prop} (h : og_Ld M1 n R) (h2 : ∀ p, p < n → ∀ q, om_b (M2.1 58 p) q = true ↔ (q < n ∧ ∃ w, R' p q w)) (hR : ∀ p q w, p < n → q < n → (R p q w ↔ R' p q w)) : ∀ p, p < n → M1.1 11 p = M2.1 58 p := by
  intro p hp
  obtain ⟨-, s, -, -, -, -, h4⟩ := h
  refine om_ext fun q _ => Bool.eq_iff_iff.mpr ?_
  rw [h4 p hp q, h2 p hp q]
  constructor
  · rintro ⟨h1, w, hw⟩; exact ⟨h1, w, (hR p q w hp h1).mp hw⟩
  · rintro ⟨h1, w, hw⟩; exact ⟨h1, w, (hR p q w hp h1).mpr hw⟩
theorem og_Um_all {M : om_M} {n m k : Nat} (h20 : m ≤ 20) (hA : om_Al M) (hk : k < m) : og_Um M k := by
  refine ⟨fun h => ?_, fun p _ hp8 => .inl (hA.1 p hp8)⟩
  rw [hA.2] at h
  exact nI_pos (show k < 2 ^ 31 by omega) (by rw [h]; decide)
theorem og_Al_fr {M M' : om_M} (h : om_Al M) (h1 : ∀ j, M'.1 59 j = M.1 59 j) (h2 : M'.1 46 18 = M.1 46 18) : om_Al M' :=
  ⟨fun j hj => by rw [h1 j, h.1 j hj], by rw [h2, h.2]⟩
/-- both sides' moves of the board as it is -/
theorem og_both0 {M : om_M} {n m : Nat} (hB : om_Bd M n m) (hA : om_Al M) : ∃ M1, om_V_load om_F (-1) 0 M = some M1 ∧ om_fr og_pv M M1 ∧ og_Ld M1 n (og_E M m (fun _ => True)) ∧ M1.1 7 1 = M.1 1 2 ∧ ∀ M', om_fr om_sc M M' → om_Al M' → ∃ M2, om_D_layMoves om_F M' = some M2 ∧ om_fr og_pm M' M2 ∧ (∀ p, p < n → M1.1 11 p = M2.1 58 p) ∧ (∀ p, p < n → og_wn n (M1.1 11 p)) := by
  obtain ⟨hn, hp, ht, hBa⟩ := hB
  have h20 := hn.2.1
  obtain ⟨M1, a1, a2, a3, a4⟩ := og_load hn hBa (-1) 0
  have ex0 : M.1 1 2 ^^^ 0 = M.1 1 2 := om_ext fun i _ => by rw [om_b_xor, om_b_0]; simp
  rw [ex0] at a4
  have hne : ∀ k, k < m → (nI k ≠ -1 ↔ True) := fun k hk => ⟨fun _ => trivial, fun _ h => nI_pos (show k < 2 ^ 31 by omega) (by rw [h]; decide)⟩
  have a2' : og_Ld M1 n (og_E M m (fun _ => True)) := by
    obtain ⟨b1, s, b2, b3⟩ := a2
    exact ⟨b1, s, b2, og_Ml_congr b3 fun p q w _ _ => (og_E_fr om_fr_rfl hne p q w).symm⟩
  refine ⟨M1, a1, a3, a2', a4, fun M' hf hA' => ?_⟩
  have hB' := om_Bd_fr ⟨hn, hp, ht, hBa⟩ hf
  obtain ⟨M2, c1, c2, c3⟩ := og_layMoves hB'.1 hB'.2.2.2
  exact ⟨M2, c1, c2, og_masks hn.1 a2' c3 (fun p q w _ _ => (og_E_fr hf (fun k hk => ⟨fun _ => og_Um_all (n := n) h20 hA' hk, fun _ => trivial⟩) p q w).symm), og_Ld_wn a2'⟩
theorem og_hmi {M : om_M} {n pl : Nat} (hp : om_Bp M n) (hpl : pl < 2) : ∀ p, p < n → (M.1 47 p = nI pl ↔ og_mi (M.1 1 2) pl p = true) := by
  intro p hpn
  rw [(hp.2 p hpn).1]
  have : pl = 0 ∨ pl = 1 := by omega
  rcases this with rfl | rfl
  · show _ ↔ om_b (M.1 1 2) p = true
    cases om_b (M.1 1 2) p <;> decide
  · show _ ↔ (!om_b (M.1 1 2) p) = true
    cases om_b (M.1 1 2) p <;> decide
theorem og_sc_pv {M M' : om_M} (h : om_fr og_pv M M') : om_fr om_sc M M' := om_fr_mono h fun _ _ h => og_pv_sc h
theorem og_sc_pm {M M' : om_M} (h : om_fr og_pm M M') : om_fr om_sc M M' := om_fr_mono h fun _ _ h => og_pm_sc h
theorem og_Inv_q {M M1 M2 : om_M} {n m L : Nat} (hB : om_Bd M n m) (hT : om_Tx M L) (hQ : om_Qq M n) (hA : om_Al M) (h1 : om_fr og_pv M M1) (h2 : om_fr og_pm M1 M2) : om_Inv M2 :=
  om_Inv_fr hB hT hQ (om_fr_tr (og_sc_pv h1) (og_sc_pm h2)) (og_Al_fr (og_Al_fr hA (fun j => h1.1 59 j rfl) (h1.1 46 18 rfl)) (fun j => h2.1 59 j rfl) (h2.1 46 18 rfl))
theorem og_k6 {M : om_M} (h : om_Inv M) : om_ok6 om_Inv M := by
  have hI := h
  obtain ⟨n, m, L, hB, hT, hQ, hA⟩ := h
  have ⟨⟨h8, h20, e10, e11, e462, e466⟩, hp, ht, hBa⟩ := hB
  intro x0 x1
  show om_ok om_Inv _ _ M
  cases hpl : om_pl x0 with
  | false => exact ⟨-2, M, M, by simp [om_C_forced, om_C_forced_b0, om_C_isPlayer_eq, hpl, om_bi], by simp [om_D_forced, om_D_forced_b0, om_D_isPlayer_eq, hpl, om_bi], hI⟩
  | true =>
  cases hst : og_st n x1 with
  | false => exact ⟨-3, M, M, by simp [om_C_forced, om_C_forced_b0, om_C_isPlayer_eq, om_C_isSet_eq om_F x1 M h8 e10, hpl, hst, om_bi], by simp [om_D_forced, om_D_forced_b0, om_D_isPlayer_eq, om_D_isSet_eq om_F x1 M h8 e462, hpl, hst, om_bi], hI⟩
  | true =>
  obtain ⟨pl, hpl2, rfl⟩ := om_pl_of hpl
  have hx : og_wn n x1 := og_st_b h8 hst
  obtain ⟨M1, a1, a2, a3, a4, a5⟩ := og_both0 hB hA
  obtain ⟨M2, b1, b2, b3, b4⟩ := a5 M1 (og_sc_pv a2) (og_Al_fr hA (fun j => a2.1 59 j rfl) (a2.1 46 18 rfl))
  have e1 : M1.1 46 2 = nI n := by rw [a2.1 46 2 rfl, e462]
  have e2 : M2.1 46 2 = nI n := by rw [b2.1 46 2 rfl, e1]
  have hmi : ∀ p, p < n → (M2.1 47 p = nI pl ↔ og_mi (M.1 1 2) pl p = true) := fun p hpn => by
    rw [b2.1 47 p rfl, a2.1 47 p rfl]; exact og_hmi hp hpl2 p hpn
  refine ⟨og_fo (M1.1 11) (og_mi (M.1 1 2) pl) n x1, M1, M2, ?_, ?_, og_Inv_q hB hT hQ hA a2 b2⟩
  · show om_C_forced om_F (nI pl) x1 M = _
    simp only [om_C_forced, om_C_forced_b0, om_C_isPlayer_eq, om_C_isSet_eq om_F x1 M h8 e10, hpl, hst, om_bi, Option.bind_some, cond_true, show ¬ (1 : Int32) = 0 by decide, if_false, a1, og_everywhere om_F a3.1, og_attracted h8 hpl2 a3.1 x1 (og_wn_ev h8), og_and_ev h8 hx, og_at_ev h8 b4, a4]
  · show om_D_forced om_F (nI pl) x1 M1 = _
    simp only [om_D_forced, om_D_forced_b0, om_D_isPlayer_eq, om_D_isSet_eq om_F x1 M1 h8 e1, hpl, hst, om_bi, Option.bind_some, cond_true, show ¬ (1 : Int32) = 0 by decide, if_false, b1, og_forcedTo h8 e2 hmi hx, og_fo_congr h8 b3 (fun p _ => rfl) x1]
theorem og_k8 {M : om_M} (h : om_Inv M) : om_ok8 om_Inv M := by
  have hI := h
  obtain ⟨n, m, L, hB, hT, hQ, hA⟩ := h
  have ⟨⟨h8, h20, e10, e11, e462, e466⟩, hp, ht, hBa⟩ := hB
  intro x0 x1
  show om_ok om_Inv _ _ M
  cases hpl : om_pl x0 with
  | false => exact ⟨-2, M, M, by simp [om_C_kept, om_C_kept_b0, om_C_isPlayer_eq, hpl, om_bi], by simp [om_D_kept, om_D_kept_b0, om_D_isPlayer_eq, hpl, om_bi], hI⟩
  | true =>
  cases hst : og_st n x1 with
  | false => exact ⟨-3, M, M, by simp [om_C_kept, om_C_kept_b0, om_C_isPlayer_eq, om_C_isSet_eq om_F x1 M h8 e10, hpl, hst, om_bi], by simp [om_D_kept, om_D_kept_b0, om_D_isPlayer_eq, om_D_isSet_eq om_F x1 M h8 e462, hpl, hst, om_bi], hI⟩
  | true =>
  obtain ⟨pl, hpl2, rfl⟩ := om_pl_of hpl
  have hx : og_wn n x1 := og_st_b h8 hst
  obtain ⟨M1, a1, a2, a3, a4, a5⟩ := og_both0 hB hA
  obtain ⟨M2, b1, b2, b3, b4⟩ := a5 M1 (og_sc_pv a2) (og_Al_fr hA (fun j => a2.1 59 j rfl) (a2.1 46 18 rfl))
  have e1 : M1.1 46 2 = nI n := by rw [a2.1 46 2 rfl, e462]
  have e2 : M2.1 46 2 = nI n := by rw [b2.1 46 2 rfl, e1]
  have hmi : ∀ p, p < n → (M2.1 47 p = nI pl ↔ og_mi (M.1 1 2) pl p = true) := fun p hpn => by
    rw [b2.1 47 p rfl, a2.1 47 p rfl]; exact og_hmi hp hpl2 p hpn
  refine ⟨og_ke (M1.1 11) (og_mi (M.1 1 2) pl) n x1, M1, M2, ?_, ?_, og_Inv_q hB hT hQ hA a2 b2⟩
  · show om_C_kept om_F (nI pl) x1 M = _
    simp only [om_C_kept, om_C_kept_b0, om_C_isPlayer_eq, om_C_isSet_eq om_F x1 M h8 e10, hpl, hst, om_bi, Option.bind_some, cond_true, show ¬ (1 : Int32) = 0 by decide, if_false, a1, og_keeping h8 hpl2 a3.1 b4 hx, a4]
  · show om_D_kept om_F (nI pl) x1 M1 = _
    simp only [om_D_kept, om_D_kept_b0, om_D_isPlayer_eq, om_D_isSet_eq om_F x1 M1 h8 e1, hpl, hst, om_bi, Option.bind_some, cond_true, show ¬ (1 : Int32) = 0 by decide, if_false, b1, og_keptIn h8 e2 hmi hx, og_ke_congr h8 b3 (fun p _ => rfl) x1]
