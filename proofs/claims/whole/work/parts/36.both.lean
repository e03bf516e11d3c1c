theorem og_isA_fo {N : Nat → Int32} {mi : Nat → Bool} {n : Nat} (h8 : n ≤ 8) (hN : ∀ p, p < n → og_wn n (N p)) {x : Int32} (hx : og_wn n x) : og_isA (fun p => og_S (N p)) mi (fun p => p < n) (og_S x) (og_S (og_fo N mi n x)) := by
  have h := og_isA_at (N := N) (mi := mi) (x := x) h8 (og_wn_ev h8)
  rw [og_and_ev h8 hx, og_at_ev h8 hN] at h
  have e1 : og_S (og_ev n) = fun p => p < n := funext fun p => propext (by unfold og_S; rw [og_b_ev h8]; simp)
  have e2 : (fun p => og_S x p ∧ og_S (og_ev n) p) = og_S x := funext fun p => propext (by rw [e1]; exact ⟨fun h => h.1, fun h => ⟨h, og_S_lt hx h⟩⟩)
  rw [e2, e1] at h
  exact h
/-- the component's: what is left -/
def og_wl (N : Nat → Int32) (mi : Nat → Bool) (n : Nat) (t y : Int32) : Int32 := y &&& (og_at N (fun p => !mi p) n y ((y &&& (og_at N mi n y (t &&& y) ^^^ (-1))) &&& y) ^^^ (-1))
def og_me (N : Nat → Int32) (mi : Nat → Bool) (n : Nat) (t1 t2 : Int32) : Int32 := og_itr (fun y => og_wl N mi n t2 (og_wl N mi n t1 y)) n (og_ev n)
/-- the model's -/
def og_bo (N : Nat → Int32) (mi : Nat → Bool) (n : Nat) (t1 t2 : Int32) : Int32 := og_itr (fun y => y &&& (og_fo N mi n (t1 &&& og_br N mi n y) &&& og_fo N mi n (t2 &&& og_br N mi n y))) n (og_ev n)
theorem og_wn_wl {N : Nat → Int32} {mi : Nat → Bool} {n : Nat} {t y : Int32} (h : og_wn n y) : og_wn n (og_wl N mi n t y) := og_wn_and h
theorem og_wl_le {N : Nat → Int32} {mi : Nat → Bool} {n : Nat} {t y : Int32} {p : Nat} (h : og_S (og_wl N mi n t y) p) : og_S y p := (og_S_and.mp h).1
theorem og_me_st {N : Nat → Int32} {mi : Nat → Bool} {n : Nat} (h8 : n ≤ 8) (t1 t2 : Int32) : og_itr (fun y => og_wl N mi n t2 (og_wl N mi n t1 y)) (n + 1) (og_ev n) = og_me N mi n t1 t2 :=
  og_shrink (fun x h => og_wn_wl (og_wn_wl h)) (fun x i _ h => og_wl_le (og_wl_le h)) (og_wn_ev h8)
theorem og_bo_st {N : Nat → Int32} {mi : Nat → Bool} {n : Nat} (h8 : n ≤ 8) (t1 t2 : Int32) : og_itr (fun y => y &&& (og_fo N mi n (t1 &&& og_br N mi n y) &&& og_fo N mi n (t2 &&& og_br N mi n y))) (n + 1) (og_ev n) = og_bo N mi n t1 t2 :=
  og_shrink (fun x h => og_wn_and h) (fun x i _ h => (og_S_and.mp h).1) (og_wn_ev h8)
theorem og_wn_bo {N : Nat → Int32} {mi : Nat → Bool} {n : Nat} (h8 : n ≤ 8) (t1 t2 : Int32) : og_wn n (og_bo N mi n t1 t2) := og_itr_wn (fun _ h => og_wn_and h) (og_wn_ev h8) n
theorem og_wn_me {N : Nat → Int32} {mi : Nat → Bool} {n : Nat} (h8 : n ≤ 8) (t1 t2 : Int32) : og_wn n (og_me N mi n t1 t2) := og_itr_wn (fun _ h => og_wn_wl (og_wn_wl h)) (og_wn_ev h8) n
section WL
variable {N : Nat → Int32} {mi : Nat → Bool} {n : Nat}
theorem og_wl_S (h8 : n ≤ 8) {t y : Int32} (hy : og_wn n y) : ∃ A B : Nat → Prop, og_isA (fun p => og_S (N p)) mi (og_S y) (fun p => og_S t p ∧ og_S y p) A ∧ og_isA (fun p => og_S (N p)) (fun p => !mi p) (og_S y) (fun p => og_S y p ∧ ¬ A p) B ∧ ∀ p, og_S (og_wl N mi n t y) p ↔ (og_S y p ∧ ¬ B p) := by
  refine ⟨og_S (og_at N mi n y (t &&& y)), og_S (og_at N (fun p => !mi p) n y ((y &&& (og_at N mi n y (t &&& y) ^^^ (-1))) &&& y)), og_isA_at h8 hy, ?_, fun p => og_S_less⟩
  have h := og_isA_at (N := N) (mi := fun p => !mi p) (x := y &&& (og_at N mi n y (t &&& y) ^^^ (-1))) h8 hy
  have e : (fun p => og_S (y &&& (og_at N mi n y (t &&& y) ^^^ (-1))) p ∧ og_S y p) = fun p => og_S y p ∧ ¬ og_S (og_at N mi n y (t &&& y)) p := funext fun p => propext (by
    rw [og_S_less]; exact ⟨fun h => h.1, fun h => ⟨h, h.1⟩⟩)
  rw [e] at h
  exact h
theorem og_me_bo (h8 : n ≤ 8) (hN : ∀ p, p < n → og_wn n (N p)) (hne : ∀ p, p < n → ∃ q, og_S (N p) q) (hNo : ∀ p, n ≤ p → ∀ q, ¬ og_S (N p) q) {t1 t2 : Int32} (ht1 : og_wn n t1) (ht2 : og_wn n t2) : og_me N mi n t1 t2 = og_bo N mi n t1 t2 := by
  have hV : ∀ p q, og_S (N p) q → q < n := fun p q h => by
    rcases Nat.lt_or_ge p n with hp | hp
    · exact og_S_lt (hN p hp) h
    · exact absurd h (hNo p hp q)
  have hEv : ∀ p, og_S (og_ev n) p ↔ p < n := fun p => by unfold og_S; rw [og_b_ev h8]; simp
  have hpre : ∀ y p, og_S (og_br N mi n y) p ↔ og_pre (fun p => og_S (N p)) mi (fun p => p < n) (og_S y) p := fun y p => by
    rw [og_S_br h8, og_su1_iff]
    unfold og_pre og_sur
    constructor
    · rintro ⟨h1, ⟨h2, q, h3, h4⟩ | ⟨h2, h3⟩⟩
      · exact ⟨h1, .inl ⟨h2, q, h3, hV p q h3, h4⟩⟩
      · exact ⟨h1, .inr ⟨h2, fun q h4 _ => h3 q h4⟩⟩
    · rintro ⟨h1, ⟨h2, q, h3, -, h4⟩ | ⟨h2, h3⟩⟩
      · exact ⟨h1, .inl ⟨h2, q, h3, h4⟩⟩
      · exact ⟨h1, .inr ⟨h2, fun q h4 => h3 q h4 (hV p q h4)⟩⟩
  have hF : ∀ t y, og_wn n t → og_isA (fun p => og_S (N p)) mi (fun p => p < n) (fun p => og_S t p ∧ og_pre (fun p => og_S (N p)) mi (fun p => p < n) (og_S y) p) (og_S (og_fo N mi n (t &&& og_br N mi n y))) := fun t y ht => by
    have h := og_isA_fo (N := N) (mi := mi) h8 hN (og_wn_and (y := og_br N mi n y) ht)
    have e : og_S (t &&& og_br N mi n y) = fun p => og_S t p ∧ og_pre (fun p => og_S (N p)) mi (fun p => p < n) (og_S y) p := funext fun p => propext (by rw [og_S_and, hpre])
    rw [e] at h; exact h
  -- the model's set W
  have hWfix : og_bo N mi n t1 t2 &&& (og_fo N mi n (t1 &&& og_br N mi n (og_bo N mi n t1 t2)) &&& og_fo N mi n (t2 &&& og_br N mi n (og_bo N mi n t1 t2))) = og_bo N mi n t1 t2 := og_bo_st h8 t1 t2
  have hW12 : ∀ p, og_S (og_bo N mi n t1 t2) p → og_S (og_fo N mi n (t1 &&& og_br N mi n (og_bo N mi n t1 t2))) p ∧ og_S (og_fo N mi n (t2 &&& og_br N mi n (og_bo N mi n t1 t2))) p := fun p h => by
    rw [← hWfix] at h
    exact og_S_and.mp (og_S_and.mp h).2
  have hmax : ∀ Z : Nat → Prop, (∀ p, Z p → p < n) → (∀ y, (∀ p, Z p → og_S y p) → ∀ p, Z p → og_S (og_fo N mi n (t1 &&& og_br N mi n y)) p ∧ og_S (og_fo N mi n (t2 &&& og_br N mi n y)) p) → ∀ p, Z p → og_S (og_bo N mi n t1 t2) p := by
    intro Z hZ1 hZ2
    exact og_itr_in (f := fun y => y &&& (og_fo N mi n (t1 &&& og_br N mi n y) &&& og_fo N mi n (t2 &&& og_br N mi n y))) (P := fun y => ∀ p, Z p → og_S y p) (fun y hy p h => og_S_and.mpr ⟨hy p h, og_S_and.mpr (hZ2 y hy p h)⟩) (fun p h => (hEv p).mpr (hZ1 p h)) n
  have hF1W : ∀ p, og_S (og_fo N mi n (t1 &&& og_br N mi n (og_bo N mi n t1 t2))) p → og_S (og_bo N mi n t1 t2) p :=
    hmax _ (fun p h => (hF t1 _ ht1).2.1 p h) (fun y hy p h => og_bu_F (hF t1 _ ht1) (hF t2 _ ht2) (fun p h => (hW12 p h).1) (fun p h => (hW12 p h).2) hy (hF t1 y ht1) (hF t2 y ht2) p h)
  have hF2W : ∀ p, og_S (og_fo N mi n (t2 &&& og_br N mi n (og_bo N mi n t1 t2))) p → og_S (og_bo N mi n t1 t2) p :=
    hmax _ (fun p h => (hF t2 _ ht2).2.1 p h) (fun y hy p h => (og_bu_F (hF t2 _ ht2) (hF t1 _ ht1) (fun p h => (hW12 p h).2) (fun p h => (hW12 p h).1) hy (hF t2 y ht2) (hF t1 y ht1) p h).symm)
  -- W is never taken away; what is left is a trap
  have hinv : ∀ k, og_wn n (og_itr (fun y => og_wl N mi n t2 (og_wl N mi n t1 y)) k (og_ev n)) ∧ og_trap (fun p => og_S (N p)) mi (og_S (og_itr (fun y => og_wl N mi n t2 (og_wl N mi n t1 y)) k (og_ev n))) ∧ ∀ p, og_S (og_bo N mi n t1 t2) p → og_S (og_itr (fun y => og_wl N mi n t2 (og_wl N mi n t1 y)) k (og_ev n)) p := by
    refine og_itr_in (f := fun y => og_wl N mi n t2 (og_wl N mi n t1 y)) (P := fun y => og_wn n y ∧ og_trap (fun p => og_S (N p)) mi (og_S y) ∧ ∀ p, og_S (og_bo N mi n t1 t2) p → og_S y p) ?_ ?_
    · have step : ∀ t y, (∀ p, og_S (og_bo N mi n t1 t2) p → og_S (og_fo N mi n (t &&& og_br N mi n (og_bo N mi n t1 t2))) p) → (∀ p, og_S (og_fo N mi n (t &&& og_br N mi n (og_bo N mi n t1 t2))) p → og_S (og_bo N mi n t1 t2) p) → og_wn n t → (og_wn n y ∧ og_trap (fun p => og_S (N p)) mi (og_S y) ∧ ∀ p, og_S (og_bo N mi n t1 t2) p → og_S y p) → (og_wn n (og_wl N mi n t y) ∧ og_trap (fun p => og_S (N p)) mi (og_S (og_wl N mi n t y)) ∧ ∀ p, og_S (og_bo N mi n t1 t2) p → og_S (og_wl N mi n t y) p) := by
        rintro t y hW1 hW2 ht ⟨h1, h2, h3⟩
        obtain ⟨A, B, hA, hB, he⟩ := og_wl_S (N := N) (mi := mi) (t := t) h8 h1
        have he' : og_S (og_wl N mi n t y) = fun p => og_S y p ∧ ¬ B p := funext fun p => propext (he p)
        refine ⟨og_wn_wl h1, ?_, fun p hp => (he p).mpr ⟨h3 p hp, ?_⟩⟩
        · rw [he']; exact og_trap_less h2 hB
        · exact og_bu_out hV (hF t _ ht) hW1 hW2 h3 hA hB p hp
      intro y hy
      exact step t2 _ (fun p h => (hW12 p h).2) hF2W ht2 (step t1 y (fun p h => (hW12 p h).1) hF1W ht1 hy)
    · refine ⟨og_wn_ev h8, fun p hp => ?_, fun p hp => (hEv p).mpr (og_S_lt (og_wn_bo h8 t1 t2) hp)⟩
      have hpn := (hEv p).mp hp
      cases hm : mi p with
      | true =>
        obtain ⟨q, hq⟩ := hne p hpn
        exact .inl ⟨hm, q, hq, trivial, (hEv q).mpr (hV p q hq)⟩
      | false => exact .inr ⟨hm, fun q hq _ => (hEv q).mpr (hV p q hq)⟩
  obtain ⟨hL1, hL2, hL3⟩ := hinv n
  have hst : og_wl N mi n t2 (og_wl N mi n t1 (og_me N mi n t1 t2)) = og_me N mi n t1 t2 := og_me_st h8 t1 t2
  have hs1 : og_wl N mi n t1 (og_me N mi n t1 t2) = og_me N mi n t1 t2 := og_S_ext (n := n) (og_wn_wl hL1) hL1 fun p _ => ⟨og_wl_le, fun h => by
    have h' : og_S (og_me N mi n t1 t2) p := h
    rw [← hst] at h'; exact og_wl_le h'⟩
  have hs2 : og_wl N mi n t2 (og_me N mi n t1 t2) = og_me N mi n t1 t2 := by rw [hs1] at hst; exact hst
  have hin : ∀ t, og_wn n t → og_wl N mi n t (og_me N mi n t1 t2) = og_me N mi n t1 t2 → ∀ y, (∀ p, og_S (og_me N mi n t1 t2) p → og_S y p) → ∀ p, og_S (og_me N mi n t1 t2) p → og_S (og_fo N mi n (t &&& og_br N mi n y)) p := by
    intro t ht hs y hy
    obtain ⟨A, B, hA, hB, he⟩ := og_wl_S (N := N) (mi := mi) (t := t) h8 hL1
    refine og_bu_in hV (fun p h => og_S_lt hL1 h) hL2 hA (fun p h => ?_) hy (hF t y ht)
    refine Classical.byContradiction fun hnA => ?_
    have hBp := hB.1 p ⟨h, hnA⟩
    have h2 : og_S (og_wl N mi n t (og_me N mi n t1 t2)) p := by rw [hs]; exact h
    exact ((he p).mp h2).2 hBp
  exact og_S_ext (n := n) hL1 (og_wn_bo h8 t1 t2) fun p _ => ⟨hmax _ (fun p h => og_S_lt hL1 h) (fun y hy p h => ⟨hin t1 ht1 hs1 y hy p h, hin t2 ht2 hs2 y hy p h⟩) p, hL3 p⟩
end WL
theorem og_withoutLost {M : om_M} {n pl : Nat} (h8 : n ≤ 8) (hpl : pl < 2) (e : M.1 7 0 = nI n) (t : Int32) {y : Int32} (hy : og_wn n y) : om_V_withoutLost om_F (nI pl) t y M = some (og_wl (M.1 11) (og_mi (M.1 7 1) pl) n t y, M) := by
  have e1 : og_mi (M.1 7 1) (1 - pl) = fun p => !og_mi (M.1 7 1) pl p := funext fun p => og_mi_other _ hpl p
  unfold om_V_withoutLost om_V_withoutLost_b0
  simp only [og_attracted h8 hpl e t hy, Option.bind_some, og_nI_other hpl, og_attracted h8 (show 1 - pl < 2 by omega) e _ hy, e1]
  rfl
theorem og_meeting {M : om_M} {n pl : Nat} (h8 : n ≤ 8) (hpl : pl < 2) (e : M.1 7 0 = nI n) (t1 t2 : Int32) : om_V_meeting om_F (nI pl) t1 t2 M = some (og_me (M.1 11) (og_mi (M.1 7 1) pl) n t1 t2, M) := by
  have hst := og_me_st (N := M.1 11) (mi := og_mi (M.1 7 1) pl) h8 t1 t2
  obtain ⟨z, hz, hq⟩ := om_lp (f := om_V_meeting_L9_body om_F) (fun i s => s = (nI pl, t1, t2, og_itr (fun y => og_wl (M.1 11) (og_mi (M.1 7 1) pl) n t2 (og_wl (M.1 11) (og_mi (M.1 7 1) pl) n t1 y)) i (og_ev n), nI i, M)) (fun z => z = .inl (og_me (M.1 11) (og_mi (M.1 7 1) pl) n t1 t2, M) ∨ z = .inr (og_me (M.1 11) (og_mi (M.1 7 1) pl) n t1 t2, M)) n (F := om_F) (Nat.lt_of_le_of_lt h8 (by decide)) (s := (nI pl, t1, t2, og_ev n, 0, M)) rfl (by
    rintro i s hi rfl
    have hlt : ¬ nI n ≤ nI i := nI_ge hi (by omega)
    have hw : og_wn n (og_itr (fun y => og_wl (M.1 11) (og_mi (M.1 7 1) pl) n t2 (og_wl (M.1 11) (og_mi (M.1 7 1) pl) n t1 y)) i (og_ev n)) := og_itr_wn (fun _ h => og_wn_wl (og_wn_wl h)) (og_wn_ev h8) i
    simp only [om_V_meeting_L9_body, om_V_meeting_b9, e, hlt, if_false, og_withoutLost h8 hpl e _ hw, og_withoutLost h8 hpl e _ (og_wn_wl hw), Option.bind_some, og_nI1]
    by_cases h : og_itr (fun y => og_wl (M.1 11) (og_mi (M.1 7 1) pl) n t2 (og_wl (M.1 11) (og_mi (M.1 7 1) pl) n t1 y)) (i + 1) (og_ev n) = og_itr (fun y => og_wl (M.1 11) (og_mi (M.1 7 1) pl) n t2 (og_wl (M.1 11) (og_mi (M.1 7 1) pl) n t1 y)) i (og_ev n)
    · refine .inr ⟨_, if_pos h, .inl ?_⟩
      have h1 := og_itr_fix h (n - i)
      rw [show i + (n - i) = n by omega] at h1
      rw [← h1]; rfl
    · exact .inl ⟨_, if_neg h, rfl⟩) (by
    rintro s rfl
    exact ⟨_, by simp only [om_V_meeting_L9_body, om_V_meeting_b9, e]; rw [if_pos Int32.le_rfl]; rfl, .inr rfl⟩)
  unfold om_V_meeting om_V_meeting_b0 om_V_meeting_L9
  rw [og_everywhere om_F e]
  simp only [Option.bind_some]
  rw [hz]
  rcases hq with rfl | rfl <;> rfl
theorem og_bothOf {M : om_M} {n pl : Nat} (h8 : n ≤ 8) (e : M.1 46 2 = nI n) {mi : Nat → Bool} (hmi : ∀ p, p < n → (M.1 47 p = nI pl ↔ mi p = true)) {t1 t2 : Int32} (h1 : og_wn n t1) (h2 : og_wn n t2) : om_D_bothOf om_F (nI pl) t1 t2 M = some (og_bo (M.1 58) mi n t1 t2, M) := by
  have := og_while (F := om_F) (Nat.lt_of_le_of_lt (show n + 1 ≤ 9 by omega) (by decide)) (og_wn_ne h8 (og_wn_ev h8)) (og_bo_st (N := M.1 58) (mi := mi) h8 t1 t2) (om_D_bothOf_L13_body om_F) (fun b h => (nI pl, t1, t2, b, h, M)) (fun b => (b, M)) (fun k h => by
    simp only [om_D_bothOf_L13_body, om_D_bothOf_b13, og_bring h8 e _ hmi, og_forcedTo h8 e hmi (og_wn_and h1), og_forcedTo h8 e hmi (og_wn_and h2), Option.bind_some])
  unfold om_D_bothOf om_D_bothOf_b0 om_D_bothOf_L13
  rw [e]
  show (om_it _ om_F (nI pl, t1, t2, og_ev n, -1, M)).bind _ = _
  rw [this]; rfl
theorem og_bo_congr {N N' : Nat → Int32} {mi mi' : Nat → Bool} {n : Nat} (h8 : n ≤ 8) (hN : ∀ p, p < n → N p = N' p) (hm : ∀ p, p < n → mi p = mi' p) (t1 t2 : Int32) : og_bo N mi n t1 t2 = og_bo N' mi' n t1 t2 := by
  unfold og_bo
  have : (fun y => y &&& (og_fo N mi n (t1 &&& og_br N mi n y) &&& og_fo N mi n (t2 &&& og_br N mi n y))) = (fun y => y &&& (og_fo N' mi' n (t1 &&& og_br N' mi' n y) &&& og_fo N' mi' n (t2 &&& og_br N' mi' n y))) := funext fun y => by rw [og_br_congr h8 hN hm, og_fo_congr h8 hN hm, og_fo_congr h8 hN hm]
  rw [this]
/-- a place has a move -/
theorem og_E_ne {M : om_M} {n m : Nat} (hB : om_Ba M n m) (U : Nat → Prop) {p : Nat} (hp : p < n) : ∃ q w, q < n ∧ og_E M m U p q w := by
  by_cases h : ∃ k, k < m ∧ U k ∧ M.1 4 k = nI p
  · obtain ⟨k, hk, hU, h4⟩ := h
    obtain ⟨-, -, -, -, ⟨b, hb, h5⟩, -⟩ := hB.1 k hk
    exact ⟨b, _, hb, .inl ⟨k, hk, hU, h4, h5, rfl⟩⟩
  · exact ⟨p, 0, hp, .inr ⟨fun k hk hU h4 => h ⟨k, hk, hU, h4⟩, rfl, rfl⟩⟩
/-- the masks of a look, cut to the places that are there (elsewhere no moves) -/
def og_NN (N : Nat → Int32) (n p : Nat) : Int32 := if p < n then N p else 0
theorem og_NN_lt {N : Nat → Int32} {n p : Nat} (h : p < n) : og_NN N n p = N p := if_pos h
theorem og_me_congr {N N' : Nat → Int32} {mi : Nat → Bool} {n : Nat} (h8 : n ≤ 8) (hN : ∀ p, p < n → N p = N' p) (t1 t2 : Int32) : og_me N mi n t1 t2 = og_me N' mi n t1 t2 := by
  have h1 : ∀ (mi : Nat → Bool) (w x : Int32), og_one N mi n w x = og_one N' mi n w x := fun mi w x => by
    refine og_wext (n := n) (og_wn_and (og_wn_mk (by omega))) (og_wn_and (og_wn_mk (by omega))) fun i hi => ?_
    unfold og_one
    rw [om_b_and, om_b_and, og_b_mk _ (by omega), og_b_mk _ (by omega)]
    unfold og_su
    rw [hN i hi]
  have h2 : ∀ (mi : Nat → Bool) (w x : Int32), og_at N mi n w x = og_at N' mi n w x := fun mi w x => by
    unfold og_at
    have : (fun y => y ||| og_one N mi n w y) = (fun y => y ||| og_one N' mi n w y) := funext fun y => by rw [h1]
    rw [this]
  unfold og_me
  have : (fun y => og_wl N mi n t2 (og_wl N mi n t1 y)) = (fun y => og_wl N' mi n t2 (og_wl N' mi n t1 y)) := funext fun y => by
    unfold og_wl
    simp only [h2]
  rw [this]
theorem og_me_bo' {N : Nat → Int32} {mi : Nat → Bool} {n : Nat} (h8 : n ≤ 8) (hN : ∀ p, p < n → og_wn n (N p)) (hne : ∀ p, p < n → ∃ q, og_S (N p) q) {t1 t2 : Int32} (ht1 : og_wn n t1) (ht2 : og_wn n t2) : og_me N mi n t1 t2 = og_bo N mi n t1 t2 := by
  rw [og_me_congr h8 (N' := og_NN N n) (fun p hp => (og_NN_lt hp).symm), og_bo_congr h8 (N' := og_NN N n) (mi' := mi) (fun p hp => (og_NN_lt hp).symm) (fun _ _ => rfl)]
  refine og_me_bo h8 (fun p hp => by rw [og_NN_lt hp]; exact hN p hp) (fun p hp => by rw [og_NN_lt hp]; exact hne p hp) (fun p hp q h => ?_) ht1 ht2
  unfold og_NN at h
  rw [if_neg (by omega)] at h
  unfold og_S at h; rw [om_b_0] at h; cases h
theorem og_Ld_ne {M1 M : om_M} {n m : Nat} {U : Nat → Prop} (hB : om_Ba M n m) (h : og_Ld M1 n (og_E M m U)) : ∀ p, p < n → ∃ q, og_S (M1.1 11 p) q := by
  obtain ⟨-, s, -, -, -, -, h4⟩ := h
  intro p hp
  obtain ⟨q, w, hq, hE⟩ := og_E_ne hB U hp
  exact ⟨q, (h4 p hp q).mpr ⟨hq, w, hE⟩⟩
theorem og_k10 {M : om_M} (h : om_Inv M) : om_ok10 om_Inv M := by
  have hI := h
  obtain ⟨n, m, L, hB, hT, hQ, hA⟩ := h
  have ⟨⟨h8, h20, e10, e11, e462, e466⟩, hp, ht, hBa⟩ := hB
  intro x0 x1 x2
  show om_ok om_Inv _ _ M
  cases hpl : om_pl x0 with
  | false => exact ⟨-2, M, M, by simp [om_C_both, om_C_both_b0, om_C_isPlayer_eq, hpl, om_bi], by simp [om_D_both, om_D_both_b0, om_D_isPlayer_eq, hpl, om_bi], hI⟩
  | true =>
  cases hst : og_st n x1 with
  | false => exact ⟨-3, M, M, by simp [om_C_both, om_C_both_b0, om_C_both_b26, om_C_isPlayer_eq, om_C_isSet_eq om_F _ M h8 e10, hpl, hst, om_bi], by simp [om_D_both, om_D_both_b0, om_D_both_b26, om_D_isPlayer_eq, om_D_isSet_eq om_F _ M h8 e462, hpl, hst, om_bi], hI⟩
  | true =>
  cases hst2 : og_st n x2 with
  | false => exact ⟨-3, M, M, by simp [om_C_both, om_C_both_b0, om_C_both_b26, om_C_isPlayer_eq, om_C_isSet_eq om_F _ M h8 e10, hpl, hst, hst2, om_bi], by simp [om_D_both, om_D_both_b0, om_D_both_b26, om_D_isPlayer_eq, om_D_isSet_eq om_F _ M h8 e462, hpl, hst, hst2, om_bi], hI⟩
  | true =>
  obtain ⟨pl, hpl2, rfl⟩ := om_pl_of hpl
  have hx : og_wn n x1 := og_st_b h8 hst
  have hx2 : og_wn n x2 := og_st_b h8 hst2
  obtain ⟨M1, a1, a2, a3, a4, a5⟩ := og_both0 hB hA
  obtain ⟨M2, b1, b2, b3, b4⟩ := a5 M1 (og_sc_pv a2) (og_Al_fr hA (fun j => a2.1 59 j rfl) (a2.1 46 18 rfl))
  have e1 : M1.1 46 2 = nI n := by rw [a2.1 46 2 rfl, e462]
  have e2 : M2.1 46 2 = nI n := by rw [b2.1 46 2 rfl, e1]
  have hmi : ∀ p, p < n → (M2.1 47 p = nI pl ↔ og_mi (M.1 1 2) pl p = true) := fun p hpn => by
    rw [b2.1 47 p rfl, a2.1 47 p rfl]; exact og_hmi hp hpl2 p hpn
  refine ⟨og_me (M1.1 11) (og_mi (M.1 1 2) pl) n x1 x2, M1, M2, ?_, ?_, og_Inv_q hB hT hQ hA a2 b2⟩
  · show om_C_both om_F (nI pl) x1 x2 M = _
    simp only [om_C_both, om_C_both_b0, om_C_isPlayer_eq, om_C_isSet_eq om_F _ M h8 e10, hpl, hst, hst2, om_bi, Option.bind_some, cond_true, show ¬ (1 : Int32) = 0 by decide, if_false, a1, og_meeting h8 hpl2 a3.1 x1 x2, a4]
  · show om_D_both om_F (nI pl) x1 x2 M1 = _
    rw [og_me_bo' h8 b4 (og_Ld_ne hBa a3) hx hx2, og_bo_congr h8 b3 (fun _ _ => rfl)]
    simp only [om_D_both, om_D_both_b0, om_D_isPlayer_eq, om_D_isSet_eq om_F _ M1 h8 e1, hpl, hst, hst2, om_bi, Option.bind_some, cond_true, show ¬ (1 : Int32) = 0 by decide, if_false, b1, og_bothOf h8 e2 hmi hx hx2]
theorem og_k9 {M : om_M} (h : om_Inv M) : om_ok9 om_Inv M := by
  intro x0 x1
  obtain ⟨r, M1, M2, h1, h2, h3⟩ := og_k10 h x0 x1 x1
  obtain ⟨n, m, L, hB, hT, hQ, hA⟩ := h
  have ⟨⟨h8, h20, e10, e11, e462, e466⟩, hp, ht, hBa⟩ := hB
  have h1' : om_C_both om_F x0 x1 x1 M = some (r, M1) := h1
  have h2' : om_D_both om_F x0 x1 x1 M1 = some (r, M2) := h2
  refine ⟨r, M1, M2, ?_, ?_, h3⟩
  · show om_C_again om_F x0 x1 M = _
    unfold om_C_again om_C_again_b0
    rw [h1']; rfl
  · show om_D_again om_F x0 x1 M1 = _
    rw [← h2']
    have e1 : ∃ k, k ≤ 8 ∧ M1.1 46 2 = nI k := by
      have hM1 : M1 = M ∨ ∃ M1', M1 = M1' ∧ om_fr og_pv M M1' := by
        unfold om_C_both om_C_both_b0 om_C_both_b26 at h1'
        simp only [om_C_isPlayer_eq, om_C_isSet_eq om_F _ M h8 e10, Option.bind_some] at h1'
        cases hpl : om_pl x0 with
        | false => rw [hpl] at h1'; simp [om_bi] at h1'; exact .inl h1'.2.symm
        | true =>
        cases hst : og_st n x1 with
        | false => rw [hpl, hst] at h1'; simp [om_bi] at h1'; exact .inl h1'.2.symm
        | true =>
          obtain ⟨pl, hpl2, rfl⟩ := om_pl_of hpl
          obtain ⟨M1', a1, a2, a3, a4, a5⟩ := og_both0 hB hA
          rw [hpl, hst] at h1'
          simp [om_bi, a1, og_meeting h8 hpl2 a3.1 x1 x1] at h1'
          exact .inr ⟨M1', h1'.2.symm, a2⟩
      rcases hM1 with rfl | ⟨M1', rfl, hf⟩
      · exact ⟨n, h8, e462⟩
      · exact ⟨n, h8, by rw [hf.1 46 2 rfl, e462]⟩
    obtain ⟨k, hk, e1⟩ := e1
    unfold om_D_again om_D_again_b0 om_D_both om_D_both_b0 om_D_both_b26
    simp only [om_D_isPlayer_eq, om_D_isSet_eq om_F _ M1 hk e1, Option.bind_some]
    cases hpl : om_pl x0 with
    | false => simp [om_bi]
    | true => cases hst : og_st k x1 <;> simp [om_bi]
