/-! ===== values of so many moves ===== -/
def og_bq (n : Nat) (mx : Bool) (R : Nat → Nat → Int32 → Prop) (v : Nat → Int) (p : Nat) (x : Int) : Prop := (∃ q w, q < n ∧ R p q w ∧ x = w.toInt + v q) ∧ ∀ q w, q < n → R p q w → (mx = true → w.toInt + v q ≤ x) ∧ (mx = false → x ≤ w.toInt + v q)
theorem og_bq_uniq {n : Nat} {mx : Bool} {R : Nat → Nat → Int32 → Prop} {v : Nat → Int} {p : Nat} {x y : Int} (h : og_bq n mx R v p x) (h' : og_bq n mx R v p y) : x = y := by
  obtain ⟨⟨q, w, h1, h2, h3⟩, h4⟩ := h
  obtain ⟨⟨q', w', h1', h2', h3'⟩, h4'⟩ := h'
  have a := h4 q' w' h1' h2'
  have b := h4' q w h1 h2
  cases mx with
  | true => have := a.1 rfl; have := b.1 rfl; omega
  | false => have := a.2 rfl; have := b.2 rfl; omega
theorem og_bq_congr {n : Nat} {mx : Bool} {R R' : Nat → Nat → Int32 → Prop} {v v' : Nat → Int} {p : Nat} {x : Int} (h : og_bq n mx R v p x) (hR : ∀ q w, q < n → (R p q w ↔ R' p q w)) (hv : ∀ q, q < n → v q = v' q) : og_bq n mx R' v' p x := by
  obtain ⟨⟨q, w, h1, h2, h3⟩, h4⟩ := h
  refine ⟨⟨q, w, h1, (hR q w h1).mp h2, by rw [← hv q h1]; exact h3⟩, fun q w hq hw => ?_⟩
  rw [← hv q hq]; exact h4 q w hq ((hR q w hq).mpr hw)
/-- one move more to look at -/
theorem og_bq_add {n : Nat} {mx : Bool} {R R' : Nat → Nat → Int32 → Prop} {v : Nat → Int} {p b : Nat} {w : Int32} {x y : Int} (hb : b < n) (hR : ∀ q u, q < n → (R' p q u ↔ (R p q u ∨ (q = b ∧ u = w)))) (h : og_bq n mx R v p x ∨ ((∀ q u, q < n → ¬ R p q u) ∧ y = w.toInt + v b)) (hy : og_bq n mx R v p x → ((y = x ∧ ((mx = true ∧ w.toInt + v b ≤ x) ∨ (mx = false ∧ x ≤ w.toInt + v b))) ∨ (y = w.toInt + v b ∧ ((mx = true ∧ x ≤ y) ∨ (mx = false ∧ y ≤ x))))) : og_bq n mx R' v p y := by
  rcases h with h | ⟨h1, h2⟩
  · have hh := hy h
    obtain ⟨⟨q, u, h1, h2, h3⟩, h4⟩ := h
    rcases hh with ⟨rfl, hh⟩ | ⟨hy2, hh⟩
    · refine ⟨⟨q, u, h1, (hR q u h1).mpr (.inl h2), h3⟩, fun q' u' hq hu => ?_⟩
      rcases (hR q' u' hq).mp hu with hu | ⟨rfl, rfl⟩
      · exact h4 q' u' hq hu
      · rcases hh with ⟨rfl, hh⟩ | ⟨rfl, hh⟩
        · exact ⟨fun _ => hh, fun h => by cases h⟩
        · exact ⟨fun h => (by cases h), fun _ => hh⟩
    · refine ⟨⟨b, w, hb, (hR b w hb).mpr (.inr ⟨rfl, rfl⟩), hy2⟩, fun q' u' hq hu => ?_⟩
      rcases (hR q' u' hq).mp hu with hu | ⟨rfl, rfl⟩
      · have := h4 q' u' hq hu
        rcases hh with ⟨rfl, hh⟩ | ⟨rfl, hh⟩
        · exact ⟨fun _ => (by have := this.1 rfl; omega), fun h => (by cases h)⟩
        · exact ⟨fun h => (by cases h), fun _ => by have := this.2 rfl; omega⟩
      · rw [← hy2]; exact ⟨fun _ => Int.le_refl _, fun _ => Int.le_refl _⟩
  · refine ⟨⟨b, w, hb, (hR b w hb).mpr (.inr ⟨rfl, rfl⟩), h2⟩, fun q' u' hq hu => ?_⟩
    rcases (hR q' u' hq).mp hu with hu | ⟨rfl, rfl⟩
    · exact absurd hu (h1 q' u' hq)
    · rw [h2]; exact ⟨fun _ => Int.le_refl _, fun _ => Int.le_refl _⟩
theorem og_bq_ex {n : Nat} {mx : Bool} {R : Nat → Nat → Int32 → Prop} {v : Nat → Int} {p : Nat} (hu : ∀ q u w, q < n → R p q u → R p q w → u = w) (hne : ∃ q w, q < n ∧ R p q w) : ∃ x, og_bq n mx R v p x := by
  have key : ∀ k, k ≤ n → (∃ q w, q < k ∧ R p q w) → ∃ x, og_bq n mx (fun p q w => q < k ∧ R p q w) v p x := by
    intro k
    induction k with
    | zero => rintro _ ⟨q, w, h, _⟩; omega
    | succ k ih =>
      intro hk hex
      by_cases hk2 : ∃ w, R p k w
      · obtain ⟨w, hw⟩ := hk2
        have hR : ∀ q u, q < n → ((q < k + 1 ∧ R p q u) ↔ ((q < k ∧ R p q u) ∨ (q = k ∧ u = w))) := by
          intro q u hq
          constructor
          · rintro ⟨h1, h2⟩
            by_cases hqk : q = k
            · subst hqk; exact .inr ⟨rfl, hu q u w hq h2 hw⟩
            · exact .inl ⟨by omega, h2⟩
          · rintro (⟨h1, h2⟩ | ⟨rfl, rfl⟩)
            · exact ⟨by omega, h2⟩
            · exact ⟨by omega, hw⟩
        by_cases hex2 : ∃ q w, q < k ∧ R p q w
        · obtain ⟨x, hx⟩ := ih (by omega) hex2
          cases mx with
          | true =>
            by_cases hle : w.toInt + v k ≤ x
            · exact ⟨x, og_bq_add (show k < n by omega) hR (.inl hx) (fun _ => .inl ⟨rfl, .inl ⟨rfl, hle⟩⟩)⟩
            · exact ⟨_, og_bq_add (show k < n by omega) hR (.inl hx) (fun _ => .inr ⟨rfl, .inl ⟨rfl, by omega⟩⟩)⟩
          | false =>
            by_cases hle : x ≤ w.toInt + v k
            · exact ⟨x, og_bq_add (show k < n by omega) hR (.inl hx) (fun _ => .inl ⟨rfl, .inr ⟨rfl, hle⟩⟩)⟩
            · exact ⟨_, og_bq_add (show k < n by omega) hR (.inl hx) (fun _ => .inr ⟨rfl, .inr ⟨rfl, by omega⟩⟩)⟩
        · refine ⟨w.toInt + v k, og_bq_add (R := fun p q w => q < k ∧ R p q w) (x := 0) (show k < n by omega) hR (.inr ⟨fun q u hq h => hex2 ⟨q, u, h⟩, rfl⟩) (fun h => ?_)⟩
          obtain ⟨⟨q, u, h1, h2, h3⟩, -⟩ := h
          exact absurd ⟨q, u, h2⟩ hex2
      · obtain ⟨q, w, h1, h2⟩ := hex
        have hqk : q ≠ k := fun h => hk2 ⟨w, h ▸ h2⟩
        obtain ⟨x, hx⟩ := ih (by omega) ⟨q, w, by omega, h2⟩
        refine ⟨x, og_bq_congr hx (fun q u hq => ?_) (fun _ _ => rfl)⟩
        constructor
        · rintro ⟨h1, h2⟩; exact ⟨by omega, h2⟩
        · rintro ⟨h1, h2⟩
          by_cases hqk : q = k
          · subst hqk; exact absurd ⟨u, h2⟩ hk2
          · exact ⟨by omega, h2⟩
  obtain ⟨q, w, h1, h2⟩ := hne
  obtain ⟨x, hx⟩ := key n (Nat.le_refl n) ⟨q, w, h1, h2⟩
  exact ⟨x, og_bq_congr hx (fun q u hq => ⟨fun h => h.2, fun h => ⟨hq, h⟩⟩) (fun _ _ => rfl)⟩
noncomputable def og_V (n : Nat) (mi : Nat → Bool) (R : Nat → Nat → Int32 → Prop) : Nat → Nat → Int
  | 0 => fun _ => 0
  | k + 1 => fun p => Classical.epsilon (fun x => og_bq n (mi p) R (og_V n mi R k) p x)
/-- what the moves are like: one weight a move, some move everywhere, weights from -5 to 5 -/
def og_Rok (n : Nat) (R : Nat → Nat → Int32 → Prop) : Prop := (∀ p q u w, p < n → q < n → R p q u → R p q w → u = w) ∧ (∀ p, p < n → ∃ q w, q < n ∧ R p q w) ∧ (∀ p q w, p < n → q < n → R p q w → -5 ≤ w.toInt ∧ w.toInt ≤ 5)
theorem og_V_bq {n : Nat} {mi : Nat → Bool} {R : Nat → Nat → Int32 → Prop} (hR : og_Rok n R) (k : Nat) {p : Nat} (hp : p < n) : og_bq n (mi p) R (og_V n mi R k) p (og_V n mi R (k + 1) p) :=
  Classical.epsilon_spec (p := fun x => og_bq n (mi p) R (og_V n mi R k) p x) (og_bq_ex (fun q u w hq => hR.1 p q u w hp hq) (hR.2.1 p hp))
theorem og_V_bound {n : Nat} {mi : Nat → Bool} {R : Nat → Nat → Int32 → Prop} (hR : og_Rok n R) : ∀ (k : Nat) {p : Nat}, p < n → -(5 * (k : Int)) ≤ og_V n mi R k p ∧ og_V n mi R k p ≤ 5 * k
  | 0, p, _ => by show -(5 * ((0 : Nat) : Int)) ≤ 0 ∧ (0 : Int) ≤ 5 * ((0 : Nat) : Int); omega
  | k + 1, p, hp => by
    obtain ⟨⟨q, w, h1, h2, h3⟩, -⟩ := og_V_bq (mi := mi) hR k hp
    have h4 := og_V_bound (mi := mi) hR k h1
    have h5 := hR.2.2 p q w hp h1 h2
    rw [h3]; omega
theorem og_add_toInt {a b : Int32} (h1 : -1000000000 ≤ a.toInt) (h2 : a.toInt ≤ 1000000000) (h3 : -1000000000 ≤ b.toInt) (h4 : b.toInt ≤ 1000000000) : (a + b).toInt = a.toInt + b.toInt := by
  rw [Int32.toInt_add]
  exact Int.bmod_eq_of_le (by omega) (by omega)
/-! ===== the component's ===== -/
def og_p8 (a _j : Nat) : Bool := Nat.beq a 18
def og_p17 (a _j : Nat) : Bool := Nat.beq a 17 || Nat.beq a 18
section AM
variable {n : Nat} {M : om_M} {R : Nat → Nat → Int32 → Prop}
theorem og_addMove (h8 : n ≤ 8) (hL : og_Ld M n R) (hR : og_Rok n R) {v : Nat → Int} (hv : ∀ p, p < n → (M.1 17 p).toInt = v p ∧ -100000 ≤ v p ∧ v p ≤ 100000) : ∃ M', om_E_addMove om_F M = some M' ∧ om_fr og_p8 M M' ∧ ∀ p, p < n → og_bq n (og_mi (M.1 7 1) 0 p) R v p (M'.1 18 p).toInt := by
  obtain ⟨e70, s, hs, ⟨m1, m2, m3, m4⟩⟩ := hL
  obtain ⟨M', hz, q1, q2⟩ := om_lp (f := om_E_addMove_L4_body om_F) (fun i x => ∃ sn M', x = (sn, nI i, M') ∧ om_fr og_p8 M M' ∧ (∀ p, p < n → (om_b sn p = true ↔ ∃ j, j < i ∧ M.1 8 j = nI p)) ∧ ∀ p, p < n → om_b sn p = true → og_bq n (og_mi (M.1 7 1) 0 p) (fun p q w => ∃ j, j < i ∧ M.1 8 j = nI p ∧ M.1 9 j = nI q ∧ M.1 10 j = w) v p (M'.1 18 p).toInt) (fun M' : om_M => om_fr og_p8 M M' ∧ ∀ p, p < n → og_bq n (og_mi (M.1 7 1) 0 p) R v p (M'.1 18 p).toInt) s (F := om_F) (Nat.lt_of_le_of_lt hs (by decide)) (s := (0, 0, M)) ⟨0, M, rfl, om_fr_rfl, fun p _ => by rw [om_b_0]; exact ⟨fun h => (by cases h), fun ⟨j, hj, _⟩ => absurd hj (by omega)⟩, fun p _ h => by rw [om_b_0] at h; cases h⟩ (by
    rintro i x hi ⟨sn, M', rfl, g1, g2, g3⟩
    have hin : om_in (nI i) 28 = true := om_in_nI (by omega) (by omega)
    have hcl : (nI i).toNatClampNeg = i := nI_clamp (by omega)
    have hlt : ¬ nI s ≤ nI i := nI_ge hi (by omega)
    obtain ⟨⟨a, ha, h8a⟩, ⟨b, hb, h9b⟩⟩ := m2 i hi
    have e72 : M'.1 7 2 = nI s := by rw [g1.1 7 2 rfl, m1]
    have e71 : M'.1 7 1 = M.1 7 1 := g1.1 7 1 rfl
    have e8 : M'.1 8 i = nI a := by rw [g1.1 8 i rfl, h8a]
    have e9 : M'.1 9 i = nI b := by rw [g1.1 9 i rfl, h9b]
    have e10 : M'.1 10 i = M.1 10 i := g1.1 10 i rfl
    have e17 : M'.1 17 b = M.1 17 b := g1.1 17 b rfl
    have hin2 : om_in (nI a) 8 = true := om_in_nI (by omega) (by omega)
    have hcl2 : (nI a).toNatClampNeg = a := nI_clamp (by omega)
    have hin3 : om_in (nI b) 8 = true := om_in_nI (by omega) (by omega)
    have hcl3 : (nI b).toNatClampNeg = b := nI_clamp (by omega)
    have hRab : R a b (M.1 10 i) := (m3 a b _ ha hb).mp ⟨i, hi, h8a, h9b, rfl⟩
    have hw := hR.2.2 a b _ ha hb hRab
    obtain ⟨v1, v2, v3⟩ := hv b hb
    have hsum : (M.1 10 i + M.1 17 b).toInt = (M.1 10 i).toInt + v b := by
      rw [og_add_toInt (by omega) (by omega) (by omega) (by omega), v1]
    have hsn : ∀ p, p < n → (om_b (sn ||| (1 <<< (nI a &&& 31))) p = true ↔ ∃ j, j < i + 1 ∧ M.1 8 j = nI p) := by
      intro p hp
      rw [om_b_or, om_b_shl (show a < 32 by omega), Bool.or_eq_true, g2 p hp, decide_eq_true_eq]
      constructor
      · rintro (⟨j, h1, h2⟩ | rfl)
        · exact ⟨j, by omega, h2⟩
        · exact ⟨i, by omega, h8a⟩
      · rintro ⟨j, h1, h2⟩
        by_cases hji : j = i
        · subst hji; exact .inr ((nI_eq (by omega) (by omega)).mp (h2.symm.trans h8a))
        · exact .inl ⟨j, by omega, h2⟩
    have hRa : ∀ q u, q < n → ((∃ j, j < i + 1 ∧ M.1 8 j = nI a ∧ M.1 9 j = nI q ∧ M.1 10 j = u) ↔ ((∃ j, j < i ∧ M.1 8 j = nI a ∧ M.1 9 j = nI q ∧ M.1 10 j = u) ∨ (q = b ∧ u = M.1 10 i))) := by
      intro q u hq
      constructor
      · rintro ⟨j, h1, h2, h3, h4⟩
        by_cases hji : j = i
        · subst hji; exact .inr ⟨(nI_eq (by omega) (by omega)).mp (h3.symm.trans h9b), h4.symm⟩
        · exact .inl ⟨j, by omega, h2, h3, h4⟩
      · rintro (⟨j, h1, h2⟩ | ⟨rfl, rfl⟩)
        · exact ⟨j, by omega, h2⟩
        · exact ⟨i, by omega, h8a, h9b, rfl⟩
    -- whatever is put at a
    have key : ∀ y : Int32, og_bq n (og_mi (M.1 7 1) 0 a) (fun p q w => ∃ j, j < i + 1 ∧ M.1 8 j = nI p ∧ M.1 9 j = nI q ∧ M.1 10 j = w) v a y.toInt → (∃ s', some (Sum.inl (β := om_M) (sn ||| (1 <<< (nI a &&& 31)), nI (i + 1), om_up M' 18 a y)) = some (Sum.inl s') ∧ ∃ sn M', s' = (sn, nI (i + 1), M') ∧ om_fr og_p8 M M' ∧ (∀ p, p < n → (om_b sn p = true ↔ ∃ j, j < i + 1 ∧ M.1 8 j = nI p)) ∧ ∀ p, p < n → om_b sn p = true → og_bq n (og_mi (M.1 7 1) 0 p) (fun p q w => ∃ j, j < i + 1 ∧ M.1 8 j = nI p ∧ M.1 9 j = nI q ∧ M.1 10 j = w) v p (M'.1 18 p).toInt) := by
      intro y hy
      refine ⟨_, rfl, _, _, rfl, om_fr_up g1 rfl, hsn, fun p hp hsp => ?_⟩
      by_cases hpa : p = a
      · subst hpa
        have : (om_up M' 18 p y).1 18 p = y := by simp [om_up_at]
        rw [this]; exact hy
      · have : (om_up M' 18 a y).1 18 p = M'.1 18 p := by simp [om_up_at, hpa]
        rw [this]
        have hsp' : om_b sn p = true := by
          rw [om_b_or, om_b_shl (show a < 32 by omega)] at hsp
          simpa [hpa] using hsp
        refine og_bq_congr (g3 p hp hsp') (fun q w hq => ?_) (fun _ _ => rfl)
        constructor
        · rintro ⟨j, h1, h2⟩; exact ⟨j, by omega, h2⟩
        · rintro ⟨j, h1, h2, h3⟩
          by_cases hji : j = i
          · subst hji; exact absurd ((nI_eq (by omega) (by omega)).mp (h2.symm.trans h8a)) hpa
          · exact ⟨j, by omega, h2, h3⟩
    simp only [om_E_addMove_L4_body, om_E_addMove_b4, om_E_addMove_b114, e72, hlt, hin, hcl, if_false, cond_true, e8, e9, e10, hin2, hin3, hcl2, hcl3, e17, e71, om_tst (show a < 32 by omega), og_nI1]
    cases hsa : om_b sn a with
    | false =>
      rw [if_pos rfl]
      refine .inl (key _ ?_)
      refine og_bq_add (x := 0) (R := fun p q w => ∃ j, j < i ∧ M.1 8 j = nI p ∧ M.1 9 j = nI q ∧ M.1 10 j = w) hb hRa (.inr ⟨fun q u hq ⟨j, h1, h2, _⟩ => ?_, hsum⟩) (fun h => ?_)
      · have := (g2 a ha).mpr ⟨j, h1, h2⟩; rw [hsa] at this; cases this
      · obtain ⟨⟨q, u, -, ⟨j, h1, h2, _⟩, -⟩, -⟩ := h
        have := (g2 a ha).mpr ⟨j, h1, h2⟩; rw [hsa] at this; cases this
    | true =>
      rw [if_neg (by decide)]
      have hold := g3 a ha hsa
      cases hm : om_b (M.1 7 1) a with
      | false =>
        rw [if_pos rfl]
        have hmm : og_mi (M.1 7 1) 0 a = false := hm
        refine .inl (key _ ?_)
        rw [hmm] at hold ⊢
        refine og_bq_add hb hRa (.inl hold) (fun _ => ?_)
        by_cases hlt2 : M.1 10 i + M.1 17 b < M'.1 18 a
        · rw [if_pos hlt2]
          rw [Int32.lt_iff_toInt_lt] at hlt2
          exact .inr ⟨hsum, .inr ⟨rfl, by omega⟩⟩
        · rw [if_neg hlt2]
          rw [Int32.lt_iff_toInt_lt] at hlt2
          exact .inl ⟨rfl, .inr ⟨rfl, by omega⟩⟩
      | true =>
        rw [if_neg (by decide)]
        have hmm : og_mi (M.1 7 1) 0 a = true := hm
        refine .inl (key _ ?_)
        rw [hmm] at hold ⊢
        refine og_bq_add hb hRa (.inl hold) (fun _ => ?_)
        by_cases hlt2 : M'.1 18 a < M.1 10 i + M.1 17 b
        · rw [if_pos hlt2]
          rw [Int32.lt_iff_toInt_lt] at hlt2
          exact .inr ⟨hsum, .inl ⟨rfl, by omega⟩⟩
        · rw [if_neg hlt2]
          rw [Int32.lt_iff_toInt_lt] at hlt2
          exact .inl ⟨rfl, .inl ⟨rfl, by omega⟩⟩) (by
    rintro x ⟨sn, M', rfl, g1, g2, g3⟩
    have e72 : M'.1 7 2 = nI s := by rw [g1.1 7 2 rfl, m1]
    refine ⟨_, by simp only [om_E_addMove_L4_body, om_E_addMove_b4, e72]; rw [if_pos Int32.le_rfl], g1, fun p hp => ?_⟩
    obtain ⟨q, w, hq, hRp⟩ := hR.2.1 p hp
    obtain ⟨j, h1, h2, -⟩ := (m3 p q w hp hq).mpr hRp
    exact og_bq_congr (g3 p hp ((g2 p hp).mpr ⟨j, h1, h2⟩)) (fun q w hq => m3 p q w hp hq) (fun _ _ => rfl))
  refine ⟨M', ?_, q1, q2⟩
  unfold om_E_addMove om_E_addMove_b0 om_E_addMove_L4
  rw [hz]; rfl
end AM
