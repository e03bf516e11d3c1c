theorem og_sumAfter {n : Nat} {M : om_M} {R : Nat → Nat → Int32 → Prop} (h8 : n ≤ 8) (hL : og_Ld M n R) (hR : og_Rok n R) {k p : Nat} (hk : k ≤ 9000) (hp : p < n) : ∃ r M', om_E_sumAfter om_F (nI k) (nI p) M = some (r, M') ∧ om_fr og_p17 M M' ∧ r.toInt = og_V n (og_mi (M.1 7 1) 0) R k p := by
  have e70 := hL.1
  have hFn : n < om_F := Nat.lt_of_le_of_lt h8 (by decide)
  have hFk : k < om_F := Nat.lt_of_le_of_lt hk (by decide)
  obtain ⟨z1, hz1, M1, rfl, a1, a2⟩ := om_lp (f := om_E_sumAfter_L3_body om_F) (fun i s => ∃ M', s = (nI k, nI p, nI i, M') ∧ om_fr og_p17 M M' ∧ ∀ j, j < i → M'.1 17 j = 0) (fun z => ∃ M', z = (nI k, nI p, M') ∧ om_fr og_p17 M M' ∧ ∀ j, j < n → M'.1 17 j = 0) n hFn (s := (nI k, nI p, 0, M)) ⟨M, rfl, om_fr_rfl, fun j hj => absurd hj (by omega)⟩ (by
    rintro i s hi ⟨M', rfl, g1, g2⟩
    have hin : om_in (nI i) 8 = true := om_in_nI (by omega) (by omega)
    have hcl : (nI i).toNatClampNeg = i := nI_clamp (by omega)
    have hlt : ¬ nI n ≤ nI i := nI_ge hi (by omega)
    have e : M'.1 7 0 = nI n := by rw [g1.1 7 0 rfl, e70]
    refine .inl ⟨(nI k, nI p, nI (i + 1), om_up M' 17 i 0), by simp only [om_E_sumAfter_L3_body, om_E_sumAfter_b3, e, hlt, hin, hcl, if_false, cond_true, og_nI1], _, rfl, om_fr_up g1 rfl, fun j hj => ?_⟩
    by_cases hji : j = i
    · subst hji; simp [om_up_at]
    · simp [om_up_at, hji, g2 j (by omega)]) (by
    rintro s ⟨M', rfl, g1, g2⟩
    have e : M'.1 7 0 = nI n := by rw [g1.1 7 0 rfl, e70]
    exact ⟨_, by simp only [om_E_sumAfter_L3_body, om_E_sumAfter_b3, e]; rw [if_pos Int32.le_rfl], M', rfl, g1, g2⟩)
  obtain ⟨z2, hz2, M2, rfl, b1, b2⟩ := om_lp (f := om_E_sumAfter_L29_body om_F) (fun i s => ∃ M', s = (nI k, nI p, nI i, M') ∧ om_fr og_p17 M M' ∧ ∀ j, j < n → (M'.1 17 j).toInt = og_V n (og_mi (M.1 7 1) 0) R i j) (fun z => ∃ M', z = (nI p, M') ∧ om_fr og_p17 M M' ∧ ∀ j, j < n → (M'.1 17 j).toInt = og_V n (og_mi (M.1 7 1) 0) R k j) k hFk (s := (nI k, nI p, 0, M1)) ⟨M1, rfl, a1, fun j hj => by rw [a2 j hj]; rfl⟩ (by
    rintro i s hi ⟨M', rfl, g1, g2⟩
    have hlt : ¬ nI k ≤ nI i := nI_ge hi (by omega)
    have hL' : og_Ld M' n R := by
      obtain ⟨c1, s', c2, c3, c4, c5, c6⟩ := hL
      refine ⟨by rw [g1.1 7 0 rfl, c1], s', c2, by rw [g1.1 7 2 rfl, c3], fun i hi => ?_, fun p q w hp hq => ?_, fun p hp q => ?_⟩
      · rw [g1.1 8 i rfl, g1.1 9 i rfl]; exact c4 i hi
      · rw [← c5 p q w hp hq]
        constructor
        · rintro ⟨i, h1, h2, h3, h4⟩
          rw [g1.1 8 i rfl] at h2; rw [g1.1 9 i rfl] at h3; rw [g1.1 10 i rfl] at h4
          exact ⟨i, h1, h2, h3, h4⟩
        · rintro ⟨i, h1, h2, h3, h4⟩
          exact ⟨i, h1, by rw [g1.1 8 i rfl, h2], by rw [g1.1 9 i rfl, h3], by rw [g1.1 10 i rfl, h4]⟩
      · rw [g1.1 11 p rfl]; exact c6 p hp q
    have e71 : M'.1 7 1 = M.1 7 1 := g1.1 7 1 rfl
    obtain ⟨M3, d1, d2, d3⟩ := og_addMove (v := og_V n (og_mi (M.1 7 1) 0) R i) h8 hL' hR (fun j hj => ⟨g2 j hj, by have := og_V_bound (mi := og_mi (M.1 7 1) 0) hR i hj; omega, by have := og_V_bound (mi := og_mi (M.1 7 1) 0) hR i hj; omega⟩)
    rw [e71] at d3
    have e70' : M3.1 7 0 = nI n := by rw [d2.1 7 0 rfl, g1.1 7 0 rfl, e70]
    have hcg : om_cg 18 0 17 0 (nI n) = true := by
      have : ∀ k : Fin 9, om_cg 18 0 17 0 (nI k.val) = true := by decide +kernel
      exact this ⟨n, by omega⟩
    have c0 : (0 : Int32).toNatClampNeg = 0 := by decide
    have hcln : (nI n).toNatClampNeg = n := nI_clamp (by omega)
    refine .inl ⟨(nI k, nI p, nI (i + 1), om_cpy M3 18 0 17 0 n), by simp only [om_E_sumAfter_L29_body, om_E_sumAfter_b29, hlt, if_false, d1, Option.bind_some, e70', hcg, cond_true, c0, hcln, og_nI1], _, rfl, ⟨fun a j h => ?_, ?_⟩, fun j hj => ?_⟩
    · have ha : a ≠ 17 := fun h2 => by subst h2; cases h
      have ha2 : og_p8 a j = false := by
        cases h3 : og_p8 a j with
        | false => rfl
        | true =>
          have : a = 18 := Nat.eq_of_beq_eq_true h3
          subst this; cases h
      show (if a = 17 then _ else M3.1 a j) = _
      rw [if_neg ha, d2.1 a j ha2, g1.1 a j h]
    · show M3.2 = M.2
      rw [d2.2, g1.2]
    · show (va_cpy (M3.1 18) (M3.1 17) 0 0 n j).toInt = _
      rw [sb_cpy0 hj]
      exact og_bq_uniq (d3 j hj) (og_V_bq hR i hj)) (by
    rintro s ⟨M', rfl, g1, g2⟩
    exact ⟨_, by simp only [om_E_sumAfter_L29_body, om_E_sumAfter_b29]; rw [if_pos Int32.le_rfl], M', rfl, g1, g2⟩)
  have hin : om_in (nI p) 8 = true := om_in_nI (by omega) (by omega)
  have hcl : (nI p).toNatClampNeg = p := nI_clamp (by omega)
  refine ⟨M2.1 17 p, M2, ?_, b1, b2 p hp⟩
  unfold om_E_sumAfter om_E_sumAfter_b0 om_E_sumAfter_L3 om_E_sumAfter_L29
  rw [hz1]
  show (om_it (om_E_sumAfter_L29_body om_F) om_F (nI k, nI p, 0, M1)).bind _ = _
  rw [hz2]
  simp only [Option.bind_some, hin, hcl, cond_true]
/-! ===== the model's values ===== -/
def og_Ws (set : Int32) (R : Nat → Nat → Int32 → Prop) (p q : Nat) (w : Int32) : Prop := if set = -1 then R p q w else ∃ u, R p q u ∧ w = if om_b set p = true then 1 else 0
def og_p62 (a _j : Nat) : Bool := Nat.beq a 62 || Nat.beq a 63
theorem og_bit01 {p : Nat} (hp : p < 32) (x : Int32) : (x >>> (nI p &&& 31)) &&& 1 = if om_b x p = true then 1 else 0 := by
  cases h : om_b x p with
  | true => rw [if_pos rfl]; exact (og_tst1 hp x).mpr h
  | false => rw [if_neg (by decide)]; exact (om_tst hp x).mpr h
theorem og_Ws_ok {n m : Nat} {M : om_M} (hB : om_Ba M n m) (U : Nat → Prop) (set : Int32) : og_Rok n (og_Ws set (og_E M m U)) := by
  have h0 : og_Rok n (og_E M m U) := by
    refine ⟨fun p q u w hp hq h1 h2 => ?_, fun p hp => og_E_ne hB U hp, fun p q w hp hq h => ?_⟩
    · rcases h1 with ⟨k, k1, k2, k3, k4, k5⟩ | ⟨k1, k2, k3⟩
      · rcases h2 with ⟨l, l1, l2, l3, l4, l5⟩ | ⟨l1, l2, l3⟩
        · have := hB.2 k l k1 l1 (k3.trans l3.symm) (k4.trans l4.symm)
          subst this
          rw [← k5, l5]
        · exact absurd k3 (l1 k k1 k2)
      · rcases h2 with ⟨l, l1, l2, l3, l4, l5⟩ | ⟨l1, l2, l3⟩
        · exact absurd l3 (k1 l l1 l2)
        · rw [k3, l3]
    · rcases h with ⟨k, k1, k2, k3, k4, k5⟩ | ⟨k1, k2, rfl⟩
      · have := (hB.1 k k1).2.2.2.2.2
        rw [k5] at this; exact this
      · decide
  by_cases hs : set = -1
  · have : og_Ws set (og_E M m U) = og_E M m U := by
      funext p q w; unfold og_Ws; rw [if_pos hs]
    rw [this]; exact h0
  · refine ⟨fun p q u w hp hq h1 h2 => ?_, fun p hp => ?_, fun p q w hp hq h => ?_⟩
    · unfold og_Ws at h1 h2; rw [if_neg hs] at h1 h2
      obtain ⟨_, -, rfl⟩ := h1
      obtain ⟨_, -, rfl⟩ := h2
      rfl
    · obtain ⟨q, w, hq, h⟩ := h0.2.1 p hp
      exact ⟨q, _, hq, by unfold og_Ws; rw [if_neg hs]; exact ⟨w, h, rfl⟩⟩
    · unfold og_Ws at h; rw [if_neg hs] at h
      obtain ⟨_, -, rfl⟩ := h
      split <;> decide
section OM
variable {n m pl : Nat} {M : om_M} {mi : Nat → Bool} {set : Int32}
theorem og_weightOf (h20 : m ≤ 20) (h8 : n ≤ 8) (hB : om_Ba M n m) {k p : Nat} (hk : k < m) (hp : p < n) (ht : M.1 4 k = nI p) {M' : om_M} (hf : om_fr og_p62 M M') : om_D_weightOf om_F (nI k) set M' = some (if set = -1 then M.1 6 k else if om_b set p = true then 1 else 0, M') := by
  have hin : om_in (nI k) 20 = true := om_in_nI (by omega) (by omega)
  have hcl : (nI k).toNatClampNeg = k := nI_clamp (by omega)
  have e49 : M'.1 49 k = nI p := by rw [hf.1 49 k rfl, (hB.1 k hk).1, ht]
  have e51 : M'.1 51 k = M.1 6 k := by rw [hf.1 51 k rfl, (hB.1 k hk).2.2.1]
  unfold om_D_weightOf om_D_weightOf_b0 om_D_weightOf_b24
  simp only [hin, hcl, cond_true, e49, e51, og_bit01 (show p < 32 by omega)]
  split <;> rfl
/-- all arrows of a place looked at -/
theorem og_omInner (h8 : n ≤ 8) (h20 : m ≤ 20) (hB : om_Ba M n m) (e466 : M.1 46 6 = nI m) (hmi : ∀ p, p < n → (M.1 47 p = nI pl ↔ mi p = true)) {v : Nat → Int} (hv : ∀ p, p < n → (M.1 62 p).toInt = v p ∧ -100000 ≤ v p ∧ v p ≤ 100000) {p : Nat} (hp : p < n) {M' : om_M} (hf : om_fr og_p62 M M') (h62 : ∀ q, q < n → M'.1 62 q = M.1 62 q) : ∃ c y, om_D_oneMore_L19 om_F (nI pl, set, nI p, 0, 0, 0, M') = some (nI pl, set, nI p, om_bi c, y, M') ∧ (c = true ↔ ∃ j, j < m ∧ nI j ≠ M.1 46 18 ∧ M.1 4 j = nI p) ∧ (c = true → og_bq n (mi p) (fun p q w => ∃ j, j < m ∧ nI j ≠ M.1 46 18 ∧ M.1 4 j = nI p ∧ M.1 5 j = nI q ∧ (if set = -1 then M.1 6 j else if om_b set p = true then 1 else 0) = w) v p y.toInt) := by
  obtain ⟨z, hz, c, y, rfl, q1, q2⟩ := om_lp (f := om_D_oneMore_L19_body om_F) (fun i s => ∃ c y, s = (nI pl, set, nI p, om_bi c, y, nI i, M') ∧ (c = true ↔ ∃ j, j < i ∧ nI j ≠ M.1 46 18 ∧ M.1 4 j = nI p) ∧ (c = true → og_bq n (mi p) (fun p q w => ∃ j, j < i ∧ nI j ≠ M.1 46 18 ∧ M.1 4 j = nI p ∧ M.1 5 j = nI q ∧ (if set = -1 then M.1 6 j else if om_b set p = true then 1 else 0) = w) v p y.toInt)) (fun z => ∃ c y, z = (nI pl, set, nI p, om_bi c, y, M') ∧ (c = true ↔ ∃ j, j < m ∧ nI j ≠ M.1 46 18 ∧ M.1 4 j = nI p) ∧ (c = true → og_bq n (mi p) (fun p q w => ∃ j, j < m ∧ nI j ≠ M.1 46 18 ∧ M.1 4 j = nI p ∧ M.1 5 j = nI q ∧ (if set = -1 then M.1 6 j else if om_b set p = true then 1 else 0) = w) v p y.toInt)) m (F := om_F) (Nat.lt_of_le_of_lt h20 (by decide)) (s := (nI pl, set, nI p, 0, 0, 0, M')) ⟨false, 0, rfl, ⟨fun h => (by cases h), fun ⟨j, hj, _⟩ => absurd hj (by omega)⟩, fun h => by cases h⟩ (by
    rintro i s hi ⟨c, y, rfl, g1, g2⟩
    have hin : om_in (nI i) 20 = true := om_in_nI (by omega) (by omega)
    have hcl : (nI i).toNatClampNeg = i := nI_clamp (by omega)
    have hin2 : om_in (nI p) 8 = true := om_in_nI (by omega) (by omega)
    have hcl2 : (nI p).toNatClampNeg = p := nI_clamp (by omega)
    have hlt : ¬ nI m ≤ nI i := nI_ge hi (by omega)
    have e' : M'.1 46 6 = nI m := by rw [hf.1 46 6 rfl, e466]
    have e18 : M'.1 46 18 = M.1 46 18 := hf.1 46 18 rfl
    obtain ⟨h49, h50, h51, ⟨a, ha, h4⟩, ⟨b, hb, h5⟩, hw⟩ := hB.1 i hi
    have e49 : M'.1 49 i = M.1 4 i := by rw [hf.1 49 i rfl, h49]
    have e50 : M'.1 50 i = nI b := by rw [hf.1 50 i rfl, h50, h5]
    have e47 : M'.1 47 p = nI pl ↔ mi p = true := by rw [hf.1 47 p rfl]; exact hmi p hp
    have hin3 : om_in (nI b) 8 = true := om_in_nI (by omega) (by omega)
    have hcl3 : (nI b).toNatClampNeg = b := nI_clamp (by omega)
    simp only [om_D_oneMore_L19_body, om_D_oneMore_b19, om_D_oneMore_b102, om_D_oneMore_b106, om_D_oneMore_b107, om_D_oneMore_b121, om_D_oneMore_b126, e', hlt, hin, hcl, if_false, cond_true, e49, e18, og_nI1]
    by_cases ht : M.1 4 i = nI p
    · rw [if_pos ht]
      by_cases hwo : nI i = M.1 46 18
      · rw [if_pos hwo]
        refine .inl ⟨_, rfl, c, y, rfl, g1.trans ⟨fun ⟨j, h1, h2⟩ => ⟨j, by omega, h2⟩, fun ⟨j, h1, h2, h3⟩ => ?_⟩, fun hc => og_bq_congr (g2 hc) (fun q w hq => ⟨fun ⟨j, h1, h2⟩ => ⟨j, by omega, h2⟩, fun ⟨j, h1, h2, h3⟩ => ?_⟩) (fun _ _ => rfl)⟩
        · by_cases hji : j = i
          · subst hji; exact absurd hwo h2
          · exact ⟨j, by omega, h2, h3⟩
        · by_cases hji : j = i
          · subst hji; exact absurd hwo h2
          · exact ⟨j, by omega, h2, h3⟩
      · rw [if_neg hwo, og_weightOf h20 h8 hB hi hp ht hf]
        simp only [Option.bind_some, e50, hin2, hcl2, hin3, hcl3, cond_true, e47, h62 b hb]
        obtain ⟨v1, v2, v3⟩ := hv b hb
        have hwb : -5 ≤ ((if set = -1 then M.1 6 i else if om_b set p = true then 1 else 0) : Int32).toInt ∧ ((if set = -1 then M.1 6 i else if om_b set p = true then 1 else 0) : Int32).toInt ≤ 5 := by
          split
          · exact hw
          · split <;> decide
        have hsum : ((if set = -1 then M.1 6 i else if om_b set p = true then 1 else 0) + M.1 62 b).toInt = ((if set = -1 then M.1 6 i else if om_b set p = true then 1 else 0) : Int32).toInt + v b := by
          rw [og_add_toInt (by omega) (by omega) (by omega) (by omega), v1]
        have hRa : ∀ q u, q < n → ((∃ j, j < i + 1 ∧ nI j ≠ M.1 46 18 ∧ M.1 4 j = nI p ∧ M.1 5 j = nI q ∧ (if set = -1 then M.1 6 j else if om_b set p = true then 1 else 0) = u) ↔ ((∃ j, j < i ∧ nI j ≠ M.1 46 18 ∧ M.1 4 j = nI p ∧ M.1 5 j = nI q ∧ (if set = -1 then M.1 6 j else if om_b set p = true then 1 else 0) = u) ∨ (q = b ∧ u = (if set = -1 then M.1 6 i else if om_b set p = true then 1 else 0)))) := by
          intro q u hq
          constructor
          · rintro ⟨j, h1, h2, h3, h4', h5'⟩
            by_cases hji : j = i
            · subst hji; exact .inr ⟨(nI_eq (by omega) (by omega)).mp (h4'.symm.trans h5), h5'.symm⟩
            · exact .inl ⟨j, by omega, h2, h3, h4', h5'⟩
          · rintro (⟨j, h1, h2⟩ | ⟨rfl, rfl⟩)
            · exact ⟨j, by omega, h2⟩
            · exact ⟨i, by omega, hwo, ht, h5, rfl⟩
        have hany : True ↔ ∃ j, j < i + 1 ∧ nI j ≠ M.1 46 18 ∧ M.1 4 j = nI p := ⟨fun _ => ⟨i, by omega, hwo, ht⟩, fun _ => trivial⟩
        generalize hW : (if set = -1 then M.1 6 i else if om_b set p = true then (1 : Int32) else 0) = W at hsum hRa ⊢
        have key : ∀ y' : Int32, og_bq n (mi p) (fun p q w => ∃ j, j < i + 1 ∧ nI j ≠ M.1 46 18 ∧ M.1 4 j = nI p ∧ M.1 5 j = nI q ∧ (if set = -1 then M.1 6 j else if om_b set p = true then 1 else 0) = w) v p y'.toInt → (∃ s', some (Sum.inl (β := Int32 × Int32 × Int32 × Int32 × Int32 × om_M) (nI pl, set, nI p, (1 : Int32), y', nI (i + 1), M')) = some (Sum.inl s') ∧ ∃ c y, s' = (nI pl, set, nI p, om_bi c, y, nI (i + 1), M') ∧ (c = true ↔ ∃ j, j < i + 1 ∧ nI j ≠ M.1 46 18 ∧ M.1 4 j = nI p) ∧ (c = true → og_bq n (mi p) (fun p q w => ∃ j, j < i + 1 ∧ nI j ≠ M.1 46 18 ∧ M.1 4 j = nI p ∧ M.1 5 j = nI q ∧ (if set = -1 then M.1 6 j else if om_b set p = true then 1 else 0) = w) v p y.toInt)) :=
          fun y' hy' => ⟨_, rfl, true, y', rfl, ⟨fun _ => hany.mp trivial, fun _ => rfl⟩, fun _ => hy'⟩
        have hn1 : ¬ (1 : Int32) = 0 := by decide
        cases c with
        | false =>
          rw [if_pos (show om_bi false = 0 from rfl), if_neg hn1]
          refine .inl (key _ ?_)
          refine og_bq_add (x := 0) (R := fun p q w => ∃ j, j < i ∧ nI j ≠ M.1 46 18 ∧ M.1 4 j = nI p ∧ M.1 5 j = nI q ∧ (if set = -1 then M.1 6 j else if om_b set p = true then 1 else 0) = w) hb hRa (.inr ⟨fun q u hq ⟨j, h1, h2, h3, _⟩ => ?_, hsum⟩) (fun h => ?_)
          · have := g1.mpr ⟨j, h1, h2, h3⟩; cases this
          · obtain ⟨⟨q, u, -, ⟨j, h1, h2, h3, _⟩, -⟩, -⟩ := h
            have := g1.mpr ⟨j, h1, h2, h3⟩; cases this
        | true =>
          rw [if_neg (show ¬ om_bi true = 0 by decide)]
          have hold := g2 rfl
          cases hm : mi p with
          | true =>
            rw [if_pos rfl]
            rw [hm] at hold key
            by_cases hle : W + M.1 62 b ≤ y
            · rw [if_pos hle, if_pos trivial]
              rw [Int32.le_iff_toInt_le] at hle
              exact .inl (key _ (og_bq_add hb hRa (.inl hold) (fun _ => .inl ⟨rfl, .inl ⟨rfl, by omega⟩⟩)))
            · rw [if_neg hle, if_neg hn1]
              rw [Int32.le_iff_toInt_le] at hle
              exact .inl (key _ (og_bq_add hb hRa (.inl hold) (fun _ => .inr ⟨hsum, .inl ⟨rfl, by omega⟩⟩)))
          | false =>
            rw [if_neg (show ¬ (false = true) by decide)]
            rw [hm] at hold key
            by_cases hle : y ≤ W + M.1 62 b
            · rw [if_pos hle, if_pos trivial]
              rw [Int32.le_iff_toInt_le] at hle
              exact .inl (key _ (og_bq_add hb hRa (.inl hold) (fun _ => .inl ⟨rfl, .inr ⟨rfl, by omega⟩⟩)))
            · rw [if_neg hle, if_neg hn1]
              rw [Int32.le_iff_toInt_le] at hle
              exact .inl (key _ (og_bq_add hb hRa (.inl hold) (fun _ => .inr ⟨hsum, .inr ⟨rfl, by omega⟩⟩)))
    · rw [if_neg ht]
      refine .inl ⟨_, rfl, c, y, rfl, g1.trans ⟨fun ⟨j, h1, h2⟩ => ⟨j, by omega, h2⟩, fun ⟨j, h1, h2, h3⟩ => ?_⟩, fun hc => og_bq_congr (g2 hc) (fun q w hq => ⟨fun ⟨j, h1, h2⟩ => ⟨j, by omega, h2⟩, fun ⟨j, h1, h2, h3⟩ => ?_⟩) (fun _ _ => rfl)⟩
      · by_cases hji : j = i
        · subst hji; exact absurd h3 ht
        · exact ⟨j, by omega, h2, h3⟩
      · by_cases hji : j = i
        · subst hji; exact absurd h3.1 ht
        · exact ⟨j, by omega, h2, h3⟩) (by
    rintro s ⟨c, y, rfl, g1, g2⟩
    have e' : M'.1 46 6 = nI m := by rw [hf.1 46 6 rfl, e466]
    exact ⟨_, by simp only [om_D_oneMore_L19_body, om_D_oneMore_b19, e']; rw [if_pos Int32.le_rfl], c, y, rfl, g1, g2⟩)
  exact ⟨c, y, hz, q1, q2⟩
theorem og_oneMore (h8 : n ≤ 8) (h20 : m ≤ 20) (hB : om_Ba M n m) (e462 : M.1 46 2 = nI n) (e466 : M.1 46 6 = nI m) (hmi : ∀ p, p < n → (M.1 47 p = nI pl ↔ mi p = true)) {v : Nat → Int} (hv : ∀ p, p < n → (M.1 62 p).toInt = v p ∧ -100000 ≤ v p ∧ v p ≤ 100000) : ∃ M', om_D_oneMore om_F (nI pl) set M = some M' ∧ om_fr og_p62 M M' ∧ ∀ p, p < n → og_bq n (mi p) (og_Ws set (og_E M m (fun k => nI k ≠ M.1 46 18))) v p (M'.1 62 p).toInt := by
  have hFn : n < om_F := Nat.lt_of_le_of_lt h8 (by decide)
  obtain ⟨M1, hz1, a1, a2⟩ := om_lp (f := om_D_oneMore_L2_body om_F) (fun i s => ∃ M', s = (nI pl, set, nI i, M') ∧ om_fr og_p62 M M' ∧ (∀ q, q < n → M'.1 62 q = M.1 62 q) ∧ ∀ p, p < i → og_bq n (mi p) (og_Ws set (og_E M m (fun k => nI k ≠ M.1 46 18))) v p (M'.1 63 p).toInt) (fun M' : om_M => om_fr og_p62 M M' ∧ ∀ p, p < n → og_bq n (mi p) (og_Ws set (og_E M m (fun k => nI k ≠ M.1 46 18))) v p (M'.1 63 p).toInt) n hFn (s := (nI pl, set, 0, M)) ⟨M, rfl, om_fr_rfl, fun _ _ => rfl, fun p hp => absurd hp (by omega)⟩ (by
    rintro i s hi ⟨M', rfl, g1, g2, g3⟩
    have hin : om_in (nI i) 8 = true := om_in_nI (by omega) (by omega)
    have hcl : (nI i).toNatClampNeg = i := nI_clamp (by omega)
    have hlt : ¬ nI n ≤ nI i := nI_ge hi (by omega)
    have e : M'.1 46 2 = nI n := by rw [g1.1 46 2 rfl, e462]
    obtain ⟨c, y, c1, c2, c3⟩ := og_omInner (set := set) h8 h20 hB e466 hmi hv hi g1 g2
    obtain ⟨v1, v2, v3⟩ := hv i hi
    have key : ∀ y' : Int32, og_bq n (mi i) (og_Ws set (og_E M m (fun k => nI k ≠ M.1 46 18))) v i y'.toInt → (∃ s', some (Sum.inl (β := om_M) (nI pl, set, nI (i + 1), om_up M' 63 i y')) = some (Sum.inl s') ∧ ∃ M', s' = (nI pl, set, nI (i + 1), M') ∧ om_fr og_p62 M M' ∧ (∀ q, q < n → M'.1 62 q = M.1 62 q) ∧ ∀ p, p < i + 1 → og_bq n (mi p) (og_Ws set (og_E M m (fun k => nI k ≠ M.1 46 18))) v p (M'.1 63 p).toInt) := by
      intro y' hy'
      refine ⟨_, rfl, _, rfl, om_fr_up g1 rfl, fun q hq => by simp [om_up_at, g2 q hq], fun p hp => ?_⟩
      by_cases hpi : p = i
      · subst hpi
        have : (om_up M' 63 p y').1 63 p = y' := by simp [om_up_at]
        rw [this]; exact hy'
      · have : (om_up M' 63 i y').1 63 p = M'.1 63 p := by simp [om_up_at, hpi]
        rw [this]; exact g3 p (by omega)
    simp only [om_D_oneMore_L2_body, om_D_oneMore_b2, om_D_oneMore_b167, om_D_oneMore_b168, e, hlt, if_false, c1, Option.bind_some, hin, hcl, cond_true, og_nI1, og_bit01 (show i < 32 by omega), g2 i hi]
    cases c with
    | false =>
      rw [if_pos (show om_bi false = 0 from rfl)]
      have hno : ∀ k, k < m → nI k ≠ M.1 46 18 → M.1 4 k ≠ nI i := fun k hk hU ht => by
        have := c2.mpr ⟨k, hk, hU, ht⟩; cases this
      have hRi : ∀ q w, og_E M m (fun k => nI k ≠ M.1 46 18) i q w ↔ (q = i ∧ w = 0) := by
        intro q w
        constructor
        · rintro (⟨k, k1, k2, k3, -⟩ | ⟨-, h⟩)
          · exact absurd k3 (hno k k1 k2)
          · exact h
        · intro h; exact .inr ⟨hno, h⟩
      by_cases hs : set = -1
      · rw [if_pos hs]
        refine .inl (key _ ?_)
        have e0 : M.1 62 i + 0 = M.1 62 i := Int32.add_zero _
        rw [e0, v1]
        have hW : ∀ q w, og_Ws set (og_E M m (fun k => nI k ≠ M.1 46 18)) i q w ↔ (q = i ∧ w = 0) := fun q w => by
          unfold og_Ws; rw [if_pos hs]; exact hRi q w
        have z0 : (0 : Int32).toInt = 0 := by decide
        refine ⟨⟨i, 0, hi, (hW i 0).mpr ⟨rfl, rfl⟩, by rw [z0]; omega⟩, fun q w hq hw => ?_⟩
        obtain ⟨rfl, rfl⟩ := (hW q w).mp hw
        rw [z0]; exact ⟨fun _ => by omega, fun _ => by omega⟩
      · rw [if_neg hs]
        refine .inl (key _ ?_)
        have hW : ∀ q w, og_Ws set (og_E M m (fun k => nI k ≠ M.1 46 18)) i q w ↔ (q = i ∧ w = if om_b set i = true then 1 else 0) := fun q w => by
          unfold og_Ws; rw [if_neg hs]
          constructor
          · rintro ⟨u, h1, h2⟩; exact ⟨((hRi q u).mp h1).1, h2⟩
          · rintro ⟨h1, h2⟩; exact ⟨0, (hRi q 0).mpr ⟨h1, rfl⟩, h2⟩
        have hb : (0 : Int) ≤ ((if om_b set i = true then 1 else 0) : Int32).toInt ∧ ((if om_b set i = true then 1 else 0) : Int32).toInt ≤ 1 := by split <;> decide
        have hsum : (M.1 62 i + (if om_b set i = true then 1 else 0)).toInt = v i + ((if om_b set i = true then 1 else 0) : Int32).toInt := by
          rw [og_add_toInt (by omega) (by omega) (by omega) (by omega), v1]
        rw [hsum]
        refine ⟨⟨i, _, hi, (hW i _).mpr ⟨rfl, rfl⟩, by omega⟩, fun q w hq hw => ?_⟩
        obtain ⟨rfl, rfl⟩ := (hW q w).mp hw
        exact ⟨fun _ => by omega, fun _ => by omega⟩
    | true =>
      rw [if_neg (show ¬ om_bi true = 0 by decide)]
      refine .inl (key _ ?_)
      obtain ⟨j0, hj0, hj1, hj2⟩ := c2.mp rfl
      refine og_bq_congr (c3 rfl) (fun q w hq => ?_) (fun _ _ => rfl)
      unfold og_Ws og_E og_E0
      by_cases hs : set = -1
      · rw [if_pos hs]
        constructor
        · rintro ⟨j, h1, h2, h3, h4, h5⟩
          rw [if_pos hs] at h5
          exact .inl ⟨j, h1, h2, h3, h4, h5⟩
        · rintro (⟨j, h1, h2, h3, h4, h5⟩ | ⟨h1, -⟩)
          · exact ⟨j, h1, h2, h3, h4, by rw [if_pos hs]; exact h5⟩
          · exact absurd hj2 (h1 j0 hj0 hj1)
      · rw [if_neg hs]
        constructor
        · rintro ⟨j, h1, h2, h3, h4, h5⟩
          rw [if_neg hs] at h5
          exact ⟨_, .inl ⟨j, h1, h2, h3, h4, rfl⟩, h5.symm⟩
        · rintro ⟨u, (⟨j, h1, h2, h3, h4, h5⟩ | ⟨h1, -⟩), h6⟩
          · exact ⟨j, h1, h2, h3, h4, by rw [if_neg hs]; exact h6.symm⟩
          · exact absurd hj2 (h1 j0 hj0 hj1)) (by
    rintro s ⟨M', rfl, g1, g2, g3⟩
    have e : M'.1 46 2 = nI n := by rw [g1.1 46 2 rfl, e462]
    exact ⟨_, by simp only [om_D_oneMore_L2_body, om_D_oneMore_b2, e]; rw [if_pos Int32.le_rfl], g1, g3⟩)
  obtain ⟨M2, hz2, b1, b2⟩ := om_lp (f := om_D_oneMore_L177_body om_F) (fun i s => ∃ M', s = (nI i, M') ∧ om_fr og_p62 M M' ∧ (∀ q, M'.1 63 q = M1.1 63 q) ∧ ∀ p, p < i → M'.1 62 p = M1.1 63 p) (fun M' : om_M => om_fr og_p62 M M' ∧ ∀ p, p < n → M'.1 62 p = M1.1 63 p) n hFn (s := (0, M1)) ⟨M1, rfl, a1, fun _ => rfl, fun p hp => absurd hp (by omega)⟩ (by
    rintro i s hi ⟨M', rfl, g1, g2, g3⟩
    have hin : om_in (nI i) 8 = true := om_in_nI (by omega) (by omega)
    have hcl : (nI i).toNatClampNeg = i := nI_clamp (by omega)
    have hlt : ¬ nI n ≤ nI i := nI_ge hi (by omega)
    have e : M'.1 46 2 = nI n := by rw [g1.1 46 2 rfl, e462]
    refine .inl ⟨(nI (i + 1), om_up M' 62 i (M'.1 63 i)), by simp only [om_D_oneMore_L177_body, om_D_oneMore_b177, e, hlt, hin, hcl, if_false, cond_true, og_nI1], _, rfl, om_fr_up g1 rfl, fun q => by simp [om_up_at, g2 q], fun p hp => ?_⟩
    by_cases hpi : p = i
    · subst hpi; simp [om_up_at, g2]
    · simp [om_up_at, hpi, g3 p (by omega)]) (by
    rintro s ⟨M', rfl, g1, g2, g3⟩
    have e : M'.1 46 2 = nI n := by rw [g1.1 46 2 rfl, e462]
    exact ⟨_, by simp only [om_D_oneMore_L177_body, om_D_oneMore_b177, e]; rw [if_pos Int32.le_rfl], g1, g3⟩)
  refine ⟨M2, ?_, b1, fun p hp => by rw [b2 p hp]; exact a2 p hp⟩
  unfold om_D_oneMore om_D_oneMore_b0 om_D_oneMore_L2 om_D_oneMore_L177
  rw [hz1]
  show (om_it (om_D_oneMore_L177_body om_F) om_F (0, M1)).bind _ = _
  rw [hz2]; rfl
theorem og_Ba_62 {M M' : om_M} {n m : Nat} (h : om_Ba M n m) (hf : om_fr og_p62 M M') : om_Ba M' n m := by
  refine ⟨fun k hk => ?_, fun k l hk hl => ?_⟩
  · rw [hf.1 49 k rfl, hf.1 50 k rfl, hf.1 51 k rfl, hf.1 4 k rfl, hf.1 5 k rfl, hf.1 6 k rfl]; exact h.1 k hk
  · rw [hf.1 4 k rfl, hf.1 5 k rfl, hf.1 4 l rfl, hf.1 5 l rfl]; exact h.2 k l hk hl
theorem og_E_62 {M M' : om_M} {m : Nat} (hf : om_fr og_p62 M M') : og_E M' m (fun k => nI k ≠ M'.1 46 18) = og_E M m (fun k => nI k ≠ M.1 46 18) := by
  funext p q w
  unfold og_E og_E0
  rw [hf.1 46 18 rfl]
  have e4 : M'.1 4 = M.1 4 := funext fun k => hf.1 4 k rfl
  have e5 : M'.1 5 = M.1 5 := funext fun k => hf.1 5 k rfl
  have e6 : M'.1 6 = M.1 6 := funext fun k => hf.1 6 k rfl
  rw [e4, e5, e6]
theorem og_layValues (h8 : n ≤ 8) (h20 : m ≤ 20) (hB : om_Ba M n m) (e462 : M.1 46 2 = nI n) (e466 : M.1 46 6 = nI m) (hmi : ∀ p, p < n → (M.1 47 p = nI pl ↔ mi p = true)) {k : Nat} (hk : k ≤ 9000) : ∃ M', om_D_layValues om_F (nI pl) set (nI k) M = some M' ∧ om_fr og_p62 M M' ∧ ∀ p, p < n → (M'.1 62 p).toInt = og_V n mi (og_Ws set (og_E M m (fun k => nI k ≠ M.1 46 18))) k p := by
  have hFn : n < om_F := Nat.lt_of_le_of_lt h8 (by decide)
  have hFk : k < om_F := Nat.lt_of_le_of_lt hk (by decide)
  have hR := og_Ws_ok hB (fun k => nI k ≠ M.1 46 18) set
  obtain ⟨z1, hz1, M1, rfl, a1, a2⟩ := om_lp (f := om_D_layValues_L3_body om_F) (fun i s => ∃ M', s = (nI pl, set, nI k, nI i, M') ∧ om_fr og_p62 M M' ∧ ∀ j, j < i → M'.1 62 j = 0) (fun z => ∃ M', z = (nI pl, set, nI k, M') ∧ om_fr og_p62 M M' ∧ ∀ j, j < n → M'.1 62 j = 0) n hFn (s := (nI pl, set, nI k, 0, M)) ⟨M, rfl, om_fr_rfl, fun j hj => absurd hj (by omega)⟩ (by
    rintro i s hi ⟨M', rfl, g1, g2⟩
    have hin : om_in (nI i) 8 = true := om_in_nI (by omega) (by omega)
    have hcl : (nI i).toNatClampNeg = i := nI_clamp (by omega)
    have hlt : ¬ nI n ≤ nI i := nI_ge hi (by omega)
    have e : M'.1 46 2 = nI n := by rw [g1.1 46 2 rfl, e462]
    refine .inl ⟨(nI pl, set, nI k, nI (i + 1), om_up M' 62 i 0), by simp only [om_D_layValues_L3_body, om_D_layValues_b3, e, hlt, hin, hcl, if_false, cond_true, og_nI1], _, rfl, om_fr_up g1 rfl, fun j hj => ?_⟩
    by_cases hji : j = i
    · subst hji; simp [om_up_at]
    · simp [om_up_at, hji, g2 j (by omega)]) (by
    rintro s ⟨M', rfl, g1, g2⟩
    have e : M'.1 46 2 = nI n := by rw [g1.1 46 2 rfl, e462]
    exact ⟨_, by simp only [om_D_layValues_L3_body, om_D_layValues_b3, e]; rw [if_pos Int32.le_rfl], M', rfl, g1, g2⟩)
  obtain ⟨M2, hz2, b1, b2⟩ := om_lp (f := om_D_layValues_L29_body om_F) (fun i s => ∃ M', s = (nI pl, set, nI k, nI i, M') ∧ om_fr og_p62 M M' ∧ ∀ p, p < n → (M'.1 62 p).toInt = og_V n mi (og_Ws set (og_E M m (fun k => nI k ≠ M.1 46 18))) i p) (fun M' : om_M => om_fr og_p62 M M' ∧ ∀ p, p < n → (M'.1 62 p).toInt = og_V n mi (og_Ws set (og_E M m (fun k => nI k ≠ M.1 46 18))) k p) k hFk (s := (nI pl, set, nI k, 0, M1)) ⟨M1, rfl, a1, fun p hp => by rw [a2 p hp]; rfl⟩ (by
    rintro i s hi ⟨M', rfl, g1, g2⟩
    have hlt : ¬ nI k ≤ nI i := nI_ge hi (by omega)
    obtain ⟨M3, d1, d2, d3⟩ := og_oneMore (M := M') (set := set) (pl := pl) (mi := mi) (v := og_V n mi (og_Ws set (og_E M m (fun k => nI k ≠ M.1 46 18))) i) h8 h20 (og_Ba_62 hB g1) (by rw [g1.1 46 2 rfl, e462]) (by rw [g1.1 46 6 rfl, e466]) (fun p hp => by rw [g1.1 47 p rfl]; exact hmi p hp) (fun p hp => by
      have := og_V_bound (mi := mi) hR i hp
      exact ⟨g2 p hp, by omega, by omega⟩)
    rw [og_E_62 g1] at d3
    refine .inl ⟨_, by simp only [om_D_layValues_L29_body, om_D_layValues_b29, hlt, if_false, d1, Option.bind_some, og_nI1], M3, rfl, om_fr_tr g1 d2, fun p hp => ?_⟩
    exact og_bq_uniq (d3 p hp) (og_V_bq hR i hp)) (by
    rintro s ⟨M', rfl, g1, g2⟩
    exact ⟨_, by simp only [om_D_layValues_L29_body, om_D_layValues_b29]; rw [if_pos Int32.le_rfl], g1, g2⟩)
  refine ⟨M2, ?_, b1, b2⟩
  unfold om_D_layValues om_D_layValues_b0 om_D_layValues_L3 om_D_layValues_L29
  rw [hz1]
  show (om_it (om_D_layValues_L29_body om_F) om_F (nI pl, set, nI k, 0, M1)).bind _ = _
  rw [hz2]; rfl
end OM
theorem og_V_congr {n : Nat} {mi mi' : Nat → Bool} {R R' : Nat → Nat → Int32 → Prop} (hR : og_Rok n R) (hR' : og_Rok n R') (hm : ∀ p, p < n → mi p = mi' p) (h : ∀ p q w, p < n → q < n → (R p q w ↔ R' p q w)) : ∀ k p, p < n → og_V n mi R k p = og_V n mi' R' k p
  | 0, _, _ => rfl
  | k + 1, p, hp => by
    have h1 := og_V_bq (mi := mi) hR k hp
    have h2 := og_V_bq (mi := mi') hR' k hp
    rw [hm p hp] at h1
    exact og_bq_uniq (og_bq_congr h1 (fun q w hq => h p q w hp hq) (fun q hq => og_V_congr hR hR' hm h k q hq)) h2
theorem og_p17_sc {a j : Nat} (h : om_sc a j = false) : og_p17 a j = false := by
  cases h1 : og_p17 a j with
  | false => rfl
  | true =>
    unfold og_p17 at h1
    rw [Bool.or_eq_true] at h1
    rcases h1 with h1 | h1
    · have : a = 17 := Nat.eq_of_beq_eq_true h1
      subst this; cases h
    · have : a = 18 := Nat.eq_of_beq_eq_true h1
      subst this; cases h
theorem og_p62_sc {a j : Nat} (h : om_sc a j = false) : og_p62 a j = false := by
  cases h1 : og_p62 a j with
  | false => rfl
  | true =>
    unfold og_p62 at h1
    rw [Bool.or_eq_true] at h1
    rcases h1 with h1 | h1
    · have : a = 62 := Nat.eq_of_beq_eq_true h1
      subst this; cases h
    · have : a = 63 := Nat.eq_of_beq_eq_true h1
      subst this; cases h
/-- the model's weights where all arrows are there -/
theorem og_Eall {M M' : om_M} {n m : Nat} (h20 : m ≤ 20) (hf : om_fr om_sc M M') (hA : om_Al M') (p q : Nat) (w : Int32) : og_E M' m (fun k => nI k ≠ M'.1 46 18) p q w ↔ og_E M m (fun _ => True) p q w :=
  og_E_fr hf (fun k hk => ⟨fun _ => by rw [hA.2]; exact fun h => nI_pos (show k < 2 ^ 31 by omega) (by rw [h]; decide), fun _ => trivial⟩) p q w
theorem og_k13 {M : om_M} (h : om_Inv M) : om_ok13 om_Inv M := by
  have hI := h
  obtain ⟨n, m, L, hB, hT, hQ, hA⟩ := h
  have ⟨⟨h8, h20, e10, e11, e462, e466⟩, hp, ht, hBa⟩ := hB
  intro x0 x1
  show om_ok om_Inv _ _ M
  have cD := om_D_in_rg om_F x0 0 500 0 500 M rfl rfl
  have hbad : om_C_after om_F x0 x1 M = some (-2147483648, M) → om_D_after om_F x0 x1 M = some (-2147483648, M) → om_ok om_Inv (fun M => om_C_after om_F x0 x1 M) (fun M => om_D_after om_F x0 x1 M) M := fun h1 h2 => ⟨_, M, M, h1, h2, hI⟩
  have c1 := om_C_isPlace_eq om_F x1 M e10
  have c2 := om_D_isPlace_eq om_F x1 M h8 e462
  cases hpp : om_pp n x1 with
  | false => exact hbad (by simp [om_C_after, om_C_after_b0, om_C_after_b19, c1, hpp, om_bi]) (by
      cases hr : om_rg 0 500 x0 <;> simp [om_D_after, om_D_after_b0, om_D_after_b20, cD, c2, hpp, hr, om_bi])
  | true =>
  cases hr : om_rg 0 500 x0 with
  | false =>
    refine hbad ?_ (by simp [om_D_after, om_D_after_b0, om_D_after_b20, cD, hr, om_bi])
    simp only [om_rg, Bool.and_eq_false_iff, decide_eq_false_iff_not, Int32.not_le] at hr
    simp only [om_C_after, om_C_after_b0, om_C_after_b19, c1, hpp, om_bi, Option.bind_some, cond_true, show ¬ (1 : Int32) = 0 by decide, if_false]
    by_cases h1 : x0 < 0
    · rw [if_pos h1]
    · rw [if_neg h1, if_neg (by rw [Int32.not_le]; exact hr.resolve_left h1)]
  | true =>
  obtain ⟨k, hk, rfl⟩ := og_rg_of (b := 500) (by decide) hr
  obtain ⟨p, hp0, rfl⟩ := om_pp_of (by omega) hpp
  obtain ⟨M1, a1, a2, a3, a4, a5⟩ := og_both0 hB hA
  have hs1 := og_sc_pv a2
  have hRk : og_Rok n (og_E M m (fun _ => True)) := by
    have := og_Ws_ok hBa (fun _ => True) (-1)
    have e : og_Ws (-1) (og_E M m (fun _ => True)) = og_E M m (fun _ => True) := by
      funext p q w; unfold og_Ws; rw [if_pos rfl]
    rw [e] at this; exact this
  obtain ⟨r, M2, b1, b2, b3⟩ := og_sumAfter h8 a3 hRk (show k ≤ 9000 by omega) hp0
  rw [a4] at b3
  have hs2 := om_fr_tr hs1 (om_fr_mono b2 fun _ _ h => og_p17_sc h)
  have hA2 : om_Al M2 := og_Al_fr (og_Al_fr hA (fun j => a2.1 59 j rfl) (a2.1 46 18 rfl)) (fun j => b2.1 59 j rfl) (b2.1 46 18 rfl)
  have hB2 := om_Bd_fr hB hs2
  obtain ⟨M3, d1, d2, d3⟩ := og_layValues (M := M2) (pl := 0) (mi := og_mi (M.1 1 2) 0) (set := -1) (k := k) h8 h20 hB2.2.2.2 hB2.1.2.2.2.2.1 hB2.1.2.2.2.2.2 (fun p hpn => by rw [hs2.1 47 p rfl]; exact og_hmi0 hp p hpn) (by omega)
  have e : og_Ws (-1) (og_E M2 m (fun k => nI k ≠ M2.1 46 18)) = og_E M2 m (fun k => nI k ≠ M2.1 46 18) := by
    funext p q w; unfold og_Ws; rw [if_pos rfl]
  have hV : (M3.1 62 p).toInt = r.toInt := by
    rw [d3 p hp0, b3]
    exact og_V_congr (og_Ws_ok hB2.2.2.2 _ _) hRk (fun _ _ => rfl) (fun p q w _ _ => by rw [e]; exact og_Eall (n := n) h20 hs2 hA2 p q w) k p hp0
  have hr2 : M3.1 62 p = r := Int32.toInt_inj.mp hV
  have hin : om_in (nI p) 8 = true := om_in_nI (by omega) (by omega)
  have hcl : (nI p).toNatClampNeg = p := nI_clamp (by omega)
  have hk0 : ¬ nI k < 0 := nI_pos (by omega)
  have hk5 : nI k ≤ 500 := nI_le (b := 500) (by omega) (by omega)
  refine ⟨r, M2, M3, ?_, ?_, om_Inv_fr hB hT hQ (om_fr_tr hs2 (om_fr_mono d2 fun _ _ h => og_p62_sc h)) (og_Al_fr hA2 (fun j => d2.1 59 j rfl) (d2.1 46 18 rfl))⟩
  · show om_C_after om_F (nI k) (nI p) M = _
    simp only [om_C_after, om_C_after_b0, c1, hpp, om_bi, Option.bind_some, cond_true, show ¬ (1 : Int32) = 0 by decide, if_false, hk0, hk5, if_true, a1, b1]
  · show om_D_after om_F (nI k) (nI p) M2 = _
    have d1' : om_D_layValues om_F 0 (-1) (nI k) M2 = some M3 := d1
    simp only [om_D_after, om_D_after_b0, om_D_in_rg om_F (nI k) 0 500 0 500 M2 rfl rfl, om_D_isPlace_eq om_F (nI p) M2 h8 hB2.1.2.2.2.2.1, hr, hpp, om_bi, Option.bind_some, cond_true, show ¬ (1 : Int32) = 0 by decide, if_false, d1', hin, hcl, hr2]
