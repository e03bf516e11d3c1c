/-! ===== plans ===== -/
theorem og_disj {G : Nat → Nat → Prop} {mi : Nat → Bool} {num : Nat → Nat} {b b' : Nat} {W E O : Nat → Prop} (hE : og_win G mi num b W E) (hO : og_win G (fun p => !mi p) num b' W O) (hb : b ≠ b') (hG : ∀ p q, G p q → W q) : ∀ p, E p → O p → False := by
  obtain ⟨-, s, hs1, hs2, hs3⟩ := hE
  obtain ⟨-, t, ht1, ht2, ht3⟩ := hO
  intro p hp hp'
  let c : Nat → Nat := fun i => og_itr (fun p => if mi p = true then s p else t p) i p
  have hc0 : ∀ i, c (i + 1) = if mi (c i) = true then s (c i) else t (c i) := fun i => rfl
  have hin : ∀ i, E (c i) ∧ O (c i) := by
    intro i
    induction i with
    | zero => exact ⟨hp, hp'⟩
    | succ i ih =>
      rw [hc0]
      cases hm : mi (c i) with
      | true =>
        rw [if_pos rfl]
        have := hs1 _ ih.1 hm
        exact ⟨this.2, ht2 (c i) _ ih.2 (by simp [hm]) this.1 (hG _ _ this.1)⟩
      | false =>
        rw [if_neg (by decide)]
        have := ht1 _ ih.2 (by simp [hm])
        exact ⟨hs2 (c i) _ ih.1 hm this.1 (hG _ _ this.1), this.2⟩
  have hst : ∀ i, og_stp G mi s (c i) (c (i + 1)) ∧ og_stp G (fun p => !mi p) t (c i) (c (i + 1)) := by
    intro i
    rw [hc0]
    cases hm : mi (c i) with
    | true =>
      rw [if_pos rfl]
      have := hs1 _ (hin i).1 hm
      exact ⟨⟨this.1, fun _ => rfl⟩, ⟨this.1, fun h => by simp [hm] at h⟩⟩
    | false =>
      rw [if_neg (by decide)]
      have := ht1 _ (hin i).2 (by simp [hm])
      exact ⟨⟨this.1, fun h => by rw [hm] at h; cases h⟩, ⟨this.1, fun _ => rfl⟩⟩
  exact hb (og_lim_uniq (hs3 c (fun i => (hin i).1) (fun i => (hst i).1)) (ht3 c (fun i => (hin i).2) (fun i => (hst i).2)))
def og_Ual (M : om_M) (al : Nat → Int32) (k : Nat) : Prop := ∀ p, M.1 4 k = nI p → p < 8 → al p = -1 ∨ al p = nI k
noncomputable def og_Nal (M : om_M) (m n : Nat) (al : Nat → Int32) (p : Nat) : Int32 := og_mk (fun r => og_cb (∃ w, og_E M m (og_Ual M al) p r w)) n
theorem og_Nal_S {M : om_M} {m n : Nat} (h8 : n ≤ 8) {al : Nat → Int32} {p r : Nat} : og_S (og_Nal M m n al p) r ↔ (r < n ∧ ∃ w, og_E M m (og_Ual M al) p r w) := by
  unfold og_S og_Nal
  rw [og_b_mk _ (by omega), Bool.and_eq_true, decide_eq_true_eq, og_cb_iff]
theorem og_wn_Nal {M : om_M} {m n : Nat} (h8 : n ≤ 8) {al : Nat → Int32} {p : Nat} : og_wn n (og_Nal M m n al p) := og_wn_mk (by omega)
def og_reg (n pl : Nat) (E : Int32) : Int32 := if pl = 0 then E else og_ev n &&& (E ^^^ (-1))
def og_Gal (M : om_M) (m n : Nat) (al : Nat → Int32) (p r : Nat) : Prop := og_S (og_NN (og_Nal M m n al) n p) r
theorem og_Gal_iff {M : om_M} {m n : Nat} (h8 : n ≤ 8) {al : Nat → Int32} {p r : Nat} : og_Gal M m n al p r ↔ (p < n ∧ r < n ∧ ∃ w, og_E M m (og_Ual M al) p r w) := by
  unfold og_Gal og_NN
  by_cases hp : p < n
  · rw [if_pos hp, og_Nal_S h8]
    exact ⟨fun h => ⟨hp, h⟩, fun h => h.2⟩
  · rw [if_neg hp]
    exact ⟨fun h => absurd h (og_S0 r), fun h => absurd h.1 hp⟩
def og_Reg (M : om_M) (m n pl : Nat) (al : Nat → Int32) (R : Int32) : Prop := ∃ E, og_wn n E ∧ og_Z (og_Gal M m n al) (og_mi (M.1 1 2) 0) (og_num M) (fun p => p < n) (og_S E) ∧ R = og_reg n pl E
theorem og_Reg_two {M : om_M} {m n pl : Nat} (h8 : n ≤ 8) (hpl : pl < 2) {al : Nat → Int32} {R : Int32} (h : og_Reg M m n pl al R) : og_wn n R ∧ og_win (og_Gal M m n al) (og_mi (M.1 1 2) pl) (og_num M) pl (fun p => p < n) (og_S R) ∧ og_win (og_Gal M m n al) (fun p => !og_mi (M.1 1 2) pl p) (og_num M) (1 - pl) (fun p => p < n) (fun p => p < n ∧ ¬ og_S R p) := by
  obtain ⟨E, h1, ⟨-, h2, h3⟩, rfl⟩ := h
  have : pl = 0 ∨ pl = 1 := by omega
  rcases this with rfl | rfl
  · exact ⟨h1, h2, h3⟩
  · have e1 : og_mi (M.1 1 2) 1 = fun p => !og_mi (M.1 1 2) 0 p := funext fun p => og_mi_other _ (show 0 < 2 by omega) p
    have hR : ∀ p, og_S (og_reg n 1 E) p ↔ (p < n ∧ ¬ og_S E p) := fun p => by
      show og_S (og_ev n &&& (E ^^^ (-1))) p ↔ _
      rw [og_S_less]
      unfold og_S
      rw [og_b_ev h8]; simp
    refine ⟨og_wn_and (og_wn_ev h8), ?_, ?_⟩
    · rw [e1]
      exact og_win_congr (fun _ => Iff.rfl) (fun p => (hR p).symm) h3
    · have e2 : (fun p => !og_mi (M.1 1 2) 1 p) = og_mi (M.1 1 2) 0 := funext fun p => by rw [e1]; simp
      rw [e2]
      refine og_win_congr (fun _ => Iff.rfl) (fun p => ?_) h2
      rw [hR]
      constructor
      · intro h4; exact ⟨og_S_lt h1 h4, fun h5 => h5.2 h4⟩
      · rintro ⟨h4, h5⟩; exact Classical.byContradiction fun h6 => h5 ⟨h4, h6⟩
theorem og_Gal_V {M : om_M} {m n : Nat} (h8 : n ≤ 8) {al : Nat → Int32} : ∀ p q, og_Gal M m n al p q → q < n := fun _ _ h => ((og_Gal_iff h8).mp h).2.1
theorem og_Reg_uniq {M : om_M} {m n pl : Nat} (h8 : n ≤ 8) (hpl : pl < 2) {al : Nat → Int32} {R R' : Int32} (h : og_Reg M m n pl al R) (h' : og_Reg M m n pl al R') : R = R' := by
  obtain ⟨a1, a2, a3⟩ := og_Reg_two h8 hpl h
  obtain ⟨b1, b2, b3⟩ := og_Reg_two h8 hpl h'
  refine og_S_ext a1 b1 fun p hp => ⟨fun h1 => Classical.byContradiction fun h2 => ?_, fun h1 => Classical.byContradiction fun h2 => ?_⟩
  · exact og_disj a2 b3 (by omega) (og_Gal_V h8) p h1 ⟨hp, h2⟩
  · exact og_disj b2 a3 (by omega) (og_Gal_V h8) p h1 ⟨hp, h2⟩
/-- won places there are for any masks -/
theorem og_Z_ex {M : om_M} {n : Nat} (h8 : n ≤ 8) (hB : om_Bp M n) {N : Nat → Int32} (hN : ∀ p, p < n → og_wn n (N p)) (hne : ∀ p, p < n → ∃ q, og_S (N p) q) : ∃ E, og_wn n E ∧ og_Z (fun p => og_S (og_NN N n p)) (og_mi (M.1 1 2) 0) (og_num M) (fun p => p < n) (og_S E) := by
  let M' : om_M := (fun a j => if a = 11 then N j else if a = 7 then (if j = 0 then nI n else M.1 1 2) else M.1 a j, M.2)
  have hB' : om_Bp M' n := hB
  obtain ⟨E, -, h2, h3⟩ := og_evenTop (M := M') h8 rfl hB' hN hne
  exact ⟨E, h2, h3⟩
theorem og_Nal_ne {M : om_M} {m n : Nat} (h8 : n ≤ 8) (hB : om_Ba M n m) {al : Nat → Int32} : ∀ p, p < n → ∃ q, og_S (og_Nal M m n al p) q := fun p hp => by
  obtain ⟨q, w, hq, hE⟩ := og_E_ne hB (og_Ual M al) hp
  exact ⟨q, (og_Nal_S h8).mpr ⟨hq, w, hE⟩⟩
theorem og_Reg_ex {M : om_M} {m n : Nat} (h8 : n ≤ 8) (hB : om_Bp M n) (hBa : om_Ba M n m) (pl : Nat) (al : Nat → Int32) : ∃ R, og_Reg M m n pl al R := by
  obtain ⟨E, h1, h2⟩ := og_Z_ex h8 hB (N := og_Nal M m n al) (fun p _ => og_wn_Nal h8) (og_Nal_ne h8 hBa)
  exact ⟨_, E, h1, h2, rfl⟩
def og_seta (al : Nat → Int32) (q : Nat) (v : Int32) (p : Nat) : Int32 := if p = q then v else al p
section PE
variable {M : om_M} {m n : Nat} {al : Nat → Int32} {q k : Nat}
theorem og_E_off (hB : om_Ba M n m) (h8 : n ≤ 8) {p : Nat} (hp : p < n) (hq8 : q < n) (hpq : p ≠ q) (v : Int32) (r : Nat) (w : Int32) : og_E M m (og_Ual M (og_seta al q v)) p r w ↔ og_E M m (og_Ual M al) p r w := by
  have hU : ∀ j, M.1 4 j = nI p → (og_Ual M (og_seta al q v) j ↔ og_Ual M al j) := by
    intro j hj
    constructor
    · intro h p' h1 h2
      have h3 := h p' h1 h2
      have : p' = p := (nI_eq (by omega) (by omega)).mp (h1.symm.trans hj)
      unfold og_seta at h3
      rw [if_neg (by omega)] at h3
      exact h3
    · intro h p' h1 h2
      have h3 := h p' h1 h2
      have : p' = p := (nI_eq (by omega) (by omega)).mp (h1.symm.trans hj)
      unfold og_seta
      rw [if_neg (by omega)]
      exact h3
  unfold og_E og_E0
  constructor
  · rintro (⟨j, h1, h2, h3, h4⟩ | ⟨h1, h2⟩)
    · exact .inl ⟨j, h1, (hU j h3).mp h2, h3, h4⟩
    · exact .inr ⟨fun j hj hUj h3 => h1 j hj ((hU j h3).mpr hUj) h3, h2⟩
  · rintro (⟨j, h1, h2, h3, h4⟩ | ⟨h1, h2⟩)
    · exact .inl ⟨j, h1, (hU j h3).mpr h2, h3, h4⟩
    · exact .inr ⟨fun j hj hUj h3 => h1 j hj ((hU j h3).mp hUj) h3, h2⟩
theorem og_E_at (h20 : m ≤ 20) (h8 : n ≤ 8) (hq8 : q < n) (hk : k < m) (ht : M.1 4 k = nI q) (r : Nat) (w : Int32) : og_E M m (og_Ual M (og_seta al q (nI k))) q r w ↔ (M.1 5 k = nI r ∧ M.1 6 k = w) := by
  have hUk : og_Ual M (og_seta al q (nI k)) k := by
    intro p' h1 h2
    have : p' = q := (nI_eq (by omega) (by omega)).mp (h1.symm.trans ht)
    unfold og_seta
    rw [if_pos this]; exact .inr rfl
  have hU : ∀ j, j < m → M.1 4 j = nI q → og_Ual M (og_seta al q (nI k)) j → j = k := by
    intro j hj h1 h2
    have h3 := h2 q h1 (by omega)
    unfold og_seta at h3
    rw [if_pos rfl] at h3
    rcases h3 with h3 | h3
    · exact absurd (by rw [h3]; decide) (nI_pos (show k < 2 ^ 31 by omega))
    · exact ((nI_eq (by omega) (by omega)).mp h3).symm
  constructor
  · rintro (⟨j, h1, h2, h3, h4, h5⟩ | ⟨h1, -⟩)
    · have := hU j h1 h3 h2
      subst this
      exact ⟨h4, h5⟩
    · exact absurd ht (h1 k hk hUk)
  · rintro ⟨h1, h2⟩
    exact .inl ⟨k, hk, hUk, ht, h1, h2⟩
/-- by one of its arrows all that is won stays so -/
theorem og_plan_ex (hB : om_Ba M n m) (h20 : m ≤ 20) (h8 : n ≤ 8) {pl : Nat} (hpl : pl < 2) {R : Int32} (hR : og_Reg M m n pl al R) (hq8 : q < n) (hqR : og_S R q) (hm : og_mi (M.1 1 2) pl q = true) (hal : al q = -1) (hex : ∃ k, k < m ∧ M.1 4 k = nI q) : ∃ k, k < m ∧ M.1 4 k = nI q ∧ ∀ R', og_Reg M m n pl (og_seta al q (nI k)) R' → ∀ p, og_S R p → og_S R' p := by
  obtain ⟨a1, a2, a3⟩ := og_Reg_two h8 hpl hR
  obtain ⟨a0, s, hs1, hs2, hs3⟩ := a2
  obtain ⟨g1, g2⟩ := hs1 q hqR hm
  obtain ⟨-, hsn, w, hE⟩ := (og_Gal_iff h8).mp g1
  obtain ⟨k, hk, hkt, hkh, hkw⟩ : ∃ k, k < m ∧ M.1 4 k = nI q ∧ M.1 5 k = nI (s q) ∧ M.1 6 k = w := by
    rcases hE with ⟨j, h1, -, h3, h4, h5⟩ | ⟨h1, -⟩
    · exact ⟨j, h1, h3, h4, h5⟩
    · obtain ⟨j, hj, hjt⟩ := hex
      refine absurd hjt (h1 j hj fun p' h2 h3 => ?_)
      have : p' = q := (nI_eq (by omega) (by omega)).mp (h2.symm.trans hjt)
      subst this
      exact .inl hal
  refine ⟨k, hk, hkt, fun R' hR' p hp => Classical.byContradiction fun hnp => ?_⟩
  obtain ⟨b1, b2, b3⟩ := og_Reg_two h8 hpl hR'
  have hsub : ∀ p r, og_Gal M m n (og_seta al q (nI k)) p r → og_Gal M m n al p r := by
    intro p r h
    obtain ⟨h1, h2, w', h3⟩ := (og_Gal_iff h8).mp h
    by_cases hpq : p = q
    · subst hpq
      obtain ⟨h4, h5⟩ := (og_E_at h20 h8 hq8 hk hkt r w').mp h3
      have hr : r = s p := (nI_eq (by omega) (by omega)).mp (h4.symm.trans hkh)
      rw [hr]; exact g1
    · exact (og_Gal_iff h8).mpr ⟨h1, h2, w', (og_E_off hB h8 h1 hq8 hpq _ r w').mp h3⟩
  have hwin : og_win (og_Gal M m n (og_seta al q (nI k))) (og_mi (M.1 1 2) pl) (og_num M) pl (fun p => p < n) (og_S R) := by
    refine ⟨a0, s, fun p hp hm => ⟨?_, (hs1 p hp hm).2⟩, fun p r hp hm hg hr => hs2 p r hp hm (hsub p r hg) hr, fun c hc hst => hs3 c hc fun i => ⟨hsub _ _ (hst i).1, (hst i).2⟩⟩
    obtain ⟨h1, h2, w', h3⟩ := (og_Gal_iff h8).mp (hs1 p hp hm).1
    by_cases hpq : p = q
    · subst hpq
      exact (og_Gal_iff h8).mpr ⟨h1, h2, w, (og_E_at h20 h8 hq8 hk hkt _ w).mpr ⟨hkh, hkw⟩⟩
    · exact (og_Gal_iff h8).mpr ⟨h1, h2, w', (og_E_off hB h8 h1 hq8 hpq _ _ w').mpr h3⟩
  exact og_disj hwin b3 (by omega) (og_Gal_V h8) p hp ⟨a0 p hp, hnp⟩
end PE
/-- a step of the plan: what is chosen at a place -/
def og_T (M : om_M) (m n pl : Nat) (D : Int32) (al : Nat → Int32) (q k : Nat) : Prop := ∀ R, og_Reg M m n pl (og_seta al q (nI k)) R → D &&& (R ^^^ (-1)) = 0
def og_cond (M : om_M) (m pl : Nat) (D : Int32) (q : Nat) : Prop := og_mi (M.1 1 2) pl q = true ∧ og_S D q ∧ ∃ k, k < m ∧ M.1 4 k = nI q
def og_St (M : om_M) (m n pl : Nat) (D : Int32) (q : Nat) (al al' : Nat → Int32) : Prop := (og_cond M m pl D q ∧ ∃ k, k < m ∧ M.1 4 k = nI q ∧ og_T M m n pl D al q k ∧ (∀ j, j < k → M.1 4 j = nI q → ¬ og_T M m n pl D al q j) ∧ al' = og_seta al q (nI k)) ∨ (¬ og_cond M m pl D q ∧ al' = al)
def og_Rch (M : om_M) (m n pl : Nat) (D : Int32) : Nat → (Nat → Int32) → Prop
  | 0, al => al = fun _ => -1
  | q + 1, al' => ∃ al, og_Rch M m n pl D q al ∧ og_St M m n pl D q al al'
theorem og_Rch_uniq {M : om_M} {m n pl : Nat} {D : Int32} : ∀ {q : Nat} {al al' : Nat → Int32}, og_Rch M m n pl D q al → og_Rch M m n pl D q al' → al = al'
  | 0, al, al', h, h' => h.trans h'.symm
  | q + 1, al, al', ⟨b, h1, h2⟩, ⟨b', h1', h2'⟩ => by
    have := og_Rch_uniq h1 h1'
    subst this
    rcases h2 with ⟨hc, k, k1, k2, k3, k4, k5⟩ | ⟨hc, h⟩
    · rcases h2' with ⟨hc', k', k1', k2', k3', k4', k5'⟩ | ⟨hc', h'⟩
      · have : k = k' := by
          rcases Nat.lt_trichotomy k k' with h | h | h
          · exact absurd k3 (k4' k h k2)
          · exact h
          · exact absurd k3' (k4 k' h k2')
        rw [k5, k5', this]
      · exact absurd hc hc'
    · rcases h2' with ⟨hc', -⟩ | ⟨hc', h'⟩
      · exact absurd hc' hc
      · rw [h, h']
theorem og_Rch_off {M : om_M} {m n pl : Nat} {D : Int32} : ∀ {q : Nat} {al : Nat → Int32}, og_Rch M m n pl D q al → ∀ p, q ≤ p → al p = -1
  | 0, al, h, p, _ => by rw [h]
  | q + 1, al, ⟨b, h1, h2⟩, p, hp => by
    have := og_Rch_off h1 p (by omega)
    rcases h2 with ⟨-, k, -, -, -, -, h⟩ | ⟨-, h⟩
    · rw [h]; unfold og_seta; rw [if_neg (by omega)]; exact this
    · rw [h]; exact this
theorem og_less0 {D R : Int32} : D &&& (R ^^^ (-1)) = 0 ↔ ∀ p, og_S D p → og_S R p := by
  rw [om_eq0]
  constructor
  · intro h p hp
    refine Classical.byContradiction fun hn => ?_
    have h1 : og_S (D &&& (R ^^^ (-1))) p := og_S_less.mpr ⟨hp, hn⟩
    have h32 : p < 32 := by
      rcases Nat.lt_or_ge p 32 with h | h
      · exact h
      · unfold og_S at hp; rw [om_b_ge _ h] at hp; cases hp
    unfold og_S at h1
    rw [h p h32] at h1; cases h1
  · intro h i _
    cases hb : om_b (D &&& (R ^^^ (-1))) i with
    | false => rfl
    | true => exact absurd (h i (og_S_less.mp hb).1) (og_S_less.mp hb).2
/-- the plan goes on, and all that was won stays so -/
theorem og_St_ex {M : om_M} {m n pl : Nat} (hB : om_Ba M n m) (hBp : om_Bp M n) (h20 : m ≤ 20) (h8 : n ≤ 8) (hpl : pl < 2) {D : Int32} {q : Nat} (hq : q < n) {al : Nat → Int32} (hal : al q = -1) (hgood : ∀ R, og_Reg M m n pl al R → D &&& (R ^^^ (-1)) = 0) : ∃ al', og_St M m n pl D q al al' ∧ ∀ R, og_Reg M m n pl al' R → D &&& (R ^^^ (-1)) = 0 := by
  by_cases hc : og_cond M m pl D q
  · obtain ⟨R, hR⟩ := og_Reg_ex h8 hBp hB pl al
    have hDR := og_less0.mp (hgood R hR)
    obtain ⟨k, hk, hkt, hkR⟩ := og_plan_ex hB h20 h8 hpl hR hq (hDR q hc.2.1) hc.1 hal hc.2.2
    have hT : og_T M m n pl D al q k := fun R' hR' => og_less0.mpr fun p hp => hkR R' hR' p (hDR p hp)
    -- the least such arrow
    have least : ∀ j, (∃ i, i < j ∧ i < m ∧ M.1 4 i = nI q ∧ og_T M m n pl D al q i) → ∃ i, i < m ∧ M.1 4 i = nI q ∧ og_T M m n pl D al q i ∧ ∀ t, t < i → M.1 4 t = nI q → ¬ og_T M m n pl D al q t := by
      intro j
      induction j with
      | zero => rintro ⟨i, hi, _⟩; omega
      | succ j ih =>
        rintro ⟨i, hi, h1, h2, h3⟩
        by_cases hex : ∃ i, i < j ∧ i < m ∧ M.1 4 i = nI q ∧ og_T M m n pl D al q i
        · exact ih hex
        · exact ⟨i, h1, h2, h3, fun t ht ht2 ht3 => hex ⟨t, by omega, by omega, ht2, ht3⟩⟩
    obtain ⟨i, h1, h2, h3, h4⟩ := least (k + 1) ⟨k, by omega, hk, hkt, hT⟩
    exact ⟨_, .inl ⟨hc, i, h1, h2, h3, h4, rfl⟩, h3⟩
  · exact ⟨al, .inr ⟨hc, rfl⟩, hgood⟩
