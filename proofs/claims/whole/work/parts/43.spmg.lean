theorem og_lim_uniq {num : Nat → Nat} {b b' : Nat} {c : Nat → Nat} (h : og_lim num b c) (h' : og_lim num b' c) : b = b' := by
  obtain ⟨v, K, h1, h2, h3⟩ := h
  obtain ⟨v', K', h1', h2', h3'⟩ := h'
  obtain ⟨j, hj, ej⟩ := h3 (K + K')
  obtain ⟨j', hj', ej'⟩ := h3' (K + K')
  have a1 := h2' j (by omega)
  have a2 := h2 j' (by omega)
  have : v = v' := by omega
  rw [← h1, ← h1', this]
theorem og_lim_ex {num : Nat → Nat} {c : Nat → Nat} (h8 : ∀ i, num (c i) < 8) : ∃ v K, (∀ i, K ≤ i → v ≤ num (c i)) ∧ ∀ i, ∃ j, i ≤ j ∧ num (c j) = v := by
  have key : ∀ k t K, t + k = 8 → (∀ i, K ≤ i → t ≤ num (c i)) → ∃ v K, (∀ i, K ≤ i → v ≤ num (c i)) ∧ ∀ i, ∃ j, i ≤ j ∧ num (c j) = v := by
    intro k
    induction k with
    | zero => intro t K ht hK; have := hK K (Nat.le_refl K); have := h8 K; omega
    | succ k ih =>
      intro t K ht hK
      by_cases hinf : ∀ i, ∃ j, i ≤ j ∧ num (c j) = t
      · exact ⟨t, K, hK, hinf⟩
      · obtain ⟨i0, hi0⟩ := Classical.not_forall.mp hinf
        refine ih (t + 1) (K + i0) (by omega) fun i hi => ?_
        have h1 := hK i (by omega)
        have h2 : num (c i) ≠ t := fun h => hi0 ⟨i, by omega, h⟩
        omega
  exact key 8 0 0 (by omega) (fun i _ => Nat.zero_le _)
/-- finite measures that move down: the play is even -/
theorem og_fin_even {mo : Nat → Nat} (h8 : og_m8 mo) {num : Nat → Nat} {c : Nat → Nat} {m : Nat → Nat} (hn : ∀ i, num (c i) < 8) (hv : ∀ i, og_val mo (m i)) (hd : ∀ i, og_nd mo (num (c i)) (m (i + 1)) ≤ m i) : og_lim num 0 c := by
  obtain ⟨v, K, h1, h2⟩ := og_lim_ex hn
  rcases Nat.mod_two_eq_zero_or_one v with hp | hp
  · exact ⟨v, K, hp, h1, h2⟩
  · exfalso
    obtain ⟨j0, -, hj0⟩ := h2 0
    have hv8 : v < 8 := by rw [← hj0]; exact hn j0
    have hnt : ∀ i, og_nd mo (num (c i)) (m (i + 1)) ≠ 100000 := fun i h => by
      have := hd i; have := og_val_lt h8 (hv i); omega
    have step : ∀ i, K ≤ i → m (i + 1) / og_u (v / 2) ≤ m i / og_u (v / 2) ∧ (num (c i) = v → m (i + 1) / og_u (v / 2) < m i / og_u (v / 2)) := by
      intro i hi
      have a := og_nd_dig h8 (k := v / 2) (hv (i + 1)) (by omega) (hn i) (by have := h1 i hi; omega) (hnt i)
      have b : og_nd mo (num (c i)) (m (i + 1)) / og_u (v / 2) ≤ m i / og_u (v / 2) := Nat.div_le_div_right (hd i)
      exact ⟨Nat.le_trans a.1 b, fun h => Nat.lt_of_lt_of_le (a.2 (by omega)) b⟩
    have mono : ∀ k i, K ≤ i → m (i + k) / og_u (v / 2) ≤ m i / og_u (v / 2) := by
      intro k
      induction k with
      | zero => intro i _; exact Nat.le_refl _
      | succ k ih => intro i hi; exact Nat.le_trans (step (i + k) (by omega)).1 (ih i hi)
    have fall : ∀ x i, K ≤ i → m i / og_u (v / 2) < x → False := by
      intro x
      induction x with
      | zero => intro i _ h; exact absurd h (Nat.not_lt_zero _)
      | succ x ih =>
        intro i hi hx
        obtain ⟨j, hj, he⟩ := h2 i
        have a := mono (j - i) i hi
        rw [show i + (j - i) = j by omega] at a
        have b := (step j (by omega)).2 he
        exact ih (j + 1) (by omega) (by omega)
    exact fall _ K (Nat.le_refl K) (Nat.lt_succ_self _)
/-- digits of a path -/
def og_dg (num : Nat → Nat) (i : Nat) (π : Nat → Nat) : Nat → Nat → Nat
  | 0, _ => 0
  | L + 1, j => if num (π j) < 2 * i + 1 then 0 else if num (π j) = 2 * i + 1 then og_dg num i π L (j + 1) + 1 else og_dg num i π L (j + 1)
noncomputable def og_cb (P : Prop) : Bool := @decide P (Classical.propDecidable P)
theorem og_cb_iff {P : Prop} : og_cb P = true ↔ P := by
  unfold og_cb
  exact @decide_eq_true_iff P (Classical.propDecidable P)
theorem og_dg_le {num : Nat → Nat} {i n T : Nat} {π : Nat → Nat} (hn : ∀ k, π k < n) (hno : ∀ a b, a < b → b < T → π a = π b → num (π a) = 2 * i + 1 → (∀ l, a ≤ l → l < b → 2 * i + 1 ≤ num (π l)) → False) : ∀ L j, j + L ≤ T → og_dg num i π L j ≤ og_cnt (fun p => og_cb (∃ k, k < L ∧ π (j + k) = p ∧ num p = 2 * i + 1 ∧ ∀ l, l ≤ k → 2 * i + 1 ≤ num (π (j + l)))) n
  | 0, _, _ => Nat.zero_le _
  | L + 1, j, hT => by
    have ih := og_dg_le hn hno L (j + 1) (by omega)
    show (if num (π j) < 2 * i + 1 then 0 else if num (π j) = 2 * i + 1 then og_dg num i π L (j + 1) + 1 else og_dg num i π L (j + 1)) ≤ _
    by_cases h1 : num (π j) < 2 * i + 1
    · rw [if_pos h1]; exact Nat.zero_le _
    · rw [if_neg h1]
      have hsub : ∀ p, p < n → og_cb (∃ k, k < L ∧ π (j + 1 + k) = p ∧ num p = 2 * i + 1 ∧ ∀ l, l ≤ k → 2 * i + 1 ≤ num (π (j + 1 + l))) = true → og_cb (∃ k, k < L + 1 ∧ π (j + k) = p ∧ num p = 2 * i + 1 ∧ ∀ l, l ≤ k → 2 * i + 1 ≤ num (π (j + l))) = true := by
        intro p _ hp
        obtain ⟨k, g1, g2, g3, g4⟩ := og_cb_iff.mp hp
        refine og_cb_iff.mpr ⟨k + 1, by omega, by rw [← g2]; congr 1; omega, g3, fun l hl => ?_⟩
        by_cases hl0 : l = 0
        · subst hl0; show 2 * i + 1 ≤ num (π j); omega
        · have := g4 (l - 1) (by omega)
          rw [show j + 1 + (l - 1) = j + l by omega] at this
          exact this
      by_cases h2 : num (π j) = 2 * i + 1
      · rw [if_pos h2]
        have hlt : og_cnt (fun p => og_cb (∃ k, k < L ∧ π (j + 1 + k) = p ∧ num p = 2 * i + 1 ∧ ∀ l, l ≤ k → 2 * i + 1 ≤ num (π (j + 1 + l)))) n < og_cnt (fun p => og_cb (∃ k, k < L + 1 ∧ π (j + k) = p ∧ num p = 2 * i + 1 ∧ ∀ l, l ≤ k → 2 * i + 1 ≤ num (π (j + l)))) n := by
          refine og_cnt_lt hsub ⟨π j, hn j, fun he => ?_⟩
          have hin : og_cb (∃ k, k < L + 1 ∧ π (j + k) = π j ∧ num (π j) = 2 * i + 1 ∧ ∀ l, l ≤ k → 2 * i + 1 ≤ num (π (j + l))) = true :=
            og_cb_iff.mpr ⟨0, by omega, rfl, h2, fun l hl => by rw [show l = 0 by omega]; show 2 * i + 1 ≤ num (π j); omega⟩
          have hin2 : og_cb (∃ k, k < L ∧ π (j + 1 + k) = π j ∧ num (π j) = 2 * i + 1 ∧ ∀ l, l ≤ k → 2 * i + 1 ≤ num (π (j + 1 + l))) = true := by
            have he' : og_cb (∃ k, k < L ∧ π (j + 1 + k) = π j ∧ num (π j) = 2 * i + 1 ∧ ∀ l, l ≤ k → 2 * i + 1 ≤ num (π (j + 1 + l))) = og_cb (∃ k, k < L + 1 ∧ π (j + k) = π j ∧ num (π j) = 2 * i + 1 ∧ ∀ l, l ≤ k → 2 * i + 1 ≤ num (π (j + l))) := he
            rw [he']; exact hin
          obtain ⟨k, g1, g2, g3, g4⟩ := og_cb_iff.mp hin2
          refine hno j (j + 1 + k) (by omega) (by omega) g2.symm h2 fun l hl1 hl2 => ?_
          by_cases hl0 : l = j
          · subst hl0; omega
          · have := g4 (l - j - 1) (by omega)
            rw [show j + 1 + (l - j - 1) = l by omega] at this
            exact this
        omega
      · rw [if_neg h2]
        refine Nat.le_trans ih ?_
        by_cases hex : ∃ p, p < n ∧ og_cb (∃ k, k < L ∧ π (j + 1 + k) = p ∧ num p = 2 * i + 1 ∧ ∀ l, l ≤ k → 2 * i + 1 ≤ num (π (j + 1 + l))) ≠ og_cb (∃ k, k < L + 1 ∧ π (j + k) = p ∧ num p = 2 * i + 1 ∧ ∀ l, l ≤ k → 2 * i + 1 ≤ num (π (j + l)))
        · exact Nat.le_of_lt (og_cnt_lt hsub hex)
        · refine Nat.le_of_eq (og_cnt_ext fun p hp => Classical.byContradiction fun h => hex ⟨p, hp, h⟩)
theorem og_cnt_mono {f g : Nat → Bool} {n : Nat} (h : ∀ i, i < n → f i = true → g i = true) : og_cnt f n ≤ og_cnt g n := by
  by_cases hex : ∃ p, p < n ∧ f p ≠ g p
  · exact Nat.le_of_lt (og_cnt_lt h hex)
  · exact Nat.le_of_eq (og_cnt_ext fun p hp => Classical.byContradiction fun h => hex ⟨p, hp, h⟩)
def og_mo (num : Nat → Nat) (n i : Nat) : Nat := og_cnt (fun p => decide (num p = 2 * i + 1)) n
theorem og_mo8 (num : Nat → Nat) {n : Nat} (h8 : n ≤ 8) : og_m8 (og_mo num n) :=
  ⟨Nat.le_trans (og_cnt_le _ n) h8, Nat.le_trans (og_cnt_le _ n) h8, Nat.le_trans (og_cnt_le _ n) h8, Nat.le_trans (og_cnt_le _ n) h8⟩
section SG
variable {G : Nat → Nat → Prop} {mi : Nat → Bool} {num : Nat → Nat} {n : Nat} {E : Nat → Prop} {s : Nat → Nat}
/-- a path within E by the plan s -/
def og_pa (G : Nat → Nat → Prop) (mi : Nat → Bool) (s : Nat → Nat) (E : Nat → Prop) (L : Nat) (π : Nat → Nat) : Prop := (∀ k, E (π k)) ∧ ∀ k, k < L → og_stp G mi s (π k) (π (k + 1))
theorem og_pa_cyc (hE : ∀ c : Nat → Nat, (∀ i, E (c i)) → (∀ i, og_stp G mi s (c i) (c (i + 1))) → og_lim num 0 c) {L : Nat} {π : Nat → Nat} (hπ : og_pa G mi s E L π) {i a b : Nat} (hab : a < b) (hb : b ≤ L) (he : π a = π b) (hn : num (π a) = 2 * i + 1) (hle : ∀ l, a ≤ l → l < b → 2 * i + 1 ≤ num (π l)) : False := by
  have h1 : og_lim num 0 (fun t => π (a + t % (b - a))) := by
    refine hE _ (fun t => hπ.1 _) fun t => ?_
    have hr : t % (b - a) < b - a := Nat.mod_lt _ (by omega)
    show og_stp G mi s (π (a + t % (b - a))) (π (a + (t + 1) % (b - a)))
    by_cases hlast : t % (b - a) + 1 = b - a
    · have e : (t + 1) % (b - a) = 0 := by
        rw [Nat.add_mod]
        by_cases h1 : b - a = 1
        · rw [h1]; omega
        · rw [Nat.mod_eq_of_lt (show 1 < b - a by omega), hlast, Nat.mod_self]
      rw [e, Nat.add_zero, he]
      have := hπ.2 (a + t % (b - a)) (by omega)
      rw [show a + t % (b - a) + 1 = b by omega] at this
      exact this
    · have e : (t + 1) % (b - a) = t % (b - a) + 1 := by
        rw [Nat.add_mod, Nat.mod_eq_of_lt (show 1 < b - a by omega), Nat.mod_eq_of_lt (by omega)]
      rw [e]
      exact hπ.2 (a + t % (b - a)) (by omega)
  have h2 : og_lim num 1 (fun t => π (a + t % (b - a))) := by
    refine ⟨2 * i + 1, 0, by omega, fun t _ => ?_, fun t => ⟨(b - a) * t, ?_, ?_⟩⟩
    · have hr : t % (b - a) < b - a := Nat.mod_lt _ (by omega)
      exact hle _ (by omega) (by omega)
    · exact Nat.le_mul_of_pos_left t (by omega)
    · show num (π (a + (b - a) * t % (b - a))) = _
      rw [Nat.mul_mod_right, Nat.add_zero]; exact hn
  have := og_lim_uniq h1 h2
  omega
def og_enc (num : Nat → Nat) (π : Nat → Nat) (L : Nat) : Nat := 729 * og_dg num 0 π L 0 + 81 * og_dg num 1 π L 0 + 9 * og_dg num 2 π L 0 + og_dg num 3 π L 0
theorem og_pa_dg (hEn : ∀ p, E p → p < n) (hE : ∀ c : Nat → Nat, (∀ i, E (c i)) → (∀ i, og_stp G mi s (c i) (c (i + 1))) → og_lim num 0 c) {L : Nat} {π : Nat → Nat} (hπ : og_pa G mi s E L π) (i : Nat) : og_dg num i π L 0 ≤ og_mo num n i := by
  refine Nat.le_trans (og_dg_le (n := n) (T := L) (fun k => hEn _ (hπ.1 k)) (fun a b hab hb he hn hle => og_pa_cyc hE hπ hab (by omega) he hn hle) L 0 (by omega)) (og_cnt_mono fun p _ h => ?_)
  obtain ⟨k, -, -, h2, -⟩ := og_cb_iff.mp h
  exact decide_eq_true h2
theorem og_pa_val (hEn : ∀ p, E p → p < n) (hE : ∀ c : Nat → Nat, (∀ i, E (c i)) → (∀ i, og_stp G mi s (c i) (c (i + 1))) → og_lim num 0 c) {L : Nat} {π : Nat → Nat} (hπ : og_pa G mi s E L π) : og_val (og_mo num n) (og_enc num π L) :=
  ⟨_, _, _, _, og_pa_dg hEn hE hπ 0, og_pa_dg hEn hE hπ 1, og_pa_dg hEn hE hπ 2, og_pa_dg hEn hE hπ 3, rfl⟩
def og_cons (p : Nat) (π : Nat → Nat) (k : Nat) : Nat := if k = 0 then p else π (k - 1)
theorem og_dg_cons {p : Nat} {π : Nat → Nat} {i : Nat} : ∀ L j, og_dg num i (og_cons p π) L (j + 1) = og_dg num i π L j
  | 0, _ => rfl
  | L + 1, j => by
    show (if num (og_cons p π (j + 1)) < 2 * i + 1 then 0 else if num (og_cons p π (j + 1)) = 2 * i + 1 then og_dg num i (og_cons p π) L (j + 1 + 1) + 1 else og_dg num i (og_cons p π) L (j + 1 + 1)) = _
    rw [og_dg_cons L (j + 1)]
    rfl
/-- the invariant: a measure is at most what some path by the plan needs -/
def og_up (G : Nat → Nat → Prop) (mi : Nat → Bool) (num : Nat → Nat) (s : Nat → Nat) (E : Nat → Prop) (μ : Nat → Nat) : Prop := ∀ p, E p → ∃ L π, π 0 = p ∧ og_pa G mi s E L π ∧ μ p ≤ og_enc num π L
theorem og_up_lift (h8 : n ≤ 8) (hn8 : ∀ p, p < n → num p < 8) (hEn : ∀ p, E p → p < n) (hE : ∀ c : Nat → Nat, (∀ i, E (c i)) → (∀ i, og_stp G mi s (c i) (c (i + 1))) → og_lim num 0 c) {μ : Nat → Nat} (hv : ∀ p, p < n → og_vt (og_mo num n) (μ p)) (hup : og_up G mi num s E μ) {p q v : Nat} (hp : E p) (hq : E q) (hst : og_stp G mi s p q) (hle : v ≤ og_nd (og_mo num n) (num p) (μ q)) : ∃ L π, π 0 = p ∧ og_pa G mi s E L π ∧ v ≤ og_enc num π L := by
  obtain ⟨L, π, h0, hπ, hm⟩ := hup q hq
  have hπ' : og_pa G mi s E (L + 1) (og_cons p π) := by
    refine ⟨fun k => ?_, fun k hk => ?_⟩
    · unfold og_cons
      split
      · exact hp
      · exact hπ.1 _
    · by_cases hk0 : k = 0
      · subst hk0
        show og_stp G mi s p (π 0)
        rw [h0]; exact hst
      · have := hπ.2 (k - 1) (by omega)
        rw [show k - 1 + 1 = k by omega] at this
        unfold og_cons
        rw [if_neg hk0, if_neg (by omega), show k + 1 - 1 = k by omega]
        exact this
  refine ⟨L + 1, og_cons p π, rfl, hπ', Nat.le_trans hle ?_⟩
  have hmo := og_mo8 num h8
  refine Nat.le_trans (og_nd_mono hmo (hv q (hEn q hq)) (.inr (og_pa_val hEn hE hπ)) hm (hn8 p (hEn p hp))) ?_
  refine og_nd_enc hmo (hn8 p (hEn p hp)) (D := fun i => og_dg num i π L 0) (D' := fun i => og_dg num i (og_cons p π) (L + 1) 0) (fun i _ => og_pa_dg hEn hE hπ i) (fun i _ => og_pa_dg hEn hE hπ' i) (fun i _ => ?_)
  show (if num (og_cons p π 0) < 2 * i + 1 then 0 else if num (og_cons p π 0) = 2 * i + 1 then og_dg num i (og_cons p π) L (0 + 1) + 1 else og_dg num i (og_cons p π) L (0 + 1)) = _
  rw [og_dg_cons L 0]
  rfl
/-- both ways of finding what is won are one -/
theorem og_spm (h8 : n ≤ 8) (hn8 : ∀ p, p < n → num p < 8) (hG : ∀ p q, G p q → q < n) (hZ : og_Z G mi num (fun p => p < n) E) {μ : Nat → Nat} (hv : ∀ p, p < n → og_vt (og_mo num n) (μ p)) (hfix : ∀ p, p < n → (mi p = true ∧ ∃ q, G p q ∧ og_nd (og_mo num n) (num p) (μ q) ≤ μ p) ∨ (mi p = false ∧ ∀ q, G p q → og_nd (og_mo num n) (num p) (μ q) ≤ μ p)) (hup : ∀ p, E p → μ p ≠ 100000) : ∀ p, p < n → (E p ↔ μ p ≠ 100000) := by
  intro p hp
  refine ⟨hup p, fun hmp => Classical.byContradiction fun hnE => ?_⟩
  obtain ⟨-, -, hO0, so, hO1, hO2, hO3⟩ := hZ
  have hmo := og_mo8 num h8
  -- ONE's plan where the measure is finite
  have hex : ∀ p, ∃ q, p < n → mi p = true → (G p q ∧ og_nd (og_mo num n) (num p) (μ q) ≤ μ p) := by
    intro p
    by_cases h1 : p < n ∧ mi p = true
    · rcases hfix p h1.1 with ⟨-, q, h2⟩ | ⟨h2, -⟩
      · exact ⟨q, fun _ _ => h2⟩
      · rw [h1.2] at h2; cases h2
    · exact ⟨0, fun h2 h3 => absurd ⟨h2, h3⟩ h1⟩
  obtain ⟨s, hs⟩ := Classical.skolem.mp hex
  let c : Nat → Nat := fun i => og_itr (fun p => if mi p = true then s p else so p) i p
  have hc0 : ∀ i, c (i + 1) = if mi (c i) = true then s (c i) else so (c i) := fun i => rfl
  have hfin : ∀ a b, a < n → b < n → og_nd (og_mo num n) (num a) (μ b) ≤ μ a → μ a ≠ 100000 → μ b ≠ 100000 := by
    intro a b ha hb hle h1 h2
    rw [h2] at hle
    have e : og_nd (og_mo num n) (num a) 100000 = 100000 := by unfold og_nd; rw [if_pos rfl]
    rw [e] at hle
    have := og_vt_le hmo (hv a ha)
    omega
  have hnd : ∀ i, (c i < n ∧ ¬ E (c i)) ∧ μ (c i) ≠ 100000 := by
    intro i
    induction i with
    | zero => exact ⟨⟨hp, hnE⟩, hmp⟩
    | succ i ih =>
      obtain ⟨⟨h1, h2⟩, h3⟩ := ih
      rw [hc0]
      cases hm : mi (c i) with
      | true =>
        rw [if_pos rfl]
        obtain ⟨g1, g2⟩ := hs _ h1 hm
        exact ⟨hO2 (c i) _ ⟨h1, h2⟩ (by simp [hm]) g1 (hG _ _ g1), hfin _ _ h1 (hG _ _ g1) g2 h3⟩
      | false =>
        rw [if_neg (by decide)]
        have g := hO1 (c i) ⟨h1, h2⟩ (by simp [hm])
        rcases hfix _ h1 with ⟨hm', -⟩ | ⟨-, hf⟩
        · rw [hm] at hm'; cases hm'
        · exact ⟨g.2, hfin _ _ h1 (hG _ _ g.1) (hf _ g.1) h3⟩
  have hle : ∀ i, og_nd (og_mo num n) (num (c i)) (μ (c (i + 1))) ≤ μ (c i) := by
    intro i
    rw [hc0]
    have h1 := (hnd i).1.1
    cases hm : mi (c i) with
    | true =>
      rw [if_pos rfl]
      exact (hs _ h1 hm).2
    | false =>
      rw [if_neg (by decide)]
      rcases hfix _ h1 with ⟨hm', -⟩ | ⟨-, hf⟩
      · rw [hm] at hm'; cases hm'
      · exact hf _ (hO1 (c i) (hnd i).1 (by simp [hm])).1
  have he : og_lim num 0 c := og_fin_even hmo (m := fun i => μ (c i)) (fun i => hn8 _ (hnd i).1.1) (fun i => (hv _ (hnd i).1.1).resolve_left (hnd i).2) hle
  have ho : og_lim num 1 c := by
    refine hO3 c (fun i => (hnd i).1) fun i => ?_
    have h1 := (hnd i).1
    rw [hc0]
    cases hm : mi (c i) with
    | true =>
      rw [if_pos rfl]
      exact ⟨(hs _ h1.1 hm).1, fun h => by simp [hm] at h⟩
    | false =>
      rw [if_neg (by decide)]
      exact ⟨(hO1 (c i) h1 (by simp [hm])).1, fun _ => rfl⟩
  have := og_lim_uniq he ho
  omega
end SG
