/-! ===== how long a search can last ===== -/
def og_pr (f : Nat → Nat) : Nat → Nat
  | 0 => 1
  | n + 1 => og_pr f n * f n
theorem og_pr_mono {f g : Nat → Nat} : ∀ {n : Nat}, (∀ u, u < n → f u ≤ g u) → og_pr f n ≤ og_pr g n
  | 0, _ => Nat.le_refl _
  | n + 1, h => Nat.mul_le_mul (og_pr_mono fun u hu => h u (by omega)) (h n (by omega))
theorem og_pr_pos {f : Nat → Nat} : ∀ {n : Nat}, (∀ u, u < n → 1 ≤ f u) → 1 ≤ og_pr f n
  | 0, _ => Nat.le_refl _
  | n + 1, h => Nat.mul_pos (og_pr_pos fun u hu => h u (by omega)) (h n (by omega))
theorem og_pr_congr {f g : Nat → Nat} : ∀ {n : Nat}, (∀ u, u < n → f u = g u) → og_pr f n = og_pr g n
  | 0, _ => rfl
  | n + 1, h => by
    show og_pr f n * f n = og_pr g n * g n
    rw [og_pr_congr fun u hu => h u (by omega), h n (by omega)]
/-- one factor taken out -/
theorem og_pr_out {f g : Nat → Nat} {q c : Nat} : ∀ {n : Nat}, q < n → f q = c → g q = 1 → (∀ u, u < n → u ≠ q → f u = g u) → og_pr f n = c * og_pr g n
  | 0, h, _, _, _ => absurd h (Nat.not_lt_zero _)
  | n + 1, hq, hf, hg, h => by
    show og_pr f n * f n = c * (og_pr g n * g n)
    by_cases hqn : q = n
    · subst hqn
      rw [hf, hg, og_pr_congr (fun u hu => h u (by omega) (by omega)), Nat.mul_one, Nat.mul_comm]
    · rw [og_pr_out (by omega) hf hg (fun u hu hne => h u (by omega) hne), h n (by omega) (fun h => hqn h.symm), Nat.mul_assoc]
theorem og_pr_cube {f g : Nat → Nat} : ∀ {n : Nat}, (∀ u, u < n → f u * f u * f u ≤ g u) → og_pr f n * og_pr f n * og_pr f n ≤ og_pr g n
  | 0, _ => Nat.le_refl _
  | n + 1, h => by
    show og_pr f n * f n * (og_pr f n * f n) * (og_pr f n * f n) ≤ og_pr g n * g n
    have h1 := og_pr_cube (f := f) (g := g) (n := n) fun u hu => h u (by omega)
    have h2 := h n (by omega)
    have e : og_pr f n * f n * (og_pr f n * f n) * (og_pr f n * f n) = og_pr f n * og_pr f n * og_pr f n * (f n * f n * f n) := by
      generalize og_pr f n = a
      generalize f n = b
      simp only [Nat.mul_assoc, Nat.mul_comm, Nat.mul_left_comm]
    rw [e]
    exact Nat.mul_le_mul h1 h2
theorem og_pr_pow {a : Nat → Nat} : ∀ n, og_pr (fun u => 8 * 2 ^ a u) n = 8 ^ n * 2 ^ og_sum a n
  | 0 => rfl
  | n + 1 => by
    show og_pr (fun u => 8 * 2 ^ a u) n * (8 * 2 ^ a n) = 8 ^ (n + 1) * 2 ^ (og_sum a n + a n)
    rw [og_pr_pow n, Nat.pow_succ, Nat.pow_add]
    simp only [Nat.mul_assoc, Nat.mul_comm, Nat.mul_left_comm]
theorem og_cube : ∀ a : Fin 21, (1 + max 1 a.val) * (1 + max 1 a.val) * (1 + max 1 a.val) ≤ 8 * 2 ^ a.val := by decide
/-- a product of degrees with few arrows -/
theorem og_pr_bound {n : Nat} {a f : Nat → Nat} (h8 : n ≤ 8) (hs : og_sum a n ≤ 20) (ha : ∀ u, u < n → a u ≤ 20) (hf : ∀ u, u < n → f u ≤ 1 + max 1 (a u)) : og_pr f n < 30000 := by
  have h1 := og_pr_mono hf
  have h2 := og_pr_cube (f := fun u => 1 + max 1 (a u)) (g := fun u => 8 * 2 ^ a u) (n := n) fun u hu => og_cube ⟨a u, by have := ha u hu; omega⟩
  rw [og_pr_pow] at h2
  have h3 : 8 ^ n * 2 ^ og_sum a n ≤ 8 ^ 8 * 2 ^ 20 := Nat.mul_le_mul (Nat.pow_le_pow_right (by omega) h8) (Nat.pow_le_pow_right (by omega) hs)
  refine Classical.byContradiction fun hno => ?_
  have h4 : 30000 ≤ og_pr (fun u => 1 + max 1 (a u)) n := by omega
  have h5 : 30000 * 30000 * 30000 ≤ og_pr (fun u => 1 + max 1 (a u)) n * og_pr (fun u => 1 + max 1 (a u)) n * og_pr (fun u => 1 + max 1 (a u)) n := Nat.mul_le_mul (Nat.mul_le_mul h4 h4) h4
  have h6 : (30000 : Nat) * 30000 * 30000 ≤ 8 ^ 8 * 2 ^ 20 := Nat.le_trans h5 (Nat.le_trans h2 h3)
  exact absurd h6 (by decide)
theorem og_cnt_drop (f : Nat → Bool) (q : Nat) : ∀ n, og_cnt f n ≤ og_cnt (fun i => f i && !decide (i = q)) n + 1
  | 0 => Nat.zero_le _
  | n + 1 => by
    have h1 := og_cnt_drop f q n
    show og_cnt f n + _ ≤ og_cnt (fun i => f i && !decide (i = q)) n + (if (f n && !decide (n = q)) = true then 1 else 0) + 1
    by_cases h : n = q
    · have e : og_cnt (fun i => f i && !decide (i = q)) n = og_cnt f n := og_cnt_ext fun i hi => by simp [show ¬ i = q by omega]
      rw [e]
      split <;> omega
    · cases hf : f n with
      | true => simp [h]; omega
      | false => simp; omega
/-- no more ends than arrows -/
theorem og_cnt_img {h : Nat → Nat} {n : Nat} : ∀ {m : Nat} {f g : Nat → Bool}, (∀ q, q < n → f q = true → ∃ k, k < m ∧ g k = true ∧ h k = q) → og_cnt f n ≤ og_cnt g m
  | 0, f, g, hh => by
    have : og_cnt f n = og_cnt (fun _ => false) n := og_cnt_ext fun i hi => by
      cases hf : f i with
      | false => rfl
      | true =>
        obtain ⟨k, hk, -⟩ := hh i hi hf
        exact absurd hk (Nat.not_lt_zero _)
    rw [this]
    have := og_cnt_upto (f := fun _ => false) (k := 0) (n := n) (fun _ _ => rfl)
    show _ ≤ 0
    exact this
  | m + 1, f, g, hh => by
    show _ ≤ og_cnt g m + _
    cases hg : g m with
    | true =>
      have h1 := og_cnt_drop f (h m) n
      have h2 := og_cnt_img (h := h) (n := n) (m := m) (f := fun i => f i && !decide (i = h m)) (g := g) fun q hq hf => by
        rw [Bool.and_eq_true, Bool.not_eq_true', decide_eq_false_iff_not] at hf
        obtain ⟨k, h1, h2, h3⟩ := hh q hq hf.1
        refine ⟨k, ?_, h2, h3⟩
        have : k ≠ m := fun he => hf.2 (by rw [← h3, he])
        omega
      rw [if_pos rfl]; omega
    | false =>
      have h2 := og_cnt_img (h := h) (n := n) (m := m) (f := f) (g := g) fun q hq hf => by
        obtain ⟨k, h1, h2, h3⟩ := hh q hq hf
        refine ⟨k, ?_, h2, h3⟩
        have : k ≠ m := fun he => by rw [he, hg] at h2; cases h2
        omega
      omega
theorem og_sum_ind {c : Nat → Bool} (h : ∀ u v, c u = true → c v = true → u = v) : ∀ n, og_sum (fun u => if c u = true then 1 else 0) n ≤ 1 ∧ ((∀ u, u < n → c u = false) → og_sum (fun u => if c u = true then 1 else 0) n = 0)
  | 0 => ⟨Nat.zero_le _, fun _ => rfl⟩
  | n + 1 => by
    obtain ⟨h1, h2⟩ := og_sum_ind h n
    show og_sum _ n + (if c n = true then 1 else 0) ≤ 1 ∧ ((∀ u, u < n + 1 → c u = false) → og_sum _ n + (if c n = true then 1 else 0) = 0)
    cases hc : c n with
    | true =>
      have h3 := h2 fun u hu => by
        cases hcu : c u with
        | false => rfl
        | true => have := h u n hcu hc; omega
      refine ⟨by rw [h3]; simp, fun hall => ?_⟩
      have := hall n (Nat.lt_succ_self _)
      rw [hc] at this; cases this
    | false =>
      refine ⟨by simp; exact h1, fun hall => ?_⟩
      have := h2 fun u hu => hall u (by omega)
      simp; exact this
theorem og_sum_add (f g : Nat → Nat) : ∀ n, og_sum (fun u => f u + g u) n = og_sum f n + og_sum g n
  | 0 => rfl
  | n + 1 => by
    show og_sum (fun u => f u + g u) n + (f n + g n) = og_sum f n + f n + (og_sum g n + g n)
    rw [og_sum_add f g n]; omega
theorem og_sum_cnt {c : Nat → Nat → Bool} {n : Nat} (h : ∀ k u v, c u k = true → c v k = true → u = v) : ∀ m, og_sum (fun u => og_cnt (c u) m) n ≤ m
  | 0 => by
    have := og_sum_le (f := fun _ => 0) (b := 0) (fun _ => Nat.le_refl _) n
    show og_sum (fun _ => 0) n ≤ 0
    omega
  | m + 1 => by
    have h1 := og_sum_cnt (n := n) h m
    have h2 := (og_sum_ind (c := fun u => c u m) (fun u v => h m u v) n).1
    have e : og_sum (fun u => og_cnt (c u) (m + 1)) n = og_sum (fun u => og_cnt (c u) m) n + og_sum (fun u => if c u m = true then 1 else 0) n := og_sum_add _ _ n
    omega
/-- the moves that are left from a place on -/
def og_cr (x : Int32) (n q : Nat) : Nat := og_cnt (fun i => om_b x i && decide (q ≤ i)) n
theorem og_cr_n (x : Int32) (n : Nat) : og_cr x n n = 0 := by
  have : og_cr x n n = og_cnt (fun _ => false) n := og_cnt_ext fun i hi => by simp [show ¬ n ≤ i by omega]
  rw [this]
  have := og_cnt_upto (f := fun _ => false) (k := 0) (n := n) (fun _ _ => rfl)
  omega
theorem og_cr_0 (x : Int32) (n : Nat) : og_cr x n 0 = og_cnt (om_b x) n := og_cnt_ext fun i _ => by simp
theorem og_cr_no {x : Int32} {n q : Nat} (h : om_b x q = false) : og_cr x n q = og_cr x n (q + 1) := og_cnt_ext fun i _ => by
  by_cases hi : i = q
  · subst hi; simp [h]
  · have : decide (q ≤ i) = decide (q + 1 ≤ i) := by apply Bool.eq_iff_iff.mpr; simp; omega
    rw [this]
theorem og_cr_yes {x : Int32} {n q : Nat} (hq : q < n) (h : om_b x q = true) : og_cr x n (q + 1) < og_cr x n q := by
  refine og_cnt_lt (fun i _ hi => ?_) ⟨q, hq, ?_⟩
  · simp only [Bool.and_eq_true, decide_eq_true_eq] at hi ⊢
    exact ⟨hi.1, by omega⟩
  · simp [h]
theorem og_cr_skip {x : Int32} {n q : Nat} : ∀ {q' : Nat}, q ≤ q' → (∀ i, q ≤ i → i < q' → om_b x i = false) → og_cr x n q = og_cr x n q'
  | 0, h, _ => by rw [show q = 0 by omega]
  | q' + 1, h, hh => by
    by_cases h1 : q = q' + 1
    · rw [h1]
    · rw [og_cr_skip (q' := q') (by omega) (fun i a b => hh i a (by omega))]
      exact og_cr_no (hh q' (by omega) (by omega))
section MU
variable {N : Nat → Int32} {n : Nat}
def og_dg1 (N : Nat → Int32) (n u : Nat) : Nat := 1 + og_cnt (om_b (N u)) n
/-- what is not in the row yet -/
noncomputable def og_W (N : Nat → Int32) (n : Nat) (ρ : Nat → Nat) (t : Nat) : Nat := og_pr (fun u => if og_cb (∃ i, i < t ∧ ρ i = u) = true then 1 else og_dg1 N n u) n
theorem og_W_pos {ρ : Nat → Nat} {t : Nat} : 1 ≤ og_W N n ρ t := og_pr_pos fun u _ => by
  show 1 ≤ (if og_cb (∃ i, i < t ∧ ρ i = u) = true then 1 else og_dg1 N n u)
  unfold og_dg1
  split
  · exact Nat.le_refl _
  · exact Nat.le_add_right _ _
theorem og_W_push {ρ ρ' : Nat → Nat} {t q : Nat} (hq : q < n) (hno : ∀ i, i < t → ρ i ≠ q) (h1 : ∀ i, i < t → ρ' i = ρ i) (h2 : ρ' t = q) : og_W N n ρ t = og_dg1 N n q * og_W N n ρ' (t + 1) := by
  have hcb : ∀ {P Q : Prop}, (P ↔ Q) → og_cb P = og_cb Q := fun h => Bool.eq_iff_iff.mpr (og_cb_iff.trans (h.trans og_cb_iff.symm))
  refine og_pr_out hq ?_ ?_ fun u _ hne => ?_
  · show (if og_cb (∃ i, i < t ∧ ρ i = q) = true then 1 else _) = _
    rw [if_neg (fun h => by obtain ⟨i, hi, he⟩ := og_cb_iff.mp h; exact hno i hi he)]
  · show (if og_cb (∃ i, i < t + 1 ∧ ρ' i = q) = true then 1 else _) = 1
    rw [if_pos (og_cb_iff.mpr ⟨t, Nat.lt_succ_self _, h2⟩)]
  · show (if og_cb (∃ i, i < t ∧ ρ i = u) = true then 1 else _) = (if og_cb (∃ i, i < t + 1 ∧ ρ' i = u) = true then 1 else _)
    rw [hcb (show (∃ i, i < t ∧ ρ i = u) ↔ (∃ i, i < t + 1 ∧ ρ' i = u) from ⟨fun ⟨i, hi, he⟩ => ⟨i, by omega, by rw [h1 i hi, he]⟩, fun ⟨i, hi, he⟩ => by
      by_cases hit : i = t
      · rw [hit, h2] at he; exact absurd he.symm hne
      · exact ⟨i, by omega, by rw [← h1 i (by omega)]; exact he⟩⟩)]
theorem og_W_ext {ρ ρ' : Nat → Nat} {t : Nat} (h : ∀ i, i < t → ρ' i = ρ i) : og_W N n ρ' t = og_W N n ρ t := og_pr_congr fun u _ => by
  have : og_cb (∃ i, i < t ∧ ρ' i = u) = og_cb (∃ i, i < t ∧ ρ i = u) := Bool.eq_iff_iff.mpr (og_cb_iff.trans (Iff.trans ⟨fun ⟨i, hi, he⟩ => ⟨i, hi, by rw [← h i hi]; exact he⟩, fun ⟨i, hi, he⟩ => ⟨i, hi, by rw [h i hi]; exact he⟩⟩ og_cb_iff.symm))
  show (if _ then _ else _) = (if _ then _ else _)
  rw [this]
noncomputable def og_mu (N : Nat → Int32) (n : Nat) (ρ : Nat → Nat) : Nat → Nat → Nat
  | 0, _ => 0
  | t + 1, q => og_mu N n ρ t (ρ t + 1) + 1 + (2 * og_W N n ρ (t + 1) - 1) * og_cr (N (ρ t)) n q
theorem og_mu_ext {ρ ρ' : Nat → Nat} : ∀ {t : Nat} {q : Nat}, (∀ i, i < t → ρ' i = ρ i) → og_mu N n ρ' t q = og_mu N n ρ t q
  | 0, _, _ => rfl
  | t + 1, q, h => by
    show og_mu N n ρ' t (ρ' t + 1) + 1 + (2 * og_W N n ρ' (t + 1) - 1) * og_cr (N (ρ' t)) n q = og_mu N n ρ t (ρ t + 1) + 1 + (2 * og_W N n ρ (t + 1) - 1) * og_cr (N (ρ t)) n q
    rw [og_W_ext h, h t (Nat.lt_succ_self _), og_mu_ext (fun i hi => h i (by omega))]
theorem og_mu_pop {ρ : Nat → Nat} {t : Nat} : og_mu N n ρ t (ρ t + 1) < og_mu N n ρ (t + 1) n := by
  show _ < og_mu N n ρ t (ρ t + 1) + 1 + _ * og_cr (N (ρ t)) n n
  rw [og_cr_n, Nat.mul_zero]; omega
theorem og_mu_skip {ρ : Nat → Nat} {t q : Nat} (hq : q < n) (h : om_b (N (ρ t)) q = true) : og_mu N n ρ (t + 1) (q + 1) < og_mu N n ρ (t + 1) q := by
  show og_mu N n ρ t (ρ t + 1) + 1 + (2 * og_W N n ρ (t + 1) - 1) * og_cr (N (ρ t)) n (q + 1) < og_mu N n ρ t (ρ t + 1) + 1 + (2 * og_W N n ρ (t + 1) - 1) * og_cr (N (ρ t)) n q
  have h1 := og_cr_yes hq h
  have h2 := og_W_pos (N := N) (n := n) (ρ := ρ) (t := t + 1)
  have h3 := Nat.mul_lt_mul_of_pos_left h1 (show 0 < 2 * og_W N n ρ (t + 1) - 1 by omega)
  omega
theorem og_mu_go {ρ : Nat → Nat} {t q q' : Nat} (h : q ≤ q') (hh : ∀ i, q ≤ i → i < q' → om_b (N (ρ t)) i = false) : og_mu N n ρ (t + 1) q = og_mu N n ρ (t + 1) q' := by
  show og_mu N n ρ t (ρ t + 1) + 1 + _ * og_cr (N (ρ t)) n q = og_mu N n ρ t (ρ t + 1) + 1 + _ * og_cr (N (ρ t)) n q'
  rw [og_cr_skip h hh]
theorem og_mu_push {ρ ρ' : Nat → Nat} {t q : Nat} (hq : q < n) (h : om_b (N (ρ t)) q = true) (hno : ∀ i, i < t + 1 → ρ i ≠ q) (h1 : ∀ i, i < t + 1 → ρ' i = ρ i) (h2 : ρ' (t + 1) = q) (hd : 1 ≤ og_cnt (om_b (N q)) n) : og_mu N n ρ' (t + 2) 0 < og_mu N n ρ (t + 1) q := by
  show og_mu N n ρ' (t + 1) (ρ' (t + 1) + 1) + 1 + (2 * og_W N n ρ' (t + 2) - 1) * og_cr (N (ρ' (t + 1))) n 0 < _
  rw [og_mu_ext h1, h2, og_cr_0]
  have a1 : og_mu N n ρ (t + 1) (q + 1) = og_mu N n ρ t (ρ t + 1) + 1 + (2 * og_W N n ρ (t + 1) - 1) * og_cr (N (ρ t)) n (q + 1) := rfl
  have a2 : og_mu N n ρ (t + 1) q = og_mu N n ρ t (ρ t + 1) + 1 + (2 * og_W N n ρ (t + 1) - 1) * og_cr (N (ρ t)) n q := rfl
  have a3 := og_cr_yes hq h
  have a4 := og_W_push (N := N) (n := n) hq hno h1 h2
  have a5 := og_W_pos (N := N) (n := n) (ρ := ρ') (t := t + 2)
  rw [a1, a2]
  unfold og_dg1 at a4
  rw [a4]
  generalize og_cnt (om_b (N q)) n = dq at hd
  generalize og_cr (N (ρ t)) n (q + 1) = c1 at a3
  generalize og_cr (N (ρ t)) n q = c2 at a3
  obtain ⟨V, hV⟩ : ∃ V, og_W N n ρ' (t + 2) = V + 1 := ⟨og_W N n ρ' (t + 2) - 1, by omega⟩
  rw [show t + 1 + 1 = t + 2 from rfl, hV]
  generalize og_mu N n ρ t (ρ t + 1) = b0
  have e1 : (2 * (V + 1) - 1) * dq = 2 * (V * dq) + dq := by
    rw [show 2 * (V + 1) - 1 = 2 * V + 1 by omega, Nat.add_mul, Nat.mul_assoc, Nat.one_mul]
  have e2 : 2 * ((1 + dq) * (V + 1)) - 1 = 2 * (V * dq) + 2 * V + 2 * dq + 1 := by
    have e0 : (1 + dq) * (V + 1) = V * dq + V + dq + 1 := by
      rw [Nat.add_mul, Nat.one_mul, Nat.mul_add, Nat.mul_one, Nat.mul_comm dq V]; omega
    rw [e0]; omega
  rw [e1, e2]
  have e3 : (2 * (V * dq) + 2 * V + 2 * dq + 1) * (c1 + 1) ≤ (2 * (V * dq) + 2 * V + 2 * dq + 1) * c2 := Nat.mul_le_mul_left _ a3
  rw [Nat.mul_add, Nat.mul_one] at e3
  omega
theorem og_mu_top {ρ : Nat → Nat} {p : Nat} (hp : p < n) (h0 : ρ 0 = p) : og_mu N n ρ 1 0 ≤ 2 * og_pr (og_dg1 N n) n := by
  have h1 : og_pr (og_dg1 N n) n = og_dg1 N n p * og_W N n ρ 1 := by
    refine og_pr_out hp rfl ?_ fun u _ hne => ?_
    · show (if og_cb (∃ i, i < 1 ∧ ρ i = p) = true then 1 else _) = 1
      rw [if_pos (og_cb_iff.mpr ⟨0, by omega, h0⟩)]
    · show _ = (if og_cb (∃ i, i < 1 ∧ ρ i = u) = true then 1 else _)
      rw [if_neg (fun h => by
        obtain ⟨i, hi, he⟩ := og_cb_iff.mp h
        rw [show i = 0 by omega, h0] at he
        exact hne he.symm)]
  rw [h1]
  show 0 + 1 + (2 * og_W N n ρ 1 - 1) * og_cr (N (ρ 0)) n 0 ≤ _
  rw [og_cr_0, h0]
  have a5 := og_W_pos (N := N) (n := n) (ρ := ρ) (t := 1)
  obtain ⟨V, hV⟩ : ∃ V, og_W N n ρ 1 = V + 1 := ⟨og_W N n ρ 1 - 1, by omega⟩
  rw [hV]
  unfold og_dg1
  generalize og_cnt (om_b (N p)) n = dq
  have e1 : (2 * (V + 1) - 1) * dq = 2 * (V * dq) + dq := by
    rw [show 2 * (V + 1) - 1 = 2 * V + 1 by omega, Nat.add_mul, Nat.mul_assoc, Nat.one_mul]
  have e2 : (1 + dq) * (V + 1) = V * dq + V + dq + 1 := by
    rw [Nat.add_mul, Nat.one_mul, Nat.mul_add, Nat.mul_one, Nat.mul_comm dq V]; omega
  rw [e1, e2]; omega
end MU
