/-! ===== the most by each move: games with any integers as weights ===== -/
def og_bx (n : Nat) (mx : Bool) (P : Nat → Prop) (f : Nat → Int) (x : Int) : Prop := (∃ q, q < n ∧ P q ∧ x = f q) ∧ ∀ q, q < n → P q → (mx = true → f q ≤ x) ∧ (mx = false → x ≤ f q)
theorem og_bx_ex {n : Nat} {mx : Bool} {P : Nat → Prop} {f : Nat → Int} (hne : ∃ q, q < n ∧ P q) : ∃ x, og_bx n mx P f x := by
  have key : ∀ k, (∃ q, q < k ∧ P q) → ∃ x, og_bx k mx P f x := by
    intro k
    induction k with
    | zero => rintro ⟨q, h, _⟩; omega
    | succ k ih =>
      intro hex
      by_cases hk : P k
      · by_cases hex2 : ∃ q, q < k ∧ P q
        · obtain ⟨x, ⟨q, h1, h2, h3⟩, h4⟩ := ih hex2
          cases mx with
          | true =>
            by_cases hle : f k ≤ x
            · refine ⟨x, ⟨q, by omega, h2, h3⟩, fun r hr hP => ⟨fun _ => ?_, fun h => (by cases h)⟩⟩
              by_cases hrk : r = k
              · subst hrk; exact hle
              · exact (h4 r (by omega) hP).1 rfl
            · refine ⟨f k, ⟨k, by omega, hk, rfl⟩, fun r hr hP => ⟨fun _ => ?_, fun h => (by cases h)⟩⟩
              by_cases hrk : r = k
              · subst hrk; exact Int.le_refl _
              · have := (h4 r (by omega) hP).1 rfl; omega
          | false =>
            by_cases hle : x ≤ f k
            · refine ⟨x, ⟨q, by omega, h2, h3⟩, fun r hr hP => ⟨fun h => (by cases h), fun _ => ?_⟩⟩
              by_cases hrk : r = k
              · subst hrk; exact hle
              · exact (h4 r (by omega) hP).2 rfl
            · refine ⟨f k, ⟨k, by omega, hk, rfl⟩, fun r hr hP => ⟨fun h => (by cases h), fun _ => ?_⟩⟩
              by_cases hrk : r = k
              · subst hrk; exact Int.le_refl _
              · have := (h4 r (by omega) hP).2 rfl; omega
        · refine ⟨f k, ⟨k, by omega, hk, rfl⟩, fun r hr hP => ?_⟩
          have : r = k := by
            rcases Nat.lt_or_ge r k with h | h
            · exact absurd ⟨r, h, hP⟩ hex2
            · omega
          subst this
          exact ⟨fun _ => Int.le_refl _, fun _ => Int.le_refl _⟩
      · obtain ⟨q, h1, h2⟩ := hex
        have hqk : q ≠ k := fun h => hk (h ▸ h2)
        obtain ⟨x, ⟨q', g1, g2, g3⟩, g4⟩ := ih ⟨q, by omega, h2⟩
        refine ⟨x, ⟨q', by omega, g2, g3⟩, fun r hr hP => ?_⟩
        have hrk : r ≠ k := fun h => hk (h ▸ hP)
        exact g4 r (by omega) hP
  exact key n hne
section MP
variable {n : Nat} {mi : Nat → Bool} {G : Nat → Nat → Prop} {u : Nat → Nat → Int}
/-- values of so many moves -/
def og_Vs (n : Nat) (mi : Nat → Bool) (G : Nat → Nat → Prop) (u : Nat → Nat → Int) (V : Nat → Nat → Int) : Prop := (∀ p, p < n → V 0 p = 0) ∧ ∀ k p, p < n → og_bx n (mi p) (G p) (fun q => u p q + V k q) (V (k + 1) p)
/-- least credits of so many moves -/
def og_Es (n : Nat) (mi : Nat → Bool) (G : Nat → Nat → Prop) (u : Nat → Nat → Int) (E : Nat → Nat → Int) : Prop := (∀ p, p < n → E 0 p = 0) ∧ ∀ k p, p < n → og_bx n (!mi p) (G p) (fun q => max 0 (E k q - u p q)) (E (k + 1) p)
noncomputable def og_Ec (n : Nat) (mi : Nat → Bool) (G : Nat → Nat → Prop) (u : Nat → Nat → Int) : Nat → Nat → Int
  | 0 => fun _ => 0
  | k + 1 => fun p => Classical.epsilon (fun x => og_bx n (!mi p) (G p) (fun q => max 0 (og_Ec n mi G u k q - u p q)) x)
theorem og_Ec_ok (hne : ∀ p, p < n → ∃ q, q < n ∧ G p q) : og_Es n mi G u (og_Ec n mi G u) :=
  ⟨fun _ _ => rfl, fun k p hp => Classical.epsilon_spec (p := fun x => og_bx n (!mi p) (G p) (fun q => max 0 (og_Ec n mi G u k q - u p q)) x) (og_bx_ex (hne p hp))⟩
theorem og_Vs_st {V : Nat → Nat → Int} (h : og_Vs n mi G u V) (k : Nat) {p : Nat} (hp : p < n) : (∃ q, q < n ∧ G p q ∧ V (k + 1) p = u p q + V k q) ∧ ∀ q, q < n → G p q → (mi p = true → u p q + V k q ≤ V (k + 1) p) ∧ (mi p = false → V (k + 1) p ≤ u p q + V k q) := h.2 k p hp
theorem og_Es_st {E : Nat → Nat → Int} (h : og_Es n mi G u E) (k : Nat) {p : Nat} (hp : p < n) : (∃ q, q < n ∧ G p q ∧ E (k + 1) p = max 0 (E k q - u p q)) ∧ ∀ q, q < n → G p q → (mi p = false → max 0 (E k q - u p q) ≤ E (k + 1) p) ∧ (mi p = true → E (k + 1) p ≤ max 0 (E k q - u p q)) := by
  obtain ⟨h1, h2⟩ := h.2 k p hp
  exact ⟨h1, fun q hq hG => ⟨fun hm => (h2 q hq hG).1 (by simp [hm]), fun hm => (h2 q hq hG).2 (by simp [hm])⟩⟩
theorem og_Es_nn {E : Nat → Nat → Int} (h : og_Es n mi G u E) : ∀ k p, p < n → 0 ≤ E k p
  | 0, p, hp => by rw [h.1 p hp]; exact Int.le_refl _
  | k + 1, p, hp => by
    obtain ⟨⟨q, -, -, h3⟩, -⟩ := og_Es_st h k hp
    rw [h3]; exact Int.le_max_left _ _
theorem og_Es_step {E : Nat → Nat → Int} (h : og_Es n mi G u E) : ∀ k p, p < n → E k p ≤ E (k + 1) p
  | 0, p, hp => by rw [h.1 p hp]; exact og_Es_nn h 1 p hp
  | k + 1, p, hp => by
    obtain ⟨⟨q, h1, h2, h3⟩, h4⟩ := og_Es_st h k hp
    obtain ⟨⟨q', h1', h2', h3'⟩, h4'⟩ := og_Es_st h (k + 1) hp
    cases hm : mi p with
    | true =>
      have a := (h4 q' h1' h2').2 hm
      have b := og_Es_step h k q' h1'
      omega
    | false =>
      have a := (h4' q h1 h2).1 hm
      have b := og_Es_step h k q h1
      omega
theorem og_Es_mono {E : Nat → Nat → Int} (h : og_Es n mi G u E) {p : Nat} (hp : p < n) (k : Nat) : ∀ j, E k p ≤ E (k + j) p
  | 0 => Int.le_refl _
  | j + 1 => Int.le_trans (og_Es_mono h hp k j) (og_Es_step h (k + j) p hp)
def og_fin (E : Nat → Nat → Int) (p : Nat) : Prop := ∃ B : Int, ∀ k, E k p ≤ B
/-- finitely many bounds have a bound -/
theorem og_bds {P : Nat → Int → Prop} (hm : ∀ p B B', B ≤ B' → P p B → P p B') : ∀ n, (∀ p, p < n → ∃ B, P p B) → ∃ B, 0 ≤ B ∧ ∀ p, p < n → P p B
  | 0, _ => ⟨0, Int.le_refl _, fun p h => absurd h (by omega)⟩
  | n + 1, h => by
    obtain ⟨B, h0, h1⟩ := og_bds hm n (fun p hp => h p (by omega))
    obtain ⟨B', h2⟩ := h n (by omega)
    refine ⟨max B B', by omega, fun p hp => ?_⟩
    by_cases hpn : p = n
    · subst hpn; exact hm _ _ _ (by omega) h2
    · exact hm _ _ _ (by omega) (h1 p (by omega))
theorem og_bdn {P : Nat → Nat → Prop} (hm : ∀ p B B', B ≤ B' → P p B → P p B') : ∀ n, (∀ p, p < n → ∃ B, P p B) → ∃ B, ∀ p, p < n → P p B
  | 0, _ => ⟨0, fun p h => absurd h (by omega)⟩
  | n + 1, h => by
    obtain ⟨B, h1⟩ := og_bdn hm n (fun p hp => h p (by omega))
    obtain ⟨B', h2⟩ := h n (by omega)
    refine ⟨B + B', fun p hp => ?_⟩
    by_cases hpn : p = n
    · subst hpn; exact hm _ _ _ (by omega) h2
    · exact hm _ _ _ (by omega) (h1 p (by omega))
/-- the greatest finite credit -/
theorem og_M0 (E : Nat → Nat → Int) (n : Nat) : ∃ B : Int, 0 ≤ B ∧ ∀ p, p < n → og_fin E p → ∀ k, E k p ≤ B :=
  og_bds (P := fun p B => og_fin E p → ∀ k, E k p ≤ B) (fun p B B' h1 h2 h3 k => Int.le_trans (h2 h3 k) h1) n (fun p _ => by
    by_cases h : og_fin E p
    · obtain ⟨B, hB⟩ := h; exact ⟨B, fun _ => hB⟩
    · exact ⟨0, fun h2 => absurd h2 h⟩)
/-- after so many moves the others are all beyond x -/
theorem og_K0 {E : Nat → Nat → Int} (h : og_Es n mi G u E) (x : Int) : ∃ K, ∀ p, p < n → ¬ og_fin E p → x < E K p := by
  obtain ⟨K, hK⟩ := og_bdn (P := fun p K => p < n → ¬ og_fin E p → x < E K p) (fun p B B' h1 h2 hp h3 => by
    have := og_Es_mono h hp B (B' - B)
    rw [show B + (B' - B) = B' by omega] at this
    have := h2 hp h3
    omega) n (fun p hp => by
    by_cases hf : og_fin E p
    · exact ⟨0, fun _ h2 => absurd hf h2⟩
    · refine Classical.byContradiction fun hno => hf ⟨x, fun k => ?_⟩
      refine Classical.byContradiction fun h2 => hno ⟨k, fun _ _ => by omega⟩)
  exact ⟨K, fun p hp => hK p hp hp⟩
/-- where credits are not bounded, the other makes it sink for ever -/
theorem og_drift {E V : Nat → Nat → Int} {W : Int} (hE : og_Es n mi G u E) (hV : og_Vs n mi G u V) (hW0 : 0 ≤ W) (hW : ∀ p q, p < n → q < n → G p q → -W ≤ u p q ∧ u p q ≤ W) : ∃ (K : Nat) (B : Int), 0 < K ∧ ∀ k p, p < n → ¬ og_fin E p → (K : Int) * V k p ≤ B - k := by
  obtain ⟨M0, hM0, hM1⟩ := og_M0 E n
  obtain ⟨K', hK'⟩ := og_K0 hE (M0 + W)
  have hK1 : ∀ p, p < n → ¬ og_fin E p → M0 + W < E (K' + 1) p := fun p hp hf => by
    have := og_Es_step hE K' p hp
    have := hK' p hp hf
    omega
  generalize hKd : K' + 1 = K at hK1
  have hKp : 0 < K := by omega
  refine ⟨K, K * (W * K) + K, hKp, ?_⟩
  have hBB : (0 : Int) ≤ K * (W * K) := Int.mul_nonneg (by omega) (Int.mul_nonneg hW0 (by omega))
  have outer : ∀ k0, (∀ k, k < k0 → ∀ p, p < n → ¬ og_fin E p → (K : Int) * V k p ≤ K * (W * K) + K - k) → ∀ p, p < n → ¬ og_fin E p → (K : Int) * V k0 p ≤ K * (W * K) + K - k0 := by
    intro k0 ih
    have inner : ∀ j, j ≤ K → ∀ k, k0 = k + (K - j) → ∀ p, p < n → ∀ x : Int, x < E j p → M0 + W ≤ x → x ≤ M0 + W + W * ((K - j : Nat) : Int) → (K : Int) * (V k p + x - (M0 + W)) ≤ K * (W * K) + K - k0 := by
      intro j
      induction j with
      | zero =>
        intro _ k _ p hp x hx hx0 _
        rw [hE.1 p hp] at hx
        omega
      | succ j ihj =>
        intro hj k hk p hp x hx hx0 hx1
        match k, hk with
        | 0, hk =>
          rw [hV.1 p hp]
          have h1 : x - (M0 + W) ≤ W * ((K - (j + 1) : Nat) : Int) := by omega
          have h2 : W * ((K - (j + 1) : Nat) : Int) ≤ W * K := Int.mul_le_mul_of_nonneg_left (by omega) hW0
          have h3 : (K : Int) * (0 + x - (M0 + W)) ≤ K * (W * K) := Int.mul_le_mul_of_nonneg_left (by omega) (by omega)
          omega
        | k' + 1, hk =>
          have hgo : ∃ q, q < n ∧ G p q ∧ x + u p q < E j q ∧ V (k' + 1) p ≤ u p q + V k' q := by
            obtain ⟨⟨q, h1, h2, h3⟩, h4⟩ := og_Es_st hE j hp
            obtain ⟨⟨q', h1', h2', h3'⟩, h4'⟩ := og_Vs_st hV k' hp
            cases hm : mi p with
            | true =>
              have a := (h4 q' h1' h2').2 hm
              refine ⟨q', h1', h2', ?_, by rw [h3']; exact Int.le_refl _⟩
              omega
            | false =>
              refine ⟨q, h1, h2, ?_, (h4' q h1 h2).2 hm⟩
              omega
          obtain ⟨q, h1, h2, h3, h4⟩ := hgo
          have hw := hW p q hp h1 h2
          by_cases hc : M0 + W ≤ x + u p q
          · have e1 : ((K - j : Nat) : Int) = ((K - (j + 1) : Nat) : Int) + 1 := by omega
            have h5 := ihj (by omega) k' (by omega) q h1 (x + u p q) h3 hc (by rw [e1, Int.mul_add, Int.mul_one]; omega)
            have h6 : (K : Int) * (V (k' + 1) p + x - (M0 + W)) ≤ K * (V k' q + (x + u p q) - (M0 + W)) := Int.mul_le_mul_of_nonneg_left (by omega) (by omega)
            omega
          · have hnf : ¬ og_fin E q := fun hf => by have := hM1 q h1 hf j; omega
            have h5 := ih k' (by omega) q h1 hnf
            have h6 : (K : Int) * (V (k' + 1) p + x - (M0 + W)) ≤ K * (V k' q + -1) := Int.mul_le_mul_of_nonneg_left (by omega) (by omega)
            rw [Int.mul_add] at h6
            omega
    intro p hp hf
    have h1 := inner K (Nat.le_refl K) k0 (by omega) p hp (M0 + W) (hK1 p hp hf) (Int.le_refl _) (by rw [Nat.sub_self]; simp)
    have e : V k0 p + (M0 + W) - (M0 + W) = V k0 p := by omega
    rw [e] at h1
    exact h1
  intro k
  induction k using Nat.strongRecOn with
  | _ k ih => exact outer k ih
/-- the same game as the other sees it -/
theorem og_Vs_neg {V : Nat → Nat → Int} (h : og_Vs n mi G u V) : og_Vs n (fun p => !mi p) G (fun p q => -u p q) (fun k p => -V k p) := by
  refine ⟨fun p hp => ?_, fun k p hp => ?_⟩
  · show -V 0 p = 0
    rw [h.1 p hp]; rfl
  · obtain ⟨⟨q, h1, h2, h3⟩, h4⟩ := og_Vs_st h k hp
    refine ⟨⟨q, h1, h2, ?_⟩, fun q' hq' hG => ?_⟩
    · show -V (k + 1) p = -u p q + -V k q
      omega
    · show ((!mi p) = true → -u p q' + -V k q' ≤ -V (k + 1) p) ∧ ((!mi p) = false → -V (k + 1) p ≤ -u p q' + -V k q')
      have := h4 q' hq' hG
      cases hm : mi p with
      | true => exact ⟨fun h => (by simp at h), fun _ => (by have := this.1 hm; omega)⟩
      | false => exact ⟨fun _ => (by have := this.2 hm; omega), fun h => (by simp at h)⟩
/-- one of the two has bounded credits -/
theorem og_weak {E E' V : Nat → Nat → Int} {W : Int} (hE : og_Es n mi G u E) (hE' : og_Es n (fun p => !mi p) G (fun p q => -u p q) E') (hV : og_Vs n mi G u V) (hW0 : 0 ≤ W) (hW : ∀ p q, p < n → q < n → G p q → -W ≤ u p q ∧ u p q ≤ W) {p : Nat} (hp : p < n) : og_fin E p ∨ og_fin E' p := by
  by_cases h1 : og_fin E p
  · exact .inl h1
  by_cases h2 : og_fin E' p
  · exact .inr h2
  exfalso
  obtain ⟨K, B, hK, hd⟩ := og_drift hE hV hW0 hW
  obtain ⟨K', B', hK', hd'⟩ := og_drift hE' (og_Vs_neg hV) hW0 (fun p q hp hq hG => by have := hW p q hp hq hG; omega)
  have a := hd (B.toNat + B'.toNat + 1) p hp h1
  have b := hd' (B.toNat + B'.toNat + 1) p hp h2
  have a' : (K : Int) * V (B.toNat + B'.toNat + 1) p < 0 := by omega
  have b' : (K' : Int) * -V (B.toNat + B'.toNat + 1) p < 0 := by omega
  have c : V (B.toNat + B'.toNat + 1) p < 0 := by
    refine Classical.byContradiction fun h => ?_
    have := Int.mul_nonneg (show (0 : Int) ≤ K by omega) (show 0 ≤ V (B.toNat + B'.toNat + 1) p by omega)
    omega
  have := Int.mul_nonneg (show (0 : Int) ≤ K' by omega) (show 0 ≤ -V (B.toNat + B'.toNat + 1) p by omega)
  omega
/-- a plan and amounts in hand that are never used up -/
def og_cert (n : Nat) (mi : Nat → Bool) (G : Nat → Nat → Prop) (u : Nat → Nat → Int) (A : Nat → Prop) (s : Nat → Nat) (e : Nat → Int) : Prop := (∀ p, A p → p < n ∧ 0 ≤ e p) ∧ (∀ p, A p → mi p = true → G p (s p) ∧ A (s p) ∧ e (s p) ≤ e p + u p (s p)) ∧ ∀ p q, A p → mi p = false → G p q → A q ∧ e q ≤ e p + u p q
theorem og_cert_ex {E : Nat → Nat → Int} {W : Int} (hE : og_Es n mi G u E) (hG : ∀ p q, G p q → q < n) (hW : ∀ p q, p < n → q < n → G p q → -W ≤ u p q ∧ u p q ≤ W) : ∃ s e, og_cert n mi G u (fun p => p < n ∧ og_fin E p) s e := by
  obtain ⟨M0, hM0, hM1⟩ := og_M0 E n
  obtain ⟨K1, hK1⟩ := og_K0 hE (M0 + W)
  -- where all finite ones stand still
  have hst : ∃ K, ∀ p, p < n → og_fin E p → ∀ k, K ≤ k → E k p = E K p := by
    obtain ⟨K, hK⟩ := og_bdn (P := fun p K => p < n → og_fin E p → ∀ k, K ≤ k → E k p = E K p) (fun p B B' h1 h2 hp hf k hk => by
      rw [h2 hp hf k (by omega), h2 hp hf B' h1]) n (fun p hp => by
      by_cases hf : og_fin E p
      · obtain ⟨B, hB⟩ := hf
        refine Classical.byContradiction fun hno => ?_
        have hgrow : ∀ j : Nat, ∃ k, (j : Int) ≤ E k p := by
          intro j
          induction j with
          | zero => exact ⟨0, og_Es_nn hE 0 p hp⟩
          | succ j ih =>
            obtain ⟨k, hk⟩ := ih
            obtain ⟨k', hk1, hk2⟩ : ∃ k', k ≤ k' ∧ E k' p ≠ E k p := Classical.byContradiction fun h => hno ⟨k, fun _ _ k' hk' => Classical.byContradiction fun h2 => h ⟨k', hk', h2⟩⟩
            have := og_Es_mono hE hp k (k' - k)
            rw [show k + (k' - k) = k' by omega] at this
            exact ⟨k', by omega⟩
        obtain ⟨k, hk⟩ := hgrow (B.toNat + 1)
        have := hB k
        omega
      · exact ⟨0, fun _ h => absurd h hf⟩)
    exact ⟨K, fun p hp => hK p hp hp⟩
  obtain ⟨K2, hK2⟩ := hst
  have hinf : ∀ p, p < n → ¬ og_fin E p → M0 + W < E (K1 + K2) p := fun p hp hf => by
    have := og_Es_mono hE hp K1 K2
    have := hK1 p hp hf
    omega
  have hfix : ∀ p, p < n → og_fin E p → E (K1 + K2 + 1) p = E (K1 + K2) p := fun p hp hf => by
    rw [hK2 p hp hf _ (by omega), hK2 p hp hf (K1 + K2) (by omega)]
  have hok : ∀ p q, p < n → og_fin E p → q < n → G p q → max 0 (E (K1 + K2) q - u p q) ≤ E (K1 + K2) p → og_fin E q ∧ E (K1 + K2) q ≤ E (K1 + K2) p + u p q := by
    intro p q hp hf hq hg hle
    refine ⟨Classical.byContradiction fun hnf => ?_, by omega⟩
    have h1 := hinf q hq hnf
    have h2 := hM1 p hp hf (K1 + K2)
    have h3 := hW p q hp hq hg
    omega
  have hex : ∀ p, ∃ q, p < n → og_fin E p → mi p = true → (G p q ∧ q < n ∧ max 0 (E (K1 + K2) q - u p q) ≤ E (K1 + K2) p) := by
    intro p
    by_cases hp : p < n ∧ og_fin E p ∧ mi p = true
    · obtain ⟨⟨q, h1, h2, h3⟩, -⟩ := og_Es_st hE (K1 + K2) hp.1
      rw [hfix p hp.1 hp.2.1] at h3
      exact ⟨q, fun _ _ _ => ⟨h2, h1, by omega⟩⟩
    · exact ⟨0, fun h1 h2 h3 => absurd ⟨h1, h2, h3⟩ hp⟩
  obtain ⟨s, hs⟩ := Classical.skolem.mp hex
  refine ⟨s, E (K1 + K2), fun p hp => ⟨hp.1, og_Es_nn hE _ p hp.1⟩, fun p hp hm => ?_, fun p q hp hm hg => ?_⟩
  · obtain ⟨g1, g2, g3⟩ := hs p hp.1 hp.2 hm
    have := hok p (s p) hp.1 hp.2 g2 g1 g3
    exact ⟨g1, ⟨g2, this.1⟩, this.2⟩
  · have hq := hG p q hg
    have h4 := ((og_Es_st hE (K1 + K2) hp.1).2 q hq hg).1 hm
    rw [hfix p hp.1 hp.2] at h4
    have := hok p q hp.1 hp.2 hq hg h4
    exact ⟨⟨hq, this.1⟩, this.2⟩
end MP
