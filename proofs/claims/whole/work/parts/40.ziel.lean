/-! ===== plays, and what is won by the least number met without end ===== -/
def og_lim (num : Nat → Nat) (b : Nat) (c : Nat → Nat) : Prop := ∃ v K, v % 2 = b ∧ (∀ i, K ≤ i → v ≤ num (c i)) ∧ ∀ i, ∃ j, i ≤ j ∧ num (c j) = v
def og_stp (G : Nat → Nat → Prop) (mi : Nat → Bool) (s : Nat → Nat) (p q : Nat) : Prop := G p q ∧ (mi p = true → q = s p)
def og_win (G : Nat → Nat → Prop) (mi : Nat → Bool) (num : Nat → Nat) (b : Nat) (W E : Nat → Prop) : Prop := (∀ p, E p → W p) ∧ ∃ s : Nat → Nat, (∀ p, E p → mi p = true → G p (s p) ∧ E (s p)) ∧ (∀ p q, E p → mi p = false → G p q → W q → E q) ∧ ∀ c : Nat → Nat, (∀ i, E (c i)) → (∀ i, og_stp G mi s (c i) (c (i + 1))) → og_lim num b c
theorem og_lim_tail {num : Nat → Nat} {b : Nat} {c : Nat → Nat} {k : Nat} (h : og_lim num b (fun i => c (i + k))) : og_lim num b c := by
  obtain ⟨v, K, h1, h2, h3⟩ := h
  refine ⟨v, K + k, h1, fun i hi => ?_, fun i => ?_⟩
  · have : v ≤ num (c (i - k + k)) := h2 (i - k) (by omega)
    rw [show i - k + k = i by omega] at this
    exact this
  · obtain ⟨j, hj, he⟩ := h3 i
    exact ⟨j + k, by omega, he⟩
section ZI
variable {G : Nat → Nat → Prop} {mi : Nat → Bool} {num : Nat → Nat} {b : Nat} {W : Nat → Prop}
def og_tot (G : Nat → Nat → Prop) (W : Nat → Prop) : Prop := ∀ p, W p → ∃ q, G p q ∧ W q
theorem og_tot_less {X A : Nat → Prop} (hW : og_tot G W) (hA : og_isA G mi W X A) : og_tot G (fun p => W p ∧ ¬ A p) := by
  rintro p ⟨h1, h2⟩
  refine Classical.byContradiction fun hno => h2 (hA.2.2.1 p h1 ?_)
  have hall : ∀ q, G p q → W q → A q := fun q h3 h4 => Classical.byContradiction fun h5 => hno ⟨q, h3, h4, h5⟩
  cases hm : mi p with
  | true => obtain ⟨q, h3, h4⟩ := hW p h1; exact .inl ⟨hm, q, h3, h4, hall q h3 h4⟩
  | false => exact .inr ⟨hm, hall⟩
/-- from an attractor one comes to its aim -/
theorem og_reach {X A : Nat → Prop} {r : Nat → Nat} (hA : og_isA G mi W X A) (hr : ∀ p, A p → X p ∨ og_rnk G mi W A r p) {c : Nat → Nat} (hW : ∀ i, W (c i)) (hG : ∀ i, G (c i) (c (i + 1))) (hs : ∀ i, A (c i) → ¬ X (c i) → mi (c i) = true → A (c (i + 1)) ∧ r (c (i + 1)) < r (c i)) : ∀ i, A (c i) → ∃ j, i ≤ j ∧ X (c j) := by
  have key : ∀ k i, r (c i) < k → A (c i) → ∃ j, i ≤ j ∧ X (c j) := by
    intro k
    induction k with
    | zero => intro i h; omega
    | succ k ih =>
      intro i hk hi
      by_cases hX : X (c i)
      · exact ⟨i, Nat.le_refl i, hX⟩
      · have : A (c (i + 1)) ∧ r (c (i + 1)) < r (c i) := by
          rcases hr _ hi with h | ⟨hm, -⟩ | ⟨hm, h1⟩
          · exact absurd h hX
          · exact hs i hi hX hm
          · exact h1 _ (hG i) (hW _)
        obtain ⟨j, h1, h2⟩ := ih (i + 1) (by omega) this.1
        exact ⟨j, by omega, h2⟩
  exact fun i => key (r (c i) + 1) i (by omega)
/-- all of it is won, where all of the rest is -/
theorem og_zi_all {X A : Nat → Prop} {d : Nat} (hd : d % 2 = b) (hX : ∀ p, X p ↔ (W p ∧ num p = d)) (hle : ∀ p, W p → d ≤ num p) (hA : og_isA G mi W X A) (hW : og_tot G W) (hR : og_win G mi num b (fun p => W p ∧ ¬ A p) (fun p => W p ∧ ¬ A p)) : og_win G mi num b W W := by
  obtain ⟨-, sr, hr1, hr2, hr3⟩ := hR
  obtain ⟨r, hrk⟩ := hA.2.2.2
  have hex : ∀ p, ∃ q, (W p → ¬ A p → q = sr p) ∧ (A p → ¬ X p → mi p = true → G p q ∧ A q ∧ r q < r p) ∧ (X p → mi p = true → G p q ∧ W q) := by
    intro p
    by_cases hX1 : X p
    · have hAp := hA.1 p hX1
      obtain ⟨q, h1, h2⟩ := hW p ((hX p).mp hX1).1
      exact ⟨q, fun _ h => absurd hAp h, fun _ h => absurd hX1 h, fun _ _ => ⟨h1, h2⟩⟩
    · by_cases hA1 : A p
      · rcases hrk p hA1 with h | ⟨hm, q, h1, h2, h3, h4⟩ | ⟨hm, h1⟩
        · exact absurd h hX1
        · exact ⟨q, fun _ h => absurd hA1 h, fun _ _ _ => ⟨h1, h3, h4⟩, fun h => absurd h hX1⟩
        · exact ⟨0, fun _ h => absurd hA1 h, fun _ _ h => (by rw [hm] at h; cases h), fun h => absurd h hX1⟩
      · exact ⟨sr p, fun _ _ => rfl, fun h => absurd h hA1, fun h => absurd h hX1⟩
  obtain ⟨s, hs⟩ := Classical.skolem.mp hex
  refine ⟨fun p h => h, s, fun p hp hm => ?_, fun p q _ _ _ h => h, fun c hc hst => ?_⟩
  · by_cases hX1 : X p
    · exact (hs p).2.2 hX1 hm
    · by_cases hA1 : A p
      · have := (hs p).2.1 hA1 hX1 hm
        exact ⟨this.1, hA.2.1 _ this.2.1⟩
      · rw [(hs p).1 hp hA1]
        have := hr1 p ⟨hp, hA1⟩ hm
        exact ⟨this.1, this.2.1⟩
  · by_cases hex : ∃ K, ∀ i, K ≤ i → ¬ A (c i)
    · obtain ⟨K, hK⟩ := hex
      refine og_lim_tail (k := K) (hr3 _ (fun i => ⟨hc _, hK _ (by omega)⟩) (fun i => ⟨?_, fun hm => ?_⟩))
      · have := (hst (i + K)).1
        rw [show i + K + 1 = i + 1 + K by omega] at this; exact this
      · have := (hst (i + K)).2 hm
        rw [show i + K + 1 = i + 1 + K by omega] at this
        rw [this]; exact (hs _).1 (hc _) (hK _ (by omega))
    · refine ⟨d, 0, hd, fun i _ => hle _ (hc i), fun i => ?_⟩
      obtain ⟨j, hj, hAj⟩ : ∃ j, i ≤ j ∧ A (c j) := Classical.byContradiction fun h => hex ⟨i, fun j hj hA => h ⟨j, hj, hA⟩⟩
      obtain ⟨j', h1, h2⟩ := og_reach hA hrk hc (fun i => (hst i).1) (fun i h1 h2 hm => by
        have := (hs (c i)).2.1 h1 h2 hm
        rw [← (hst i).2 hm] at this
        exact this.2) j hAj
      exact ⟨j', by omega, ((hX _).mp h2).2⟩
/-- what is left beside an attractor of the other's is won in all -/
theorem og_zi_sub {L A E : Nat → Prop} (hA : og_isA G (fun p => !mi p) W L A) (hE : og_win G mi num b (fun p => W p ∧ ¬ A p) E) : og_win G mi num b W E := by
  obtain ⟨h0, s, h1, h2, h3⟩ := hE
  refine ⟨fun p h => (h0 p h).1, s, h1, fun p q hp hm hg hq => ?_, h3⟩
  refine h2 p q hp hm hg ⟨hq, fun hAq => (h0 p hp).2 (hA.2.2.1 p (h0 p hp).1 (.inl ⟨by simp [hm], q, hg, hq, hAq⟩))⟩
/-- what is lost of the rest, with all from which it is come to, and what is won beside that -/
theorem og_zi_lost {X N L A O : Nat → Prop} (hN : og_isA G (fun p => !mi p) W X N) (hL : og_win G mi num b (fun p => W p ∧ ¬ N p) L) (hA : og_isA G mi W L A) (hO : og_win G mi num b (fun p => W p ∧ ¬ A p) O) : og_win G mi num b W (fun p => O p ∨ A p) := by
  obtain ⟨hL0, sl, hL1, hL2, hL3⟩ := hL
  obtain ⟨hO0, so, hO1, hO2, hO3⟩ := hO
  obtain ⟨r, hrk⟩ := hA.2.2.2
  have hex : ∀ p, ∃ q, (L p → q = sl p) ∧ (A p → ¬ L p → mi p = true → G p q ∧ A q ∧ r q < r p) ∧ (O p → q = so p) := by
    intro p
    by_cases hL4 : L p
    · exact ⟨sl p, fun _ => rfl, fun _ h => absurd hL4 h, fun h => absurd (hA.1 p hL4) (hO0 p h).2⟩
    · by_cases hA1 : A p
      · rcases hrk p hA1 with h | ⟨hm, q, h1, h2, h3, h4⟩ | ⟨hm, h1⟩
        · exact absurd h hL4
        · exact ⟨q, fun h => absurd h hL4, fun _ _ _ => ⟨h1, h3, h4⟩, fun h => absurd hA1 (hO0 p h).2⟩
        · exact ⟨0, fun h => absurd h hL4, fun _ _ h => (by rw [hm] at h; cases h), fun h => absurd hA1 (hO0 p h).2⟩
      · exact ⟨so p, fun h => absurd h hL4, fun h => absurd h hA1, fun _ => rfl⟩
  obtain ⟨s, hs⟩ := Classical.skolem.mp hex
  -- L is closed in all of W
  have hLc : ∀ p q, L p → mi p = false → G p q → W q → L q := fun p q hp hm hg hq =>
    hL2 p q hp hm hg ⟨hq, fun hNq => (hL0 p hp).2 (hN.2.2.1 p (hL0 p hp).1 (.inl ⟨by simp [hm], q, hg, hq, hNq⟩))⟩
  refine ⟨fun p h => h.elim (fun h => (hO0 p h).1) (hA.2.1 p), s, fun p hp hm => ?_, fun p q hp hm hg hq => ?_, fun c hc hst => ?_⟩
  · rcases hp with hp | hp
    · rw [(hs p).2.2 hp]
      have := hO1 p hp hm
      exact ⟨this.1, .inl this.2⟩
    · by_cases hL4 : L p
      · rw [(hs p).1 hL4]
        have := hL1 p hL4 hm
        exact ⟨this.1, .inr (hA.1 _ this.2)⟩
      · have := (hs p).2.1 hp hL4 hm
        exact ⟨this.1, .inr this.2.1⟩
  · rcases hp with hp | hp
    · by_cases hAq : A q
      · exact .inr hAq
      · exact .inl (hO2 p q hp hm hg ⟨hq, hAq⟩)
    · rcases hrk p hp with h | ⟨hm', -⟩ | ⟨-, h1⟩
      · exact .inr (hA.1 q (hLc p q h hm hg hq))
      · rw [hm] at hm'; cases hm'
      · exact .inr (h1 q hg hq).1
  · have hW : ∀ i, W (c i) := fun i => (hc i).elim (fun h => (hO0 _ h).1) (hA.2.1 _)
    by_cases hex : ∃ i, A (c i)
    · obtain ⟨i, hi⟩ := hex
      obtain ⟨K, -, hK⟩ := og_reach hA hrk hW (fun i => (hst i).1) (fun i h1 h2 hm => by
        have := (hs (c i)).2.1 h1 h2 hm
        rw [← (hst i).2 hm] at this
        exact this.2) i hi
      have hstay : ∀ j, L (c (j + K)) := by
        intro j
        induction j with
        | zero => rw [Nat.zero_add]; exact hK
        | succ j ih =>
          have h1 := hst (j + K)
          rw [show j + K + 1 = j + 1 + K by omega] at h1
          cases hm : mi (c (j + K)) with
          | true =>
            rw [h1.2 hm, (hs _).1 ih]
            exact (hL1 _ ih hm).2
          | false => exact hLc _ _ ih hm h1.1 (hW _)
      refine og_lim_tail (k := K) (hL3 _ hstay (fun i => ⟨?_, fun hm => ?_⟩))
      · have := (hst (i + K)).1
        rw [show i + K + 1 = i + 1 + K by omega] at this; exact this
      · have := (hst (i + K)).2 hm
        rw [show i + K + 1 = i + 1 + K by omega] at this
        rw [this]; exact (hs _).1 (hstay i)
    · have hO4 : ∀ i, O (c i) := fun i => (hc i).resolve_right fun h => hex ⟨i, h⟩
      exact hO3 c hO4 fun i => ⟨(hst i).1, fun hm => by rw [(hst i).2 hm]; exact (hs _).2.2 (hO4 i)⟩
theorem og_win_none {E : Nat → Prop} (h : ∀ p, ¬ E p) : og_win G mi num b W E := ⟨fun p hp => absurd hp (h p), fun _ => 0, fun p hp => absurd hp (h p), fun p _ hp => absurd hp (h p), fun c hc => absurd (hc 0) (h _)⟩
theorem og_win_congr {W' E E' : Nat → Prop} (hW : ∀ p, W p ↔ W' p) (hE : ∀ p, E p ↔ E' p) (h : og_win G mi num b W E) : og_win G mi num b W' E' := by
  have e1 : W = W' := funext fun p => propext (hW p)
  have e2 : E = E' := funext fun p => propext (hE p)
  rw [← e1, ← e2]; exact h
end ZI
