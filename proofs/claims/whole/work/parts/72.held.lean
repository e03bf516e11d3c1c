/-! ===== credits with a cap ===== -/
section HC
variable {n : Nat} {mi : Nat → Bool} {G : Nat → Nat → Prop} {u : Nat → Nat → Int} {T : Int}
/-- what a move asks for, cut at the cap -/
def og_cp (T : Int) (u : Nat → Nat → Int) (F : Nat → Int) (p q : Nat) : Int := min (T + 1) (if T < F q then F q else max 0 (F q - u p q))
def og_Fs (n : Nat) (mi : Nat → Bool) (G : Nat → Nat → Prop) (u : Nat → Nat → Int) (T : Int) (F : Nat → Nat → Int) : Prop := (∀ p, p < n → F 0 p = 0) ∧ ∀ k p, p < n → og_bx n (!mi p) (G p) (og_cp T u (F k) p) (F (k + 1) p)
theorem og_cp_b (hT : 0 ≤ T) {F : Nat → Int} {p q : Nat} (h : 0 ≤ F q) : 0 ≤ og_cp T u F p q ∧ og_cp T u F p q ≤ T + 1 := by
  unfold og_cp
  split <;> omega
theorem og_Fs_b (hT : 0 ≤ T) {F : Nat → Nat → Int} (h : og_Fs n mi G u T F) : ∀ k p, p < n → 0 ≤ F k p ∧ F k p ≤ T + 1
  | 0, p, hp => by rw [h.1 p hp]; omega
  | k + 1, p, hp => by
    obtain ⟨⟨q, h1, -, h3⟩, -⟩ := h.2 k p hp
    rw [h3]
    exact og_cp_b hT (og_Fs_b hT h k q h1).1
theorem og_cp_mono {F F' : Nat → Int} {p q : Nat} (h : F q ≤ F' q) : og_cp T u F p q ≤ og_cp T u F' p q := by
  unfold og_cp
  by_cases h1 : T < F q
  · rw [if_pos h1, if_pos (by omega)]; omega
  · rw [if_neg h1]
    by_cases h2 : T < F' q
    · rw [if_pos h2]; omega
    · rw [if_neg h2]; omega
theorem og_Fs_step (hT : 0 ≤ T) {F : Nat → Nat → Int} (h : og_Fs n mi G u T F) : ∀ k p, p < n → F k p ≤ F (k + 1) p
  | 0, p, hp => by
    have := (og_Fs_b hT h 1 p hp).1
    rw [h.1 p hp]; exact this
  | k + 1, p, hp => by
    obtain ⟨⟨q, a1, a2, a3⟩, a4⟩ := h.2 k p hp
    obtain ⟨⟨q', b1, b2, b3⟩, b4⟩ := h.2 (k + 1) p hp
    cases hm : mi p with
    | true =>
      have h1 := (a4 q' b1 b2).2 (by rw [hm]; rfl)
      have h2 := og_cp_mono (T := T) (u := u) (p := p) (og_Fs_step hT h k q' b1)
      omega
    | false =>
      have h1 := (b4 q a1 a2).1 (by rw [hm]; rfl)
      have h2 := og_cp_mono (T := T) (u := u) (p := p) (og_Fs_step hT h k q a1)
      omega
theorem og_Fs_fix (hT : 0 ≤ T) {F : Nat → Nat → Int} (h : og_Fs n mi G u T F) (hG : ∀ p q, G p q → q < n) {k : Nat} (hfix : ∀ p, p < n → F (k + 1) p ≤ F k p) : ∃ s, og_cert n mi G u (fun p => p < n ∧ F k p ≤ T) s (F k) := by
  have hin : ∀ p q, p < n → F k p ≤ T → G p q → og_cp T u (F k) p q ≤ F k p → F k q ≤ T ∧ F k q ≤ F k p + u p q := by
    intro p q hp h1 h2 h3
    unfold og_cp at h3
    by_cases h4 : T < F k q
    · rw [if_pos h4] at h3; omega
    · rw [if_neg h4] at h3; omega
  have hex : ∀ p, ∃ q, (p < n ∧ F k p ≤ T) → mi p = true → (G p q ∧ (q < n ∧ F k q ≤ T) ∧ F k q ≤ F k p + u p q) := by
    intro p
    by_cases hp : p < n ∧ F k p ≤ T ∧ mi p = true
    · obtain ⟨⟨q, a1, a2, a3⟩, -⟩ := h.2 k p hp.1
      have h1 := hfix p hp.1
      have h2 := hin p q hp.1 hp.2.1 a2 (by omega)
      exact ⟨q, fun _ _ => ⟨a2, ⟨a1, h2.1⟩, h2.2⟩⟩
    · exact ⟨0, fun h1 h2 => absurd ⟨h1.1, h1.2, h2⟩ hp⟩
  obtain ⟨s, hs⟩ := Classical.skolem.mp hex
  refine ⟨s, fun p hp => ⟨hp.1, (og_Fs_b hT h k p hp.1).1⟩, fun p hp hm => hs p hp hm, fun p q hp hm hg => ?_⟩
  obtain ⟨-, a4⟩ := h.2 k p hp.1
  have h1 := (a4 q (hG p q hg) hg).1 (by rw [hm]; rfl)
  have h2 := hfix p hp.1
  have h3 := hin p q hp.1 hp.2 hg (by omega)
  exact ⟨⟨hG p q hg, h3.1⟩, h3.2⟩
theorem og_cert_V {V : Nat → Nat → Int} (hV : og_Vs n mi G u V) {A : Nat → Prop} {s : Nat → Nat} {e : Nat → Int} (hc : og_cert n mi G u A s e) : ∀ k v, A v → -(e v) ≤ V k v
  | 0, v, hv => by
    have := hc.1 v hv
    rw [hV.1 v this.1]; omega
  | k + 1, v, hv => by
    have h1 := hc.1 v hv
    obtain ⟨⟨q, g1, g2, g3⟩, g4⟩ := og_Vs_st hV k h1.1
    cases hm : mi v with
    | true =>
      obtain ⟨a1, a2, a3⟩ := hc.2.1 v hv hm
      have h3 := og_cert_V hV hc k (s v) a2
      have h4 := (g4 (s v) (hc.1 _ a2).1 a1).1 hm
      omega
    | false =>
      obtain ⟨a1, a2⟩ := hc.2.2 v q hv hm g2
      have h3 := og_cert_V hV hc k q a1
      omega
/-- who can hold a sum up needs no more credit than a way without a loop takes -/
theorem og_Fs_low (h8 : n ≤ 8) (hG : ∀ p q, G p q → q < n) (hne : ∀ p, p < n → ∃ q, q < n ∧ G p q) {C W : Int} (hC0 : 0 ≤ C) (hW0 : 0 ≤ W) (hu : ∀ p q, G p q → -C ≤ u p q ∧ -W ≤ u p q ∧ u p q ≤ W) (hT : ((n - 1 : Nat) : Int) * C ≤ T) (hT0 : 0 ≤ T) {V : Nat → Nat → Int} (hV : og_Vs n mi G u V) {p : Nat} (hp : p < n) {B : Int} (hB : ∀ k, -B ≤ V k p) {F : Nat → Nat → Int} (hF : og_Fs n mi G u T F) (k : Nat) : F k p ≤ T := by
  have hV9 := og_Vs_lin (a := -1) (b := 9) (by omega) hV
  have hW9 : ∀ p q, p < n → q < n → G p q → -(9 * W + 1) ≤ 9 * u p q - -1 ∧ 9 * u p q - -1 ≤ 9 * W + 1 := fun p q _ _ hg => by
    have := hu p q hg; omega
  have hE := og_Ec_ok (n := n) (mi := mi) (G := G) (u := fun p q => 9 * u p q - -1) hne
  have hE' := og_Ec_ok (n := n) (mi := fun p => !mi p) (G := G) (u := fun p q => -(9 * u p q - -1)) hne
  rcases og_weak hE hE' hV9 (by omega) hW9 hp with hf | hf
  · obtain ⟨s, e, hc⟩ := og_cert_ex hE hG hW9
    generalize og_Ec n mi G (fun p q => 9 * u p q - -1) = E9 at hc hf
    have conv : ∀ {k p q : Nat} {x : Int}, og_wk (og_H mi G s) u k p q x → og_wk (og_H mi G s) (fun p q => 9 * u p q - -1) k p q (9 * x - -1 * k) := fun h => og_wk_lin (a := -1) (b := 9) h
    have hA : ∀ v q, (v < n ∧ og_fin E9 v) → og_H mi G s v q → (q < n ∧ og_fin E9 q) := fun v q hv h => (og_cert_wk hc (s' := s) (fun _ _ _ => rfl) hv (conv (k := 1) ⟨v, 0, ⟨rfl, rfl⟩, h, rfl⟩)).1
    have hloop : ∀ v, (v < n ∧ og_fin E9 v) → ∀ i w y j z, og_wk (og_H mi G s) u i v w y → 1 ≤ j → j ≤ n → og_wk (og_H mi G s) u j w w z → 0 ≤ z := by
      intro v hv i w y j z w1 hj hjn w2
      obtain ⟨c1, -⟩ := og_cert_wk hc (s' := s) (fun _ _ _ => rfl) hv (conv w1)
      obtain ⟨-, c2⟩ := og_cert_wk hc (s' := s) (fun _ _ _ => rfl) c1 (conv w2)
      omega
    have hpot : ∀ v, (v < n ∧ og_fin E9 v) → ∀ j q y, og_wk (og_H mi G s) u j v q y → -T ≤ y := by
      intro v hv j q y hw
      obtain ⟨A', π, a1, a2, a3, a4⟩ := og_pot (H := og_H mi G s) (u := u) (fun r q h => hG r q h.1) hv.1 hC0 (fun r q h => (hu r q h.1).1) (og_K1_of (fun r q h => hG r q h.1) hv.1 (hloop v hv))
      obtain ⟨b1, b2⟩ := og_pot_wk a4 a1 hw
      have := (a2 q b1).2
      omega
    have key : ∀ k v, (v < n ∧ og_fin E9 v) → F k v ≤ T ∧ (F k v = 0 ∨ ∃ j q y, og_wk (og_H mi G s) u j v q y ∧ y ≤ -F k v) := by
      intro k
      induction k with
      | zero => intro v hv; rw [hF.1 v hv.1]; exact ⟨hT0, .inl rfl⟩
      | succ k ih =>
        intro v hv
        have one : ∀ q, og_H mi G s v q → og_cp T u (F k) v q = 0 ∨ ∃ j r y, og_wk (og_H mi G s) u j v r y ∧ y ≤ -og_cp T u (F k) v q := by
          intro q hq
          have hAq := hA v q hv hq
          obtain ⟨i1, i2⟩ := ih q hAq
          unfold og_cp
          rw [if_neg (by omega)]
          by_cases h0 : F k q - u v q ≤ 0
          · exact .inl (by omega)
          · right
            rcases i2 with i2 | ⟨j, r, y, w1, w2⟩
            · exact ⟨1, q, 0 + u v q, ⟨v, 0, ⟨rfl, rfl⟩, hq, rfl⟩, by omega⟩
            · exact ⟨1 + j, r, 0 + u v q + y, og_wk_app (i := 1) ⟨v, 0, ⟨rfl, rfl⟩, hq, rfl⟩ w1, by omega⟩
        obtain ⟨⟨q, a1, a2, a3⟩, a4⟩ := hF.2 k v hv.1
        have h0 := (og_Fs_b hT0 hF (k + 1) v hv.1).1
        have h2 : F (k + 1) v = 0 ∨ ∃ j q y, og_wk (og_H mi G s) u j v q y ∧ y ≤ -F (k + 1) v := by
          cases hm : mi v with
          | true =>
            have hsv := hc.2.1 v hv hm
            have h1 := (a4 (s v) hsv.2.1.1 hsv.1).2 (by rw [hm]; rfl)
            rcases one (s v) ⟨hsv.1, fun _ => rfl⟩ with h2 | ⟨j, r, y, w1, w2⟩
            · exact .inl (by omega)
            · exact .inr ⟨j, r, y, w1, by omega⟩
          | false =>
            rcases one q ⟨a2, fun h => by rw [hm] at h; cases h⟩ with h2 | ⟨j, r, y, w1, w2⟩
            · exact .inl (by omega)
            · exact .inr ⟨j, r, y, w1, by omega⟩
        refine ⟨?_, h2⟩
        rcases h2 with h2 | ⟨j, r, y, w1, w2⟩
        · omega
        · have := hpot v hv j r y w1
          omega
    exact (key k p ⟨hp, hf⟩).1
  · exfalso
    obtain ⟨t, e, hc⟩ := og_cert_ex hE' hG (W := 9 * W + 1) (fun p q hp hq hg => by have := hW9 p q hp hq hg; omega)
    have hV' := og_Vs_neg hV9
    have h1 := og_cert_V hV' hc ((9 * B + e p).toNat + 1) p ⟨hp, hf⟩
    have h2 := hB ((9 * B + e p).toNat + 1)
    have h3 : -(e p) ≤ -(9 * V ((9 * B + e p).toNat + 1) p - -1 * (((9 * B + e p).toNat + 1 : Nat) : Int)) := h1
    omega
/-- the credits stand still, or go over the cap -/
theorem og_Fs_sum (hT : 0 ≤ T) {F : Nat → Nat → Int} (h : og_Fs n mi G u T F) {k : Nat} (hr : ∀ j, j < k → ∃ p, p < n ∧ F j p < F (j + 1) p) : k ≤ og_sum (fun p => (F k p).toNat) n := by
  induction k with
  | zero => omega
  | succ k ih =>
    have h1 := ih (fun j hj => hr j (by omega))
    obtain ⟨p, hp, hlt⟩ := hr k (by omega)
    have := og_sum_lt (f := fun p => (F k p).toNat) (g := fun p => (F (k + 1) p).toNat) hp (fun q hq => by
      have := og_Fs_step hT h k q hq
      show (F k q).toNat ≤ (F (k + 1) q).toNat
      omega) (by
      have := (og_Fs_b hT h k p hp).1
      show (F k p).toNat < (F (k + 1) p).toNat
      omega)
    omega
end HC
