/-! ===== attractors as sets ===== -/
def og_sur (G : Nat → Nat → Prop) (mi : Nat → Bool) (W A : Nat → Prop) (p : Nat) : Prop := (mi p = true ∧ ∃ q, G p q ∧ W q ∧ A q) ∨ (mi p = false ∧ ∀ q, G p q → W q → A q)
def og_rnk (G : Nat → Nat → Prop) (mi : Nat → Bool) (W A : Nat → Prop) (r : Nat → Nat) (p : Nat) : Prop := (mi p = true ∧ ∃ q, G p q ∧ W q ∧ A q ∧ r q < r p) ∨ (mi p = false ∧ ∀ q, G p q → W q → A q ∧ r q < r p)
def og_isA (G : Nat → Nat → Prop) (mi : Nat → Bool) (W X A : Nat → Prop) : Prop := (∀ p, X p → A p) ∧ (∀ p, A p → W p) ∧ (∀ p, W p → og_sur G mi W A p → A p) ∧ ∃ r : Nat → Nat, ∀ p, A p → X p ∨ og_rnk G mi W A r p
theorem og_isA_min {G : Nat → Nat → Prop} {mi : Nat → Bool} {W X A : Nat → Prop} (h : og_isA G mi W X A) {Z : Nat → Prop} (h0 : ∀ p, X p → Z p) (h1 : ∀ p, A p → og_sur G mi W (fun q => A q ∧ Z q) p → Z p) : ∀ p, A p → Z p := by
  obtain ⟨-, -, -, r, hr⟩ := h
  have key : ∀ k p, r p < k → A p → Z p := by
    intro k
    induction k with
    | zero => intro p hp; omega
    | succ k ih =>
      intro p hp hA
      rcases hr p hA with hX | ⟨hm, q, h2, h3, h4, h5⟩ | ⟨hm, h2⟩
      · exact h0 p hX
      · exact h1 p hA (.inl ⟨hm, q, h2, h3, h4, ih q (by omega) h4⟩)
      · exact h1 p hA (.inr ⟨hm, fun q h3 h4 => ⟨(h2 q h3 h4).1, ih q (by have := (h2 q h3 h4).2; omega) (h2 q h3 h4).1⟩⟩)
  exact fun p => key (r p + 1) p (by omega)
theorem og_sur_mono {G : Nat → Nat → Prop} {mi : Nat → Bool} {W A A' : Nat → Prop} (h : ∀ q, A q → A' q) {p : Nat} (hs : og_sur G mi W A p) : og_sur G mi W A' p := by
  rcases hs with ⟨hm, q, h1, h2, h3⟩ | ⟨hm, h1⟩
  · exact .inl ⟨hm, q, h1, h2, h q h3⟩
  · exact .inr ⟨hm, fun q h2 h3 => h q (h1 q h2 h3)⟩
/-- where ONE player stays in (the trap of the other) -/
def og_trap (G : Nat → Nat → Prop) (mi : Nat → Bool) (L : Nat → Prop) : Prop := ∀ p, L p → og_sur G mi (fun _ => True) L p
theorem og_trap_less {G : Nat → Nat → Prop} {mi : Nat → Bool} {L X B : Nat → Prop} (hL : og_trap G mi L) (hB : og_isA G (fun p => !mi p) L X B) : og_trap G mi (fun p => L p ∧ ¬ B p) := by
  rintro p ⟨h1, h2⟩
  have h3 : ¬ og_sur G (fun p => !mi p) L B p := fun h => h2 (hB.2.2.1 p h1 h)
  rcases hL p h1 with ⟨hm, q, h4, -, h5⟩ | ⟨hm, h4⟩
  · refine .inl ⟨hm, Classical.byContradiction fun h6 => h3 (.inr ⟨by simp [hm], fun q h7 h8 => Classical.byContradiction fun h9 => h6 ⟨q, h7, trivial, h8, h9⟩⟩)⟩
  · refine .inr ⟨hm, fun q h7 _ => ⟨h4 q h7 trivial, fun h8 => h3 (.inl ⟨by simp [hm], q, h7, h4 q h7 trivial, h8⟩)⟩⟩
section BU
variable {G : Nat → Nat → Prop} {mi : Nat → Bool} {V : Nat → Prop}
def og_pre (G : Nat → Nat → Prop) (mi : Nat → Bool) (V Y : Nat → Prop) (p : Nat) : Prop := V p ∧ og_sur G mi V Y p
/-- what stands in a trap and is brought to a set within it lies in the model's -/
theorem og_bu_in {L T A Y F : Nat → Prop} (hV : ∀ p q, G p q → V q) (hLV : ∀ p, L p → V p) (hL : og_trap G mi L) (hA : og_isA G mi L (fun p => T p ∧ L p) A) (hLA : ∀ p, L p → A p) (hY : ∀ p, L p → Y p) (hF : og_isA G mi V (fun p => T p ∧ og_pre G mi V Y p) F) : ∀ p, L p → F p := by
  intro p hp
  refine og_isA_min hA (Z := F) ?_ ?_ p (hLA p hp)
  · rintro p ⟨h1, h2⟩
    refine hF.1 p ⟨h1, hLV p h2, ?_⟩
    rcases hL p h2 with ⟨hm, q, h4, -, h5⟩ | ⟨hm, h4⟩
    · exact .inl ⟨hm, q, h4, hV p q h4, hY q h5⟩
    · exact .inr ⟨hm, fun q h7 _ => hY q (h4 q h7 trivial)⟩
  · intro p hA1 hs
    have hLp := hA.2.1 p hA1
    refine hF.2.2.1 p (hLV p hLp) ?_
    rcases hs with ⟨hm, q, h1, h2, h3, h4⟩ | ⟨hm, h1⟩
    · exact .inl ⟨hm, q, h1, hV p q h1, h4⟩
    · refine .inr ⟨hm, fun q h2 _ => ?_⟩
      rcases hL p hLp with ⟨hm', -⟩ | ⟨-, h5⟩
      · rw [hm] at hm'; cases hm'
      · exact (h1 q h2 (h5 q h2 trivial)).2
/-- the greatest: F1 and F2 of the model's set lie in it -/
theorem og_bu_F {W T1 T2 F1 F2 : Nat → Prop} (hF1 : og_isA G mi V (fun p => T1 p ∧ og_pre G mi V W p) F1) (hF2 : og_isA G mi V (fun p => T2 p ∧ og_pre G mi V W p) F2) (hW1 : ∀ p, W p → F1 p) (hW2 : ∀ p, W p → F2 p) {Y F1' F2' : Nat → Prop} (hY : ∀ p, F1 p → Y p) (hF1' : og_isA G mi V (fun p => T1 p ∧ og_pre G mi V Y p) F1') (hF2' : og_isA G mi V (fun p => T2 p ∧ og_pre G mi V Y p) F2') : ∀ p, F1 p → F1' p ∧ F2' p := by
  have hpre : ∀ p, og_pre G mi V W p → og_pre G mi V Y p := fun p h => ⟨h.1, og_sur_mono (fun q hq => hY q (hW1 q hq)) h.2⟩
  have h22 : ∀ p, F2 p → F2' p := og_isA_min hF2 (fun p h => hF2'.1 p ⟨h.1, hpre p h.2⟩) (fun p h1 h2 => hF2'.2.2.1 p (hF2.2.1 p h1) (og_sur_mono (fun q h => h.2) h2))
  intro p hp
  refine ⟨og_isA_min hF1 (fun p h => hF1'.1 p ⟨h.1, hpre p h.2⟩) (fun p h1 h2 => hF1'.2.2.1 p (hF1.2.1 p h1) (og_sur_mono (fun q h => h.2) h2)) p hp, ?_⟩
  refine og_isA_min hF1 (fun p h => ?_) (fun p h1 h2 => hF2'.2.2.1 p (hF1.2.1 p h1) (og_sur_mono (fun q h => h.2) h2)) p hp
  exact hF2'.2.2.1 p h.2.1 (og_sur_mono (fun q hq => h22 q (hW2 q hq)) h.2.2)
theorem og_bu_pre {W T F : Nat → Prop} (hF : og_isA G mi V (fun p => T p ∧ og_pre G mi V W p) F) (hWF : ∀ p, W p → F p) (hFW : ∀ p, F p → W p) : ∀ p, W p → og_sur G mi V W p := by
  intro p hp
  obtain ⟨r, hr⟩ := hF.2.2.2
  rcases hr p (hWF p hp) with h | ⟨hm, q, h1, h2, h3, -⟩ | ⟨hm, h1⟩
  · exact h.2.2
  · exact .inl ⟨hm, q, h1, h2, hFW q h3⟩
  · exact .inr ⟨hm, fun q h2 h3 => hFW q (h1 q h2 h3).1⟩
/-- what the model finds is not taken away -/
theorem og_bu_out {W T F L A B : Nat → Prop} (hV : ∀ p q, G p q → V q) (hF : og_isA G mi V (fun p => T p ∧ og_pre G mi V W p) F) (hWF : ∀ p, W p → F p) (hFW : ∀ p, F p → W p) (hWL : ∀ p, W p → L p) (hA : og_isA G mi L (fun p => T p ∧ L p) A) (hB : og_isA G (fun p => !mi p) L (fun p => L p ∧ ¬ A p) B) : ∀ p, W p → ¬ B p := by
  have hWA : ∀ p, W p → A p := by
    intro p hp
    refine og_isA_min hF (Z := A) ?_ ?_ p (hWF p hp)
    · rintro p ⟨h1, h2⟩
      exact hA.1 p ⟨h1, hWL p (hFW p (hF.1 p ⟨h1, h2⟩))⟩
    · intro p h1 h2
      refine hA.2.2.1 p (hWL p (hFW p h1)) ?_
      rcases h2 with ⟨hm, q, h3, h4, h5, h6⟩ | ⟨hm, h3⟩
      · exact .inl ⟨hm, q, h3, hA.2.1 q h6, h6⟩
      · exact .inr ⟨hm, fun q h4 _ => (h3 q h4 (hV p q h4)).2⟩
  have hpre := og_bu_pre hF hWF hFW
  have : ∀ p, B p → ¬ W p := by
    refine og_isA_min hB (Z := fun p => ¬ W p) ?_ ?_
    · rintro p ⟨h1, h2⟩ h3
      exact h2 (hWA p h3)
    · intro p h1 h2 h3
      rcases hpre p h3 with ⟨hm, q, h4, h5, h6⟩ | ⟨hm, h4⟩
      · rcases h2 with ⟨hm', -⟩ | ⟨-, h7⟩
        · simp [hm] at hm'
        · exact (h7 q h4 (hWL q h6)).2 h6
      · rcases h2 with ⟨-, q, h5, h6, h7, h8⟩ | ⟨hm', -⟩
        · exact h8 (h4 q h5 (hV p q h5))
        · simp [hm] at hm'
  exact fun p h1 h2 => this p h2 h1
end BU
/-! ===== the masks' attractors are such ===== -/
theorem og_itr_le {f : Int32 → Int32} (hf : ∀ y p, og_S y p → og_S (f y) p) (x : Int32) (p : Nat) : ∀ (k j : Nat), og_S (og_itr f j x) p → og_S (og_itr f (j + k) x) p
  | 0, _, h => h
  | k + 1, j, h => hf _ p (og_itr_le hf x p k j h)
theorem og_cnt_pos {f : Nat → Bool} : ∀ {n k : Nat}, k ≤ n → (∀ j, j < k → f j = true) → k ≤ og_cnt f n
  | 0, k, h, _ => by omega
  | n + 1, k, h, hf => by
    show k ≤ og_cnt f n + (if f n = true then 1 else 0)
    by_cases hk : k ≤ n
    · have := og_cnt_pos (n := n) hk hf
      omega
    · have : k = n + 1 := by omega
      subst this
      have h1 := og_cnt_pos (f := f) (n := n) (k := n) (by omega) (fun j hj => hf j (by omega))
      rw [if_pos (hf n (by omega))]; omega
theorem og_cnt_upto {f : Nat → Bool} {k : Nat} : ∀ {n : Nat}, (∀ j, k ≤ j → f j = false) → og_cnt f n ≤ k
  | 0, _ => Nat.zero_le _
  | n + 1, hf => by
    show og_cnt f n + (if f n = true then 1 else 0) ≤ k
    by_cases hk : k ≤ n
    · rw [hf n hk]
      have := og_cnt_upto (n := n) hf
      simpa using this
    · have := og_cnt_le f n
      split <;> omega
theorem og_isA_at {N : Nat → Int32} {mi : Nat → Bool} {n : Nat} (h8 : n ≤ 8) {wi x : Int32} (hw : og_wn n wi) : og_isA (fun p => og_S (N p)) mi (og_S wi) (fun p => og_S x p ∧ og_S wi p) (og_S (og_at N mi n wi (x &&& wi))) := by
  have hx : og_wn n (x &&& wi) := og_wn_and' hw
  have hst := og_at_st (N := N) (mi := mi) (wi := wi) h8 hx
  have hf : ∀ y p, og_S y p → og_S (y ||| og_one N mi n wi y) p := fun y p h => og_S_or.mpr (.inl h)
  refine ⟨fun p h => ?_, fun p h => ?_, fun p h1 h2 => ?_, fun p => og_cnt (fun k => !om_b (og_itr (fun y => y ||| og_one N mi n wi y) k (x &&& wi)) p) (n + 1), fun p hp => ?_⟩
  · have := og_itr_le hf (x &&& wi) p n 0 (og_S_and.mpr h)
    rw [Nat.zero_add] at this; exact this
  · exact og_itr_in (f := fun y => y ||| og_one N mi n wi y) (P := fun y => ∀ p, og_S y p → og_S wi p) (fun y hy p h => (og_S_or.mp h).elim (hy p) (fun h => ((og_S_one h8).mp h).2.1)) (fun p h => (og_S_and.mp h).2) n p h
  · have : og_S (og_at N mi n wi (x &&& wi) ||| og_one N mi n wi (og_at N mi n wi (x &&& wi))) p := og_S_or.mpr (.inr ((og_S_one h8).mpr ⟨og_S_lt hw h1, h1, og_su_iff.mpr h2⟩))
    have he : og_at N mi n wi (x &&& wi) ||| og_one N mi n wi (og_at N mi n wi (x &&& wi)) = og_at N mi n wi (x &&& wi) := hst
    rw [he] at this; exact this
  · by_cases hX : og_S x p ∧ og_S wi p
    · exact .inl hX
    right
    have h0 : om_b (og_itr (fun y => y ||| og_one N mi n wi y) 0 (x &&& wi)) p = false := by
      cases hb : om_b (x &&& wi) p with
      | false => exact hb
      | true => exact absurd (og_S_and.mp hb) hX
    -- the first look that has p
    obtain ⟨k, hk, hk1, hk2⟩ : ∃ k, k < n ∧ om_b (og_itr (fun y => y ||| og_one N mi n wi y) k (x &&& wi)) p = false ∧ om_b (og_itr (fun y => y ||| og_one N mi n wi y) (k + 1) (x &&& wi)) p = true := by
      refine Classical.byContradiction fun hno => ?_
      have : ∀ k, k ≤ n → om_b (og_itr (fun y => y ||| og_one N mi n wi y) k (x &&& wi)) p = false := by
        intro k
        induction k with
        | zero => intro _; exact h0
        | succ k ih =>
          intro hk
          cases hb : om_b (og_itr (fun y => y ||| og_one N mi n wi y) (k + 1) (x &&& wi)) p with
          | false => rfl
          | true => exact absurd ⟨k, by omega, ih (by omega), hb⟩ hno
      have h1 := this n (Nat.le_refl n)
      have h2 : om_b (og_itr (fun y => y ||| og_one N mi n wi y) n (x &&& wi)) p = true := hp
      rw [h1] at h2; cases h2
    have hout : ∀ j, j ≤ k → om_b (og_itr (fun y => y ||| og_one N mi n wi y) j (x &&& wi)) p = false := by
      intro j hj
      cases hb : om_b (og_itr (fun y => y ||| og_one N mi n wi y) j (x &&& wi)) p with
      | false => rfl
      | true =>
        have := og_itr_le hf (x &&& wi) p (k - j) j hb
        rw [show j + (k - j) = k by omega] at this
        have h2 : om_b (og_itr (fun y => y ||| og_one N mi n wi y) k (x &&& wi)) p = true := this
        rw [hk1] at h2; cases h2
    have hrp : k + 1 ≤ og_cnt (fun k => !om_b (og_itr (fun y => y ||| og_one N mi n wi y) k (x &&& wi)) p) (n + 1) :=
      og_cnt_pos (by omega) fun j hj => by simp [hout j (by omega)]
    have hrq : ∀ q, og_S (og_itr (fun y => y ||| og_one N mi n wi y) k (x &&& wi)) q → og_S (og_at N mi n wi (x &&& wi)) q ∧ og_cnt (fun k => !om_b (og_itr (fun y => y ||| og_one N mi n wi y) k (x &&& wi)) q) (n + 1) < og_cnt (fun k => !om_b (og_itr (fun y => y ||| og_one N mi n wi y) k (x &&& wi)) p) (n + 1) := by
      intro q hq
      constructor
      · have := og_itr_le hf (x &&& wi) q (n - k) k hq
        rw [show k + (n - k) = n by omega] at this
        exact this
      · have : og_cnt (fun k => !om_b (og_itr (fun y => y ||| og_one N mi n wi y) k (x &&& wi)) q) (n + 1) ≤ k := by
          refine og_cnt_upto fun j hj => ?_
          have := og_itr_le hf (x &&& wi) q (j - k) k hq
          rw [show k + (j - k) = j by omega] at this
          have h2 : om_b (og_itr (fun y => y ||| og_one N mi n wi y) j (x &&& wi)) q = true := this
          simp [h2]
        omega
    have hin : og_S (og_one N mi n wi (og_itr (fun y => y ||| og_one N mi n wi y) k (x &&& wi))) p := by
      have h1 : og_S (og_itr (fun y => y ||| og_one N mi n wi y) k (x &&& wi) ||| og_one N mi n wi (og_itr (fun y => y ||| og_one N mi n wi y) k (x &&& wi))) p := hk2
      rcases og_S_or.mp h1 with h | h
      · unfold og_S at h; rw [hk1] at h; cases h
      · exact h
    rcases og_su_iff.mp ((og_S_one h8).mp hin).2.2 with ⟨hm, q, h1, h2, h3⟩ | ⟨hm, h1⟩
    · exact .inl ⟨hm, q, h1, h2, hrq q h3⟩
    · exact .inr ⟨hm, fun q h2 h3 => hrq q (h1 q h2 h3)⟩
