/-! ===== the component's stack of answers ===== -/
def og_lb (x : Int64) (i : Nat) : Bool := x.toBitVec.getLsbD i
theorem og_l1 : ((1 : Int32).toInt64 &&& 63) = (1 : Int64) := by decide
theorem og_lb_and (x y : Int64) (i : Nat) : og_lb (x &&& y) i = (og_lb x i && og_lb y i) := by
  simp [og_lb, Int64.toBitVec_and]
theorem og_lb_or (x y : Int64) (i : Nat) : og_lb (x ||| y) i = (og_lb x i || og_lb y i) := by
  simp [og_lb, Int64.toBitVec_or]
theorem og_lb_xor (x y : Int64) (i : Nat) : og_lb (x ^^^ y) i = (og_lb x i ^^ og_lb y i) := by
  simp [og_lb, Int64.toBitVec_xor]
theorem og_lb_1 (i : Nat) : og_lb 1 i = decide (i = 0) := by
  unfold og_lb
  by_cases h : i < 64
  · have : ∀ j : Fin 64, (1 : Int64).toBitVec.getLsbD j.val = decide (j.val = 0) := by decide
    exact this ⟨i, h⟩
  · rw [BitVec.getLsbD_of_ge _ _ (by omega)]; simp; omega
theorem og_lb_0 (i : Nat) : og_lb 0 i = false := by
  unfold og_lb
  by_cases h : i < 64
  · have : ∀ j : Fin 64, (0 : Int64).toBitVec.getLsbD j.val = false := by decide
    exact this ⟨i, h⟩
  · exact BitVec.getLsbD_of_ge _ _ (by omega)
theorem og_lb_m2 (i : Nat) : og_lb (-2) i = (decide (i < 64) && decide (i ≠ 0)) := by
  unfold og_lb
  by_cases h : i < 64
  · have : ∀ j : Fin 64, (-2 : Int64).toBitVec.getLsbD j.val = (decide (j.val < 64) && decide (j.val ≠ 0)) := by decide
    exact this ⟨i, h⟩
  · rw [BitVec.getLsbD_of_ge _ _ (by omega)]; simp [h]
theorem og_lb_shl (x : Int64) (i : Nat) : og_lb (x <<< (1 : Int64)) i = (decide (i < 64) && decide (i ≠ 0) && og_lb x (i - 1)) := by
  unfold og_lb
  rw [Int64.toBitVec_shiftLeft, show (1 : Int64).toBitVec.smod 64 = 1#64 by decide, BitVec.shiftLeft_eq', BitVec.getLsbD_shiftLeft]
  simp
theorem og_lb_shr (x : Int64) (i : Nat) (h63 : og_lb x 63 = false) : og_lb (x >>> (1 : Int64)) i = og_lb x (i + 1) := by
  unfold og_lb at *
  rw [Int64.toBitVec_shiftRight, show (1 : Int64).toBitVec.smod 64 = 1#64 by decide, BitVec.sshiftRight_eq', show (1#64).toNat = 1 from rfl, BitVec.getLsbD_sshiftRight]
  have hm : x.toBitVec.msb = false := by rw [BitVec.msb_eq_getLsbD_last]; exact h63
  by_cases h : 64 ≤ i
  · simp [h, BitVec.getLsbD_of_ge x.toBitVec (i + 1) (by omega)]
  · by_cases h2 : 1 + i < 64
    · simp [h, h2, Nat.add_comm]
      intro h3; omega
    · have : i = 63 := by omega
      subst this
      simp [hm, BitVec.getLsbD_of_ge]
/-- the answers that wait: d of them, the newest at d - 1 -/
def og_sk (x : Int64) (d : Nat) (st : Nat → Bool) : Prop := d ≤ 61 ∧ ∀ i, i < 64 → og_lb x i = (decide (i < d) && st (d - 1 - i))
theorem og_sk_push {x : Int64} {d : Nat} {st : Nat → Bool} (h : og_sk x d st) (hd : d ≤ 60) (b : Bool) : og_sk ((x <<< ((1 : Int32).toInt64 &&& 63)) ||| (om_bi b).toInt64) (d + 1) (fun i => if i = d then b else st i) := by
  refine ⟨by omega, fun i hi => ?_⟩
  rw [og_l1, og_lb_or, og_lb_shl]
  have hb : og_lb (om_bi b).toInt64 i = (decide (i = 0) && b) := by
    cases b
    · rw [show (om_bi false).toInt64 = 0 by decide, og_lb_0]; simp
    · rw [show (om_bi true).toInt64 = 1 by decide, og_lb_1]; simp
  rw [hb]
  by_cases h0 : i = 0
  · subst h0; simp
  · have h1 := h.2 (i - 1) (by omega)
    rw [h1]
    have e1 : decide (i - 1 < d) = decide (i < d + 1) := by apply Bool.eq_iff_iff.mpr; simp; omega
    have e2 : d + 1 - 1 - i = d - 1 - (i - 1) := by omega
    simp only [hi, h0, e1, e2, decide_true, decide_false, ne_eq, not_false_eq_true, Bool.true_and, Bool.false_and, Bool.or_false]
    by_cases h2 : i < d + 1
    · rw [if_neg (show ¬ d - 1 - (i - 1) = d by omega)]
    · simp [h2]
theorem og_sk_not {x : Int64} {d : Nat} {st : Nat → Bool} (h : og_sk x d st) (hd : 1 ≤ d) : og_sk (x ^^^ 1) d (fun i => if i = d - 1 then !st i else st i) := by
  refine ⟨h.1, fun i hi => ?_⟩
  rw [og_lb_xor, h.2 i hi, og_lb_1]
  by_cases h0 : i = 0
  · subst h0; simp [show 0 < d by omega]
  · by_cases h2 : i < d
    · simp [h0, h2, show ¬ d - 1 - i = d - 1 by omega]
    · simp [h0, h2]
theorem og_sk_and {x : Int64} {d : Nat} {st : Nat → Bool} (h : og_sk x d st) (hd : 2 ≤ d) : og_sk ((x >>> ((1 : Int32).toInt64 &&& 63)) &&& ((x &&& 1) ||| (-2))) (d - 1) (fun i => if i = d - 2 then (st (d - 2) && st (d - 1)) else st i) := by
  have h61 := h.1
  have h63 : og_lb x 63 = false := by rw [h.2 63 (by omega)]; simp; omega
  refine ⟨by omega, fun i hi => ?_⟩
  rw [og_l1, og_lb_and, og_lb_or, og_lb_and, og_lb_shr x i h63, og_lb_1, og_lb_m2, h.2 i hi]
  by_cases h0 : i = 0
  · subst h0
    rw [h.2 (0 + 1) (by omega)]
    simp [show 0 < d by omega, show 1 < d by omega, show 0 < d - 1 by omega, show d - 1 - 1 = d - 2 by omega]
  · by_cases hi2 : i + 1 < 64
    · rw [h.2 (i + 1) hi2]
      by_cases h2 : i + 1 < d
      · simp [h0, hi, h2, show i < d - 1 by omega, show ¬ d - 1 - 1 - i = d - 2 by omega, show d - 1 - (i + 1) = d - 1 - 1 - i by omega]
      · simp [h0, hi, h2, show ¬ i < d - 1 by omega]
    · have e : i = 63 := by omega
      subst e
      rw [show og_lb x (63 + 1) = false from BitVec.getLsbD_of_ge _ _ (by omega)]
      simp; omega
theorem og_sk_or {x : Int64} {d : Nat} {st : Nat → Bool} (h : og_sk x d st) (hd : 2 ≤ d) : og_sk ((x >>> ((1 : Int32).toInt64 &&& 63)) ||| (x &&& 1)) (d - 1) (fun i => if i = d - 2 then (st (d - 2) || st (d - 1)) else st i) := by
  have h61 := h.1
  have h63 : og_lb x 63 = false := by rw [h.2 63 (by omega)]; simp; omega
  refine ⟨by omega, fun i hi => ?_⟩
  rw [og_l1, og_lb_or, og_lb_and, og_lb_shr x i h63, og_lb_1, h.2 i hi]
  by_cases h0 : i = 0
  · subst h0
    rw [h.2 (0 + 1) (by omega)]
    simp [show 0 < d by omega, show 1 < d by omega, show 0 < d - 1 by omega, show d - 1 - 1 = d - 2 by omega]
  · by_cases hi2 : i + 1 < 64
    · rw [h.2 (i + 1) hi2]
      by_cases h2 : i + 1 < d
      · simp [h0, hi, h2, show i < d - 1 by omega, show ¬ d - 1 - 1 - i = d - 2 by omega, show d - 1 - (i + 1) = d - 1 - 1 - i by omega]
      · simp [h0, hi, h2, show ¬ i < d - 1 by omega]
    · have e : i = 63 := by omega
      subst e
      rw [show og_lb x (63 + 1) = false from BitVec.getLsbD_of_ge _ _ (by omega)]
      simp; omega
/-- the one that is left -/
theorem og_sk_top {x : Int64} {st : Nat → Bool} (h : og_sk x 1 st) : (lg_cmp (x &&& 1) 0 = 0) ↔ st 0 = false := by
  have hx : x &&& 1 = if st 0 = true then 1 else 0 := by
    apply Int64.toBitVec_inj.mp
    apply BitVec.eq_of_getLsbD_eq
    intro i hi
    show og_lb (x &&& 1) i = og_lb (if st 0 = true then 1 else 0) i
    rw [og_lb_and, h.2 i hi, og_lb_1]
    cases hs : st 0
    · rw [if_neg (by decide), og_lb_0]
      by_cases h0 : i = 0
      · subst h0; simp [hs]
      · simp [h0]
    · rw [if_pos rfl, og_lb_1]
      by_cases h0 : i = 0
      · subst h0; simp [hs]
      · simp [h0]
  rw [hx]
  cases st 0
  · simp; decide
  · simp; decide
