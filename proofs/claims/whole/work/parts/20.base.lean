/-! ===== loops ===== -/
theorem om_it_l {α β : Type} {f : α → Option (α ⊕ β)} {F : Nat} {x y : α} (h : f x = some (.inl y)) : om_it f (F + 1) x = om_it f F y := by
  show (f x).bind _ = _
  rw [h]; rfl
theorem om_it_r {α β : Type} {f : α → Option (α ⊕ β)} {F : Nat} {x : α} {z : β} (h : f x = some (.inr z)) : om_it f (F + 1) x = some z := by
  show (f x).bind _ = _
  rw [h]; rfl
theorem om_lp0 {α β : Type} {f : α → Option (α ⊕ β)} (I : Nat → α → Prop) (Q : β → Prop) (n : Nat) (hs : ∀ i s, i < n → I i s → (∃ s', f s = some (.inl s') ∧ I (i + 1) s') ∨ (∃ z, f s = some (.inr z) ∧ Q z)) (he : ∀ s, I n s → ∃ z, f s = some (.inr z) ∧ Q z) : ∀ (k F i : Nat) (s : α), i + k = n → k < F → I i s → ∃ z, om_it f F s = some z ∧ Q z
  | 0, F + 1, i, s, h, _, hI => by
    have : i = n := h
    subst this
    obtain ⟨z, hz, hq⟩ := he s hI
    exact ⟨z, om_it_r hz, hq⟩
  | k + 1, F + 1, i, s, h, hF, hI => by
    rcases hs i s (by omega) hI with ⟨s', h1, h2⟩ | ⟨z, hz, hq⟩
    · rw [om_it_l h1]
      exact om_lp0 I Q n hs he k F (i + 1) s' (by omega) (by omega) h2
    · exact ⟨z, om_it_r hz, hq⟩
  | _, 0, _, _, _, h, _ => absurd h (Nat.not_lt_zero _)
/-- a loop that counts to n, perhaps with an end ahead of it -/
theorem om_lp {α β : Type} {f : α → Option (α ⊕ β)} (I : Nat → α → Prop) (Q : β → Prop) (n : Nat) {F : Nat} {s : α} (hF : n < F) (h0 : I 0 s) (hs : ∀ i s, i < n → I i s → (∃ s', f s = some (.inl s') ∧ I (i + 1) s') ∨ (∃ z, f s = some (.inr z) ∧ Q z)) (he : ∀ s, I n s → ∃ z, f s = some (.inr z) ∧ Q z) : ∃ z, om_it f F s = some z ∧ Q z :=
  om_lp0 I Q n hs he n F 0 s (by omega) hF h0
/-- a loop with a measure -/
theorem om_lw {α β : Type} {f : α → Option (α ⊕ β)} (I : α → Prop) (Q : β → Prop) (μ : α → Nat) (hs : ∀ s, I s → (∃ s', f s = some (.inl s') ∧ I s' ∧ μ s' < μ s) ∨ (∃ z, f s = some (.inr z) ∧ Q z)) : ∀ (F : Nat) (s : α), μ s < F → I s → ∃ z, om_it f F s = some z ∧ Q z
  | 0, _, h, _ => absurd h (Nat.not_lt_zero _)
  | F + 1, s, h, hI => by
    rcases hs s hI with ⟨s', h1, h2, h3⟩ | ⟨z, hz, hq⟩
    · rw [om_it_l h1]
      exact om_lw I Q μ hs F s' (by omega) h2
    · exact ⟨z, om_it_r hz, hq⟩
/-! ===== bits ===== -/
def om_b (m : Int32) (i : Nat) : Bool := m.toBitVec.getLsbD i
theorem om_b_and (x y : Int32) (i : Nat) : om_b (x &&& y) i = (om_b x i && om_b y i) := by
  simp [om_b, Int32.toBitVec_and]
theorem om_b_or (x y : Int32) (i : Nat) : om_b (x ||| y) i = (om_b x i || om_b y i) := by
  simp [om_b, Int32.toBitVec_or]
theorem om_b_xor (x y : Int32) (i : Nat) : om_b (x ^^^ y) i = (om_b x i ^^ om_b y i) := by
  simp [om_b, Int32.toBitVec_xor]
theorem om_b_m1 (i : Nat) : om_b (-1) i = decide (i < 32) := by
  have h1 : (-1 : Int32).toBitVec = BitVec.allOnes 32 := by decide
  unfold om_b
  rw [h1, BitVec.getLsbD_allOnes]
theorem om_b_not (x : Int32) (i : Nat) : om_b (x ^^^ (-1)) i = (decide (i < 32) && !om_b x i) := by
  rw [om_b_xor, om_b_m1]
  by_cases h : i < 32
  · simp [h]
  · simp [h, om_b, BitVec.getLsbD_of_ge x.toBitVec i (by omega)]
theorem om_b_ge (x : Int32) {i : Nat} (h : 32 ≤ i) : om_b x i = false := BitVec.getLsbD_of_ge _ _ h
theorem om_b_0 (i : Nat) : om_b 0 i = false := by
  have : (0 : Int32).toBitVec = 0#32 := by decide
  simp [om_b, this]
theorem om_sm : ∀ p : Fin 32, (nI p.val &&& 31).toBitVec.smod 32 = BitVec.ofNat 32 p.val := by decide +kernel
theorem om_sm' {p : Nat} (h : p < 32) : (nI p &&& 31).toBitVec.smod 32 = BitVec.ofNat 32 p := om_sm ⟨p, h⟩
theorem om_b_shl {p : Nat} (h : p < 32) (i : Nat) : om_b ((1 : Int32) <<< (nI p &&& 31)) i = decide (i = p) := by
  unfold om_b
  rw [Int32.toBitVec_shiftLeft, om_sm' h]
  have h1 : (1 : Int32).toBitVec = 1#32 := by decide
  rw [h1, BitVec.shiftLeft_eq', BitVec.getLsbD_shiftLeft]
  have hp : (BitVec.ofNat 32 p).toNat = p := by simp; omega
  rw [hp, BitVec.getLsbD_one]
  by_cases hi : i = p
  · subst hi; simp [h]
  · simp only [hi, decide_false]
    by_cases hl : i < p
    · simp [hl]
    · have : ¬ (i - p = 0) := by omega
      simp [this]
theorem om_ext {x y : Int32} (h : ∀ i, i < 32 → om_b x i = om_b y i) : x = y := by
  apply Int32.toBitVec_inj.mp
  apply BitVec.eq_of_getLsbD_eq
  intro i hi
  exact h i hi
theorem om_eq0 {x : Int32} : x = 0 ↔ ∀ i, i < 32 → om_b x i = false :=
  ⟨fun h i _ => by rw [h, om_b_0], fun h => om_ext fun i hi => by rw [h i hi, om_b_0]⟩
theorem om_tst {p : Nat} (h : p < 32) (m : Int32) : (m >>> (nI p &&& 31)) &&& 1 = 0 ↔ om_b m p = false := by
  have h1 : ∀ i, om_b (1 : Int32) i = decide (i = 0) := by
    intro i
    have h1 : (1 : Int32).toBitVec = 1#32 := by decide
    simp [om_b, h1, BitVec.getLsbD_one]
  have h2 : om_b (m >>> (nI p &&& 31)) 0 = om_b m p := by
    unfold om_b
    rw [Int32.toBitVec_shiftRight, om_sm' h, BitVec.sshiftRight_eq', BitVec.getLsbD_sshiftRight]
    have hp : (BitVec.ofNat 32 p).toNat = p := by simp; omega
    rw [hp]
    simp [h]
  rw [om_eq0]
  constructor
  · intro h3
    have := h3 0 (by omega)
    rw [om_b_and, h1, h2] at this
    simpa using this
  · intro h3 i hi
    rw [om_b_and, h1]
    by_cases h0 : i = 0
    · subst h0; rw [h2, h3]; rfl
    · simp [h0]
theorem om_and0 {x y : Int32} : x &&& y = 0 ↔ ∀ i, i < 32 → om_b x i = true → om_b y i = false := by
  rw [om_eq0]
  constructor
  · intro h i hi hx
    have := h i hi
    rw [om_b_and, hx] at this
    simpa using this
  · intro h i hi
    rw [om_b_and]
    cases hx : om_b x i with
    | false => rfl
    | true => simpa using h i hi hx
theorem om_ev : ∀ (n : Fin 9) (i : Fin 32), om_b ((1 : Int32) <<< (nI n.val &&& 31) - 1) i.val = decide (i.val < n.val) := by decide +kernel
theorem om_b_ev {n : Nat} (h : n ≤ 8) (i : Nat) : om_b ((1 : Int32) <<< (nI n &&& 31) - 1) i = decide (i < n) := by
  by_cases hi : i < 32
  · exact om_ev ⟨n, by omega⟩ ⟨i, hi⟩
  · rw [om_b_ge _ (by omega)]
    simp; omega
theorem om_b_nI {k i : Nat} (h : i < 32) : om_b (nI k) i = k.testBit i := by
  show (BitVec.ofNat 32 k).getLsbD i = _
  rw [BitVec.getLsbD_ofNat]
  simp [h]
/-! ===== indices ===== -/
theorem om_in_nI {i n : Nat} (h : i < n) (hn : n ≤ 2000) : om_in (nI i) n = true := by
  unfold om_in
  rw [nI_clamp (by omega)]
  simp [nI_pos' (show i < 2 ^ 31 by omega), h]
theorem om_cl_nI {i : Nat} (h : i < 2 ^ 31) : (nI i).toNatClampNeg = i := nI_clamp h
/-! ===== frames ===== -/
def om_fr (P : Nat → Nat → Bool) (M M' : om_M) : Prop := (∀ a j, P a j = false → M'.1 a j = M.1 a j) ∧ M'.2 = M.2
theorem om_fr_rfl {P : Nat → Nat → Bool} {M : om_M} : om_fr P M M := ⟨fun _ _ _ => rfl, rfl⟩
theorem om_fr_tr {P : Nat → Nat → Bool} {M M1 M2 : om_M} (h1 : om_fr P M M1) (h2 : om_fr P M1 M2) : om_fr P M M2 :=
  ⟨fun a j h => (h2.1 a j h).trans (h1.1 a j h), h2.2.trans h1.2⟩
theorem om_fr_mono {P P' : Nat → Nat → Bool} {M M' : om_M} (h : om_fr P M M') (hp : ∀ a j, P' a j = false → P a j = false) : om_fr P' M M' :=
  ⟨fun a j h1 => h.1 a j (hp a j h1), h.2⟩
theorem om_fr_up {P : Nat → Nat → Bool} {M M1 : om_M} (h : om_fr P M M1) {a j : Nat} {x : Int32} (hp : P a j = true) : om_fr P M (om_up M1 a j x) := by
  refine ⟨fun b k hb => ?_, h.2⟩
  rw [← h.1 b k hb]
  show (if b = a then (if k = j then x else M1.1 b k) else M1.1 b k) = _
  by_cases h1 : b = a
  · rw [if_pos h1]
    by_cases h2 : k = j
    · subst h1; subst h2; rw [hp] at hb; cases hb
    · rw [if_neg h2]
  · rw [if_neg h1]
theorem om_up_at {M : om_M} {a j b k : Nat} {x : Int32} : (om_up M a j x).1 b k = if b = a then (if k = j then x else M.1 b k) else M.1 b k := rfl
theorem om_up_2 {M : om_M} {a j : Nat} {x : Int32} : (om_up M a j x).2 = M.2 := rfl
