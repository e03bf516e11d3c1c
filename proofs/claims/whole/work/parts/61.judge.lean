/-! ===== what is told: loops ===== -/
def og_ps (N : Nat → Int32) (wi : Int32) : Nat → Int32 → Int32
  | 0, y => y
  | p + 1, y => if om_b (og_ps N wi p y) p = true then og_ps N wi p y ||| (N p &&& wi) else og_ps N wi p y
def og_rc (N : Nat → Int32) (n : Nat) (wi x : Int32) : Int32 := og_itr (og_ps N wi n) n x
section RC
variable {N : Nat → Int32} {n : Nat} {wi : Int32}
theorem og_ps_mono : ∀ p (y : Int32) q, og_S y q → og_S (og_ps N wi p y) q
  | 0, _, _, h => h
  | p + 1, y, q, h => by
    have ih := og_ps_mono p y q h
    show og_S (if om_b (og_ps N wi p y) p = true then og_ps N wi p y ||| (N p &&& wi) else og_ps N wi p y) q
    split
    · exact og_S_or.mpr (.inl ih)
    · exact ih
theorem og_ps_in {Z : Nat → Prop} (hZ : ∀ p q, p < n → Z p → og_S (N p) q → og_S wi q → Z q) : ∀ p, p ≤ n → ∀ y : Int32, (∀ q, og_S y q → Z q) → ∀ q, og_S (og_ps N wi p y) q → Z q
  | 0, _, _, h => h
  | p + 1, hp, y, h => by
    have ih := og_ps_in hZ p (by omega) y h
    intro q
    show og_S (if om_b (og_ps N wi p y) p = true then og_ps N wi p y ||| (N p &&& wi) else og_ps N wi p y) q → Z q
    split
    · rename_i hb
      intro hq
      rcases og_S_or.mp hq with hq | hq
      · exact ih q hq
      · obtain ⟨h1, h2⟩ := og_S_and.mp hq
        exact hZ p q (by omega) (ih p hb) h1 h2
    · exact ih q
theorem og_wn_ps (hN : ∀ p, p < n → og_wn n (N p)) : ∀ p, p ≤ n → ∀ y : Int32, og_wn n y → og_wn n (og_ps N wi p y)
  | 0, _, _, h => h
  | p + 1, hp, y, h => by
    have ih := og_wn_ps hN p (by omega) y h
    show og_wn n (if om_b (og_ps N wi p y) p = true then og_ps N wi p y ||| (N p &&& wi) else og_ps N wi p y)
    split
    · exact og_wn_or ih (og_wn_and (hN p (by omega)))
    · exact ih
theorem og_rc_st (hN : ∀ p, p < n → og_wn n (N p)) {x : Int32} (hx : og_wn n x) : og_itr (og_ps N wi n) (n + 1) x = og_rc N n wi x :=
  og_grow (fun y hy => og_wn_ps hN n (Nat.le_refl n) y hy) (fun y i _ h => og_ps_mono n y i h) hx
theorem og_wn_rc (hN : ∀ p, p < n → og_wn n (N p)) {x : Int32} (hx : og_wn n x) : og_wn n (og_rc N n wi x) := og_itr_in (P := og_wn n) (fun y hy => og_wn_ps hN n (Nat.le_refl n) y hy) hx n
theorem og_rc_sub {x : Int32} {p : Nat} (h : og_S x p) : og_S (og_rc N n wi x) p := by
  have := og_itr_le (f := og_ps N wi n) (fun y p h => og_ps_mono n y p h) x p n 0 h
  rw [Nat.zero_add] at this; exact this
theorem og_rc_cl (hN : ∀ p, p < n → og_wn n (N p)) {x : Int32} (hx : og_wn n x) {p q : Nat} (hp : p < n) (h : og_S (og_rc N n wi x) p) (h1 : og_S (N p) q) (h2 : og_S wi q) : og_S (og_rc N n wi x) q := by
  have hst : og_ps N wi n (og_rc N n wi x) = og_rc N n wi x := og_rc_st hN hx
  rw [← hst]
  -- at place p the pass puts its moves
  have key : ∀ k, p < k → og_S (og_ps N wi k (og_rc N n wi x)) q := by
    intro k
    induction k with
    | zero => intro h; omega
    | succ k ih =>
      intro hk
      show og_S (if om_b (og_ps N wi k (og_rc N n wi x)) k = true then og_ps N wi k (og_rc N n wi x) ||| (N k &&& wi) else og_ps N wi k (og_rc N n wi x)) q
      by_cases hpk : p = k
      · subst hpk
        rw [if_pos (show om_b (og_ps N wi p (og_rc N n wi x)) p = true from og_ps_mono p _ p h)]
        exact og_S_or.mpr (.inr (og_S_and.mpr ⟨h1, h2⟩))
      · have := ih (by omega)
        split
        · exact og_S_or.mpr (.inl this)
        · exact this
  exact key n hp
theorem og_rc_min {x : Int32} {Z : Nat → Prop} (h0 : ∀ q, og_S x q → Z q) (hZ : ∀ p q, p < n → Z p → og_S (N p) q → og_S wi q → Z q) : ∀ q, og_S (og_rc N n wi x) q → Z q :=
  og_itr_in (f := og_ps N wi n) (P := fun y => ∀ q, og_S y q → Z q) (fun y hy => og_ps_in hZ n (Nat.le_refl n) y hy) h0 n
/-- backwards -/
def og_bw (N : Nat → Int32) : Nat → Int32 → Int32
  | 0, y => y
  | p + 1, y => if N p &&& og_bw N p y = 0 then og_bw N p y else og_bw N p y ||| (1 <<< (nI p &&& 31))
def og_cl (N : Nat → Int32) (n : Nat) (x : Int32) : Int32 := og_itr (og_bw N n) n x
theorem og_meet {x y : Int32} : x &&& y ≠ 0 ↔ ∃ q, og_S x q ∧ og_S y q := by
  constructor
  · intro h
    refine Classical.byContradiction fun hno => h (om_and0.mpr fun i _ hx => ?_)
    cases hb : om_b y i with
    | false => rfl
    | true => exact absurd ⟨i, hx, hb⟩ hno
  · rintro ⟨q, h1, h2⟩ h
    have hq : q < 32 := by
      rcases Nat.lt_or_ge q 32 with h | h
      · exact h
      · unfold og_S at h1; rw [om_b_ge _ h] at h1; cases h1
    have := om_and0.mp h q hq h1
    unfold og_S at h2
    rw [h2] at this; cases this
theorem og_bw_mono : ∀ p (y : Int32) q, og_S y q → og_S (og_bw N p y) q
  | 0, _, _, h => h
  | p + 1, y, q, h => by
    have ih := og_bw_mono p y q h
    show og_S (if N p &&& og_bw N p y = 0 then og_bw N p y else og_bw N p y ||| (1 <<< (nI p &&& 31))) q
    split
    · exact ih
    · exact og_S_or.mpr (.inl ih)
theorem og_S_bit {p q : Nat} (hp : p < 32) : og_S (1 <<< (nI p &&& 31)) q ↔ q = p := by
  unfold og_S; rw [om_b_shl hp, decide_eq_true_eq]
theorem og_bw_in {Z : Nat → Prop} (h8 : n ≤ 8) (hZ : ∀ p q, p < n → og_S (N p) q → Z q → Z p) : ∀ p, p ≤ n → ∀ y : Int32, (∀ q, og_S y q → Z q) → ∀ q, og_S (og_bw N p y) q → Z q
  | 0, _, _, h => h
  | p + 1, hp, y, h => by
    have ih := og_bw_in h8 hZ p (by omega) y h
    intro q
    show og_S (if N p &&& og_bw N p y = 0 then og_bw N p y else og_bw N p y ||| (1 <<< (nI p &&& 31))) q → Z q
    by_cases h0 : N p &&& og_bw N p y = 0
    · rw [if_pos h0]; exact ih q
    · rw [if_neg h0]
      intro hq
      rcases og_S_or.mp hq with hq | hq
      · exact ih q hq
      · rw [(og_S_bit (by omega)).mp hq]
        obtain ⟨r, h1, h2⟩ := og_meet.mp h0
        exact hZ p r (by omega) h1 (ih r h2)
theorem og_wn_bw (h8 : n ≤ 8) : ∀ p, p ≤ n → ∀ y : Int32, og_wn n y → og_wn n (og_bw N p y)
  | 0, _, _, h => h
  | p + 1, hp, y, h => by
    have ih := og_wn_bw h8 p (by omega) y h
    show og_wn n (if N p &&& og_bw N p y = 0 then og_bw N p y else og_bw N p y ||| (1 <<< (nI p &&& 31)))
    split
    · exact ih
    · refine og_wn_or ih fun i hi => ?_
      rw [om_b_shl (by omega)]; simp; omega
theorem og_cl_facts (h8 : n ≤ 8) {x : Int32} (hx : og_wn n x) : og_wn n (og_cl N n x) ∧ (∀ p, og_S x p → og_S (og_cl N n x) p) ∧ (∀ p q, p < n → og_S (N p) q → og_S (og_cl N n x) q → og_S (og_cl N n x) p) ∧ ∀ Z : Nat → Prop, (∀ q, og_S x q → Z q) → (∀ p q, p < n → og_S (N p) q → Z q → Z p) → ∀ q, og_S (og_cl N n x) q → Z q := by
  have hst : og_bw N n (og_cl N n x) = og_cl N n x := og_grow (fun y hy => og_wn_bw h8 n (Nat.le_refl n) y hy) (fun y i _ h => og_bw_mono n y i h) hx
  refine ⟨og_itr_in (P := og_wn n) (fun y hy => og_wn_bw h8 n (Nat.le_refl n) y hy) hx n, fun p h => ?_, fun p q hp h1 h2 => ?_, fun Z h0 hZ => og_itr_in (f := og_bw N n) (P := fun y => ∀ q, og_S y q → Z q) (fun y hy => og_bw_in h8 hZ n (Nat.le_refl n) y hy) h0 n⟩
  · have := og_itr_le (f := og_bw N n) (fun y p h => og_bw_mono n y p h) x p n 0 h
    rw [Nat.zero_add] at this; exact this
  · rw [← hst]
    have key : ∀ k, p < k → k ≤ n → og_S (og_bw N k (og_cl N n x)) p := by
      intro k
      induction k with
      | zero => intro h; omega
      | succ k ih =>
        intro hk hkn
        show og_S (if N k &&& og_bw N k (og_cl N n x) = 0 then og_bw N k (og_cl N n x) else og_bw N k (og_cl N n x) ||| (1 <<< (nI k &&& 31))) p
        by_cases hpk : p = k
        · subst hpk
          rw [if_neg (og_meet.mpr ⟨q, h1, og_bw_mono p _ q h2⟩)]
          exact og_S_or.mpr (.inr ((og_S_bit (by omega)).mpr rfl))
        · have := ih (by omega) (by omega)
          split
          · exact this
          · exact og_S_or.mpr (.inl this)
    exact key n hp (Nat.le_refl n)
def og_hi (num : Nat → Nat) (n p : Nat) : Int32 := og_mk (fun q => decide (num p ≤ num q)) n
def og_bad (N : Nat → Int32) (num : Nat → Nat) (n w : Nat) : Int32 := og_mk (fun p => decide (num p % 2 = w) && om_b (og_rc N n (og_hi num n p) (N p &&& og_hi num n p)) p) n
def og_right (N : Nat → Int32) (num : Nat → Nat) (n w : Nat) : Int32 := og_mk (fun p => decide (og_rc N n (og_ev n) (1 <<< (nI p &&& 31)) &&& og_bad N num n w = 0)) n
theorem og_wn_bit {p : Nat} (h8 : n ≤ 8) (hp : p < n) : og_wn n (1 <<< (nI p &&& 31)) := fun i hi => by
  rw [om_b_shl (by omega)]; simp; omega
/-- a place is wrong just where a bad one can be come to -/
theorem og_cl_rc (h8 : n ≤ 8) (hN : ∀ p, p < n → og_wn n (N p)) {bad : Int32} (hb : og_wn n bad) {p : Nat} (hp : p < n) : og_S (og_cl N n bad) p ↔ ¬ (og_rc N n (og_ev n) (1 <<< (nI p &&& 31)) &&& bad = 0) := by
  obtain ⟨f1, f2, f3, f4⟩ := og_cl_facts (N := N) h8 hb
  have hev : ∀ q, q < n → og_S (og_ev n) q := fun q hq => by unfold og_S; rw [og_b_ev h8]; simp [hq]
  constructor
  · intro h
    refine f4 (fun p => p < n → ¬ (og_rc N n (og_ev n) (1 <<< (nI p &&& 31)) &&& bad = 0)) (fun q hq hqn => ?_) (fun p q hp hq hZ _ => ?_) p h hp
    · exact og_meet.mpr ⟨q, og_rc_sub ((og_S_bit (by omega)).mpr rfl), hq⟩
    · have hqn := og_S_lt (hN p hp) hq
      obtain ⟨r, h1, h2⟩ := og_meet.mp (hZ hqn)
      refine og_meet.mpr ⟨r, ?_, h2⟩
      refine og_rc_min (x := 1 <<< (nI q &&& 31)) (Z := og_S (og_rc N n (og_ev n) (1 <<< (nI p &&& 31)))) (fun t ht => ?_) (fun a b ha hA hB hC => og_rc_cl hN (og_wn_bit h8 hp) ha hA hB hC) r h1
      rw [(og_S_bit (by omega)).mp ht]
      exact og_rc_cl hN (og_wn_bit h8 hp) hp (og_rc_sub ((og_S_bit (by omega)).mpr rfl)) hq (hev q hqn)
  · intro h
    obtain ⟨r, h1, h2⟩ := og_meet.mp h
    refine Classical.byContradiction fun hno => ?_
    have := og_rc_min (N := N) (n := n) (wi := og_ev n) (x := 1 <<< (nI p &&& 31)) (Z := fun q => ¬ og_S (og_cl N n bad) q) (fun q hq => by rw [(og_S_bit (by omega)).mp hq]; exact hno) (fun a b ha hA hB _ hC => hA (f3 a b ha hB hC)) r h1
    exact this (f2 r h2)
theorem og_wn_bad (h8 : n ≤ 8) (num : Nat → Nat) (w : Nat) : og_wn n (og_bad N num n w) := og_wn_mk (by omega)
theorem og_judge_eq (h8 : n ≤ 8) (hN : ∀ p, p < n → og_wn n (N p)) (num : Nat → Nat) (w : Nat) : og_ev n &&& (og_cl N n (og_bad N num n w) ^^^ (-1)) = og_right N num n w := by
  refine og_S_ext (n := n) (og_wn_and (og_wn_ev h8)) (og_wn_mk (by omega)) fun p hp => ?_
  rw [og_S_less, og_cl_rc h8 hN (og_wn_bad h8 num w) hp]
  have h1 : og_S (og_ev n) p := by unfold og_S; rw [og_b_ev h8]; simp [hp]
  have h2 : og_S (og_right N num n w) p ↔ og_rc N n (og_ev n) (1 <<< (nI p &&& 31)) &&& og_bad N num n w = 0 := by
    unfold og_S og_right
    rw [og_b_mk _ (by omega)]; simp [hp]
  rw [h2]
  exact ⟨fun h => Classical.not_not.mp h.2, fun h => ⟨h1, fun h3 => h3 h⟩⟩
end RC
section JC
variable {n : Nat} {M : om_M} {num : Nat → Nat}
theorem og_isLeast (h8 : n ≤ 8) (e70 : M.1 7 0 = nI n) (hnum : ∀ p, p < n → M.1 2 p = nI (num p) ∧ num p < 8) {p : Nat} (hp : p < n) : om_O_isLeastOfLoop om_F (nI p) M = some (om_bi (om_b (og_rc (M.1 11) n (og_hi num n p) (M.1 11 p &&& og_hi num n p)) p), M) := by
  have hF : n < om_F := Nat.lt_of_le_of_lt h8 (by decide)
  have hinp : om_in (nI p) 8 = true := om_in_nI (by omega) (by omega)
  have hclp : (nI p).toNatClampNeg = p := nI_clamp (by omega)
  obtain ⟨z1, hz1, rfl⟩ := om_lp (f := om_O_isLeastOfLoop_L6_body om_F) (fun i s => s = (nI p, og_mk (fun q => decide (num p ≤ num q)) i, nI i, M)) (fun z => z = (nI p, og_hi num n p, M)) n hF (s := (nI p, 0, 0, M)) rfl (by
    rintro i s hi rfl
    have hin : om_in (nI i) 8 = true := om_in_nI (by omega) (by omega)
    have hcl : (nI i).toNatClampNeg = i := nI_clamp (by omega)
    have hlt : ¬ nI n ≤ nI i := nI_ge hi (by omega)
    obtain ⟨h1, h2⟩ := hnum i hi
    obtain ⟨h3, h4⟩ := hnum p hp
    refine .inl ⟨_, ?_, rfl⟩
    simp only [om_O_isLeastOfLoop_L6_body, om_O_isLeastOfLoop_b6, om_O_isLeastOfLoop_b34, e70, hlt, hin, hcl, hinp, hclp, if_false, cond_true, h1, h3, nI_ltI (show num i < 2 ^ 31 by omega) (show num p < 2 ^ 31 by omega), og_nI1, og_mk]
    by_cases h : num i < num p
    · simp [h, show ¬ num p ≤ num i by omega]
    · simp [h, show num p ≤ num i by omega]) (by
    rintro s rfl
    exact ⟨_, by simp only [om_O_isLeastOfLoop_L6_body, om_O_isLeastOfLoop_b6, e70]; rw [if_pos Int32.le_rfl]; rfl, rfl⟩)
  have pass : ∀ (x3 x4 y x6 : Int32), om_O_isLeastOfLoop_L66 om_F (x3, x4, y, x6, 0, M) = some (x3, x4, og_ps (M.1 11) x4 n y, x6, M) := by
    intro x3 x4 y x6
    obtain ⟨z, hz, rfl⟩ := om_lp (f := om_O_isLeastOfLoop_L66_body om_F) (fun i s => s = (x3, x4, og_ps (M.1 11) x4 i y, x6, nI i, M)) (fun z => z = (x3, x4, og_ps (M.1 11) x4 n y, x6, M)) n hF (s := (x3, x4, y, x6, 0, M)) rfl (by
      rintro i s hi rfl
      have hin : om_in (nI i) 8 = true := om_in_nI (by omega) (by omega)
      have hcl : (nI i).toNatClampNeg = i := nI_clamp (by omega)
      have hlt : ¬ nI n ≤ nI i := nI_ge hi (by omega)
      refine .inl ⟨_, ?_, rfl⟩
      simp only [om_O_isLeastOfLoop_L66_body, om_O_isLeastOfLoop_b66, om_O_isLeastOfLoop_b100, e70, hlt, hin, hcl, if_false, cond_true, om_tst (show i < 32 by omega), og_nI1, og_ps]
      rcases Bool.eq_false_or_eq_true (om_b (og_ps (M.1 11) x4 i y) i) with h | h <;> simp [h]) (by
      rintro s rfl
      exact ⟨_, by simp only [om_O_isLeastOfLoop_L66_body, om_O_isLeastOfLoop_b66, e70]; rw [if_pos Int32.le_rfl], rfl⟩)
    exact hz
  obtain ⟨z2, hz2, rfl⟩ := om_lp (f := om_O_isLeastOfLoop_L54_body om_F) (fun i s => s = (nI p, og_hi num n p, og_itr (og_ps (M.1 11) (og_hi num n p) n) i (M.1 11 p &&& og_hi num n p), nI i, M)) (fun z => z = (nI p, og_rc (M.1 11) n (og_hi num n p) (M.1 11 p &&& og_hi num n p), M)) n hF (s := (nI p, og_hi num n p, M.1 11 p &&& og_hi num n p, 0, M)) rfl (by
    rintro i s hi rfl
    have hlt : ¬ nI n ≤ nI i := nI_ge hi (by omega)
    refine .inl ⟨_, ?_, rfl⟩
    simp only [om_O_isLeastOfLoop_L54_body, om_O_isLeastOfLoop_b54, e70, hlt, if_false, pass, Option.bind_some, og_nI1]
    rfl) (by
    rintro s rfl
    exact ⟨_, by simp only [om_O_isLeastOfLoop_L54_body, om_O_isLeastOfLoop_b54, e70]; rw [if_pos Int32.le_rfl]; rfl, rfl⟩)
  unfold om_O_isLeastOfLoop om_O_isLeastOfLoop_b0 om_O_isLeastOfLoop_b126 om_O_isLeastOfLoop_L6 om_O_isLeastOfLoop_L54
  rw [hz1]
  simp only [Option.bind_some, hinp, hclp, cond_true, hz2, om_tst (show p < 32 by omega)]
  cases om_b (og_rc (M.1 11) n (og_hi num n p) (M.1 11 p &&& og_hi num n p)) p <;> simp [om_nr, om_bi]
theorem og_wrong (h8 : n ≤ 8) (e70 : M.1 7 0 = nI n) (hnum : ∀ p, p < n → M.1 2 p = nI (num p) ∧ num p < 8) {w : Nat} (hw : w < 2) : om_O_wrongPlaces om_F (nI w) M = some (og_cl (M.1 11) n (og_bad (M.1 11) num n w), M) := by
  have hF : n < om_F := Nat.lt_of_le_of_lt h8 (by decide)
  obtain ⟨z1, hz1, rfl⟩ := om_lp (f := om_O_wrongPlaces_L6_body om_F) (fun i s => s = (nI w, og_mk (fun p => decide (num p % 2 = w) && om_b (og_rc (M.1 11) n (og_hi num n p) (M.1 11 p &&& og_hi num n p)) p) i, nI i, M)) (fun z => z = (og_bad (M.1 11) num n w, M)) n hF (s := (nI w, 0, 0, M)) rfl (by
    rintro i s hi rfl
    have hin : om_in (nI i) 8 = true := om_in_nI (by omega) (by omega)
    have hcl : (nI i).toNatClampNeg = i := nI_clamp (by omega)
    have hlt : ¬ nI n ≤ nI i := nI_ge hi (by omega)
    obtain ⟨h1, h2⟩ := hnum i hi
    have hpar : nI (num i) &&& 1 = nI w ↔ num i % 2 = w := by
      have : ∀ (x : Fin 8) (y : Fin 2), nI x.val &&& 1 = nI y.val ↔ x.val % 2 = y.val := by decide
      exact this ⟨num i, h2⟩ ⟨w, hw⟩
    refine .inl ⟨_, ?_, rfl⟩
    simp only [om_O_wrongPlaces_L6_body, om_O_wrongPlaces_b6, om_O_wrongPlaces_b45, e70, hlt, hin, hcl, if_false, cond_true, h1, hpar, og_isLeast h8 e70 hnum hi, Option.bind_some, om_bi0, og_nI1, og_mk]
    by_cases hp : num i % 2 = w
    · rcases Bool.eq_false_or_eq_true (om_b (og_rc (M.1 11) n (og_hi num n i) (M.1 11 i &&& og_hi num n i)) i) with hb | hb <;> simp [hp, hb]
    · simp [hp]) (by
    rintro s rfl
    exact ⟨_, by simp only [om_O_wrongPlaces_L6_body, om_O_wrongPlaces_b6, e70]; rw [if_pos Int32.le_rfl]; rfl, rfl⟩)
  have pass : ∀ (y x5 : Int32), om_O_wrongPlaces_L66 om_F (y, x5, 0, M) = some (og_bw (M.1 11) n y, x5, M) := by
    intro y x5
    obtain ⟨z, hz, rfl⟩ := om_lp (f := om_O_wrongPlaces_L66_body om_F) (fun i s => s = (og_bw (M.1 11) i y, x5, nI i, M)) (fun z => z = (og_bw (M.1 11) n y, x5, M)) n hF (s := (y, x5, 0, M)) rfl (by
      rintro i s hi rfl
      have hin : om_in (nI i) 8 = true := om_in_nI (by omega) (by omega)
      have hcl : (nI i).toNatClampNeg = i := nI_clamp (by omega)
      have hlt : ¬ nI n ≤ nI i := nI_ge hi (by omega)
      refine .inl ⟨_, ?_, rfl⟩
      simp only [om_O_wrongPlaces_L66_body, om_O_wrongPlaces_b66, om_O_wrongPlaces_b97, e70, hlt, hin, hcl, if_false, cond_true, og_nI1, og_bw]
      by_cases h : M.1 11 i &&& og_bw (M.1 11) i y = 0 <;> simp [h]) (by
      rintro s rfl
      exact ⟨_, by simp only [om_O_wrongPlaces_L66_body, om_O_wrongPlaces_b66, e70]; rw [if_pos Int32.le_rfl], rfl⟩)
    exact hz
  obtain ⟨z2, hz2, rfl⟩ := om_lp (f := om_O_wrongPlaces_L54_body om_F) (fun i s => s = (og_itr (og_bw (M.1 11) n) i (og_bad (M.1 11) num n w), nI i, M)) (fun z => z = (og_cl (M.1 11) n (og_bad (M.1 11) num n w), M)) n hF (s := (og_bad (M.1 11) num n w, 0, M)) rfl (by
    rintro i s hi rfl
    have hlt : ¬ nI n ≤ nI i := nI_ge hi (by omega)
    refine .inl ⟨_, ?_, rfl⟩
    simp only [om_O_wrongPlaces_L54_body, om_O_wrongPlaces_b54, e70, hlt, if_false, pass, Option.bind_some, og_nI1]
    rfl) (by
    rintro s rfl
    exact ⟨_, by simp only [om_O_wrongPlaces_L54_body, om_O_wrongPlaces_b54, e70]; rw [if_pos Int32.le_rfl]; rfl, rfl⟩)
  unfold om_O_wrongPlaces om_O_wrongPlaces_b0 om_O_wrongPlaces_L6 om_O_wrongPlaces_L54
  rw [hz1]
  simp only [Option.bind_some, hz2]
theorem og_reachFrom (h8 : n ≤ 8) (e : M.1 46 2 = nI n) (hN : ∀ p, p < n → og_wn n (M.1 58 p)) {x : Int32} (wi : Int32) (hx : og_wn n x) : om_D_reachFrom om_F x wi M = some (og_rc (M.1 58) n wi x, M) := by
  have hF : n < om_F := Nat.lt_of_le_of_lt h8 (by decide)
  have or0 : ∀ y : Int32, y ||| 0 = y := fun y => om_ext fun j _ => by rw [om_b_or, om_b_0, Bool.or_false]
  have pass : ∀ (y x4 : Int32), om_D_reachFrom_L17 om_F (wi, y, x4, 0, M) = some (wi, og_ps (M.1 58) wi n y, x4, M) := by
    intro y x4
    obtain ⟨z, hz, rfl⟩ := om_lp (f := om_D_reachFrom_L17_body om_F) (fun i s => s = (wi, og_ps (M.1 58) wi i y, x4, nI i, M)) (fun z => z = (wi, og_ps (M.1 58) wi n y, x4, M)) n hF (s := (wi, y, x4, 0, M)) rfl (by
      rintro i s hi rfl
      have hin : om_in (nI i) 8 = true := om_in_nI (by omega) (by omega)
      have hcl : (nI i).toNatClampNeg = i := nI_clamp (by omega)
      have hlt : ¬ nI n ≤ nI i := nI_ge hi (by omega)
      refine .inl ⟨_, ?_, rfl⟩
      simp only [om_D_reachFrom_L17_body, om_D_reachFrom_b17, om_D_reachFrom_b50, e, hlt, hin, hcl, if_false, cond_true, og_tst1 (show i < 32 by omega), og_nI1, or0, og_ps]
      rcases Bool.eq_false_or_eq_true (om_b (og_ps (M.1 58) wi i y) i) with h | h <;> simp [h]) (by
      rintro s rfl
      exact ⟨_, by simp only [om_D_reachFrom_L17_body, om_D_reachFrom_b17, e]; rw [if_pos Int32.le_rfl], rfl⟩)
    exact hz
  have := og_while (F := om_F) (N := n) (f := og_ps (M.1 58) wi n) (Nat.lt_of_le_of_lt (show n + 1 ≤ 9 by omega) (by decide)) (og_wn_ne h8 hx) (og_rc_st hN hx) (om_D_reachFrom_L5_body om_F) (fun b h => (wi, b, h, M)) (fun b => (b, M)) (fun k h => by
    simp only [om_D_reachFrom_L5_body, om_D_reachFrom_b5, pass, Option.bind_some])
  unfold om_D_reachFrom om_D_reachFrom_b0 om_D_reachFrom_L5
  rw [this]; rfl
theorem og_badFor (h8 : n ≤ 8) (e : M.1 46 2 = nI n) (hN : ∀ p, p < n → og_wn n (M.1 58 p)) (hnum : ∀ p, p < n → M.1 48 p = nI (num p) ∧ num p < 8) {pl : Nat} (hpl : pl < 2) : om_D_badFor om_F (nI pl) M = some (og_bad (M.1 58) num n (1 - pl), M) := by
  have hF : n < om_F := Nat.lt_of_le_of_lt h8 (by decide)
  have or0 : ∀ y : Int32, y ||| 0 = y := fun y => om_ext fun j _ => by rw [om_b_or, om_b_0, Bool.or_false]
  have hhi : ∀ (p : Nat), p < n → ∀ x2 : Int32, om_D_badFor_L18 om_F (nI pl, x2, nI p, 0, 0, M) = some (nI pl, x2, nI p, og_hi num n p, M) := by
    intro p hp x2
    have hinp : om_in (nI p) 8 = true := om_in_nI (by omega) (by omega)
    have hclp : (nI p).toNatClampNeg = p := nI_clamp (by omega)
    obtain ⟨z, hz, rfl⟩ := om_lp (f := om_D_badFor_L18_body om_F) (fun i s => s = (nI pl, x2, nI p, og_mk (fun q => decide (num p ≤ num q)) i, nI i, M)) (fun z => z = (nI pl, x2, nI p, og_hi num n p, M)) n hF (s := (nI pl, x2, nI p, 0, 0, M)) rfl (by
      rintro i s hi rfl
      have hin : om_in (nI i) 8 = true := om_in_nI (by omega) (by omega)
      have hcl : (nI i).toNatClampNeg = i := nI_clamp (by omega)
      have hlt : ¬ nI n ≤ nI i := nI_ge hi (by omega)
      obtain ⟨h1, h2⟩ := hnum i hi
      obtain ⟨h3, h4⟩ := hnum p hp
      refine .inl ⟨_, ?_, rfl⟩
      simp only [om_D_badFor_L18_body, om_D_badFor_b18, om_D_badFor_b53, e, hlt, hin, hcl, hinp, hclp, if_false, cond_true, h1, h3, nI_ltI (show num i < 2 ^ 31 by omega) (show num p < 2 ^ 31 by omega), og_nI1, or0, og_mk]
      by_cases h : num i < num p
      · simp [h, show ¬ num p ≤ num i by omega]
      · simp [h, show num p ≤ num i by omega]) (by
      rintro s rfl
      exact ⟨_, by simp only [om_D_badFor_L18_body, om_D_badFor_b18, e]; rw [if_pos Int32.le_rfl]; rfl, rfl⟩)
    exact hz
  obtain ⟨z1, hz1, rfl⟩ := om_lp (f := om_D_badFor_L4_body om_F) (fun i s => s = (nI pl, og_mk (fun p => decide (num p % 2 = 1 - pl) && om_b (og_rc (M.1 58) n (og_hi num n p) (M.1 58 p &&& og_hi num n p)) p) i, nI i, M)) (fun z => z = (og_bad (M.1 58) num n (1 - pl), M)) n hF (s := (nI pl, 0, 0, M)) rfl (by
    rintro i s hi rfl
    have hin : om_in (nI i) 8 = true := om_in_nI (by omega) (by omega)
    have hcl : (nI i).toNatClampNeg = i := nI_clamp (by omega)
    have hlt : ¬ nI n ≤ nI i := nI_ge hi (by omega)
    obtain ⟨h1, h2⟩ := hnum i hi
    have hrem : nI (num i) - nI (num i) / 2 * 2 = nI (num i % 2) := pk_rem (a := num i) (d := 2) (by omega) (by omega) (by omega)
    have hpar : nI (num i % 2) = nI pl ↔ ¬ num i % 2 = 1 - pl := by
      rw [nI_eq (by omega) (by omega)]
      have := Nat.mod_two_eq_zero_or_one (num i)
      omega
    have hwx : og_wn n (M.1 58 i &&& og_hi num n i) := og_wn_and (hN i hi)
    refine .inl ⟨_, ?_, rfl⟩
    simp only [om_D_badFor_L4_body, om_D_badFor_b4, om_D_badFor_b101, om_D_badFor_b102, om_D_badFor_b117, e, hlt, if_false, hhi i hi, Option.bind_some, hin, hcl, show ¬ (2 : Int32) = 0 by decide, decide_false, Bool.not_false, cond_true, h1, hrem, hpar, og_reachFrom h8 e hN _ hwx, og_tst1 (show i < 32 by omega), or0, og_nI1, og_mk]
    by_cases hp : num i % 2 = 1 - pl
    · rcases Bool.eq_false_or_eq_true (om_b (og_rc (M.1 58) n (og_hi num n i) (M.1 58 i &&& og_hi num n i)) i) with hb | hb <;> simp [hp, hb]
    · simp [hp]) (by
    rintro s rfl
    exact ⟨_, by simp only [om_D_badFor_L4_body, om_D_badFor_b4, e]; rw [if_pos Int32.le_rfl]; rfl, rfl⟩)
  unfold om_D_badFor om_D_badFor_b0 om_D_badFor_L4
  rw [hz1]; rfl
end JC
