/-! ===== iterations ===== -/
def og_itr {α : Type} (f : α → α) : Nat → α → α
  | 0, x => x
  | k + 1, x => f (og_itr f k x)
theorem og_itr_fix {α : Type} {f : α → α} {x : α} {k : Nat} (h : og_itr f (k + 1) x = og_itr f k x) : ∀ j, og_itr f (k + j) x = og_itr f k x
  | 0 => rfl
  | j + 1 => by
    show f (og_itr f (k + j) x) = _
    rw [og_itr_fix h j]; exact h
theorem og_itr_in {α : Type} {f : α → α} {P : α → Prop} (hP : ∀ x, P x → P (f x)) {x : α} (h : P x) : ∀ k, P (og_itr f k x)
  | 0 => h
  | k + 1 => hP _ (og_itr_in hP h k)
theorem og_stab0 {α : Type} {f : α → α} {P : α → Prop} {μ : α → Nat} (hP : ∀ x, P x → P (f x)) (hs : ∀ x, P x → f x ≠ x → μ x < μ (f x)) {x : α} (h : P x) : ∀ k, (∃ j, j < k ∧ og_itr f (j + 1) x = og_itr f j x) ∨ k ≤ μ (og_itr f k x)
  | 0 => .inr (Nat.zero_le _)
  | k + 1 => by
    rcases og_stab0 hP hs h k with ⟨j, hj, he⟩ | hk
    · exact .inl ⟨j, by omega, he⟩
    · by_cases he : f (og_itr f k x) = og_itr f k x
      · exact .inl ⟨k, by omega, he⟩
      · have := hs _ (og_itr_in hP h k) he
        exact .inr (by show k + 1 ≤ μ (f (og_itr f k x)); omega)
/-- what grows by a measure stands still after n rounds -/
theorem og_stab {α : Type} {f : α → α} {P : α → Prop} {μ : α → Nat} {n : Nat} (hP : ∀ x, P x → P (f x)) (hμ : ∀ x, P x → μ x ≤ n) (hs : ∀ x, P x → f x ≠ x → μ x < μ (f x)) {x : α} (h : P x) : og_itr f (n + 1) x = og_itr f n x := by
  rcases og_stab0 hP hs h (n + 1) with ⟨j, hj, he⟩ | hk
  · have h1 := og_itr_fix he (n - j)
    have h2 := og_itr_fix he (n + 1 - j)
    rw [show j + (n - j) = n by omega] at h1
    rw [show j + (n + 1 - j) = n + 1 by omega] at h2
    rw [h1, h2]
  · have := hμ _ (og_itr_in hP h (n + 1))
    omega
/-- the model's loops: by, had -/
theorem og_while {β : Type} {α : Type} {f : Int32 → Int32} {N F : Nat} {x0 : Int32} (hF : N + 1 < F) (hx : x0 ≠ -1) (hst : og_itr f (N + 1) x0 = og_itr f N x0) (body : α → Option (α ⊕ β)) (e : Int32 → Int32 → α) (fin : Int32 → β) (hb : ∀ k h, body (e (og_itr f k x0) h) = if og_itr f k x0 = h then some (.inr (fin (og_itr f k x0))) else some (.inl (e (f (og_itr f k x0)) (og_itr f k x0)))) : om_it body F (e x0 (-1)) = some (fin (og_itr f N x0)) := by
  obtain ⟨z, hz, rfl⟩ := om_lp (f := body) (fun i s => (i = 0 ∧ s = e x0 (-1)) ∨ (∃ k, i = k + 1 ∧ s = e (og_itr f (k + 1) x0) (og_itr f k x0))) (fun z => z = fin (og_itr f N x0)) (N + 1) (F := F) hF (s := e x0 (-1)) (.inl ⟨rfl, rfl⟩) (by
    rintro i s hi (⟨rfl, rfl⟩ | ⟨k, rfl, rfl⟩)
    · have := hb 0 (-1)
      rw [if_neg (show ¬ og_itr f 0 x0 = -1 from hx)] at this
      exact .inl ⟨_, this, .inr ⟨0, rfl, rfl⟩⟩
    · have := hb (k + 1) (og_itr f k x0)
      by_cases he : og_itr f (k + 1) x0 = og_itr f k x0
      · rw [if_pos he] at this
        refine .inr ⟨_, this, ?_⟩
        have h1 := og_itr_fix he (N - k)
        rw [show k + (N - k) = N by omega] at h1
        rw [he, h1]
      · rw [if_neg he] at this
        exact .inl ⟨_, this, .inr ⟨k + 1, rfl, rfl⟩⟩) (by
    rintro s (⟨h, -⟩ | ⟨k, hk, rfl⟩)
    · omega
    · have : k = N := by omega
      subst this
      have := hb (k + 1) (og_itr f k x0)
      rw [if_pos hst] at this
      exact ⟨_, this, by rw [hst]⟩)
  exact hz
/-! ===== masks ===== -/
def og_mk (f : Nat → Bool) : Nat → Int32
  | 0 => 0
  | n + 1 => if f n = true then og_mk f n ||| (1 <<< (nI n &&& 31)) else og_mk f n
theorem og_b_mk (f : Nat → Bool) : ∀ {n : Nat}, n ≤ 32 → ∀ i, om_b (og_mk f n) i = (decide (i < n) && f i)
  | 0, _, i => by rw [show og_mk f 0 = 0 from rfl, om_b_0]; simp
  | n + 1, hn, i => by
    have ih := og_b_mk f (n := n) (by omega) i
    show om_b (if f n = true then og_mk f n ||| (1 <<< (nI n &&& 31)) else og_mk f n) i = _
    by_cases h : f n = true
    · rw [if_pos h, om_b_or, om_b_shl (by omega), ih]
      by_cases hin : i = n
      · subst hin; simp [h]
      · have : (i < n + 1) ↔ (i < n) := by omega
        simp [hin, this]
    · rw [if_neg h, ih]
      by_cases hin : i = n
      · subst hin
        have : f i = false := by simpa using h
        simp [this]
      · have : (i < n + 1) ↔ (i < n) := by omega
        simp [this]
def og_wn (n : Nat) (x : Int32) : Prop := ∀ i, n ≤ i → om_b x i = false
theorem og_wext {n : Nat} {x y : Int32} (hx : og_wn n x) (hy : og_wn n y) (h : ∀ i, i < n → om_b x i = om_b y i) : x = y :=
  om_ext fun i _ => by
    by_cases hi : i < n
    · exact h i hi
    · rw [hx i (by omega), hy i (by omega)]
theorem og_wn_ne {n : Nat} (hn : n ≤ 8) {x : Int32} (h : og_wn n x) : x ≠ -1 := by
  intro he
  have := h 8 hn
  rw [he, om_b_m1] at this
  simp at this
theorem og_wn_mk {f : Nat → Bool} {n : Nat} (hn : n ≤ 32) : og_wn n (og_mk f n) := fun i hi => by
  rw [og_b_mk f hn]; simp; omega
theorem og_wn_or {n : Nat} {x y : Int32} (hx : og_wn n x) (hy : og_wn n y) : og_wn n (x ||| y) := fun i hi => by rw [om_b_or, hx i hi, hy i hi]; rfl
theorem og_wn_and {n : Nat} {x y : Int32} (hx : og_wn n x) : og_wn n (x &&& y) := fun i hi => by rw [om_b_and, hx i hi]; rfl
theorem og_wn_and' {n : Nat} {x y : Int32} (hy : og_wn n y) : og_wn n (x &&& y) := fun i hi => by rw [om_b_and, hy i hi, Bool.and_false]
theorem og_cnt_lt {f g : Nat → Bool} : ∀ {n : Nat}, (∀ i, i < n → f i = true → g i = true) → (∃ i, i < n ∧ f i ≠ g i) → og_cnt f n < og_cnt g n
  | 0, _, ⟨i, hi, _⟩ => absurd hi (by omega)
  | n + 1, hs, ⟨i, hi, hne⟩ => by
    show og_cnt f n + (if f n = true then 1 else 0) < og_cnt g n + (if g n = true then 1 else 0)
    have hle : (if f n = true then 1 else 0) ≤ (if g n = true then 1 else 0) := by
      by_cases h : f n = true
      · rw [if_pos h, if_pos (hs n (by omega) h)]; omega
      · rw [if_neg h]; omega
    by_cases hin : ∃ i, i < n ∧ f i ≠ g i
    · have := og_cnt_lt (n := n) (fun i hi => hs i (by omega)) hin
      omega
    · have heq : og_cnt f n = og_cnt g n := og_cnt_ext fun j hj => by
        cases hfj : f j <;> cases hgj : g j <;> first | rfl | exact absurd ⟨j, hj, by rw [hfj, hgj]; decide⟩ hin
      have : i = n := by
        rcases Nat.lt_or_ge i n with h | h
        · exact absurd ⟨i, h, hne⟩ hin
        · omega
      subst this
      have h1 : f i = false := by
        cases hf : f i with
        | false => rfl
        | true => exact absurd (by rw [hf, hs i hi hf]) hne
      have h2 : g i = true := by
        cases hg : g i with
        | true => rfl
        | false => exact absurd (by rw [h1, hg]) hne
      rw [h1, h2, heq]; simp
/-- growing masks stand still after n rounds -/
theorem og_grow {n : Nat} {f : Int32 → Int32} (hw : ∀ x, og_wn n x → og_wn n (f x)) (hg : ∀ x i, og_wn n x → om_b x i = true → om_b (f x) i = true) {x : Int32} (hx : og_wn n x) : og_itr f (n + 1) x = og_itr f n x := by
  refine og_stab (P := og_wn n) (μ := fun x => og_cnt (om_b x) n) hw (fun x _ => og_cnt_le _ n) (fun y hy hne => og_cnt_lt (fun i _ h => hg y i hy h) ?_) hx
  refine Classical.byContradiction fun hno => hne ?_
  exact og_wext (hw y hy) hy fun i hi => Classical.byContradiction fun h => hno ⟨i, hi, fun h2 => h h2.symm⟩
theorem og_shrink {n : Nat} {f : Int32 → Int32} (hw : ∀ x, og_wn n x → og_wn n (f x)) (hg : ∀ x i, og_wn n x → om_b (f x) i = true → om_b x i = true) {x : Int32} (hx : og_wn n x) : og_itr f (n + 1) x = og_itr f n x := by
  refine og_stab (P := og_wn n) (μ := fun x => og_cnt (fun i => !om_b x i) n) hw (fun x _ => og_cnt_le _ n) (fun y hy hne => og_cnt_lt (fun i _ h => ?_) ?_) hx
  · cases h1 : om_b (f y) i with
    | false => rfl
    | true => rw [hg y i hy h1] at h; cases h
  · refine Classical.byContradiction fun hno => hne ?_
    exact og_wext (hw y hy) hy fun i hi => Classical.byContradiction fun h => hno ⟨i, hi, fun h2 => h (by
      cases h3 : om_b (f y) i <;> cases h4 : om_b y i <;> rw [h3, h4] at h2 <;> first | rfl | cases h2)⟩
/-! ===== one move ===== -/
/-- whether a place is sure: its mask of moves, whose it is, the places within, the target -/
def og_su (N : Nat → Int32) (mi : Nat → Bool) (wi x : Int32) (p : Nat) : Bool := bif mi p then !decide ((N p &&& wi) &&& x = 0) else decide ((N p &&& wi) &&& (x ^^^ (-1)) = 0)
def og_su1 (N : Nat → Int32) (mi : Nat → Bool) (x : Int32) (p : Nat) : Bool := bif mi p then !decide (N p &&& x = 0) else decide (N p &&& (x ^^^ (-1)) = 0)
def og_one (N : Nat → Int32) (mi : Nat → Bool) (n : Nat) (wi x : Int32) : Int32 := og_mk (og_su N mi wi x) n &&& wi
def og_br (N : Nat → Int32) (mi : Nat → Bool) (n : Nat) (x : Int32) : Int32 := og_mk (og_su1 N mi x) n
/-- whose a place is, for a player (0 or 1), by the mask of ONE's -/
def og_mi (ones : Int32) (pl : Nat) (p : Nat) : Bool := bif Nat.beq pl 0 then om_b ones p else !om_b ones p
theorem og_oneMove {M : om_M} {n pl : Nat} (h8 : n ≤ 8) (hpl : pl < 2) (e : M.1 7 0 = nI n) (x wi : Int32) : om_V_oneMoveFrom om_F (nI pl) x wi M = some (og_one (M.1 11) (og_mi (M.1 7 1) pl) n wi x, M) := by
  have key : ∀ s0 : Int32, (∀ p, p < 8 → om_b s0 p = og_mi (M.1 7 1) pl p) → om_V_oneMoveFrom_b17 om_F x wi s0 M = some (og_one (M.1 11) (og_mi (M.1 7 1) pl) n wi x, M) := by
    intro s0 hs0
    obtain ⟨z, hz, rfl⟩ := om_lp (f := om_V_oneMoveFrom_L25_body om_F) (fun i s => s = (x, wi, s0, og_mk (og_su (M.1 11) (og_mi (M.1 7 1) pl) wi x) i, nI i, M)) (fun z => z = (wi, og_mk (og_su (M.1 11) (og_mi (M.1 7 1) pl) wi x) n, M)) n (F := om_F) (Nat.lt_of_le_of_lt h8 (by decide)) (s := (x, wi, s0, 0, 0, M)) rfl (by
      rintro i s hi rfl
      have hin : om_in (nI i) 8 = true := om_in_nI (by omega) (by omega)
      have hcl : (nI i).toNatClampNeg = i := nI_clamp (by omega)
      have hlt : ¬ nI n ≤ nI i := nI_ge hi (by omega)
      refine .inl ⟨_, ?_, rfl⟩
      simp only [om_V_oneMoveFrom_L25_body, om_V_oneMoveFrom_b25, om_V_oneMoveFrom_b84, om_V_oneMoveFrom_b100, e, hlt, hin, hcl, cond_true, if_false, og_nI1, om_tst (show i < 32 by omega), hs0 i (by omega), og_mk, og_su]
      rcases Bool.eq_false_or_eq_true (og_mi (M.1 7 1) pl i) with hm | hm
      · by_cases h : M.1 11 i &&& wi &&& x = 0 <;> simp [h, hm]
      · simp [hm]; split <;> rfl) (by
      rintro s rfl
      exact ⟨_, by simp only [om_V_oneMoveFrom_L25_body, om_V_oneMoveFrom_b25, e]; rw [if_pos Int32.le_rfl], rfl⟩)
    unfold om_V_oneMoveFrom_b17 om_V_oneMoveFrom_L25
    rw [hz]; rfl
  unfold om_V_oneMoveFrom om_V_oneMoveFrom_b0
  have : pl = 0 ∨ pl = 1 := by omega
  rcases this with rfl | rfl
  · rw [if_pos (show nI 0 = 0 from rfl), key _ (fun p _ => rfl)]
  · rw [if_neg (show ¬ nI 1 = 0 by decide), key _ (fun p hp => ?_)]
    rw [om_b_not]
    show _ = !om_b (M.1 7 1) p
    simp [show p < 32 by omega]
theorem og_bring {M : om_M} {n pl : Nat} (h8 : n ≤ 8) (e : M.1 46 2 = nI n) (x : Int32) {mi : Nat → Bool} (hmi : ∀ p, p < n → (M.1 47 p = nI pl ↔ mi p = true)) : om_D_bring om_F (nI pl) x M = some (og_br (M.1 58) mi n x, M) := by
  obtain ⟨z, hz, rfl⟩ := om_lp (f := om_D_bring_L5_body om_F) (fun i s => s = (nI pl, x, og_mk (og_su1 (M.1 58) mi x) i, nI i, M)) (fun z => z = (og_mk (og_su1 (M.1 58) mi x) n, M)) n (F := om_F) (Nat.lt_of_le_of_lt h8 (by decide)) (s := (nI pl, x, 0, 0, M)) rfl (by
    rintro i s hi rfl
    have hin : om_in (nI i) 8 = true := om_in_nI (by omega) (by omega)
    have hcl : (nI i).toNatClampNeg = i := nI_clamp (by omega)
    have hlt : ¬ nI n ≤ nI i := nI_ge hi (by omega)
    have or0 : ∀ y : Int32, y ||| 0 = y := fun y => om_ext fun j _ => by rw [om_b_or, om_b_0, Bool.or_false]
    refine .inl ⟨_, ?_, rfl⟩
    simp only [om_D_bring_L5_body, om_D_bring_b5, om_D_bring_b64, om_D_bring_b80, e, hlt, hin, hcl, cond_true, if_false, og_nI1, hmi i hi, og_mk, og_su1, or0]
    rcases Bool.eq_false_or_eq_true (mi i) with hm | hm
    · by_cases h : M.1 58 i &&& x = 0 <;> simp [h, hm]
    · simp [hm]; split <;> rfl) (by
    rintro s rfl
    exact ⟨_, by simp only [om_D_bring_L5_body, om_D_bring_b5, e]; rw [if_pos Int32.le_rfl], rfl⟩)
  unfold om_D_bring om_D_bring_b0 om_D_bring_L5
  rw [hz]; rfl
def og_ev (n : Nat) : Int32 := (1 : Int32) <<< (nI n &&& 31) - 1
theorem og_b_ev {n : Nat} (h : n ≤ 8) (i : Nat) : om_b (og_ev n) i = decide (i < n) := om_b_ev h i
theorem og_wn_ev {n : Nat} (h : n ≤ 8) : og_wn n (og_ev n) := fun i hi => by rw [og_b_ev h]; simp; omega
/-- within everywhere the component's one move is the model's -/
theorem og_one_br {N : Nat → Int32} {mi : Nat → Bool} {n : Nat} (h8 : n ≤ 8) (hN : ∀ p, p < n → og_wn n (N p)) (x : Int32) : og_one N mi n (og_ev n) x = og_br N mi n x := by
  refine og_wext (n := n) (og_wn_and (og_wn_mk (by omega))) (og_wn_mk (by omega)) fun i hi => ?_
  unfold og_one og_br
  rw [om_b_and, og_b_mk _ (by omega), og_b_mk _ (by omega), og_b_ev h8]
  have : N i &&& og_ev n = N i := og_wext (n := n) (og_wn_and (hN i hi)) (hN i hi) fun j hj => by rw [om_b_and, og_b_ev h8]; simp [hj]
  unfold og_su og_su1
  rw [this]
  simp [hi]
theorem og_br_congr {N N' : Nat → Int32} {mi mi' : Nat → Bool} {n : Nat} (h8 : n ≤ 8) (hN : ∀ p, p < n → N p = N' p) (hm : ∀ p, p < n → mi p = mi' p) (x : Int32) : og_br N mi n x = og_br N' mi' n x := by
  refine og_wext (n := n) (og_wn_mk (by omega)) (og_wn_mk (by omega)) fun i hi => ?_
  unfold og_br
  rw [og_b_mk _ (by omega), og_b_mk _ (by omega)]
  unfold og_su1
  rw [hN i hi, hm i hi]
