/-! ===== walks ===== -/
def og_wk (H : Nat → Nat → Prop) (u : Nat → Nat → Int) : Nat → Nat → Nat → Int → Prop
  | 0, p, q, x => p = q ∧ x = 0
  | k + 1, p, q, x => ∃ r y, og_wk H u k p r y ∧ H r q ∧ x = y + u r q
section WK
variable {n : Nat} {H : Nat → Nat → Prop} {u : Nat → Nat → Int}
theorem og_wk_app {i : Nat} {p v : Nat} {y1 : Int} (h1 : og_wk H u i p v y1) : ∀ {j q : Nat} {y2 : Int}, og_wk H u j v q y2 → og_wk H u (i + j) p q (y1 + y2)
  | 0, q, y2, ⟨h2, h3⟩ => by
    subst h2; subst h3
    rw [Int.add_zero]; exact h1
  | j + 1, q, y2, ⟨r, y, h2, h3, h4⟩ => ⟨r, y1 + y, og_wk_app h1 h2, h3, by omega⟩
theorem og_wk_fun : ∀ {k p q : Nat} {x : Int}, og_wk H u k p q x → ∃ (c : Nat → Nat) (f : Nat → Int), c 0 = p ∧ f 0 = 0 ∧ c k = q ∧ f k = x ∧ ∀ i, i < k → H (c i) (c (i + 1)) ∧ f (i + 1) = f i + u (c i) (c (i + 1))
  | 0, p, q, x, ⟨h1, h2⟩ => ⟨fun _ => p, fun _ => 0, rfl, rfl, h1, h2.symm, fun i hi => absurd hi (by omega)⟩
  | k + 1, p, q, x, ⟨r, y, h1, h2, h3⟩ => by
    obtain ⟨c, f, c0, f0, ck, fk, hs⟩ := og_wk_fun h1
    refine ⟨fun i => if i = k + 1 then q else c i, fun i => if i = k + 1 then x else f i, by simp [c0], by simp [f0], by simp, by simp, fun i hi => ?_⟩
    by_cases hik : i = k
    · subst hik
      simp [ck, fk, h2, h3]
    · have h1 : ¬ i = k + 1 := by omega
      have h2 : ¬ i + 1 = k + 1 := by omega
      simp only [h1, h2, if_false]
      exact hs i (by omega)
theorem og_wk_seg {c : Nat → Nat} {f : Nat → Int} {k : Nat} (hs : ∀ i, i < k → H (c i) (c (i + 1)) ∧ f (i + 1) = f i + u (c i) (c (i + 1))) (i : Nat) : ∀ j, i + j ≤ k → og_wk H u j (c i) (c (i + j)) (f (i + j) - f i)
  | 0, _ => ⟨rfl, by show f i - f i = 0; omega⟩
  | j + 1, h => by
    obtain ⟨h1, h2⟩ := hs (i + j) (by omega)
    refine ⟨c (i + j), f (i + j) - f i, og_wk_seg hs i j (by omega), h1, ?_⟩
    show f (i + j + 1) - f i = (f (i + j) - f i) + u (c (i + j)) (c (i + j + 1))
    omega
theorem og_pigeon : ∀ (n : Nat) (c : Nat → Nat), (∀ i, i ≤ n → c i < n) → ∃ i j, i < j ∧ j ≤ n ∧ c i = c j
  | 0, c, h => absurd (h 0 (Nat.le_refl 0)) (by omega)
  | n + 1, c, h => by
    by_cases hex : ∃ i, i ≤ n ∧ c i = c (n + 1)
    · obtain ⟨i, h1, h2⟩ := hex
      exact ⟨i, n + 1, by omega, by omega, h2⟩
    · have hne : ∀ i, i ≤ n → c i ≠ c (n + 1) := fun i hi h2 => hex ⟨i, hi, h2⟩
      have h1 := h (n + 1) (by omega)
      obtain ⟨i, j, h2, h3, h4⟩ := og_pigeon n (fun i => if c i = n then c (n + 1) else c i) (fun i hi => by
        have h2 := h i (by omega)
        have h3 := hne i hi
        show (if c i = n then c (n + 1) else c i) < n
        split <;> omega)
      refine ⟨i, j, h2, by omega, ?_⟩
      have h5 := hne i (by omega)
      have h6 := hne j (by omega)
      have h4' : (if c i = n then c (n + 1) else c i) = (if c j = n then c (n + 1) else c j) := h4
      split at h4' <;> split at h4' <;> omega
/-- a walk over as many moves as there are places comes twice to one -/
theorem og_wk_cut (hH : ∀ r q, H r q → q < n) {p q : Nat} (hp : p < n) {x : Int} (h : og_wk H u n p q x) : ∃ i j t v y z w, i + j + t = n ∧ 1 ≤ j ∧ og_wk H u i p v y ∧ og_wk H u j v v z ∧ og_wk H u t v q w ∧ x = y + z + w := by
  obtain ⟨c, f, c0, f0, ck, fk, hs⟩ := og_wk_fun h
  have hc : ∀ i, i ≤ n → c i < n := fun i hi => by
    match i, hi with
    | 0, _ => rw [c0]; exact hp
    | i + 1, hi => exact hH _ _ (hs i (by omega)).1
  obtain ⟨i, j, h1, h2, h3⟩ := og_pigeon n c hc
  have a := og_wk_seg hs 0 i (by omega)
  have b := og_wk_seg hs i (j - i) (by omega)
  have d := og_wk_seg hs j (n - j) (by omega)
  rw [show i + (j - i) = j by omega] at b
  rw [show j + (n - j) = n by omega] at d
  rw [Nat.zero_add] at a
  rw [c0] at a
  rw [← h3] at b d
  rw [ck] at d
  exact ⟨i, j - i, n - j, c i, _, _, _, by omega, by omega, a, b, d, by omega⟩
/-- the least walk -/
def og_ds (H : Nat → Nat → Prop) (u : Nat → Nat → Int) (p k q : Nat) (x : Int) : Prop := og_wk H u k p q x ∧ ∀ y, og_wk H u k p q y → x ≤ y
theorem og_wk_lt (hH : ∀ r q, H r q → q < n) {p : Nat} (hp : p < n) : ∀ {k q : Nat} {x : Int}, og_wk H u k p q x → q < n
  | 0, q, x, ⟨h1, _⟩ => h1 ▸ hp
  | k + 1, q, x, ⟨r, y, _, h2, _⟩ => hH r q h2
theorem og_ds_ex (hH : ∀ r q, H r q → q < n) {p : Nat} (hp : p < n) : ∀ {k q : Nat}, (∃ x, og_wk H u k p q x) → ∃ x, og_ds H u p k q x
  | 0, q, ⟨x, h1, h2⟩ => ⟨x, ⟨h1, h2⟩, fun y hy => by rw [h2, hy.2]; exact Int.le_refl _⟩
  | k + 1, q, ⟨x, r, y, h1, h2, h3⟩ => by
    have hds : ∀ r, (∃ y, og_wk H u k p r y) → og_ds H u p k r (Classical.epsilon (fun x => og_ds H u p k r x)) := fun r hr => Classical.epsilon_spec (og_ds_ex hH hp hr)
    obtain ⟨z, ⟨r', g1, ⟨g2, g2'⟩, g3⟩, g4⟩ := og_bx_ex (n := n) (mx := false) (P := fun r => (∃ y, og_wk H u k p r y) ∧ H r q) (f := fun r => Classical.epsilon (fun x => og_ds H u p k r x) + u r q) ⟨r, og_wk_lt hH hp h1, ⟨y, h1⟩, h2⟩
    refine ⟨z, ⟨r', _, (hds r' g2).1, g2', g3⟩, fun y' ⟨r2, y2, e1, e2, e3⟩ => ?_⟩
    have h5 : z ≤ Classical.epsilon (fun x => og_ds H u p k r2 x) + u r2 q := (g4 r2 (og_wk_lt hH hp e1) ⟨⟨y2, e1⟩, e2⟩).2 rfl
    have h6 := (hds r2 ⟨y2, e1⟩).2 y2 e1
    omega
theorem og_wk_bound {C : Int} (hC : ∀ r q, H r q → -C ≤ u r q) : ∀ {k p q : Nat} {x : Int}, og_wk H u k p q x → -((k : Int) * C) ≤ x
  | 0, p, q, x, ⟨_, h2⟩ => by rw [h2]; simp
  | k + 1, p, q, x, ⟨r, y, h1, h2, h3⟩ => by
    have h4 := og_wk_bound hC h1
    have h5 := hC r q h2
    have : ((k + 1 : Nat) : Int) * C = k * C + C := by
      rw [Int.natCast_add, Int.add_mul]; simp
    omega
/-- weights changed by a line -/
theorem og_wk_lin {a b : Int} : ∀ {k p q : Nat} {x : Int}, og_wk H u k p q x → og_wk H (fun r s => b * u r s - a) k p q (b * x - a * k)
  | 0, p, q, x, ⟨h1, h2⟩ => ⟨h1, by rw [h2]; simp⟩
  | k + 1, p, q, x, ⟨r, y, h1, h2, h3⟩ => by
    refine ⟨r, _, og_wk_lin h1, h2, ?_⟩
    rw [h3, Int.mul_add]
    have : a * ((k + 1 : Nat) : Int) = a * k + a := by rw [Int.natCast_add, Int.mul_add]; simp
    show b * y + b * u r q - a * ((k + 1 : Nat) : Int) = b * y - a * k + (b * u r q - a)
    omega
theorem og_wk_unlin {a b : Int} : ∀ {k p q : Nat} {x : Int}, og_wk H (fun r s => b * u r s - a) k p q x → ∃ y, og_wk H u k p q y ∧ x = b * y - a * k
  | 0, p, q, x, ⟨h1, h2⟩ => ⟨0, ⟨h1, rfl⟩, by rw [h2]; simp⟩
  | k + 1, p, q, x, ⟨r, y, h1, h2, h3⟩ => by
    obtain ⟨y', g1, g2⟩ := og_wk_unlin h1
    refine ⟨y' + u r q, ⟨r, y', g1, h2, rfl⟩, ?_⟩
    rw [h3, g2, Int.mul_add]
    have : a * ((k + 1 : Nat) : Int) = a * k + a := by rw [Int.natCast_add, Int.mul_add]; simp
    show b * y' - a * k + (b * u r q - a) = _
    omega
theorem og_ds_lin {a b : Int} (hb : 0 < b) {p k q : Nat} {x : Int} (h : og_ds H u p k q x) : og_ds H (fun r s => b * u r s - a) p k q (b * x - a * k) := by
  refine ⟨og_wk_lin h.1, fun y hy => ?_⟩
  obtain ⟨y', g1, g2⟩ := og_wk_unlin hy
  have := Int.mul_le_mul_of_nonneg_left (h.2 y' g1) (show 0 ≤ b by omega)
  omega
theorem og_ds_uniq {p k q : Nat} {x y : Int} (h : og_ds H u p k q x) (h' : og_ds H u p k q y) : x = y := by
  have := h.2 y h'.1
  have := h'.2 x h.1
  omega
/-- Karp's two sides, at the mean 0 -/
def og_K1 (n : Nat) (H : Nat → Nat → Prop) (u : Nat → Nat → Int) (p : Nat) : Prop := ∀ q x, og_ds H u p n q x → ∃ k y, k < n ∧ og_ds H u p k q y ∧ y ≤ x
def og_K2 (n : Nat) (H : Nat → Nat → Prop) (u : Nat → Nat → Int) (p : Nat) : Prop := ∃ q x, og_ds H u p n q x ∧ ∀ k y, k < n → og_ds H u p k q y → x ≤ y
/-- a loop that can be come to, without gain -/
def og_loop (n : Nat) (H : Nat → Nat → Prop) (u : Nat → Nat → Int) (p : Nat) : Prop := ∃ i v y j z, og_wk H u i p v y ∧ 1 ≤ j ∧ j ≤ n ∧ og_wk H u j v v z ∧ z ≤ 0
theorem og_K2_loop (hH : ∀ r q, H r q → q < n) {p : Nat} (hp : p < n) (h : og_K2 n H u p) : og_loop n H u p := by
  obtain ⟨q, x, h1, h2⟩ := h
  obtain ⟨i, j, t, v, y, z, w, e1, e2, e3, e4, e5, e6⟩ := og_wk_cut hH hp h1.1
  obtain ⟨d, hd⟩ := og_ds_ex hH hp (k := i + t) (q := q) ⟨_, og_wk_app e3 e5⟩
  have a := h2 _ _ (by omega) hd
  have b := hd.2 _ (og_wk_app e3 e5)
  exact ⟨i, v, y, j, z, e3, e2, by omega, e4, by omega⟩
theorem og_K1_of (hH : ∀ r q, H r q → q < n) {p : Nat} (hp : p < n) (h : ∀ i v y j z, og_wk H u i p v y → 1 ≤ j → j ≤ n → og_wk H u j v v z → 0 ≤ z) : og_K1 n H u p := by
  intro q x hx
  obtain ⟨i, j, t, v, y, z, w, e1, e2, e3, e4, e5, e6⟩ := og_wk_cut hH hp hx.1
  obtain ⟨d, hd⟩ := og_ds_ex hH hp (k := i + t) (q := q) ⟨_, og_wk_app e3 e5⟩
  have a := h i v y j z e3 e2 (by omega) e4
  have b := hd.2 _ (og_wk_app e3 e5)
  exact ⟨i + t, d, by omega, hd, by omega⟩
/-- amounts along which no move loses -/
theorem og_pot (hH : ∀ r q, H r q → q < n) {p : Nat} (hp : p < n) {C : Int} (hC0 : 0 ≤ C) (hC : ∀ r q, H r q → -C ≤ u r q) (hK : og_K1 n H u p) : ∃ (A : Nat → Prop) (π : Nat → Int), A p ∧ (∀ v, A v → v < n ∧ -(((n - 1 : Nat) : Int) * C) ≤ π v) ∧ π p ≤ 0 ∧ ∀ v q, A v → H v q → A q ∧ π q ≤ π v + u v q := by
  have hPI : ∀ v, (∃ k y, k < n ∧ og_wk H u k p v y) → ∃ x, (∃ k, k < n ∧ og_ds H u p k v x) ∧ ∀ k y, k < n → og_wk H u k p v y → x ≤ y := by
    rintro v ⟨k, y, hk, hw⟩
    have hds : ∀ k, (∃ y, og_wk H u k p v y) → og_ds H u p k v (Classical.epsilon (fun x => og_ds H u p k v x)) := fun k hk => Classical.epsilon_spec (og_ds_ex hH hp hk)
    obtain ⟨z, ⟨k', g1, g2, g3⟩, g4⟩ := og_bx_ex (n := n) (mx := false) (P := fun k => ∃ y, og_wk H u k p v y) (f := fun k => Classical.epsilon (fun x => og_ds H u p k v x)) ⟨k, hk, y, hw⟩
    refine ⟨z, ⟨k', g1, by rw [g3]; exact hds k' g2⟩, fun k2 y2 h1 h2 => ?_⟩
    have h5 : z ≤ Classical.epsilon (fun x => og_ds H u p k2 v x) := (g4 k2 h1 ⟨y2, h2⟩).2 rfl
    have h6 := (hds k2 ⟨y2, h2⟩).2 y2 h2
    omega
  have hspec : ∀ v, (∃ k y, k < n ∧ og_wk H u k p v y) → (∃ k, k < n ∧ og_ds H u p k v (Classical.epsilon (fun x => (∃ k, k < n ∧ og_ds H u p k v x) ∧ ∀ k y, k < n → og_wk H u k p v y → x ≤ y))) ∧ ∀ k y, k < n → og_wk H u k p v y → Classical.epsilon (fun x => (∃ k, k < n ∧ og_ds H u p k v x) ∧ ∀ k y, k < n → og_wk H u k p v y → x ≤ y) ≤ y := fun v hv => Classical.epsilon_spec (hPI v hv)
  refine ⟨fun v => ∃ k y, k < n ∧ og_wk H u k p v y, fun v => Classical.epsilon (fun x => (∃ k, k < n ∧ og_ds H u p k v x) ∧ ∀ k y, k < n → og_wk H u k p v y → x ≤ y), ⟨0, 0, by omega, rfl, rfl⟩, fun v hv => ?_, ?_, fun v q hv hq => ?_⟩
  · obtain ⟨⟨k, hk, hd⟩, -⟩ := hspec v hv
    refine ⟨og_wk_lt hH hp hd.1, ?_⟩
    have h1 := og_wk_bound hC hd.1
    have h2 : (k : Int) * C ≤ ((n - 1 : Nat) : Int) * C := Int.mul_le_mul_of_nonneg_right (by omega) hC0
    exact Int.le_trans (by omega) h1
  · exact (hspec p ⟨0, 0, by omega, rfl, rfl⟩).2 0 0 (by omega) ⟨rfl, rfl⟩
  · obtain ⟨⟨k, hk, hd⟩, -⟩ := hspec v hv
    have hw : og_wk H u (k + 1) p q (Classical.epsilon (fun x => (∃ k, k < n ∧ og_ds H u p k v x) ∧ ∀ k y, k < n → og_wk H u k p v y → x ≤ y) + u v q) := ⟨v, _, hd.1, hq, rfl⟩
    by_cases hkn : k + 1 < n
    · exact ⟨⟨k + 1, _, hkn, hw⟩, (hspec q ⟨k + 1, _, hkn, hw⟩).2 _ _ hkn hw⟩
    · have : k + 1 = n := by omega
      rw [this] at hw
      obtain ⟨x, hx⟩ := og_ds_ex hH hp ⟨_, hw⟩
      obtain ⟨k', y, h1, h2, h3⟩ := hK q x hx
      have h4 := hx.2 _ hw
      have h5 := (hspec q ⟨k', y, h1, h2.1⟩).2 k' y h1 h2.1
      refine ⟨⟨k', y, h1, h2.1⟩, ?_⟩
      show Classical.epsilon _ ≤ Classical.epsilon _ + u v q
      omega
end WK
section VT
variable {n : Nat} {mi : Nat → Bool} {G : Nat → Nat → Prop} {u : Nat → Nat → Int}
/-- the moves left by a plan -/
def og_H (mi : Nat → Bool) (G : Nat → Nat → Prop) (s : Nat → Nat) (p q : Nat) : Prop := G p q ∧ (mi p = true → q = s p)
def og_plan (n : Nat) (mi : Nat → Bool) (G : Nat → Nat → Prop) (s : Nat → Nat) : Prop := ∀ p, p < n → mi p = true → G p (s p)
theorem og_pot_V {V : Nat → Nat → Int} (hV : og_Vs n mi G u V) {s : Nat → Nat} (hs : og_plan n mi G s) {A : Nat → Prop} {π : Nat → Int} {m : Int} (hA : ∀ v, A v → v < n ∧ m ≤ π v) (hE : ∀ v q, A v → og_H mi G s v q → A q ∧ π q ≤ π v + u v q) : ∀ k v, A v → m - π v ≤ V k v
  | 0, v, hv => by
    have := hA v hv
    rw [hV.1 v this.1]; omega
  | k + 1, v, hv => by
    have h1 := hA v hv
    obtain ⟨⟨q, g1, g2, g3⟩, g4⟩ := og_Vs_st hV k h1.1
    cases hm : mi v with
    | true =>
      have hsv := hs v h1.1 hm
      have h2 := hE v (s v) hv ⟨hsv, fun _ => rfl⟩
      have h3 := og_pot_V hV hs hA hE k (s v) h2.1
      have h4 := (g4 (s v) (hA _ h2.1).1 hsv).1 hm
      omega
    | false =>
      have h2 := hE v q hv ⟨g2, fun h => by rw [hm] at h; cases h⟩
      have h3 := og_pot_V hV hs hA hE k q h2.1
      omega
theorem og_cert_wk {A : Nat → Prop} {s : Nat → Nat} {e : Nat → Int} (hc : og_cert n mi G u A s e) {s' : Nat → Nat} (hss : ∀ p, A p → mi p = true → s' p = s p) : ∀ {k p q : Nat} {x : Int}, A p → og_wk (og_H mi G s') u k p q x → A q ∧ e q ≤ e p + x
  | 0, p, q, x, hp, ⟨h1, h2⟩ => by subst h1; rw [h2]; exact ⟨hp, by omega⟩
  | k + 1, p, q, x, hp, ⟨r, y, h1, h2, h3⟩ => by
    obtain ⟨g1, g2⟩ := og_cert_wk hc hss hp h1
    cases hm : mi r with
    | true =>
      have e1 : q = s r := by rw [h2.2 hm, hss r g1 hm]
      have := hc.2.1 r g1 hm
      rw [e1] at h3 ⊢
      exact ⟨this.2.1, by omega⟩
    | false =>
      have := hc.2.2 r q g1 hm h2.1
      exact ⟨this.1, by omega⟩
theorem og_Vs_lin {V : Nat → Nat → Int} {a b : Int} (hb : 0 < b) (h : og_Vs n mi G u V) : og_Vs n mi G (fun p q => b * u p q - a) (fun k p => b * V k p - a * k) := by
  refine ⟨fun p hp => ?_, fun k p hp => ?_⟩
  · show b * V 0 p - a * ((0 : Nat) : Int) = 0
    rw [h.1 p hp]; simp
  · obtain ⟨⟨q, h1, h2, h3⟩, h4⟩ := og_Vs_st h k hp
    have ek : a * ((k + 1 : Nat) : Int) = a * k + a := by rw [Int.natCast_add, Int.mul_add]; simp
    refine ⟨⟨q, h1, h2, ?_⟩, fun q' hq' hG => ?_⟩
    · show b * V (k + 1) p - a * ((k + 1 : Nat) : Int) = b * u p q - a + (b * V k q - a * k)
      rw [h3, Int.mul_add, ek]; omega
    · show (mi p = true → b * u p q' - a + (b * V k q' - a * k) ≤ b * V (k + 1) p - a * ((k + 1 : Nat) : Int)) ∧ (mi p = false → b * V (k + 1) p - a * ((k + 1 : Nat) : Int) ≤ b * u p q' - a + (b * V k q' - a * k))
      rw [ek]
      have := h4 q' hq' hG
      constructor
      · intro hm
        have h5 := Int.mul_le_mul_of_nonneg_left (this.1 hm) (show 0 ≤ b by omega)
        rw [Int.mul_add] at h5; omega
      · intro hm
        have h5 := Int.mul_le_mul_of_nonneg_left (this.2 hm) (show 0 ≤ b by omega)
        rw [Int.mul_add] at h5; omega
/-- the best of the plans' least loops is the most by each move -/
theorem og_value {V : Nat → Nat → Int} (h8 : n ≤ 8) (hG : ∀ p q, G p q → q < n) (hne : ∀ p, p < n → ∃ q, q < n ∧ G p q) (hw : ∀ p q, G p q → -5 ≤ u p q ∧ u p q ≤ 5) (hV : og_Vs n mi G u V) {a b : Int} (hb : 0 < b) (ha : -(5 * b) ≤ a ∧ a ≤ 5 * b) {p : Nat} (hp : p < n) {s : Nat → Nat} (hs : og_plan n mi G s) (hL : og_K1 n (og_H mi G s) (fun r q => b * u r q - a) p) (hU : ∀ s, og_plan n mi G s → ∃ a' b' : Int, 0 < b' ∧ a' * b ≤ a * b' ∧ og_K2 n (og_H mi G s) (fun r q => b' * u r q - a') p) (k : Nat) : -(70 * b) ≤ b * V k p - a * k ∧ b * V k p - a * k ≤ 70 * b := by
  have hC : ∀ r q, G r q → -(10 * b) ≤ b * u r q - a ∧ b * u r q - a ≤ 10 * b := by
    intro r q hg
    have := hw r q hg
    have h1 := Int.mul_le_mul_of_nonneg_left this.1 (show 0 ≤ b by omega)
    have h2 := Int.mul_le_mul_of_nonneg_left this.2 (show 0 ≤ b by omega)
    omega
  have hn7 : ((n - 1 : Nat) : Int) * (10 * b) ≤ 70 * b := by
    have := Int.mul_le_mul_of_nonneg_right (show ((n - 1 : Nat) : Int) ≤ 7 by omega) (show 0 ≤ 10 * b by omega)
    omega
  have hVl := og_Vs_lin (a := a) hb hV
  constructor
  · obtain ⟨A, π, h1, h2, h3, h4⟩ := og_pot (H := og_H mi G s) (u := fun r q => b * u r q - a) (fun r q h => hG r q h.1) hp (C := 10 * b) (by omega) (fun r q h => (hC r q h.1).1) hL
    have := og_pot_V hVl hs h2 h4 k p h1
    omega
  · -- the other's plan
    have hWb : ∀ p q, p < n → q < n → G p q → -(9 * (10 * b) + 1) ≤ 9 * (b * u p q - a) - 1 ∧ 9 * (b * u p q - a) - 1 ≤ 9 * (10 * b) + 1 := fun p q _ _ hg => by
      have := hC p q hg; omega
    have hV9 := og_Vs_lin (a := 1) (b := 9) (by omega) hVl
    have hE := og_Ec_ok (n := n) (mi := mi) (G := G) (u := fun p q => 9 * (b * u p q - a) - 1) hne
    have hE' := og_Ec_ok (n := n) (mi := fun p => !mi p) (G := G) (u := fun p q => -(9 * (b * u p q - a) - 1)) hne
    rcases og_weak hE hE' hV9 (by omega) hWb hp with hf | hf
    · exfalso
      obtain ⟨s1, e, hc⟩ := og_cert_ex hE hG hWb
      -- a plan of all places that does as s1 where it must
      have hex : ∀ p, ∃ q, (p < n → mi p = true → G p q) ∧ ((p < n ∧ og_fin (og_Ec n mi G (fun p q => 9 * (b * u p q - a) - 1)) p) → mi p = true → q = s1 p) := by
        intro p
        by_cases h1 : p < n ∧ og_fin (og_Ec n mi G (fun p q => 9 * (b * u p q - a) - 1)) p ∧ mi p = true
        · exact ⟨s1 p, fun _ _ => (hc.2.1 p ⟨h1.1, h1.2.1⟩ h1.2.2).1, fun _ _ => rfl⟩
        · by_cases hpn : p < n
          · obtain ⟨q, -, hq⟩ := hne p hpn
            exact ⟨q, fun _ _ => hq, fun h2 h3 => absurd ⟨h2.1, h2.2, h3⟩ h1⟩
          · exact ⟨0, fun h2 => absurd h2 hpn, fun h2 => absurd h2.1 hpn⟩
      obtain ⟨s2, hs2⟩ := Classical.skolem.mp hex
      obtain ⟨a', b', hb', hab, hK2⟩ := hU s2 (fun p hp hm => (hs2 p).1 hp hm)
      obtain ⟨i, v, y, j, z, w1, hj, -, w2, hz⟩ := og_K2_loop (fun r q h => hG r q h.1) hp hK2
      obtain ⟨y', w1', -⟩ := og_wk_unlin w1
      obtain ⟨z', w2', hz'⟩ := og_wk_unlin w2
      have t1 := og_wk_lin (a := 1) (b := 9) (og_wk_lin (a := a) (b := b) w1')
      have t2 := og_wk_lin (a := 1) (b := 9) (og_wk_lin (a := a) (b := b) w2')
      obtain ⟨c1, -⟩ := og_cert_wk hc (fun p hA hm => (hs2 p).2 hA hm) ⟨hp, hf⟩ t1
      obtain ⟨-, c2⟩ := og_cert_wk hc (fun p hA hm => (hs2 p).2 hA hm) c1 t2
      -- b z' <= a j
      have h1 : b' * z' ≤ a' * j := by omega
      have h2 : b * (b' * z') ≤ b * (a' * j) := Int.mul_le_mul_of_nonneg_left h1 (by omega)
      have h3 : a' * b * j ≤ a * b' * j := Int.mul_le_mul_of_nonneg_right hab (by omega)
      have e1 : b * (a' * j) = a' * b * j := by rw [← Int.mul_assoc, Int.mul_comm b a']
      have e2 : b * (b' * z') = b' * (b * z') := by rw [← Int.mul_assoc, Int.mul_comm b b', Int.mul_assoc]
      have e3 : a * b' * j = b' * (a * j) := by rw [Int.mul_comm a b', Int.mul_assoc]
      have h4 : b' * (b * z') ≤ b' * (a * j) := by omega
      have h5 : b * z' ≤ a * j := Int.le_of_mul_le_mul_left h4 hb'
      omega
    · obtain ⟨t, e, hc⟩ := og_cert_ex hE' hG (W := 9 * (10 * b) + 1) (fun p q hp hq hg => by have := hWb p q hp hq hg; omega)
      have hex : ∀ p, ∃ q, (p < n → (!mi p) = true → G p q) ∧ ((p < n ∧ og_fin (og_Ec n (fun p => !mi p) G (fun p q => -(9 * (b * u p q - a) - 1))) p) → (!mi p) = true → q = t p) := by
        intro p
        by_cases h1 : p < n ∧ og_fin (og_Ec n (fun p => !mi p) G (fun p q => -(9 * (b * u p q - a) - 1))) p ∧ (!mi p) = true
        · exact ⟨t p, fun _ _ => (hc.2.1 p ⟨h1.1, h1.2.1⟩ h1.2.2).1, fun _ _ => rfl⟩
        · by_cases hpn : p < n
          · obtain ⟨q, -, hq⟩ := hne p hpn
            exact ⟨q, fun _ _ => hq, fun h2 h3 => absurd ⟨h2.1, h2.2, h3⟩ h1⟩
          · exact ⟨0, fun h2 => absurd h2 hpn, fun h2 => absurd h2.1 hpn⟩
      obtain ⟨t2, ht2⟩ := Classical.skolem.mp hex
      have hplan : og_plan n (fun p => !mi p) G t2 := fun p hp hm => (ht2 p).1 hp hm
      have hK1 : og_K1 n (og_H (fun p => !mi p) G t2) (fun r q => -(b * u r q - a)) p := by
        refine og_K1_of (fun r q h => hG r q h.1) hp fun i v y j z w1 hj hjn w2 => ?_
        -- the same walks, nine times and one more
        have conv : ∀ {k p q : Nat} {x : Int}, og_wk (og_H (fun p => !mi p) G t2) (fun r q => -(b * u r q - a)) k p q x → og_wk (og_H (fun p => !mi p) G t2) (fun p q => -(9 * (b * u p q - a) - 1)) k p q (9 * x + k) := by
          intro k p q x h
          have := og_wk_lin (a := -1) (b := 9) h
          have e1 : (fun r s => 9 * (fun r q => -(b * u r q - a)) r s - -1) = (fun p q => -(9 * (b * u p q - a) - 1)) := by
            funext r s
            show 9 * -(b * u r s - a) - -1 = -(9 * (b * u r s - a) - 1)
            omega
          rw [e1] at this
          have e2 : 9 * x - -1 * (k : Int) = 9 * x + k := by omega
          rw [e2] at this; exact this
        obtain ⟨c1, -⟩ := og_cert_wk hc (fun p hA hm => (ht2 p).2 hA hm) ⟨hp, hf⟩ (conv w1)
        obtain ⟨-, c2⟩ := og_cert_wk hc (fun p hA hm => (ht2 p).2 hA hm) c1 (conv w2)
        omega
      obtain ⟨A, π, h1, h2, h3, h4⟩ := og_pot (H := og_H (fun p => !mi p) G t2) (u := fun r q => -(b * u r q - a)) (fun r q h => hG r q h.1) hp (C := 10 * b) (by omega) (fun r q h => by have := (hC r q h.1).2; omega) hK1
      have := og_pot_V (og_Vs_neg hVl) hplan h2 h4 k p h1
      omega
end VT
