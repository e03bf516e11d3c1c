/-! ===== measures ===== -/
def og_u (k : Nat) : Nat := if k = 0 then 729 else if k = 1 then 81 else if k = 2 then 9 else 1
def og_nc (mo : Nat → Nat) : Nat → Nat → Nat
  | 0, _ => 100000
  | c + 1, b => if b / og_u c % 9 = mo c then og_nc mo c (b - mo c * og_u c) else b + og_u c
def og_nd (mo : Nat → Nat) (n m : Nat) : Nat := if m = 100000 then 100000 else if (n + 1) / 2 = 0 then 0 else if n % 2 = 0 then m / og_u ((n + 1) / 2 - 1) * og_u ((n + 1) / 2 - 1) else og_nc mo ((n + 1) / 2) (m / og_u ((n + 1) / 2 - 1) * og_u ((n + 1) / 2 - 1))
def og_val (mo : Nat → Nat) (x : Nat) : Prop := ∃ a b c d, a ≤ mo 0 ∧ b ≤ mo 1 ∧ c ≤ mo 2 ∧ d ≤ mo 3 ∧ x = 729 * a + 81 * b + 9 * c + d
def og_m8 (mo : Nat → Nat) : Prop := mo 0 ≤ 8 ∧ mo 1 ≤ 8 ∧ mo 2 ≤ 8 ∧ mo 3 ≤ 8
theorem og_val_lt {mo : Nat → Nat} (h : og_m8 mo) {x : Nat} (hx : og_val mo x) : x < 6561 := by
  obtain ⟨a, b, c, d, h1, h2, h3, h4, rfl⟩ := hx
  obtain ⟨g1, g2, g3, g4⟩ := h
  omega
/-- the least valid number above b that keeps c digits, or none -/
def og_lst (mo : Nat → Nat) (u b r : Nat) : Prop := (r = 100000 ∧ ∀ x, og_val mo x → u ∣ x → x ≤ b) ∨ (og_val mo r ∧ u ∣ r ∧ b < r ∧ ∀ x, og_val mo x → u ∣ x → b < x → r ≤ x)
theorem og_nc1 {mo : Nat → Nat} (h : og_m8 mo) {a : Nat} (ha : a ≤ mo 0) : og_lst mo 729 (729 * a) (og_nc mo 1 (729 * a)) := by
  obtain ⟨g1, g2, g3, g4⟩ := h
  have e : 729 * a / og_u 0 % 9 = a := by show 729 * a / 729 % 9 = a; omega
  show og_lst mo 729 (729 * a) (if 729 * a / og_u 0 % 9 = mo 0 then 100000 else 729 * a + 729)
  rw [e]
  by_cases h0 : a = mo 0
  · rw [if_pos h0]
    refine .inl ⟨rfl, ?_⟩
    rintro x ⟨a', b', c', d', h1, h2, h3, h4, rfl⟩ hd
    omega
  · rw [if_neg h0]
    refine .inr ⟨⟨a + 1, 0, 0, 0, by omega, by omega, by omega, by omega, by omega⟩, by omega, by omega, ?_⟩
    rintro x ⟨a', b', c', d', h1, h2, h3, h4, rfl⟩ hd hx
    omega
theorem og_nc2 {mo : Nat → Nat} (h : og_m8 mo) {a b : Nat} (ha : a ≤ mo 0) (hb : b ≤ mo 1) : og_lst mo 81 (729 * a + 81 * b) (og_nc mo 2 (729 * a + 81 * b)) := by
  have hh := h
  obtain ⟨g1, g2, g3, g4⟩ := h
  have e : (729 * a + 81 * b) / og_u 1 % 9 = b := by show (729 * a + 81 * b) / 81 % 9 = b; omega
  show og_lst mo 81 (729 * a + 81 * b) (if (729 * a + 81 * b) / og_u 1 % 9 = mo 1 then og_nc mo 1 (729 * a + 81 * b - mo 1 * 81) else 729 * a + 81 * b + 81)
  rw [e]
  by_cases h0 : b = mo 1
  · rw [if_pos h0, show 729 * a + 81 * b - mo 1 * 81 = 729 * a by omega]
    rcases og_nc1 hh ha with ⟨h1, h2⟩ | ⟨h1, h2, h3, h4⟩
    · refine .inl ⟨h1, ?_⟩
      rintro x ⟨a', b', c', d', k1, k2, k3, k4, rfl⟩ hd
      have := h2 (729 * a') ⟨a', 0, 0, 0, k1, by omega, by omega, by omega, by omega⟩ (by omega)
      omega
    · refine .inr ⟨h1, by omega, by omega, ?_⟩
      rintro x ⟨a', b', c', d', k1, k2, k3, k4, rfl⟩ hd hx
      have := h4 (729 * a') ⟨a', 0, 0, 0, k1, by omega, by omega, by omega, by omega⟩ (by omega) (by omega)
      omega
  · rw [if_neg h0]
    refine .inr ⟨⟨a, b + 1, 0, 0, by omega, by omega, by omega, by omega, by omega⟩, by omega, by omega, ?_⟩
    rintro x ⟨a', b', c', d', h1, h2, h3, h4, rfl⟩ hd hx
    omega
theorem og_nc3 {mo : Nat → Nat} (h : og_m8 mo) {a b c : Nat} (ha : a ≤ mo 0) (hb : b ≤ mo 1) (hc : c ≤ mo 2) : og_lst mo 9 (729 * a + 81 * b + 9 * c) (og_nc mo 3 (729 * a + 81 * b + 9 * c)) := by
  have hh := h
  obtain ⟨g1, g2, g3, g4⟩ := h
  have e : (729 * a + 81 * b + 9 * c) / og_u 2 % 9 = c := by show (729 * a + 81 * b + 9 * c) / 9 % 9 = c; omega
  show og_lst mo 9 (729 * a + 81 * b + 9 * c) (if (729 * a + 81 * b + 9 * c) / og_u 2 % 9 = mo 2 then og_nc mo 2 (729 * a + 81 * b + 9 * c - mo 2 * 9) else 729 * a + 81 * b + 9 * c + 9)
  rw [e]
  by_cases h0 : c = mo 2
  · rw [if_pos h0, show 729 * a + 81 * b + 9 * c - mo 2 * 9 = 729 * a + 81 * b by omega]
    rcases og_nc2 hh ha hb with ⟨h1, h2⟩ | ⟨h1, h2, h3, h4⟩
    · refine .inl ⟨h1, ?_⟩
      rintro x ⟨a', b', c', d', k1, k2, k3, k4, rfl⟩ hd
      have := h2 (729 * a' + 81 * b') ⟨a', b', 0, 0, k1, k2, by omega, by omega, by omega⟩ (by omega)
      omega
    · refine .inr ⟨h1, by omega, by omega, ?_⟩
      rintro x ⟨a', b', c', d', k1, k2, k3, k4, rfl⟩ hd hx
      have := h4 (729 * a' + 81 * b') ⟨a', b', 0, 0, k1, k2, by omega, by omega, by omega⟩ (by omega) (by omega)
      omega
  · rw [if_neg h0]
    refine .inr ⟨⟨a, b, c + 1, 0, by omega, by omega, by omega, by omega, by omega⟩, by omega, by omega, ?_⟩
    rintro x ⟨a', b', c', d', h1, h2, h3, h4, rfl⟩ hd hx
    omega
theorem og_nc4 {mo : Nat → Nat} (h : og_m8 mo) {a b c d : Nat} (ha : a ≤ mo 0) (hb : b ≤ mo 1) (hc : c ≤ mo 2) (hd : d ≤ mo 3) : og_lst mo 1 (729 * a + 81 * b + 9 * c + d) (og_nc mo 4 (729 * a + 81 * b + 9 * c + d)) := by
  have hh := h
  obtain ⟨g1, g2, g3, g4⟩ := h
  have e : (729 * a + 81 * b + 9 * c + d) / og_u 3 % 9 = d := by show (729 * a + 81 * b + 9 * c + d) / 1 % 9 = d; omega
  show og_lst mo 1 (729 * a + 81 * b + 9 * c + d) (if (729 * a + 81 * b + 9 * c + d) / og_u 3 % 9 = mo 3 then og_nc mo 3 (729 * a + 81 * b + 9 * c + d - mo 3 * 1) else 729 * a + 81 * b + 9 * c + d + 1)
  rw [e]
  by_cases h0 : d = mo 3
  · rw [if_pos h0, show 729 * a + 81 * b + 9 * c + d - mo 3 * 1 = 729 * a + 81 * b + 9 * c by omega]
    rcases og_nc3 hh ha hb hc with ⟨h1, h2⟩ | ⟨h1, h2, h3, h4⟩
    · refine .inl ⟨h1, ?_⟩
      rintro x ⟨a', b', c', d', k1, k2, k3, k4, rfl⟩ -
      have := h2 (729 * a' + 81 * b' + 9 * c') ⟨a', b', c', 0, k1, k2, k3, by omega, by omega⟩ (by omega)
      omega
    · refine .inr ⟨h1, by omega, by omega, ?_⟩
      rintro x ⟨a', b', c', d', k1, k2, k3, k4, rfl⟩ - hx
      have := h4 (729 * a' + 81 * b' + 9 * c') ⟨a', b', c', 0, k1, k2, k3, by omega, by omega⟩ (by omega) (by omega)
      omega
  · rw [if_neg h0]
    refine .inr ⟨⟨a, b, c, d + 1, by omega, by omega, by omega, by omega, by omega⟩, by omega, by omega, ?_⟩
    rintro x ⟨a', b', c', d', h1, h2, h3, h4, rfl⟩ - hx
    omega
/-- what a number needs: even ones keep the digits ahead, odd ones add one there -/
theorem og_nd_even {mo : Nat → Nat} {n m : Nat} (hm : m < 6561) (h2 : n % 2 = 0) (hn : n < 8) : og_nd mo n m = (if n = 0 then 0 else m / og_u (n / 2 - 1) * og_u (n / 2 - 1)) := by
  unfold og_nd
  rw [if_neg (by omega)]
  by_cases h0 : n = 0
  · subst h0; rfl
  · rw [if_neg (by omega), if_pos h2, if_neg h0, show (n + 1) / 2 = n / 2 by omega]
theorem og_nd_odd {mo : Nat → Nat} (h8 : og_m8 mo) {n m : Nat} (hm : og_val mo m) (h2 : n % 2 = 1) (hn : n < 8) : og_lst mo (og_u (n / 2)) (m / og_u (n / 2) * og_u (n / 2)) (og_nd mo n m) := by
  have hlt := og_val_lt h8 hm
  have e : (n + 1) / 2 - 1 = n / 2 := by omega
  unfold og_nd
  rw [if_neg (by omega), if_neg (by omega), if_neg (by omega), e]
  obtain ⟨a, b, c, d, h1, h2', h3, h4, rfl⟩ := hm
  have hh := h8
  obtain ⟨g1, g2, g3, g4⟩ := h8
  have : n = 1 ∨ n = 3 ∨ n = 5 ∨ n = 7 := by omega
  rcases this with rfl | rfl | rfl | rfl
  · have : (729 * a + 81 * b + 9 * c + d) / og_u (1 / 2) * og_u (1 / 2) = 729 * a := by
      show (729 * a + 81 * b + 9 * c + d) / 729 * 729 = 729 * a; omega
    rw [this]; exact og_nc1 hh h1
  · have : (729 * a + 81 * b + 9 * c + d) / og_u (3 / 2) * og_u (3 / 2) = 729 * a + 81 * b := by
      show (729 * a + 81 * b + 9 * c + d) / 81 * 81 = 729 * a + 81 * b; omega
    rw [this]; exact og_nc2 hh h1 h2'
  · have : (729 * a + 81 * b + 9 * c + d) / og_u (5 / 2) * og_u (5 / 2) = 729 * a + 81 * b + 9 * c := by
      show (729 * a + 81 * b + 9 * c + d) / 9 * 9 = 729 * a + 81 * b + 9 * c; omega
    rw [this]; exact og_nc3 hh h1 h2' h3
  · have : (729 * a + 81 * b + 9 * c + d) / og_u (7 / 2) * og_u (7 / 2) = 729 * a + 81 * b + 9 * c + d := by
      show (729 * a + 81 * b + 9 * c + d) / 1 * 1 = _; omega
    rw [this]; exact og_nc4 hh h1 h2' h3 h4
theorem og_u_pos (k : Nat) : 0 < og_u k := by unfold og_u; split <;> (try split) <;> (try split) <;> omega
/-- valid, or the top -/
def og_vt (mo : Nat → Nat) (x : Nat) : Prop := x = 100000 ∨ og_val mo x
theorem og_nd_vt {mo : Nat → Nat} (h8 : og_m8 mo) {n m : Nat} (hm : og_vt mo m) (hn : n < 8) : og_vt mo (og_nd mo n m) := by
  rcases hm with rfl | hm
  · left; unfold og_nd; rw [if_pos rfl]
  · rcases Nat.mod_two_eq_zero_or_one n with h2 | h2
    · right
      rw [og_nd_even (og_val_lt h8 hm) h2 hn]
      obtain ⟨a, b, c, d, k1, k2, k3, k4, rfl⟩ := hm
      obtain ⟨g1, g2, g3, g4⟩ := h8
      have : n = 0 ∨ n = 2 ∨ n = 4 ∨ n = 6 := by omega
      rcases this with rfl | rfl | rfl | rfl
      · exact ⟨0, 0, 0, 0, by omega, by omega, by omega, by omega, rfl⟩
      · exact ⟨a, 0, 0, 0, k1, by omega, by omega, by omega, by show (729 * a + 81 * b + 9 * c + d) / 729 * 729 = _; omega⟩
      · exact ⟨a, b, 0, 0, k1, k2, by omega, by omega, by show (729 * a + 81 * b + 9 * c + d) / 81 * 81 = _; omega⟩
      · exact ⟨a, b, c, 0, k1, k2, k3, by omega, by show (729 * a + 81 * b + 9 * c + d) / 9 * 9 = _; omega⟩
    · rcases og_nd_odd h8 hm h2 hn with h | h
      · exact .inl h.1
      · exact .inr h.1
theorem og_vt_le {mo : Nat → Nat} (h8 : og_m8 mo) {x : Nat} (hx : og_vt mo x) : x ≤ 100000 := by
  rcases hx with rfl | hx
  · omega
  · have := og_val_lt h8 hx; omega
theorem og_nd_mono {mo : Nat → Nat} (h8 : og_m8 mo) {n m m' : Nat} (hm : og_vt mo m) (hm' : og_vt mo m') (hle : m ≤ m') (hn : n < 8) : og_nd mo n m ≤ og_nd mo n m' := by
  rcases hm' with rfl | hm'
  · have : og_nd mo n 100000 = 100000 := by unfold og_nd; rw [if_pos rfl]
    rw [this]
    exact og_vt_le h8 (og_nd_vt h8 hm hn)
  · have hlt' := og_val_lt h8 hm'
    rcases hm with rfl | hm
    · omega
    · have hdiv : ∀ u, m / u * u ≤ m' / u * u := fun u => Nat.mul_le_mul_right u (Nat.div_le_div_right hle)
      rcases Nat.mod_two_eq_zero_or_one n with h2 | h2
      · rw [og_nd_even (og_val_lt h8 hm) h2 hn, og_nd_even hlt' h2 hn]
        split
        · exact Nat.le_refl 0
        · exact hdiv _
      · rcases og_nd_odd h8 hm' h2 hn with h | ⟨h1, h3, h4, h5⟩
        · rw [h.1]
          exact og_vt_le h8 (og_nd_vt h8 (.inr hm) hn)
        · rcases og_nd_odd h8 hm h2 hn with ⟨g1, g2⟩ | ⟨g1, g2, g3, g4⟩
          · have := g2 _ h1 h3
            have := hdiv (og_u (n / 2))
            omega
          · exact g4 _ h1 h3 (by have := hdiv (og_u (n / 2)); omega)
/-- the digits up to that of an odd number never grow along moves, and fall at the number itself -/
theorem og_nd_dig {mo : Nat → Nat} (h8 : og_m8 mo) {n m k : Nat} (hm : og_val mo m) (hk : k < 4) (hn : n < 8) (hkn : 2 * k + 1 ≤ n) (ht : og_nd mo n m ≠ 100000) : m / og_u k ≤ og_nd mo n m / og_u k ∧ (n = 2 * k + 1 → m / og_u k < og_nd mo n m / og_u k) := by
  have hlt := og_val_lt h8 hm
  have hu : ∀ j, k ≤ j → j < 4 → m / og_u k = m / og_u j * og_u j / og_u k := by
    intro j h1 h2
    have h3 : k = 0 ∨ k = 1 ∨ k = 2 ∨ k = 3 := by omega
    have h4 : j = 0 ∨ j = 1 ∨ j = 2 ∨ j = 3 := by omega
    rcases h3 with rfl | rfl | rfl | rfl <;> rcases h4 with rfl | rfl | rfl | rfl <;> first | omega | (simp [og_u]; done) | (simp [og_u]; omega)
  rcases Nat.mod_two_eq_zero_or_one n with h2 | h2
  · rw [og_nd_even hlt h2 hn, if_neg (by omega), ← hu (n / 2 - 1) (by omega) (by omega)]
    exact ⟨Nat.le_refl _, fun h => by omega⟩
  · rcases og_nd_odd h8 hm h2 hn with ⟨h, -⟩ | ⟨h1, h3, h4, h5⟩
    · exact absurd h ht
    · have h6 := hu (n / 2) (by omega) (by omega)
      refine ⟨?_, fun h7 => ?_⟩
      · rw [h6]; exact Nat.div_le_div_right (Nat.le_of_lt h4)
      · have e : n / 2 = k := by omega
        rw [e] at h3 h4
        obtain ⟨t, ht'⟩ := h3
        rw [ht'] at h4 ⊢
        rw [Nat.mul_div_cancel_left _ (og_u_pos k)]
        rw [Nat.mul_comm (og_u k) t] at h4
        exact Nat.lt_of_mul_lt_mul_right h4
/-- a place lower by the number's own digits needs no more than those -/
theorem og_nd_enc {mo : Nat → Nat} (h8 : og_m8 mo) {n : Nat} (hn : n < 8) {D D' : Nat → Nat} (hD : ∀ i, i < 4 → D i ≤ mo i) (hD' : ∀ i, i < 4 → D' i ≤ mo i) (he : ∀ i, i < 4 → D' i = if n < 2 * i + 1 then 0 else if n = 2 * i + 1 then D i + 1 else D i) : og_nd mo n (729 * D 0 + 81 * D 1 + 9 * D 2 + D 3) ≤ 729 * D' 0 + 81 * D' 1 + 9 * D' 2 + D' 3 := by
  have hv : og_val mo (729 * D 0 + 81 * D 1 + 9 * D 2 + D 3) := ⟨_, _, _, _, hD 0 (by omega), hD 1 (by omega), hD 2 (by omega), hD 3 (by omega), rfl⟩
  have hv' : og_val mo (729 * D' 0 + 81 * D' 1 + 9 * D' 2 + D' 3) := ⟨_, _, _, _, hD' 0 (by omega), hD' 1 (by omega), hD' 2 (by omega), hD' 3 (by omega), rfl⟩
  have e0 := he 0 (by omega)
  have e1 := he 1 (by omega)
  have e2 := he 2 (by omega)
  have e3 := he 3 (by omega)
  have d1 := hD 1 (by omega)
  have d2 := hD 2 (by omega)
  have d3 := hD 3 (by omega)
  have hlt := og_val_lt h8 hv
  obtain ⟨g1, g2, g3, g4⟩ := id h8
  rcases Nat.mod_two_eq_zero_or_one n with h2 | h2
  · rw [og_nd_even hlt h2 hn]
    have : n = 0 ∨ n = 2 ∨ n = 4 ∨ n = 6 := by omega
    rcases this with rfl | rfl | rfl | rfl
    · exact Nat.zero_le _
    · simp at e0 e1 e2 e3
      show (729 * D 0 + 81 * D 1 + 9 * D 2 + D 3) / 729 * 729 ≤ _; omega
    · simp at e0 e1 e2 e3
      show (729 * D 0 + 81 * D 1 + 9 * D 2 + D 3) / 81 * 81 ≤ _; omega
    · simp at e0 e1 e2 e3
      show (729 * D 0 + 81 * D 1 + 9 * D 2 + D 3) / 9 * 9 ≤ _; omega
  · have hdv : og_u (n / 2) ∣ (729 * D' 0 + 81 * D' 1 + 9 * D' 2 + D' 3) ∧ (729 * D 0 + 81 * D 1 + 9 * D 2 + D 3) / og_u (n / 2) * og_u (n / 2) < 729 * D' 0 + 81 * D' 1 + 9 * D' 2 + D' 3 := by
      have : n = 1 ∨ n = 3 ∨ n = 5 ∨ n = 7 := by omega
      rcases this with rfl | rfl | rfl | rfl
      · simp at e0 e1 e2 e3
        show 729 ∣ _ ∧ (729 * D 0 + 81 * D 1 + 9 * D 2 + D 3) / 729 * 729 < _; omega
      · simp at e0 e1 e2 e3
        show 81 ∣ _ ∧ (729 * D 0 + 81 * D 1 + 9 * D 2 + D 3) / 81 * 81 < _; omega
      · simp at e0 e1 e2 e3
        show 9 ∣ _ ∧ (729 * D 0 + 81 * D 1 + 9 * D 2 + D 3) / 9 * 9 < _; omega
      · simp at e0 e1 e2 e3
        show 1 ∣ _ ∧ (729 * D 0 + 81 * D 1 + 9 * D 2 + D 3) / 1 * 1 < _; omega
    rcases og_nd_odd h8 hv h2 hn with ⟨-, h⟩ | ⟨h1, h3, h4, h5⟩
    · have := h _ hv' hdv.1
      omega
    · exact h5 _ hv' hdv.1 hdv.2
