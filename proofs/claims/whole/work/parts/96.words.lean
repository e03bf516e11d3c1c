/-! ===== the tokens of a text ===== -/
def og_so (v : Nat) : Nat := if 97 ≤ v ∧ v ≤ 122 then 1 else if 48 ≤ v ∧ v ≤ 57 then 2 else 0
def og_wls : List (List Nat) := [[110, 111, 116], [97, 110, 100], [111, 114], [111, 110, 101], [111, 116, 104, 101, 114], [102, 114, 111, 109], [102, 111, 114, 99, 101, 115], [107, 101, 101, 112, 115], [97, 103, 97, 105, 110], [101, 118, 101, 110], [109, 101, 97, 110], [97, 98, 111, 118, 101], [98, 101, 108, 111, 119]]
def og_ltr (k i : Nat) : Nat := (og_wls.getD k []).getD i 0
def og_ltn (k : Nat) : Nat := (og_wls.getD k []).length
def og_pkd (k : Nat) : Int32 := ([20974, 4545, 591, 5583, 19047055, 441926, 642894310, 20452523, 14976225, 464581, 459949, 5979201, 24621218] : List Int32).getD k 0
theorem og_ltn_le : ∀ k : Fin 13, 1 ≤ og_ltn k.val ∧ og_ltn k.val ≤ 6 := by decide
theorem og_ltr_lt : ∀ (k : Fin 13) (i : Fin 6), og_ltr k.val i.val < 256 := by decide
theorem og_ltr_so : ∀ (k : Fin 13), og_so (og_ltr k.val 0) = 1 := by decide
theorem og_pkd_at : ∀ (k : Fin 13) (i : Fin 6), i.val < og_ltn k.val → (96 : Int32) + ((og_pkd k.val >>> ((5 * nI i.val) &&& 31)) &&& 31) = nI (og_ltr k.val i.val) := by decide +kernel
theorem og_word_one : ∀ k k' : Fin 13, k ≠ k' → og_ltn k.val ≠ og_ltn k'.val ∨ ∃ i : Fin 6, i.val < og_ltn k.val ∧ og_ltr k.val i.val ≠ og_ltr k'.val i.val := by decide +kernel
theorem og_obj99 : ∀ k : Fin 13, om_obj (1000 + k.val) 99 = true := by decide
theorem og_jc0_0 (C : om_M) : om_J_charAt om_F 1000 (nI 0) C = some (nI 110, C) := rfl
theorem og_jc0_1 (C : om_M) : om_J_charAt om_F 1000 (nI 1) C = some (nI 111, C) := rfl
theorem og_jc0_2 (C : om_M) : om_J_charAt om_F 1000 (nI 2) C = some (nI 116, C) := rfl
theorem og_jc1_0 (C : om_M) : om_J_charAt om_F 1001 (nI 0) C = some (nI 97, C) := rfl
theorem og_jc1_1 (C : om_M) : om_J_charAt om_F 1001 (nI 1) C = some (nI 110, C) := rfl
theorem og_jc1_2 (C : om_M) : om_J_charAt om_F 1001 (nI 2) C = some (nI 100, C) := rfl
theorem og_jc2_0 (C : om_M) : om_J_charAt om_F 1002 (nI 0) C = some (nI 111, C) := rfl
theorem og_jc2_1 (C : om_M) : om_J_charAt om_F 1002 (nI 1) C = some (nI 114, C) := rfl
theorem og_jc3_0 (C : om_M) : om_J_charAt om_F 1003 (nI 0) C = some (nI 111, C) := rfl
theorem og_jc3_1 (C : om_M) : om_J_charAt om_F 1003 (nI 1) C = some (nI 110, C) := rfl
theorem og_jc3_2 (C : om_M) : om_J_charAt om_F 1003 (nI 2) C = some (nI 101, C) := rfl
theorem og_jc4_0 (C : om_M) : om_J_charAt om_F 1004 (nI 0) C = some (nI 111, C) := rfl
theorem og_jc4_1 (C : om_M) : om_J_charAt om_F 1004 (nI 1) C = some (nI 116, C) := rfl
theorem og_jc4_2 (C : om_M) : om_J_charAt om_F 1004 (nI 2) C = some (nI 104, C) := rfl
theorem og_jc4_3 (C : om_M) : om_J_charAt om_F 1004 (nI 3) C = some (nI 101, C) := rfl
theorem og_jc4_4 (C : om_M) : om_J_charAt om_F 1004 (nI 4) C = some (nI 114, C) := rfl
theorem og_jc5_0 (C : om_M) : om_J_charAt om_F 1005 (nI 0) C = some (nI 102, C) := rfl
theorem og_jc5_1 (C : om_M) : om_J_charAt om_F 1005 (nI 1) C = some (nI 114, C) := rfl
theorem og_jc5_2 (C : om_M) : om_J_charAt om_F 1005 (nI 2) C = some (nI 111, C) := rfl
theorem og_jc5_3 (C : om_M) : om_J_charAt om_F 1005 (nI 3) C = some (nI 109, C) := rfl
theorem og_jc6_0 (C : om_M) : om_J_charAt om_F 1006 (nI 0) C = some (nI 102, C) := rfl
theorem og_jc6_1 (C : om_M) : om_J_charAt om_F 1006 (nI 1) C = some (nI 111, C) := rfl
theorem og_jc6_2 (C : om_M) : om_J_charAt om_F 1006 (nI 2) C = some (nI 114, C) := rfl
theorem og_jc6_3 (C : om_M) : om_J_charAt om_F 1006 (nI 3) C = some (nI 99, C) := rfl
theorem og_jc6_4 (C : om_M) : om_J_charAt om_F 1006 (nI 4) C = some (nI 101, C) := rfl
theorem og_jc6_5 (C : om_M) : om_J_charAt om_F 1006 (nI 5) C = some (nI 115, C) := rfl
theorem og_jc7_0 (C : om_M) : om_J_charAt om_F 1007 (nI 0) C = some (nI 107, C) := rfl
theorem og_jc7_1 (C : om_M) : om_J_charAt om_F 1007 (nI 1) C = some (nI 101, C) := rfl
theorem og_jc7_2 (C : om_M) : om_J_charAt om_F 1007 (nI 2) C = some (nI 101, C) := rfl
theorem og_jc7_3 (C : om_M) : om_J_charAt om_F 1007 (nI 3) C = some (nI 112, C) := rfl
theorem og_jc7_4 (C : om_M) : om_J_charAt om_F 1007 (nI 4) C = some (nI 115, C) := rfl
theorem og_jc8_0 (C : om_M) : om_J_charAt om_F 1008 (nI 0) C = some (nI 97, C) := rfl
theorem og_jc8_1 (C : om_M) : om_J_charAt om_F 1008 (nI 1) C = some (nI 103, C) := rfl
theorem og_jc8_2 (C : om_M) : om_J_charAt om_F 1008 (nI 2) C = some (nI 97, C) := rfl
theorem og_jc8_3 (C : om_M) : om_J_charAt om_F 1008 (nI 3) C = some (nI 105, C) := rfl
theorem og_jc8_4 (C : om_M) : om_J_charAt om_F 1008 (nI 4) C = some (nI 110, C) := rfl
theorem og_jc9_0 (C : om_M) : om_J_charAt om_F 1009 (nI 0) C = some (nI 101, C) := rfl
theorem og_jc9_1 (C : om_M) : om_J_charAt om_F 1009 (nI 1) C = some (nI 118, C) := rfl
theorem og_jc9_2 (C : om_M) : om_J_charAt om_F 1009 (nI 2) C = some (nI 101, C) := rfl
theorem og_jc9_3 (C : om_M) : om_J_charAt om_F 1009 (nI 3) C = some (nI 110, C) := rfl
theorem og_jc10_0 (C : om_M) : om_J_charAt om_F 1010 (nI 0) C = some (nI 109, C) := rfl
theorem og_jc10_1 (C : om_M) : om_J_charAt om_F 1010 (nI 1) C = some (nI 101, C) := rfl
theorem og_jc10_2 (C : om_M) : om_J_charAt om_F 1010 (nI 2) C = some (nI 97, C) := rfl
theorem og_jc10_3 (C : om_M) : om_J_charAt om_F 1010 (nI 3) C = some (nI 110, C) := rfl
theorem og_jc11_0 (C : om_M) : om_J_charAt om_F 1011 (nI 0) C = some (nI 97, C) := rfl
theorem og_jc11_1 (C : om_M) : om_J_charAt om_F 1011 (nI 1) C = some (nI 98, C) := rfl
theorem og_jc11_2 (C : om_M) : om_J_charAt om_F 1011 (nI 2) C = some (nI 111, C) := rfl
theorem og_jc11_3 (C : om_M) : om_J_charAt om_F 1011 (nI 3) C = some (nI 118, C) := rfl
theorem og_jc11_4 (C : om_M) : om_J_charAt om_F 1011 (nI 4) C = some (nI 101, C) := rfl
theorem og_jc12_0 (C : om_M) : om_J_charAt om_F 1012 (nI 0) C = some (nI 98, C) := rfl
theorem og_jc12_1 (C : om_M) : om_J_charAt om_F 1012 (nI 1) C = some (nI 101, C) := rfl
theorem og_jc12_2 (C : om_M) : om_J_charAt om_F 1012 (nI 2) C = some (nI 108, C) := rfl
theorem og_jc12_3 (C : om_M) : om_J_charAt om_F 1012 (nI 3) C = some (nI 111, C) := rfl
theorem og_jc12_4 (C : om_M) : om_J_charAt om_F 1012 (nI 4) C = some (nI 119, C) := rfl
theorem og_jl1 : ∀ k : Fin 13, om_isB (1000 + k.val + 1000) = true ∧ Int32.ofNat (om_bl (1000 + k.val + 1000)) >>> ((0 : Int32) &&& 31) = nI (og_ltn k.val) := by decide +kernel
theorem og_jlen {k : Nat} (hk : k < 13) (C : om_M) : om_J_length om_F (1000 + k) C = some (nI (og_ltn k), C) := by
  have h1 : om_obj (1000 + k) 99 = true := og_obj99 ⟨k, hk⟩
  obtain ⟨h2, h3⟩ : om_isB (1000 + k + 1000) = true ∧ Int32.ofNat (om_bl (1000 + k + 1000)) >>> ((0 : Int32) &&& 31) = nI (og_ltn k) := og_jl1 ⟨k, hk⟩
  unfold om_J_length om_J_length_b0 om_J_coder om_J_coder_b0 om_J_coder_b14
  rw [h1, h2]
  rw [cond_true, if_neg (by decide)]
  simp only [cond_true, show om_nr 2 0 = true from rfl, Option.bind_some, h3]
theorem og_jchr {k i : Nat} (hk : k < 13) (hi : i < og_ltn k) (C : om_M) : om_J_charAt om_F (1000 + k) (nI i) C = some (nI (og_ltr k i), C) := by
  match k, hk, i, hi with
  | 0, _, 0, _ => exact og_jc0_0 C
  | 0, _, 1, _ => exact og_jc0_1 C
  | 0, _, 2, _ => exact og_jc0_2 C
  | 0, _, i + 3, h => exact absurd h (by show ¬ i + 3 < 3; omega)
  | 1, _, 0, _ => exact og_jc1_0 C
  | 1, _, 1, _ => exact og_jc1_1 C
  | 1, _, 2, _ => exact og_jc1_2 C
  | 1, _, i + 3, h => exact absurd h (by show ¬ i + 3 < 3; omega)
  | 2, _, 0, _ => exact og_jc2_0 C
  | 2, _, 1, _ => exact og_jc2_1 C
  | 2, _, i + 2, h => exact absurd h (by show ¬ i + 2 < 2; omega)
  | 3, _, 0, _ => exact og_jc3_0 C
  | 3, _, 1, _ => exact og_jc3_1 C
  | 3, _, 2, _ => exact og_jc3_2 C
  | 3, _, i + 3, h => exact absurd h (by show ¬ i + 3 < 3; omega)
  | 4, _, 0, _ => exact og_jc4_0 C
  | 4, _, 1, _ => exact og_jc4_1 C
  | 4, _, 2, _ => exact og_jc4_2 C
  | 4, _, 3, _ => exact og_jc4_3 C
  | 4, _, 4, _ => exact og_jc4_4 C
  | 4, _, i + 5, h => exact absurd h (by show ¬ i + 5 < 5; omega)
  | 5, _, 0, _ => exact og_jc5_0 C
  | 5, _, 1, _ => exact og_jc5_1 C
  | 5, _, 2, _ => exact og_jc5_2 C
  | 5, _, 3, _ => exact og_jc5_3 C
  | 5, _, i + 4, h => exact absurd h (by show ¬ i + 4 < 4; omega)
  | 6, _, 0, _ => exact og_jc6_0 C
  | 6, _, 1, _ => exact og_jc6_1 C
  | 6, _, 2, _ => exact og_jc6_2 C
  | 6, _, 3, _ => exact og_jc6_3 C
  | 6, _, 4, _ => exact og_jc6_4 C
  | 6, _, 5, _ => exact og_jc6_5 C
  | 6, _, i + 6, h => exact absurd h (by show ¬ i + 6 < 6; omega)
  | 7, _, 0, _ => exact og_jc7_0 C
  | 7, _, 1, _ => exact og_jc7_1 C
  | 7, _, 2, _ => exact og_jc7_2 C
  | 7, _, 3, _ => exact og_jc7_3 C
  | 7, _, 4, _ => exact og_jc7_4 C
  | 7, _, i + 5, h => exact absurd h (by show ¬ i + 5 < 5; omega)
  | 8, _, 0, _ => exact og_jc8_0 C
  | 8, _, 1, _ => exact og_jc8_1 C
  | 8, _, 2, _ => exact og_jc8_2 C
  | 8, _, 3, _ => exact og_jc8_3 C
  | 8, _, 4, _ => exact og_jc8_4 C
  | 8, _, i + 5, h => exact absurd h (by show ¬ i + 5 < 5; omega)
  | 9, _, 0, _ => exact og_jc9_0 C
  | 9, _, 1, _ => exact og_jc9_1 C
  | 9, _, 2, _ => exact og_jc9_2 C
  | 9, _, 3, _ => exact og_jc9_3 C
  | 9, _, i + 4, h => exact absurd h (by show ¬ i + 4 < 4; omega)
  | 10, _, 0, _ => exact og_jc10_0 C
  | 10, _, 1, _ => exact og_jc10_1 C
  | 10, _, 2, _ => exact og_jc10_2 C
  | 10, _, 3, _ => exact og_jc10_3 C
  | 10, _, i + 4, h => exact absurd h (by show ¬ i + 4 < 4; omega)
  | 11, _, 0, _ => exact og_jc11_0 C
  | 11, _, 1, _ => exact og_jc11_1 C
  | 11, _, 2, _ => exact og_jc11_2 C
  | 11, _, 3, _ => exact og_jc11_3 C
  | 11, _, 4, _ => exact og_jc11_4 C
  | 11, _, i + 5, h => exact absurd h (by show ¬ i + 5 < 5; omega)
  | 12, _, 0, _ => exact og_jc12_0 C
  | 12, _, 1, _ => exact og_jc12_1 C
  | 12, _, 2, _ => exact og_jc12_2 C
  | 12, _, 3, _ => exact og_jc12_3 C
  | 12, _, 4, _ => exact og_jc12_4 C
  | 12, _, i + 5, h => exact absurd h (by show ¬ i + 5 < 5; omega)
  | k + 13, h, _, _ => exact absurd h (by omega)
