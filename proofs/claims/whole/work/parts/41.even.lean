def og_num (M : om_M) (p : Nat) : Nat := (M.1 2 p).toNatClampNeg
theorem og_num_eq {M : om_M} {n p : Nat} (hB : om_Bp M n) (hp : p < n) : M.1 2 p = nI (og_num M p) ∧ og_num M p < 8 := by
  obtain ⟨-, -, v, hv, e⟩ := hB.2 p hp
  unfold og_num
  rw [e, nI_clamp (by omega)]
  exact ⟨rfl, hv⟩
def og_min (num : Nat → Nat) (W : Nat → Bool) : Nat → Nat
  | 0 => 7
  | n + 1 => if W n = true then (if num n < og_min num W n then num n else og_min num W n) else og_min num W n
theorem og_min_le (num : Nat → Nat) (W : Nat → Bool) : ∀ n, og_min num W n ≤ 7 ∧ (∀ p, p < n → W p = true → og_min num W n ≤ num p) ∧ ((∃ p, p < n ∧ W p = true) → (∀ p, p < n → num p < 8) → ∃ p, p < n ∧ W p = true ∧ num p = og_min num W n)
  | 0 => ⟨Nat.le_refl 7, fun p h => absurd h (by omega), fun ⟨p, h, _⟩ => absurd h (by omega)⟩
  | n + 1 => by
    obtain ⟨h1, h2, h3⟩ := og_min_le num W n
    show (if W n = true then (if num n < og_min num W n then num n else og_min num W n) else og_min num W n) ≤ 7 ∧ (∀ p, p < n + 1 → W p = true → (if W n = true then (if num n < og_min num W n then num n else og_min num W n) else og_min num W n) ≤ num p) ∧ _
    refine ⟨?_, fun p hp hW => ?_, fun ⟨p, hp, hW⟩ h8 => ?_⟩
    · split
      · split <;> omega
      · exact h1
    · by_cases hpn : p = n
      · subst hpn
        rw [if_pos hW]
        split <;> omega
      · have := h2 p (by omega) hW
        split
        · split <;> omega
        · exact this
    · show ∃ p, p < n + 1 ∧ W p = true ∧ num p = (if W n = true then (if num n < og_min num W n then num n else og_min num W n) else og_min num W n)
      by_cases hWn : W n = true
      · rw [if_pos hWn]
        by_cases hlt : num n < og_min num W n
        · rw [if_pos hlt]; exact ⟨n, by omega, hWn, rfl⟩
        · rw [if_neg hlt]
          by_cases hex : ∃ p, p < n ∧ W p = true
          · obtain ⟨p', g1, g2, g3⟩ := h3 hex (fun p hp => h8 p (by omega))
            exact ⟨p', by omega, g2, g3⟩
          · have h7 : og_min num W n = 7 := by
              have : ∀ k, k ≤ n → og_min num W k = 7 := by
                intro k
                induction k with
                | zero => intro _; rfl
                | succ k ih =>
                  intro hk
                  show (if W k = true then _ else og_min num W k) = 7
                  rw [if_neg (fun h => hex ⟨k, by omega, h⟩)]
                  exact ih (by omega)
              exact this n (Nat.le_refl n)
            have := h8 n (by omega)
            exact ⟨n, by omega, hWn, by omega⟩
      · rw [if_neg hWn]
        have hpn : p ≠ n := fun h => hWn (h ▸ hW)
        obtain ⟨p', g1, g2, g3⟩ := h3 ⟨p, by omega, hW⟩ (fun p hp => h8 p (by omega))
        exact ⟨p', by omega, g2, g3⟩
theorem og_leastNumber {M : om_M} {n : Nat} (h8 : n ≤ 8) (e : M.1 7 0 = nI n) (hB : om_Bp M n) (x : Int32) : om_V_leastNumber om_F x M = some (nI (og_min (og_num M) (om_b x) n), M) := by
  obtain ⟨z, hz, rfl⟩ := om_lp (f := om_V_leastNumber_L6_body om_F) (fun i s => s = (x, nI (og_min (og_num M) (om_b x) i), nI i, M)) (fun z => z = (nI (og_min (og_num M) (om_b x) n), M)) n (F := om_F) (Nat.lt_of_le_of_lt h8 (by decide)) (s := (x, 7, 0, M)) rfl (by
    rintro i s hi rfl
    have hin : om_in (nI i) 8 = true := om_in_nI (by omega) (by omega)
    have hcl : (nI i).toNatClampNeg = i := nI_clamp (by omega)
    have hlt : ¬ nI n ≤ nI i := nI_ge hi (by omega)
    obtain ⟨en, hn8⟩ := og_num_eq hB hi
    have hm7 := (og_min_le (og_num M) (om_b x) i).1
    refine .inl ⟨_, ?_, rfl⟩
    simp only [om_V_leastNumber_L6_body, om_V_leastNumber_b6, om_V_leastNumber_b33, e, hlt, hin, hcl, cond_true, if_false, og_nI1, om_tst (show i < 32 by omega), en, nI_ltI (show og_num M i < 2 ^ 31 by omega) (show og_min (og_num M) (om_b x) i < 2 ^ 31 by omega), og_min]
    rcases Bool.eq_false_or_eq_true (om_b x i) with h | h
    · by_cases h2 : og_num M i < og_min (og_num M) (om_b x) i <;> simp [h, h2]
    · simp [h]) (by
    rintro s rfl
    exact ⟨_, by simp only [om_V_leastNumber_L6_body, om_V_leastNumber_b6, e]; rw [if_pos Int32.le_rfl], rfl⟩)
  unfold om_V_leastNumber om_V_leastNumber_b0 om_V_leastNumber_L6
  rw [hz]; rfl
theorem og_holders {M : om_M} {n d : Nat} (h8 : n ≤ 8) (hd : d < 8) (e : M.1 7 0 = nI n) (hB : om_Bp M n) (x : Int32) : ∃ v, om_V_holders om_F x (nI d) M = some (v, M) ∧ ∀ p, og_S v p ↔ (p < n ∧ og_S x p ∧ og_num M p = d) := by
  obtain ⟨z, hz, rfl⟩ := om_lp (f := om_V_holders_L6_body om_F) (fun i s => s = (x, nI d, og_mk (fun p => decide (og_num M p = d)) i, nI i, M)) (fun z => z = (x, og_mk (fun p => decide (og_num M p = d)) n, M)) n (F := om_F) (Nat.lt_of_le_of_lt h8 (by decide)) (s := (x, nI d, 0, 0, M)) rfl (by
    rintro i s hi rfl
    have hin : om_in (nI i) 8 = true := om_in_nI (by omega) (by omega)
    have hcl : (nI i).toNatClampNeg = i := nI_clamp (by omega)
    have hlt : ¬ nI n ≤ nI i := nI_ge hi (by omega)
    obtain ⟨en, hn8⟩ := og_num_eq hB hi
    refine .inl ⟨_, ?_, rfl⟩
    simp only [om_V_holders_L6_body, om_V_holders_b6, om_V_holders_b32, e, hlt, hin, hcl, cond_true, if_false, og_nI1, en, nI_eq (show og_num M i < 2 ^ 31 by omega) (show d < 2 ^ 31 by omega), og_mk]
    by_cases h : og_num M i = d <;> simp [h]) (by
    rintro s rfl
    exact ⟨_, by simp only [om_V_holders_L6_body, om_V_holders_b6, e]; rw [if_pos Int32.le_rfl], rfl⟩)
  refine ⟨og_mk (fun p => decide (og_num M p = d)) n &&& x, ?_, fun p => ?_⟩
  · unfold om_V_holders om_V_holders_b0 om_V_holders_L6
    rw [hz]; rfl
  · rw [og_S_and]
    unfold og_S
    rw [og_b_mk _ (by omega)]
    simp only [Bool.and_eq_true, decide_eq_true_eq]
    exact ⟨fun h => ⟨h.1.1, h.2, h.1.2⟩, fun h => ⟨⟨h.1, h.2.2⟩, h.2.1⟩⟩
theorem og_cnt0 {n : Nat} {x : Int32} (hx : og_wn n x) (h : x ≠ 0) : ∃ p, p < n ∧ og_S x p := by
  refine Classical.byContradiction fun hno => h (om_eq0.mpr fun i _ => ?_)
  cases hb : om_b x i with
  | false => rfl
  | true => exact absurd ⟨i, og_S_lt hx hb, hb⟩ hno
theorem og_S0 (p : Nat) : ¬ og_S 0 p := fun h => by unfold og_S at h; rw [om_b_0] at h; cases h
theorem og_cnt_S_lt {n : Nat} {x y : Int32} (h : ∀ p, og_S x p → og_S y p) {q : Nat} (hq : q < n) (h1 : og_S y q) (h2 : ¬ og_S x q) : og_cnt (om_b x) n < og_cnt (om_b y) n :=
  og_cnt_lt (fun i _ hi => h i hi) ⟨q, hq, fun he => h2 (by unfold og_S at h1 ⊢; rw [he]; exact h1)⟩
def og_Z (G : Nat → Nat → Prop) (mi : Nat → Bool) (num : Nat → Nat) (W E : Nat → Prop) : Prop := (∀ p, E p → W p) ∧ og_win G mi num 0 W E ∧ og_win G (fun p => !mi p) num 1 W (fun p => W p ∧ ¬ E p)
section EV
variable {M : om_M} {n : Nat}
theorem og_even (h8 : n ≤ 8) (e : M.1 7 0 = nI n) (hB : om_Bp M n) : ∀ (k : Nat) (dep : Nat) (W : Int32), og_wn n W → og_tot (fun p => og_S (M.1 11 p)) (og_S W) → og_cnt (om_b W) n < k → og_cnt (om_b W) n + dep ≤ 8 → ∃ E, om_V_evenPlaces om_F k W (nI dep) M = some (E, M) ∧ og_wn n E ∧ og_Z (fun p => og_S (M.1 11 p)) (og_mi (M.1 7 1) 0) (og_num M) (og_S W) (og_S E)
  | 0, _, _, _, _, h, _ => absurd h (by omega)
  | k + 1, dep, W, hW, hT, hk, hd => by
    show ∃ E, om_V_evenPlaces_b0 om_F (om_V_evenPlaces om_F k) W (nI dep) M = some (E, M) ∧ _
    unfold om_V_evenPlaces_b0 om_V_evenPlaces_b10
    by_cases hW0 : W = 0
    · refine ⟨0, by rw [if_pos hW0], fun i _ => om_b_0 i, fun p h => absurd h (og_S0 p), og_win_none og_S0, og_win_none fun p h => ?_⟩
      rw [hW0] at h; exact og_S0 p h.1
    · rw [if_neg hW0]
      obtain ⟨p0, hp0, hp0W⟩ := og_cnt0 hW hW0
      have hcW : 0 < og_cnt (om_b W) n := by
        have := og_cnt_S_lt (x := 0) (y := W) (n := n) (fun p h => absurd h (og_S0 p)) hp0 hp0W (og_S0 p0)
        omega
      have hdep : nI dep ≤ 8 := nI_le (b := 8) (by omega) (by omega)
      rw [if_pos hdep, og_leastNumber h8 e hB]
      obtain ⟨hm7, hm1, hm2⟩ := og_min_le (og_num M) (om_b W) n
      obtain ⟨p1, hp1, hp1W, hp1m⟩ := hm2 ⟨p0, hp0, hp0W⟩ (fun p hp => (og_num_eq hB hp).2)
      generalize og_min (og_num M) (om_b W) n = d at hm7 hm1 hp1m ⊢
      simp only [Option.bind_some]
      -- the player of the least number
      have hpar : ∃ pl, pl < 2 ∧ d % 2 = pl ∧ ((nI d &&& 1 = 0) ↔ pl = 0) := by
        refine ⟨d % 2, by omega, rfl, ?_⟩
        have : ∀ x : Fin 8, (nI x.val &&& 1 = 0) ↔ x.val % 2 = 0 := by decide
        exact this ⟨d, by omega⟩
      obtain ⟨pl, hpl, hdp, hpi⟩ := hpar
      have hsel : (if nI d &&& 1 = 0 then om_V_evenPlaces_b32 om_F (om_V_evenPlaces om_F k) W (nI dep) (nI d) 0 M else om_V_evenPlaces_b32 om_F (om_V_evenPlaces om_F k) W (nI dep) (nI d) 1 M) = om_V_evenPlaces_b32 om_F (om_V_evenPlaces om_F k) W (nI dep) (nI d) (nI pl) M := by
        have : pl = 0 ∨ pl = 1 := by omega
        rcases this with rfl | rfl
        · rw [if_pos (hpi.mpr rfl)]; rfl
        · rw [if_neg (fun h => by have := hpi.mp h; omega)]; rfl
      rw [hsel]
      unfold om_V_evenPlaces_b32
      obtain ⟨v, hv1, hv2⟩ := og_holders (d := d) h8 (by omega) e hB W
      have hvn : og_wn n v := fun i hi => by
        cases hb : om_b v i with
        | false => rfl
        | true => exact absurd ((hv2 i).mp hb).1 (by omega)
      simp only [hv1, Option.bind_some, og_attracted h8 hpl e v hW]
      have hIsN := og_isA_at (N := M.1 11) (mi := og_mi (M.1 7 1) pl) (x := v) h8 hW
      generalize og_at (M.1 11) (og_mi (M.1 7 1) pl) n W (v &&& W) = near at hIsN ⊢
      have hv3 : ∀ p, (og_S v p ∧ og_S W p) ↔ (og_S W p ∧ og_num M p = d) := fun p => by
        rw [hv2 p]
        exact ⟨fun h => ⟨h.2, h.1.2.2⟩, fun h => ⟨⟨og_S_lt hW h.1, h⟩, h.1⟩⟩
      have hrn : og_wn n (W &&& (near ^^^ (-1))) := og_wn_and hW
      have hrS : ∀ p, og_S (W &&& (near ^^^ (-1))) p ↔ (og_S W p ∧ ¬ og_S near p) := fun p => og_S_less
      have hrS' : og_S (W &&& (near ^^^ (-1))) = fun p => og_S W p ∧ ¬ og_S near p := funext fun p => propext (hrS p)
      have hcr : og_cnt (om_b (W &&& (near ^^^ (-1)))) n < og_cnt (om_b W) n :=
        og_cnt_S_lt (fun p h => ((hrS p).mp h).1) hp1 hp1W (fun h => ((hrS p1).mp h).2 (hIsN.1 p1 ((hv3 p1).mpr ⟨hp1W, hp1m⟩)))
      obtain ⟨R, hR1, hR2, hR3⟩ := og_even h8 e hB k (dep + 1) (W &&& (near ^^^ (-1))) hrn (by rw [hrS']; exact og_tot_less hT hIsN) (by omega) (by omega)
      have hd1 : nI dep + 1 = nI (dep + 1) := og_nI1 dep
      simp only [hd1, hR1, Option.bind_some]
      rw [hrS'] at hR3
      obtain ⟨hR4, hR5, hR6⟩ := hR3
      have hmle : ∀ p, og_S W p → d ≤ og_num M p := fun p hp => hm1 p (og_S_lt hW hp) hp
      have hpl01 : pl = 0 ∨ pl = 1 := by omega
      -- the rest of the work, once 'lost' is known
      have hlostn : ∀ {p : Nat} {x : Int32}, x ≠ 0 → (∀ p, og_S x p → og_S (W &&& (near ^^^ (-1))) p) → ∃ q, q < n ∧ og_S x q ∧ og_S W q := fun {p} {x} h0 hx => by
        obtain ⟨q, hq, hqx⟩ := og_cnt0 (n := n) (x := x) (fun i hi => by
          cases hb : om_b x i with
          | false => rfl
          | true => exact absurd (og_S_lt hrn (hx i hb)) (by omega)) h0
        exact ⟨q, hq, hqx, ((hrS q).mp (hx q hqx)).1⟩
      rcases hpl01 with rfl | rfl
      · -- ONE's
        rw [if_pos (show nI 0 = 0 from rfl)]
        unfold om_V_evenPlaces_b88 om_V_evenPlaces_b105 om_V_evenPlaces_b150
        have hlS : ∀ p, og_S ((W &&& (near ^^^ (-1))) &&& (R ^^^ (-1))) p ↔ ((og_S W p ∧ ¬ og_S near p) ∧ ¬ og_S R p) := fun p => by rw [og_S_less, hrS]
        by_cases hl : (W &&& (near ^^^ (-1))) &&& (R ^^^ (-1)) = 0
        · rw [if_pos hl, if_pos (show nI 0 = 0 from rfl)]
          refine ⟨W, rfl, hW, fun p h => h, ?_, og_win_none fun p h => h.2 h.1⟩
          have hRall : ∀ p, og_S R p ↔ (og_S W p ∧ ¬ og_S near p) := fun p => ⟨hR4 p, fun h => Classical.byContradiction fun h2 => by
            have := (hlS p).mpr ⟨h, h2⟩
            rw [hl] at this; exact og_S0 p this⟩
          exact og_zi_all hdp hv3 hmle hIsN hT (og_win_congr (fun _ => Iff.rfl) hRall hR5)
        · rw [if_neg hl, og_nI_other hpl]
          have hL : og_wn n ((W &&& (near ^^^ (-1))) &&& (R ^^^ (-1))) := og_wn_and hrn
          simp only [og_attracted h8 (show 1 - 0 < 2 by omega) e _ hW, Option.bind_some]
          have hIsA := og_isA_at (N := M.1 11) (mi := og_mi (M.1 7 1) (1 - 0)) (x := (W &&& (near ^^^ (-1))) &&& (R ^^^ (-1))) h8 hW
          generalize og_at (M.1 11) (og_mi (M.1 7 1) (1 - 0)) n W (((W &&& (near ^^^ (-1))) &&& (R ^^^ (-1))) &&& W) = gone at hIsA ⊢
          obtain ⟨q, hq, hq1, hq2⟩ := hlostn (p := 0) hl (fun p h => (og_S_and.mp h).1)
          have hgS : ∀ p, og_S (W &&& (gone ^^^ (-1))) p ↔ (og_S W p ∧ ¬ og_S gone p) := fun p => og_S_less
          have hgS' : og_S (W &&& (gone ^^^ (-1))) = fun p => og_S W p ∧ ¬ og_S gone p := funext fun p => propext (hgS p)
          have hcg : og_cnt (om_b (W &&& (gone ^^^ (-1)))) n < og_cnt (om_b W) n :=
            og_cnt_S_lt (fun p h => ((hgS p).mp h).1) hq hq2 (fun h => ((hgS q).mp h).2 (hIsA.1 q ⟨hq1, hq2⟩))
          obtain ⟨E, hE1, hE2, hE3⟩ := og_even h8 e hB k (dep + 1) (W &&& (gone ^^^ (-1))) (og_wn_and hW) (by rw [hgS']; exact og_tot_less hT hIsA) (by omega) (by omega)
          rw [hgS'] at hE3
          obtain ⟨hE4, hE5, hE6⟩ := hE3
          have e2 : og_mi (M.1 7 1) (1 - 0) = fun p => !og_mi (M.1 7 1) 0 p := funext fun p => og_mi_other _ hpl p
          rw [e2] at hIsA
          have hIsA' : og_isA (fun p => og_S (M.1 11 p)) (fun p => !og_mi (M.1 7 1) 0 p) (og_S W) (fun p => (og_S W p ∧ ¬ og_S near p) ∧ ¬ og_S R p) (og_S gone) := by
            have ee : (fun p => og_S ((W &&& (near ^^^ (-1))) &&& (R ^^^ (-1))) p ∧ og_S W p) = fun p => (og_S W p ∧ ¬ og_S near p) ∧ ¬ og_S R p := funext fun p => propext (by rw [hlS]; exact ⟨fun h => h.1, fun h => ⟨h, h.1.1⟩⟩)
            rw [ee] at hIsA; exact hIsA
          refine ⟨E, by simp only [hd1, hE1, Option.bind_some]; rfl, hE2, fun p h => (hE4 p h).1, og_zi_sub hIsA' hE5, ?_⟩
          have hNN : og_isA (fun p => og_S (M.1 11 p)) (fun p => !!og_mi (M.1 7 1) 0 p) (og_S W) (fun p => og_S v p ∧ og_S W p) (og_S near) := by
            simpa using hIsN
          refine og_win_congr (fun _ => Iff.rfl) (fun p => ?_) (og_zi_lost hNN hR6 hIsA' hE6)
          constructor
          · rintro (⟨⟨h1, h2⟩, h3⟩ | h)
            · exact ⟨h1, h3⟩
            · exact ⟨hIsA'.2.1 p h, fun h2 => (hE4 p h2).2 h⟩
          · rintro ⟨h1, h2⟩
            by_cases hg : og_S gone p
            · exact .inr hg
            · exact .inl ⟨⟨h1, hg⟩, h2⟩
      · -- OTHER's
        have hn1 : ¬ nI 1 = 0 := by decide
        rw [if_neg hn1]
        have e1 : og_mi (M.1 7 1) 1 = fun p => !og_mi (M.1 7 1) 0 p := funext fun p => og_mi_other _ (show 0 < 2 by omega) p
        rw [e1] at hIsN
        unfold om_V_evenPlaces_b88 om_V_evenPlaces_b105 om_V_evenPlaces_b150
        by_cases hl : R = 0
        · rw [if_pos hl, if_neg hn1]
          refine ⟨0, rfl, fun i _ => om_b_0 i, fun p h => absurd h (og_S0 p), og_win_none og_S0, ?_⟩
          have : og_win (fun p => og_S (M.1 11 p)) (fun p => !og_mi (M.1 7 1) 0 p) (og_num M) 1 (og_S W) (og_S W) :=
            og_zi_all hdp hv3 hmle hIsN hT (og_win_congr (fun _ => Iff.rfl) (fun p => ⟨fun h => h.1, fun h => ⟨h, fun h2 => by rw [hl] at h2; exact og_S0 p h2⟩⟩) hR6)
          exact og_win_congr (fun _ => Iff.rfl) (fun p => ⟨fun h => ⟨h, og_S0 p⟩, fun h => h.1⟩) this
        · rw [if_neg hl, og_nI_other hpl]
          simp only [og_attracted h8 (show 1 - 1 < 2 by omega) e _ hW, Option.bind_some]
          have hIsA := og_isA_at (N := M.1 11) (mi := og_mi (M.1 7 1) (1 - 1)) (x := R) h8 hW
          generalize og_at (M.1 11) (og_mi (M.1 7 1) (1 - 1)) n W (R &&& W) = gone at hIsA ⊢
          have hRr : ∀ p, og_S R p → og_S (W &&& (near ^^^ (-1))) p := fun p h => (hrS p).mpr (hR4 p h)
          obtain ⟨q, hq, hq1, hq2⟩ := hlostn (p := 0) hl hRr
          have hgS : ∀ p, og_S (W &&& (gone ^^^ (-1))) p ↔ (og_S W p ∧ ¬ og_S gone p) := fun p => og_S_less
          have hgS' : og_S (W &&& (gone ^^^ (-1))) = fun p => og_S W p ∧ ¬ og_S gone p := funext fun p => propext (hgS p)
          have hcg : og_cnt (om_b (W &&& (gone ^^^ (-1)))) n < og_cnt (om_b W) n :=
            og_cnt_S_lt (fun p h => ((hgS p).mp h).1) hq hq2 (fun h => ((hgS q).mp h).2 (hIsA.1 q ⟨hq1, hq2⟩))
          obtain ⟨E, hE1, hE2, hE3⟩ := og_even h8 e hB k (dep + 1) (W &&& (gone ^^^ (-1))) (og_wn_and hW) (by rw [hgS']; exact og_tot_less hT hIsA) (by omega) (by omega)
          rw [hgS'] at hE3
          obtain ⟨hE4, hE5, hE6⟩ := hE3
          have hIsA' : og_isA (fun p => og_S (M.1 11 p)) (og_mi (M.1 7 1) 0) (og_S W) (og_S R) (og_S gone) := by
            have ee : (fun p => og_S R p ∧ og_S W p) = og_S R := funext fun p => propext ⟨fun h => h.1, fun h => ⟨h, (hR4 p h).1⟩⟩
            rw [ee] at hIsA; exact hIsA
          have hIsA2 : og_isA (fun p => og_S (M.1 11 p)) (fun p => !!og_mi (M.1 7 1) 0 p) (og_S W) (og_S R) (og_S gone) := by
            simpa using hIsA'
          refine ⟨E ||| gone, by simp only [hd1, hE1, Option.bind_some]; rw [if_neg hn1], og_wn_or hE2 (fun i hi => ?_), fun p h => (og_S_or.mp h).elim (fun h => (hE4 p h).1) (hIsA'.2.1 p), ?_, ?_⟩
          · cases hb : om_b gone i with
            | false => rfl
            | true => exact absurd (og_S_lt hW (hIsA'.2.1 i hb)) (by omega)
          · exact og_win_congr (fun _ => Iff.rfl) (fun p => og_S_or.symm) (og_zi_lost hIsN hR5 hIsA' hE5)
          · refine og_win_congr (fun _ => Iff.rfl) (fun p => ?_) (og_zi_sub (mi := fun p => !og_mi (M.1 7 1) 0 p) hIsA2 hE6)
            rw [og_S_or]
            constructor
            · rintro ⟨⟨h1, h2⟩, h3⟩
              exact ⟨h1, fun h => h.elim h3 h2⟩
            · rintro ⟨h1, h2⟩
              exact ⟨⟨h1, fun h => h2 (.inr h)⟩, fun h => h2 (.inl h)⟩
end EV
