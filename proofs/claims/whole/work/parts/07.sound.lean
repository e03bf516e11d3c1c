/-! ===== the small machine is the machine ===== -/
def om_val (ad : Nat → Nat) : om_V → Value
  | .inl x => .int x
  | .inr (.inl x) => .long x
  | .inr (.inr a) => .ref (ad a)
def om_fv (ad : Nat → Nat) (a : Nat) (x : Int32) (r : Option Nat) : Nat → Value
  | 0 => .int x
  | 1 => va_rf (r.map ad)
  | 2 => .ref (ad (a + 1000))
  | 3 => .int 0
  | d + 4 => .ref (ad (a + (d + 1)))
def om_fs (ad : Nat → Nat) (a : Nat) (MI : Nat → Int32) (MR : Nat → Option Nat) (ds : List Nat) : List Value := ds.mapIdx (fun k d => om_fv ad a (MI k) (MR k) d)
def om_ce (ad : Nat → Nat) (cA : Nat → ClassId) (a : Nat) (MI : Nat → Int32) (MR : Nat → Option Nat) : va_E := match om_kof a with
  | (5, ci, _) => .inr (ci, om_fs ad a MI MR (om_fds ci))
  | (3, n, o) => .inl (cA a, n, .inr (.inr (.inr (.inr (fun j => if j < n then some (ad (a + (o + j))) else none)))))
  | (_, n, _) => .inl (cA a, n, .inl MI)
def om_ws (ad : Nat → Nat) (cA : Nat → ClassId) (M : om_M) : va_W := (List.range om_N).map (fun a => (ad a, om_ce ad cA a (M.1 a) (M.2 a)))
theorem om_ws_at {ad : Nat → Nat} {cA : Nat → ClassId} {M : om_M} {a : Nat} (h : a < om_N) : (om_ws ad cA M)[a]? = some (ad a, om_ce ad cA a (M.1 a) (M.2 a)) := by
  unfold om_ws
  rw [List.getElem?_map, List.getElem?_range h]
  rfl
theorem om_ws_len {ad : Nat → Nat} {cA : Nat → ClassId} {M : om_M} : (om_ws ad cA M).length = om_N := by simp [om_ws]
theorem om_ws_set {ad : Nat → Nat} {cA : Nat → ClassId} {M M' : om_M} {a : Nat} (h : a < om_N) {x : va_E} (hx : x = om_ce ad cA a (M'.1 a) (M'.2 a)) (h1 : ∀ b, b ≠ a → M'.1 b = M.1 b) (h2 : ∀ b, b ≠ a → M'.2 b = M.2 b) : (om_ws ad cA M).set a (ad a, x) = om_ws ad cA M' := by
  apply List.ext_getElem?
  intro b
  by_cases hb : b < om_N
  · rw [om_ws_at hb]
    by_cases e : a = b
    · subst e
      rw [List.getElem?_set_self (by rw [om_ws_len]; exact h), hx]
    · rw [List.getElem?_set_ne e, om_ws_at hb, h1 b (fun q => e q.symm), h2 b (fun q => e q.symm)]
  · have e1 : (om_ws ad cA M').length ≤ b := by rw [om_ws_len]; omega
    have e2 : ((om_ws ad cA M).set a (ad a, x)).length ≤ b := by rw [List.length_set, om_ws_len]; omega
    rw [List.getElem?_eq_none e1, List.getElem?_eq_none e2]
theorem om_kof_lt {a c x o : Nat} (h : om_kof a = (c, x, o)) (hc : c ≠ 0) : a < om_N := by
  rcases Nat.lt_or_ge a om_N with q | q
  · exact q
  · unfold om_kof at h
    rw [List.getD_eq_getElem?_getD, List.getElem?_eq_none (by rw [om_kd_len]; exact q)] at h
    cases h
    exact absurd rfl hc
theorem om_ce_1 {ad : Nat → Nat} {cA : Nat → ClassId} {a n o : Nat} {MI : Nat → Int32} {MR : Nat → Option Nat} (h : om_kof a = (1, n, o)) : om_ce ad cA a MI MR = .inl (cA a, n, .inl MI) := by
  unfold om_ce
  rw [h]
  rfl
theorem om_ce_2 {ad : Nat → Nat} {cA : Nat → ClassId} {a n o : Nat} {MI : Nat → Int32} {MR : Nat → Option Nat} (h : om_kof a = (2, n, o)) : om_ce ad cA a MI MR = .inl (cA a, n, .inl MI) := by
  unfold om_ce
  rw [h]
  rfl
theorem om_ce_3 {ad : Nat → Nat} {cA : Nat → ClassId} {a n o : Nat} {MI : Nat → Int32} {MR : Nat → Option Nat} (h : om_kof a = (3, n, o)) : om_ce ad cA a MI MR = .inl (cA a, n, .inr (.inr (.inr (.inr (fun j => if j < n then some (ad (a + (o + j))) else none))))) := by
  unfold om_ce
  rw [h]
  rfl
theorem om_ce_5 {ad : Nat → Nat} {cA : Nat → ClassId} {a ci o : Nat} {MI : Nat → Int32} {MR : Nat → Option Nat} (h : om_kof a = (5, ci, o)) : om_ce ad cA a MI MR = .inr (ci, om_fs ad a MI MR (om_fds ci)) := by
  unfold om_ce
  rw [h]
  rfl
theorem om_isA_sp {a c i : Nat} {x : Int32} (h : (om_isA a c && om_in x (om_ln a)) = true) : (om_kof a).1 = c ∧ vp_in x (om_kof a).2.1 := by
  simp only [Bool.and_eq_true] at h
  obtain ⟨h1, h2⟩ := h
  refine ⟨Nat.eq_of_beq_eq_true h1, ?_⟩
  simp only [om_in, Bool.and_eq_true, decide_eq_true_eq] at h2
  rintro (q | q)
  · exact absurd h2.1 (Int32.not_le.mpr q)
  · exact absurd h2.2 (Nat.not_lt.mpr q)
theorem om_kof_eq {a c : Nat} (h : (om_kof a).1 = c) : om_kof a = (c, (om_kof a).2.1, (om_kof a).2.2) := by rw [← h]
/-- what stays of the tables, of the Strings and of the statics -/
def om_K (D : va_G) (cA : Nat → ClassId) (U : State) : Prop := (∀ (c : Nat) (q : vw_C), vwCl[c]? = some q → u_Kn U q.1 q.2.1 q.2.2 (D.1 c) (D.2 c)) ∧ ∀ a : Nat, ((om_kof a).1 = 1 → ArrOfT U (cA a) .int ∧ va_RA U (cA a) .int) ∧ ((om_kof a).1 = 2 → ArrOfT U (cA a) .boolean ∧ va_RA U (cA a) .boolean) ∧ ((om_kof a).1 = 3 → ArrOfT U (cA a) (.array .int) ∧ va_RA U (cA a) (.array .int))
def om_N2 (ad : Nat → Nat) (U : State) : Prop := (∀ w ∈ om_nw, va_Nw w U) ∧ ∀ (k : Nat) (q : String × Nat × String), om_sr[k]? = some q → vk_R q.1 q.2.1 q.2.2 (ad (1000 + k)) U
def om_S (ad : Nat → Nat) (A : Nat → Prop) (U : State) (H : Heap) : Prop := vk_S om_sn (om_st.map List.length) om_st (fun k => ad (1000 + k)) (fun k => ad (2000 + k)) A U H ∧ va_Z "java/lang/String" "COMPACT_STRINGS" "Z" (.int 1) A U H ∧ va_Zq "jdk/internal/util/Preconditions" "SIOOBE_FORMATTER" "Ljava/util/function/BiFunction;" A U H
theorem om_K.moved {D : va_G} {cA : Nat → ClassId} {u U : State} (hvm : u.vm.Alike U.vm) (h : om_K D cA u) : om_K D cA U :=
  ⟨fun c q hq => u_Kn_moved hvm (h.1 c q hq), fun a => ⟨fun q => ⟨arrOfT_moved hvm ((h.2 a).1 q).1, ((h.2 a).1 q).2.moved hvm⟩, fun q => ⟨arrOfT_moved hvm ((h.2 a).2.1 q).1, ((h.2 a).2.1 q).2.moved hvm⟩, fun q => ⟨arrOfT_moved hvm ((h.2 a).2.2 q).1, ((h.2 a).2.2 q).2.moved hvm⟩⟩⟩
theorem om_K.va {D : va_G} {cA : Nat → ClassId} {U : State} (h : om_K D cA U) : va_K D vwCl [] U := ⟨h.1, fun k q hk => by simp at hk⟩
theorem om_K.va1 {D : va_G} {cA : Nat → ClassId} {U : State} (h : om_K D cA U) {a : Nat} (ha : (om_kof a).1 = 1) : va_K D vwCl [(cA a, .int)] U := ⟨h.1, fun k q hk => by
  match k, hk with
  | 0, hk => cases hk; exact (h.2 a).1 ha
  | k + 1, hk => simp at hk⟩
theorem om_K.va2 {D : va_G} {cA : Nat → ClassId} {U : State} (h : om_K D cA U) {a : Nat} (ha : (om_kof a).1 = 2) : va_K D vwCl [(cA a, .boolean)] U := ⟨h.1, fun k q hk => by
  match k, hk with
  | 0, hk => cases hk; exact (h.2 a).2.1 ha
  | k + 1, hk => simp at hk⟩
theorem om_K.va11 {D : va_G} {cA : Nat → ClassId} {U : State} (h : om_K D cA U) {a b : Nat} (ha : (om_kof a).1 = 1) (hb : (om_kof b).1 = 1) : va_K D vwCl [(cA a, .int), (cA b, .int)] U := ⟨h.1, fun k q hk => by
  match k, hk with
  | 0, hk => cases hk; exact (h.2 a).1 ha
  | 1, hk => cases hk; exact (h.2 b).1 hb
  | k + 2, hk => simp at hk⟩
theorem om_nw_shape : om_nw.all (fun w => match w with | .fieldLinkNest _ _ _ _ _ _ => true | .methodLinkNest _ _ _ _ => true | _ => false) = true := by decide +kernel
theorem om_nw_warm {s U : State} (hW : s.WarmedH U.vm) {w : Cond} (hw : w ∈ om_nw) (h : va_Nw w s) : va_Nw w U := by
  have hs := List.all_eq_true.mp om_nw_shape w hw
  match w, hs, h with
  | .fieldLinkNest _ _ _ _ _ _, _, h => exact va_Nw.warmF hW h
  | .methodLinkNest _ _ _ _, _, h => exact va_Nw.warmM hW h
theorem om_nw_on {w : Cond} (hw : w ∈ om_nw) : w.onTables = true := by
  have hs := List.all_eq_true.mp om_nw_shape w hw
  match w, hs with
  | .fieldLinkNest _ _ _ _ _ _, _ => rfl
  | .methodLinkNest _ _ _ _, _ => rfl
theorem om_N2.warm {ad : Nat → Nat} {s U : State} (hW : s.WarmedH U.vm) (h : om_N2 ad s) : om_N2 ad U :=
  ⟨fun w hw => om_nw_warm hW hw (h.1 w hw), fun k q hq => vk_R.warm hW (h.2 k q hq)⟩
theorem om_N2.same {ad : Nat → Nat} {u U : State} (hv : U.vm = u.vm) (h : om_N2 ad u) : om_N2 ad U :=
  ⟨fun w hw => va_Nw.same (om_nw_on hw) hv.symm (h.1 w hw), fun k q hq => vk_R.same hv (h.2 k q hq)⟩
theorem om_S.moved {ad : Nat → Nat} {A : Nat → Prop} {u U : State} {H : Heap} (hvm : u.vm.Alike U.vm) (h : om_S ad A u H) : om_S ad A U H := ⟨vk_S.moved hvm h.1, va_Z.moved hvm h.2.1, va_Zq.moved hvm h.2.2⟩
theorem om_S.kept {ad : Nat → Nat} {A : Nat → Prop} {U : State} {H H1 : Heap} (h : om_S ad A U H) (hq : ∀ a : Nat, a < H.size → ¬ A a → H1[a]? = H[a]?) : om_S ad A U H1 := ⟨vk_S.kept h.1 hq, va_Z.kept h.2.1 hq, va_Zq.kept h.2.2 hq⟩
theorem om_S.narrow {ad : Nat → Nat} {A B : Nat → Prop} {U : State} {H : Heap} (h : om_S ad A U H) (hAB : ∀ q, B q → A q) : om_S ad B U H := ⟨vk_S.narrow h.1 hAB, va_Z.narrow h.2.1 hAB, va_Zq.narrow h.2.2 hAB⟩
/-- locals -/
def om_Has (ad : Nat → Nat) (ls : Array Slot) (nL : Nat) (L : om_L) : Prop := ls.size = nL ∧ lv_wf ls ∧ ∀ (i : Nat) (v : om_V), L[i]? = some (some v) → ls[i]? = some (.val (om_val ad v))
theorem om_tr_at : ∀ {kp : List Bool} {L : om_L} {i : Nat} {v : om_V}, (om_tr kp L)[i]? = some (some v) → L[i]? = some (some v)
  | [], _, i, v, h => by simp [om_tr] at h
  | b :: bs, [], i, v, h => by simp [om_tr] at h
  | b :: bs, x :: xs, 0, v, h => by
    cases b <;> simp [om_tr] at h ⊢
    exact h
  | b :: bs, x :: xs, i + 1, v, h => by
    simp only [om_tr, List.getElem?_cons_succ] at h ⊢
    exact om_tr_at h
theorem om_Has.tr {ad : Nat → Nat} {ls : Array Slot} {nL : Nat} {L : om_L} (h : om_Has ad ls nL L) (kp : List Bool) : om_Has ad ls nL (om_tr kp L) := ⟨h.1, h.2.1, fun i v hv => h.2.2 i v (om_tr_at hv)⟩
theorem om_s1_at {v : om_V} : ∀ {L : om_L} {i j : Nat} {w : om_V}, (om_s1 L i v)[j]? = some (some w) → (j = i ∧ w = v) ∨ (j ≠ i ∧ L[j]? = some (some w) ∧ ¬ (j + 1 = i ∧ om_isL (some w) = true))
  | [], i, j, w, h => by cases i <;> simp [om_s1] at h
  | x :: xs, 0, 0, w, h => by
    simp only [om_s1, List.getElem?_cons_zero, Option.some.injEq] at h
    exact Or.inl ⟨rfl, h.symm⟩
  | x :: xs, 0, j + 1, w, h => by
    simp only [om_s1, List.getElem?_cons_succ] at h
    exact Or.inr ⟨by omega, by simpa using h, by omega⟩
  | x :: xs, 1, 0, w, h => by
    refine Or.inr ⟨by omega, ?_, ?_⟩
    · cases hx : om_isL x with
      | true => simp [om_s1, hx] at h
      | false => simpa [om_s1, hx] using h
    · rintro ⟨-, hl⟩
      cases hx : om_isL x with
      | true => simp [om_s1, hx] at h
      | false =>
        simp [om_s1, hx] at h
        rw [h, hl] at hx
        cases hx
  | x :: xs, 1, j + 1, w, h => by
    simp only [om_s1, List.getElem?_cons_succ] at h
    rcases om_s1_at h with ⟨q1, q2⟩ | ⟨q1, q2, q3⟩
    · exact Or.inl ⟨by omega, q2⟩
    · exact Or.inr ⟨by omega, by simpa using q2, by omega⟩
  | x :: xs, i + 2, 0, w, h => by
    simp only [om_s1, List.getElem?_cons_zero] at h
    exact Or.inr ⟨by omega, by simpa using h, by omega⟩
  | x :: xs, i + 2, j + 1, w, h => by
    simp only [om_s1, List.getElem?_cons_succ] at h
    rcases om_s1_at h with ⟨q1, q2⟩ | ⟨q1, q2, q3⟩
    · exact Or.inl ⟨by omega, q2⟩
    · exact Or.inr ⟨by omega, by simpa using q2, fun z => q3 ⟨by omega, z.2⟩⟩
theorem om_s2_at {v : om_V} : ∀ {L : om_L} {i j : Nat} {w : om_V}, (om_s2 L i v)[j]? = some (some w) → (j = i ∧ w = v) ∨ (j ≠ i ∧ j ≠ i + 1 ∧ L[j]? = some (some w) ∧ ¬ (j + 1 = i ∧ om_isL (some w) = true))
  | [], i, j, w, h => by cases i <;> simp [om_s2] at h
  | [x], 0, j, w, h => by simp [om_s2] at h
  | x :: y :: xs, 0, 0, w, h => by
    simp only [om_s2, List.getElem?_cons_zero, Option.some.injEq] at h
    exact Or.inl ⟨rfl, h.symm⟩
  | x :: y :: xs, 0, 1, w, h => by simp [om_s2] at h
  | x :: y :: xs, 0, j + 2, w, h => by
    simp only [om_s2, List.getElem?_cons_succ] at h
    exact Or.inr ⟨by omega, by omega, by simpa using h, by omega⟩
  | x :: xs, 1, 0, w, h => by
    have h : (bif om_isL x then none else x) = some w := by cases xs <;> simpa [om_s2] using h
    refine Or.inr ⟨by omega, by omega, ?_, ?_⟩
    · cases hx : om_isL x with
      | true => rw [hx] at h; cases h
      | false => rw [hx] at h; simpa using h
    · rintro ⟨-, hl⟩
      cases hx : om_isL x with
      | true => rw [hx] at h; cases h
      | false =>
        rw [hx] at h
        have h2 : x = some w := h
        rw [h2, hl] at hx
        cases hx
  | x :: xs, 1, j + 1, w, h => by
    have h : (om_s2 xs 0 v)[j]? = some (some w) := by cases xs <;> simpa [om_s2] using h
    rcases om_s2_at h with ⟨q1, q2⟩ | ⟨q1, q2, q3, q4⟩
    · exact Or.inl ⟨by omega, q2⟩
    · exact Or.inr ⟨by omega, by omega, by simpa using q3, by omega⟩
  | x :: xs, i + 2, 0, w, h => by
    have h : x = some w := by cases xs <;> simpa [om_s2] using h
    exact Or.inr ⟨by omega, by omega, by simpa using h, by omega⟩
  | x :: xs, i + 2, j + 1, w, h => by
    have h : (om_s2 xs (i + 1) v)[j]? = some (some w) := by cases xs <;> simpa [om_s2] using h
    rcases om_s2_at h with ⟨q1, q2⟩ | ⟨q1, q2, q3, q4⟩
    · exact Or.inl ⟨by omega, q2⟩
    · exact Or.inr ⟨by omega, by omega, by simpa using q3, fun z => q4 ⟨by omega, z.2⟩⟩
def om_prs (ad : Nat → Nat) (L : om_L) : List (Nat × Value) := (List.range L.length).filterMap (fun i => (L.getD i none).map (fun v => (i, om_val ad v)))
theorem om_prs_sp {ad : Nat → Nat} {L : om_L} {q : Nat × Value} (h : q ∈ om_prs ad L) : ∃ v, L[q.1]? = some (some v) ∧ q.2 = om_val ad v := by
  obtain ⟨i, hi, h⟩ := List.mem_filterMap.mp h
  have hi := List.mem_range.mp hi
  rw [List.getD_eq_getElem?_getD, List.getElem?_eq_getElem hi] at h
  cases hv : L[i] with
  | none => rw [hv] at h; cases h
  | some v =>
    rw [hv] at h
    cases h
    exact ⟨v, by rw [List.getElem?_eq_getElem hi, hv], rfl⟩
theorem om_prs_in {ad : Nat → Nat} {L : om_L} {j : Nat} {w : om_V} (h : L[j]? = some (some w)) : (j, om_val ad w) ∈ om_prs ad L := by
  refine List.mem_filterMap.mpr ⟨j, List.mem_range.mpr (List.getElem?_eq_some_iff.mp h).1, ?_⟩
  rw [List.getD_eq_getElem?_getD, h]
  rfl
theorem om_cat {ad : Nat → Nat} (v : om_V) : ((om_val ad v).category == 2) = om_isL (some v) := by
  rcases v with x | x | x <;> rfl
theorem om_Has.lv {ad : Nat → Nat} {ls : Array Slot} {nL : Nat} {L : om_L} (h : om_Has ad ls nL L) : lv_has ls nL (om_prs ad L) := ⟨h.1, h.2.1, fun q hq => by
  obtain ⟨v, h1, h2⟩ := om_prs_sp hq
  rw [h2]
  exact h.2.2 _ _ h1⟩
theorem om_Has.s1 {ad : Nat → Nat} {ls : Array Slot} {nL i : Nat} {L : om_L} {v : om_V} (h : lv_has ls nL ((i, om_val ad v) :: (om_prs ad L).filter (fun q => !(q.1 == i) && !(q.1 + 1 == i && q.2.category == 2)))) : om_Has ad ls nL (om_s1 L i v) := ⟨h.1, h.2.1, fun j w hj => by
  rcases om_s1_at hj with ⟨rfl, rfl⟩ | ⟨q1, q2, q3⟩
  · exact h.2.2 (_, _) List.mem_cons_self
  · refine h.2.2 (j, om_val ad w) (List.mem_cons_of_mem _ (List.mem_filter.mpr ⟨om_prs_in q2, ?_⟩))
    rw [om_cat]
    simp only [Bool.and_eq_true, Bool.not_eq_true', beq_eq_false_iff_ne, ne_eq, Bool.and_eq_false_iff]
    refine ⟨q1, ?_⟩
    by_cases z : j + 1 = i
    · right
      cases hz : om_isL (some w) with
      | true => exact absurd ⟨z, hz⟩ q3
      | false => rfl
    · left; exact z⟩
theorem om_Has.s2 {ad : Nat → Nat} {ls : Array Slot} {nL i : Nat} {L : om_L} {v : om_V} (h : lv_has ls nL ((i, om_val ad v) :: (om_prs ad L).filter (fun q => !(q.1 == i) && (!(q.1 == i + 1) && !(q.1 + 1 == i && q.2.category == 2))))) : om_Has ad ls nL (om_s2 L i v) := ⟨h.1, h.2.1, fun j w hj => by
  rcases om_s2_at hj with ⟨rfl, rfl⟩ | ⟨q1, q2, q3, q4⟩
  · exact h.2.2 (_, _) List.mem_cons_self
  · refine h.2.2 (j, om_val ad w) (List.mem_cons_of_mem _ (List.mem_filter.mpr ⟨om_prs_in q3, ?_⟩))
    rw [om_cat]
    simp only [Bool.and_eq_true, Bool.not_eq_true', beq_eq_false_iff_ne, ne_eq, Bool.and_eq_false_iff]
    refine ⟨q1, q2, ?_⟩
    by_cases z : j + 1 = i
    · right
      cases hz : om_isL (some w) with
      | true => exact absurd ⟨z, hz⟩ q4
      | false => rfl
    · left; exact z⟩
/-! classes -/
theorem om_cls (ci : Nat) (h : ci < 8) : vwCl[ci]? = some (om_cn ci, om_Tf ci, (om_fds ci).length) ∧ (∀ w ∈ u_ws (om_cn ci) (om_Tf ci) (om_fds ci).length, w ∈ om_cw) ∧ (∃ ty : Nat → FieldType, ∀ k, k < (om_fds ci).length → parseFieldDescriptor (om_Tf ci k).2.2.1 = some (ty k)) ∧ (∀ a, a < (om_fds ci).length → ∀ b, b < (om_fds ci).length → a ≠ b → (om_Tf ci a).2.1 ≠ (om_Tf ci b).2.1) := by
  match ci, h with
  | 0, _ => exact ⟨rfl, fun w hw => List.mem_append_left _ hw, ⟨tyX0, tyX0_ok⟩, nmX0⟩
  | 1, _ => exact ⟨rfl, fun w hw => List.mem_append_right _ (List.mem_append_left _ hw), ⟨tyX1, tyX1_ok⟩, nmX1⟩
  | 2, _ => exact ⟨rfl, fun w hw => List.mem_append_right _ (List.mem_append_right _ (List.mem_append_left _ hw)), ⟨tyX2, tyX2_ok⟩, nmX2⟩
  | 3, _ => exact ⟨rfl, fun w hw => List.mem_append_right _ (List.mem_append_right _ (List.mem_append_right _ (List.mem_append_left _ hw))), ⟨tyX3, tyX3_ok⟩, nmX3⟩
  | 4, _ => exact ⟨rfl, fun w hw => List.mem_append_right _ (List.mem_append_right _ (List.mem_append_right _ (List.mem_append_right _ (List.mem_append_left _ hw)))), ⟨tyX4, tyX4_ok⟩, nmX4⟩
  | 5, _ => exact ⟨rfl, fun w hw => List.mem_append_right _ (List.mem_append_right _ (List.mem_append_right _ (List.mem_append_right _ (List.mem_append_right _ (List.mem_append_left _ hw))))), ⟨tyX5, tyX5_ok⟩, nmX5⟩
  | 6, _ => exact ⟨rfl, fun w hw => List.mem_append_right _ (List.mem_append_right _ (List.mem_append_right _ (List.mem_append_right _ (List.mem_append_right _ (List.mem_append_right _ (List.mem_append_left _ hw)))))), ⟨tyX6, tyX6_ok⟩, nmX6⟩
  | 7, _ => exact ⟨rfl, fun w hw => List.mem_append_right _ (List.mem_append_right _ (List.mem_append_right _ (List.mem_append_right _ (List.mem_append_right _ (List.mem_append_right _ (List.mem_append_right _ hw)))))), ⟨tyX7, tyX7_ok⟩, nmX7⟩
  | n + 8, h => exact absurd h (by omega)
def om_fdok : Bool := (List.range 8).all fun ci => (List.range (om_fds ci).length).all fun k => decide ((om_Tf ci k).1 = om_cn ci) && (match (om_fds ci).getD k 9 with
  | 0 => decide (parseFieldDescriptor (om_Tf ci k).2.2.1 = some .int) && !(om_Tf ci k).2.2.2
  | 1 => (match parseFieldDescriptor (om_Tf ci k).2.2.1 with
    | some (.object _) => true
    | _ => false) && !(om_Tf ci k).2.2.2
  | _ => true)
theorem om_fdok_ok : om_fdok = true := by decide +kernel
theorem om_fd_at {ci k : Nat} (h1 : ci < 8) (h2 : k < (om_fds ci).length) : (om_Tf ci k).1 = om_cn ci ∧ ((om_fds ci).getD k 9 = 0 → parseFieldDescriptor (om_Tf ci k).2.2.1 = some .int ∧ (om_Tf ci k).2.2.2 = false) ∧ ((om_fds ci).getD k 9 = 1 → (∃ C, parseFieldDescriptor (om_Tf ci k).2.2.1 = some (.object C)) ∧ (om_Tf ci k).2.2.2 = false) := by
  have h := List.all_eq_true.mp (List.all_eq_true.mp om_fdok_ok ci (List.mem_range.mpr h1)) k (List.mem_range.mpr h2)
  simp only [Bool.and_eq_true, decide_eq_true_eq] at h
  refine ⟨h.1, fun e => ?_, fun e => ?_⟩
  · have h2 := h.2
    rw [e] at h2
    simp only [Bool.and_eq_true, decide_eq_true_eq, Bool.not_eq_true'] at h2
    exact h2
  · have h2 := h.2
    rw [e] at h2
    simp only [Bool.and_eq_true, Bool.not_eq_true'] at h2
    refine ⟨?_, h2.2⟩
    cases hp : parseFieldDescriptor (om_Tf ci k).2.2.1 with
    | none => rw [hp] at h2; exact absurd h2.1 (by decide)
    | some ty =>
      rw [hp] at h2
      cases ty <;> first | exact ⟨_, rfl⟩ | exact absurd h2.1 Bool.false_ne_true
theorem om_tb_cw {w : Cond} (h : w ∈ om_cw) : w ∈ om_tb := List.mem_append_right _ (List.mem_append_right _ (List.mem_append_right _ (List.mem_append_right _ (List.mem_append_right _ (List.mem_append_right _ (List.mem_append_left _ h))))))
theorem om_tb_xw {w : Cond} (h : w ∈ om_xw) : w ∈ om_tb := List.mem_append_right _ (List.mem_append_right _ (List.mem_append_right _ (List.mem_append_right _ (List.mem_append_right _ (List.mem_append_left _ h)))))
theorem om_tb_fw {q : Nat × Nat × Nat × Nat} (h : q ∈ om_fwl) : om_fw q ∈ om_tb := List.mem_append_left _ (List.mem_map_of_mem h)
theorem om_tb_mw {q : Nat × Nat × Nat} (h : q ∈ om_mwl) : om_mw q ∈ om_tb := List.mem_append_right _ (List.mem_append_left _ (List.mem_map_of_mem h))
theorem om_tb_iw {q : Nat × Nat × Nat} (h : q ∈ om_iwl) : om_iw q ∈ om_tb := List.mem_append_right _ (List.mem_append_right _ (List.mem_append_left _ (List.mem_map_of_mem h)))
theorem om_tb_ci {q : Nat × Nat × Int32} (h : q ∈ om_cil) : om_ci q ∈ om_tb := List.mem_append_right _ (List.mem_append_right _ (List.mem_append_right _ (List.mem_append_left _ (List.mem_map_of_mem h))))
theorem om_tb_cj {q : Nat × Nat × Int64} (h : q ∈ om_cll) : om_cj q ∈ om_tb := List.mem_append_right _ (List.mem_append_right _ (List.mem_append_right _ (List.mem_append_right _ (List.mem_append_left _ (List.mem_map_of_mem h)))))
theorem om_tb_sg {q : om_Sg} (h : q ∈ om_sig) {w : Cond} (hw : w ∈ om_sw4 q) : w ∈ om_tb := List.mem_append_right _ (List.mem_append_right _ (List.mem_append_right _ (List.mem_append_right _ (List.mem_append_right _ (List.mem_append_right _ (List.mem_append_right _ (List.mem_flatMap.mpr ⟨q, h, hw⟩)))))))
theorem om_nth_mem {α : Type} : ∀ {l : List α} {n : Nat} {a : α}, om_nth l n = some a → a ∈ l
  | [], _, _, h => by cases h
  | x :: xs, 0, a, h => by cases h; exact List.mem_cons_self
  | x :: xs, n + 1, a, h => List.mem_cons_of_mem _ (om_nth_mem (l := xs) h)
theorem om_sy_of {k : Nat} {q : om_Sg} (h : om_nth om_sig k = some q) : om_sy k = q.1 := by unfold om_sy; rw [h]; rfl
/-! the parts of a stack -/
section SP
variable {C : om_C} {G : om_GT} {r : Option om_V} {Mf : om_M}
theorem om_kno (h : om_Kr C G r Mf om_no) : False := by
  obtain ⟨R, h1, h2⟩ := h
  subst h1
  exact h2
theorem om_kgo {l : Nat} {L : om_L} {st : List om_V} {M : om_M} (h : om_Kr C G r Mf (om_go l L st M)) : G l L st M r Mf := by
  obtain ⟨R, h1, h2⟩ := h
  subst h1
  exact h2
theorem om_kca {k : Nat} {as : List om_V} {l : Nat} {L : om_L} {st : List om_V} {M : om_M} (h : om_Kr C G r Mf (om_ca k as l L st M)) : ∃ v M1, C k as M v M1 ∧ G l L (v.toList ++ st) M1 r Mf := by
  obtain ⟨R, h1, h2⟩ := h
  subst h1
  exact h2
theorem om_krt {v : Option om_V} {M : om_M} (h : om_Kr C G r Mf (om_rt v M)) : r = v ∧ Mf = M := by
  obtain ⟨R, h1, h2⟩ := h
  subst h1
  exact h2
theorem om_p1_sp {st : List om_V} {k : Int32 → List om_V → om_R} (h : om_Kr C G r Mf (om_p1 st k)) : ∃ x t, st = .inl x :: t ∧ om_Kr C G r Mf (k x t) := by
  match st, h with
  | .inl x :: t, h => exact ⟨x, t, rfl, h⟩
  | [], h => exact (om_kno h).elim
  | .inr x :: t, h => exact (om_kno h).elim
theorem om_p2_sp {st : List om_V} {k : Int32 → Int32 → List om_V → om_R} (h : om_Kr C G r Mf (om_p2 st k)) : ∃ x y t, st = .inl y :: .inl x :: t ∧ om_Kr C G r Mf (k x y t) := by
  match st, h with
  | .inl y :: .inl x :: t, h => exact ⟨x, y, t, rfl, h⟩
  | [], h => exact (om_kno h).elim
  | [.inl y], h => exact (om_kno h).elim
  | .inl y :: .inr x :: t, h => exact (om_kno h).elim
  | .inr x :: t, h => exact (om_kno h).elim
theorem om_q1_sp {st : List om_V} {k : Int64 → List om_V → om_R} (h : om_Kr C G r Mf (om_q1 st k)) : ∃ x t, st = .inr (.inl x) :: t ∧ om_Kr C G r Mf (k x t) := by
  match st, h with
  | .inr (.inl x) :: t, h => exact ⟨x, t, rfl, h⟩
  | [], h => exact (om_kno h).elim
  | .inl x :: t, h => exact (om_kno h).elim
  | .inr (.inr x) :: t, h => exact (om_kno h).elim
theorem om_q2_sp {st : List om_V} {k : Int64 → Int64 → List om_V → om_R} (h : om_Kr C G r Mf (om_q2 st k)) : ∃ x y t, st = .inr (.inl y) :: .inr (.inl x) :: t ∧ om_Kr C G r Mf (k x y t) := by
  match st, h with
  | .inr (.inl y) :: .inr (.inl x) :: t, h => exact ⟨x, y, t, rfl, h⟩
  | [], h => exact (om_kno h).elim
  | [.inr (.inl y)], h => exact (om_kno h).elim
  | .inr (.inl y) :: .inl x :: t, h => exact (om_kno h).elim
  | .inr (.inl y) :: .inr (.inr x) :: t, h => exact (om_kno h).elim
  | .inl x :: t, h => exact (om_kno h).elim
  | .inr (.inr x) :: t, h => exact (om_kno h).elim
theorem om_qi_sp {st : List om_V} {k : Int64 → Int32 → List om_V → om_R} (h : om_Kr C G r Mf (om_qi st k)) : ∃ x y t, st = .inl y :: .inr (.inl x) :: t ∧ om_Kr C G r Mf (k x y t) := by
  match st, h with
  | .inl y :: .inr (.inl x) :: t, h => exact ⟨x, y, t, rfl, h⟩
  | [], h => exact (om_kno h).elim
  | [.inl y], h => exact (om_kno h).elim
  | .inl y :: .inl x :: t, h => exact (om_kno h).elim
  | .inl y :: .inr (.inr x) :: t, h => exact (om_kno h).elim
  | .inr x :: t, h => exact (om_kno h).elim
theorem om_a1_sp {st : List om_V} {k : Nat → List om_V → om_R} (h : om_Kr C G r Mf (om_a1 st k)) : ∃ x t, st = .inr (.inr x) :: t ∧ om_Kr C G r Mf (k x t) := by
  match st, h with
  | .inr (.inr x) :: t, h => exact ⟨x, t, rfl, h⟩
  | [], h => exact (om_kno h).elim
  | .inl x :: t, h => exact (om_kno h).elim
  | .inr (.inl x) :: t, h => exact (om_kno h).elim
theorem om_ai_sp {st : List om_V} {k : Nat → Int32 → List om_V → om_R} (h : om_Kr C G r Mf (om_ai st k)) : ∃ a i t, st = .inl i :: .inr (.inr a) :: t ∧ om_Kr C G r Mf (k a i t) := by
  match st, h with
  | .inl i :: .inr (.inr a) :: t, h => exact ⟨a, i, t, rfl, h⟩
  | [], h => exact (om_kno h).elim
  | [.inl y], h => exact (om_kno h).elim
  | .inl y :: .inl x :: t, h => exact (om_kno h).elim
  | .inl y :: .inr (.inl x) :: t, h => exact (om_kno h).elim
  | .inr x :: t, h => exact (om_kno h).elim
theorem om_aii_sp {st : List om_V} {k : Nat → Int32 → Int32 → List om_V → om_R} (h : om_Kr C G r Mf (om_aii st k)) : ∃ a i x t, st = .inl x :: .inl i :: .inr (.inr a) :: t ∧ om_Kr C G r Mf (k a i x t) := by
  match st, h with
  | .inl x :: .inl i :: .inr (.inr a) :: t, h => exact ⟨a, i, x, t, rfl, h⟩
  | [], h => exact (om_kno h).elim
  | [.inl y], h => exact (om_kno h).elim
  | [.inl y, .inl x], h => exact (om_kno h).elim
  | .inl y :: .inl x :: .inl z :: t, h => exact (om_kno h).elim
  | .inl y :: .inl x :: .inr (.inl z) :: t, h => exact (om_kno h).elim
  | .inl y :: .inr x :: t, h => exact (om_kno h).elim
  | .inr x :: t, h => exact (om_kno h).elim
theorem om_ar_sp {st : List om_V} {k : Nat → Nat → List om_V → om_R} (h : om_Kr C G r Mf (om_ar st k)) : ∃ a b t, st = .inr (.inr b) :: .inr (.inr a) :: t ∧ om_Kr C G r Mf (k a b t) := by
  match st, h with
  | .inr (.inr b) :: .inr (.inr a) :: t, h => exact ⟨a, b, t, rfl, h⟩
  | [], h => exact (om_kno h).elim
  | [.inr (.inr y)], h => exact (om_kno h).elim
  | .inr (.inr y) :: .inl x :: t, h => exact (om_kno h).elim
  | .inr (.inr y) :: .inr (.inl x) :: t, h => exact (om_kno h).elim
  | .inl x :: t, h => exact (om_kno h).elim
  | .inr (.inl x) :: t, h => exact (om_kno h).elim
theorem om_gd {L : om_L} {i : Nat} {v : om_V} (h : L.getD i none = some v) : L[i]? = some (some v) := by
  rw [List.getD_eq_getElem?_getD] at h
  cases hx : L[i]? with
  | none => rw [hx] at h; cases h
  | some w => rw [hx] at h; rw [show w = some v from h]
theorem om_li_sp {L : om_L} {i : Nat} {k : Int32 → om_R} (h : om_Kr C G r Mf (om_li L i k)) : ∃ x, L[i]? = some (some (.inl x)) ∧ om_Kr C G r Mf (k x) := by
  unfold om_li at h
  split at h
  · exact ⟨_, om_gd (by assumption), h⟩
  · exact (om_kno h).elim
theorem om_ll_sp {L : om_L} {i : Nat} {k : Int64 → om_R} (h : om_Kr C G r Mf (om_ll L i k)) : ∃ x, L[i]? = some (some (.inr (.inl x))) ∧ om_Kr C G r Mf (k x) := by
  unfold om_ll at h
  split at h
  · exact ⟨_, om_gd (by assumption), h⟩
  · exact (om_kno h).elim
theorem om_lr_sp {L : om_L} {i : Nat} {k : Nat → om_R} (h : om_Kr C G r Mf (om_lr L i k)) : ∃ x, L[i]? = some (some (.inr (.inr x))) ∧ om_Kr C G r Mf (k x) := by
  unfold om_lr at h
  split at h
  · exact ⟨_, om_gd (by assumption), h⟩
  · exact (om_kno h).elim
theorem om_oe_sp {o : Option Nat} {k : Nat → om_R} (h : om_Kr C G r Mf (om_oe o k)) : ∃ q, o = some q ∧ om_Kr C G r Mf (k q) := by
  cases o with
  | none => exact (om_kno h).elim
  | some q => exact ⟨q, rfl, h⟩
theorem om_cb_sp {g : Bool} {A : om_R} (h : om_Kr C G r Mf (bif g then A else om_no)) : g = true ∧ om_Kr C G r Mf A := by
  cases g with
  | true => exact ⟨rfl, h⟩
  | false => exact (om_kno h).elim
theorem om_cd_sp {g : Bool} {A : om_R} (h : om_Kr C G r Mf (bif g then om_no else A)) : g = false ∧ om_Kr C G r Mf A := by
  cases g with
  | false => exact ⟨rfl, h⟩
  | true => exact (om_kno h).elim
theorem om_if_sp {c : Prop} {inst : Decidable c} {A B : om_R} (h : om_Kr C G r Mf (if c then A else B)) : (c → om_Kr C G r Mf A) ∧ (¬ c → om_Kr C G r Mf B) := ⟨fun hc => by rw [if_pos hc] at h; exact h, fun hc => by rw [if_neg hc] at h; exact h⟩
end SP
theorem om_take_sp : ∀ {n : Nat} {st as r : List om_V}, om_take n st = some (as, r) → st = as.reverse ++ r ∧ as.length = n
  | 0, st, as, r, h => by cases h; exact ⟨rfl, rfl⟩
  | n + 1, [], as, r, h => by cases h
  | n + 1, v :: st, as, r, h => by
    simp only [om_take] at h
    cases hx : om_take n st with
    | none => rw [hx] at h; cases h
    | some q =>
      obtain ⟨a, b⟩ := q
      rw [hx] at h
      cases h
      obtain ⟨h1, h2⟩ := om_take_sp hx
      exact ⟨by rw [h1]; simp, by simp [h2]⟩
theorem om_rc_sp {as : List om_V} {a : Nat} (h : om_rc as = some a) : ∃ t, as = .inr (.inr a) :: t := by
  match as, h with
  | .inr (.inr b) :: t, h => cases h; exact ⟨t, rfl⟩
  | .inr (.inl b) :: t, h => cases h
  | .inl b :: t, h => cases h
  | [], h => cases h
theorem om_nr_sp {rt : Nat} {v : Int32} (ty : FieldType) (hty : rt = 0 ∧ ty = .int ∨ rt = 1 ∧ ty = .boolean ∨ rt = 2 ∧ ty = .byte ∨ rt = 3 ∧ ty = .char) (h : om_nr rt v = true) : narrow ty (.int v) = .int v := by
  rcases hty with ⟨rfl, rfl⟩ | ⟨rfl, rfl⟩ | ⟨rfl, rfl⟩ | ⟨rfl, rfl⟩
  · rfl
  · simp only [om_nr, Bool.or_eq_true, decide_eq_true_eq] at h
    rcases h with rfl | rfl <;> decide
  · simp only [om_nr, decide_eq_true_eq] at h
    subst h
    decide
  · simp only [om_nr, Bool.and_eq_true, decide_eq_true_eq] at h
    obtain ⟨h1, h2⟩ := h
    have h1 := Int32.le_iff_toInt_le.mp h1
    have h2 := Int32.le_iff_toInt_le.mp h2
    obtain ⟨j, hj, rfl⟩ : ∃ j : Nat, j < 256 ∧ v = nI j := by
      refine ⟨v.toInt.toNat, ?_, ?_⟩
      · have : (255 : Int32).toInt = 255 := by decide
        have : (0 : Int32).toInt = 0 := by decide
        omega
      · have e : (0 : Int32).toInt = 0 := by decide
        have e2 : (255 : Int32).toInt = 255 := by decide
        apply Int32.toInt_inj.mp
        rw [nI_toInt (by omega)]
        omega
    exact (pk_charN (by omega)).1
/-! ===== one instruction after the other ===== -/
def om_Rep (D : va_G) (cA : Nat → ClassId) (ad : Nat → Nat) (A : Nat → Prop) (H0 : Heap) (M : om_M) (H : Heap) (locs : List Loc) : Prop := va_P D vwCl (om_ws ad cA M) H ∧ va_D A (om_ws ad cA M) ∧ va_S A H0 H locs
def om_A (ad : Nat → Nat) (sz : Nat) : Nat → Prop := fun q => (∃ a, a < om_N ∧ q = ad a) ∨ sz ≤ q
def om_B (D : va_G) (cA : Nat → ClassId) (ad : Nat → Nat) (sz : Nat) (M : om_M) : State → Prop := fun U => U.heap.size = sz ∧ va_P D vwCl (om_ws ad cA M) U.heap ∧ om_K D cA U ∧ va_D (fun _ => True) (om_ws ad cA M) ∧ om_N2 ad U ∧ om_S ad (om_A ad sz) U U.heap
def om_Q (D : va_G) (cA : Nat → ClassId) (ad : Nat → Nat) (sz : Nat) (v : Option om_V) (M : om_M) : Array Value → State → Outcome → State → Prop := fun _ st o t => (o = .returned (v.map (om_val ad)) ∧ va_P D vwCl (om_ws ad cA M) t.heap ∧ va_D (om_A ad sz) (om_ws ad cA M)) ∧ va_F (om_A ad sz) st t
def om_wk (q : om_Sg) : List Cond := .code q.1 q.2.1 q.2.2.1 q.2.2.2.1 :: om_tb
def om_rm (d : Nat) : Room := { frames := d + 3, cells := 0, slots := 0, locals := 40 * d + 160 }
def om_CS (l : Launch) (D : va_G) (cA : Nat → ClassId) (ad : Nat → Nat) (d : Nat) (C : om_C) : Prop := ∀ k as M v M1, C k as M v M1 → ∀ q, om_nth om_sig k = some q → ∀ sz, Met l q.1 (om_wk q) (om_rm d) (va_Pc (as.map (om_val ad)) (om_B D cA ad sz M)) (om_Q D cA ad sz v M1) 0 0 (om_A ad sz)
theorem om_objsp {a c : Nat} (h : om_obj a c = true) (hc : c < 8) : om_kof a = (5, c, (om_kof a).2.2) := by
  unfold om_obj at h
  have e : Nat.beq c 99 = false := by
    cases q : Nat.beq c 99 with
    | false => rfl
    | true => exact absurd (Nat.eq_of_beq_eq_true q) (by omega)
  rw [e] at h
  simp only [cond_false, Bool.and_eq_true] at h
  have h1 := Nat.eq_of_beq_eq_true h.1
  have h2 := Nat.eq_of_beq_eq_true h.2
  rw [← h1, ← h2]
theorem om_fs_at {ad : Nat → Nat} {a : Nat} {MI : Nat → Int32} {MR : Nat → Option Nat} {ds : List Nat} {k : Nat} (h : k < ds.length) : (om_fs ad a MI MR ds)[k]? = some (om_fv ad a (MI k) (MR k) (ds.getD k 9)) := by
  unfold om_fs
  rw [List.getElem?_mapIdx, List.getD_eq_getElem?_getD, List.getElem?_eq_getElem h]
  rfl
theorem om_fs_len {ad : Nat → Nat} {a : Nat} {MI : Nat → Int32} {MR : Nat → Option Nat} {ds : List Nat} : (om_fs ad a MI MR ds).length = ds.length := by simp [om_fs]
theorem om_fs_set {ad : Nat → Nat} {a : Nat} {MI MI' : Nat → Int32} {MR MR' : Nat → Option Nat} {ds : List Nat} {k : Nat} (h : k < ds.length) {v : Value} (hv : v = om_fv ad a (MI' k) (MR' k) (ds.getD k 9)) (h1 : ∀ j, j ≠ k → MI' j = MI j) (h2 : ∀ j, j ≠ k → MR' j = MR j) : (om_fs ad a MI MR ds).set k v = om_fs ad a MI' MR' ds := by
  apply List.ext_getElem?
  intro b
  by_cases hb : b < ds.length
  · rw [om_fs_at hb]
    by_cases e : k = b
    · subst e
      rw [List.getElem?_set_self (by rw [om_fs_len]; exact h), hv]
    · rw [List.getElem?_set_ne e, om_fs_at hb, h1 b (fun q => e q.symm), h2 b (fun q => e q.symm)]
  · have e1 : ((om_fs ad a MI MR ds).set k v).length ≤ b := by rw [List.length_set, om_fs_len]; omega
    have e2 : (om_fs ad a MI' MR' ds).length ≤ b := by rw [om_fs_len]; omega
    rw [List.getElem?_eq_none e1, List.getElem?_eq_none e2]
theorem om_up_eq {M : om_M} {a j : Nat} {x : Int32} : (om_up M a j x).1 a = upd (M.1 a) j x := by
  funext k
  simp [om_up, upd]
theorem om_up_ne {M : om_M} {a j b : Nat} {x : Int32} (h : b ≠ a) : (om_up M a j x).1 b = M.1 b := by
  funext k
  simp [om_up, h]
section RUN
variable {p : Program} {l : Launch} {e : Env} {R : Room} {s : State} {m : MethodId} {args : Array Value} {below : List Frame} {meth : Method} {c : Code} {Q : State → Prop}
variable {D : va_G} {cA : Nat → ClassId} {ad : Nat → Nat} {A : Nat → Prop} {cc : ByteArray} {own nL : Nat}
/-- behind a call -/
theorem om_fin {cells slots : Nat} {H : Heap} {locs : List Loc} {pc : Nat} {ls : Array Slot} {st0 rest : List Value} {a : Array Value} {free : Addr → Prop} {v : Option om_V} {M1 : om_M} {sz : Nat} (hr : va_Run p l e R s m args below meth c H locs cells slots 0 0 (F0 m pc ls st0) rest (om_Q D cA ad sz v M1 a) free) (hS : va_S A s.heap H locs) (hA : ∀ q, om_A ad sz q → A q) (hf : ∀ q, free q → A q)
    (kk : ∀ (H1 : Heap) (locs1 : List Loc), om_Rep D cA ad A s.heap M1 H1 locs1 → W p l e R s m args below meth c H1 locs1 cells slots Q (F0 m (pc + 3) ls ((v.map (om_val ad)).toList ++ rest))) : W p l e R s m args below meth c H locs cells slots Q (F0 m pc ls st0) := by
  intro T hT X
  obtain ⟨v', st₀, t, T', L, h0, X', hL, e1, e2, ⟨⟨hv, hP, hD⟩, hz, hk⟩, st⟩ := hr T hT X
  cases hv
  rw [h0] at hz hk
  obtain ⟨t2, a1, b1⟩ := kk T'.heap (locs ++ L) ⟨by rw [e1]; exact hP, hD.weaken (fun _ _ _ q => hA _ q), Nat.le_trans hS.1 (by rw [e1]; exact hz), fun q h1 h2 => by rw [e1, hk q (Nat.lt_of_lt_of_le h1 hS.1) (fun z => h2 (hA q z))]; exact hS.2.1 q h1 h2, fun q hq => by
      rcases List.mem_append.mp hq with h | h
      · exact hS.2.2 q h
      · exact hf _ (hL q h)⟩ T' rfl X'
  exact ⟨t2, st t2 a1, b1⟩
theorem om_good : ∀ w ∈ om_tb, (w.onTables && w.keeps) = true ∨ ∃ ty, w = .arrayClass ty := fun w hw => good_of_word (List.all_eq_true.mp om_tb_good w hw)
/-- the callee's start, out of the caller's state -/
theorem om_pre (hK : om_K D cA s) (hN : om_N2 ad s) (hS0 : om_S ad A s s.heap) (hA : ∀ q, s.heap.size ≤ q → A q) {M : om_M} {H : Heap} {locs : List Loc} (hR : om_Rep D cA ad A s.heap M H locs) {as : List om_V} {U : State} (hU : U.heap = H) (hW : s.WarmedH U.vm) : va_Pc (as.map (om_val ad)) (om_B D cA ad H.size M) (as.map (om_val ad)).toArray U := by
  obtain ⟨hP, hD, hS⟩ := hR
  refine ⟨rfl, by rw [hU], by rw [hU]; exact hP, om_K.moved hW.alike hK, hD.weaken (fun _ _ _ _ => trivial), hN.warm hW, ?_⟩
  rw [hU]
  refine om_S.narrow ((hS0.kept hS.2.1).moved hW.alike) (fun q hq => ?_)
  rcases hq with ⟨b, hb, rfl⟩ | hq
  · exact hD.2 b _ (om_ws_at hb)
  · exact hA q (Nat.le_trans hS.1 hq)
theorem om_sub (hA : ∀ q, s.heap.size ≤ q → A q) {M : om_M} {H : Heap} {locs : List Loc} (hR : om_Rep D cA ad A s.heap M H locs) : ∀ q, om_A ad H.size q → A q := fun q hq => by
  rcases hq with ⟨b, hb, rfl⟩ | hq
  · exact hR.2.1.2 b _ (om_ws_at hb)
  · exact hA q (Nat.le_trans hR.2.2.1 hq)
theorem om_blind {as : List om_V} {sz : Nat} {M : om_M} : FrameBlind (va_Pc (as.map (om_val ad)) (om_B D cA ad sz M)) := fun a U g mk q => by
  obtain ⟨q1, q2, q3, q4, q5, q6, q7⟩ := q
  exact ⟨q1, q2, q3, om_K.moved (u := U) (U := U.calling g mk a) (Vm.Alike.refl U.vm) q4, q5, om_N2.same (u := U) (U := U.calling g mk a) rfl q6, om_S.moved (u := U) (U := U.calling g mk a) (Vm.Alike.refl U.vm) q7⟩
theorem om_st8 {r : List om_V} (h : Nat.ble r.length 4 = true) : ((r.map (om_val ad)).map fun v => v.category).sum ≤ 8 := by
  have h := Nat.le_of_ble_eq_true h
  have key : ∀ r : List om_V, ((r.map (om_val ad)).map fun v => v.category).sum ≤ 2 * r.length := by
    intro r
    induction r with
    | nil => simp
    | cons v r ih =>
      simp only [List.map_cons, List.sum_cons, List.length_cons]
      have hv : (om_val ad v).category ≤ 2 := by rcases lv_cat (om_val ad v) with q | q <;> omega
      omega
  have := key r
  omega
/-- a receiver's class -/
theorem om_recv (hK : om_K D cA s) (hS0 : om_S ad A s s.heap) {M : om_M} {H : Heap} {locs : List Loc} (hR : om_Rep D cA ad A s.heap M H locs) {a ci : Nat} (hci : ci < 8 ∨ ci = 99) (h : om_obj a ci = true) : ∃ cell : Cell, H[ad a]? = some cell ∧ cell.vm.isStatics = false ∧ s.vm.findClass (om_cn (om_rcn ci)) = some cell.cls := by
  obtain ⟨hP, hD, hS⟩ := hR
  rcases hci with hci | rfl
  · have hk := om_objsp h hci
    have hlt := om_kof_lt hk (by decide)
    have he := om_ws_at (ad := ad) (cA := cA) (M := M) hlt
    rw [om_ce_5 hk] at he
    have e : om_rcn ci = ci := by
      unfold om_rcn
      cases q : Nat.beq ci 99 with
      | false => rfl
      | true => exact absurd (Nat.eq_of_beq_eq_true q) (by omega)
    rw [e]
    exact va_recv hK.va hP (om_cls ci hci).1 he
  · have h2 : 1000 ≤ a ∧ a < 1000 + om_sn := by
      have h3 : (Nat.ble 1000 a && Nat.blt a (1000 + om_sn)) = true := h
      simp only [Bool.and_eq_true] at h3
      exact ⟨Nat.le_of_ble_eq_true h3.1, Nat.le_of_ble_eq_true h3.2⟩
    obtain ⟨cell, q1, q2, q3⟩ := vk_recv (i := a - 1000) hS0.1 (by omega) hS
    have e : 1000 + (a - 1000) = a := by omega
    simp only [e] at q1
    exact ⟨cell, q1, q2, q3⟩
end RUN
def om_sgck (q : om_Sg) : Bool := plainName q.1.cls && (decide (q.1.cls ≠ "java/lang/invoke/MethodHandle") && (decide (q.1.cls ≠ "java/lang/invoke/VarHandle") && (decide ((parseMethodDescriptor q.1.desc).map (fun d => d.parameters.length) = some q.2.2.2.2.2.2) && (Nat.ble q.2.2.1 21 && (match q.2.2.2.1 with
  | none => true
  | some ty => (Nat.beq q.2.2.2.2.1 0 && decide (ty = .int)) || ((Nat.beq q.2.2.2.2.1 1 && decide (ty = .boolean)) || ((Nat.beq q.2.2.2.2.1 2 && decide (ty = .byte)) || (Nat.beq q.2.2.2.2.1 3 && decide (ty = .char)))))))))
theorem om_sgck_all : om_sig.all om_sgck = true := by decide +kernel
theorem om_sgck_at {k : Nat} {q : om_Sg} (h : om_nth om_sig k = some q) : plainName q.1.cls = true ∧ (q.1.cls ≠ "java/lang/invoke/MethodHandle" ∧ q.1.cls ≠ "java/lang/invoke/VarHandle") ∧ (∀ sig, parseMethodDescriptor q.1.desc = some sig → q.2.2.2.2.2.2 = sig.parameters.length) ∧ q.2.2.1 ≤ 21 ∧ (∀ ty, q.2.2.2.1 = some ty → (q.2.2.2.2.1 = 0 ∧ ty = .int ∨ q.2.2.2.2.1 = 1 ∧ ty = .boolean ∨ q.2.2.2.2.1 = 2 ∧ ty = .byte ∨ q.2.2.2.2.1 = 3 ∧ ty = .char)) := by
  have h := List.all_eq_true.mp om_sgck_all q (om_nth_mem h)
  unfold om_sgck at h
  simp only [Bool.and_eq_true, decide_eq_true_eq] at h
  obtain ⟨h1, h2, h3, h4, h5, h6⟩ := h
  refine ⟨h1, ⟨h2, h3⟩, fun sig hs => ?_, Nat.le_of_ble_eq_true h5, fun ty ht => ?_⟩
  · rw [hs] at h4
    exact (Option.some.inj h4).symm
  · rw [ht] at h6
    simp only [Bool.or_eq_true, Bool.and_eq_true, decide_eq_true_eq] at h6
    rcases h6 with ⟨a, b⟩ | ⟨a, b⟩ | ⟨a, b⟩ | ⟨a, b⟩
    · exact Or.inl ⟨Nat.eq_of_beq_eq_true a, b⟩
    · exact Or.inr (Or.inl ⟨Nat.eq_of_beq_eq_true a, b⟩)
    · exact Or.inr (Or.inr (Or.inl ⟨Nat.eq_of_beq_eq_true a, b⟩))
    · exact Or.inr (Or.inr (Or.inr ⟨Nat.eq_of_beq_eq_true a, b⟩))
theorem om_bif_sp {b x y : Bool} (h : (bif b then x else y) = true) : x = true ∨ y = true := by
  cases b with
  | true => exact Or.inl h
  | false => exact Or.inr h
section RUN2
variable {p : Program} {l : Launch} {e : Env} {R : Room} {s : State} {m : MethodId} {args : Array Value} {below : List Frame} {meth : Method} {c : Code} {Q : State → Prop}
variable {D : va_G} {cA : Nat → ClassId} {ad : Nat → Nat} {A : Nat → Prop} {cc : ByteArray} {own nL : Nat}
theorem om_wkw (hts : ∀ w ∈ om_tb, w.before args s = true) {k : Nat} {q : om_Sg} (h : om_nth om_sig k = some q) : ∀ w ∈ om_wk q, ∀ (a' : Array Value) (U : State), s.WarmedH U.vm → w.before a' U = true := by
  intro w hw a' U hW
  have hin : w ∈ om_tb := by
    rcases List.mem_cons.mp hw with rfl | hw
    · exact om_tb_sg (om_nth_mem h) List.mem_cons_self
    · exact hw
  exact word_at hW (om_good w hin) (hts w hin)
theorem om_callB (hts : ∀ w ∈ om_tb, w.before args s = true) {d k ix w : Nat} {q : om_Sg} (h : om_nth om_sig k = some q) (hRf : d + 4 ≤ R.frames) (hRl : 40 * d + 200 ≤ R.locals) (hl : (Cond.methodLink (om_cn own) ix q.1).before args s = true) : CallB R s args (om_cn own) ix q.1 q.2.1 q.2.2.1 q.2.2.2.1 (om_wk q) (om_rm d) 0 0 q.2.2.2.2.2.2 := by
  obtain ⟨h1, h2, h3, h4, -⟩ := om_sgck_at h
  refine ⟨rfl, rfl, hRf, ?_, om_wkw hts h, List.mem_cons_self, hts _ (om_tb_sg (om_nth_mem h) List.mem_cons_self), hts _ (om_tb_sg (om_nth_mem h) (List.mem_cons_of_mem _ List.mem_cons_self)), h2, h3, hl⟩
  show 8 + (q.2.2.1 + 11) + (40 * d + 160) ≤ R.locals
  omega
theorem om_callN (hts : ∀ w ∈ om_tb, w.before args s = true) {d k ix w : Nat} {q : om_Sg} (h : om_nth om_sig k = some q) (hRf : d + 4 ≤ R.frames) (hRl : 40 * d + 200 ≤ R.locals) (hl : (Cond.methodLinkNest (om_cn own) ix q.1 "OneMark").before args s = true) : va_CN R s args (om_cn own) ix q.1 "OneMark" q.2.1 q.2.2.1 q.2.2.2.1 (om_wk q) (om_rm d) 0 0 q.2.2.2.2.2.2 := by
  obtain ⟨h1, h2, h3, h4, -⟩ := om_sgck_at h
  refine ⟨⟨rfl, rfl, hRf, ?_, om_wkw hts h, List.mem_cons_self⟩, hts _ (om_tb_sg (om_nth_mem h) List.mem_cons_self), hts _ (om_tb_sg (om_nth_mem h) (List.mem_cons_of_mem _ List.mem_cons_self)), h2, h3, hl⟩
  show 8 + (q.2.2.1 + 11) + (40 * d + 160) ≤ R.locals
  omega
theorem om_mk_sp {ix k w : Nat} {q : om_Sg} (hq : om_nth om_sig k = some q) (hts : ∀ w ∈ om_tb, w.before args s = true) (hN : om_N2 ad s) (h : om_mk own ix k w = true) : (Cond.methodLink (om_cn own) ix q.1).before args s = true ∨ (Cond.methodLinkNest (om_cn own) ix q.1 "OneMark").before args s = true := by
  rcases om_bif_sp h with h | h
  · left
    have h2 := hts _ (om_tb_mw (om_nth_mem (of_decide_eq_true h)))
    unfold om_mw at h2
    rw [om_sy_of hq] at h2
    exact h2
  · right
    have hm : om_mn (own, ix, k) ∈ om_nw := List.mem_append_right _ (List.mem_map_of_mem (om_nth_mem (of_decide_eq_true h)))
    have h2 := va_Nw.use (A := args) (om_nw_on hm) (hN.1 _ hm)
    unfold om_mn at h2
    rw [om_sy_of hq] at h2
    exact h2
theorem om_callV (hx : p.tables.exec = Jvm.exec) (hb : c.code = cc) (hml : c.maxLocals = nL) (hown : s.vm.findClass (om_cn own) = some m.cls) (hts : ∀ w ∈ om_tb, w.before args s = true) (hK : om_K D cA s) (hN : om_N2 ad s) (hS0 : om_S ad A s s.heap) (hA : ∀ q, s.heap.size ≤ q → A q) {d cells slots : Nat} (hcs : cells + 0 ≤ R.cells ∧ slots + 0 ≤ R.slots) (hRf : d + 4 ≤ R.frames) (hRl : 40 * d + 200 ≤ R.locals) {C : om_C} (hC : om_CS l D cA ad d C)
    {k ix w a ci pc : Nat} {q : om_Sg} (hq : om_nth om_sig k = some q) (hst : q.2.2.2.2.2.1 = false) (hcl : q.1.cls = om_cn (om_rcn ci)) (hci : ci < 8 ∨ ci = 99) (hm : om_mk own ix k w = true) (hdg : decode cc pc = .ok (.invokevirtual ix, 3)) {t r : List om_V} (hn : (om_r a :: t).length = q.2.2.2.2.2.2 + 1) (h8 : Nat.ble r.length 4 = true) (hob : om_obj a ci = true) {v : Option om_V} {M M1 : om_M} (hc : C k (om_r a :: t) M v M1) {H : Heap} {locs : List Loc} {ls : Array Slot} (hls : ls.size = nL) (hR : om_Rep D cA ad A s.heap M H locs)
    (kk : ∀ (H1 : Heap) (locs1 : List Loc), om_Rep D cA ad A s.heap M1 H1 locs1 → W p l e R s m args below meth c H1 locs1 cells slots Q (F0 m (pc + 3) ls ((v.map (om_val ad)).toList ++ r.map (om_val ad)))) : W p l e R s m args below meth c H locs cells slots Q (F0 m pc ls (((om_r a :: t).reverse ++ r).map (om_val ad))) := by
  have hM := hC k _ M v M1 hc q hq H.size
  have hin := om_nth_mem hq
  have w4 : ∀ w ∈ ([.instanceMethod q.1, .selects q.1.cls q.1 q.1] : List Cond), w.before args s = true := by
    intro w hw
    refine hts w (om_tb_sg hin ?_)
    unfold om_sw4
    rw [hst]
    exact List.mem_cons_of_mem _ (List.mem_cons_of_mem _ hw)
  have hi := w4 _ List.mem_cons_self
  have hs := w4 _ (List.mem_cons_of_mem _ List.mem_cons_self)
  have hlen : (t.map (om_val ad)).length = q.2.2.2.2.2.2 := by
    simp only [List.length_cons] at hn
    rw [List.length_map]
    omega
  have hstk : ((om_r a :: t).reverse ++ r).map (om_val ad) = (t.map (om_val ad)).reverse ++ .ref (ad a) :: r.map (om_val ad) := by
    simp [om_val, om_r]
  have hpre : PreV s H q.1.cls (ad a) (va_Pc ((om_r a :: t).map (om_val ad)) (om_B D cA ad H.size M)) (t.map (om_val ad)) := by
    refine ⟨om_blind, ?_, fun U hU hW => om_pre hK hN hS0 hA hR hU hW⟩
    rw [hcl]
    exact om_recv hK hS0 hR hci hob
  have hcat : 2 * (F0 m pc ls (((om_r a :: t).reverse ++ r).map (om_val ad))).monitorRoom + ((r.map (om_val ad)).map fun v => v.category).sum ≤ 8 := by
    have := om_st8 (ad := ad) h8
    show 2 * 0 + _ ≤ 8
    omega
  rcases om_mk_sp hq hts hN hm with hl | hl
  · exact om_fin (va_runV (As := t.map (om_val ad)) (rest := r.map (om_val ad)) ⟨hx, hb, hml, hown, hts⟩ hM ⟨om_callB (w := w) hts hq hRf hRl hl, hi, hs⟩ hpre rfl hlen hls hstk hcat hdg hcs) hR.2.2 (om_sub hA hR) (om_sub hA hR) kk
  · exact om_fin (va_runVN (As := t.map (om_val ad)) (rest := r.map (om_val ad)) ⟨hx, hb, hml, hown, hts⟩ hM ⟨om_callN (w := w) hts hq hRf hRl hl, hi, hs⟩ hpre rfl hlen hls hstk hcat hdg hcs) hR.2.2 (om_sub hA hR) (om_sub hA hR) kk
theorem om_callS (hx : p.tables.exec = Jvm.exec) (hb : c.code = cc) (hml : c.maxLocals = nL) (hown : s.vm.findClass (om_cn own) = some m.cls) (hts : ∀ w ∈ om_tb, w.before args s = true) (hK : om_K D cA s) (hN : om_N2 ad s) (hS0 : om_S ad A s s.heap) (hA : ∀ q, s.heap.size ≤ q → A q) {d cells slots : Nat} (hcs : cells + 0 ≤ R.cells ∧ slots + 0 ≤ R.slots) (hRf : d + 4 ≤ R.frames) (hRl : 40 * d + 200 ≤ R.locals) {C : om_C} (hC : om_CS l D cA ad d C)
    {k ix w pc : Nat} {q : om_Sg} (hq : om_nth om_sig k = some q) (hst : q.2.2.2.2.2.1 = true) (hm : om_mk own ix k w = true) (hdg : decode cc pc = .ok (.invokestatic ix, 3)) {as r : List om_V} (hn : as.length = q.2.2.2.2.2.2) (h8 : Nat.ble r.length 4 = true) {v : Option om_V} {M M1 : om_M} (hc : C k as M v M1) {H : Heap} {locs : List Loc} {ls : Array Slot} (hls : ls.size = nL) (hR : om_Rep D cA ad A s.heap M H locs)
    (kk : ∀ (H1 : Heap) (locs1 : List Loc), om_Rep D cA ad A s.heap M1 H1 locs1 → W p l e R s m args below meth c H1 locs1 cells slots Q (F0 m (pc + 3) ls ((v.map (om_val ad)).toList ++ r.map (om_val ad)))) : W p l e R s m args below meth c H locs cells slots Q (F0 m pc ls ((as.reverse ++ r).map (om_val ad))) := by
  have hM := hC k _ M v M1 hc q hq H.size
  have hin := om_nth_mem hq
  have hi : (Cond.static q.1).before args s = true := by
    refine hts _ (om_tb_sg hin ?_)
    unfold om_sw4
    rw [hst]
    exact List.mem_cons_of_mem _ (List.mem_cons_of_mem _ List.mem_cons_self)
  have hlen : (as.map (om_val ad)).length = q.2.2.2.2.2.2 := by
    rw [List.length_map]
    exact hn
  have hstk : (as.reverse ++ r).map (om_val ad) = (as.map (om_val ad)).reverse ++ r.map (om_val ad) := by
    simp
  have hpre : PreS s H (va_Pc (as.map (om_val ad)) (om_B D cA ad H.size M)) (as.map (om_val ad)) := ⟨om_blind, fun U hU hW => om_pre hK hN hS0 hA hR hU hW⟩
  have hcat : 2 * (F0 m pc ls ((as.reverse ++ r).map (om_val ad))).monitorRoom + ((r.map (om_val ad)).map fun v => v.category).sum ≤ 8 := by
    have := om_st8 (ad := ad) h8
    show 2 * 0 + _ ≤ 8
    omega
  rcases om_mk_sp hq hts hN hm with hl | hl
  · exact om_fin (va_runS (As := as.map (om_val ad)) (rest := r.map (om_val ad)) ⟨hx, hb, hml, hown, hts⟩ hM ⟨om_callB (w := w) hts hq hRf hRl hl, hi⟩ hpre rfl hlen hls hstk hcat hdg hcs) hR.2.2 (om_sub hA hR) (om_sub hA hR) kk
  · exact om_fin (va_runSN (As := as.map (om_val ad)) (rest := r.map (om_val ad)) ⟨hx, hb, hml, hown, hts⟩ hM ⟨om_callN (w := w) hts hq hRf hRl hl, hi, trivial⟩ hpre rfl hlen hls hstk hcat hdg hcs) hR.2.2 (om_sub hA hR) (om_sub hA hR) kk
end RUN2

/-! the JDK's checkIndex, of an index in range -/
theorem om_dp0 : decode cJ3_checkIndex_8e157 0 = .ok (.iload_n 0, 1) := by decide +kernel
theorem om_dp1 : decode cJ3_checkIndex_8e157 1 = .ok (.ifCond .lt 8, 3) := by decide +kernel
theorem om_dp4 : decode cJ3_checkIndex_8e157 4 = .ok (.iload_n 0, 1) := by decide +kernel
theorem om_dp5 : decode cJ3_checkIndex_8e157 5 = .ok (.iload_n 1, 1) := by decide +kernel
theorem om_dp6 : decode cJ3_checkIndex_8e157 6 = .ok (.if_icmp .lt 10, 3) := by decide +kernel
theorem om_dpA : decode cJ3_checkIndex_8e157 16 = .ok (.iload_n 0, 1) := by decide +kernel
theorem om_dpB : decode cJ3_checkIndex_8e157 17 = .ok (.ireturn, 1) := by decide +kernel
theorem om_dc0 : decode cJ0_checkIndex_df160 0 = .ok (.iload_n 0, 1) := by decide +kernel
theorem om_dc1 : decode cJ0_checkIndex_df160 1 = .ok (.iload_n 1, 1) := by decide +kernel
theorem om_dc2 : decode cJ0_checkIndex_df160 2 = .ok (.getstatic 1053, 3) := by decide +kernel
theorem om_dc5 : decode cJ0_checkIndex_df160 5 = .ok (.invokestatic 1059, 3) := by decide +kernel
theorem om_dc8 : decode cJ0_checkIndex_df160 8 = .ok (.pop, 1) := by decide +kernel
theorem om_dc9 : decode cJ0_checkIndex_df160 9 = .ok (.return_, 1) := by decide +kernel
def om_blind2 : True := trivial
theorem om_blindV {D : va_G} {cA : Nat → ClassId} {ad : Nat → Nat} {av : List Value} {sz : Nat} {M : om_M} : FrameBlind (va_Pc av (om_B D cA ad sz M)) := fun a U g mk q => by
  obtain ⟨q1, q2, q3, q4, q5, q6, q7⟩ := q
  exact ⟨q1, q2, q3, om_K.moved (u := U) (U := U.calling g mk a) (Vm.Alike.refl U.vm) q4, q5, om_N2.same (u := U) (U := U.calling g mk a) rfl q6, om_S.moved (u := U) (U := U.calling g mk a) (Vm.Alike.refl U.vm) q7⟩
theorem om_preV {s : State} {A : Nat → Prop} {D : va_G} {cA : Nat → ClassId} {ad : Nat → Nat} (hK : om_K D cA s) (hN : om_N2 ad s) (hS0 : om_S ad A s s.heap) (hA : ∀ q, s.heap.size ≤ q → A q) {M : om_M} {H : Heap} {locs : List Loc} (hR : om_Rep D cA ad A s.heap M H locs) {av : List Value} {U : State} (hU : U.heap = H) (hW : s.WarmedH U.vm) : va_Pc av (om_B D cA ad H.size M) av.toArray U := by
  have h := om_pre (as := []) hK hN hS0 hA hR hU hW
  exact ⟨rfl, h.2⟩
theorem om_wxw {s : State} {args : Array Value} (hts : ∀ w ∈ om_tb, w.before args s = true) {y : MethodName} {cc : ByteArray} {n : Nat} {r : Option FieldType} (h : Cond.code y cc n r ∈ om_tb) : ∀ w ∈ (Cond.code y cc n r :: om_tb), ∀ (a' : Array Value) (U : State), s.WarmedH U.vm → w.before a' U = true := by
  intro w hw a' U hW
  have hin : w ∈ om_tb := by
    rcases List.mem_cons.mp hw with rfl | hw
    · exact h
    · exact hw
  exact word_at hW (om_good w hin) (hts w hin)
theorem om_xw_at {w : Cond} (i : Nat) (h : om_xw[i]? = some w) : w ∈ om_tb := om_tb_xw (List.mem_of_getElem? h)
set_option maxRecDepth 100000 in
theorem om_ckp (l : Launch) (D : va_G) (cA : Nat → ClassId) (ad : Nat → Nat) (sz : Nat) (M : om_M) (i n : Int32) (z : Value) (hz : z.category = 1) (h0 : 0 ≤ i) (hn : i < n) : Met l yJ3_checkIndex_8e157 (.code yJ3_checkIndex_8e157 cJ3_checkIndex_8e157 3 (some .int) :: om_tb) { frames := 0, cells := 0, slots := 0, locals := 40 } (va_Pc [.int i, .int n, z] (om_B D cA ad sz M)) (om_Q D cA ad sz (some (om_i i)) M) 0 0 (om_A ad sz) := by
  refine Met.ofW (cc := cJ3_checkIndex_8e157) (maxL := 3) (ret := some .int) (by decide +kernel) rfl ?_
  intro p e s m args below meth c s₁ Bd hml hv
  obtain ⟨rfl, hsz, hP, hK, hD0, hN, hS0⟩ := hv
  have hx := Bd.exec
  have hb := Bd.bytes
  have hr := Bd.returns
  have hlocks := Bd.notSynchronized
  subst hsz
  have hD : va_D (om_A ad s.heap.size) (om_ws ad cA M) := hD0.weaken (fun k q hk _ => by
    have hlt : k < om_N := by
      have := (List.getElem?_eq_some_iff.mp hk).1
      rwa [om_ws_len] at this
    rw [om_ws_at hlt] at hk
    cases hk
    exact Or.inl ⟨k, hlt, rfl⟩)
  have hl := lv_entry ([.int i, .int n, z]) (n := 3) (by cases z <;> first | exact Nat.le_of_ble_eq_true rfl | (simp [Value.category] at hz))
  rw [lg_entry_eq]
  generalize (lg_sl ([.int i, .int n, z]) ++ List.replicate (3 - (lg_sl ([.int i, .int n, z])).length) Slot.unset).toArray = ls at hl ⊢
  have hl : lv_has ls 3 [(0, .int i), (1, .int n)] := lv_sub hl [0, 1] (by simp [lv_pick, lv_args, Value.category])
  refine lv_iload_n hx hb om_dp0 rfl (lv_at hl 0 rfl) ?_
  refine lv_if_lt (tgt := 9) hx hb om_dp1 (by decide) (fun q => absurd h0 (Int32.not_le.mpr q)) (fun _ => ?_)
  refine lv_iload_n hx hb om_dp4 rfl (lv_at hl 0 rfl) ?_
  refine lv_iload_n hx hb om_dp5 rfl (lv_at hl 1 rfl) ?_
  refine lv_icmp_lt (tgt := 16) hx hb om_dp6 (by decide) (fun _ => ?_) (fun q => absurd hn q)
  refine lv_iload_n hx hb om_dpA rfl (lv_at hl 0 rfl) ?_
  exact W.iret hx hb hr (fun t ht hW => ⟨⟨rfl, by rw [ht]; exact hP, hD⟩, va_S.rf.F ht⟩) (fun _ h => by cases h) om_dpB
set_option maxRecDepth 100000 in
theorem om_cks_met (l : Launch) (D : va_G) (cA : Nat → ClassId) (ad : Nat → Nat) (sz : Nat) (M : om_M) (i n : Int32) (h0 : 0 ≤ i) (hn : i < n) : Met l yJ0_checkIndex_df160 (.code yJ0_checkIndex_df160 cJ0_checkIndex_df160 2 none :: om_tb) { frames := 1, cells := 0, slots := 0, locals := 80 } (va_Pc [.int i, .int n] (om_B D cA ad sz M)) (om_Q D cA ad sz none M) 0 0 (om_A ad sz) := by
  refine Met.ofW (cc := cJ0_checkIndex_df160) (maxL := 2) (ret := none) (by decide +kernel) rfl ?_
  intro p e s m args below meth c s₁ Bd hml hv
  obtain ⟨rfl, hsz, hP, hK, hD0, hN, hS0⟩ := hv
  have hx := Bd.exec
  have hb := Bd.bytes
  have hr := Bd.returns
  have hts : ∀ w ∈ om_tb, w.before (([.int i, .int n] : List Value).toArray) s = true := fun w hw => atoms_spec (ws := .code yJ0_checkIndex_df160 cJ0_checkIndex_df160 2 none :: om_tb) Bd.pre w (List.mem_cons_of_mem _ hw)
  have hown : s.vm.findClass (om_cn 8) = some m.cls := findClass_of_methodNamed Bd.named
  have hlocks := Bd.notSynchronized
  subst hsz
  have hA : ∀ q : Nat, s.heap.size ≤ q → om_A ad s.heap.size q := fun q h => Or.inr h
  have hD : va_D (om_A ad s.heap.size) (om_ws ad cA M) := hD0.weaken (fun k q hk _ => by
    have hlt : k < om_N := by
      have := (List.getElem?_eq_some_iff.mp hk).1
      rwa [om_ws_len] at this
    rw [om_ws_at hlt] at hk
    cases hk
    exact Or.inl ⟨k, hlt, rfl⟩)
  have hR : om_Rep D cA ad (om_A ad s.heap.size) s.heap M s.heap [] := ⟨hP, hD, va_S.rf⟩
  have hl := lv_entry ([.int i, .int n]) (n := 2) (Nat.le_of_ble_eq_true rfl)
  rw [lg_entry_eq]
  generalize (lg_sl ([.int i, .int n]) ++ List.replicate (2 - (lg_sl ([.int i, .int n])).length) Slot.unset).toArray = ls at hl ⊢
  have hl : lv_has ls 2 [(0, .int i), (1, .int n)] := hl
  have go : ∀ z : Value, z.category = 1 → va_Z "jdk/internal/util/Preconditions" "SIOOBE_FORMATTER" "Ljava/util/function/BiFunction;" z (om_A ad s.heap.size) s s.heap → W p l e (headSpec (.code yJ0_checkIndex_df160 cJ0_checkIndex_df160 2 none :: om_tb) { frames := 1, cells := 0, slots := 0, locals := 80 }).room s m ([.int i, .int n] : List Value).toArray below meth c s.heap [] 0 0 (MQ below (om_Q D cA ad s.heap.size none M) ([.int i, .int n] : List Value).toArray s 0 0 (om_A ad s.heap.size)) (F0 m 0 ls []) := by
    intro z hz hZ
    refine lv_iload_n hx hb om_dc0 rfl (lv_at hl 0 rfl) ?_
    refine lv_iload_n hx hb om_dc1 rfl (lv_at hl 1 rfl) ?_
    refine va_gets hx hb hZ va_S.rf hown (hts _ (om_xw_at 3 rfl)) (fun x hx => hx) om_dc2 ?_
    have hcB : CallB (headSpec (.code yJ0_checkIndex_df160 cJ0_checkIndex_df160 2 none :: om_tb) { frames := 1, cells := 0, slots := 0, locals := 80 }).room s ([.int i, .int n] : List Value).toArray (om_cn 8) 1059 yJ3_checkIndex_8e157 cJ3_checkIndex_8e157 3 (some .int) (.code yJ3_checkIndex_8e157 cJ3_checkIndex_8e157 3 (some .int) :: om_tb) { frames := 0, cells := 0, slots := 0, locals := 40 } 0 0 3 := by
      refine ⟨rfl, rfl, Nat.le_of_ble_eq_true rfl, Nat.le_of_ble_eq_true rfl, om_wxw hts (om_xw_at 15 rfl), List.mem_cons_self, hts _ (om_xw_at 15 rfl), hts _ (om_xw_at 17 rfl), ⟨by decide +kernel, by decide +kernel⟩, fun sig hs => ?_, hts _ (om_xw_at 18 rfl)⟩
      have h3 : (parseMethodDescriptor yJ3_checkIndex_8e157.desc).map (fun d => d.parameters.length) = some 3 := by decide +kernel
      rw [hs] at h3
      exact (Option.some.inj h3).symm
    refine om_fin (va_runS (As := [.int i, .int n, z]) (rest := []) ⟨hx, hb, hml, hown, hts⟩ (om_ckp l D cA ad s.heap.size M i n z hz h0 hn) ⟨hcB, hts _ (om_xw_at 14 rfl)⟩ ⟨om_blindV, fun U hU hW => om_preV hK hN hS0 hA hR hU hW⟩ rfl rfl hl.1 rfl (lv_room (Nat.le_of_ble_eq_true rfl)) om_dc5 ⟨Nat.le_refl _, Nat.le_refl _⟩) va_S.rf (om_sub hA hR) (om_sub hA hR) (fun H1 locs1 hR1 => ?_)
    refine lv_pop hx hb om_dc8 rfl ?_
    exact W.vret hx hb hr (fun t ht hW => ⟨⟨rfl, by rw [ht]; exact hR1.1, hR1.2.1⟩, hR1.2.2.F ht⟩) hR1.2.2.2.2 om_dc9
  rcases hS0.2.2 with hZ | ⟨t, hZ⟩
  · exact go .null rfl hZ
  · exact go (.ref t) rfl hZ
