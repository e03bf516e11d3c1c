/-! ===== a block is run as om_ex says ===== -/
theorem om_sw_sp {C : om_C} {G : om_GT} {r : Option om_V} {Mf : om_M} {x : Int32} {t pc : Nat} {L : om_L} {st : List om_V} {M : om_M} : ∀ (os : List Int) (sw : List (Int32 × Nat)) (lo : Int), om_swk pc lo os sw = true → om_Kr C G r Mf (om_sw x t L st M sw) → (∃ (j : Nat) (o : Int) (u : Nat), os[j]? = some o ∧ x.toInt = lo + j ∧ (pc : Int) + o = u ∧ G u L st M r Mf) ∨ ((x.toInt < lo ∨ lo + os.length ≤ x.toInt) ∧ G t L st M r Mf)
  | [], [], lo, _, h => Or.inr ⟨by simp only [List.length_nil]; omega, om_kgo h⟩
  | [], _ :: _, lo, h, _ => absurd h Bool.false_ne_true
  | _ :: _, [], lo, h, _ => absurd h Bool.false_ne_true
  | o :: os, q :: qs, lo, hk, h => by
    simp only [om_swk, Bool.and_eq_true, decide_eq_true_eq] at hk
    obtain ⟨h1, h2, h3⟩ := hk
    obtain ⟨ha, hb⟩ := om_if_sp h
    by_cases hx : x = q.1
    · exact Or.inl ⟨0, o, q.2, rfl, by rw [hx, h1]; simp, h2, om_kgo (ha hx)⟩
    · rcases om_sw_sp os qs (lo + 1) h3 (hb hx) with ⟨j, o', u, g1, g2, g3, g4⟩ | ⟨g1, g2⟩
      · exact Or.inl ⟨j + 1, o', u, by simpa using g1, by omega, g3, g4⟩
      · refine Or.inr ⟨?_, g2⟩
        have hne : x.toInt ≠ lo := fun z => hx (Int32.toInt_inj.mp (z.trans h1.symm))
        simp only [List.length_cons]
        omega
theorem om_cp_sp {C : om_C} {G : om_GT} {r : Option om_V} {Mf : om_M} {st : List om_V} {k : Nat → Int32 → Nat → Int32 → Int32 → List om_V → om_R} (h : om_Kr C G r Mf (om_cp st k)) : ∃ a sp b dp n9 t, st = .inl n9 :: .inl dp :: .inr (.inr b) :: .inl sp :: .inr (.inr a) :: t ∧ om_Kr C G r Mf (k a sp b dp n9 t) := by
  unfold om_cp at h
  split at h
  · exact ⟨_, _, _, _, _, _, rfl, h⟩
  · exact (om_kno h).elim
theorem om_getf_sp {C : om_C} {G : om_GT} {r : Option om_V} {Mf : om_M} {ad : Nat → Nat} {a k : Nat} {M : om_M} {K : om_V → om_R} : ∀ {d : Nat}, om_Kr C G r Mf (om_getf a k M K d) → ∃ v, om_val ad v = om_fv ad a (M.1 a k) (M.2 a k) d ∧ om_Kr C G r Mf (K v)
  | 0, h => ⟨_, rfl, h⟩
  | 1, h => by
    obtain ⟨q, hq, h⟩ := om_oe_sp h
    exact ⟨om_r q, by rw [hq]; rfl, h⟩
  | 2, h => ⟨_, rfl, h⟩
  | 3, h => ⟨_, rfl, h⟩
  | d + 4, h => ⟨_, rfl, h⟩
theorem om_bl_eq (a : Nat) : (om_st.map List.length).getD (a - 2000) 0 = om_bl a := by
  unfold om_bl
  rw [List.getD_eq_getElem?_getD, List.getD_eq_getElem?_getD, List.getElem?_map]
  cases om_st[a - 2000]? <;> rfl
theorem om_fk_sp {own ix : Nat} {f : Nat × Nat × Nat × Nat} (h : om_fk own ix f = true) : f.1 < 8 ∧ f.2.1 < (om_fds f.1).length ∧ (om_fds f.1).getD f.2.1 9 = f.2.2.1 ∧ ((own, ix, f.1, f.2.1) ∈ om_fwl ∨ (own, ix, f.1, f.2.1) ∈ om_fnl) := by
  unfold om_fk at h
  simp only [Bool.and_eq_true] at h
  obtain ⟨h1, h2, h3, h4⟩ := h
  refine ⟨Nat.le_of_ble_eq_true h1, Nat.le_of_ble_eq_true h2, Nat.eq_of_beq_eq_true h3, ?_⟩
  rcases om_bif_sp h4 with h | h
  · exact Or.inl (om_nth_mem (of_decide_eq_true h))
  · exact Or.inr (om_nth_mem (of_decide_eq_true h))
section XS
variable {p : Program} {l : Launch} {e : Env} {R : Room} {s : State} {m : MethodId} {args : Array Value} {below : List Frame} {meth : Method} {c : Code} {Q : State → Prop}
variable {D : va_G} {cA : Nat → ClassId} {ad : Nat → Nat} {A : Nat → Prop} {cc : ByteArray} {own nL : Nat}
theorem om_getrow (hx : p.tables.exec = Jvm.exec) (hb : c.code = cc) (hown : s.vm.findClass (om_cn own) = some m.cls) (hts : ∀ w ∈ om_tb, w.before args s = true) (hK : om_K D cA s) (hN : om_N2 ad s) {ix pc a : Nat} {f : Nat × Nat × Nat × Nat} (hf : om_fk own ix f = true) (hob : om_obj a f.1 = true) (hdg : decode cc pc = .ok (.getfield ix, 3)) {M : om_M} {H : Heap} {locs : List Loc} {ls : Array Slot} {st : List Value} (hR : om_Rep D cA ad A s.heap M H locs)
    (kk : W p l e R s m args below meth c H locs 0 0 Q (F0 m (pc + 3) ls (om_fv ad a (M.1 a f.2.1) (M.2 a f.2.1) f.2.2.1 :: st))) : W p l e R s m args below meth c H locs 0 0 Q (F0 m pc ls (.ref (ad a) :: st)) := by
  obtain ⟨h1, h2, h3, h4⟩ := om_fk_sp hf
  have hk := om_objsp hob h1
  have he := om_ws_at (ad := ad) (cA := cA) (M := M) (om_kof_lt hk (by decide))
  rw [om_ce_5 hk] at he
  obtain ⟨c1, c2, c3, c4⟩ := om_cls f.1 h1
  have hv := om_fs_at (ad := ad) (a := a) (MI := M.1 a) (MR := M.2 a) h2
  rw [h3] at hv
  have hsm : ∀ x, s.fieldFound? (om_Tf f.1 f.2.1).1 (om_Tf f.1 f.2.1).2.1 (om_Tf f.1 f.2.1).2.2.1 = some x → s.fieldFound? (om_cn f.1) (om_Tf f.1 f.2.1).2.1 (om_Tf f.1 f.2.1).2.2.1 = some x := fun x hx => by rw [← (om_fd_at h1 h2).1]; exact hx
  rcases h4 with h4 | h4
  · exact va_get hx hb hts (fun w hw => om_tb_cw (c2 w hw)) hown hK.va hR.1 a he c1 f.2.1 h2 (hts _ (om_tb_fw h4)) hsm hv hdg kk
  · have hm : om_fn (own, ix, f.1, f.2.1) ∈ om_nw := List.mem_append_left _ (List.mem_map_of_mem h4)
    exact va_getN hx hb hts (fun w hw => om_tb_cw (c2 w hw)) hown hK.va hR.1 a he c1 f.2.1 h2 (va_Nw.use (om_nw_on hm) (hN.1 _ hm)) hsm hv hdg kk
theorem om_putrow (hx : p.tables.exec = Jvm.exec) (hb : c.code = cc) (hown : s.vm.findClass (om_cn own) = some m.cls) (hts : ∀ w ∈ om_tb, w.before args s = true) (hK : om_K D cA s) (hN : om_N2 ad s) {ix pc a : Nat} {f : Nat × Nat × Nat × Nat} (hf : om_fk own ix f = true) (hob : om_obj a f.1 = true) (hdg : decode cc pc = .ok (.putfield ix, 3)) {M M' : om_M} {v : om_V} (hd : f.2.2.1 = 0 ∧ (∃ x, v = om_i x ∧ M' = om_up M a f.2.1 x) ∨ f.2.2.1 = 1 ∧ ∃ q, v = om_r q ∧ M' = om_upR M a f.2.1 q) {H : Heap} {locs : List Loc} {ls : Array Slot} {st : List Value} (hR : om_Rep D cA ad A s.heap M H locs)
    (kk : ∀ (H1 : Heap) (locs1 : List Loc), om_Rep D cA ad A s.heap M' H1 locs1 → W p l e R s m args below meth c H1 locs1 0 0 Q (F0 m (pc + 3) ls st)) : W p l e R s m args below meth c H locs 0 0 Q (F0 m pc ls (om_val ad v :: .ref (ad a) :: st)) := by
  obtain ⟨h1, h2, h3, h4⟩ := om_fk_sp hf
  have hk := om_objsp hob h1
  have hlt := om_kof_lt hk (by decide)
  have he := om_ws_at (ad := ad) (cA := cA) (M := M) hlt
  rw [om_ce_5 hk] at he
  obtain ⟨c1, c2, ⟨ty0, c3⟩, c4⟩ := om_cls f.1 h1
  have hsm : ∀ x, s.fieldFound? (om_Tf f.1 f.2.1).1 (om_Tf f.1 f.2.1).2.1 (om_Tf f.1 f.2.1).2.2.1 = some x → s.fieldFound? (om_cn f.1) (om_Tf f.1 f.2.1).2.1 (om_Tf f.1 f.2.1).2.2.1 = some x := fun x hx => by rw [← (om_fd_at h1 h2).1]; exact hx
  have hset : (om_ws ad cA M).set a (ad a, .inr (f.1, (om_fs ad a (M.1 a) (M.2 a) (om_fds f.1)).set f.2.1 (om_val ad v))) = om_ws ad cA M' := by
    refine om_ws_set hlt ?_ ?_ ?_
    · rw [om_ce_5 hk]
      refine congrArg Sum.inr (congrArg (Prod.mk f.1) ?_)
      refine om_fs_set h2 ?_ ?_ ?_
      · rw [h3]
        rcases hd with ⟨d0, x, rfl, rfl⟩ | ⟨d0, q, rfl, rfl⟩
        · rw [d0]; simp [om_up, om_fv, om_val]
        · rw [d0]; simp [om_upR, om_fv, om_val, va_rf]
      · intro j hj
        rcases hd with ⟨d0, x, rfl, rfl⟩ | ⟨d0, q, rfl, rfl⟩
        · simp [om_up, hj]
        · rfl
      · intro j hj
        rcases hd with ⟨d0, x, rfl, rfl⟩ | ⟨d0, q, rfl, rfl⟩
        · rfl
        · simp [om_upR, hj]
    · intro b hb2
      rcases hd with ⟨d0, x, rfl, rfl⟩ | ⟨d0, q, rfl, rfl⟩
      · exact om_up_ne hb2
      · rfl
    · intro b hb2
      rcases hd with ⟨d0, x, rfl, rfl⟩ | ⟨d0, q, rfl, rfl⟩
      · rfl
      · funext j; simp [om_upR, hb2]
  obtain ⟨ty, hfin, hpd, hn, hfit⟩ : ∃ ty : FieldType, (om_Tf f.1 f.2.1).2.2.2 = false ∧ parseFieldDescriptor (om_Tf f.1 f.2.1).2.2.1 = some ty ∧ narrow ty (om_val ad v) = om_val ad v ∧ fits ty (om_val ad v) = true := by
    rcases hd with ⟨d0, x, rfl, rfl⟩ | ⟨d0, q, rfl, rfl⟩
    · obtain ⟨g1, g2⟩ := (om_fd_at h1 h2).2.1 (h3.trans d0)
      exact ⟨_, g2, g1, rfl, rfl⟩
    · obtain ⟨⟨C, g1⟩, g2⟩ := (om_fd_at h1 h2).2.2 (h3.trans d0)
      exact ⟨_, g2, g1, rfl, rfl⟩
  have hlen : f.2.1 < (om_fs ad a (M.1 a) (M.2 a) (om_fds f.1)).length := by rw [om_fs_len]; exact h2
  have kk2 : ∀ (H1 : Heap) (locs1 : List Loc), va_P D vwCl ((om_ws ad cA M).set a (ad a, .inr (f.1, (om_fs ad a (M.1 a) (M.2 a) (om_fds f.1)).set f.2.1 (om_val ad v)))) H1 → va_D A ((om_ws ad cA M).set a (ad a, .inr (f.1, (om_fs ad a (M.1 a) (M.2 a) (om_fds f.1)).set f.2.1 (om_val ad v)))) → va_S A s.heap H1 locs1 → W p l e R s m args below meth c H1 locs1 0 0 Q (F0 m (pc + 3) ls st) := by
    intro H1 locs1 hP hD hS
    rw [hset] at hP hD
    exact kk H1 locs1 ⟨hP, hD, hS⟩
  rcases h4 with h4 | h4
  · exact va_put hx hb hts (fun w hw => om_tb_cw (c2 w hw)) ty0 c3 c4 hown hK.va hR.1 hR.2.1 hR.2.2 a he c1 f.2.1 h2 (hts _ (om_tb_fw h4)) hsm hfin hpd hn hfit hlen hdg kk2
  · have hm : om_fn (own, ix, f.1, f.2.1) ∈ om_nw := List.mem_append_left _ (List.mem_map_of_mem h4)
    exact va_putN hx hb hts (fun w hw => om_tb_cw (c2 w hw)) ty0 c3 c4 hown hK.va hR.1 hR.2.1 hR.2.2 a he c1 f.2.1 h2 (va_Nw.use (om_nw_on hm) (hN.1 _ hm)) hsm hfin hpd hn hfit hlen hdg kk2
set_option maxHeartbeats 4000000 in
theorem om_xs (hx : p.tables.exec = Jvm.exec) (hb : c.code = cc) (hml : c.maxLocals = nL) (hown : s.vm.findClass (om_cn own) = some m.cls) (hts : ∀ w ∈ om_tb, w.before args s = true) (hK : om_K D cA s) (hN : om_N2 ad s) (hS0 : om_S ad A s s.heap) (hA : ∀ q, s.heap.size ≤ q → A q) {d : Nat} (hRf : d + 4 ≤ R.frames) (hRl : 40 * d + 200 ≤ R.locals) {C : om_C} (hC : om_CS l D cA ad d C) {G : om_GT} {r : Option om_V} {Mf : om_M} {rt nx : Nat} {rv : Bool}
    (hG : ∀ l2 L st M, G l2 L st M r Mf → ∀ (H : Heap) (locs : List Loc) (ls : Array Slot), om_Rep D cA ad A s.heap M H locs → om_Has ad ls nL L → W p l e R s m args below meth c H locs 0 0 Q (F0 m l2 ls (st.map (om_val ad))))
    (hri : ∀ (pc : Nat) (H : Heap) (locs : List Loc) (ls : Array Slot) (x : Int32), decode cc pc = .ok (.ireturn, 1) → rv = true → om_nr rt x = true → r = some (om_i x) → om_Rep D cA ad A s.heap Mf H locs → W p l e R s m args below meth c H locs 0 0 Q (F0 m pc ls [.int x]))
    (hrv : ∀ (pc : Nat) (H : Heap) (locs : List Loc) (ls : Array Slot), decode cc pc = .ok (.return_, 1) → rv = false → r = none → om_Rep D cA ad A s.heap Mf H locs → W p l e R s m args below meth c H locs 0 0 Q (F0 m pc ls [])) :
    ∀ (es : List om_E) (pc : Nat), om_cks own nL rv nx cc pc es = true → ∀ L st M, om_Kr C G r Mf (om_ex rt nx es L st M) → ∀ (H : Heap) (locs : List Loc) (ls : Array Slot), om_Rep D cA ad A s.heap M H locs → om_Has ad ls nL L → W p l e R s m args below meth c H locs 0 0 Q (F0 m pc ls (st.map (om_val ad)))
  | [], pc, hck, L, st, M, hk, H, locs, ls, hR, hL => by
    have hck : Nat.beq pc nx = true := hck
    have e := Nat.eq_of_beq_eq_true hck
    subst e
    exact hG _ _ _ _ (om_kgo hk) H locs ls hR hL
  | (pc', i, n, cv, t, f, sw) :: es, pc, hck, L, st, M, hk, H, locs, ls, hR, hL => by
    have hck : (Nat.beq pc' pc && (decide (decode cc pc' = .ok (i, n)) && (om_ek own nL rv (pc', i, n, cv, t, f, sw) && om_cks own nL rv nx cc (pc + n) es))) = true := hck
    simp only [Bool.and_eq_true, decide_eq_true_eq] at hck
    obtain ⟨h1, hd, he, hr⟩ := hck
    have h1 := Nat.eq_of_beq_eq_true h1
    subst h1
    have ih := om_xs hx hb hml hown hts hK hN hS0 hA hRf hRl hC hG hri hrv es (pc' + n) hr
    clear hr
    cases i
    case iconst k =>
      have he : (decide _ && Nat.beq n _) = true := he
      simp only [Bool.and_eq_true, decide_eq_true_eq] at he
      obtain ⟨hc, hn⟩ := he
      have hn := Nat.eq_of_beq_eq_true hn
      subst hn
      subst hc
      exact lv_iconst hx hb hd rfl (ih _ _ _ hk _ _ _ hR hL)
    case bipush k =>
      have he : (decide _ && Nat.beq n _) = true := he
      simp only [Bool.and_eq_true, decide_eq_true_eq] at he
      obtain ⟨hc, hn⟩ := he
      have hn := Nat.eq_of_beq_eq_true hn
      subst hn
      subst hc
      exact lv_bipush hx hb hd rfl (ih _ _ _ hk _ _ _ hR hL)
    case sipush k =>
      have he : (decide _ && Nat.beq n _) = true := he
      simp only [Bool.and_eq_true, decide_eq_true_eq] at he
      obtain ⟨hc, hn⟩ := he
      have hn := Nat.eq_of_beq_eq_true hn
      subst hn
      subst hc
      exact lv_sipush hx hb hd rfl (ih _ _ _ hk _ _ _ hR hL)
    case lconst k =>
      have he : (decide _ && Nat.beq n _) = true := he
      simp only [Bool.and_eq_true, decide_eq_true_eq] at he
      obtain ⟨hc, hn⟩ := he
      have hn := Nat.eq_of_beq_eq_true hn
      subst hn
      subst hc
      exact lv_lconst hx hb hd rfl (ih _ _ _ hk _ _ _ hR hL)
    case ldc ix =>
      have he : (_ && Nat.beq n 2) = true := he
      simp only [Bool.and_eq_true] at he
      obtain ⟨hc, hn⟩ := he
      have hn := Nat.eq_of_beq_eq_true hn
      subst hn
      match cv, hc, hk with
      | .inl v, hc, hk => exact lv_ldc hx hb hown (hts _ (om_tb_ci (om_nth_mem (of_decide_eq_true hc)))) hd (ih _ _ _ hk _ _ _ hR hL)
      | .inr (.inl v), hc, hk => exact absurd hc Bool.false_ne_true
      | .inr (.inr a), hc, hk =>
        simp only [Bool.and_eq_true, decide_eq_true_eq] at hc
        obtain ⟨ha, hc⟩ := hc
        cases hq : om_sr[f.2.2.2]? with
        | none => rw [hq] at hc; exact absurd hc Bool.false_ne_true
        | some q =>
          rw [hq] at hc
          simp only [Bool.and_eq_true, decide_eq_true_eq] at hc
          obtain ⟨c1, c2⟩ := hc
          have c2 := Nat.eq_of_beq_eq_true c2
          subst ha
          have hZ := hN.2 _ _ hq
          rw [c1, c2] at hZ
          exact va_ldcS hx hb hown hZ hd (ih _ _ _ hk _ _ _ hR hL)
    case ldc_w ix =>
      have he : (_ && Nat.beq n 3) = true := he
      simp only [Bool.and_eq_true] at he
      obtain ⟨hc, hn⟩ := he
      have hn := Nat.eq_of_beq_eq_true hn
      subst hn
      match cv, hc, hk with
      | .inl v, hc, hk => exact lv_ldcw hx hb hown (hts _ (om_tb_ci (om_nth_mem (of_decide_eq_true hc)))) hd (ih _ _ _ hk _ _ _ hR hL)
      | .inr v, hc, hk => exact absurd hc Bool.false_ne_true
    case ldc2_w ix =>
      have he : (_ && Nat.beq n 3) = true := he
      simp only [Bool.and_eq_true] at he
      obtain ⟨hc, hn⟩ := he
      have hn := Nat.eq_of_beq_eq_true hn
      subst hn
      match cv, hc, hk with
      | .inr (.inl v), hc, hk => exact lv_ldc2 hx hb hown (hts _ (om_tb_cj (om_nth_mem (of_decide_eq_true hc)))) hd (ih _ _ _ hk _ _ _ hR hL)
      | .inl v, hc, hk => exact absurd hc Bool.false_ne_true
      | .inr (.inr v), hc, hk => exact absurd hc Bool.false_ne_true
    case getstatic ix =>
      have he : (Nat.beq own 8 && ((Nat.beq ix 38 && decide (cv = om_i 1)) && Nat.beq n 3)) = true := he
      simp only [Bool.and_eq_true, decide_eq_true_eq] at he
      obtain ⟨ho, ⟨hi, hc⟩, hn⟩ := he
      have ho := Nat.eq_of_beq_eq_true ho
      have hn := Nat.eq_of_beq_eq_true hn
      have hi := Nat.eq_of_beq_eq_true hi
      subst hn
      subst ho
      subst hi
      subst hc
      exact va_gets hx hb hS0.2.1 hR.2.2 hown (hts _ (om_tb_xw (List.mem_of_getElem? (i := 2) rfl))) (fun x hx => hx) hd (ih _ _ _ hk _ _ _ hR hL)
    case iload_n k =>
      have hn : n = 1 := Nat.eq_of_beq_eq_true he
      subst hn
      obtain ⟨x, hl, hk⟩ := om_li_sp hk
      exact lv_iload_n hx hb hd rfl (hL.2.2 _ _ hl) (ih _ _ _ hk _ _ _ hR hL)
    case iload k =>
      have hn : n = 2 := Nat.eq_of_beq_eq_true he
      subst hn
      obtain ⟨x, hl, hk⟩ := om_li_sp hk
      exact lv_iload hx hb hd (hL.2.2 _ _ hl) (ih _ _ _ hk _ _ _ hR hL)
    case lload_n k =>
      have hn : n = 1 := Nat.eq_of_beq_eq_true he
      subst hn
      obtain ⟨x, hl, hk⟩ := om_ll_sp hk
      exact lv_lload_n hx hb hd rfl (hL.2.2 _ _ hl) (ih _ _ _ hk _ _ _ hR hL)
    case lload k =>
      have hn : n = 2 := Nat.eq_of_beq_eq_true he
      subst hn
      obtain ⟨x, hl, hk⟩ := om_ll_sp hk
      exact lv_lload hx hb hd (hL.2.2 _ _ hl) (ih _ _ _ hk _ _ _ hR hL)
    case aload_n k =>
      have hn : n = 1 := Nat.eq_of_beq_eq_true he
      subst hn
      obtain ⟨x, hl, hk⟩ := om_lr_sp hk
      exact lv_aload_n hx hb hd rfl (hL.2.2 _ _ hl) (ih _ _ _ hk _ _ _ hR hL)
    case aload k =>
      have hn : n = 2 := Nat.eq_of_beq_eq_true he
      subst hn
      obtain ⟨x, hl, hk⟩ := om_lr_sp hk
      exact lv_aload hx hb hd (hL.2.2 _ _ hl) (ih _ _ _ hk _ _ _ hR hL)
    case istore_n k =>
      have he : (Nat.beq n 1 && Nat.blt _ nL) = true := he
      simp only [Bool.and_eq_true] at he
      obtain ⟨hn, hlt⟩ := he
      have hn := Nat.eq_of_beq_eq_true hn
      subst hn
      obtain ⟨x, st2, rfl, hk⟩ := om_p1_sp hk
      exact lv_istore_n hx hb hd rfl hL.lv (Nat.le_of_ble_eq_true hlt) rfl (fun ls2 h2 => ih _ _ _ hk _ _ _ hR (om_Has.s1 (v := .inl x) h2))
    case istore k =>
      have he : (Nat.beq n 2 && Nat.blt _ nL) = true := he
      simp only [Bool.and_eq_true] at he
      obtain ⟨hn, hlt⟩ := he
      have hn := Nat.eq_of_beq_eq_true hn
      subst hn
      obtain ⟨x, st2, rfl, hk⟩ := om_p1_sp hk
      exact lv_istore hx hb hd hL.lv (Nat.le_of_ble_eq_true hlt) rfl (fun ls2 h2 => ih _ _ _ hk _ _ _ hR (om_Has.s1 (v := .inl x) h2))
    case lstore_n k =>
      have he : (Nat.beq n 1 && Nat.blt _ nL) = true := he
      simp only [Bool.and_eq_true] at he
      obtain ⟨hn, hlt⟩ := he
      have hn := Nat.eq_of_beq_eq_true hn
      subst hn
      obtain ⟨x, st2, rfl, hk⟩ := om_q1_sp hk
      exact lv_lstore_n hx hb hd rfl hL.lv (Nat.le_of_ble_eq_true hlt) rfl (fun ls2 h2 => ih _ _ _ hk _ _ _ hR (om_Has.s2 (v := .inr (.inl x)) h2))
    case lstore k =>
      have he : (Nat.beq n 2 && Nat.blt _ nL) = true := he
      simp only [Bool.and_eq_true] at he
      obtain ⟨hn, hlt⟩ := he
      have hn := Nat.eq_of_beq_eq_true hn
      subst hn
      obtain ⟨x, st2, rfl, hk⟩ := om_q1_sp hk
      exact lv_lstore hx hb hd hL.lv (Nat.le_of_ble_eq_true hlt) rfl (fun ls2 h2 => ih _ _ _ hk _ _ _ hR (om_Has.s2 (v := .inr (.inl x)) h2))
    case astore_n k =>
      have he : (Nat.beq n 1 && Nat.blt _ nL) = true := he
      simp only [Bool.and_eq_true] at he
      obtain ⟨hn, hlt⟩ := he
      have hn := Nat.eq_of_beq_eq_true hn
      subst hn
      obtain ⟨x, st2, rfl, hk⟩ := om_a1_sp hk
      exact lv_astore_n hx hb hd rfl hL.lv (Nat.le_of_ble_eq_true hlt) rfl (fun ls2 h2 => ih _ _ _ hk _ _ _ hR (om_Has.s1 (v := .inr (.inr x)) h2))
    case iinc k dd =>
      have he : (decide (cv = .inl (Int32.ofInt dd)) && (Nat.beq n 3 && Nat.blt k nL)) = true := he
      simp only [Bool.and_eq_true, decide_eq_true_eq] at he
      obtain ⟨hc, hn, hlt⟩ := he
      have hn := Nat.eq_of_beq_eq_true hn
      subst hn
      subst hc
      obtain ⟨x, hl, hk⟩ := om_li_sp hk
      obtain ⟨j, hj⟩ := List.mem_iff_getElem?.mp (om_prs_in (ad := ad) hl)
      exact lv_iinc hx hb hd hL.lv hj rfl (Nat.le_of_ble_eq_true hlt) rfl (fun ls2 h2 => ih _ _ _ hk _ _ _ hR (om_Has.s1 (v := .inl _) h2))
    case iadd =>
      have hn : n = 1 := Nat.eq_of_beq_eq_true he
      subst hn
      obtain ⟨x, y, st2, rfl, hk⟩ := om_p2_sp hk
      exact lv_iadd hx hb hd (ih _ _ _ hk _ _ _ hR hL)
    case isub =>
      have hn : n = 1 := Nat.eq_of_beq_eq_true he
      subst hn
      obtain ⟨x, y, st2, rfl, hk⟩ := om_p2_sp hk
      exact lv_isub hx hb hd (ih _ _ _ hk _ _ _ hR hL)
    case imul =>
      have hn : n = 1 := Nat.eq_of_beq_eq_true he
      subst hn
      obtain ⟨x, y, st2, rfl, hk⟩ := om_p2_sp hk
      exact lv_imul hx hb hd (ih _ _ _ hk _ _ _ hR hL)
    case iand =>
      have hn : n = 1 := Nat.eq_of_beq_eq_true he
      subst hn
      obtain ⟨x, y, st2, rfl, hk⟩ := om_p2_sp hk
      exact lv_iand hx hb hd (ih _ _ _ hk _ _ _ hR hL)
    case ior =>
      have hn : n = 1 := Nat.eq_of_beq_eq_true he
      subst hn
      obtain ⟨x, y, st2, rfl, hk⟩ := om_p2_sp hk
      exact lv_ior hx hb hd (ih _ _ _ hk _ _ _ hR hL)
    case ixor =>
      have hn : n = 1 := Nat.eq_of_beq_eq_true he
      subst hn
      obtain ⟨x, y, st2, rfl, hk⟩ := om_p2_sp hk
      exact lv_ixor hx hb hd (ih _ _ _ hk _ _ _ hR hL)
    case ishl =>
      have hn : n = 1 := Nat.eq_of_beq_eq_true he
      subst hn
      obtain ⟨x, y, st2, rfl, hk⟩ := om_p2_sp hk
      exact lv_ishl hx hb hd (ih _ _ _ hk _ _ _ hR hL)
    case ishr =>
      have hn : n = 1 := Nat.eq_of_beq_eq_true he
      subst hn
      obtain ⟨x, y, st2, rfl, hk⟩ := om_p2_sp hk
      exact lv_ishr hx hb hd (ih _ _ _ hk _ _ _ hR hL)
    case iushr =>
      have hn : n = 1 := Nat.eq_of_beq_eq_true he
      subst hn
      obtain ⟨x, y, st2, rfl, hk⟩ := om_p2_sp hk
      exact lv_iushr hx hb hd rfl (ih _ _ _ hk _ _ _ hR hL)
    case idiv =>
      have hn : n = 1 := Nat.eq_of_beq_eq_true he
      subst hn
      obtain ⟨x, y, st2, rfl, hk⟩ := om_p2_sp hk
      obtain ⟨hy, hk⟩ := om_cd_sp hk
      exact lv_idiv hx hb hd (of_decide_eq_false hy) (ih _ _ _ hk _ _ _ hR hL)
    case irem =>
      have hn : n = 1 := Nat.eq_of_beq_eq_true he
      subst hn
      obtain ⟨x, y, st2, rfl, hk⟩ := om_p2_sp hk
      obtain ⟨hy, hk⟩ := om_cd_sp hk
      exact lv_irem hx hb hd (of_decide_eq_false hy) (ih _ _ _ hk _ _ _ hR hL)
    case ladd =>
      have hn : n = 1 := Nat.eq_of_beq_eq_true he
      subst hn
      obtain ⟨x, y, st2, rfl, hk⟩ := om_q2_sp hk
      exact lv_ladd hx hb hd (ih _ _ _ hk _ _ _ hR hL)
    case lsub =>
      have hn : n = 1 := Nat.eq_of_beq_eq_true he
      subst hn
      obtain ⟨x, y, st2, rfl, hk⟩ := om_q2_sp hk
      exact lv_lsub hx hb hd (ih _ _ _ hk _ _ _ hR hL)
    case lmul =>
      have hn : n = 1 := Nat.eq_of_beq_eq_true he
      subst hn
      obtain ⟨x, y, st2, rfl, hk⟩ := om_q2_sp hk
      exact lv_lmul hx hb hd (ih _ _ _ hk _ _ _ hR hL)
    case land =>
      have hn : n = 1 := Nat.eq_of_beq_eq_true he
      subst hn
      obtain ⟨x, y, st2, rfl, hk⟩ := om_q2_sp hk
      exact lv_land hx hb hd (ih _ _ _ hk _ _ _ hR hL)
    case lor =>
      have hn : n = 1 := Nat.eq_of_beq_eq_true he
      subst hn
      obtain ⟨x, y, st2, rfl, hk⟩ := om_q2_sp hk
      exact lv_lor hx hb hd (ih _ _ _ hk _ _ _ hR hL)
    case lxor =>
      have hn : n = 1 := Nat.eq_of_beq_eq_true he
      subst hn
      obtain ⟨x, y, st2, rfl, hk⟩ := om_q2_sp hk
      exact lv_lxor hx hb hd (ih _ _ _ hk _ _ _ hR hL)
    case ldiv =>
      have hn : n = 1 := Nat.eq_of_beq_eq_true he
      subst hn
      obtain ⟨x, y, st2, rfl, hk⟩ := om_q2_sp hk
      obtain ⟨hy, hk⟩ := om_cd_sp hk
      exact lv_ldiv hx hb hd (of_decide_eq_false hy) (ih _ _ _ hk _ _ _ hR hL)
    case lcmp =>
      have hn : n = 1 := Nat.eq_of_beq_eq_true he
      subst hn
      obtain ⟨x, y, st2, rfl, hk⟩ := om_q2_sp hk
      exact W.lcmp hx hb hd (ih _ _ _ hk _ _ _ hR hL)
    case lshl =>
      have hn : n = 1 := Nat.eq_of_beq_eq_true he
      subst hn
      obtain ⟨x, y, st2, rfl, hk⟩ := om_qi_sp hk
      exact lv_lshl hx hb hd rfl (ih _ _ _ hk _ _ _ hR hL)
    case lshr =>
      have hn : n = 1 := Nat.eq_of_beq_eq_true he
      subst hn
      obtain ⟨x, y, st2, rfl, hk⟩ := om_qi_sp hk
      exact lv_lshr hx hb hd rfl (ih _ _ _ hk _ _ _ hR hL)
    case ineg =>
      have hn : n = 1 := Nat.eq_of_beq_eq_true he
      subst hn
      obtain ⟨x, st2, rfl, hk⟩ := om_p1_sp hk
      exact lv_ineg hx hb hd (ih _ _ _ hk _ _ _ hR hL)
    case lneg =>
      have hn : n = 1 := Nat.eq_of_beq_eq_true he
      subst hn
      obtain ⟨x, st2, rfl, hk⟩ := om_q1_sp hk
      exact lv_lneg hx hb hd (ih _ _ _ hk _ _ _ hR hL)
    case i2l =>
      have hn : n = 1 := Nat.eq_of_beq_eq_true he
      subst hn
      obtain ⟨x, st2, rfl, hk⟩ := om_p1_sp hk
      exact lv_i2l hx hb hd rfl (ih _ _ _ hk _ _ _ hR hL)
    case l2i =>
      have hn : n = 1 := Nat.eq_of_beq_eq_true he
      subst hn
      obtain ⟨x, st2, rfl, hk⟩ := om_q1_sp hk
      exact lv_l2i hx hb hd rfl (ih _ _ _ hk _ _ _ hR hL)
    case i2c =>
      have hn : n = 1 := Nat.eq_of_beq_eq_true he
      subst hn
      obtain ⟨x, st2, rfl, hk⟩ := om_p1_sp hk
      exact lv_i2c hx hb hd rfl (ih _ _ _ hk _ _ _ hR hL)
    case pop =>
      have hn : n = 1 := Nat.eq_of_beq_eq_true he
      subst hn
      obtain ⟨x, st2, rfl, hk⟩ := om_p1_sp hk
      exact lv_pop hx hb hd rfl (ih _ _ _ hk _ _ _ hR hL)
    case dup =>
      have hn : n = 1 := Nat.eq_of_beq_eq_true he
      subst hn
      match st, hk with
      | .inl x :: st2, hk => exact lv_dup hx hb hd rfl (ih _ _ _ hk _ _ _ hR hL)
      | .inr (.inr x) :: st2, hk => exact lv_dup hx hb hd rfl (ih _ _ _ hk _ _ _ hR hL)
      | .inr (.inl x) :: st2, hk => exact (om_kno hk).elim
      | [], hk => exact (om_kno hk).elim
    case dup_x1 =>
      have hn : n = 1 := Nat.eq_of_beq_eq_true he
      subst hn
      match st, hk with
      | .inl x :: .inr (.inr y) :: st2, hk => exact lv_dup_x1 hx hb hd rfl rfl (ih _ _ _ hk _ _ _ hR hL)
      | .inl x :: .inl y :: st2, hk => exact lv_dup_x1 hx hb hd rfl rfl (ih _ _ _ hk _ _ _ hR hL)
      | .inl x :: .inr (.inl y) :: st2, hk => exact (om_kno hk).elim
      | [.inl x], hk => exact (om_kno hk).elim
      | .inr x :: st2, hk => exact (om_kno hk).elim
      | [], hk => exact (om_kno hk).elim
    case dup2 =>
      have hn : n = 1 := Nat.eq_of_beq_eq_true he
      subst hn
      obtain ⟨a, i, st2, rfl, hk⟩ := om_ai_sp hk
      exact lv_dup2_11 hx hb hd rfl rfl (ih _ _ _ hk _ _ _ hR hL)
    case goto o9 =>
      have he : (Nat.beq n 3 && decide ((pc' : Int) + _ = t)) = true := he
      simp only [Bool.and_eq_true, decide_eq_true_eq] at he
      obtain ⟨hn, ht⟩ := he
      have hn := Nat.eq_of_beq_eq_true hn
      subst hn
      exact lv_goto hx hb hd ht (hG _ _ _ _ (om_kgo hk) _ _ _ hR hL)
    case ifCond cd o9 =>
      have he : (Nat.beq n 3 && decide ((pc' : Int) + _ = t)) = true := he
      simp only [Bool.and_eq_true, decide_eq_true_eq] at he
      obtain ⟨hn, ht⟩ := he
      have hn := Nat.eq_of_beq_eq_true hn
      subst hn
      cases cd with
      | eq =>
        obtain ⟨x, st2, rfl, hk⟩ := om_p1_sp hk
        obtain ⟨ha, hb2⟩ := om_if_sp hk
        exact lv_if_eq hx hb hd ht (fun q => hG _ _ _ _ (om_kgo (ha q)) _ _ _ hR hL) (fun q => hG _ _ _ _ (om_kgo (hb2 q)) _ _ _ hR hL)
      | ne =>
        obtain ⟨x, st2, rfl, hk⟩ := om_p1_sp hk
        obtain ⟨ha, hb2⟩ := om_if_sp hk
        exact lv_if_ne hx hb hd ht (fun q => hG _ _ _ _ (om_kgo (hb2 q)) _ _ _ hR hL) (fun q => hG _ _ _ _ (om_kgo (ha q)) _ _ _ hR hL)
      | lt =>
        obtain ⟨x, st2, rfl, hk⟩ := om_p1_sp hk
        obtain ⟨ha, hb2⟩ := om_if_sp hk
        exact lv_if_lt hx hb hd ht (fun q => hG _ _ _ _ (om_kgo (ha q)) _ _ _ hR hL) (fun q => hG _ _ _ _ (om_kgo (hb2 q)) _ _ _ hR hL)
      | ge =>
        obtain ⟨x, st2, rfl, hk⟩ := om_p1_sp hk
        obtain ⟨ha, hb2⟩ := om_if_sp hk
        exact lv_if_ge hx hb hd ht (fun q => hG _ _ _ _ (om_kgo (ha q)) _ _ _ hR hL) (fun q => hG _ _ _ _ (om_kgo (hb2 q)) _ _ _ hR hL)
      | gt =>
        obtain ⟨x, st2, rfl, hk⟩ := om_p1_sp hk
        obtain ⟨ha, hb2⟩ := om_if_sp hk
        exact lv_if_gt hx hb hd ht (fun q => hG _ _ _ _ (om_kgo (ha q)) _ _ _ hR hL) (fun q => hG _ _ _ _ (om_kgo (hb2 q)) _ _ _ hR hL)
      | le =>
        obtain ⟨x, st2, rfl, hk⟩ := om_p1_sp hk
        obtain ⟨ha, hb2⟩ := om_if_sp hk
        exact lv_if_le hx hb hd ht (fun q => hG _ _ _ _ (om_kgo (ha q)) _ _ _ hR hL) (fun q => hG _ _ _ _ (om_kgo (hb2 q)) _ _ _ hR hL)
    case if_icmp cd o9 =>
      have he : (Nat.beq n 3 && decide ((pc' : Int) + _ = t)) = true := he
      simp only [Bool.and_eq_true, decide_eq_true_eq] at he
      obtain ⟨hn, ht⟩ := he
      have hn := Nat.eq_of_beq_eq_true hn
      subst hn
      cases cd with
      | eq =>
        obtain ⟨x, y, st2, rfl, hk⟩ := om_p2_sp hk
        obtain ⟨ha, hb2⟩ := om_if_sp hk
        exact lv_icmp_eq hx hb hd ht (fun q => hG _ _ _ _ (om_kgo (ha q)) _ _ _ hR hL) (fun q => hG _ _ _ _ (om_kgo (hb2 q)) _ _ _ hR hL)
      | ne =>
        obtain ⟨x, y, st2, rfl, hk⟩ := om_p2_sp hk
        obtain ⟨ha, hb2⟩ := om_if_sp hk
        exact lv_icmp_ne hx hb hd ht (fun q => hG _ _ _ _ (om_kgo (hb2 q)) _ _ _ hR hL) (fun q => hG _ _ _ _ (om_kgo (ha q)) _ _ _ hR hL)
      | lt =>
        obtain ⟨x, y, st2, rfl, hk⟩ := om_p2_sp hk
        obtain ⟨ha, hb2⟩ := om_if_sp hk
        exact lv_icmp_lt hx hb hd ht (fun q => hG _ _ _ _ (om_kgo (ha q)) _ _ _ hR hL) (fun q => hG _ _ _ _ (om_kgo (hb2 q)) _ _ _ hR hL)
      | ge =>
        obtain ⟨x, y, st2, rfl, hk⟩ := om_p2_sp hk
        obtain ⟨ha, hb2⟩ := om_if_sp hk
        exact lv_icmp_ge hx hb hd ht (fun q => hG _ _ _ _ (om_kgo (ha q)) _ _ _ hR hL) (fun q => hG _ _ _ _ (om_kgo (hb2 q)) _ _ _ hR hL)
      | gt =>
        obtain ⟨x, y, st2, rfl, hk⟩ := om_p2_sp hk
        obtain ⟨ha, hb2⟩ := om_if_sp hk
        exact lv_icmp_gt hx hb hd ht (fun q => hG _ _ _ _ (om_kgo (ha q)) _ _ _ hR hL) (fun q => hG _ _ _ _ (om_kgo (hb2 q)) _ _ _ hR hL)
      | le =>
        obtain ⟨x, y, st2, rfl, hk⟩ := om_p2_sp hk
        obtain ⟨ha, hb2⟩ := om_if_sp hk
        exact lv_icmp_le hx hb hd ht (fun q => hG _ _ _ _ (om_kgo (ha q)) _ _ _ hR hL) (fun q => hG _ _ _ _ (om_kgo (hb2 q)) _ _ _ hR hL)
    case tableswitch df lo hi os =>
      have he : (decide ((pc' : Int) + df = t) && (om_swk pc' lo os.toList sw && decide (hi + 1 = lo + os.size))) = true := he
      simp only [Bool.and_eq_true, decide_eq_true_eq] at he
      obtain ⟨ht, hsw, hhi⟩ := he
      obtain ⟨x, st2, rfl, hk⟩ := om_p1_sp hk
      rcases om_sw_sp _ _ _ hsw hk with ⟨j, o, u, g1, g2, g3, g4⟩ | ⟨g1, g2⟩
      · have hj : j < os.size := by
          have := (List.getElem?_eq_some_iff.mp g1).1
          simpa using this
        refine lv_tableIn hx hb hd (off := o) (by omega) (by omega) ?_ g3 (hG _ _ _ _ g4 _ _ _ hR hL)
        have e : (x.toInt - lo).toNat = j := by omega
        rw [e]
        simpa using g1
      · refine lv_tableOut hx hb hd ?_ ht (hG _ _ _ _ g2 _ _ _ hR hL)
        simp only [Array.length_toList] at g1
        omega
    case getfield ix =>
      have he : (Nat.beq n 3 && (bif Nat.beq f.1 99 then (Nat.beq own 8 && ((Nat.beq f.2.2.1 2 && Nat.beq ix 9) || (Nat.beq f.2.2.1 3 && Nat.beq ix 15))) else om_fk own ix f)) = true := he
      simp only [Bool.and_eq_true] at he
      obtain ⟨hn, hf⟩ := he
      have hn := Nat.eq_of_beq_eq_true hn
      subst hn
      obtain ⟨a, st2, rfl, hk⟩ := om_a1_sp hk
      obtain ⟨hob, hk⟩ := om_cb_sp hk
      obtain ⟨v, hv, hk⟩ := om_getf_sp (ad := ad) hk
      have kk := ih _ _ _ hk _ _ _ hR hL
      cases h99 : Nat.beq f.1 99 with
      | false =>
        rw [h99] at hf
        refine om_getrow hx hb hown hts hK hN hf hob hd hR ?_
        rw [← hv]
        exact kk
      | true =>
        rw [h99] at hf
        have h99 := Nat.eq_of_beq_eq_true h99
        rw [h99] at hob
        have h2 : 1000 ≤ a ∧ a < 1000 + om_sn := by
          have h3 : (Nat.ble 1000 a && Nat.blt a (1000 + om_sn)) = true := hob
          simp only [Bool.and_eq_true] at h3
          exact ⟨Nat.le_of_ble_eq_true h3.1, Nat.le_of_ble_eq_true h3.2⟩
        obtain ⟨-, hco, hva, -⟩ := hS0.1.1 (a - 1000) (by omega)
        have e1 : 1000 + (a - 1000) = a := by omega
        have e2 : 2000 + (a - 1000) = a + 1000 := by omega
        simp only [e1] at hco
        simp only [e1, e2] at hva
        simp only [cond_true, Bool.and_eq_true, Bool.or_eq_true] at hf
        obtain ⟨ho, hf⟩ := hf
        have ho := Nat.eq_of_beq_eq_true ho
        subst ho
        rcases hf with ⟨d2, hi⟩ | ⟨d2, hi⟩
        · have d2 := Nat.eq_of_beq_eq_true d2
          have hi := Nat.eq_of_beq_eq_true hi
          subst hi
          rw [d2] at hv
          refine vk_getf hx hb hva hR.2.2 hown (hts _ (om_tb_xw (List.mem_of_getElem? (i := 0) rfl))) (fun x hx => hx) hd ?_
          have kk2 := kk
          rw [List.map_cons, hv] at kk2
          exact kk2
        · have d2 := Nat.eq_of_beq_eq_true d2
          have hi := Nat.eq_of_beq_eq_true hi
          subst hi
          rw [d2] at hv
          refine vk_getf hx hb hco hR.2.2 hown (hts _ (om_tb_xw (List.mem_of_getElem? (i := 1) rfl))) (fun x hx => hx) hd ?_
          have kk2 := kk
          rw [List.map_cons, hv] at kk2
          exact kk2
    case putfield ix =>
      have he : (Nat.beq n 3 && om_fk own ix f) = true := he
      simp only [Bool.and_eq_true] at he
      obtain ⟨hn, hf⟩ := he
      have hn := Nat.eq_of_beq_eq_true hn
      subst hn
      obtain ⟨f1, f2, f3, f4⟩ := f
      match f3, hk, hf with
      | 0, hk, hf =>
        obtain ⟨a, x, st2, rfl, hk⟩ := om_ai_sp hk
        obtain ⟨hob, hk⟩ := om_cb_sp hk
        exact om_putrow (v := om_i x) hx hb hown hts hK hN hf hob hd (Or.inl ⟨rfl, x, rfl, rfl⟩) hR (fun H1 locs1 hR1 => ih _ _ _ hk _ _ _ hR1 hL)
      | 1, hk, hf =>
        obtain ⟨a, q, st2, rfl, hk⟩ := om_ar_sp hk
        obtain ⟨hob, hk⟩ := om_cb_sp hk
        exact om_putrow (v := om_r q) hx hb hown hts hK hN hf hob hd (Or.inr ⟨rfl, q, rfl, rfl⟩) hR (fun H1 locs1 hR1 => ih _ _ _ hk _ _ _ hR1 hL)
      | k + 2, hk, hf => exact (om_kno hk).elim
    case arraylength =>
      have hn : n = 1 := Nat.eq_of_beq_eq_true he
      subst hn
      obtain ⟨a, st2, rfl, hk⟩ := om_a1_sp hk
      obtain ⟨hB, hk⟩ := om_cb_sp hk
      have h2 : 2000 ≤ a ∧ a < 2000 + om_sn := by
        have h3 : (Nat.ble 2000 a && Nat.blt a (2000 + om_sn)) = true := hB
        simp only [Bool.and_eq_true] at h3
        exact ⟨Nat.le_of_ble_eq_true h3.1, Nat.le_of_ble_eq_true h3.2⟩
      obtain ⟨-, -, -, hT⟩ := hS0.1.1 (a - 2000) (by omega)
      have e1 : 2000 + (a - 2000) = a := by omega
      simp only [e1, om_bl_eq] at hT
      exact va_tlen hx hb hT hR.2.2 rfl hd (ih _ _ _ hk _ _ _ hR hL)
    case iaload =>
      have hn : n = 1 := Nat.eq_of_beq_eq_true he
      subst hn
      obtain ⟨a, i, st2, rfl, hk⟩ := om_ai_sp hk
      obtain ⟨hg, hk⟩ := om_cb_sp hk
      obtain ⟨h1, hin⟩ := om_isA_sp (i := 0) hg
      have hkf := om_kof_eq h1
      have he2 := om_ws_at (ad := ad) (cA := cA) (M := M) (om_kof_lt hkf (by decide))
      rw [om_ce_1 hkf] at he2
      exact va_iald hx hb (hK.va1 h1) hR.1 a 0 he2 rfl hin hd (ih _ _ _ hk _ _ _ hR hL)
    case baload =>
      have hn : n = 1 := Nat.eq_of_beq_eq_true he
      subst hn
      obtain ⟨a, i, st2, rfl, hk2⟩ := om_ai_sp hk
      cases hg : (om_isA a 2 && om_in i (om_ln a)) with
      | true =>
        rw [hg] at hk2
        obtain ⟨h1, hin⟩ := om_isA_sp (i := 0) hg
        have hkf := om_kof_eq h1
        have he2 := om_ws_at (ad := ad) (cA := cA) (M := M) (om_kof_lt hkf (by decide))
        rw [om_ce_2 hkf] at he2
        exact va_zald hx hb (hK.va2 h1) hR.1 a 0 he2 rfl hin hd (ih _ _ _ hk2 _ _ _ hR hL)
      | false =>
        rw [hg] at hk2
        obtain ⟨hg2, hk2⟩ := om_cb_sp hk2
        simp only [Bool.and_eq_true] at hg2
        obtain ⟨hB, hin⟩ := hg2
        have h2 : 2000 ≤ a ∧ a < 2000 + om_sn := by
          have h3 : (Nat.ble 2000 a && Nat.blt a (2000 + om_sn)) = true := hB
          simp only [Bool.and_eq_true] at h3
          exact ⟨Nat.le_of_ble_eq_true h3.1, Nat.le_of_ble_eq_true h3.2⟩
        obtain ⟨-, -, -, hT⟩ := hS0.1.1 (a - 2000) (by omega)
        have e1 : 2000 + (a - 2000) = a := by omega
        simp only [e1, om_bl_eq] at hT
        have hin2 : vp_in i (om_bl a) := by
          simp only [om_in, Bool.and_eq_true, decide_eq_true_eq] at hin
          rintro (q | q)
          · exact absurd hin.1 (Int32.not_le.mpr q)
          · exact absurd hin.2 (Nat.not_lt.mpr q)
        exact va_tb hx hb hT hR.2.2 hin2 rfl hd (ih _ _ _ hk2 _ _ _ hR hL)
    case aaload =>
      have hn : n = 1 := Nat.eq_of_beq_eq_true he
      subst hn
      obtain ⟨a, i, st2, rfl, hk⟩ := om_ai_sp hk
      obtain ⟨hg, hk⟩ := om_cb_sp hk
      obtain ⟨h1, hin⟩ := om_isA_sp (i := 0) hg
      have hkf := om_kof_eq h1
      have he2 := om_ws_at (ad := ad) (cA := cA) (M := M) (om_kof_lt hkf (by decide))
      rw [om_ce_3 hkf] at he2
      have hlt : i.toNatClampNeg < (om_kof a).2.1 := Nat.not_le.mp fun q => hin (Or.inr q)
      have kk := ih _ _ _ hk _ _ _ hR hL
      exact W.aald (v := va_rf (some (ad (a + ((om_kof a).2.2 + i.toNatClampNeg))))) (ty := .array .int) hx hb (hR.1 a _ he2) (((hK.2 a).2.2 h1).1 _ (fun j => va_rf (if j < (om_kof a).2.1 then some (ad (a + ((om_kof a).2.2 + j))) else none))) rfl (fun q => by cases q) (by show ¬ (i < 0 ∨ (arrV _ _ _).slots.size ≤ _); rw [arrV_size]; exact hin) (by show (arrV _ _ _).slots[_]? = _; rw [arrV_read _ _ hlt]; exact congrArg (fun q => some (va_rf q)) (if_pos hlt)) rfl rfl hd kk
    case iastore =>
      have hn : n = 1 := Nat.eq_of_beq_eq_true he
      subst hn
      obtain ⟨a, i, x, st2, rfl, hk⟩ := om_aii_sp hk
      obtain ⟨hg, hk⟩ := om_cb_sp hk
      obtain ⟨h1, hin⟩ := om_isA_sp (i := 0) hg
      have hkf := om_kof_eq h1
      have hlt := om_kof_lt hkf (by decide)
      have he2 := om_ws_at (ad := ad) (cA := cA) (M := M) hlt
      rw [om_ce_1 hkf] at he2
      refine va_iast hx hb (hK.va1 h1) hR.1 hR.2.1 hR.2.2 a 0 he2 rfl hin hd (fun H1 locs1 hP hD hS => ?_)
      have hset := om_ws_set (ad := ad) (cA := cA) (M := M) (M' := om_up M a i.toNatClampNeg x) hlt (x := .inl (cA a, (om_kof a).2.1, .inl (upd (M.1 a) i.toNatClampNeg x))) (by rw [om_ce_1 hkf, om_up_eq]) (fun b hb2 => om_up_ne hb2) (fun b hb2 => rfl)
      rw [hset] at hP hD
      exact ih _ _ _ hk _ _ _ ⟨hP, hD, hS⟩ hL
    case bastore =>
      have hn : n = 1 := Nat.eq_of_beq_eq_true he
      subst hn
      obtain ⟨a, i, x, st2, rfl, hk⟩ := om_aii_sp hk
      obtain ⟨hg, hk⟩ := om_cb_sp hk
      obtain ⟨hnr, hk⟩ := om_cb_sp hk
      obtain ⟨h1, hin⟩ := om_isA_sp (i := 0) hg
      have hkf := om_kof_eq h1
      have hlt := om_kof_lt hkf (by decide)
      have he2 := om_ws_at (ad := ad) (cA := cA) (M := M) hlt
      rw [om_ce_2 hkf] at he2
      have hnar : vp_nar .boolean x = x := by
        simp only [om_nr, Bool.or_eq_true, decide_eq_true_eq] at hnr
        rcases hnr with rfl | rfl <;> decide
      refine va_zast hx hb (hK.va2 h1) hR.1 hR.2.1 hR.2.2 a 0 he2 rfl hin hd (fun H1 locs1 hP hD hS => ?_)
      rw [hnar] at hP hD
      have hset := om_ws_set (ad := ad) (cA := cA) (M := M) (M' := om_up M a i.toNatClampNeg x) hlt (x := .inl (cA a, (om_kof a).2.1, .inl (upd (M.1 a) i.toNatClampNeg x))) (by rw [om_ce_2 hkf, om_up_eq]) (fun b hb2 => om_up_ne hb2) (fun b hb2 => rfl)
      rw [hset] at hP hD
      exact ih _ _ _ hk _ _ _ ⟨hP, hD, hS⟩ hL
    case invokevirtual ix =>
      have he : (Nat.beq n 3 && (om_mk own ix f.2.1 f.2.2.2 && (match om_nth om_sig f.2.1 with
        | some q => Nat.beq f.2.2.1 (q.2.2.2.2.2.2 + 1) && (!q.2.2.2.2.2.1 && decide (q.1.cls = om_cn (om_rcn f.1)) && (Nat.blt f.1 8 || Nat.beq f.1 99))
        | none => false))) = true := he
      simp only [Bool.and_eq_true] at he
      obtain ⟨hn, hm, hq⟩ := he
      have hn := Nat.eq_of_beq_eq_true hn
      subst hn
      have hk : om_Kr C G r Mf (om_cl f.2.1 f.2.2.1 (f.1 + 1) (pc' + 3) L st M) := hk
      cases hs : om_nth om_sig f.2.1 with
      | none => rw [hs] at hq; exact absurd hq Bool.false_ne_true
      | some q =>
        rw [hs] at hq
        simp only [Bool.and_eq_true, decide_eq_true_eq, Bool.not_eq_true', Bool.or_eq_true] at hq
        obtain ⟨h1, ⟨h2, h3⟩, h4⟩ := hq
        have h1 := Nat.eq_of_beq_eq_true h1
        unfold om_cl at hk
        cases htk : om_take f.2.2.1 st with
        | none => rw [htk] at hk; exact (om_kno hk).elim
        | some ar =>
          obtain ⟨as, rs⟩ := ar
          rw [htk] at hk
          obtain ⟨h8, hk⟩ := om_cb_sp hk
          obtain ⟨a, hrc, hk⟩ := om_oe_sp hk
          obtain ⟨hob, hk⟩ := om_cb_sp hk
          obtain ⟨v, M1, hc, hgo⟩ := om_kca hk
          obtain ⟨hst, hln⟩ := om_take_sp htk
          obtain ⟨t2, rfl⟩ := om_rc_sp hrc
          subst hst
          refine om_callV hx hb hml hown hts hK hN hS0 hA ⟨Nat.zero_le _, Nat.zero_le _⟩ hRf hRl hC hs h2 h3 (h4.elim (fun z => Or.inl (Nat.le_of_ble_eq_true z)) (fun z => Or.inr (Nat.eq_of_beq_eq_true z))) hm hd (by rw [hln, h1]) h8 hob hc hL.1 hR (fun H1 locs1 hR1 => ?_)
          have kk := hG _ _ _ _ hgo H1 locs1 ls hR1 hL
          cases v <;> exact kk
    case invokestatic ix =>
      obtain ⟨f1, f2, f3, f4⟩ := f
      match f1, hk, he with
      | 0, hk, he =>
        have he : (Nat.beq n 3 && (om_mk own ix f2 f4 && (match om_nth om_sig f2 with
          | some q => Nat.beq f3 q.2.2.2.2.2.2 && q.2.2.2.2.2.1
          | none => false))) = true := he
        simp only [Bool.and_eq_true] at he
        obtain ⟨hn, hm, hq⟩ := he
        have hn := Nat.eq_of_beq_eq_true hn
        subst hn
        have hk : om_Kr C G r Mf (om_cl f2 f3 0 (pc' + 3) L st M) := hk
        cases hs : om_nth om_sig f2 with
        | none => rw [hs] at hq; exact absurd hq Bool.false_ne_true
        | some q =>
          rw [hs] at hq
          simp only [Bool.and_eq_true] at hq
          obtain ⟨h1, h2⟩ := hq
          have h1 := Nat.eq_of_beq_eq_true h1
          unfold om_cl at hk
          cases htk : om_take f3 st with
          | none => rw [htk] at hk; exact (om_kno hk).elim
          | some ar =>
            obtain ⟨as, rs⟩ := ar
            rw [htk] at hk
            obtain ⟨h8, hk⟩ := om_cb_sp hk
            obtain ⟨v, M1, hc, hgo⟩ := om_kca hk
            obtain ⟨hst, hln⟩ := om_take_sp htk
            subst hst
            refine om_callS hx hb hml hown hts hK hN hS0 hA ⟨Nat.zero_le _, Nat.zero_le _⟩ hRf hRl hC hs h2 hm hd (by rw [hln, h1]) h8 hc hL.1 hR (fun H1 locs1 hR1 => ?_)
            have kk := hG _ _ _ _ hgo H1 locs1 ls hR1 hL
            cases v <;> exact kk
      | 1, hk, he =>
        have he : (Nat.beq n 3 && decide (om_nth om_iwl f4 = some (own, ix, 1))) = true := he
        simp only [Bool.and_eq_true, decide_eq_true_eq] at he
        obtain ⟨hn, hw⟩ := he
        have hn := Nat.eq_of_beq_eq_true hn
        subst hn
        obtain ⟨x, y, st2, rfl, hk⟩ := om_p2_sp hk
        obtain ⟨h8, hk⟩ := om_cb_sp hk
        have h8 : ((st2.map (om_val ad)).map fun v => v.category).sum + 13 ≤ R.locals := by
          have := om_st8 (ad := ad) h8
          omega
        exact va_mmin hx hb (hml.trans hL.1.symm) hown (hts _ (om_tb_iw (om_nth_mem hw))) (hts _ (om_tb_xw (List.mem_of_getElem? (i := 4) rfl))) (hts _ (om_tb_xw (List.mem_of_getElem? (i := 8) rfl))) (hts _ (om_tb_xw (List.mem_of_getElem? (i := 5) rfl))) (Nat.le_trans (by omega : 1 ≤ d + 4) hRf) h8 (Nat.zero_le _) (Nat.zero_le _) hd (ih _ _ _ hk _ _ _ hR hL)
      | 2, hk, he =>
        have he : (Nat.beq n 3 && decide (om_nth om_iwl f4 = some (own, ix, 2))) = true := he
        simp only [Bool.and_eq_true, decide_eq_true_eq] at he
        obtain ⟨hn, hw⟩ := he
        have hn := Nat.eq_of_beq_eq_true hn
        subst hn
        obtain ⟨x, y, st2, rfl, hk⟩ := om_p2_sp hk
        obtain ⟨h8, hk⟩ := om_cb_sp hk
        have h8 : ((st2.map (om_val ad)).map fun v => v.category).sum + 13 ≤ R.locals := by
          have := om_st8 (ad := ad) h8
          omega
        exact va_mmax hx hb (hml.trans hL.1.symm) hown (hts _ (om_tb_iw (om_nth_mem hw))) (hts _ (om_tb_xw (List.mem_of_getElem? (i := 6) rfl))) (hts _ (om_tb_xw (List.mem_of_getElem? (i := 8) rfl))) (hts _ (om_tb_xw (List.mem_of_getElem? (i := 7) rfl))) (Nat.le_trans (by omega : 1 ≤ d + 4) hRf) h8 (Nat.zero_le _) (Nat.zero_le _) hd (ih _ _ _ hk _ _ _ hR hL)
      | 3, hk, he =>
        have he : (Nat.beq n 3 && decide (om_nth om_iwl f4 = some (own, ix, 3))) = true := he
        simp only [Bool.and_eq_true, decide_eq_true_eq] at he
        obtain ⟨hn, hw⟩ := he
        have hn := Nat.eq_of_beq_eq_true hn
        subst hn
        obtain ⟨a, sp, b, dp, n9, st2, rfl, hk⟩ := om_cp_sp hk
        obtain ⟨h8, hk⟩ := om_cb_sp hk
        obtain ⟨hg, hk⟩ := om_cb_sp hk
        simp only [om_cg, Bool.and_eq_true, decide_eq_true_eq] at hg
        obtain ⟨g1, g2, g3, g4, g5, g6, g7⟩ := hg
        have g1 := Nat.eq_of_beq_eq_true g1
        have g2 := Nat.eq_of_beq_eq_true g2
        have hk1 := om_kof_eq g1
        have hk2 := om_kof_eq g2
        have hlt1 := om_kof_lt hk1 (by decide)
        have hlt2 := om_kof_lt hk2 (by decide)
        have e1 := om_ws_at (ad := ad) (cA := cA) (M := M) hlt1
        have e2 := om_ws_at (ad := ad) (cA := cA) (M := M) hlt2
        rw [om_ce_1 hk1] at e1
        rw [om_ce_1 hk2] at e2
        have h8 : ((st2.map (om_val ad)).map fun v => v.category).sum + (nativeFrameWords "java/lang/System" "arraycopy" 5 + 11) ≤ R.locals := by
          have := om_st8 (ad := ad) h8
          have : nativeFrameWords "java/lang/System" "arraycopy" 5 ≤ 21 := by decide +kernel
          omega
        refine va_copyi hx hb (hml.trans hL.1.symm) hown (hts _ (om_tb_iw (om_nth_mem hw))) (hts _ (om_tb_xw (List.mem_of_getElem? (i := 11) rfl))) (hts _ (om_tb_xw (List.mem_of_getElem? (i := 10) rfl))) (hts _ (om_tb_xw (List.mem_of_getElem? (i := 9) rfl))) (hK.va11 g1 g2) hR.1 hR.2.1 hR.2.2 a b 0 1 e1 e2 rfl rfl rfl (Int32.not_lt.mpr g3) (Int32.not_lt.mpr g4) (Int32.not_lt.mpr g5) (Nat.le_of_ble_eq_true g6) (Nat.le_of_ble_eq_true g7) (fun _ _ => rfl) (Nat.le_trans (by omega : 1 ≤ d + 4) hRf) h8 hd (fun H1 locs1 hP hD hS => ?_)
        have hset := om_ws_set (ad := ad) (cA := cA) (M := M) (M' := om_cpy M a sp.toNatClampNeg b dp.toNatClampNeg n9.toNatClampNeg) hlt2 (x := .inl (cA b, (om_kof b).2.1, .inl (va_cpy (M.1 a) (M.1 b) sp.toNatClampNeg dp.toNatClampNeg n9.toNatClampNeg))) (by rw [om_ce_1 hk2]; refine congrArg Sum.inl (congrArg (Prod.mk (cA b)) (congrArg (Prod.mk _) (congrArg Sum.inl ?_))); funext j; simp [om_cpy]) (fun b2 hb2 => by funext j; simp [om_cpy, hb2]) (fun b2 hb2 => rfl)
        rw [hset] at hP hD
        exact ih _ _ _ hk _ _ _ ⟨hP, hD, hS⟩ hL
      | 4, hk, he =>
        have he : (Nat.beq n 3 && decide (om_nth om_iwl f4 = some (own, ix, 4))) = true := he
        simp only [Bool.and_eq_true, decide_eq_true_eq] at he
        obtain ⟨hn, hw⟩ := he
        have hn := Nat.eq_of_beq_eq_true hn
        subst hn
        obtain ⟨x, y, st2, rfl, hk⟩ := om_p2_sp hk
        obtain ⟨h8, hk⟩ := om_cb_sp hk
        obtain ⟨hg, hk⟩ := om_cb_sp hk
        simp only [Bool.and_eq_true, decide_eq_true_eq] at hg
        have hcB : CallB R s args (om_cn own) ix yJ0_checkIndex_df160 cJ0_checkIndex_df160 2 none (.code yJ0_checkIndex_df160 cJ0_checkIndex_df160 2 none :: om_tb) { frames := 1, cells := 0, slots := 0, locals := 80 } 0 0 2 := by
          refine ⟨rfl, rfl, Nat.le_trans (by omega : 1 + 1 ≤ d + 4) hRf, Nat.le_trans (by omega : 8 + (2 + 11) + 80 ≤ 40 * d + 200) hRl, om_wxw hts (om_xw_at 13 rfl), List.mem_cons_self, hts _ (om_xw_at 13 rfl), hts _ (om_xw_at 16 rfl), ⟨by decide +kernel, by decide +kernel⟩, fun sig hs => ?_, hts _ (om_tb_iw (om_nth_mem hw))⟩
          have h3 : (parseMethodDescriptor yJ0_checkIndex_df160.desc).map (fun d => d.parameters.length) = some 2 := by decide +kernel
          rw [hs] at h3
          exact (Option.some.inj h3).symm
        have hcat : 2 * 0 + ((st2.map (om_val ad)).map fun v => v.category).sum ≤ 8 := by
          have := om_st8 (ad := ad) h8
          omega
        exact om_fin (va_runS (As := [.int x, .int y]) (rest := st2.map (om_val ad)) ⟨hx, hb, hml, hown, hts⟩ (om_cks_met l D cA ad H.size M x y hg.1 hg.2) ⟨hcB, hts _ (om_xw_at 12 rfl)⟩ ⟨om_blindV, fun U hU hW => om_preV hK hN hS0 hA hR hU hW⟩ rfl rfl hL.1 rfl hcat hd ⟨Nat.zero_le _, Nat.zero_le _⟩) hR.2.2 (om_sub hA hR) (om_sub hA hR) (fun H1 locs1 hR1 => ih _ _ _ hk _ _ _ hR1 hL)
      | k + 5, hk, he => exact (om_kno hk).elim
    case ireturn =>
      have he : (Nat.beq n 1 && rv) = true := he
      simp only [Bool.and_eq_true] at he
      obtain ⟨hn, hrt⟩ := he
      have hn := Nat.eq_of_beq_eq_true hn
      subst hn
      match st, hk with
      | [.inl x], hk =>
        obtain ⟨hnr, hk⟩ := om_cb_sp hk
        obtain ⟨h1, h2⟩ := om_krt hk
        subst h2
        exact hri _ _ _ _ _ hd hrt hnr h1 hR
      | [], hk => exact (om_kno hk).elim
      | [.inr x], hk => exact (om_kno hk).elim
      | .inl x :: y :: z, hk => exact (om_kno hk).elim
      | .inr x :: y :: z, hk => exact (om_kno hk).elim
    case return_ =>
      have he : (Nat.beq n 1 && !rv) = true := he
      simp only [Bool.and_eq_true, Bool.not_eq_true'] at he
      obtain ⟨hn, hrt⟩ := he
      have hn := Nat.eq_of_beq_eq_true hn
      subst hn
      match st, hk with
      | [], hk =>
        obtain ⟨h1, h2⟩ := om_krt hk
        subst h2
        exact hrv _ _ _ _ hd hrt h1 hR
      | x :: y, hk => exact (om_kno hk).elim
    all_goals exact absurd he Bool.false_ne_true
end XS
