/-! ===== a method keeps its contract ===== -/
theorem om_fb_sp : ∀ {B : List om_Bk} {l : Nat} {x : List Bool × List om_E × Nat}, om_fb B l = some x → (l, x) ∈ B
  | [], _, _, h => by cases h
  | q :: r, l, x, h => by
    unfold om_fb at h
    cases hq : Nat.beq q.1 l with
    | true =>
      rw [hq] at h
      have e := Nat.eq_of_beq_eq_true hq
      cases h
      subst e
      exact List.mem_cons_self
    | false =>
      rw [hq] at h
      exact List.mem_cons_of_mem _ (om_fb_sp h)
theorem om_all_at : ∀ {qs : List om_Sg} {Bs : List (List om_Bk)} {k : Nat} {q : om_Sg} {B : List om_Bk}, om_allok qs Bs → om_nth qs k = some q → om_nth Bs k = some B → ∃ own, q.1.cls = om_cn own ∧ om_bks own q.2.2.1 q.2.2.2.1.isSome q.2.1 B = true
  | [], _, _, _, _, _, h, _ => by cases h
  | _ :: _, [], _, _, _, _, _, h => by cases h
  | q :: qs, B :: Bs, 0, _, _, h, h1, h2 => by
    cases h1
    cases h2
    exact h.1
  | q :: qs, B :: Bs, k + 1, _, _, h, h1, h2 => om_all_at (qs := qs) (Bs := Bs) h.2 h1 h2
theorem om_ent_at {ad : Nat → Nat} : ∀ {as : List om_V} {n b i : Nat} {v : om_V}, (om_ent as n)[i]? = some (some v) → (b + i, om_val ad v) ∈ lv_args b (as.map (om_val ad))
  | [], n, b, i, v, h => by
    simp only [om_ent] at h
    rw [List.getElem?_replicate] at h
    split at h <;> simp at h
  | a :: as, 0, b, i, v, h => by simp [om_ent] at h
  | a :: as, n + 1, b, 0, v, h => by
    simp only [om_ent, List.getElem?_cons_zero, Option.some.injEq] at h
    subst h
    exact List.mem_cons_self
  | a :: as, n + 1, b, i + 1, v, h => by
    simp only [om_ent, List.getElem?_cons_succ] at h
    have hc := om_cat (ad := ad) a
    show (b + (i + 1), om_val ad v) ∈ (b, om_val ad a) :: lv_args (if (om_val ad a).category = 2 then b + 2 else b + 1) (as.map (om_val ad))
    refine List.mem_cons_of_mem _ ?_
    cases hl : om_isL (some a) with
    | false =>
      rw [hl] at hc
      have hne : ¬ (om_val ad a).category = 2 := by simpa using hc
      rw [if_neg hne]
      rw [hl] at h
      have h2 := om_ent_at (ad := ad) (b := b + 1) h
      have e : b + (i + 1) = b + 1 + i := by omega
      rw [e]
      exact h2
    | true =>
      rw [hl] at hc
      have he : (om_val ad a).category = 2 := by simpa using hc
      rw [if_pos he]
      rw [hl] at h
      match n, i, h with
      | 0, i, h =>
        have h2 := om_ent_at (ad := ad) (b := b + 1) h
        cases as with
        | nil => simp [om_ent] at h
        | cons x xs => simp [om_ent] at h
      | n + 1, 0, h => simp at h
      | n + 1, i + 1, h =>
        simp only [List.getElem?_cons_succ] at h
        have h2 := om_ent_at (ad := ad) (b := b + 2) h
        have e : b + (i + 1 + 1) = b + 2 + i := by omega
        rw [e]
        exact h2
theorem om_szl_eq {ad : Nat → Nat} (as : List om_V) : (lg_sl (as.map (om_val ad))).length = om_szl as := by
  induction as with
  | nil => rfl
  | cons a as ih =>
    have hc := om_cat (ad := ad) a
    show (((a :: as).map (om_val ad)).flatMap fun v => if v.category = 2 then [Slot.val v, Slot.second] else [Slot.val v]).length = _
    rw [List.map_cons, List.flatMap_cons, List.length_append]
    have ih2 : ((as.map (om_val ad)).flatMap fun v => if v.category = 2 then [Slot.val v, .second] else [.val v]).length = om_szl as := ih
    rw [ih2]
    show _ = (bif om_isL (some a) then 2 else 1) + om_szl as
    cases hl : om_isL (some a) with
    | false =>
      rw [hl] at hc
      have hne : ¬ (om_val ad a).category = 2 := by simpa using hc
      rw [if_neg hne]
      rfl
    | true =>
      rw [hl] at hc
      have he : (om_val ad a).category = 2 := by simpa using hc
      rw [if_pos he]
      rfl
section MT
variable {p : Program} {l : Launch} {e : Env} {R : Room} {s : State} {m : MethodId} {args : Array Value} {below : List Frame} {meth : Method} {c : Code} {Q : State → Prop}
variable {D : va_G} {cA : Nat → ClassId} {ad : Nat → Nat} {A : Nat → Prop} {cc : ByteArray} {own nL : Nat}
/-- blocks, one after the other -/
theorem om_rund (hx : p.tables.exec = Jvm.exec) (hb : c.code = cc) (hml : c.maxLocals = nL) (hown : s.vm.findClass (om_cn own) = some m.cls) (hts : ∀ w ∈ om_tb, w.before args s = true) (hK : om_K D cA s) (hN : om_N2 ad s) (hS0 : om_S ad A s s.heap) (hA : ∀ q, s.heap.size ≤ q → A q) {d : Nat} (hRf : d + 4 ≤ R.frames) (hRl : 40 * d + 200 ≤ R.locals) {C : om_C} (hC : om_CS l D cA ad d C) {r : Option om_V} {Mf : om_M} {rt : Nat} {rv : Bool} {B : List om_Bk} (hB : om_bks own nL rv cc B = true)
    (hri : ∀ (pc : Nat) (H : Heap) (locs : List Loc) (ls : Array Slot) (x : Int32), decode cc pc = .ok (.ireturn, 1) → rv = true → om_nr rt x = true → r = some (om_i x) → om_Rep D cA ad A s.heap Mf H locs → W p l e R s m args below meth c H locs 0 0 Q (F0 m pc ls [.int x]))
    (hrv : ∀ (pc : Nat) (H : Heap) (locs : List Loc) (ls : Array Slot), decode cc pc = .ok (.return_, 1) → rv = false → r = none → om_Rep D cA ad A s.heap Mf H locs → W p l e R s m args below meth c H locs 0 0 Q (F0 m pc ls [])) :
    ∀ (n : Nat) l2 L st M, om_Go C rt B n l2 L st M r Mf → ∀ (H : Heap) (locs : List Loc) (ls : Array Slot), om_Rep D cA ad A s.heap M H locs → om_Has ad ls nL L → W p l e R s m args below meth c H locs 0 0 Q (F0 m l2 ls (st.map (om_val ad)))
  | 0, _, _, _, _, h, _, _, _, _, _ => h.elim
  | n + 1, l2, L, st, M, ⟨kp, es, nx, h1, h2⟩, H, locs, ls, hR, hL => by
    have hck := List.all_eq_true.mp hB _ (om_fb_sp h1)
    exact om_xs hx hb hml hown hts hK hN hS0 hA hRf hRl hC (om_rund hx hb hml hown hts hK hN hS0 hA hRf hRl hC hB hri hrv n) hri hrv es l2 hck _ _ _ h2 H locs ls hR (hL.tr kp)
end MT
/-- what the small machine answers, the machine answers -/
theorem om_met (l : Launch) (D : va_G) (cA : Nat → ClassId) (ad : Nat → Nat) : ∀ d, om_CS l D cA ad d (om_Sem d)
  | 0 => fun k as M v M1 h => h.elim
  | d + 1 => by
    intro k as M v M1 h q hq sz
    obtain ⟨i, B, h1, h2, h3, n, hgo⟩ := h
    have hi : i = q := Option.some.inj (h1.symm.trans hq)
    subst hi
    obtain ⟨own, hcls, hbks⟩ := om_all_at om_allok_ok hq h2
    obtain ⟨hpl, hy, hpar, hmx, hrt⟩ := om_sgck_at hq
    refine Met.ofW (cc := i.2.1) (maxL := i.2.2.1) (ret := i.2.2.2.1) hpl rfl ?_
    intro p e s m args below meth c s₁ Bd hml hv
    obtain ⟨rfl, hsz, hP, hK, hD0, hN, hS0⟩ := hv
    have hx := Bd.exec
    have hb := Bd.bytes
    have hr := Bd.returns
    have hts : ∀ w ∈ om_tb, w.before ((as.map (om_val ad)).toArray) s = true := fun w hw => atoms_spec (ws := om_wk i) Bd.pre w (List.mem_cons_of_mem _ hw)
    have hown0 : s.vm.findClass i.1.cls = some m.cls := findClass_of_methodNamed Bd.named
    have hlocks := Bd.notSynchronized
    rw [hcls] at hown0
    subst hsz
    have hA : ∀ q : Nat, s.heap.size ≤ q → om_A ad s.heap.size q := fun q h => Or.inr h
    have hD : va_D (om_A ad s.heap.size) (om_ws ad cA M) := hD0.weaken (fun k q hk _ => by
      have hlt : k < om_N := by
        have := (List.getElem?_eq_some_iff.mp hk).1
        rwa [om_ws_len] at this
      rw [om_ws_at hlt] at hk
      cases hk
      exact Or.inl ⟨k, hlt, rfl⟩)
    have hl := lv_entry (as.map (om_val ad)) (n := i.2.2.1) (by rw [om_szl_eq]; exact Nat.le_of_ble_eq_true h3)
    rw [lg_entry_eq]
    generalize (lg_sl (as.map (om_val ad)) ++ List.replicate (i.2.2.1 - (lg_sl (as.map (om_val ad))).length) Slot.unset).toArray = ls at hl ⊢
    have hL : om_Has ad ls i.2.2.1 (om_ent as i.2.2.1) := ⟨hl.1, hl.2.1, fun j v hj => by
      have := om_ent_at (ad := ad) (b := 0) hj
      have h2 := hl.2.2 _ this
      simpa using h2⟩
    refine om_rund (A := om_A ad s.heap.size) hx hb hml hown0 hts hK hN hS0 hA (d := d) (Nat.le_refl _) (by show 40 * d + 200 ≤ 40 * (d + 1) + 160; omega) (om_met l D cA ad d) hbks ?_ ?_ n 0 _ [] M hgo s.heap [] ls ⟨hP, hD, va_S.rf⟩ hL
    · intro pc H locs ls x hd hrv hnr hv hR
      cases hty : i.2.2.2.1 with
      | none => rw [hty] at hrv; cases hrv
      | some ty =>
        rw [hty] at hr
        exact W.zret hx hb hr (om_nr_sp ty (hrt ty hty) hnr) (fun t ht hW => ⟨⟨by rw [hv]; rfl, by rw [ht]; exact hR.1, hR.2.1⟩, hR.2.2.F ht⟩) hR.2.2.2.2 hd
    · intro pc H locs ls hd hrv hv hR
      cases hty : i.2.2.2.1 with
      | some ty => rw [hty] at hrv; cases hrv
      | none =>
        rw [hty] at hr
        exact W.vret hx hb hr (fun t ht hW => ⟨⟨by rw [hv]; rfl, by rw [ht]; exact hR.1, hR.2.1⟩, hR.2.2.F ht⟩) hR.2.2.2.2 hd
