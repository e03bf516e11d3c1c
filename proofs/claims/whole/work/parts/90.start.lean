def om_adf (l : List Nat) (K V : Nat → Nat) (a : Nat) : Nat := if a < 69 then l.getD a 0 else if a < 2000 then K (a - 1000) else V (a - 2000)
def om_cAf (l : List ClassId) (d : ClassId) (a : Nat) : ClassId := l.getD a d
theorem om_vkc {N : Nat} {len : List Nat} {byt : List (List Int32)} {k v k' v' : Nat → Nat} {A : Nat → Prop} {U : State} {H : Heap} (h : vk_S N len byt k v A U H) (h1 : ∀ i, i < N → k' i = k i) (h2 : ∀ i, i < N → v' i = v i) : vk_S N len byt k' v' A U H :=
  ⟨fun i hi => by rw [h1 i hi, h2 i hi]; exact h.1 i hi, fun i j hi hj e => h.2 i j hi hj (by rw [← h1 i hi, ← h1 j hj]; exact e)⟩
theorem om_nc_on {w : Cond} (hw : w ∈ om_nc) : w.onTables = true := by
  have hs := List.all_eq_true.mp om_nc_shape w hw
  match w, hs with
  | .methodLinkNest _ _ _ _, _ => rfl
set_option maxHeartbeats 16000000 in
set_option maxRecDepth 100000 in
theorem om_start {Inv : om_M → Prop} (hI0 : Inv om_M0) (hOK : om_AllOK Inv) {p : Program} {e : Env} {s : State} {m : MethodId} {below : List Frame} {meth : Method} {c : Code} (l : Launch) {b L : Nat} {xs : Nat → Int32} (hL : L ≤ 2560) (C0 : lw_At p s m meth c b L xs) : W p l e room_1 s m #[Value.ref b] below meth c s.heap [] 0 0 (lw_Z below #[Value.ref b] s) (entryFrame m ([Value.ref b] : List Value).toArray 4) := by
  obtain ⟨hx, hb, hr, hml, hown, hts, hX, hbl, hlocks, hgv⟩ := id C0
  have htc : ∀ w ∈ om_tc, w.before #[Value.ref b] s = true := fun w h => hts w (om_tc_in w h)
  have hA : ∀ q : Nat, s.heap.size ≤ q → (fun q : Nat => s.heap.size ≤ q) q := fun _ h => h
  have hbA : ¬ (fun q : Nat => s.heap.size ≤ q) b := Nat.not_le.mpr hbl
  obtain ⟨kC0, iS0, hKn0⟩ := u_known (C := RX0) (T := TX0) (N := 8) (n := 8) hts (fun w hw => om_tb_in w (om_tb_cw ((om_cls 0 (by decide)).2.1 w hw))) (hts (.instantiable RX0 8) (List.mem_of_getElem? (i := 142) rfl))
  obtain ⟨kC1, iS1, hKn1⟩ := u_known (C := RX1) (T := TX1) (N := 2) (n := 2) hts (fun w hw => om_tb_in w (om_tb_cw ((om_cls 1 (by decide)).2.1 w hw))) (hts (.instantiable RX1 2) (List.mem_of_getElem? (i := 227) rfl))
  obtain ⟨kC2, iS2, hKn2⟩ := u_known (C := RX2) (T := TX2) (N := 8) (n := 8) hts (fun w hw => om_tb_in w (om_tb_cw ((om_cls 2 (by decide)).2.1 w hw))) (hts (.instantiable RX2 8) (List.mem_of_getElem? (i := 242) rfl))
  obtain ⟨kC3, iS3, hKn3⟩ := u_known (C := RX3) (T := TX3) (N := 7) (n := 7) hts (fun w hw => om_tb_in w (om_tb_cw ((om_cls 3 (by decide)).2.1 w hw))) (hts (.instantiable RX3 7) (List.mem_of_getElem? (i := 189) rfl))
  obtain ⟨kC4, iS4, hKn4⟩ := u_known (C := RX4) (T := TX4) (N := 11) (n := 11) hts (fun w hw => om_tb_in w (om_tb_cw ((om_cls 4 (by decide)).2.1 w hw))) (hts (.instantiable RX4 11) (List.mem_of_getElem? (i := 309) rfl))
  obtain ⟨kC5, iS5, hKn5⟩ := u_known (C := RX5) (T := TX5) (N := 8) (n := 8) hts (fun w hw => om_tb_in w (om_tb_cw ((om_cls 5 (by decide)).2.1 w hw))) (hts (.instantiable RX5 8) (List.mem_of_getElem? (i := 277) rfl))
  obtain ⟨kC6, iS6, hKn6⟩ := u_known (C := RX6) (T := TX6) (N := 7) (n := 7) hts (fun w hw => om_tb_in w (om_tb_cw ((om_cls 6 (by decide)).2.1 w hw))) (hts (.instantiable RX6 7) (List.mem_of_getElem? (i := 134) rfl))
  obtain ⟨kC7, iS7, hKn7⟩ := u_known (C := RX7) (T := TX7) (N := 37) (n := 37) hts (fun w hw => om_tb_in w (om_tb_cw ((om_cls 7 (by decide)).2.1 w hw))) (hts (.instantiable RX7 37) (List.mem_of_getElem? (i := 917) rfl))
  obtain ⟨dC, dI, hKc⟩ : ∃ (dC : Nat → ClassId) (dI : Nat → Nat → Nat), ∀ (k : Nat) (q : vw_C), vwCl[k]? = some q → u_Kn s q.1 q.2.1 q.2.2 (dC k) (dI k) := by
    refine ⟨fun k => if k = 0 then kC0 else if k = 1 then kC1 else if k = 2 then kC2 else if k = 3 then kC3 else if k = 4 then kC4 else if k = 5 then kC5 else if k = 6 then kC6 else kC7, fun k => if k = 0 then iS0 else if k = 1 then iS1 else if k = 2 then iS2 else if k = 3 then iS3 else if k = 4 then iS4 else if k = 5 then iS5 else if k = 6 then iS6 else iS7, ?_⟩
    intro k q hq
    match k, hq with
    | 0, hq => cases hq; exact hKn0
    | 1, hq => cases hq; exact hKn1
    | 2, hq => cases hq; exact hKn2
    | 3, hq => cases hq; exact hKn3
    | 4, hq => cases hq; exact hKn4
    | 5, hq => cases hq; exact hKn5
    | 6, hq => cases hq; exact hKn6
    | 7, hq => cases hq; exact hKn7
    | k + 8, hq => simp [vwCl] at hq
  have hKC : om_KC s := ⟨fun w hw => va_Nw.of (om_nc_on hw) (hts w (om_nc_in w hw)), over_moved (Vm.Alike.refl _) (hts (.arrayOver (.array .int)) (List.mem_of_getElem? (i := 248) rfl))⟩
  have hS : va_S (fun q : Nat => s.heap.size ≤ q) s.heap s.heap [] := va_S.rf
  have hK : va_K (dC, dI) vwCl [] s := ⟨hKc, fun k q h => by simp at h⟩
  have hP : va_P (dC, dI) vwCl [] s.heap := fun k q h => by simp at h
  have hD : va_D (fun q : Nat => s.heap.size ≤ q) [] := ⟨fun i j p q h => by simp at h, fun k q h => by simp at h⟩
  have hl := lv_entry ([.ref b]) (n := 4) (Nat.le_of_ble_eq_true rfl)
  rw [lg_entry_eq]
  generalize (lg_sl ([.ref b]) ++ List.replicate (4 - (lg_sl ([.ref b])).length) Slot.unset).toArray = ls at hl ⊢
  have hl : lv_has ls 4 [(0, .ref b)] := hl
  refine va_new (ci := 6) (fs := [.null, .null, .null, .null, .null, .null, .null]) (C := RX6) (T := TX6) (N := 7) hx hb htc (fun w hw => om_tc_b (om_tb_cw ((om_cls 6 (by decide)).2.1 w hw))) tyX6 tyX6_ok hown (hts _ (List.mem_of_getElem? (i := 133) rfl)) (hts _ (List.mem_of_getElem? (i := 134) rfl)) (hts _ (List.mem_of_getElem? (i := 118) rfl)) hK hP hD hS hA rfl (by decide) (Nat.le_of_ble_eq_true rfl) (Nat.le_of_ble_eq_true rfl) dL_0 (fun qx H hP hD hS => ?_)
  have hP : va_P (dC, dI) vwCl [(qx, .inr (6, [.null, .null, .null, .null, .null, .null, .null]))] H := hP
  have hD : va_D (fun q : Nat => s.heap.size ≤ q) [(qx, .inr (6, [.null, .null, .null, .null, .null, .null, .null]))] := hD
  refine W.widen (k := 1) (n := 7) (Nat.le_of_ble_eq_true rfl) (Nat.le_of_ble_eq_true rfl) ?_
  refine lv_dup hx hb dL_3 rfl ?_
  have hPc := hP.sub (ws' := [(qx, .inr (6, [.null, .null, .null, .null, .null, .null, .null]))]) [0] rfl
  have hDc := hD.sub (ws' := [(qx, .inr (6, [.null, .null, .null, .null, .null, .null, .null]))]) [0] (by decide) rfl
  have hKc := hK.sub (tys' := []) [] rfl
  have hFc := va_free (wc := [(qx, .inr (6, [.null, .null, .null, .null, .null, .null, .null]))]) hD hS hA [0] rfl
  have hcB : CallB room_1 s #[Value.ref b] R_law 9 yX6_init cX6_init 1 none (om_wc yX6_init cX6_init) { frames := 2, cells := 45, slots := 1037, locals := 32 } 45 1037 0 := by
    refine ⟨rfl, rfl, Nat.le_of_ble_eq_true rfl, Nat.le_of_ble_eq_true rfl, om_wcw htc (List.mem_of_getElem? (i := 20) rfl), List.mem_cons_self, hts _ (om_tc_in _ (om_tc_x (List.mem_of_getElem? (i := 20) rfl))), hts _ (om_tc_in _ (om_tc_x (List.mem_of_getElem? (i := 1) rfl))), ⟨by decide +kernel, by decide +kernel⟩, fun sig hs => ?_, hts _ (List.mem_of_getElem? (i := 135) rfl)⟩
    have h3 : (parseMethodDescriptor (yX6_init).desc).map (fun d => d.parameters.length) = some 0 := by decide +kernel
    rw [hs] at h3
    exact (Option.some.inj h3).symm
  refine va_callv (va_runI (As := []) (rest := [.ref qx]) ⟨hx, hb, hml, hown, htc⟩ (om_kX6 l dC dI qx H.size) ⟨hcB, rfl, hts _ (om_tc_in _ (om_tc_x (List.mem_of_getElem? (i := 19) rfl)))⟩ ⟨fun a U g mk q => by obtain ⟨q0, q1, qP, qK, qD, qC⟩ := q; exact ⟨q0, q1, qP, va_K.moved (u := U) (U := U.calling g mk a) (Vm.Alike.refl U.vm) qK, qD, om_KC.same (u := U) (U := U.calling g mk a) rfl qC⟩, fun U hU hW => ⟨rfl, by rw [hU], by rw [hU]; exact hPc, va_K.moved hW.alike hKc, hDc.weaken (fun _ _ _ _ => trivial), hKC.warm hW⟩⟩ rfl rfl hl.1 rfl (lv_room (Nat.le_of_ble_eq_true rfl)) dL_4 ⟨Nat.le_of_ble_eq_true rfl, Nat.le_of_ble_eq_true rfl⟩) hS (fun q _ h => hFc q h) hFc (fun u t H1 locs ht hvm hw hB hz1 hk1 hS => ?_)
  obtain ⟨q4_0, q4_9_0, c4_9_0, q4_9_1, c4_9_1, q4_9_2, c4_9_2, q4_9_3, c4_9_3, q4_9_4, c4_9_4, q4_1, q4_20_0, c4_20_0, q4_20_1, c4_20_1, q4_20_2, c4_20_2, q4_20_3, c4_20_3, q4_2, q4_31_0, c4_31_0, q4_3, q4_42_0, c4_42_0, q4_42_1, c4_42_1, rr_4_42, q4_42_2, c4_42_2, q4_42_3, c4_42_3, q4_4, q4_53_0, c4_53_0, q4_5, q4_64_0, c4_64_0, q4_64_1, c4_64_1, q4_64_2, c4_64_2, q4_64_3, c4_64_3, q4_64_4, c4_64_4, q4_64_5, c4_64_5, q4_64_6, c4_64_6, q4_6, q4_75_0, c4_75_0, q4_75_1, c4_75_1, q4_75_2, c4_75_2, q4_75_3, c4_75_3, q4_75_4, c4_75_4, q4_75_5, c4_75_5, q4_75_6, c4_75_6, hP1, hK1, hD1⟩ := hB
  rw [ht] at hP1
  have hK1 := va_K.moved hvm.symm hK1
  obtain ⟨hP, hD⟩ := va_join (wr := []) (w1 := [(qx, .inr (6, [.ref q4_0, .ref q4_1, .ref q4_2, .ref q4_3, .ref q4_4, .ref q4_5, .ref q4_6])), (q4_0, .inr (0, [.int 0, .int 0, .int 0, .ref q4_9_0, .ref q4_9_1, .ref q4_9_2, .ref q4_9_3, .ref q4_9_4])), (q4_9_0, .inl (c4_9_0, 8, .inl (fun _ => 0))), (q4_9_1, .inl (c4_9_1, 8, .inl (fun _ => 0))), (q4_9_2, .inl (c4_9_2, 20, .inl (fun _ => 0))), (q4_9_3, .inl (c4_9_3, 20, .inl (fun _ => 0))), (q4_9_4, .inl (c4_9_4, 20, .inl (fun _ => 0))), (q4_1, .inr (3, [.int 0, .int 0, .int 0, .ref q4_20_0, .ref q4_20_1, .ref q4_20_2, .ref q4_20_3])), (q4_20_0, .inl (c4_20_0, 28, .inl (fun _ => 0))), (q4_20_1, .inl (c4_20_1, 28, .inl (fun _ => 0))), (q4_20_2, .inl (c4_20_2, 28, .inl (fun _ => 0))), (q4_20_3, .inl (c4_20_3, 8, .inl (fun _ => 0))), (q4_2, .inr (1, [.ref q4_31_0, .int 0])), (q4_31_0, .inl (c4_31_0, 9, .inl (fun _ => 0))), (q4_3, .inr (2, [.int 0, .int 1, .int 0, .int 1, .ref q4_42_0, .ref q4_42_1, .ref q4_42_2, .ref q4_42_3])), (q4_42_0, .inl (c4_42_0, 8, .inl (fun _ => 0))), (q4_42_1, .inl (c4_42_1, 9, .inr (.inr (.inr (.inr (fun i => if i < 9 then some (rr_4_42 i) else none)))))), (rr_4_42 0, .inl (c4_42_0, 8, .inl (fun _ => 0))), (rr_4_42 1, .inl (c4_42_0, 8, .inl (fun _ => 0))), (rr_4_42 2, .inl (c4_42_0, 8, .inl (fun _ => 0))), (rr_4_42 3, .inl (c4_42_0, 8, .inl (fun _ => 0))), (rr_4_42 4, .inl (c4_42_0, 8, .inl (fun _ => 0))), (rr_4_42 5, .inl (c4_42_0, 8, .inl (fun _ => 0))), (rr_4_42 6, .inl (c4_42_0, 8, .inl (fun _ => 0))), (rr_4_42 7, .inl (c4_42_0, 8, .inl (fun _ => 0))), (rr_4_42 8, .inl (c4_42_0, 8, .inl (fun _ => 0))), (q4_42_2, .inl (c4_42_2, 8, .inl (fun _ => 0))), (q4_42_3, .inl (c4_42_3, 8, .inl (fun _ => 0))), (q4_4, .inr (5, [.int 0, .ref q4_53_0, .int 0, .int 0, .int 0, .int 0, .int 0, .null])), (q4_53_0, .inl (c4_53_0, 120, .inl (fun _ => 0))), (q4_5, .inr (4, [.int 0, .ref q4_64_0, .ref q4_64_1, .ref q4_64_2, .ref q4_64_3, .ref q4_64_4, .int 0, .ref q4_64_5, .int 0, .ref q4_64_6, .int 0])), (q4_64_0, .inl (c4_64_0, 10, .inl (fun _ => 0))), (q4_64_1, .inl (c4_64_1, 10, .inl (fun _ => 0))), (q4_64_2, .inl (c4_64_2, 10, .inl (fun _ => 0))), (q4_64_3, .inl (c4_64_3, 10, .inl (fun _ => 0))), (q4_64_4, .inl (c4_64_4, 10, .inl (fun _ => 0))), (q4_64_5, .inl (c4_64_5, 120, .inl (fun _ => 0))), (q4_64_6, .inl (c4_64_6, 120, .inl (fun _ => 0))), (q4_6, .inr (4, [.int 0, .ref q4_75_0, .ref q4_75_1, .ref q4_75_2, .ref q4_75_3, .ref q4_75_4, .int 0, .ref q4_75_5, .int 0, .ref q4_75_6, .int 0])), (q4_75_0, .inl (c4_75_0, 10, .inl (fun _ => 0))), (q4_75_1, .inl (c4_75_1, 10, .inl (fun _ => 0))), (q4_75_2, .inl (c4_75_2, 10, .inl (fun _ => 0))), (q4_75_3, .inl (c4_75_3, 10, .inl (fun _ => 0))), (q4_75_4, .inl (c4_75_4, 10, .inl (fun _ => 0))), (q4_75_5, .inl (c4_75_5, 120, .inl (fun _ => 0))), (q4_75_6, .inl (c4_75_6, 120, .inl (fun _ => 0)))]) hP hD [0] [] rfl rfl (by decide) (by decide) hk1 hFc hP1 hD1
  have hK := hK.app hK1
  generalize H1 = H at hP hS ⊢
  have hP : va_P (dC, dI) vwCl [(qx, .inr (6, [.ref q4_0, .ref q4_1, .ref q4_2, .ref q4_3, .ref q4_4, .ref q4_5, .ref q4_6])), (q4_0, .inr (0, [.int 0, .int 0, .int 0, .ref q4_9_0, .ref q4_9_1, .ref q4_9_2, .ref q4_9_3, .ref q4_9_4])), (q4_9_0, .inl (c4_9_0, 8, .inl (fun _ => 0))), (q4_9_1, .inl (c4_9_1, 8, .inl (fun _ => 0))), (q4_9_2, .inl (c4_9_2, 20, .inl (fun _ => 0))), (q4_9_3, .inl (c4_9_3, 20, .inl (fun _ => 0))), (q4_9_4, .inl (c4_9_4, 20, .inl (fun _ => 0))), (q4_1, .inr (3, [.int 0, .int 0, .int 0, .ref q4_20_0, .ref q4_20_1, .ref q4_20_2, .ref q4_20_3])), (q4_20_0, .inl (c4_20_0, 28, .inl (fun _ => 0))), (q4_20_1, .inl (c4_20_1, 28, .inl (fun _ => 0))), (q4_20_2, .inl (c4_20_2, 28, .inl (fun _ => 0))), (q4_20_3, .inl (c4_20_3, 8, .inl (fun _ => 0))), (q4_2, .inr (1, [.ref q4_31_0, .int 0])), (q4_31_0, .inl (c4_31_0, 9, .inl (fun _ => 0))), (q4_3, .inr (2, [.int 0, .int 1, .int 0, .int 1, .ref q4_42_0, .ref q4_42_1, .ref q4_42_2, .ref q4_42_3])), (q4_42_0, .inl (c4_42_0, 8, .inl (fun _ => 0))), (q4_42_1, .inl (c4_42_1, 9, .inr (.inr (.inr (.inr (fun i => if i < 9 then some (rr_4_42 i) else none)))))), (rr_4_42 0, .inl (c4_42_0, 8, .inl (fun _ => 0))), (rr_4_42 1, .inl (c4_42_0, 8, .inl (fun _ => 0))), (rr_4_42 2, .inl (c4_42_0, 8, .inl (fun _ => 0))), (rr_4_42 3, .inl (c4_42_0, 8, .inl (fun _ => 0))), (rr_4_42 4, .inl (c4_42_0, 8, .inl (fun _ => 0))), (rr_4_42 5, .inl (c4_42_0, 8, .inl (fun _ => 0))), (rr_4_42 6, .inl (c4_42_0, 8, .inl (fun _ => 0))), (rr_4_42 7, .inl (c4_42_0, 8, .inl (fun _ => 0))), (rr_4_42 8, .inl (c4_42_0, 8, .inl (fun _ => 0))), (q4_42_2, .inl (c4_42_2, 8, .inl (fun _ => 0))), (q4_42_3, .inl (c4_42_3, 8, .inl (fun _ => 0))), (q4_4, .inr (5, [.int 0, .ref q4_53_0, .int 0, .int 0, .int 0, .int 0, .int 0, .null])), (q4_53_0, .inl (c4_53_0, 120, .inl (fun _ => 0))), (q4_5, .inr (4, [.int 0, .ref q4_64_0, .ref q4_64_1, .ref q4_64_2, .ref q4_64_3, .ref q4_64_4, .int 0, .ref q4_64_5, .int 0, .ref q4_64_6, .int 0])), (q4_64_0, .inl (c4_64_0, 10, .inl (fun _ => 0))), (q4_64_1, .inl (c4_64_1, 10, .inl (fun _ => 0))), (q4_64_2, .inl (c4_64_2, 10, .inl (fun _ => 0))), (q4_64_3, .inl (c4_64_3, 10, .inl (fun _ => 0))), (q4_64_4, .inl (c4_64_4, 10, .inl (fun _ => 0))), (q4_64_5, .inl (c4_64_5, 120, .inl (fun _ => 0))), (q4_64_6, .inl (c4_64_6, 120, .inl (fun _ => 0))), (q4_6, .inr (4, [.int 0, .ref q4_75_0, .ref q4_75_1, .ref q4_75_2, .ref q4_75_3, .ref q4_75_4, .int 0, .ref q4_75_5, .int 0, .ref q4_75_6, .int 0])), (q4_75_0, .inl (c4_75_0, 10, .inl (fun _ => 0))), (q4_75_1, .inl (c4_75_1, 10, .inl (fun _ => 0))), (q4_75_2, .inl (c4_75_2, 10, .inl (fun _ => 0))), (q4_75_3, .inl (c4_75_3, 10, .inl (fun _ => 0))), (q4_75_4, .inl (c4_75_4, 10, .inl (fun _ => 0))), (q4_75_5, .inl (c4_75_5, 120, .inl (fun _ => 0))), (q4_75_6, .inl (c4_75_6, 120, .inl (fun _ => 0)))] H := hP
  have hD : va_D (fun q : Nat => s.heap.size ≤ q) [(qx, .inr (6, [.ref q4_0, .ref q4_1, .ref q4_2, .ref q4_3, .ref q4_4, .ref q4_5, .ref q4_6])), (q4_0, .inr (0, [.int 0, .int 0, .int 0, .ref q4_9_0, .ref q4_9_1, .ref q4_9_2, .ref q4_9_3, .ref q4_9_4])), (q4_9_0, .inl (c4_9_0, 8, .inl (fun _ => 0))), (q4_9_1, .inl (c4_9_1, 8, .inl (fun _ => 0))), (q4_9_2, .inl (c4_9_2, 20, .inl (fun _ => 0))), (q4_9_3, .inl (c4_9_3, 20, .inl (fun _ => 0))), (q4_9_4, .inl (c4_9_4, 20, .inl (fun _ => 0))), (q4_1, .inr (3, [.int 0, .int 0, .int 0, .ref q4_20_0, .ref q4_20_1, .ref q4_20_2, .ref q4_20_3])), (q4_20_0, .inl (c4_20_0, 28, .inl (fun _ => 0))), (q4_20_1, .inl (c4_20_1, 28, .inl (fun _ => 0))), (q4_20_2, .inl (c4_20_2, 28, .inl (fun _ => 0))), (q4_20_3, .inl (c4_20_3, 8, .inl (fun _ => 0))), (q4_2, .inr (1, [.ref q4_31_0, .int 0])), (q4_31_0, .inl (c4_31_0, 9, .inl (fun _ => 0))), (q4_3, .inr (2, [.int 0, .int 1, .int 0, .int 1, .ref q4_42_0, .ref q4_42_1, .ref q4_42_2, .ref q4_42_3])), (q4_42_0, .inl (c4_42_0, 8, .inl (fun _ => 0))), (q4_42_1, .inl (c4_42_1, 9, .inr (.inr (.inr (.inr (fun i => if i < 9 then some (rr_4_42 i) else none)))))), (rr_4_42 0, .inl (c4_42_0, 8, .inl (fun _ => 0))), (rr_4_42 1, .inl (c4_42_0, 8, .inl (fun _ => 0))), (rr_4_42 2, .inl (c4_42_0, 8, .inl (fun _ => 0))), (rr_4_42 3, .inl (c4_42_0, 8, .inl (fun _ => 0))), (rr_4_42 4, .inl (c4_42_0, 8, .inl (fun _ => 0))), (rr_4_42 5, .inl (c4_42_0, 8, .inl (fun _ => 0))), (rr_4_42 6, .inl (c4_42_0, 8, .inl (fun _ => 0))), (rr_4_42 7, .inl (c4_42_0, 8, .inl (fun _ => 0))), (rr_4_42 8, .inl (c4_42_0, 8, .inl (fun _ => 0))), (q4_42_2, .inl (c4_42_2, 8, .inl (fun _ => 0))), (q4_42_3, .inl (c4_42_3, 8, .inl (fun _ => 0))), (q4_4, .inr (5, [.int 0, .ref q4_53_0, .int 0, .int 0, .int 0, .int 0, .int 0, .null])), (q4_53_0, .inl (c4_53_0, 120, .inl (fun _ => 0))), (q4_5, .inr (4, [.int 0, .ref q4_64_0, .ref q4_64_1, .ref q4_64_2, .ref q4_64_3, .ref q4_64_4, .int 0, .ref q4_64_5, .int 0, .ref q4_64_6, .int 0])), (q4_64_0, .inl (c4_64_0, 10, .inl (fun _ => 0))), (q4_64_1, .inl (c4_64_1, 10, .inl (fun _ => 0))), (q4_64_2, .inl (c4_64_2, 10, .inl (fun _ => 0))), (q4_64_3, .inl (c4_64_3, 10, .inl (fun _ => 0))), (q4_64_4, .inl (c4_64_4, 10, .inl (fun _ => 0))), (q4_64_5, .inl (c4_64_5, 120, .inl (fun _ => 0))), (q4_64_6, .inl (c4_64_6, 120, .inl (fun _ => 0))), (q4_6, .inr (4, [.int 0, .ref q4_75_0, .ref q4_75_1, .ref q4_75_2, .ref q4_75_3, .ref q4_75_4, .int 0, .ref q4_75_5, .int 0, .ref q4_75_6, .int 0])), (q4_75_0, .inl (c4_75_0, 10, .inl (fun _ => 0))), (q4_75_1, .inl (c4_75_1, 10, .inl (fun _ => 0))), (q4_75_2, .inl (c4_75_2, 10, .inl (fun _ => 0))), (q4_75_3, .inl (c4_75_3, 10, .inl (fun _ => 0))), (q4_75_4, .inl (c4_75_4, 10, .inl (fun _ => 0))), (q4_75_5, .inl (c4_75_5, 120, .inl (fun _ => 0))), (q4_75_6, .inl (c4_75_6, 120, .inl (fun _ => 0)))] := hD
  have hK : va_K (dC, dI) vwCl [(c4_9_0, .int), (c4_9_1, .int), (c4_9_2, .int), (c4_9_3, .int), (c4_9_4, .int), (c4_20_0, .int), (c4_20_1, .int), (c4_20_2, .int), (c4_20_3, .int), (c4_31_0, .int), (c4_42_0, .int), (c4_42_1, .array .int), (c4_42_2, .int), (c4_42_3, .int), (c4_53_0, .int), (c4_64_0, .int), (c4_64_1, .int), (c4_64_2, .int), (c4_64_3, .int), (c4_64_4, .int), (c4_64_5, .int), (c4_64_6, .int), (c4_75_0, .int), (c4_75_1, .int), (c4_75_2, .int), (c4_75_3, .int), (c4_75_4, .int), (c4_75_5, .int), (c4_75_6, .int)] s := hK
  refine W.widen (k := 46) (n := 1044) (Nat.le_of_ble_eq_true rfl) (Nat.le_of_ble_eq_true rfl) ?_
  refine lv_astore_n (lv' := [(1, .ref qx), (0, .ref b)]) hx hb dL_7 rfl hl (by decide) rfl (fun ls hl => ?_)
  refine va_new (ci := 7) (fs := [.null, .null, .int 0, .null, .null, .null, .int 0, .null, .null, .int 0, .null, .null, .null, .null, .int 0, .int 0, .null, .null, .int 0, .null, .null, .null, .null, .int 0, .int 0, .null, .int 0, .null, .null, .int 0, .int 0, .int 0, .int 0, .null, .int 0, .int 0, .null]) (C := RX7) (T := TX7) (N := 37) hx hb htc (fun w hw => om_tc_b (om_tb_cw ((om_cls 7 (by decide)).2.1 w hw))) tyX7 tyX7_ok hown (hts _ (List.mem_of_getElem? (i := 916) rfl)) (hts _ (List.mem_of_getElem? (i := 917) rfl)) (hts _ (List.mem_of_getElem? (i := 125) rfl)) hK hP hD hS hA rfl (by decide) (Nat.le_of_ble_eq_true rfl) (Nat.le_of_ble_eq_true rfl) dL_8 (fun qm H hP hD hS => ?_)
  have hP : va_P (dC, dI) vwCl [(qx, .inr (6, [.ref q4_0, .ref q4_1, .ref q4_2, .ref q4_3, .ref q4_4, .ref q4_5, .ref q4_6])), (q4_0, .inr (0, [.int 0, .int 0, .int 0, .ref q4_9_0, .ref q4_9_1, .ref q4_9_2, .ref q4_9_3, .ref q4_9_4])), (q4_9_0, .inl (c4_9_0, 8, .inl (fun _ => 0))), (q4_9_1, .inl (c4_9_1, 8, .inl (fun _ => 0))), (q4_9_2, .inl (c4_9_2, 20, .inl (fun _ => 0))), (q4_9_3, .inl (c4_9_3, 20, .inl (fun _ => 0))), (q4_9_4, .inl (c4_9_4, 20, .inl (fun _ => 0))), (q4_1, .inr (3, [.int 0, .int 0, .int 0, .ref q4_20_0, .ref q4_20_1, .ref q4_20_2, .ref q4_20_3])), (q4_20_0, .inl (c4_20_0, 28, .inl (fun _ => 0))), (q4_20_1, .inl (c4_20_1, 28, .inl (fun _ => 0))), (q4_20_2, .inl (c4_20_2, 28, .inl (fun _ => 0))), (q4_20_3, .inl (c4_20_3, 8, .inl (fun _ => 0))), (q4_2, .inr (1, [.ref q4_31_0, .int 0])), (q4_31_0, .inl (c4_31_0, 9, .inl (fun _ => 0))), (q4_3, .inr (2, [.int 0, .int 1, .int 0, .int 1, .ref q4_42_0, .ref q4_42_1, .ref q4_42_2, .ref q4_42_3])), (q4_42_0, .inl (c4_42_0, 8, .inl (fun _ => 0))), (q4_42_1, .inl (c4_42_1, 9, .inr (.inr (.inr (.inr (fun i => if i < 9 then some (rr_4_42 i) else none)))))), (rr_4_42 0, .inl (c4_42_0, 8, .inl (fun _ => 0))), (rr_4_42 1, .inl (c4_42_0, 8, .inl (fun _ => 0))), (rr_4_42 2, .inl (c4_42_0, 8, .inl (fun _ => 0))), (rr_4_42 3, .inl (c4_42_0, 8, .inl (fun _ => 0))), (rr_4_42 4, .inl (c4_42_0, 8, .inl (fun _ => 0))), (rr_4_42 5, .inl (c4_42_0, 8, .inl (fun _ => 0))), (rr_4_42 6, .inl (c4_42_0, 8, .inl (fun _ => 0))), (rr_4_42 7, .inl (c4_42_0, 8, .inl (fun _ => 0))), (rr_4_42 8, .inl (c4_42_0, 8, .inl (fun _ => 0))), (q4_42_2, .inl (c4_42_2, 8, .inl (fun _ => 0))), (q4_42_3, .inl (c4_42_3, 8, .inl (fun _ => 0))), (q4_4, .inr (5, [.int 0, .ref q4_53_0, .int 0, .int 0, .int 0, .int 0, .int 0, .null])), (q4_53_0, .inl (c4_53_0, 120, .inl (fun _ => 0))), (q4_5, .inr (4, [.int 0, .ref q4_64_0, .ref q4_64_1, .ref q4_64_2, .ref q4_64_3, .ref q4_64_4, .int 0, .ref q4_64_5, .int 0, .ref q4_64_6, .int 0])), (q4_64_0, .inl (c4_64_0, 10, .inl (fun _ => 0))), (q4_64_1, .inl (c4_64_1, 10, .inl (fun _ => 0))), (q4_64_2, .inl (c4_64_2, 10, .inl (fun _ => 0))), (q4_64_3, .inl (c4_64_3, 10, .inl (fun _ => 0))), (q4_64_4, .inl (c4_64_4, 10, .inl (fun _ => 0))), (q4_64_5, .inl (c4_64_5, 120, .inl (fun _ => 0))), (q4_64_6, .inl (c4_64_6, 120, .inl (fun _ => 0))), (q4_6, .inr (4, [.int 0, .ref q4_75_0, .ref q4_75_1, .ref q4_75_2, .ref q4_75_3, .ref q4_75_4, .int 0, .ref q4_75_5, .int 0, .ref q4_75_6, .int 0])), (q4_75_0, .inl (c4_75_0, 10, .inl (fun _ => 0))), (q4_75_1, .inl (c4_75_1, 10, .inl (fun _ => 0))), (q4_75_2, .inl (c4_75_2, 10, .inl (fun _ => 0))), (q4_75_3, .inl (c4_75_3, 10, .inl (fun _ => 0))), (q4_75_4, .inl (c4_75_4, 10, .inl (fun _ => 0))), (q4_75_5, .inl (c4_75_5, 120, .inl (fun _ => 0))), (q4_75_6, .inl (c4_75_6, 120, .inl (fun _ => 0))), (qm, .inr (7, [.null, .null, .int 0, .null, .null, .null, .int 0, .null, .null, .int 0, .null, .null, .null, .null, .int 0, .int 0, .null, .null, .int 0, .null, .null, .null, .null, .int 0, .int 0, .null, .int 0, .null, .null, .int 0, .int 0, .int 0, .int 0, .null, .int 0, .int 0, .null]))] H := hP
  have hD : va_D (fun q : Nat => s.heap.size ≤ q) [(qx, .inr (6, [.ref q4_0, .ref q4_1, .ref q4_2, .ref q4_3, .ref q4_4, .ref q4_5, .ref q4_6])), (q4_0, .inr (0, [.int 0, .int 0, .int 0, .ref q4_9_0, .ref q4_9_1, .ref q4_9_2, .ref q4_9_3, .ref q4_9_4])), (q4_9_0, .inl (c4_9_0, 8, .inl (fun _ => 0))), (q4_9_1, .inl (c4_9_1, 8, .inl (fun _ => 0))), (q4_9_2, .inl (c4_9_2, 20, .inl (fun _ => 0))), (q4_9_3, .inl (c4_9_3, 20, .inl (fun _ => 0))), (q4_9_4, .inl (c4_9_4, 20, .inl (fun _ => 0))), (q4_1, .inr (3, [.int 0, .int 0, .int 0, .ref q4_20_0, .ref q4_20_1, .ref q4_20_2, .ref q4_20_3])), (q4_20_0, .inl (c4_20_0, 28, .inl (fun _ => 0))), (q4_20_1, .inl (c4_20_1, 28, .inl (fun _ => 0))), (q4_20_2, .inl (c4_20_2, 28, .inl (fun _ => 0))), (q4_20_3, .inl (c4_20_3, 8, .inl (fun _ => 0))), (q4_2, .inr (1, [.ref q4_31_0, .int 0])), (q4_31_0, .inl (c4_31_0, 9, .inl (fun _ => 0))), (q4_3, .inr (2, [.int 0, .int 1, .int 0, .int 1, .ref q4_42_0, .ref q4_42_1, .ref q4_42_2, .ref q4_42_3])), (q4_42_0, .inl (c4_42_0, 8, .inl (fun _ => 0))), (q4_42_1, .inl (c4_42_1, 9, .inr (.inr (.inr (.inr (fun i => if i < 9 then some (rr_4_42 i) else none)))))), (rr_4_42 0, .inl (c4_42_0, 8, .inl (fun _ => 0))), (rr_4_42 1, .inl (c4_42_0, 8, .inl (fun _ => 0))), (rr_4_42 2, .inl (c4_42_0, 8, .inl (fun _ => 0))), (rr_4_42 3, .inl (c4_42_0, 8, .inl (fun _ => 0))), (rr_4_42 4, .inl (c4_42_0, 8, .inl (fun _ => 0))), (rr_4_42 5, .inl (c4_42_0, 8, .inl (fun _ => 0))), (rr_4_42 6, .inl (c4_42_0, 8, .inl (fun _ => 0))), (rr_4_42 7, .inl (c4_42_0, 8, .inl (fun _ => 0))), (rr_4_42 8, .inl (c4_42_0, 8, .inl (fun _ => 0))), (q4_42_2, .inl (c4_42_2, 8, .inl (fun _ => 0))), (q4_42_3, .inl (c4_42_3, 8, .inl (fun _ => 0))), (q4_4, .inr (5, [.int 0, .ref q4_53_0, .int 0, .int 0, .int 0, .int 0, .int 0, .null])), (q4_53_0, .inl (c4_53_0, 120, .inl (fun _ => 0))), (q4_5, .inr (4, [.int 0, .ref q4_64_0, .ref q4_64_1, .ref q4_64_2, .ref q4_64_3, .ref q4_64_4, .int 0, .ref q4_64_5, .int 0, .ref q4_64_6, .int 0])), (q4_64_0, .inl (c4_64_0, 10, .inl (fun _ => 0))), (q4_64_1, .inl (c4_64_1, 10, .inl (fun _ => 0))), (q4_64_2, .inl (c4_64_2, 10, .inl (fun _ => 0))), (q4_64_3, .inl (c4_64_3, 10, .inl (fun _ => 0))), (q4_64_4, .inl (c4_64_4, 10, .inl (fun _ => 0))), (q4_64_5, .inl (c4_64_5, 120, .inl (fun _ => 0))), (q4_64_6, .inl (c4_64_6, 120, .inl (fun _ => 0))), (q4_6, .inr (4, [.int 0, .ref q4_75_0, .ref q4_75_1, .ref q4_75_2, .ref q4_75_3, .ref q4_75_4, .int 0, .ref q4_75_5, .int 0, .ref q4_75_6, .int 0])), (q4_75_0, .inl (c4_75_0, 10, .inl (fun _ => 0))), (q4_75_1, .inl (c4_75_1, 10, .inl (fun _ => 0))), (q4_75_2, .inl (c4_75_2, 10, .inl (fun _ => 0))), (q4_75_3, .inl (c4_75_3, 10, .inl (fun _ => 0))), (q4_75_4, .inl (c4_75_4, 10, .inl (fun _ => 0))), (q4_75_5, .inl (c4_75_5, 120, .inl (fun _ => 0))), (q4_75_6, .inl (c4_75_6, 120, .inl (fun _ => 0))), (qm, .inr (7, [.null, .null, .int 0, .null, .null, .null, .int 0, .null, .null, .int 0, .null, .null, .null, .null, .int 0, .int 0, .null, .null, .int 0, .null, .null, .null, .null, .int 0, .int 0, .null, .int 0, .null, .null, .int 0, .int 0, .int 0, .int 0, .null, .int 0, .int 0, .null]))] := hD
  refine W.widen (k := 47) (n := 1081) (Nat.le_of_ble_eq_true rfl) (Nat.le_of_ble_eq_true rfl) ?_
  refine lv_dup hx hb dL_11 rfl ?_
  have hPc := hP.sub (ws' := [(qm, .inr (7, [.null, .null, .int 0, .null, .null, .null, .int 0, .null, .null, .int 0, .null, .null, .null, .null, .int 0, .int 0, .null, .null, .int 0, .null, .null, .null, .null, .int 0, .int 0, .null, .int 0, .null, .null, .int 0, .int 0, .int 0, .int 0, .null, .int 0, .int 0, .null]))]) [46] rfl
  have hDc := hD.sub (ws' := [(qm, .inr (7, [.null, .null, .int 0, .null, .null, .null, .int 0, .null, .null, .int 0, .null, .null, .null, .null, .int 0, .int 0, .null, .null, .int 0, .null, .null, .null, .null, .int 0, .int 0, .null, .int 0, .null, .null, .int 0, .int 0, .int 0, .int 0, .null, .int 0, .int 0, .null]))]) [46] (by decide) rfl
  have hKc := hK.sub (tys' := []) [] rfl
  have hFc := va_free (wc := [(qm, .inr (7, [.null, .null, .int 0, .null, .null, .null, .int 0, .null, .null, .int 0, .null, .null, .null, .null, .int 0, .int 0, .null, .null, .int 0, .null, .null, .null, .null, .int 0, .int 0, .null, .int 0, .null, .null, .int 0, .int 0, .int 0, .int 0, .null, .int 0, .int 0, .null]))]) hD hS hA [46] rfl
  have hcB : CallB room_1 s #[Value.ref b] R_law 12 yX7_init cX7_init 1 none (om_wc yX7_init cX7_init) { frames := 1, cells := 22, slots := 1586, locals := 12 } 22 1586 0 := by
    refine ⟨rfl, rfl, Nat.le_of_ble_eq_true rfl, Nat.le_of_ble_eq_true rfl, om_wcw htc (List.mem_of_getElem? (i := 60) rfl), List.mem_cons_self, hts _ (om_tc_in _ (om_tc_x (List.mem_of_getElem? (i := 60) rfl))), hts _ (om_tc_in _ (om_tc_x (List.mem_of_getElem? (i := 8) rfl))), ⟨by decide +kernel, by decide +kernel⟩, fun sig hs => ?_, hts _ (List.mem_of_getElem? (i := 918) rfl)⟩
    have h3 : (parseMethodDescriptor (yX7_init).desc).map (fun d => d.parameters.length) = some 0 := by decide +kernel
    rw [hs] at h3
    exact (Option.some.inj h3).symm
  refine va_callv (va_runI (As := []) (rest := [.ref qm]) ⟨hx, hb, hml, hown, htc⟩ (om_kX7 l dC dI qm H.size) ⟨hcB, rfl, hts _ (om_tc_in _ (om_tc_x (List.mem_of_getElem? (i := 59) rfl)))⟩ ⟨fun a U g mk q => by obtain ⟨q0, q1, qP, qK, qD, qC⟩ := q; exact ⟨q0, q1, qP, va_K.moved (u := U) (U := U.calling g mk a) (Vm.Alike.refl U.vm) qK, qD, om_KC.same (u := U) (U := U.calling g mk a) rfl qC⟩, fun U hU hW => ⟨rfl, by rw [hU], by rw [hU]; exact hPc, va_K.moved hW.alike hKc, hDc.weaken (fun _ _ _ _ => trivial), hKC.warm hW⟩⟩ rfl rfl hl.1 rfl (lv_room (Nat.le_of_ble_eq_true rfl)) dL_12 ⟨Nat.le_of_ble_eq_true rfl, Nat.le_of_ble_eq_true rfl⟩) hS (fun q _ h => hFc q h) hFc (fun u t H1 locs ht hvm hw hB hz1 hk1 hS => ?_)
  obtain ⟨q12_0, c12_0, q12_1, c12_1, q12_2, c12_2, q12_3, c12_3, q12_4, c12_4, q12_5, c12_5, q12_6, c12_6, q12_7, c12_7, q12_8, c12_8, q12_9, c12_9, q12_10, c12_10, q12_11, c12_11, q12_12, c12_12, q12_13, c12_13, q12_14, c12_14, q12_15, c12_15, q12_16, c12_16, q12_17, c12_17, q12_18, c12_18, q12_19, c12_19, q12_20, c12_20, q12_21, c12_21, hP1, hK1, hD1⟩ := hB
  rw [ht] at hP1
  have hK1 := va_K.moved hvm.symm hK1
  obtain ⟨hP, hD⟩ := va_join (wr := [(qx, .inr (6, [.ref q4_0, .ref q4_1, .ref q4_2, .ref q4_3, .ref q4_4, .ref q4_5, .ref q4_6])), (q4_0, .inr (0, [.int 0, .int 0, .int 0, .ref q4_9_0, .ref q4_9_1, .ref q4_9_2, .ref q4_9_3, .ref q4_9_4])), (q4_9_0, .inl (c4_9_0, 8, .inl (fun _ => 0))), (q4_9_1, .inl (c4_9_1, 8, .inl (fun _ => 0))), (q4_9_2, .inl (c4_9_2, 20, .inl (fun _ => 0))), (q4_9_3, .inl (c4_9_3, 20, .inl (fun _ => 0))), (q4_9_4, .inl (c4_9_4, 20, .inl (fun _ => 0))), (q4_1, .inr (3, [.int 0, .int 0, .int 0, .ref q4_20_0, .ref q4_20_1, .ref q4_20_2, .ref q4_20_3])), (q4_20_0, .inl (c4_20_0, 28, .inl (fun _ => 0))), (q4_20_1, .inl (c4_20_1, 28, .inl (fun _ => 0))), (q4_20_2, .inl (c4_20_2, 28, .inl (fun _ => 0))), (q4_20_3, .inl (c4_20_3, 8, .inl (fun _ => 0))), (q4_2, .inr (1, [.ref q4_31_0, .int 0])), (q4_31_0, .inl (c4_31_0, 9, .inl (fun _ => 0))), (q4_3, .inr (2, [.int 0, .int 1, .int 0, .int 1, .ref q4_42_0, .ref q4_42_1, .ref q4_42_2, .ref q4_42_3])), (q4_42_0, .inl (c4_42_0, 8, .inl (fun _ => 0))), (q4_42_1, .inl (c4_42_1, 9, .inr (.inr (.inr (.inr (fun i => if i < 9 then some (rr_4_42 i) else none)))))), (rr_4_42 0, .inl (c4_42_0, 8, .inl (fun _ => 0))), (rr_4_42 1, .inl (c4_42_0, 8, .inl (fun _ => 0))), (rr_4_42 2, .inl (c4_42_0, 8, .inl (fun _ => 0))), (rr_4_42 3, .inl (c4_42_0, 8, .inl (fun _ => 0))), (rr_4_42 4, .inl (c4_42_0, 8, .inl (fun _ => 0))), (rr_4_42 5, .inl (c4_42_0, 8, .inl (fun _ => 0))), (rr_4_42 6, .inl (c4_42_0, 8, .inl (fun _ => 0))), (rr_4_42 7, .inl (c4_42_0, 8, .inl (fun _ => 0))), (rr_4_42 8, .inl (c4_42_0, 8, .inl (fun _ => 0))), (q4_42_2, .inl (c4_42_2, 8, .inl (fun _ => 0))), (q4_42_3, .inl (c4_42_3, 8, .inl (fun _ => 0))), (q4_4, .inr (5, [.int 0, .ref q4_53_0, .int 0, .int 0, .int 0, .int 0, .int 0, .null])), (q4_53_0, .inl (c4_53_0, 120, .inl (fun _ => 0))), (q4_5, .inr (4, [.int 0, .ref q4_64_0, .ref q4_64_1, .ref q4_64_2, .ref q4_64_3, .ref q4_64_4, .int 0, .ref q4_64_5, .int 0, .ref q4_64_6, .int 0])), (q4_64_0, .inl (c4_64_0, 10, .inl (fun _ => 0))), (q4_64_1, .inl (c4_64_1, 10, .inl (fun _ => 0))), (q4_64_2, .inl (c4_64_2, 10, .inl (fun _ => 0))), (q4_64_3, .inl (c4_64_3, 10, .inl (fun _ => 0))), (q4_64_4, .inl (c4_64_4, 10, .inl (fun _ => 0))), (q4_64_5, .inl (c4_64_5, 120, .inl (fun _ => 0))), (q4_64_6, .inl (c4_64_6, 120, .inl (fun _ => 0))), (q4_6, .inr (4, [.int 0, .ref q4_75_0, .ref q4_75_1, .ref q4_75_2, .ref q4_75_3, .ref q4_75_4, .int 0, .ref q4_75_5, .int 0, .ref q4_75_6, .int 0])), (q4_75_0, .inl (c4_75_0, 10, .inl (fun _ => 0))), (q4_75_1, .inl (c4_75_1, 10, .inl (fun _ => 0))), (q4_75_2, .inl (c4_75_2, 10, .inl (fun _ => 0))), (q4_75_3, .inl (c4_75_3, 10, .inl (fun _ => 0))), (q4_75_4, .inl (c4_75_4, 10, .inl (fun _ => 0))), (q4_75_5, .inl (c4_75_5, 120, .inl (fun _ => 0))), (q4_75_6, .inl (c4_75_6, 120, .inl (fun _ => 0)))]) (w1 := [(qm, .inr (7, [.ref q12_0, .ref q12_1, .int 0, .ref q12_2, .ref q12_3, .ref q12_4, .int 0, .ref q12_5, .ref q12_6, .int 0, .ref q12_7, .ref q12_8, .ref q12_9, .ref q12_10, .int 0, .int 0, .ref q12_11, .ref q12_12, .int (-1), .ref q12_13, .ref q12_14, .ref q12_15, .ref q12_16, .int 0, .int 0, .ref q12_17, .int 0, .ref q12_18, .ref q12_19, .int 0, .int 0, .int 0, .int 0, .ref q12_20, .int 0, .int 0, .ref q12_21])), (q12_0, .inl (c12_0, 8, .inl (fun _ => 0))), (q12_1, .inl (c12_1, 8, .inl (fun _ => 0))), (q12_2, .inl (c12_2, 20, .inl (fun _ => 0))), (q12_3, .inl (c12_3, 20, .inl (fun _ => 0))), (q12_4, .inl (c12_4, 20, .inl (fun _ => 0))), (q12_5, .inl (c12_5, 8, .inl (upd (upd (upd (upd (upd (upd (upd (upd (fun _ => 0) 0 (-1)) 1 (-1)) 2 (-1)) 3 (-1)) 4 (-1)) 5 (-1)) 6 (-1)) 7 (-1)))), (q12_6, .inl (c12_6, 120, .inl (fun _ => 0))), (q12_7, .inl (c12_7, 240, .inl (fun _ => 0))), (q12_8, .inl (c12_8, 240, .inl (fun _ => 0))), (q12_9, .inl (c12_9, 240, .inl (fun _ => 0))), (q12_10, .inl (c12_10, 240, .inl (fun _ => 0))), (q12_11, .inl (c12_11, 8, .inl (fun _ => 0))), (q12_12, .inl (c12_12, 8, .inl (upd (upd (upd (upd (upd (upd (upd (upd (fun _ => 0) 0 (-1)) 1 (-1)) 2 (-1)) 3 (-1)) 4 (-1)) 5 (-1)) 6 (-1)) 7 (-1)))), (q12_13, .inl (c12_13, 8, .inl (fun _ => 0))), (q12_14, .inl (c12_14, 4, .inl (fun _ => 0))), (q12_15, .inl (c12_15, 8, .inl (fun _ => 0))), (q12_16, .inl (c12_16, 8, .inl (fun _ => 0))), (q12_17, .inl (c12_17, 10, .inl (fun _ => 0))), (q12_18, .inl (c12_18, 64, .inl (fun _ => 0))), (q12_19, .inl (c12_19, 64, .inl (fun _ => 0))), (q12_20, .inl (c12_20, 120, .inl (fun _ => 0))), (q12_21, .inl (c12_21, 120, .inl (fun _ => 0)))]) hP hD [46] [0, 1, 2, 3, 4, 5, 6, 7, 8, 9, 10, 11, 12, 13, 14, 15, 16, 17, 18, 19, 20, 21, 22, 23, 24, 25, 26, 27, 28, 29, 30, 31, 32, 33, 34, 35, 36, 37, 38, 39, 40, 41, 42, 43, 44, 45] rfl rfl (by decide) (by decide) hk1 hFc hP1 hD1
  have hK := hK.app hK1
  generalize H1 = H at hP hS ⊢
  have hP : va_P (dC, dI) vwCl [(qx, .inr (6, [.ref q4_0, .ref q4_1, .ref q4_2, .ref q4_3, .ref q4_4, .ref q4_5, .ref q4_6])), (q4_0, .inr (0, [.int 0, .int 0, .int 0, .ref q4_9_0, .ref q4_9_1, .ref q4_9_2, .ref q4_9_3, .ref q4_9_4])), (q4_9_0, .inl (c4_9_0, 8, .inl (fun _ => 0))), (q4_9_1, .inl (c4_9_1, 8, .inl (fun _ => 0))), (q4_9_2, .inl (c4_9_2, 20, .inl (fun _ => 0))), (q4_9_3, .inl (c4_9_3, 20, .inl (fun _ => 0))), (q4_9_4, .inl (c4_9_4, 20, .inl (fun _ => 0))), (q4_1, .inr (3, [.int 0, .int 0, .int 0, .ref q4_20_0, .ref q4_20_1, .ref q4_20_2, .ref q4_20_3])), (q4_20_0, .inl (c4_20_0, 28, .inl (fun _ => 0))), (q4_20_1, .inl (c4_20_1, 28, .inl (fun _ => 0))), (q4_20_2, .inl (c4_20_2, 28, .inl (fun _ => 0))), (q4_20_3, .inl (c4_20_3, 8, .inl (fun _ => 0))), (q4_2, .inr (1, [.ref q4_31_0, .int 0])), (q4_31_0, .inl (c4_31_0, 9, .inl (fun _ => 0))), (q4_3, .inr (2, [.int 0, .int 1, .int 0, .int 1, .ref q4_42_0, .ref q4_42_1, .ref q4_42_2, .ref q4_42_3])), (q4_42_0, .inl (c4_42_0, 8, .inl (fun _ => 0))), (q4_42_1, .inl (c4_42_1, 9, .inr (.inr (.inr (.inr (fun i => if i < 9 then some (rr_4_42 i) else none)))))), (rr_4_42 0, .inl (c4_42_0, 8, .inl (fun _ => 0))), (rr_4_42 1, .inl (c4_42_0, 8, .inl (fun _ => 0))), (rr_4_42 2, .inl (c4_42_0, 8, .inl (fun _ => 0))), (rr_4_42 3, .inl (c4_42_0, 8, .inl (fun _ => 0))), (rr_4_42 4, .inl (c4_42_0, 8, .inl (fun _ => 0))), (rr_4_42 5, .inl (c4_42_0, 8, .inl (fun _ => 0))), (rr_4_42 6, .inl (c4_42_0, 8, .inl (fun _ => 0))), (rr_4_42 7, .inl (c4_42_0, 8, .inl (fun _ => 0))), (rr_4_42 8, .inl (c4_42_0, 8, .inl (fun _ => 0))), (q4_42_2, .inl (c4_42_2, 8, .inl (fun _ => 0))), (q4_42_3, .inl (c4_42_3, 8, .inl (fun _ => 0))), (q4_4, .inr (5, [.int 0, .ref q4_53_0, .int 0, .int 0, .int 0, .int 0, .int 0, .null])), (q4_53_0, .inl (c4_53_0, 120, .inl (fun _ => 0))), (q4_5, .inr (4, [.int 0, .ref q4_64_0, .ref q4_64_1, .ref q4_64_2, .ref q4_64_3, .ref q4_64_4, .int 0, .ref q4_64_5, .int 0, .ref q4_64_6, .int 0])), (q4_64_0, .inl (c4_64_0, 10, .inl (fun _ => 0))), (q4_64_1, .inl (c4_64_1, 10, .inl (fun _ => 0))), (q4_64_2, .inl (c4_64_2, 10, .inl (fun _ => 0))), (q4_64_3, .inl (c4_64_3, 10, .inl (fun _ => 0))), (q4_64_4, .inl (c4_64_4, 10, .inl (fun _ => 0))), (q4_64_5, .inl (c4_64_5, 120, .inl (fun _ => 0))), (q4_64_6, .inl (c4_64_6, 120, .inl (fun _ => 0))), (q4_6, .inr (4, [.int 0, .ref q4_75_0, .ref q4_75_1, .ref q4_75_2, .ref q4_75_3, .ref q4_75_4, .int 0, .ref q4_75_5, .int 0, .ref q4_75_6, .int 0])), (q4_75_0, .inl (c4_75_0, 10, .inl (fun _ => 0))), (q4_75_1, .inl (c4_75_1, 10, .inl (fun _ => 0))), (q4_75_2, .inl (c4_75_2, 10, .inl (fun _ => 0))), (q4_75_3, .inl (c4_75_3, 10, .inl (fun _ => 0))), (q4_75_4, .inl (c4_75_4, 10, .inl (fun _ => 0))), (q4_75_5, .inl (c4_75_5, 120, .inl (fun _ => 0))), (q4_75_6, .inl (c4_75_6, 120, .inl (fun _ => 0))), (qm, .inr (7, [.ref q12_0, .ref q12_1, .int 0, .ref q12_2, .ref q12_3, .ref q12_4, .int 0, .ref q12_5, .ref q12_6, .int 0, .ref q12_7, .ref q12_8, .ref q12_9, .ref q12_10, .int 0, .int 0, .ref q12_11, .ref q12_12, .int (-1), .ref q12_13, .ref q12_14, .ref q12_15, .ref q12_16, .int 0, .int 0, .ref q12_17, .int 0, .ref q12_18, .ref q12_19, .int 0, .int 0, .int 0, .int 0, .ref q12_20, .int 0, .int 0, .ref q12_21])), (q12_0, .inl (c12_0, 8, .inl (fun _ => 0))), (q12_1, .inl (c12_1, 8, .inl (fun _ => 0))), (q12_2, .inl (c12_2, 20, .inl (fun _ => 0))), (q12_3, .inl (c12_3, 20, .inl (fun _ => 0))), (q12_4, .inl (c12_4, 20, .inl (fun _ => 0))), (q12_5, .inl (c12_5, 8, .inl (upd (upd (upd (upd (upd (upd (upd (upd (fun _ => 0) 0 (-1)) 1 (-1)) 2 (-1)) 3 (-1)) 4 (-1)) 5 (-1)) 6 (-1)) 7 (-1)))), (q12_6, .inl (c12_6, 120, .inl (fun _ => 0))), (q12_7, .inl (c12_7, 240, .inl (fun _ => 0))), (q12_8, .inl (c12_8, 240, .inl (fun _ => 0))), (q12_9, .inl (c12_9, 240, .inl (fun _ => 0))), (q12_10, .inl (c12_10, 240, .inl (fun _ => 0))), (q12_11, .inl (c12_11, 8, .inl (fun _ => 0))), (q12_12, .inl (c12_12, 8, .inl (upd (upd (upd (upd (upd (upd (upd (upd (fun _ => 0) 0 (-1)) 1 (-1)) 2 (-1)) 3 (-1)) 4 (-1)) 5 (-1)) 6 (-1)) 7 (-1)))), (q12_13, .inl (c12_13, 8, .inl (fun _ => 0))), (q12_14, .inl (c12_14, 4, .inl (fun _ => 0))), (q12_15, .inl (c12_15, 8, .inl (fun _ => 0))), (q12_16, .inl (c12_16, 8, .inl (fun _ => 0))), (q12_17, .inl (c12_17, 10, .inl (fun _ => 0))), (q12_18, .inl (c12_18, 64, .inl (fun _ => 0))), (q12_19, .inl (c12_19, 64, .inl (fun _ => 0))), (q12_20, .inl (c12_20, 120, .inl (fun _ => 0))), (q12_21, .inl (c12_21, 120, .inl (fun _ => 0)))] H := hP
  have hD : va_D (fun q : Nat => s.heap.size ≤ q) [(qx, .inr (6, [.ref q4_0, .ref q4_1, .ref q4_2, .ref q4_3, .ref q4_4, .ref q4_5, .ref q4_6])), (q4_0, .inr (0, [.int 0, .int 0, .int 0, .ref q4_9_0, .ref q4_9_1, .ref q4_9_2, .ref q4_9_3, .ref q4_9_4])), (q4_9_0, .inl (c4_9_0, 8, .inl (fun _ => 0))), (q4_9_1, .inl (c4_9_1, 8, .inl (fun _ => 0))), (q4_9_2, .inl (c4_9_2, 20, .inl (fun _ => 0))), (q4_9_3, .inl (c4_9_3, 20, .inl (fun _ => 0))), (q4_9_4, .inl (c4_9_4, 20, .inl (fun _ => 0))), (q4_1, .inr (3, [.int 0, .int 0, .int 0, .ref q4_20_0, .ref q4_20_1, .ref q4_20_2, .ref q4_20_3])), (q4_20_0, .inl (c4_20_0, 28, .inl (fun _ => 0))), (q4_20_1, .inl (c4_20_1, 28, .inl (fun _ => 0))), (q4_20_2, .inl (c4_20_2, 28, .inl (fun _ => 0))), (q4_20_3, .inl (c4_20_3, 8, .inl (fun _ => 0))), (q4_2, .inr (1, [.ref q4_31_0, .int 0])), (q4_31_0, .inl (c4_31_0, 9, .inl (fun _ => 0))), (q4_3, .inr (2, [.int 0, .int 1, .int 0, .int 1, .ref q4_42_0, .ref q4_42_1, .ref q4_42_2, .ref q4_42_3])), (q4_42_0, .inl (c4_42_0, 8, .inl (fun _ => 0))), (q4_42_1, .inl (c4_42_1, 9, .inr (.inr (.inr (.inr (fun i => if i < 9 then some (rr_4_42 i) else none)))))), (rr_4_42 0, .inl (c4_42_0, 8, .inl (fun _ => 0))), (rr_4_42 1, .inl (c4_42_0, 8, .inl (fun _ => 0))), (rr_4_42 2, .inl (c4_42_0, 8, .inl (fun _ => 0))), (rr_4_42 3, .inl (c4_42_0, 8, .inl (fun _ => 0))), (rr_4_42 4, .inl (c4_42_0, 8, .inl (fun _ => 0))), (rr_4_42 5, .inl (c4_42_0, 8, .inl (fun _ => 0))), (rr_4_42 6, .inl (c4_42_0, 8, .inl (fun _ => 0))), (rr_4_42 7, .inl (c4_42_0, 8, .inl (fun _ => 0))), (rr_4_42 8, .inl (c4_42_0, 8, .inl (fun _ => 0))), (q4_42_2, .inl (c4_42_2, 8, .inl (fun _ => 0))), (q4_42_3, .inl (c4_42_3, 8, .inl (fun _ => 0))), (q4_4, .inr (5, [.int 0, .ref q4_53_0, .int 0, .int 0, .int 0, .int 0, .int 0, .null])), (q4_53_0, .inl (c4_53_0, 120, .inl (fun _ => 0))), (q4_5, .inr (4, [.int 0, .ref q4_64_0, .ref q4_64_1, .ref q4_64_2, .ref q4_64_3, .ref q4_64_4, .int 0, .ref q4_64_5, .int 0, .ref q4_64_6, .int 0])), (q4_64_0, .inl (c4_64_0, 10, .inl (fun _ => 0))), (q4_64_1, .inl (c4_64_1, 10, .inl (fun _ => 0))), (q4_64_2, .inl (c4_64_2, 10, .inl (fun _ => 0))), (q4_64_3, .inl (c4_64_3, 10, .inl (fun _ => 0))), (q4_64_4, .inl (c4_64_4, 10, .inl (fun _ => 0))), (q4_64_5, .inl (c4_64_5, 120, .inl (fun _ => 0))), (q4_64_6, .inl (c4_64_6, 120, .inl (fun _ => 0))), (q4_6, .inr (4, [.int 0, .ref q4_75_0, .ref q4_75_1, .ref q4_75_2, .ref q4_75_3, .ref q4_75_4, .int 0, .ref q4_75_5, .int 0, .ref q4_75_6, .int 0])), (q4_75_0, .inl (c4_75_0, 10, .inl (fun _ => 0))), (q4_75_1, .inl (c4_75_1, 10, .inl (fun _ => 0))), (q4_75_2, .inl (c4_75_2, 10, .inl (fun _ => 0))), (q4_75_3, .inl (c4_75_3, 10, .inl (fun _ => 0))), (q4_75_4, .inl (c4_75_4, 10, .inl (fun _ => 0))), (q4_75_5, .inl (c4_75_5, 120, .inl (fun _ => 0))), (q4_75_6, .inl (c4_75_6, 120, .inl (fun _ => 0))), (qm, .inr (7, [.ref q12_0, .ref q12_1, .int 0, .ref q12_2, .ref q12_3, .ref q12_4, .int 0, .ref q12_5, .ref q12_6, .int 0, .ref q12_7, .ref q12_8, .ref q12_9, .ref q12_10, .int 0, .int 0, .ref q12_11, .ref q12_12, .int (-1), .ref q12_13, .ref q12_14, .ref q12_15, .ref q12_16, .int 0, .int 0, .ref q12_17, .int 0, .ref q12_18, .ref q12_19, .int 0, .int 0, .int 0, .int 0, .ref q12_20, .int 0, .int 0, .ref q12_21])), (q12_0, .inl (c12_0, 8, .inl (fun _ => 0))), (q12_1, .inl (c12_1, 8, .inl (fun _ => 0))), (q12_2, .inl (c12_2, 20, .inl (fun _ => 0))), (q12_3, .inl (c12_3, 20, .inl (fun _ => 0))), (q12_4, .inl (c12_4, 20, .inl (fun _ => 0))), (q12_5, .inl (c12_5, 8, .inl (upd (upd (upd (upd (upd (upd (upd (upd (fun _ => 0) 0 (-1)) 1 (-1)) 2 (-1)) 3 (-1)) 4 (-1)) 5 (-1)) 6 (-1)) 7 (-1)))), (q12_6, .inl (c12_6, 120, .inl (fun _ => 0))), (q12_7, .inl (c12_7, 240, .inl (fun _ => 0))), (q12_8, .inl (c12_8, 240, .inl (fun _ => 0))), (q12_9, .inl (c12_9, 240, .inl (fun _ => 0))), (q12_10, .inl (c12_10, 240, .inl (fun _ => 0))), (q12_11, .inl (c12_11, 8, .inl (fun _ => 0))), (q12_12, .inl (c12_12, 8, .inl (upd (upd (upd (upd (upd (upd (upd (upd (fun _ => 0) 0 (-1)) 1 (-1)) 2 (-1)) 3 (-1)) 4 (-1)) 5 (-1)) 6 (-1)) 7 (-1)))), (q12_13, .inl (c12_13, 8, .inl (fun _ => 0))), (q12_14, .inl (c12_14, 4, .inl (fun _ => 0))), (q12_15, .inl (c12_15, 8, .inl (fun _ => 0))), (q12_16, .inl (c12_16, 8, .inl (fun _ => 0))), (q12_17, .inl (c12_17, 10, .inl (fun _ => 0))), (q12_18, .inl (c12_18, 64, .inl (fun _ => 0))), (q12_19, .inl (c12_19, 64, .inl (fun _ => 0))), (q12_20, .inl (c12_20, 120, .inl (fun _ => 0))), (q12_21, .inl (c12_21, 120, .inl (fun _ => 0)))] := hD
  have hK : va_K (dC, dI) vwCl [(c4_9_0, .int), (c4_9_1, .int), (c4_9_2, .int), (c4_9_3, .int), (c4_9_4, .int), (c4_20_0, .int), (c4_20_1, .int), (c4_20_2, .int), (c4_20_3, .int), (c4_31_0, .int), (c4_42_0, .int), (c4_42_1, .array .int), (c4_42_2, .int), (c4_42_3, .int), (c4_53_0, .int), (c4_64_0, .int), (c4_64_1, .int), (c4_64_2, .int), (c4_64_3, .int), (c4_64_4, .int), (c4_64_5, .int), (c4_64_6, .int), (c4_75_0, .int), (c4_75_1, .int), (c4_75_2, .int), (c4_75_3, .int), (c4_75_4, .int), (c4_75_5, .int), (c4_75_6, .int), (c12_0, .int), (c12_1, .int), (c12_2, .int), (c12_3, .int), (c12_4, .int), (c12_5, .int), (c12_6, .int), (c12_7, .int), (c12_8, .int), (c12_9, .int), (c12_10, .int), (c12_11, .int), (c12_12, .int), (c12_13, .int), (c12_14, .int), (c12_15, .int), (c12_16, .int), (c12_17, .int), (c12_18, .int), (c12_19, .int), (c12_20, .int), (c12_21, .boolean)] s := hK
  refine W.widen (k := 69) (n := 2667) (Nat.le_of_ble_eq_true rfl) (Nat.le_of_ble_eq_true rfl) ?_
  refine lv_astore_n (lv' := [(2, .ref qm), (1, .ref qx), (0, .ref b)]) hx hb dL_15 rfl hl (by decide) rfl (fun ls hl => ?_)
  refine lv_iconst (v := 0) hx hb dL_16 (by decide) ?_
  refine lv_istore_n (lv' := [(3, .int 0), (2, .ref qm), (1, .ref qx), (0, .ref b)]) hx hb dL_17 rfl hl (by decide) rfl (fun ls hl => ?_)
  obtain ⟨adK, adV, hstr, hadK⟩ := om_strs hts hgv
  obtain ⟨ad, hadL, hadK2, hadV2⟩ : ∃ ad : Nat → Nat, (∀ i, i < 69 → ad i = ([qx, q4_0, q4_9_0, q4_9_1, q4_9_2, q4_9_3, q4_9_4, q4_1, q4_20_0, q4_20_1, q4_20_2, q4_20_3, q4_2, q4_31_0, q4_3, q4_42_0, q4_42_1, q4_42_2, q4_42_3, (rr_4_42 0), (rr_4_42 1), (rr_4_42 2), (rr_4_42 3), (rr_4_42 4), (rr_4_42 5), (rr_4_42 6), (rr_4_42 7), (rr_4_42 8), q4_4, q4_53_0, q4_5, q4_64_0, q4_64_1, q4_64_2, q4_64_3, q4_64_4, q4_64_5, q4_64_6, q4_6, q4_75_0, q4_75_1, q4_75_2, q4_75_3, q4_75_4, q4_75_5, q4_75_6, qm, q12_0, q12_1, q12_2, q12_3, q12_4, q12_5, q12_6, q12_7, q12_8, q12_9, q12_10, q12_11, q12_12, q12_13, q12_14, q12_15, q12_16, q12_17, q12_18, q12_19, q12_20, q12_21] : List Nat).getD i 0) ∧ (∀ i, i < 13 → ad (1000 + i) = adK i) ∧ ∀ i, i < 13 → ad (2000 + i) = adV i := by
    refine ⟨om_adf [qx, q4_0, q4_9_0, q4_9_1, q4_9_2, q4_9_3, q4_9_4, q4_1, q4_20_0, q4_20_1, q4_20_2, q4_20_3, q4_2, q4_31_0, q4_3, q4_42_0, q4_42_1, q4_42_2, q4_42_3, (rr_4_42 0), (rr_4_42 1), (rr_4_42 2), (rr_4_42 3), (rr_4_42 4), (rr_4_42 5), (rr_4_42 6), (rr_4_42 7), (rr_4_42 8), q4_4, q4_53_0, q4_5, q4_64_0, q4_64_1, q4_64_2, q4_64_3, q4_64_4, q4_64_5, q4_64_6, q4_6, q4_75_0, q4_75_1, q4_75_2, q4_75_3, q4_75_4, q4_75_5, q4_75_6, qm, q12_0, q12_1, q12_2, q12_3, q12_4, q12_5, q12_6, q12_7, q12_8, q12_9, q12_10, q12_11, q12_12, q12_13, q12_14, q12_15, q12_16, q12_17, q12_18, q12_19, q12_20, q12_21] adK adV, fun i h => if_pos h, fun i hi => ?_, fun i hi => ?_⟩
    · show (if 1000 + i < 69 then _ else if 1000 + i < 2000 then adK (1000 + i - 1000) else _) = adK i
      rw [if_neg (by omega), if_pos (by omega)]
      congr 1
      omega
    · show (if 2000 + i < 69 then _ else if 2000 + i < 2000 then _ else adV (2000 + i - 2000)) = adV i
      rw [if_neg (by omega), if_neg (by omega)]
      congr 1
      omega
  obtain ⟨cA, hcL⟩ : ∃ cA : Nat → ClassId, ∀ i, cA i = ([c4_9_0, c4_9_0, c4_9_0, c4_9_1, c4_9_2, c4_9_3, c4_9_4, c4_9_0, c4_20_0, c4_20_1, c4_20_2, c4_20_3, c4_9_0, c4_31_0, c4_9_0, c4_42_0, c4_42_1, c4_42_2, c4_42_3, c4_42_0, c4_42_0, c4_42_0, c4_42_0, c4_42_0, c4_42_0, c4_42_0, c4_42_0, c4_42_0, c4_9_0, c4_53_0, c4_9_0, c4_64_0, c4_64_1, c4_64_2, c4_64_3, c4_64_4, c4_64_5, c4_64_6, c4_9_0, c4_75_0, c4_75_1, c4_75_2, c4_75_3, c4_75_4, c4_75_5, c4_75_6, c4_9_0, c12_0, c12_1, c12_2, c12_3, c12_4, c12_5, c12_6, c12_7, c12_8, c12_9, c12_10, c12_11, c12_12, c12_13, c12_14, c12_15, c12_16, c12_17, c12_18, c12_19, c12_20, c12_21] : List ClassId).getD i c4_9_0 := ⟨om_cAf [c4_9_0, c4_9_0, c4_9_0, c4_9_1, c4_9_2, c4_9_3, c4_9_4, c4_9_0, c4_20_0, c4_20_1, c4_20_2, c4_20_3, c4_9_0, c4_31_0, c4_9_0, c4_42_0, c4_42_1, c4_42_2, c4_42_3, c4_42_0, c4_42_0, c4_42_0, c4_42_0, c4_42_0, c4_42_0, c4_42_0, c4_42_0, c4_42_0, c4_9_0, c4_53_0, c4_9_0, c4_64_0, c4_64_1, c4_64_2, c4_64_3, c4_64_4, c4_64_5, c4_64_6, c4_9_0, c4_75_0, c4_75_1, c4_75_2, c4_75_3, c4_75_4, c4_75_5, c4_75_6, c4_9_0, c12_0, c12_1, c12_2, c12_3, c12_4, c12_5, c12_6, c12_7, c12_8, c12_9, c12_10, c12_11, c12_12, c12_13, c12_14, c12_15, c12_16, c12_17, c12_18, c12_19, c12_20, c12_21] c4_9_0, fun _ => rfl⟩
  have a0 : ad 0 = qx := hadL 0 (by decide)
  have a1 : ad 1 = q4_0 := hadL 1 (by decide)
  have a2 : ad 2 = q4_9_0 := hadL 2 (by decide)
  have a3 : ad 3 = q4_9_1 := hadL 3 (by decide)
  have a4 : ad 4 = q4_9_2 := hadL 4 (by decide)
  have a5 : ad 5 = q4_9_3 := hadL 5 (by decide)
  have a6 : ad 6 = q4_9_4 := hadL 6 (by decide)
  have a7 : ad 7 = q4_1 := hadL 7 (by decide)
  have a8 : ad 8 = q4_20_0 := hadL 8 (by decide)
  have a9 : ad 9 = q4_20_1 := hadL 9 (by decide)
  have a10 : ad 10 = q4_20_2 := hadL 10 (by decide)
  have a11 : ad 11 = q4_20_3 := hadL 11 (by decide)
  have a12 : ad 12 = q4_2 := hadL 12 (by decide)
  have a13 : ad 13 = q4_31_0 := hadL 13 (by decide)
  have a14 : ad 14 = q4_3 := hadL 14 (by decide)
  have a15 : ad 15 = q4_42_0 := hadL 15 (by decide)
  have a16 : ad 16 = q4_42_1 := hadL 16 (by decide)
  have a17 : ad 17 = q4_42_2 := hadL 17 (by decide)
  have a18 : ad 18 = q4_42_3 := hadL 18 (by decide)
  have a19 : ad 19 = (rr_4_42 0) := hadL 19 (by decide)
  have a20 : ad 20 = (rr_4_42 1) := hadL 20 (by decide)
  have a21 : ad 21 = (rr_4_42 2) := hadL 21 (by decide)
  have a22 : ad 22 = (rr_4_42 3) := hadL 22 (by decide)
  have a23 : ad 23 = (rr_4_42 4) := hadL 23 (by decide)
  have a24 : ad 24 = (rr_4_42 5) := hadL 24 (by decide)
  have a25 : ad 25 = (rr_4_42 6) := hadL 25 (by decide)
  have a26 : ad 26 = (rr_4_42 7) := hadL 26 (by decide)
  have a27 : ad 27 = (rr_4_42 8) := hadL 27 (by decide)
  have a28 : ad 28 = q4_4 := hadL 28 (by decide)
  have a29 : ad 29 = q4_53_0 := hadL 29 (by decide)
  have a30 : ad 30 = q4_5 := hadL 30 (by decide)
  have a31 : ad 31 = q4_64_0 := hadL 31 (by decide)
  have a32 : ad 32 = q4_64_1 := hadL 32 (by decide)
  have a33 : ad 33 = q4_64_2 := hadL 33 (by decide)
  have a34 : ad 34 = q4_64_3 := hadL 34 (by decide)
  have a35 : ad 35 = q4_64_4 := hadL 35 (by decide)
  have a36 : ad 36 = q4_64_5 := hadL 36 (by decide)
  have a37 : ad 37 = q4_64_6 := hadL 37 (by decide)
  have a38 : ad 38 = q4_6 := hadL 38 (by decide)
  have a39 : ad 39 = q4_75_0 := hadL 39 (by decide)
  have a40 : ad 40 = q4_75_1 := hadL 40 (by decide)
  have a41 : ad 41 = q4_75_2 := hadL 41 (by decide)
  have a42 : ad 42 = q4_75_3 := hadL 42 (by decide)
  have a43 : ad 43 = q4_75_4 := hadL 43 (by decide)
  have a44 : ad 44 = q4_75_5 := hadL 44 (by decide)
  have a45 : ad 45 = q4_75_6 := hadL 45 (by decide)
  have a46 : ad 46 = qm := hadL 46 (by decide)
  have a47 : ad 47 = q12_0 := hadL 47 (by decide)
  have a48 : ad 48 = q12_1 := hadL 48 (by decide)
  have a49 : ad 49 = q12_2 := hadL 49 (by decide)
  have a50 : ad 50 = q12_3 := hadL 50 (by decide)
  have a51 : ad 51 = q12_4 := hadL 51 (by decide)
  have a52 : ad 52 = q12_5 := hadL 52 (by decide)
  have a53 : ad 53 = q12_6 := hadL 53 (by decide)
  have a54 : ad 54 = q12_7 := hadL 54 (by decide)
  have a55 : ad 55 = q12_8 := hadL 55 (by decide)
  have a56 : ad 56 = q12_9 := hadL 56 (by decide)
  have a57 : ad 57 = q12_10 := hadL 57 (by decide)
  have a58 : ad 58 = q12_11 := hadL 58 (by decide)
  have a59 : ad 59 = q12_12 := hadL 59 (by decide)
  have a60 : ad 60 = q12_13 := hadL 60 (by decide)
  have a61 : ad 61 = q12_14 := hadL 61 (by decide)
  have a62 : ad 62 = q12_15 := hadL 62 (by decide)
  have a63 : ad 63 = q12_16 := hadL 63 (by decide)
  have a64 : ad 64 = q12_17 := hadL 64 (by decide)
  have a65 : ad 65 = q12_18 := hadL 65 (by decide)
  have a66 : ad 66 = q12_19 := hadL 66 (by decide)
  have a67 : ad 67 = q12_20 := hadL 67 (by decide)
  have a68 : ad 68 = q12_21 := hadL 68 (by decide)
  have k2 : cA 2 = c4_9_0 := hcL 2
  have k3 : cA 3 = c4_9_1 := hcL 3
  have k4 : cA 4 = c4_9_2 := hcL 4
  have k5 : cA 5 = c4_9_3 := hcL 5
  have k6 : cA 6 = c4_9_4 := hcL 6
  have k8 : cA 8 = c4_20_0 := hcL 8
  have k9 : cA 9 = c4_20_1 := hcL 9
  have k10 : cA 10 = c4_20_2 := hcL 10
  have k11 : cA 11 = c4_20_3 := hcL 11
  have k13 : cA 13 = c4_31_0 := hcL 13
  have k15 : cA 15 = c4_42_0 := hcL 15
  have k16 : cA 16 = c4_42_1 := hcL 16
  have k17 : cA 17 = c4_42_2 := hcL 17
  have k18 : cA 18 = c4_42_3 := hcL 18
  have k19 : cA 19 = c4_42_0 := hcL 19
  have k20 : cA 20 = c4_42_0 := hcL 20
  have k21 : cA 21 = c4_42_0 := hcL 21
  have k22 : cA 22 = c4_42_0 := hcL 22
  have k23 : cA 23 = c4_42_0 := hcL 23
  have k24 : cA 24 = c4_42_0 := hcL 24
  have k25 : cA 25 = c4_42_0 := hcL 25
  have k26 : cA 26 = c4_42_0 := hcL 26
  have k27 : cA 27 = c4_42_0 := hcL 27
  have k29 : cA 29 = c4_53_0 := hcL 29
  have k31 : cA 31 = c4_64_0 := hcL 31
  have k32 : cA 32 = c4_64_1 := hcL 32
  have k33 : cA 33 = c4_64_2 := hcL 33
  have k34 : cA 34 = c4_64_3 := hcL 34
  have k35 : cA 35 = c4_64_4 := hcL 35
  have k36 : cA 36 = c4_64_5 := hcL 36
  have k37 : cA 37 = c4_64_6 := hcL 37
  have k39 : cA 39 = c4_75_0 := hcL 39
  have k40 : cA 40 = c4_75_1 := hcL 40
  have k41 : cA 41 = c4_75_2 := hcL 41
  have k42 : cA 42 = c4_75_3 := hcL 42
  have k43 : cA 43 = c4_75_4 := hcL 43
  have k44 : cA 44 = c4_75_5 := hcL 44
  have k45 : cA 45 = c4_75_6 := hcL 45
  have k47 : cA 47 = c12_0 := hcL 47
  have k48 : cA 48 = c12_1 := hcL 48
  have k49 : cA 49 = c12_2 := hcL 49
  have k50 : cA 50 = c12_3 := hcL 50
  have k51 : cA 51 = c12_4 := hcL 51
  have k52 : cA 52 = c12_5 := hcL 52
  have k53 : cA 53 = c12_6 := hcL 53
  have k54 : cA 54 = c12_7 := hcL 54
  have k55 : cA 55 = c12_8 := hcL 55
  have k56 : cA 56 = c12_9 := hcL 56
  have k57 : cA 57 = c12_10 := hcL 57
  have k58 : cA 58 = c12_11 := hcL 58
  have k59 : cA 59 = c12_12 := hcL 59
  have k60 : cA 60 = c12_13 := hcL 60
  have k61 : cA 61 = c12_14 := hcL 61
  have k62 : cA 62 = c12_15 := hcL 62
  have k63 : cA 63 = c12_16 := hcL 63
  have k64 : cA 64 = c12_17 := hcL 64
  have k65 : cA 65 = c12_18 := hcL 65
  have k66 : cA 66 = c12_19 := hcL 66
  have k67 : cA 67 = c12_20 := hcL 67
  have k68 : cA 68 = c12_21 := hcL 68
  have e16 : (fun j => if j < 9 then some (ad (16 + (3 + j))) else none) = (fun i => if i < 9 then some (rr_4_42 i) else none) := by
    funext j
    match j with
    | 0 => exact congrArg some a19
    | 1 => exact congrArg some a20
    | 2 => exact congrArg some a21
    | 3 => exact congrArg some a22
    | 4 => exact congrArg some a23
    | 5 => exact congrArg some a24
    | 6 => exact congrArg some a25
    | 7 => exact congrArg some a26
    | 8 => exact congrArg some a27
    | n + 9 => rw [if_neg (by omega), if_neg (by omega)]
  have hW : om_ws ad cA om_M0 = [(qx, .inr (6, [.ref q4_0, .ref q4_1, .ref q4_2, .ref q4_3, .ref q4_4, .ref q4_5, .ref q4_6])), (q4_0, .inr (0, [.int 0, .int 0, .int 0, .ref q4_9_0, .ref q4_9_1, .ref q4_9_2, .ref q4_9_3, .ref q4_9_4])), (q4_9_0, .inl (c4_9_0, 8, .inl (fun _ => 0))), (q4_9_1, .inl (c4_9_1, 8, .inl (fun _ => 0))), (q4_9_2, .inl (c4_9_2, 20, .inl (fun _ => 0))), (q4_9_3, .inl (c4_9_3, 20, .inl (fun _ => 0))), (q4_9_4, .inl (c4_9_4, 20, .inl (fun _ => 0))), (q4_1, .inr (3, [.int 0, .int 0, .int 0, .ref q4_20_0, .ref q4_20_1, .ref q4_20_2, .ref q4_20_3])), (q4_20_0, .inl (c4_20_0, 28, .inl (fun _ => 0))), (q4_20_1, .inl (c4_20_1, 28, .inl (fun _ => 0))), (q4_20_2, .inl (c4_20_2, 28, .inl (fun _ => 0))), (q4_20_3, .inl (c4_20_3, 8, .inl (fun _ => 0))), (q4_2, .inr (1, [.ref q4_31_0, .int 0])), (q4_31_0, .inl (c4_31_0, 9, .inl (fun _ => 0))), (q4_3, .inr (2, [.int 0, .int 1, .int 0, .int 1, .ref q4_42_0, .ref q4_42_1, .ref q4_42_2, .ref q4_42_3])), (q4_42_0, .inl (c4_42_0, 8, .inl (fun _ => 0))), (q4_42_1, .inl (c4_42_1, 9, .inr (.inr (.inr (.inr (fun i => if i < 9 then some (rr_4_42 i) else none)))))), (q4_42_2, .inl (c4_42_2, 8, .inl (fun _ => 0))), (q4_42_3, .inl (c4_42_3, 8, .inl (fun _ => 0))), (rr_4_42 0, .inl (c4_42_0, 8, .inl (fun _ => 0))), (rr_4_42 1, .inl (c4_42_0, 8, .inl (fun _ => 0))), (rr_4_42 2, .inl (c4_42_0, 8, .inl (fun _ => 0))), (rr_4_42 3, .inl (c4_42_0, 8, .inl (fun _ => 0))), (rr_4_42 4, .inl (c4_42_0, 8, .inl (fun _ => 0))), (rr_4_42 5, .inl (c4_42_0, 8, .inl (fun _ => 0))), (rr_4_42 6, .inl (c4_42_0, 8, .inl (fun _ => 0))), (rr_4_42 7, .inl (c4_42_0, 8, .inl (fun _ => 0))), (rr_4_42 8, .inl (c4_42_0, 8, .inl (fun _ => 0))), (q4_4, .inr (5, [.int 0, .ref q4_53_0, .int 0, .int 0, .int 0, .int 0, .int 0, .null])), (q4_53_0, .inl (c4_53_0, 120, .inl (fun _ => 0))), (q4_5, .inr (4, [.int 0, .ref q4_64_0, .ref q4_64_1, .ref q4_64_2, .ref q4_64_3, .ref q4_64_4, .int 0, .ref q4_64_5, .int 0, .ref q4_64_6, .int 0])), (q4_64_0, .inl (c4_64_0, 10, .inl (fun _ => 0))), (q4_64_1, .inl (c4_64_1, 10, .inl (fun _ => 0))), (q4_64_2, .inl (c4_64_2, 10, .inl (fun _ => 0))), (q4_64_3, .inl (c4_64_3, 10, .inl (fun _ => 0))), (q4_64_4, .inl (c4_64_4, 10, .inl (fun _ => 0))), (q4_64_5, .inl (c4_64_5, 120, .inl (fun _ => 0))), (q4_64_6, .inl (c4_64_6, 120, .inl (fun _ => 0))), (q4_6, .inr (4, [.int 0, .ref q4_75_0, .ref q4_75_1, .ref q4_75_2, .ref q4_75_3, .ref q4_75_4, .int 0, .ref q4_75_5, .int 0, .ref q4_75_6, .int 0])), (q4_75_0, .inl (c4_75_0, 10, .inl (fun _ => 0))), (q4_75_1, .inl (c4_75_1, 10, .inl (fun _ => 0))), (q4_75_2, .inl (c4_75_2, 10, .inl (fun _ => 0))), (q4_75_3, .inl (c4_75_3, 10, .inl (fun _ => 0))), (q4_75_4, .inl (c4_75_4, 10, .inl (fun _ => 0))), (q4_75_5, .inl (c4_75_5, 120, .inl (fun _ => 0))), (q4_75_6, .inl (c4_75_6, 120, .inl (fun _ => 0))), (qm, .inr (7, [.ref q12_0, .ref q12_1, .int 0, .ref q12_2, .ref q12_3, .ref q12_4, .int 0, .ref q12_5, .ref q12_6, .int 0, .ref q12_7, .ref q12_8, .ref q12_9, .ref q12_10, .int 0, .int 0, .ref q12_11, .ref q12_12, .int (-1), .ref q12_13, .ref q12_14, .ref q12_15, .ref q12_16, .int 0, .int 0, .ref q12_17, .int 0, .ref q12_18, .ref q12_19, .int 0, .int 0, .int 0, .int 0, .ref q12_20, .int 0, .int 0, .ref q12_21])), (q12_0, .inl (c12_0, 8, .inl (fun _ => 0))), (q12_1, .inl (c12_1, 8, .inl (fun _ => 0))), (q12_2, .inl (c12_2, 20, .inl (fun _ => 0))), (q12_3, .inl (c12_3, 20, .inl (fun _ => 0))), (q12_4, .inl (c12_4, 20, .inl (fun _ => 0))), (q12_5, .inl (c12_5, 8, .inl (upd (upd (upd (upd (upd (upd (upd (upd (fun _ => 0) 0 (-1)) 1 (-1)) 2 (-1)) 3 (-1)) 4 (-1)) 5 (-1)) 6 (-1)) 7 (-1)))), (q12_6, .inl (c12_6, 120, .inl (fun _ => 0))), (q12_7, .inl (c12_7, 240, .inl (fun _ => 0))), (q12_8, .inl (c12_8, 240, .inl (fun _ => 0))), (q12_9, .inl (c12_9, 240, .inl (fun _ => 0))), (q12_10, .inl (c12_10, 240, .inl (fun _ => 0))), (q12_11, .inl (c12_11, 8, .inl (fun _ => 0))), (q12_12, .inl (c12_12, 8, .inl (upd (upd (upd (upd (upd (upd (upd (upd (fun _ => 0) 0 (-1)) 1 (-1)) 2 (-1)) 3 (-1)) 4 (-1)) 5 (-1)) 6 (-1)) 7 (-1)))), (q12_13, .inl (c12_13, 8, .inl (fun _ => 0))), (q12_14, .inl (c12_14, 4, .inl (fun _ => 0))), (q12_15, .inl (c12_15, 8, .inl (fun _ => 0))), (q12_16, .inl (c12_16, 8, .inl (fun _ => 0))), (q12_17, .inl (c12_17, 10, .inl (fun _ => 0))), (q12_18, .inl (c12_18, 64, .inl (fun _ => 0))), (q12_19, .inl (c12_19, 64, .inl (fun _ => 0))), (q12_20, .inl (c12_20, 120, .inl (fun _ => 0))), (q12_21, .inl (c12_21, 120, .inl (fun _ => 0)))] := by
    rw [og_ws0]
    unfold og_wcl
    simp only [e16, a0, a1, a2, a3, a4, a5, a6, a7, a8, a9, a10, a11, a12, a13, a14, a15, a16, a17, a18, a19, a20, a21, a22, a23, a24, a25, a26, a27, a28, a29, a30, a31, a32, a33, a34, a35, a36, a37, a38, a39, a40, a41, a42, a43, a44, a45, a46, a47, a48, a49, a50, a51, a52, a53, a54, a55, a56, a57, a58, a59, a60, a61, a62, a63, a64, a65, a66, a67, a68, k2, k3, k4, k5, k6, k8, k9, k10, k11, k13, k15, k16, k17, k18, k19, k20, k21, k22, k23, k24, k25, k26, k27, k29, k31, k32, k33, k34, k35, k36, k37, k39, k40, k41, k42, k43, k44, k45, k47, k48, k49, k50, k51, k52, k53, k54, k55, k56, k57, k58, k59, k60, k61, k62, k63, k64, k65, k66, k67, k68]
  have hgg : ∀ (k : Nat) (q : Nat × va_E), (om_ws ad cA om_M0)[k]? = some q → ([(qx, .inr (6, [.ref q4_0, .ref q4_1, .ref q4_2, .ref q4_3, .ref q4_4, .ref q4_5, .ref q4_6])), (q4_0, .inr (0, [.int 0, .int 0, .int 0, .ref q4_9_0, .ref q4_9_1, .ref q4_9_2, .ref q4_9_3, .ref q4_9_4])), (q4_9_0, .inl (c4_9_0, 8, .inl (fun _ => 0))), (q4_9_1, .inl (c4_9_1, 8, .inl (fun _ => 0))), (q4_9_2, .inl (c4_9_2, 20, .inl (fun _ => 0))), (q4_9_3, .inl (c4_9_3, 20, .inl (fun _ => 0))), (q4_9_4, .inl (c4_9_4, 20, .inl (fun _ => 0))), (q4_1, .inr (3, [.int 0, .int 0, .int 0, .ref q4_20_0, .ref q4_20_1, .ref q4_20_2, .ref q4_20_3])), (q4_20_0, .inl (c4_20_0, 28, .inl (fun _ => 0))), (q4_20_1, .inl (c4_20_1, 28, .inl (fun _ => 0))), (q4_20_2, .inl (c4_20_2, 28, .inl (fun _ => 0))), (q4_20_3, .inl (c4_20_3, 8, .inl (fun _ => 0))), (q4_2, .inr (1, [.ref q4_31_0, .int 0])), (q4_31_0, .inl (c4_31_0, 9, .inl (fun _ => 0))), (q4_3, .inr (2, [.int 0, .int 1, .int 0, .int 1, .ref q4_42_0, .ref q4_42_1, .ref q4_42_2, .ref q4_42_3])), (q4_42_0, .inl (c4_42_0, 8, .inl (fun _ => 0))), (q4_42_1, .inl (c4_42_1, 9, .inr (.inr (.inr (.inr (fun i => if i < 9 then some (rr_4_42 i) else none)))))), (rr_4_42 0, .inl (c4_42_0, 8, .inl (fun _ => 0))), (rr_4_42 1, .inl (c4_42_0, 8, .inl (fun _ => 0))), (rr_4_42 2, .inl (c4_42_0, 8, .inl (fun _ => 0))), (rr_4_42 3, .inl (c4_42_0, 8, .inl (fun _ => 0))), (rr_4_42 4, .inl (c4_42_0, 8, .inl (fun _ => 0))), (rr_4_42 5, .inl (c4_42_0, 8, .inl (fun _ => 0))), (rr_4_42 6, .inl (c4_42_0, 8, .inl (fun _ => 0))), (rr_4_42 7, .inl (c4_42_0, 8, .inl (fun _ => 0))), (rr_4_42 8, .inl (c4_42_0, 8, .inl (fun _ => 0))), (q4_42_2, .inl (c4_42_2, 8, .inl (fun _ => 0))), (q4_42_3, .inl (c4_42_3, 8, .inl (fun _ => 0))), (q4_4, .inr (5, [.int 0, .ref q4_53_0, .int 0, .int 0, .int 0, .int 0, .int 0, .null])), (q4_53_0, .inl (c4_53_0, 120, .inl (fun _ => 0))), (q4_5, .inr (4, [.int 0, .ref q4_64_0, .ref q4_64_1, .ref q4_64_2, .ref q4_64_3, .ref q4_64_4, .int 0, .ref q4_64_5, .int 0, .ref q4_64_6, .int 0])), (q4_64_0, .inl (c4_64_0, 10, .inl (fun _ => 0))), (q4_64_1, .inl (c4_64_1, 10, .inl (fun _ => 0))), (q4_64_2, .inl (c4_64_2, 10, .inl (fun _ => 0))), (q4_64_3, .inl (c4_64_3, 10, .inl (fun _ => 0))), (q4_64_4, .inl (c4_64_4, 10, .inl (fun _ => 0))), (q4_64_5, .inl (c4_64_5, 120, .inl (fun _ => 0))), (q4_64_6, .inl (c4_64_6, 120, .inl (fun _ => 0))), (q4_6, .inr (4, [.int 0, .ref q4_75_0, .ref q4_75_1, .ref q4_75_2, .ref q4_75_3, .ref q4_75_4, .int 0, .ref q4_75_5, .int 0, .ref q4_75_6, .int 0])), (q4_75_0, .inl (c4_75_0, 10, .inl (fun _ => 0))), (q4_75_1, .inl (c4_75_1, 10, .inl (fun _ => 0))), (q4_75_2, .inl (c4_75_2, 10, .inl (fun _ => 0))), (q4_75_3, .inl (c4_75_3, 10, .inl (fun _ => 0))), (q4_75_4, .inl (c4_75_4, 10, .inl (fun _ => 0))), (q4_75_5, .inl (c4_75_5, 120, .inl (fun _ => 0))), (q4_75_6, .inl (c4_75_6, 120, .inl (fun _ => 0))), (qm, .inr (7, [.ref q12_0, .ref q12_1, .int 0, .ref q12_2, .ref q12_3, .ref q12_4, .int 0, .ref q12_5, .ref q12_6, .int 0, .ref q12_7, .ref q12_8, .ref q12_9, .ref q12_10, .int 0, .int 0, .ref q12_11, .ref q12_12, .int (-1), .ref q12_13, .ref q12_14, .ref q12_15, .ref q12_16, .int 0, .int 0, .ref q12_17, .int 0, .ref q12_18, .ref q12_19, .int 0, .int 0, .int 0, .int 0, .ref q12_20, .int 0, .int 0, .ref q12_21])), (q12_0, .inl (c12_0, 8, .inl (fun _ => 0))), (q12_1, .inl (c12_1, 8, .inl (fun _ => 0))), (q12_2, .inl (c12_2, 20, .inl (fun _ => 0))), (q12_3, .inl (c12_3, 20, .inl (fun _ => 0))), (q12_4, .inl (c12_4, 20, .inl (fun _ => 0))), (q12_5, .inl (c12_5, 8, .inl (upd (upd (upd (upd (upd (upd (upd (upd (fun _ => 0) 0 (-1)) 1 (-1)) 2 (-1)) 3 (-1)) 4 (-1)) 5 (-1)) 6 (-1)) 7 (-1)))), (q12_6, .inl (c12_6, 120, .inl (fun _ => 0))), (q12_7, .inl (c12_7, 240, .inl (fun _ => 0))), (q12_8, .inl (c12_8, 240, .inl (fun _ => 0))), (q12_9, .inl (c12_9, 240, .inl (fun _ => 0))), (q12_10, .inl (c12_10, 240, .inl (fun _ => 0))), (q12_11, .inl (c12_11, 8, .inl (fun _ => 0))), (q12_12, .inl (c12_12, 8, .inl (upd (upd (upd (upd (upd (upd (upd (upd (fun _ => 0) 0 (-1)) 1 (-1)) 2 (-1)) 3 (-1)) 4 (-1)) 5 (-1)) 6 (-1)) 7 (-1)))), (q12_13, .inl (c12_13, 8, .inl (fun _ => 0))), (q12_14, .inl (c12_14, 4, .inl (fun _ => 0))), (q12_15, .inl (c12_15, 8, .inl (fun _ => 0))), (q12_16, .inl (c12_16, 8, .inl (fun _ => 0))), (q12_17, .inl (c12_17, 10, .inl (fun _ => 0))), (q12_18, .inl (c12_18, 64, .inl (fun _ => 0))), (q12_19, .inl (c12_19, 64, .inl (fun _ => 0))), (q12_20, .inl (c12_20, 120, .inl (fun _ => 0))), (q12_21, .inl (c12_21, 120, .inl (fun _ => 0)))] : va_W)[([0, 1, 2, 3, 4, 5, 6, 7, 8, 9, 10, 11, 12, 13, 14, 15, 16, 26, 27, 17, 18, 19, 20, 21, 22, 23, 24, 25, 28, 29, 30, 31, 32, 33, 34, 35, 36, 37, 38, 39, 40, 41, 42, 43, 44, 45, 46, 47, 48, 49, 50, 51, 52, 53, 54, 55, 56, 57, 58, 59, 60, 61, 62, 63, 64, 65, 66, 67, 68] : List Nat).getD k 0]? = some q := by
    intro k q hk
    have hlt : k < 69 := by
      have := (List.getElem?_eq_some_iff.mp hk).1
      rwa [om_ws_len] at this
    rw [hW] at hk
    match k, hlt, hk with
    | 0, _, h => exact h
    | 1, _, h => exact h
    | 2, _, h => exact h
    | 3, _, h => exact h
    | 4, _, h => exact h
    | 5, _, h => exact h
    | 6, _, h => exact h
    | 7, _, h => exact h
    | 8, _, h => exact h
    | 9, _, h => exact h
    | 10, _, h => exact h
    | 11, _, h => exact h
    | 12, _, h => exact h
    | 13, _, h => exact h
    | 14, _, h => exact h
    | 15, _, h => exact h
    | 16, _, h => exact h
    | 17, _, h => exact h
    | 18, _, h => exact h
    | 19, _, h => exact h
    | 20, _, h => exact h
    | 21, _, h => exact h
    | 22, _, h => exact h
    | 23, _, h => exact h
    | 24, _, h => exact h
    | 25, _, h => exact h
    | 26, _, h => exact h
    | 27, _, h => exact h
    | 28, _, h => exact h
    | 29, _, h => exact h
    | 30, _, h => exact h
    | 31, _, h => exact h
    | 32, _, h => exact h
    | 33, _, h => exact h
    | 34, _, h => exact h
    | 35, _, h => exact h
    | 36, _, h => exact h
    | 37, _, h => exact h
    | 38, _, h => exact h
    | 39, _, h => exact h
    | 40, _, h => exact h
    | 41, _, h => exact h
    | 42, _, h => exact h
    | 43, _, h => exact h
    | 44, _, h => exact h
    | 45, _, h => exact h
    | 46, _, h => exact h
    | 47, _, h => exact h
    | 48, _, h => exact h
    | 49, _, h => exact h
    | 50, _, h => exact h
    | 51, _, h => exact h
    | 52, _, h => exact h
    | 53, _, h => exact h
    | 54, _, h => exact h
    | 55, _, h => exact h
    | 56, _, h => exact h
    | 57, _, h => exact h
    | 58, _, h => exact h
    | 59, _, h => exact h
    | 60, _, h => exact h
    | 61, _, h => exact h
    | 62, _, h => exact h
    | 63, _, h => exact h
    | 64, _, h => exact h
    | 65, _, h => exact h
    | 66, _, h => exact h
    | 67, _, h => exact h
    | 68, _, h => exact h
    | n + 69, h, _ => exact absurd h (by omega)
  have hP2 : va_P (dC, dI) vwCl (om_ws ad cA om_M0) H := va_P.by hP _ hgg
  have hinj : (List.range 69).all (fun i => (List.range 69).all (fun j => (!Nat.beq (([0, 1, 2, 3, 4, 5, 6, 7, 8, 9, 10, 11, 12, 13, 14, 15, 16, 26, 27, 17, 18, 19, 20, 21, 22, 23, 24, 25, 28, 29, 30, 31, 32, 33, 34, 35, 36, 37, 38, 39, 40, 41, 42, 43, 44, 45, 46, 47, 48, 49, 50, 51, 52, 53, 54, 55, 56, 57, 58, 59, 60, 61, 62, 63, 64, 65, 66, 67, 68] : List Nat).getD i 0) (([0, 1, 2, 3, 4, 5, 6, 7, 8, 9, 10, 11, 12, 13, 14, 15, 16, 26, 27, 17, 18, 19, 20, 21, 22, 23, 24, 25, 28, 29, 30, 31, 32, 33, 34, 35, 36, 37, 38, 39, 40, 41, 42, 43, 44, 45, 46, 47, 48, 49, 50, 51, 52, 53, 54, 55, 56, 57, 58, 59, 60, 61, 62, 63, 64, 65, 66, 67, 68] : List Nat).getD j 0)) || Nat.beq i j)) = true := by decide +kernel
  have hD2 : va_D (fun q : Nat => s.heap.size ≤ q) (om_ws ad cA om_M0) := va_D.by hD _ hgg (fun i j hi hj e => by
    rw [om_ws_len] at hi hj
    have h := List.all_eq_true.mp (List.all_eq_true.mp hinj i (List.mem_range.mpr hi)) j (List.mem_range.mpr hj)
    rw [e] at h
    simp only [Nat.beq_eq_true_eq, Nat.beq_refl, Bool.not_true, Bool.false_or] at h
    exact Nat.eq_of_beq_eq_true h)
  have hOK1 : ∀ a : Nat, (om_kof a).1 = 1 → ArrOfT s (cA a) .int ∧ va_RA s (cA a) .int := fun a h => match a, h with
      | 0, h => absurd h (by decide)
      | 1, h => absurd h (by decide)
      | 2, _ => by rw [k2]; exact hK.2 0 _ rfl
      | 3, _ => by rw [k3]; exact hK.2 1 _ rfl
      | 4, _ => by rw [k4]; exact hK.2 2 _ rfl
      | 5, _ => by rw [k5]; exact hK.2 3 _ rfl
      | 6, _ => by rw [k6]; exact hK.2 4 _ rfl
      | 7, h => absurd h (by decide)
      | 8, _ => by rw [k8]; exact hK.2 5 _ rfl
      | 9, _ => by rw [k9]; exact hK.2 6 _ rfl
      | 10, _ => by rw [k10]; exact hK.2 7 _ rfl
      | 11, _ => by rw [k11]; exact hK.2 8 _ rfl
      | 12, h => absurd h (by decide)
      | 13, _ => by rw [k13]; exact hK.2 9 _ rfl
      | 14, h => absurd h (by decide)
      | 15, _ => by rw [k15]; exact hK.2 10 _ rfl
      | 16, h => absurd h (by decide)
      | 17, _ => by rw [k17]; exact hK.2 12 _ rfl
      | 18, _ => by rw [k18]; exact hK.2 13 _ rfl
      | 19, _ => by rw [k19]; exact hK.2 10 _ rfl
      | 20, _ => by rw [k20]; exact hK.2 10 _ rfl
      | 21, _ => by rw [k21]; exact hK.2 10 _ rfl
      | 22, _ => by rw [k22]; exact hK.2 10 _ rfl
      | 23, _ => by rw [k23]; exact hK.2 10 _ rfl
      | 24, _ => by rw [k24]; exact hK.2 10 _ rfl
      | 25, _ => by rw [k25]; exact hK.2 10 _ rfl
      | 26, _ => by rw [k26]; exact hK.2 10 _ rfl
      | 27, _ => by rw [k27]; exact hK.2 10 _ rfl
      | 28, h => absurd h (by decide)
      | 29, _ => by rw [k29]; exact hK.2 14 _ rfl
      | 30, h => absurd h (by decide)
      | 31, _ => by rw [k31]; exact hK.2 15 _ rfl
      | 32, _ => by rw [k32]; exact hK.2 16 _ rfl
      | 33, _ => by rw [k33]; exact hK.2 17 _ rfl
      | 34, _ => by rw [k34]; exact hK.2 18 _ rfl
      | 35, _ => by rw [k35]; exact hK.2 19 _ rfl
      | 36, _ => by rw [k36]; exact hK.2 20 _ rfl
      | 37, _ => by rw [k37]; exact hK.2 21 _ rfl
      | 38, h => absurd h (by decide)
      | 39, _ => by rw [k39]; exact hK.2 22 _ rfl
      | 40, _ => by rw [k40]; exact hK.2 23 _ rfl
      | 41, _ => by rw [k41]; exact hK.2 24 _ rfl
      | 42, _ => by rw [k42]; exact hK.2 25 _ rfl
      | 43, _ => by rw [k43]; exact hK.2 26 _ rfl
      | 44, _ => by rw [k44]; exact hK.2 27 _ rfl
      | 45, _ => by rw [k45]; exact hK.2 28 _ rfl
      | 46, h => absurd h (by decide)
      | 47, _ => by rw [k47]; exact hK.2 29 _ rfl
      | 48, _ => by rw [k48]; exact hK.2 30 _ rfl
      | 49, _ => by rw [k49]; exact hK.2 31 _ rfl
      | 50, _ => by rw [k50]; exact hK.2 32 _ rfl
      | 51, _ => by rw [k51]; exact hK.2 33 _ rfl
      | 52, _ => by rw [k52]; exact hK.2 34 _ rfl
      | 53, _ => by rw [k53]; exact hK.2 35 _ rfl
      | 54, _ => by rw [k54]; exact hK.2 36 _ rfl
      | 55, _ => by rw [k55]; exact hK.2 37 _ rfl
      | 56, _ => by rw [k56]; exact hK.2 38 _ rfl
      | 57, _ => by rw [k57]; exact hK.2 39 _ rfl
      | 58, _ => by rw [k58]; exact hK.2 40 _ rfl
      | 59, _ => by rw [k59]; exact hK.2 41 _ rfl
      | 60, _ => by rw [k60]; exact hK.2 42 _ rfl
      | 61, _ => by rw [k61]; exact hK.2 43 _ rfl
      | 62, _ => by rw [k62]; exact hK.2 44 _ rfl
      | 63, _ => by rw [k63]; exact hK.2 45 _ rfl
      | 64, _ => by rw [k64]; exact hK.2 46 _ rfl
      | 65, _ => by rw [k65]; exact hK.2 47 _ rfl
      | 66, _ => by rw [k66]; exact hK.2 48 _ rfl
      | 67, _ => by rw [k67]; exact hK.2 49 _ rfl
      | 68, h => absurd h (by decide)
      | n + 69, h => absurd (show (0 : Nat) = 1 from h) (by decide)
  have hOK2 : ∀ a : Nat, (om_kof a).1 = 2 → ArrOfT s (cA a) .boolean ∧ va_RA s (cA a) .boolean := fun a h => match a, h with
      | 0, h => absurd h (by decide)
      | 1, h => absurd h (by decide)
      | 2, h => absurd h (by decide)
      | 3, h => absurd h (by decide)
      | 4, h => absurd h (by decide)
      | 5, h => absurd h (by decide)
      | 6, h => absurd h (by decide)
      | 7, h => absurd h (by decide)
      | 8, h => absurd h (by decide)
      | 9, h => absurd h (by decide)
      | 10, h => absurd h (by decide)
      | 11, h => absurd h (by decide)
      | 12, h => absurd h (by decide)
      | 13, h => absurd h (by decide)
      | 14, h => absurd h (by decide)
      | 15, h => absurd h (by decide)
      | 16, h => absurd h (by decide)
      | 17, h => absurd h (by decide)
      | 18, h => absurd h (by decide)
      | 19, h => absurd h (by decide)
      | 20, h => absurd h (by decide)
      | 21, h => absurd h (by decide)
      | 22, h => absurd h (by decide)
      | 23, h => absurd h (by decide)
      | 24, h => absurd h (by decide)
      | 25, h => absurd h (by decide)
      | 26, h => absurd h (by decide)
      | 27, h => absurd h (by decide)
      | 28, h => absurd h (by decide)
      | 29, h => absurd h (by decide)
      | 30, h => absurd h (by decide)
      | 31, h => absurd h (by decide)
      | 32, h => absurd h (by decide)
      | 33, h => absurd h (by decide)
      | 34, h => absurd h (by decide)
      | 35, h => absurd h (by decide)
      | 36, h => absurd h (by decide)
      | 37, h => absurd h (by decide)
      | 38, h => absurd h (by decide)
      | 39, h => absurd h (by decide)
      | 40, h => absurd h (by decide)
      | 41, h => absurd h (by decide)
      | 42, h => absurd h (by decide)
      | 43, h => absurd h (by decide)
      | 44, h => absurd h (by decide)
      | 45, h => absurd h (by decide)
      | 46, h => absurd h (by decide)
      | 47, h => absurd h (by decide)
      | 48, h => absurd h (by decide)
      | 49, h => absurd h (by decide)
      | 50, h => absurd h (by decide)
      | 51, h => absurd h (by decide)
      | 52, h => absurd h (by decide)
      | 53, h => absurd h (by decide)
      | 54, h => absurd h (by decide)
      | 55, h => absurd h (by decide)
      | 56, h => absurd h (by decide)
      | 57, h => absurd h (by decide)
      | 58, h => absurd h (by decide)
      | 59, h => absurd h (by decide)
      | 60, h => absurd h (by decide)
      | 61, h => absurd h (by decide)
      | 62, h => absurd h (by decide)
      | 63, h => absurd h (by decide)
      | 64, h => absurd h (by decide)
      | 65, h => absurd h (by decide)
      | 66, h => absurd h (by decide)
      | 67, h => absurd h (by decide)
      | 68, _ => by rw [k68]; exact hK.2 50 _ rfl
      | n + 69, h => absurd (show (0 : Nat) = 2 from h) (by decide)
  have hOK3 : ∀ a : Nat, (om_kof a).1 = 3 → ArrOfT s (cA a) (.array .int) ∧ va_RA s (cA a) (.array .int) := fun a h => match a, h with
      | 0, h => absurd h (by decide)
      | 1, h => absurd h (by decide)
      | 2, h => absurd h (by decide)
      | 3, h => absurd h (by decide)
      | 4, h => absurd h (by decide)
      | 5, h => absurd h (by decide)
      | 6, h => absurd h (by decide)
      | 7, h => absurd h (by decide)
      | 8, h => absurd h (by decide)
      | 9, h => absurd h (by decide)
      | 10, h => absurd h (by decide)
      | 11, h => absurd h (by decide)
      | 12, h => absurd h (by decide)
      | 13, h => absurd h (by decide)
      | 14, h => absurd h (by decide)
      | 15, h => absurd h (by decide)
      | 16, _ => by rw [k16]; exact hK.2 11 _ rfl
      | 17, h => absurd h (by decide)
      | 18, h => absurd h (by decide)
      | 19, h => absurd h (by decide)
      | 20, h => absurd h (by decide)
      | 21, h => absurd h (by decide)
      | 22, h => absurd h (by decide)
      | 23, h => absurd h (by decide)
      | 24, h => absurd h (by decide)
      | 25, h => absurd h (by decide)
      | 26, h => absurd h (by decide)
      | 27, h => absurd h (by decide)
      | 28, h => absurd h (by decide)
      | 29, h => absurd h (by decide)
      | 30, h => absurd h (by decide)
      | 31, h => absurd h (by decide)
      | 32, h => absurd h (by decide)
      | 33, h => absurd h (by decide)
      | 34, h => absurd h (by decide)
      | 35, h => absurd h (by decide)
      | 36, h => absurd h (by decide)
      | 37, h => absurd h (by decide)
      | 38, h => absurd h (by decide)
      | 39, h => absurd h (by decide)
      | 40, h => absurd h (by decide)
      | 41, h => absurd h (by decide)
      | 42, h => absurd h (by decide)
      | 43, h => absurd h (by decide)
      | 44, h => absurd h (by decide)
      | 45, h => absurd h (by decide)
      | 46, h => absurd h (by decide)
      | 47, h => absurd h (by decide)
      | 48, h => absurd h (by decide)
      | 49, h => absurd h (by decide)
      | 50, h => absurd h (by decide)
      | 51, h => absurd h (by decide)
      | 52, h => absurd h (by decide)
      | 53, h => absurd h (by decide)
      | 54, h => absurd h (by decide)
      | 55, h => absurd h (by decide)
      | 56, h => absurd h (by decide)
      | 57, h => absurd h (by decide)
      | 58, h => absurd h (by decide)
      | 59, h => absurd h (by decide)
      | 60, h => absurd h (by decide)
      | 61, h => absurd h (by decide)
      | 62, h => absurd h (by decide)
      | 63, h => absurd h (by decide)
      | 64, h => absurd h (by decide)
      | 65, h => absurd h (by decide)
      | 66, h => absurd h (by decide)
      | 67, h => absurd h (by decide)
      | 68, h => absurd h (by decide)
      | n + 69, h => absurd (show (0 : Nat) = 3 from h) (by decide)
  have hgs := flat_of_before _ hgv
  have hSS : om_S ad (fun q : Nat => s.heap.size ≤ q) s s.heap := by
    refine ⟨om_vkc hstr (fun i hi => ?_) (fun i hi => ?_), ?_, ?_⟩
    · have h13 : i < 13 := hi
      exact hadK2 i h13
    · have h13 : i < 13 := hi
      exact hadV2 i h13
    · exact va_Zof (hts _ (List.mem_of_getElem? (i := 724) rfl)) (hts _ (List.mem_of_getElem? (i := 129) rfl)) (va_eqt (hgs (.eq (.static "java/lang/String" "COMPACT_STRINGS" "Z") (.int 1)) (by decide +kernel))) (fun a ha => Nat.not_le.mpr ha)
    · exact va_Zqof (hts _ (List.mem_of_getElem? (i := 740) rfl)) (hts _ (List.mem_of_getElem? (i := 131) rfl)) (hgs (.isRef (.static "jdk/internal/util/Preconditions" "SIOOBE_FORMATTER" "Ljava/util/function/BiFunction;")) (by decide +kernel)) (fun a ha => Nat.not_le.mpr ha)
  have hNN : om_N2 ad s := by
    refine ⟨fun w hw => va_Nw.of (om_nw_on hw) (hts w (om_nw_in w hw)), fun k q hq => ?_⟩
    match k, hq with
    | 0, hq => cases hq; rw [show ad (1000 + 0) = adK 0 from hadK2 0 (by decide)]; exact vk_R.of (hts _ (List.mem_of_getElem? (i := 710) rfl)) (hadK 0 (by decide))
    | 1, hq => cases hq; rw [show ad (1000 + 1) = adK 1 from hadK2 1 (by decide)]; exact vk_R.of (hts _ (List.mem_of_getElem? (i := 763) rfl)) (hadK 1 (by decide))
    | 2, hq => cases hq; rw [show ad (1000 + 2) = adK 2 from hadK2 2 (by decide)]; exact vk_R.of (hts _ (List.mem_of_getElem? (i := 764) rfl)) (hadK 2 (by decide))
    | 3, hq => cases hq; rw [show ad (1000 + 3) = adK 3 from hadK2 3 (by decide)]; exact vk_R.of (hts _ (List.mem_of_getElem? (i := 765) rfl)) (hadK 3 (by decide))
    | 4, hq => cases hq; rw [show ad (1000 + 4) = adK 4 from hadK2 4 (by decide)]; exact vk_R.of (hts _ (List.mem_of_getElem? (i := 766) rfl)) (hadK 4 (by decide))
    | 5, hq => cases hq; rw [show ad (1000 + 5) = adK 5 from hadK2 5 (by decide)]; exact vk_R.of (hts _ (List.mem_of_getElem? (i := 767) rfl)) (hadK 5 (by decide))
    | 6, hq => cases hq; rw [show ad (1000 + 6) = adK 6 from hadK2 6 (by decide)]; exact vk_R.of (hts _ (List.mem_of_getElem? (i := 768) rfl)) (hadK 6 (by decide))
    | 7, hq => cases hq; rw [show ad (1000 + 7) = adK 7 from hadK2 7 (by decide)]; exact vk_R.of (hts _ (List.mem_of_getElem? (i := 769) rfl)) (hadK 7 (by decide))
    | 8, hq => cases hq; rw [show ad (1000 + 8) = adK 8 from hadK2 8 (by decide)]; exact vk_R.of (hts _ (List.mem_of_getElem? (i := 770) rfl)) (hadK 8 (by decide))
    | 9, hq => cases hq; rw [show ad (1000 + 9) = adK 9 from hadK2 9 (by decide)]; exact vk_R.of (hts _ (List.mem_of_getElem? (i := 771) rfl)) (hadK 9 (by decide))
    | 10, hq => cases hq; rw [show ad (1000 + 10) = adK 10 from hadK2 10 (by decide)]; exact vk_R.of (hts _ (List.mem_of_getElem? (i := 772) rfl)) (hadK 10 (by decide))
    | 11, hq => cases hq; rw [show ad (1000 + 11) = adK 11 from hadK2 11 (by decide)]; exact vk_R.of (hts _ (List.mem_of_getElem? (i := 773) rfl)) (hadK 11 (by decide))
    | 12, hq => cases hq; rw [show ad (1000 + 12) = adK 12 from hadK2 12 (by decide)]; exact vk_R.of (hts _ (List.mem_of_getElem? (i := 774) rfl)) (hadK 12 (by decide))
    | n + 13, hq => simp [om_sr] at hq
  have hl2 : lv_has ls 4 [(0, .ref b), (1, .ref (ad 0)), (2, .ref (ad 46)), (3, .int 0)] := by
    rw [a0, a46]; exact lv_sub hl [3, 2, 1, 0] rfl
  refine W.widen (k := 100) (n := 4000) (Nat.le_of_ble_eq_true rfl) (Nat.le_of_ble_eq_true rfl) ?_
  exact om_law_loop (D := (dC, dI)) (cA := cA) (ad := ad) ⟨C0, ⟨hK.1, fun a => ⟨hOK1 a, hOK2 a, hOK3 a⟩⟩, hNN, hSS⟩ hL hOK (L + 6) 0 (by omega) (by omega) 0 rfl om_M0 H _ ls hI0 ⟨hP2, hD2, hS⟩ hl2
