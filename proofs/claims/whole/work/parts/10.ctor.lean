/-! ===== the constructors ===== -/
def om_xc : List Cond := [
  (Jvm.Cond.initialized "OneMarkLaw"),
  (Jvm.Cond.initialized "OneMark"),
  (Jvm.Cond.initialized "OneMark$Board"),
  (Jvm.Cond.initialized "OneMark$Moves"),
  (Jvm.Cond.initialized "OneMark$Loops"),
  (Jvm.Cond.initialized "OneMark$Means"),
  (Jvm.Cond.initialized "OneMark$Reader"),
  (Jvm.Cond.initialized "OneMark$Question"),
  (Jvm.Cond.initialized "OneMarkModel"),
  (Jvm.Cond.initialized "java/lang/Math"),
  (Jvm.Cond.initialized "java/lang/System"),
  (Jvm.Cond.initialized "java/lang/Integer"),
  (Jvm.Cond.initialized "java/lang/String"),
  (Jvm.Cond.initialized "java/lang/StringLatin1"),
  (Jvm.Cond.initialized "jdk/internal/util/Preconditions"),
  (Jvm.Cond.initialized "java/lang/StringUTF16"),
  (Jvm.Cond.classLink "OneMarkLaw" (7 : Nat) "OneMark"),
  (Jvm.Cond.instantiable "OneMark" (7 : Nat)),
  (Jvm.Cond.methodLink "OneMarkLaw" (9 : Nat) ({ cls := "OneMark", name := "<init>", desc := "()V" } : Jvm.MethodName)),
  (Jvm.Cond.instanceMethod ({ cls := "OneMark", name := "<init>", desc := "()V" } : Jvm.MethodName)),
  (Jvm.Cond.code ({ cls := "OneMark", name := "<init>", desc := "()V" } : Jvm.MethodName) prog_1_method_1_code (1 : Nat) (Option.none : Option Jvm.ClassFile.FieldType)),
  (Jvm.Cond.methodLink "OneMark" (3 : Nat) ({ cls := "java/lang/Object", name := "<init>", desc := "()V" } : Jvm.MethodName)),
  (Jvm.Cond.instanceMethod ({ cls := "java/lang/Object", name := "<init>", desc := "()V" } : Jvm.MethodName)),
  (Jvm.Cond.code ({ cls := "java/lang/Object", name := "<init>", desc := "()V" } : Jvm.MethodName) object_method_1_code (1 : Nat) (Option.none : Option Jvm.ClassFile.FieldType)),
  (Jvm.Cond.classLink "OneMark" (9 : Nat) "OneMark$Board"),
  (Jvm.Cond.instantiable "OneMark$Board" (8 : Nat)),
  (Jvm.Cond.instanceMethod ({ cls := "OneMark$Board", name := "<init>", desc := "()V" } : Jvm.MethodName)),
  (Jvm.Cond.code ({ cls := "OneMark$Board", name := "<init>", desc := "()V" } : Jvm.MethodName) prog_2_method_1_code (1 : Nat) (Option.none : Option Jvm.ClassFile.FieldType)),
  (Jvm.Cond.methodLink "OneMark$Board" (3 : Nat) ({ cls := "java/lang/Object", name := "<init>", desc := "()V" } : Jvm.MethodName)),
  (Jvm.Cond.arrayClass Jvm.ClassFile.FieldType.int),
  (Jvm.Cond.classLink "OneMark" (16 : Nat) "OneMark$Moves"),
  (Jvm.Cond.instantiable "OneMark$Moves" (7 : Nat)),
  (Jvm.Cond.instanceMethod ({ cls := "OneMark$Moves", name := "<init>", desc := "()V" } : Jvm.MethodName)),
  (Jvm.Cond.code ({ cls := "OneMark$Moves", name := "<init>", desc := "()V" } : Jvm.MethodName) prog_5_method_1_code (1 : Nat) (Option.none : Option Jvm.ClassFile.FieldType)),
  (Jvm.Cond.methodLink "OneMark$Moves" (3 : Nat) ({ cls := "java/lang/Object", name := "<init>", desc := "()V" } : Jvm.MethodName)),
  (Jvm.Cond.classLink "OneMark" (23 : Nat) "OneMark$Loops"),
  (Jvm.Cond.instantiable "OneMark$Loops" (2 : Nat)),
  (Jvm.Cond.instanceMethod ({ cls := "OneMark$Loops", name := "<init>", desc := "()V" } : Jvm.MethodName)),
  (Jvm.Cond.code ({ cls := "OneMark$Loops", name := "<init>", desc := "()V" } : Jvm.MethodName) prog_3_method_1_code (1 : Nat) (Option.none : Option Jvm.ClassFile.FieldType)),
  (Jvm.Cond.methodLink "OneMark$Loops" (3 : Nat) ({ cls := "java/lang/Object", name := "<init>", desc := "()V" } : Jvm.MethodName)),
  (Jvm.Cond.classLink "OneMark" (30 : Nat) "OneMark$Means"),
  (Jvm.Cond.instantiable "OneMark$Means" (8 : Nat)),
  (Jvm.Cond.instanceMethod ({ cls := "OneMark$Means", name := "<init>", desc := "()V" } : Jvm.MethodName)),
  (Jvm.Cond.code ({ cls := "OneMark$Means", name := "<init>", desc := "()V" } : Jvm.MethodName) prog_4_method_1_code (1 : Nat) (Option.none : Option Jvm.ClassFile.FieldType)),
  (Jvm.Cond.methodLink "OneMark$Means" (3 : Nat) ({ cls := "java/lang/Object", name := "<init>", desc := "()V" } : Jvm.MethodName)),
  (Jvm.Cond.classLink "OneMark$Means" (22 : Nat) "[[I"),
  (Jvm.Cond.classLink "OneMark" (37 : Nat) "OneMark$Reader"),
  (Jvm.Cond.instantiable "OneMark$Reader" (8 : Nat)),
  (Jvm.Cond.instanceMethod ({ cls := "OneMark$Reader", name := "<init>", desc := "()V" } : Jvm.MethodName)),
  (Jvm.Cond.code ({ cls := "OneMark$Reader", name := "<init>", desc := "()V" } : Jvm.MethodName) prog_7_method_1_code (1 : Nat) (Option.none : Option Jvm.ClassFile.FieldType)),
  (Jvm.Cond.methodLink "OneMark$Reader" (3 : Nat) ({ cls := "java/lang/Object", name := "<init>", desc := "()V" } : Jvm.MethodName)),
  (Jvm.Cond.classLink "OneMark" (44 : Nat) "OneMark$Question"),
  (Jvm.Cond.instantiable "OneMark$Question" (11 : Nat)),
  (Jvm.Cond.instanceMethod ({ cls := "OneMark$Question", name := "<init>", desc := "()V" } : Jvm.MethodName)),
  (Jvm.Cond.code ({ cls := "OneMark$Question", name := "<init>", desc := "()V" } : Jvm.MethodName) prog_6_method_1_code (1 : Nat) (Option.none : Option Jvm.ClassFile.FieldType)),
  (Jvm.Cond.methodLink "OneMark$Question" (3 : Nat) ({ cls := "java/lang/Object", name := "<init>", desc := "()V" } : Jvm.MethodName)),
  (Jvm.Cond.classLink "OneMarkLaw" (10 : Nat) "OneMarkModel"),
  (Jvm.Cond.instantiable "OneMarkModel" (37 : Nat)),
  (Jvm.Cond.methodLink "OneMarkLaw" (12 : Nat) ({ cls := "OneMarkModel", name := "<init>", desc := "()V" } : Jvm.MethodName)),
  (Jvm.Cond.instanceMethod ({ cls := "OneMarkModel", name := "<init>", desc := "()V" } : Jvm.MethodName)),
  (Jvm.Cond.code ({ cls := "OneMarkModel", name := "<init>", desc := "()V" } : Jvm.MethodName) prog_9_method_1_code (1 : Nat) (Option.none : Option Jvm.ClassFile.FieldType)),
  (Jvm.Cond.methodLink "OneMarkModel" (1 : Nat) ({ cls := "java/lang/Object", name := "<init>", desc := "()V" } : Jvm.MethodName)),
  (Jvm.Cond.arrayClass Jvm.ClassFile.FieldType.boolean)]
def om_xcx : List Nat := [117, 118, 119, 120, 121, 122, 123, 124, 125, 126, 127, 128, 129, 130, 131, 132, 133, 134, 135, 136, 137, 138, 139, 140, 141, 142, 144, 145, 146, 187, 188, 189, 191, 192, 193, 226, 227, 229, 230, 231, 241, 242, 244, 245, 246, 247, 276, 277, 279, 280, 281, 308, 309, 311, 312, 313, 916, 917, 918, 919, 920, 921, 1034]
def om_nc : List Cond := [(Jvm.Cond.methodLinkNest "OneMark" (11 : Nat) ({ cls := "OneMark$Board", name := "<init>", desc := "()V" } : Jvm.MethodName) "OneMark"),
  (Jvm.Cond.methodLinkNest "OneMark" (18 : Nat) ({ cls := "OneMark$Moves", name := "<init>", desc := "()V" } : Jvm.MethodName) "OneMark"),
  (Jvm.Cond.methodLinkNest "OneMark" (25 : Nat) ({ cls := "OneMark$Loops", name := "<init>", desc := "()V" } : Jvm.MethodName) "OneMark"),
  (Jvm.Cond.methodLinkNest "OneMark" (32 : Nat) ({ cls := "OneMark$Means", name := "<init>", desc := "()V" } : Jvm.MethodName) "OneMark"),
  (Jvm.Cond.methodLinkNest "OneMark" (39 : Nat) ({ cls := "OneMark$Reader", name := "<init>", desc := "()V" } : Jvm.MethodName) "OneMark"),
  (Jvm.Cond.methodLinkNest "OneMark" (46 : Nat) ({ cls := "OneMark$Question", name := "<init>", desc := "()V" } : Jvm.MethodName) "OneMark")]
def om_ncx : List Nat := [143, 190, 228, 243, 278, 310]
set_option maxRecDepth 100000 in
set_option maxHeartbeats 4000000 in
theorem om_xc_in : ∀ w ∈ om_xc, w ∈ lw_tbl := om_mem_of (ix := om_xcx) rfl
set_option maxRecDepth 100000 in
set_option maxHeartbeats 4000000 in
theorem om_nc_in : ∀ w ∈ om_nc, w ∈ lw_tbl := om_mem_of (ix := om_ncx) rfl
def om_tc : List Cond := om_xc ++ om_tb
theorem om_tc_in : ∀ w ∈ om_tc, w ∈ lw_tbl := fun w h => (List.mem_append.mp h).elim (om_xc_in w) (om_tb_in w)
theorem om_xc_good : om_xc.all goodWord = true := by decide +kernel
theorem om_tc_good : ∀ w ∈ om_tc, (w.onTables && w.keeps) = true ∨ ∃ ty, w = .arrayClass ty := fun w h => (List.mem_append.mp h).elim (fun h => good_of_word (List.all_eq_true.mp om_xc_good w h)) (om_good w)
def om_wc (y : MethodName) (cc : ByteArray) : List Cond := .code y cc 1 none :: om_tc
theorem om_tc_x {w : Cond} (h : w ∈ om_xc) : w ∈ om_tc := List.mem_append_left _ h
theorem om_tc_b {w : Cond} (h : w ∈ om_tb) : w ∈ om_tc := List.mem_append_right _ h
def om_KC (U : State) : Prop := (∀ w ∈ om_nc, va_Nw w U) ∧ (Cond.arrayOver (.array .int)).before #[] U = true
theorem om_nc_shape : om_nc.all (fun w => match w with | .methodLinkNest _ _ _ _ => true | _ => false) = true := by decide +kernel
theorem om_KC.warm {s U : State} (hW : s.WarmedH U.vm) (h : om_KC s) : om_KC U := ⟨fun w hw => by
  have hs := List.all_eq_true.mp om_nc_shape w hw
  match w, hs, h.1 w hw with
  | .methodLinkNest _ _ _ _, _, h => exact va_Nw.warmM hW h, over_moved hW.alike h.2⟩
theorem om_KC.same {u U : State} (hv : U.vm = u.vm) (h : om_KC u) : om_KC U := ⟨fun w hw => by
  have hs := List.all_eq_true.mp om_nc_shape w hw
  match w, hs, h.1 w hw with
  | .methodLinkNest _ _ _ _, _, h => exact va_Nw.same rfl hv.symm h, over_moved (by rw [hv]; exact Vm.Alike.refl _) h.2⟩
theorem dc_X0_init_0 : decode cX0_init 0 = .ok (.aload_n 0, 1) := by decide +kernel
theorem dc_X0_init_1 : decode cX0_init 1 = .ok (.invokespecial 3, 3) := by decide +kernel
theorem dc_X0_init_4 : decode cX0_init 4 = .ok (.aload_n 0, 1) := by decide +kernel
theorem dc_X0_init_5 : decode cX0_init 5 = .ok (.bipush 8, 2) := by decide +kernel
theorem dc_X0_init_7 : decode cX0_init 7 = .ok (.newarray .int, 2) := by decide +kernel
theorem dc_X0_init_9 : decode cX0_init 9 = .ok (.putfield 9, 3) := by decide +kernel
theorem dc_X0_init_12 : decode cX0_init 12 = .ok (.aload_n 0, 1) := by decide +kernel
theorem dc_X0_init_13 : decode cX0_init 13 = .ok (.bipush 8, 2) := by decide +kernel
theorem dc_X0_init_15 : decode cX0_init 15 = .ok (.newarray .int, 2) := by decide +kernel
theorem dc_X0_init_17 : decode cX0_init 17 = .ok (.putfield 15, 3) := by decide +kernel
theorem dc_X0_init_20 : decode cX0_init 20 = .ok (.aload_n 0, 1) := by decide +kernel
theorem dc_X0_init_21 : decode cX0_init 21 = .ok (.bipush 20, 2) := by decide +kernel
theorem dc_X0_init_23 : decode cX0_init 23 = .ok (.newarray .int, 2) := by decide +kernel
theorem dc_X0_init_25 : decode cX0_init 25 = .ok (.putfield 18, 3) := by decide +kernel
theorem dc_X0_init_28 : decode cX0_init 28 = .ok (.aload_n 0, 1) := by decide +kernel
theorem dc_X0_init_29 : decode cX0_init 29 = .ok (.bipush 20, 2) := by decide +kernel
theorem dc_X0_init_31 : decode cX0_init 31 = .ok (.newarray .int, 2) := by decide +kernel
theorem dc_X0_init_33 : decode cX0_init 33 = .ok (.putfield 21, 3) := by decide +kernel
theorem dc_X0_init_36 : decode cX0_init 36 = .ok (.aload_n 0, 1) := by decide +kernel
theorem dc_X0_init_37 : decode cX0_init 37 = .ok (.bipush 20, 2) := by decide +kernel
theorem dc_X0_init_39 : decode cX0_init 39 = .ok (.newarray .int, 2) := by decide +kernel
theorem dc_X0_init_41 : decode cX0_init 41 = .ok (.putfield 24, 3) := by decide +kernel
theorem dc_X0_init_44 : decode cX0_init 44 = .ok (.return_, 1) := by decide +kernel
def om_pX0 (dC : Nat → ClassId) (dI : Nat → Nat → Nat) (A : Nat → Prop) (h0 : Nat) (t : State) : Prop := ∃ (q0 : Nat) (c0 : ClassId) (q1 : Nat) (c1 : ClassId) (q2 : Nat) (c2 : ClassId) (q3 : Nat) (c3 : ClassId) (q4 : Nat) (c4 : ClassId), va_P (dC, dI) vwCl [(h0, .inr (0, [.int 0, .int 0, .int 0, .ref q0, .ref q1, .ref q2, .ref q3, .ref q4])), (q0, .inl (c0, 8, .inl (fun _ => 0))), (q1, .inl (c1, 8, .inl (fun _ => 0))), (q2, .inl (c2, 20, .inl (fun _ => 0))), (q3, .inl (c3, 20, .inl (fun _ => 0))), (q4, .inl (c4, 20, .inl (fun _ => 0)))] t.heap ∧ va_K (dC, dI) vwCl [(c0, .int), (c1, .int), (c2, .int), (c3, .int), (c4, .int)] t ∧ va_D A [(h0, .inr (0, [.int 0, .int 0, .int 0, .ref q0, .ref q1, .ref q2, .ref q3, .ref q4])), (q0, .inl (c0, 8, .inl (fun _ => 0))), (q1, .inl (c1, 8, .inl (fun _ => 0))), (q2, .inl (c2, 20, .inl (fun _ => 0))), (q3, .inl (c3, 20, .inl (fun _ => 0))), (q4, .inl (c4, 20, .inl (fun _ => 0)))]
set_option maxHeartbeats 4000000 in
set_option maxRecDepth 100000 in
theorem om_kX0 (l : Launch) (dC : Nat → ClassId) (dI : Nat → Nat → Nat) (h0 : Nat) (sz : Nat) : Met l yX0_init (om_wc yX0_init cX0_init) ({ frames := 1, cells := 5, slots := 76, locals := 12 }) (va_Pc [.ref h0] (fun U => U.heap.size = sz ∧ va_P (dC, dI) vwCl [(h0, .inr (0, [.int 0, .int 0, .int 0, .null, .null, .null, .null, .null]))] U.heap ∧ va_K (dC, dI) vwCl [] U ∧ va_D (fun _ => True) [(h0, .inr (0, [.int 0, .int 0, .int 0, .null, .null, .null, .null, .null]))] ∧ om_KC U)) (va_Qv (fun _ : Unit => True) (fun _ t => om_pX0 dC dI (va_A [(h0, .inr (0, [.int 0, .int 0, .int 0, .null, .null, .null, .null, .null]))] sz) h0 t) (va_A [(h0, .inr (0, [.int 0, .int 0, .int 0, .null, .null, .null, .null, .null]))] sz)) 5 76 (va_A [(h0, .inr (0, [.int 0, .int 0, .int 0, .null, .null, .null, .null, .null]))] sz) := by
  refine Met.ofW (cc := cX0_init) (maxL := 1) (ret := none) (by decide) rfl ?_
  intro p e s m args below meth c s₁ B hml hv
  obtain ⟨rfl, hsz, hP, hK, hD0, hKC⟩ := hv
  have hx := B.exec
  have hb := B.bytes
  have hr := B.returns
  have hts : ∀ w ∈ om_tc, w.before #[Value.ref h0] s = true := fun w hw => atoms_spec (ws := om_wc yX0_init cX0_init) B.pre w (List.mem_cons_of_mem _ hw)
  have hown : s.vm.findClass RX0 = some m.cls := findClass_of_methodNamed B.named
  have hlocks := B.notSynchronized
  have hin : meth.name = "<init>" := (name_of_methodNamed B.named B.method).1
  subst hsz
  have hD := hD0.self (sz := s.heap.size)
  generalize hAe : va_A [(h0, .inr (0, [.int 0, .int 0, .int 0, .null, .null, .null, .null, .null]))] s.heap.size = A at hD ⊢
  have hA : ∀ q : Nat, s.heap.size ≤ q → A q := fun q h => by rw [← hAe]; exact Or.inr h
  have hS : va_S A s.heap s.heap [] := va_S.rf
  have hP : va_P (dC, dI) vwCl [(h0, .inr (0, [.int 0, .int 0, .int 0, .null, .null, .null, .null, .null]))] s.heap := hP
  have hl := lv_entry ([.ref h0]) (n := 1) (Nat.le_of_ble_eq_true rfl)
  rw [lg_entry_eq]
  generalize (lg_sl ([.ref h0]) ++ List.replicate (1 - (lg_sl ([.ref h0])).length) Slot.unset).toArray = ls at hl ⊢
  have hl : lv_has ls 1 [(0, .ref h0)] := hl
  skip
  refine lv_aload_n hx hb dc_X0_init_0 rfl (lv_at hl 0 rfl) ?_
  refine W.objInit hx hb hown (hts _ (om_tc_x (List.mem_of_getElem? (i := 28) rfl))) (hts _ (om_tc_x (List.mem_of_getElem? (i := 22) rfl))) (hts _ (om_tc_x (List.mem_of_getElem? (i := 23) rfl))) rfl (by rw [hml]; exact hl.1) rfl dc_X0_init_1 (Nat.le_of_ble_eq_true rfl) (Nat.le_of_ble_eq_true rfl) ?_
  refine W.eq (g2 := F0 m 4 ls []) rfl ?_
  refine lv_aload_n hx hb dc_X0_init_4 rfl (lv_at hl 0 rfl) ?_
  refine lv_bipush (v := (8)) hx hb dc_X0_init_5 (by decide) ?_
  refine va_newa (atype := .int) (ty := .int) (N' := 8) (a0 := (8, .inl (fun _ => 0))) hx hb (hts _ (om_tc_x (List.mem_of_getElem? (i := 29) rfl))) rfl hK hP hD hS hA (fun _ => rfl) (by decide) (by decide) (by decide) (Nat.le_of_ble_eq_true rfl) (Nat.le_of_ble_eq_true rfl) dc_X0_init_7 (fun q0 c0 H hK hP hD hS => ?_)
  have hP : va_P (dC, dI) vwCl [(h0, .inr (0, [.int 0, .int 0, .int 0, .null, .null, .null, .null, .null])), (q0, .inl (c0, 8, .inl (fun _ => 0)))] H := hP
  have hD : va_D A [(h0, .inr (0, [.int 0, .int 0, .int 0, .null, .null, .null, .null, .null])), (q0, .inl (c0, 8, .inl (fun _ => 0)))] := hD
  have hK : va_K (dC, dI) vwCl [(c0, .int)] s := hK
  refine W.widen (k := 1) (n := 8) (Nat.le_of_ble_eq_true rfl) (Nat.le_of_ble_eq_true rfl) ?_
  refine va_putF (D := (dC, dI)) (ci := 0) (v := .ref q0) (ty := .array .int) (C := RX0) (T := TX0) (N := 8) hx hb hts (fun w hw => om_tc_b (om_tb_cw ((om_cls 0 (by decide)).2.1 w hw))) tyX0 tyX0_ok nmX0 hown hK hP hD hS 0 rfl rfl 3 (by decide) (hts _ (om_tc_b (om_tb_fw (List.mem_of_getElem? (i := 3) rfl)))) (fun _ h9 => h9) rfl hin rfl (by decide +kernel) rfl rfl (Nat.le_of_ble_eq_true rfl) dc_X0_init_9 (fun H locs hP hD hS => ?_)
  have hP : va_P (dC, dI) vwCl [(h0, .inr (0, [.int 0, .int 0, .int 0, .ref q0, .null, .null, .null, .null])), (q0, .inl (c0, 8, .inl (fun _ => 0)))] H := hP
  have hD : va_D A [(h0, .inr (0, [.int 0, .int 0, .int 0, .ref q0, .null, .null, .null, .null])), (q0, .inl (c0, 8, .inl (fun _ => 0)))] := hD
  refine lv_aload_n hx hb dc_X0_init_12 rfl (lv_at hl 0 rfl) ?_
  refine lv_bipush (v := (8)) hx hb dc_X0_init_13 (by decide) ?_
  refine va_newa (atype := .int) (ty := .int) (N' := 8) (a0 := (8, .inl (fun _ => 0))) hx hb (hts _ (om_tc_x (List.mem_of_getElem? (i := 29) rfl))) rfl hK hP hD hS hA (fun _ => rfl) (by decide) (by decide) (by decide) (Nat.le_of_ble_eq_true rfl) (Nat.le_of_ble_eq_true rfl) dc_X0_init_15 (fun q1 c1 H hK hP hD hS => ?_)
  have hP : va_P (dC, dI) vwCl [(h0, .inr (0, [.int 0, .int 0, .int 0, .ref q0, .null, .null, .null, .null])), (q0, .inl (c0, 8, .inl (fun _ => 0))), (q1, .inl (c1, 8, .inl (fun _ => 0)))] H := hP
  have hD : va_D A [(h0, .inr (0, [.int 0, .int 0, .int 0, .ref q0, .null, .null, .null, .null])), (q0, .inl (c0, 8, .inl (fun _ => 0))), (q1, .inl (c1, 8, .inl (fun _ => 0)))] := hD
  have hK : va_K (dC, dI) vwCl [(c0, .int), (c1, .int)] s := hK
  refine W.widen (k := 2) (n := 16) (Nat.le_of_ble_eq_true rfl) (Nat.le_of_ble_eq_true rfl) ?_
  refine va_putF (D := (dC, dI)) (ci := 0) (v := .ref q1) (ty := .array .int) (C := RX0) (T := TX0) (N := 8) hx hb hts (fun w hw => om_tc_b (om_tb_cw ((om_cls 0 (by decide)).2.1 w hw))) tyX0 tyX0_ok nmX0 hown hK hP hD hS 0 rfl rfl 4 (by decide) (hts _ (om_tc_b (om_tb_fw (List.mem_of_getElem? (i := 4) rfl)))) (fun _ h9 => h9) rfl hin rfl (by decide +kernel) rfl rfl (Nat.le_of_ble_eq_true rfl) dc_X0_init_17 (fun H locs hP hD hS => ?_)
  have hP : va_P (dC, dI) vwCl [(h0, .inr (0, [.int 0, .int 0, .int 0, .ref q0, .ref q1, .null, .null, .null])), (q0, .inl (c0, 8, .inl (fun _ => 0))), (q1, .inl (c1, 8, .inl (fun _ => 0)))] H := hP
  have hD : va_D A [(h0, .inr (0, [.int 0, .int 0, .int 0, .ref q0, .ref q1, .null, .null, .null])), (q0, .inl (c0, 8, .inl (fun _ => 0))), (q1, .inl (c1, 8, .inl (fun _ => 0)))] := hD
  refine lv_aload_n hx hb dc_X0_init_20 rfl (lv_at hl 0 rfl) ?_
  refine lv_bipush (v := (20)) hx hb dc_X0_init_21 (by decide) ?_
  refine va_newa (atype := .int) (ty := .int) (N' := 20) (a0 := (20, .inl (fun _ => 0))) hx hb (hts _ (om_tc_x (List.mem_of_getElem? (i := 29) rfl))) rfl hK hP hD hS hA (fun _ => rfl) (by decide) (by decide) (by decide) (Nat.le_of_ble_eq_true rfl) (Nat.le_of_ble_eq_true rfl) dc_X0_init_23 (fun q2 c2 H hK hP hD hS => ?_)
  have hP : va_P (dC, dI) vwCl [(h0, .inr (0, [.int 0, .int 0, .int 0, .ref q0, .ref q1, .null, .null, .null])), (q0, .inl (c0, 8, .inl (fun _ => 0))), (q1, .inl (c1, 8, .inl (fun _ => 0))), (q2, .inl (c2, 20, .inl (fun _ => 0)))] H := hP
  have hD : va_D A [(h0, .inr (0, [.int 0, .int 0, .int 0, .ref q0, .ref q1, .null, .null, .null])), (q0, .inl (c0, 8, .inl (fun _ => 0))), (q1, .inl (c1, 8, .inl (fun _ => 0))), (q2, .inl (c2, 20, .inl (fun _ => 0)))] := hD
  have hK : va_K (dC, dI) vwCl [(c0, .int), (c1, .int), (c2, .int)] s := hK
  refine W.widen (k := 3) (n := 36) (Nat.le_of_ble_eq_true rfl) (Nat.le_of_ble_eq_true rfl) ?_
  refine va_putF (D := (dC, dI)) (ci := 0) (v := .ref q2) (ty := .array .int) (C := RX0) (T := TX0) (N := 8) hx hb hts (fun w hw => om_tc_b (om_tb_cw ((om_cls 0 (by decide)).2.1 w hw))) tyX0 tyX0_ok nmX0 hown hK hP hD hS 0 rfl rfl 5 (by decide) (hts _ (om_tc_b (om_tb_fw (List.mem_of_getElem? (i := 5) rfl)))) (fun _ h9 => h9) rfl hin rfl (by decide +kernel) rfl rfl (Nat.le_of_ble_eq_true rfl) dc_X0_init_25 (fun H locs hP hD hS => ?_)
  have hP : va_P (dC, dI) vwCl [(h0, .inr (0, [.int 0, .int 0, .int 0, .ref q0, .ref q1, .ref q2, .null, .null])), (q0, .inl (c0, 8, .inl (fun _ => 0))), (q1, .inl (c1, 8, .inl (fun _ => 0))), (q2, .inl (c2, 20, .inl (fun _ => 0)))] H := hP
  have hD : va_D A [(h0, .inr (0, [.int 0, .int 0, .int 0, .ref q0, .ref q1, .ref q2, .null, .null])), (q0, .inl (c0, 8, .inl (fun _ => 0))), (q1, .inl (c1, 8, .inl (fun _ => 0))), (q2, .inl (c2, 20, .inl (fun _ => 0)))] := hD
  refine lv_aload_n hx hb dc_X0_init_28 rfl (lv_at hl 0 rfl) ?_
  refine lv_bipush (v := (20)) hx hb dc_X0_init_29 (by decide) ?_
  refine va_newa (atype := .int) (ty := .int) (N' := 20) (a0 := (20, .inl (fun _ => 0))) hx hb (hts _ (om_tc_x (List.mem_of_getElem? (i := 29) rfl))) rfl hK hP hD hS hA (fun _ => rfl) (by decide) (by decide) (by decide) (Nat.le_of_ble_eq_true rfl) (Nat.le_of_ble_eq_true rfl) dc_X0_init_31 (fun q3 c3 H hK hP hD hS => ?_)
  have hP : va_P (dC, dI) vwCl [(h0, .inr (0, [.int 0, .int 0, .int 0, .ref q0, .ref q1, .ref q2, .null, .null])), (q0, .inl (c0, 8, .inl (fun _ => 0))), (q1, .inl (c1, 8, .inl (fun _ => 0))), (q2, .inl (c2, 20, .inl (fun _ => 0))), (q3, .inl (c3, 20, .inl (fun _ => 0)))] H := hP
  have hD : va_D A [(h0, .inr (0, [.int 0, .int 0, .int 0, .ref q0, .ref q1, .ref q2, .null, .null])), (q0, .inl (c0, 8, .inl (fun _ => 0))), (q1, .inl (c1, 8, .inl (fun _ => 0))), (q2, .inl (c2, 20, .inl (fun _ => 0))), (q3, .inl (c3, 20, .inl (fun _ => 0)))] := hD
  have hK : va_K (dC, dI) vwCl [(c0, .int), (c1, .int), (c2, .int), (c3, .int)] s := hK
  refine W.widen (k := 4) (n := 56) (Nat.le_of_ble_eq_true rfl) (Nat.le_of_ble_eq_true rfl) ?_
  refine va_putF (D := (dC, dI)) (ci := 0) (v := .ref q3) (ty := .array .int) (C := RX0) (T := TX0) (N := 8) hx hb hts (fun w hw => om_tc_b (om_tb_cw ((om_cls 0 (by decide)).2.1 w hw))) tyX0 tyX0_ok nmX0 hown hK hP hD hS 0 rfl rfl 6 (by decide) (hts _ (om_tc_b (om_tb_fw (List.mem_of_getElem? (i := 6) rfl)))) (fun _ h9 => h9) rfl hin rfl (by decide +kernel) rfl rfl (Nat.le_of_ble_eq_true rfl) dc_X0_init_33 (fun H locs hP hD hS => ?_)
  have hP : va_P (dC, dI) vwCl [(h0, .inr (0, [.int 0, .int 0, .int 0, .ref q0, .ref q1, .ref q2, .ref q3, .null])), (q0, .inl (c0, 8, .inl (fun _ => 0))), (q1, .inl (c1, 8, .inl (fun _ => 0))), (q2, .inl (c2, 20, .inl (fun _ => 0))), (q3, .inl (c3, 20, .inl (fun _ => 0)))] H := hP
  have hD : va_D A [(h0, .inr (0, [.int 0, .int 0, .int 0, .ref q0, .ref q1, .ref q2, .ref q3, .null])), (q0, .inl (c0, 8, .inl (fun _ => 0))), (q1, .inl (c1, 8, .inl (fun _ => 0))), (q2, .inl (c2, 20, .inl (fun _ => 0))), (q3, .inl (c3, 20, .inl (fun _ => 0)))] := hD
  refine lv_aload_n hx hb dc_X0_init_36 rfl (lv_at hl 0 rfl) ?_
  refine lv_bipush (v := (20)) hx hb dc_X0_init_37 (by decide) ?_
  refine va_newa (atype := .int) (ty := .int) (N' := 20) (a0 := (20, .inl (fun _ => 0))) hx hb (hts _ (om_tc_x (List.mem_of_getElem? (i := 29) rfl))) rfl hK hP hD hS hA (fun _ => rfl) (by decide) (by decide) (by decide) (Nat.le_of_ble_eq_true rfl) (Nat.le_of_ble_eq_true rfl) dc_X0_init_39 (fun q4 c4 H hK hP hD hS => ?_)
  have hP : va_P (dC, dI) vwCl [(h0, .inr (0, [.int 0, .int 0, .int 0, .ref q0, .ref q1, .ref q2, .ref q3, .null])), (q0, .inl (c0, 8, .inl (fun _ => 0))), (q1, .inl (c1, 8, .inl (fun _ => 0))), (q2, .inl (c2, 20, .inl (fun _ => 0))), (q3, .inl (c3, 20, .inl (fun _ => 0))), (q4, .inl (c4, 20, .inl (fun _ => 0)))] H := hP
  have hD : va_D A [(h0, .inr (0, [.int 0, .int 0, .int 0, .ref q0, .ref q1, .ref q2, .ref q3, .null])), (q0, .inl (c0, 8, .inl (fun _ => 0))), (q1, .inl (c1, 8, .inl (fun _ => 0))), (q2, .inl (c2, 20, .inl (fun _ => 0))), (q3, .inl (c3, 20, .inl (fun _ => 0))), (q4, .inl (c4, 20, .inl (fun _ => 0)))] := hD
  have hK : va_K (dC, dI) vwCl [(c0, .int), (c1, .int), (c2, .int), (c3, .int), (c4, .int)] s := hK
  refine W.widen (k := 5) (n := 76) (Nat.le_of_ble_eq_true rfl) (Nat.le_of_ble_eq_true rfl) ?_
  refine va_putF (D := (dC, dI)) (ci := 0) (v := .ref q4) (ty := .array .int) (C := RX0) (T := TX0) (N := 8) hx hb hts (fun w hw => om_tc_b (om_tb_cw ((om_cls 0 (by decide)).2.1 w hw))) tyX0 tyX0_ok nmX0 hown hK hP hD hS 0 rfl rfl 7 (by decide) (hts _ (om_tc_b (om_tb_fw (List.mem_of_getElem? (i := 7) rfl)))) (fun _ h9 => h9) rfl hin rfl (by decide +kernel) rfl rfl (Nat.le_of_ble_eq_true rfl) dc_X0_init_41 (fun H locs hP hD hS => ?_)
  have hP : va_P (dC, dI) vwCl [(h0, .inr (0, [.int 0, .int 0, .int 0, .ref q0, .ref q1, .ref q2, .ref q3, .ref q4])), (q0, .inl (c0, 8, .inl (fun _ => 0))), (q1, .inl (c1, 8, .inl (fun _ => 0))), (q2, .inl (c2, 20, .inl (fun _ => 0))), (q3, .inl (c3, 20, .inl (fun _ => 0))), (q4, .inl (c4, 20, .inl (fun _ => 0)))] H := hP
  have hD : va_D A [(h0, .inr (0, [.int 0, .int 0, .int 0, .ref q0, .ref q1, .ref q2, .ref q3, .ref q4])), (q0, .inl (c0, 8, .inl (fun _ => 0))), (q1, .inl (c1, 8, .inl (fun _ => 0))), (q2, .inl (c2, 20, .inl (fun _ => 0))), (q3, .inl (c3, 20, .inl (fun _ => 0))), (q4, .inl (c4, 20, .inl (fun _ => 0)))] := hD
  have hP9 := hP
  refine W.widen (k := 5) (n := 76) (Nat.le_refl _) (Nat.le_refl _) ?_
  exact W.vret hx hb hr (fun t ht hW => ⟨⟨(), rfl, trivial, q0, c0, q1, c1, q2, c2, q3, c3, q4, c4, by rw [ht]; exact hP, va_K.moved hW.alike hK, hD⟩, hS.F ht⟩) hS.2.2 dc_X0_init_44
theorem dc_X1_init_0 : decode cX1_init 0 = .ok (.aload_n 0, 1) := by decide +kernel
theorem dc_X1_init_1 : decode cX1_init 1 = .ok (.invokespecial 3, 3) := by decide +kernel
theorem dc_X1_init_4 : decode cX1_init 4 = .ok (.aload_n 0, 1) := by decide +kernel
theorem dc_X1_init_5 : decode cX1_init 5 = .ok (.bipush 9, 2) := by decide +kernel
theorem dc_X1_init_7 : decode cX1_init 7 = .ok (.newarray .int, 2) := by decide +kernel
theorem dc_X1_init_9 : decode cX1_init 9 = .ok (.putfield 9, 3) := by decide +kernel
theorem dc_X1_init_12 : decode cX1_init 12 = .ok (.return_, 1) := by decide +kernel
def om_pX1 (dC : Nat → ClassId) (dI : Nat → Nat → Nat) (A : Nat → Prop) (h0 : Nat) (t : State) : Prop := ∃ (q0 : Nat) (c0 : ClassId), va_P (dC, dI) vwCl [(h0, .inr (1, [.ref q0, .int 0])), (q0, .inl (c0, 9, .inl (fun _ => 0)))] t.heap ∧ va_K (dC, dI) vwCl [(c0, .int)] t ∧ va_D A [(h0, .inr (1, [.ref q0, .int 0])), (q0, .inl (c0, 9, .inl (fun _ => 0)))]
set_option maxHeartbeats 4000000 in
set_option maxRecDepth 100000 in
theorem om_kX1 (l : Launch) (dC : Nat → ClassId) (dI : Nat → Nat → Nat) (h0 : Nat) (sz : Nat) : Met l yX1_init (om_wc yX1_init cX1_init) ({ frames := 1, cells := 1, slots := 9, locals := 12 }) (va_Pc [.ref h0] (fun U => U.heap.size = sz ∧ va_P (dC, dI) vwCl [(h0, .inr (1, [.null, .int 0]))] U.heap ∧ va_K (dC, dI) vwCl [] U ∧ va_D (fun _ => True) [(h0, .inr (1, [.null, .int 0]))] ∧ om_KC U)) (va_Qv (fun _ : Unit => True) (fun _ t => om_pX1 dC dI (va_A [(h0, .inr (1, [.null, .int 0]))] sz) h0 t) (va_A [(h0, .inr (1, [.null, .int 0]))] sz)) 1 9 (va_A [(h0, .inr (1, [.null, .int 0]))] sz) := by
  refine Met.ofW (cc := cX1_init) (maxL := 1) (ret := none) (by decide) rfl ?_
  intro p e s m args below meth c s₁ B hml hv
  obtain ⟨rfl, hsz, hP, hK, hD0, hKC⟩ := hv
  have hx := B.exec
  have hb := B.bytes
  have hr := B.returns
  have hts : ∀ w ∈ om_tc, w.before #[Value.ref h0] s = true := fun w hw => atoms_spec (ws := om_wc yX1_init cX1_init) B.pre w (List.mem_cons_of_mem _ hw)
  have hown : s.vm.findClass RX1 = some m.cls := findClass_of_methodNamed B.named
  have hlocks := B.notSynchronized
  have hin : meth.name = "<init>" := (name_of_methodNamed B.named B.method).1
  subst hsz
  have hD := hD0.self (sz := s.heap.size)
  generalize hAe : va_A [(h0, .inr (1, [.null, .int 0]))] s.heap.size = A at hD ⊢
  have hA : ∀ q : Nat, s.heap.size ≤ q → A q := fun q h => by rw [← hAe]; exact Or.inr h
  have hS : va_S A s.heap s.heap [] := va_S.rf
  have hP : va_P (dC, dI) vwCl [(h0, .inr (1, [.null, .int 0]))] s.heap := hP
  have hl := lv_entry ([.ref h0]) (n := 1) (Nat.le_of_ble_eq_true rfl)
  rw [lg_entry_eq]
  generalize (lg_sl ([.ref h0]) ++ List.replicate (1 - (lg_sl ([.ref h0])).length) Slot.unset).toArray = ls at hl ⊢
  have hl : lv_has ls 1 [(0, .ref h0)] := hl
  skip
  refine lv_aload_n hx hb dc_X1_init_0 rfl (lv_at hl 0 rfl) ?_
  refine W.objInit hx hb hown (hts _ (om_tc_x (List.mem_of_getElem? (i := 39) rfl))) (hts _ (om_tc_x (List.mem_of_getElem? (i := 22) rfl))) (hts _ (om_tc_x (List.mem_of_getElem? (i := 23) rfl))) rfl (by rw [hml]; exact hl.1) rfl dc_X1_init_1 (Nat.le_of_ble_eq_true rfl) (Nat.le_of_ble_eq_true rfl) ?_
  refine W.eq (g2 := F0 m 4 ls []) rfl ?_
  refine lv_aload_n hx hb dc_X1_init_4 rfl (lv_at hl 0 rfl) ?_
  refine lv_bipush (v := (9)) hx hb dc_X1_init_5 (by decide) ?_
  refine va_newa (atype := .int) (ty := .int) (N' := 9) (a0 := (9, .inl (fun _ => 0))) hx hb (hts _ (om_tc_x (List.mem_of_getElem? (i := 29) rfl))) rfl hK hP hD hS hA (fun _ => rfl) (by decide) (by decide) (by decide) (Nat.le_of_ble_eq_true rfl) (Nat.le_of_ble_eq_true rfl) dc_X1_init_7 (fun q0 c0 H hK hP hD hS => ?_)
  have hP : va_P (dC, dI) vwCl [(h0, .inr (1, [.null, .int 0])), (q0, .inl (c0, 9, .inl (fun _ => 0)))] H := hP
  have hD : va_D A [(h0, .inr (1, [.null, .int 0])), (q0, .inl (c0, 9, .inl (fun _ => 0)))] := hD
  have hK : va_K (dC, dI) vwCl [(c0, .int)] s := hK
  refine W.widen (k := 1) (n := 9) (Nat.le_of_ble_eq_true rfl) (Nat.le_of_ble_eq_true rfl) ?_
  refine va_putF (D := (dC, dI)) (ci := 1) (v := .ref q0) (ty := .array .int) (C := RX1) (T := TX1) (N := 2) hx hb hts (fun w hw => om_tc_b (om_tb_cw ((om_cls 1 (by decide)).2.1 w hw))) tyX1 tyX1_ok nmX1 hown hK hP hD hS 0 rfl rfl 0 (by decide) (hts _ (om_tc_b (om_tb_fw (List.mem_of_getElem? (i := 15) rfl)))) (fun _ h9 => h9) rfl hin rfl (by decide +kernel) rfl rfl (Nat.le_of_ble_eq_true rfl) dc_X1_init_9 (fun H locs hP hD hS => ?_)
  have hP : va_P (dC, dI) vwCl [(h0, .inr (1, [.ref q0, .int 0])), (q0, .inl (c0, 9, .inl (fun _ => 0)))] H := hP
  have hD : va_D A [(h0, .inr (1, [.ref q0, .int 0])), (q0, .inl (c0, 9, .inl (fun _ => 0)))] := hD
  have hP9 := hP
  refine W.widen (k := 1) (n := 9) (Nat.le_refl _) (Nat.le_refl _) ?_
  exact W.vret hx hb hr (fun t ht hW => ⟨⟨(), rfl, trivial, q0, c0, by rw [ht]; exact hP, va_K.moved hW.alike hK, hD⟩, hS.F ht⟩) hS.2.2 dc_X1_init_12
theorem dc_X3_init_0 : decode cX3_init 0 = .ok (.aload_n 0, 1) := by decide +kernel
theorem dc_X3_init_1 : decode cX3_init 1 = .ok (.invokespecial 3, 3) := by decide +kernel
theorem dc_X3_init_4 : decode cX3_init 4 = .ok (.aload_n 0, 1) := by decide +kernel
theorem dc_X3_init_5 : decode cX3_init 5 = .ok (.bipush 28, 2) := by decide +kernel
theorem dc_X3_init_7 : decode cX3_init 7 = .ok (.newarray .int, 2) := by decide +kernel
theorem dc_X3_init_9 : decode cX3_init 9 = .ok (.putfield 9, 3) := by decide +kernel
theorem dc_X3_init_12 : decode cX3_init 12 = .ok (.aload_n 0, 1) := by decide +kernel
theorem dc_X3_init_13 : decode cX3_init 13 = .ok (.bipush 28, 2) := by decide +kernel
theorem dc_X3_init_15 : decode cX3_init 15 = .ok (.newarray .int, 2) := by decide +kernel
theorem dc_X3_init_17 : decode cX3_init 17 = .ok (.putfield 15, 3) := by decide +kernel
theorem dc_X3_init_20 : decode cX3_init 20 = .ok (.aload_n 0, 1) := by decide +kernel
theorem dc_X3_init_21 : decode cX3_init 21 = .ok (.bipush 28, 2) := by decide +kernel
theorem dc_X3_init_23 : decode cX3_init 23 = .ok (.newarray .int, 2) := by decide +kernel
theorem dc_X3_init_25 : decode cX3_init 25 = .ok (.putfield 18, 3) := by decide +kernel
theorem dc_X3_init_28 : decode cX3_init 28 = .ok (.aload_n 0, 1) := by decide +kernel
theorem dc_X3_init_29 : decode cX3_init 29 = .ok (.bipush 8, 2) := by decide +kernel
theorem dc_X3_init_31 : decode cX3_init 31 = .ok (.newarray .int, 2) := by decide +kernel
theorem dc_X3_init_33 : decode cX3_init 33 = .ok (.putfield 21, 3) := by decide +kernel
theorem dc_X3_init_36 : decode cX3_init 36 = .ok (.return_, 1) := by decide +kernel
def om_pX3 (dC : Nat → ClassId) (dI : Nat → Nat → Nat) (A : Nat → Prop) (h0 : Nat) (t : State) : Prop := ∃ (q0 : Nat) (c0 : ClassId) (q1 : Nat) (c1 : ClassId) (q2 : Nat) (c2 : ClassId) (q3 : Nat) (c3 : ClassId), va_P (dC, dI) vwCl [(h0, .inr (3, [.int 0, .int 0, .int 0, .ref q0, .ref q1, .ref q2, .ref q3])), (q0, .inl (c0, 28, .inl (fun _ => 0))), (q1, .inl (c1, 28, .inl (fun _ => 0))), (q2, .inl (c2, 28, .inl (fun _ => 0))), (q3, .inl (c3, 8, .inl (fun _ => 0)))] t.heap ∧ va_K (dC, dI) vwCl [(c0, .int), (c1, .int), (c2, .int), (c3, .int)] t ∧ va_D A [(h0, .inr (3, [.int 0, .int 0, .int 0, .ref q0, .ref q1, .ref q2, .ref q3])), (q0, .inl (c0, 28, .inl (fun _ => 0))), (q1, .inl (c1, 28, .inl (fun _ => 0))), (q2, .inl (c2, 28, .inl (fun _ => 0))), (q3, .inl (c3, 8, .inl (fun _ => 0)))]
set_option maxHeartbeats 4000000 in
set_option maxRecDepth 100000 in
theorem om_kX3 (l : Launch) (dC : Nat → ClassId) (dI : Nat → Nat → Nat) (h0 : Nat) (sz : Nat) : Met l yX3_init (om_wc yX3_init cX3_init) ({ frames := 1, cells := 4, slots := 92, locals := 12 }) (va_Pc [.ref h0] (fun U => U.heap.size = sz ∧ va_P (dC, dI) vwCl [(h0, .inr (3, [.int 0, .int 0, .int 0, .null, .null, .null, .null]))] U.heap ∧ va_K (dC, dI) vwCl [] U ∧ va_D (fun _ => True) [(h0, .inr (3, [.int 0, .int 0, .int 0, .null, .null, .null, .null]))] ∧ om_KC U)) (va_Qv (fun _ : Unit => True) (fun _ t => om_pX3 dC dI (va_A [(h0, .inr (3, [.int 0, .int 0, .int 0, .null, .null, .null, .null]))] sz) h0 t) (va_A [(h0, .inr (3, [.int 0, .int 0, .int 0, .null, .null, .null, .null]))] sz)) 4 92 (va_A [(h0, .inr (3, [.int 0, .int 0, .int 0, .null, .null, .null, .null]))] sz) := by
  refine Met.ofW (cc := cX3_init) (maxL := 1) (ret := none) (by decide) rfl ?_
  intro p e s m args below meth c s₁ B hml hv
  obtain ⟨rfl, hsz, hP, hK, hD0, hKC⟩ := hv
  have hx := B.exec
  have hb := B.bytes
  have hr := B.returns
  have hts : ∀ w ∈ om_tc, w.before #[Value.ref h0] s = true := fun w hw => atoms_spec (ws := om_wc yX3_init cX3_init) B.pre w (List.mem_cons_of_mem _ hw)
  have hown : s.vm.findClass RX3 = some m.cls := findClass_of_methodNamed B.named
  have hlocks := B.notSynchronized
  have hin : meth.name = "<init>" := (name_of_methodNamed B.named B.method).1
  subst hsz
  have hD := hD0.self (sz := s.heap.size)
  generalize hAe : va_A [(h0, .inr (3, [.int 0, .int 0, .int 0, .null, .null, .null, .null]))] s.heap.size = A at hD ⊢
  have hA : ∀ q : Nat, s.heap.size ≤ q → A q := fun q h => by rw [← hAe]; exact Or.inr h
  have hS : va_S A s.heap s.heap [] := va_S.rf
  have hP : va_P (dC, dI) vwCl [(h0, .inr (3, [.int 0, .int 0, .int 0, .null, .null, .null, .null]))] s.heap := hP
  have hl := lv_entry ([.ref h0]) (n := 1) (Nat.le_of_ble_eq_true rfl)
  rw [lg_entry_eq]
  generalize (lg_sl ([.ref h0]) ++ List.replicate (1 - (lg_sl ([.ref h0])).length) Slot.unset).toArray = ls at hl ⊢
  have hl : lv_has ls 1 [(0, .ref h0)] := hl
  skip
  refine lv_aload_n hx hb dc_X3_init_0 rfl (lv_at hl 0 rfl) ?_
  refine W.objInit hx hb hown (hts _ (om_tc_x (List.mem_of_getElem? (i := 34) rfl))) (hts _ (om_tc_x (List.mem_of_getElem? (i := 22) rfl))) (hts _ (om_tc_x (List.mem_of_getElem? (i := 23) rfl))) rfl (by rw [hml]; exact hl.1) rfl dc_X3_init_1 (Nat.le_of_ble_eq_true rfl) (Nat.le_of_ble_eq_true rfl) ?_
  refine W.eq (g2 := F0 m 4 ls []) rfl ?_
  refine lv_aload_n hx hb dc_X3_init_4 rfl (lv_at hl 0 rfl) ?_
  refine lv_bipush (v := (28)) hx hb dc_X3_init_5 (by decide) ?_
  refine va_newa (atype := .int) (ty := .int) (N' := 28) (a0 := (28, .inl (fun _ => 0))) hx hb (hts _ (om_tc_x (List.mem_of_getElem? (i := 29) rfl))) rfl hK hP hD hS hA (fun _ => rfl) (by decide) (by decide) (by decide) (Nat.le_of_ble_eq_true rfl) (Nat.le_of_ble_eq_true rfl) dc_X3_init_7 (fun q0 c0 H hK hP hD hS => ?_)
  have hP : va_P (dC, dI) vwCl [(h0, .inr (3, [.int 0, .int 0, .int 0, .null, .null, .null, .null])), (q0, .inl (c0, 28, .inl (fun _ => 0)))] H := hP
  have hD : va_D A [(h0, .inr (3, [.int 0, .int 0, .int 0, .null, .null, .null, .null])), (q0, .inl (c0, 28, .inl (fun _ => 0)))] := hD
  have hK : va_K (dC, dI) vwCl [(c0, .int)] s := hK
  refine W.widen (k := 1) (n := 28) (Nat.le_of_ble_eq_true rfl) (Nat.le_of_ble_eq_true rfl) ?_
  refine va_putF (D := (dC, dI)) (ci := 3) (v := .ref q0) (ty := .array .int) (C := RX3) (T := TX3) (N := 7) hx hb hts (fun w hw => om_tc_b (om_tb_cw ((om_cls 3 (by decide)).2.1 w hw))) tyX3 tyX3_ok nmX3 hown hK hP hD hS 0 rfl rfl 3 (by decide) (hts _ (om_tc_b (om_tb_fw (List.mem_of_getElem? (i := 11) rfl)))) (fun _ h9 => h9) rfl hin rfl (by decide +kernel) rfl rfl (Nat.le_of_ble_eq_true rfl) dc_X3_init_9 (fun H locs hP hD hS => ?_)
  have hP : va_P (dC, dI) vwCl [(h0, .inr (3, [.int 0, .int 0, .int 0, .ref q0, .null, .null, .null])), (q0, .inl (c0, 28, .inl (fun _ => 0)))] H := hP
  have hD : va_D A [(h0, .inr (3, [.int 0, .int 0, .int 0, .ref q0, .null, .null, .null])), (q0, .inl (c0, 28, .inl (fun _ => 0)))] := hD
  refine lv_aload_n hx hb dc_X3_init_12 rfl (lv_at hl 0 rfl) ?_
  refine lv_bipush (v := (28)) hx hb dc_X3_init_13 (by decide) ?_
  refine va_newa (atype := .int) (ty := .int) (N' := 28) (a0 := (28, .inl (fun _ => 0))) hx hb (hts _ (om_tc_x (List.mem_of_getElem? (i := 29) rfl))) rfl hK hP hD hS hA (fun _ => rfl) (by decide) (by decide) (by decide) (Nat.le_of_ble_eq_true rfl) (Nat.le_of_ble_eq_true rfl) dc_X3_init_15 (fun q1 c1 H hK hP hD hS => ?_)
  have hP : va_P (dC, dI) vwCl [(h0, .inr (3, [.int 0, .int 0, .int 0, .ref q0, .null, .null, .null])), (q0, .inl (c0, 28, .inl (fun _ => 0))), (q1, .inl (c1, 28, .inl (fun _ => 0)))] H := hP
  have hD : va_D A [(h0, .inr (3, [.int 0, .int 0, .int 0, .ref q0, .null, .null, .null])), (q0, .inl (c0, 28, .inl (fun _ => 0))), (q1, .inl (c1, 28, .inl (fun _ => 0)))] := hD
  have hK : va_K (dC, dI) vwCl [(c0, .int), (c1, .int)] s := hK
  refine W.widen (k := 2) (n := 56) (Nat.le_of_ble_eq_true rfl) (Nat.le_of_ble_eq_true rfl) ?_
  refine va_putF (D := (dC, dI)) (ci := 3) (v := .ref q1) (ty := .array .int) (C := RX3) (T := TX3) (N := 7) hx hb hts (fun w hw => om_tc_b (om_tb_cw ((om_cls 3 (by decide)).2.1 w hw))) tyX3 tyX3_ok nmX3 hown hK hP hD hS 0 rfl rfl 4 (by decide) (hts _ (om_tc_b (om_tb_fw (List.mem_of_getElem? (i := 12) rfl)))) (fun _ h9 => h9) rfl hin rfl (by decide +kernel) rfl rfl (Nat.le_of_ble_eq_true rfl) dc_X3_init_17 (fun H locs hP hD hS => ?_)
  have hP : va_P (dC, dI) vwCl [(h0, .inr (3, [.int 0, .int 0, .int 0, .ref q0, .ref q1, .null, .null])), (q0, .inl (c0, 28, .inl (fun _ => 0))), (q1, .inl (c1, 28, .inl (fun _ => 0)))] H := hP
  have hD : va_D A [(h0, .inr (3, [.int 0, .int 0, .int 0, .ref q0, .ref q1, .null, .null])), (q0, .inl (c0, 28, .inl (fun _ => 0))), (q1, .inl (c1, 28, .inl (fun _ => 0)))] := hD
  refine lv_aload_n hx hb dc_X3_init_20 rfl (lv_at hl 0 rfl) ?_
  refine lv_bipush (v := (28)) hx hb dc_X3_init_21 (by decide) ?_
  refine va_newa (atype := .int) (ty := .int) (N' := 28) (a0 := (28, .inl (fun _ => 0))) hx hb (hts _ (om_tc_x (List.mem_of_getElem? (i := 29) rfl))) rfl hK hP hD hS hA (fun _ => rfl) (by decide) (by decide) (by decide) (Nat.le_of_ble_eq_true rfl) (Nat.le_of_ble_eq_true rfl) dc_X3_init_23 (fun q2 c2 H hK hP hD hS => ?_)
  have hP : va_P (dC, dI) vwCl [(h0, .inr (3, [.int 0, .int 0, .int 0, .ref q0, .ref q1, .null, .null])), (q0, .inl (c0, 28, .inl (fun _ => 0))), (q1, .inl (c1, 28, .inl (fun _ => 0))), (q2, .inl (c2, 28, .inl (fun _ => 0)))] H := hP
  have hD : va_D A [(h0, .inr (3, [.int 0, .int 0, .int 0, .ref q0, .ref q1, .null, .null])), (q0, .inl (c0, 28, .inl (fun _ => 0))), (q1, .inl (c1, 28, .inl (fun _ => 0))), (q2, .inl (c2, 28, .inl (fun _ => 0)))] := hD
  have hK : va_K (dC, dI) vwCl [(c0, .int), (c1, .int), (c2, .int)] s := hK
  refine W.widen (k := 3) (n := 84) (Nat.le_of_ble_eq_true rfl) (Nat.le_of_ble_eq_true rfl) ?_
  refine va_putF (D := (dC, dI)) (ci := 3) (v := .ref q2) (ty := .array .int) (C := RX3) (T := TX3) (N := 7) hx hb hts (fun w hw => om_tc_b (om_tb_cw ((om_cls 3 (by decide)).2.1 w hw))) tyX3 tyX3_ok nmX3 hown hK hP hD hS 0 rfl rfl 5 (by decide) (hts _ (om_tc_b (om_tb_fw (List.mem_of_getElem? (i := 13) rfl)))) (fun _ h9 => h9) rfl hin rfl (by decide +kernel) rfl rfl (Nat.le_of_ble_eq_true rfl) dc_X3_init_25 (fun H locs hP hD hS => ?_)
  have hP : va_P (dC, dI) vwCl [(h0, .inr (3, [.int 0, .int 0, .int 0, .ref q0, .ref q1, .ref q2, .null])), (q0, .inl (c0, 28, .inl (fun _ => 0))), (q1, .inl (c1, 28, .inl (fun _ => 0))), (q2, .inl (c2, 28, .inl (fun _ => 0)))] H := hP
  have hD : va_D A [(h0, .inr (3, [.int 0, .int 0, .int 0, .ref q0, .ref q1, .ref q2, .null])), (q0, .inl (c0, 28, .inl (fun _ => 0))), (q1, .inl (c1, 28, .inl (fun _ => 0))), (q2, .inl (c2, 28, .inl (fun _ => 0)))] := hD
  refine lv_aload_n hx hb dc_X3_init_28 rfl (lv_at hl 0 rfl) ?_
  refine lv_bipush (v := (8)) hx hb dc_X3_init_29 (by decide) ?_
  refine va_newa (atype := .int) (ty := .int) (N' := 8) (a0 := (8, .inl (fun _ => 0))) hx hb (hts _ (om_tc_x (List.mem_of_getElem? (i := 29) rfl))) rfl hK hP hD hS hA (fun _ => rfl) (by decide) (by decide) (by decide) (Nat.le_of_ble_eq_true rfl) (Nat.le_of_ble_eq_true rfl) dc_X3_init_31 (fun q3 c3 H hK hP hD hS => ?_)
  have hP : va_P (dC, dI) vwCl [(h0, .inr (3, [.int 0, .int 0, .int 0, .ref q0, .ref q1, .ref q2, .null])), (q0, .inl (c0, 28, .inl (fun _ => 0))), (q1, .inl (c1, 28, .inl (fun _ => 0))), (q2, .inl (c2, 28, .inl (fun _ => 0))), (q3, .inl (c3, 8, .inl (fun _ => 0)))] H := hP
  have hD : va_D A [(h0, .inr (3, [.int 0, .int 0, .int 0, .ref q0, .ref q1, .ref q2, .null])), (q0, .inl (c0, 28, .inl (fun _ => 0))), (q1, .inl (c1, 28, .inl (fun _ => 0))), (q2, .inl (c2, 28, .inl (fun _ => 0))), (q3, .inl (c3, 8, .inl (fun _ => 0)))] := hD
  have hK : va_K (dC, dI) vwCl [(c0, .int), (c1, .int), (c2, .int), (c3, .int)] s := hK
  refine W.widen (k := 4) (n := 92) (Nat.le_of_ble_eq_true rfl) (Nat.le_of_ble_eq_true rfl) ?_
  refine va_putF (D := (dC, dI)) (ci := 3) (v := .ref q3) (ty := .array .int) (C := RX3) (T := TX3) (N := 7) hx hb hts (fun w hw => om_tc_b (om_tb_cw ((om_cls 3 (by decide)).2.1 w hw))) tyX3 tyX3_ok nmX3 hown hK hP hD hS 0 rfl rfl 6 (by decide) (hts _ (om_tc_b (om_tb_fw (List.mem_of_getElem? (i := 14) rfl)))) (fun _ h9 => h9) rfl hin rfl (by decide +kernel) rfl rfl (Nat.le_of_ble_eq_true rfl) dc_X3_init_33 (fun H locs hP hD hS => ?_)
  have hP : va_P (dC, dI) vwCl [(h0, .inr (3, [.int 0, .int 0, .int 0, .ref q0, .ref q1, .ref q2, .ref q3])), (q0, .inl (c0, 28, .inl (fun _ => 0))), (q1, .inl (c1, 28, .inl (fun _ => 0))), (q2, .inl (c2, 28, .inl (fun _ => 0))), (q3, .inl (c3, 8, .inl (fun _ => 0)))] H := hP
  have hD : va_D A [(h0, .inr (3, [.int 0, .int 0, .int 0, .ref q0, .ref q1, .ref q2, .ref q3])), (q0, .inl (c0, 28, .inl (fun _ => 0))), (q1, .inl (c1, 28, .inl (fun _ => 0))), (q2, .inl (c2, 28, .inl (fun _ => 0))), (q3, .inl (c3, 8, .inl (fun _ => 0)))] := hD
  have hP9 := hP
  refine W.widen (k := 4) (n := 92) (Nat.le_refl _) (Nat.le_refl _) ?_
  exact W.vret hx hb hr (fun t ht hW => ⟨⟨(), rfl, trivial, q0, c0, q1, c1, q2, c2, q3, c3, by rw [ht]; exact hP, va_K.moved hW.alike hK, hD⟩, hS.F ht⟩) hS.2.2 dc_X3_init_36
theorem dc_X4_init_0 : decode cX4_init 0 = .ok (.aload_n 0, 1) := by decide +kernel
theorem dc_X4_init_1 : decode cX4_init 1 = .ok (.invokespecial 3, 3) := by decide +kernel
theorem dc_X4_init_4 : decode cX4_init 4 = .ok (.aload_n 0, 1) := by decide +kernel
theorem dc_X4_init_5 : decode cX4_init 5 = .ok (.bipush 120, 2) := by decide +kernel
theorem dc_X4_init_7 : decode cX4_init 7 = .ok (.newarray .int, 2) := by decide +kernel
theorem dc_X4_init_9 : decode cX4_init 9 = .ok (.putfield 9, 3) := by decide +kernel
theorem dc_X4_init_12 : decode cX4_init 12 = .ok (.aload_n 0, 1) := by decide +kernel
theorem dc_X4_init_13 : decode cX4_init 13 = .ok (.bipush 120, 2) := by decide +kernel
theorem dc_X4_init_15 : decode cX4_init 15 = .ok (.newarray .int, 2) := by decide +kernel
theorem dc_X4_init_17 : decode cX4_init 17 = .ok (.putfield 15, 3) := by decide +kernel
theorem dc_X4_init_20 : decode cX4_init 20 = .ok (.aload_n 0, 1) := by decide +kernel
theorem dc_X4_init_21 : decode cX4_init 21 = .ok (.bipush 120, 2) := by decide +kernel
theorem dc_X4_init_23 : decode cX4_init 23 = .ok (.newarray .int, 2) := by decide +kernel
theorem dc_X4_init_25 : decode cX4_init 25 = .ok (.putfield 18, 3) := by decide +kernel
theorem dc_X4_init_28 : decode cX4_init 28 = .ok (.aload_n 0, 1) := by decide +kernel
theorem dc_X4_init_29 : decode cX4_init 29 = .ok (.bipush 120, 2) := by decide +kernel
theorem dc_X4_init_31 : decode cX4_init 31 = .ok (.newarray .int, 2) := by decide +kernel
theorem dc_X4_init_33 : decode cX4_init 33 = .ok (.putfield 21, 3) := by decide +kernel
theorem dc_X4_init_36 : decode cX4_init 36 = .ok (.aload_n 0, 1) := by decide +kernel
theorem dc_X4_init_37 : decode cX4_init 37 = .ok (.bipush 120, 2) := by decide +kernel
theorem dc_X4_init_39 : decode cX4_init 39 = .ok (.newarray .int, 2) := by decide +kernel
theorem dc_X4_init_41 : decode cX4_init 41 = .ok (.putfield 24, 3) := by decide +kernel
theorem dc_X4_init_44 : decode cX4_init 44 = .ok (.aload_n 0, 1) := by decide +kernel
theorem dc_X4_init_45 : decode cX4_init 45 = .ok (.bipush 120, 2) := by decide +kernel
theorem dc_X4_init_47 : decode cX4_init 47 = .ok (.newarray .int, 2) := by decide +kernel
theorem dc_X4_init_49 : decode cX4_init 49 = .ok (.putfield 27, 3) := by decide +kernel
theorem dc_X4_init_52 : decode cX4_init 52 = .ok (.aload_n 0, 1) := by decide +kernel
theorem dc_X4_init_53 : decode cX4_init 53 = .ok (.bipush 120, 2) := by decide +kernel
theorem dc_X4_init_55 : decode cX4_init 55 = .ok (.newarray .int, 2) := by decide +kernel
theorem dc_X4_init_57 : decode cX4_init 57 = .ok (.putfield 30, 3) := by decide +kernel
theorem dc_X4_init_60 : decode cX4_init 60 = .ok (.return_, 1) := by decide +kernel
def om_pX4 (dC : Nat → ClassId) (dI : Nat → Nat → Nat) (A : Nat → Prop) (h0 : Nat) (t : State) : Prop := ∃ (q0 : Nat) (c0 : ClassId) (q1 : Nat) (c1 : ClassId) (q2 : Nat) (c2 : ClassId) (q3 : Nat) (c3 : ClassId) (q4 : Nat) (c4 : ClassId) (q5 : Nat) (c5 : ClassId) (q6 : Nat) (c6 : ClassId), va_P (dC, dI) vwCl [(h0, .inr (4, [.int 0, .ref q0, .ref q1, .ref q2, .ref q3, .ref q4, .int 0, .ref q5, .int 0, .ref q6, .int 0])), (q0, .inl (c0, 120, .inl (fun _ => 0))), (q1, .inl (c1, 120, .inl (fun _ => 0))), (q2, .inl (c2, 120, .inl (fun _ => 0))), (q3, .inl (c3, 120, .inl (fun _ => 0))), (q4, .inl (c4, 120, .inl (fun _ => 0))), (q5, .inl (c5, 120, .inl (fun _ => 0))), (q6, .inl (c6, 120, .inl (fun _ => 0)))] t.heap ∧ va_K (dC, dI) vwCl [(c0, .int), (c1, .int), (c2, .int), (c3, .int), (c4, .int), (c5, .int), (c6, .int)] t ∧ va_D A [(h0, .inr (4, [.int 0, .ref q0, .ref q1, .ref q2, .ref q3, .ref q4, .int 0, .ref q5, .int 0, .ref q6, .int 0])), (q0, .inl (c0, 120, .inl (fun _ => 0))), (q1, .inl (c1, 120, .inl (fun _ => 0))), (q2, .inl (c2, 120, .inl (fun _ => 0))), (q3, .inl (c3, 120, .inl (fun _ => 0))), (q4, .inl (c4, 120, .inl (fun _ => 0))), (q5, .inl (c5, 120, .inl (fun _ => 0))), (q6, .inl (c6, 120, .inl (fun _ => 0)))]
set_option maxHeartbeats 4000000 in
set_option maxRecDepth 100000 in
theorem om_kX4 (l : Launch) (dC : Nat → ClassId) (dI : Nat → Nat → Nat) (h0 : Nat) (sz : Nat) : Met l yX4_init (om_wc yX4_init cX4_init) ({ frames := 1, cells := 7, slots := 840, locals := 12 }) (va_Pc [.ref h0] (fun U => U.heap.size = sz ∧ va_P (dC, dI) vwCl [(h0, .inr (4, [.int 0, .null, .null, .null, .null, .null, .int 0, .null, .int 0, .null, .int 0]))] U.heap ∧ va_K (dC, dI) vwCl [] U ∧ va_D (fun _ => True) [(h0, .inr (4, [.int 0, .null, .null, .null, .null, .null, .int 0, .null, .int 0, .null, .int 0]))] ∧ om_KC U)) (va_Qv (fun _ : Unit => True) (fun _ t => om_pX4 dC dI (va_A [(h0, .inr (4, [.int 0, .null, .null, .null, .null, .null, .int 0, .null, .int 0, .null, .int 0]))] sz) h0 t) (va_A [(h0, .inr (4, [.int 0, .null, .null, .null, .null, .null, .int 0, .null, .int 0, .null, .int 0]))] sz)) 7 840 (va_A [(h0, .inr (4, [.int 0, .null, .null, .null, .null, .null, .int 0, .null, .int 0, .null, .int 0]))] sz) := by
  refine Met.ofW (cc := cX4_init) (maxL := 1) (ret := none) (by decide) rfl ?_
  intro p e s m args below meth c s₁ B hml hv
  obtain ⟨rfl, hsz, hP, hK, hD0, hKC⟩ := hv
  have hx := B.exec
  have hb := B.bytes
  have hr := B.returns
  have hts : ∀ w ∈ om_tc, w.before #[Value.ref h0] s = true := fun w hw => atoms_spec (ws := om_wc yX4_init cX4_init) B.pre w (List.mem_cons_of_mem _ hw)
  have hown : s.vm.findClass RX4 = some m.cls := findClass_of_methodNamed B.named
  have hlocks := B.notSynchronized
  have hin : meth.name = "<init>" := (name_of_methodNamed B.named B.method).1
  subst hsz
  have hD := hD0.self (sz := s.heap.size)
  generalize hAe : va_A [(h0, .inr (4, [.int 0, .null, .null, .null, .null, .null, .int 0, .null, .int 0, .null, .int 0]))] s.heap.size = A at hD ⊢
  have hA : ∀ q : Nat, s.heap.size ≤ q → A q := fun q h => by rw [← hAe]; exact Or.inr h
  have hS : va_S A s.heap s.heap [] := va_S.rf
  have hP : va_P (dC, dI) vwCl [(h0, .inr (4, [.int 0, .null, .null, .null, .null, .null, .int 0, .null, .int 0, .null, .int 0]))] s.heap := hP
  have hl := lv_entry ([.ref h0]) (n := 1) (Nat.le_of_ble_eq_true rfl)
  rw [lg_entry_eq]
  generalize (lg_sl ([.ref h0]) ++ List.replicate (1 - (lg_sl ([.ref h0])).length) Slot.unset).toArray = ls at hl ⊢
  have hl : lv_has ls 1 [(0, .ref h0)] := hl
  skip
  refine lv_aload_n hx hb dc_X4_init_0 rfl (lv_at hl 0 rfl) ?_
  refine W.objInit hx hb hown (hts _ (om_tc_x (List.mem_of_getElem? (i := 55) rfl))) (hts _ (om_tc_x (List.mem_of_getElem? (i := 22) rfl))) (hts _ (om_tc_x (List.mem_of_getElem? (i := 23) rfl))) rfl (by rw [hml]; exact hl.1) rfl dc_X4_init_1 (Nat.le_of_ble_eq_true rfl) (Nat.le_of_ble_eq_true rfl) ?_
  refine W.eq (g2 := F0 m 4 ls []) rfl ?_
  refine lv_aload_n hx hb dc_X4_init_4 rfl (lv_at hl 0 rfl) ?_
  refine lv_bipush (v := (120)) hx hb dc_X4_init_5 (by decide) ?_
  refine va_newa (atype := .int) (ty := .int) (N' := 120) (a0 := (120, .inl (fun _ => 0))) hx hb (hts _ (om_tc_x (List.mem_of_getElem? (i := 29) rfl))) rfl hK hP hD hS hA (fun _ => rfl) (by decide) (by decide) (by decide) (Nat.le_of_ble_eq_true rfl) (Nat.le_of_ble_eq_true rfl) dc_X4_init_7 (fun q0 c0 H hK hP hD hS => ?_)
  have hP : va_P (dC, dI) vwCl [(h0, .inr (4, [.int 0, .null, .null, .null, .null, .null, .int 0, .null, .int 0, .null, .int 0])), (q0, .inl (c0, 120, .inl (fun _ => 0)))] H := hP
  have hD : va_D A [(h0, .inr (4, [.int 0, .null, .null, .null, .null, .null, .int 0, .null, .int 0, .null, .int 0])), (q0, .inl (c0, 120, .inl (fun _ => 0)))] := hD
  have hK : va_K (dC, dI) vwCl [(c0, .int)] s := hK
  refine W.widen (k := 1) (n := 120) (Nat.le_of_ble_eq_true rfl) (Nat.le_of_ble_eq_true rfl) ?_
  refine va_putF (D := (dC, dI)) (ci := 4) (v := .ref q0) (ty := .array .int) (C := RX4) (T := TX4) (N := 11) hx hb hts (fun w hw => om_tc_b (om_tb_cw ((om_cls 4 (by decide)).2.1 w hw))) tyX4 tyX4_ok nmX4 hown hK hP hD hS 0 rfl rfl 1 (by decide) (hts _ (om_tc_b (om_tb_fw (List.mem_of_getElem? (i := 34) rfl)))) (fun _ h9 => h9) rfl hin rfl (by decide +kernel) rfl rfl (Nat.le_of_ble_eq_true rfl) dc_X4_init_9 (fun H locs hP hD hS => ?_)
  have hP : va_P (dC, dI) vwCl [(h0, .inr (4, [.int 0, .ref q0, .null, .null, .null, .null, .int 0, .null, .int 0, .null, .int 0])), (q0, .inl (c0, 120, .inl (fun _ => 0)))] H := hP
  have hD : va_D A [(h0, .inr (4, [.int 0, .ref q0, .null, .null, .null, .null, .int 0, .null, .int 0, .null, .int 0])), (q0, .inl (c0, 120, .inl (fun _ => 0)))] := hD
  refine lv_aload_n hx hb dc_X4_init_12 rfl (lv_at hl 0 rfl) ?_
  refine lv_bipush (v := (120)) hx hb dc_X4_init_13 (by decide) ?_
  refine va_newa (atype := .int) (ty := .int) (N' := 120) (a0 := (120, .inl (fun _ => 0))) hx hb (hts _ (om_tc_x (List.mem_of_getElem? (i := 29) rfl))) rfl hK hP hD hS hA (fun _ => rfl) (by decide) (by decide) (by decide) (Nat.le_of_ble_eq_true rfl) (Nat.le_of_ble_eq_true rfl) dc_X4_init_15 (fun q1 c1 H hK hP hD hS => ?_)
  have hP : va_P (dC, dI) vwCl [(h0, .inr (4, [.int 0, .ref q0, .null, .null, .null, .null, .int 0, .null, .int 0, .null, .int 0])), (q0, .inl (c0, 120, .inl (fun _ => 0))), (q1, .inl (c1, 120, .inl (fun _ => 0)))] H := hP
  have hD : va_D A [(h0, .inr (4, [.int 0, .ref q0, .null, .null, .null, .null, .int 0, .null, .int 0, .null, .int 0])), (q0, .inl (c0, 120, .inl (fun _ => 0))), (q1, .inl (c1, 120, .inl (fun _ => 0)))] := hD
  have hK : va_K (dC, dI) vwCl [(c0, .int), (c1, .int)] s := hK
  refine W.widen (k := 2) (n := 240) (Nat.le_of_ble_eq_true rfl) (Nat.le_of_ble_eq_true rfl) ?_
  refine va_putF (D := (dC, dI)) (ci := 4) (v := .ref q1) (ty := .array .int) (C := RX4) (T := TX4) (N := 11) hx hb hts (fun w hw => om_tc_b (om_tb_cw ((om_cls 4 (by decide)).2.1 w hw))) tyX4 tyX4_ok nmX4 hown hK hP hD hS 0 rfl rfl 2 (by decide) (hts _ (om_tc_b (om_tb_fw (List.mem_of_getElem? (i := 35) rfl)))) (fun _ h9 => h9) rfl hin rfl (by decide +kernel) rfl rfl (Nat.le_of_ble_eq_true rfl) dc_X4_init_17 (fun H locs hP hD hS => ?_)
  have hP : va_P (dC, dI) vwCl [(h0, .inr (4, [.int 0, .ref q0, .ref q1, .null, .null, .null, .int 0, .null, .int 0, .null, .int 0])), (q0, .inl (c0, 120, .inl (fun _ => 0))), (q1, .inl (c1, 120, .inl (fun _ => 0)))] H := hP
  have hD : va_D A [(h0, .inr (4, [.int 0, .ref q0, .ref q1, .null, .null, .null, .int 0, .null, .int 0, .null, .int 0])), (q0, .inl (c0, 120, .inl (fun _ => 0))), (q1, .inl (c1, 120, .inl (fun _ => 0)))] := hD
  refine lv_aload_n hx hb dc_X4_init_20 rfl (lv_at hl 0 rfl) ?_
  refine lv_bipush (v := (120)) hx hb dc_X4_init_21 (by decide) ?_
  refine va_newa (atype := .int) (ty := .int) (N' := 120) (a0 := (120, .inl (fun _ => 0))) hx hb (hts _ (om_tc_x (List.mem_of_getElem? (i := 29) rfl))) rfl hK hP hD hS hA (fun _ => rfl) (by decide) (by decide) (by decide) (Nat.le_of_ble_eq_true rfl) (Nat.le_of_ble_eq_true rfl) dc_X4_init_23 (fun q2 c2 H hK hP hD hS => ?_)
  have hP : va_P (dC, dI) vwCl [(h0, .inr (4, [.int 0, .ref q0, .ref q1, .null, .null, .null, .int 0, .null, .int 0, .null, .int 0])), (q0, .inl (c0, 120, .inl (fun _ => 0))), (q1, .inl (c1, 120, .inl (fun _ => 0))), (q2, .inl (c2, 120, .inl (fun _ => 0)))] H := hP
  have hD : va_D A [(h0, .inr (4, [.int 0, .ref q0, .ref q1, .null, .null, .null, .int 0, .null, .int 0, .null, .int 0])), (q0, .inl (c0, 120, .inl (fun _ => 0))), (q1, .inl (c1, 120, .inl (fun _ => 0))), (q2, .inl (c2, 120, .inl (fun _ => 0)))] := hD
  have hK : va_K (dC, dI) vwCl [(c0, .int), (c1, .int), (c2, .int)] s := hK
  refine W.widen (k := 3) (n := 360) (Nat.le_of_ble_eq_true rfl) (Nat.le_of_ble_eq_true rfl) ?_
  refine va_putF (D := (dC, dI)) (ci := 4) (v := .ref q2) (ty := .array .int) (C := RX4) (T := TX4) (N := 11) hx hb hts (fun w hw => om_tc_b (om_tb_cw ((om_cls 4 (by decide)).2.1 w hw))) tyX4 tyX4_ok nmX4 hown hK hP hD hS 0 rfl rfl 3 (by decide) (hts _ (om_tc_b (om_tb_fw (List.mem_of_getElem? (i := 36) rfl)))) (fun _ h9 => h9) rfl hin rfl (by decide +kernel) rfl rfl (Nat.le_of_ble_eq_true rfl) dc_X4_init_25 (fun H locs hP hD hS => ?_)
  have hP : va_P (dC, dI) vwCl [(h0, .inr (4, [.int 0, .ref q0, .ref q1, .ref q2, .null, .null, .int 0, .null, .int 0, .null, .int 0])), (q0, .inl (c0, 120, .inl (fun _ => 0))), (q1, .inl (c1, 120, .inl (fun _ => 0))), (q2, .inl (c2, 120, .inl (fun _ => 0)))] H := hP
  have hD : va_D A [(h0, .inr (4, [.int 0, .ref q0, .ref q1, .ref q2, .null, .null, .int 0, .null, .int 0, .null, .int 0])), (q0, .inl (c0, 120, .inl (fun _ => 0))), (q1, .inl (c1, 120, .inl (fun _ => 0))), (q2, .inl (c2, 120, .inl (fun _ => 0)))] := hD
  refine lv_aload_n hx hb dc_X4_init_28 rfl (lv_at hl 0 rfl) ?_
  refine lv_bipush (v := (120)) hx hb dc_X4_init_29 (by decide) ?_
  refine va_newa (atype := .int) (ty := .int) (N' := 120) (a0 := (120, .inl (fun _ => 0))) hx hb (hts _ (om_tc_x (List.mem_of_getElem? (i := 29) rfl))) rfl hK hP hD hS hA (fun _ => rfl) (by decide) (by decide) (by decide) (Nat.le_of_ble_eq_true rfl) (Nat.le_of_ble_eq_true rfl) dc_X4_init_31 (fun q3 c3 H hK hP hD hS => ?_)
  have hP : va_P (dC, dI) vwCl [(h0, .inr (4, [.int 0, .ref q0, .ref q1, .ref q2, .null, .null, .int 0, .null, .int 0, .null, .int 0])), (q0, .inl (c0, 120, .inl (fun _ => 0))), (q1, .inl (c1, 120, .inl (fun _ => 0))), (q2, .inl (c2, 120, .inl (fun _ => 0))), (q3, .inl (c3, 120, .inl (fun _ => 0)))] H := hP
  have hD : va_D A [(h0, .inr (4, [.int 0, .ref q0, .ref q1, .ref q2, .null, .null, .int 0, .null, .int 0, .null, .int 0])), (q0, .inl (c0, 120, .inl (fun _ => 0))), (q1, .inl (c1, 120, .inl (fun _ => 0))), (q2, .inl (c2, 120, .inl (fun _ => 0))), (q3, .inl (c3, 120, .inl (fun _ => 0)))] := hD
  have hK : va_K (dC, dI) vwCl [(c0, .int), (c1, .int), (c2, .int), (c3, .int)] s := hK
  refine W.widen (k := 4) (n := 480) (Nat.le_of_ble_eq_true rfl) (Nat.le_of_ble_eq_true rfl) ?_
  refine va_putF (D := (dC, dI)) (ci := 4) (v := .ref q3) (ty := .array .int) (C := RX4) (T := TX4) (N := 11) hx hb hts (fun w hw => om_tc_b (om_tb_cw ((om_cls 4 (by decide)).2.1 w hw))) tyX4 tyX4_ok nmX4 hown hK hP hD hS 0 rfl rfl 4 (by decide) (hts _ (om_tc_b (om_tb_fw (List.mem_of_getElem? (i := 37) rfl)))) (fun _ h9 => h9) rfl hin rfl (by decide +kernel) rfl rfl (Nat.le_of_ble_eq_true rfl) dc_X4_init_33 (fun H locs hP hD hS => ?_)
  have hP : va_P (dC, dI) vwCl [(h0, .inr (4, [.int 0, .ref q0, .ref q1, .ref q2, .ref q3, .null, .int 0, .null, .int 0, .null, .int 0])), (q0, .inl (c0, 120, .inl (fun _ => 0))), (q1, .inl (c1, 120, .inl (fun _ => 0))), (q2, .inl (c2, 120, .inl (fun _ => 0))), (q3, .inl (c3, 120, .inl (fun _ => 0)))] H := hP
  have hD : va_D A [(h0, .inr (4, [.int 0, .ref q0, .ref q1, .ref q2, .ref q3, .null, .int 0, .null, .int 0, .null, .int 0])), (q0, .inl (c0, 120, .inl (fun _ => 0))), (q1, .inl (c1, 120, .inl (fun _ => 0))), (q2, .inl (c2, 120, .inl (fun _ => 0))), (q3, .inl (c3, 120, .inl (fun _ => 0)))] := hD
  refine lv_aload_n hx hb dc_X4_init_36 rfl (lv_at hl 0 rfl) ?_
  refine lv_bipush (v := (120)) hx hb dc_X4_init_37 (by decide) ?_
  refine va_newa (atype := .int) (ty := .int) (N' := 120) (a0 := (120, .inl (fun _ => 0))) hx hb (hts _ (om_tc_x (List.mem_of_getElem? (i := 29) rfl))) rfl hK hP hD hS hA (fun _ => rfl) (by decide) (by decide) (by decide) (Nat.le_of_ble_eq_true rfl) (Nat.le_of_ble_eq_true rfl) dc_X4_init_39 (fun q4 c4 H hK hP hD hS => ?_)
  have hP : va_P (dC, dI) vwCl [(h0, .inr (4, [.int 0, .ref q0, .ref q1, .ref q2, .ref q3, .null, .int 0, .null, .int 0, .null, .int 0])), (q0, .inl (c0, 120, .inl (fun _ => 0))), (q1, .inl (c1, 120, .inl (fun _ => 0))), (q2, .inl (c2, 120, .inl (fun _ => 0))), (q3, .inl (c3, 120, .inl (fun _ => 0))), (q4, .inl (c4, 120, .inl (fun _ => 0)))] H := hP
  have hD : va_D A [(h0, .inr (4, [.int 0, .ref q0, .ref q1, .ref q2, .ref q3, .null, .int 0, .null, .int 0, .null, .int 0])), (q0, .inl (c0, 120, .inl (fun _ => 0))), (q1, .inl (c1, 120, .inl (fun _ => 0))), (q2, .inl (c2, 120, .inl (fun _ => 0))), (q3, .inl (c3, 120, .inl (fun _ => 0))), (q4, .inl (c4, 120, .inl (fun _ => 0)))] := hD
  have hK : va_K (dC, dI) vwCl [(c0, .int), (c1, .int), (c2, .int), (c3, .int), (c4, .int)] s := hK
  refine W.widen (k := 5) (n := 600) (Nat.le_of_ble_eq_true rfl) (Nat.le_of_ble_eq_true rfl) ?_
  refine va_putF (D := (dC, dI)) (ci := 4) (v := .ref q4) (ty := .array .int) (C := RX4) (T := TX4) (N := 11) hx hb hts (fun w hw => om_tc_b (om_tb_cw ((om_cls 4 (by decide)).2.1 w hw))) tyX4 tyX4_ok nmX4 hown hK hP hD hS 0 rfl rfl 5 (by decide) (hts _ (om_tc_b (om_tb_fw (List.mem_of_getElem? (i := 38) rfl)))) (fun _ h9 => h9) rfl hin rfl (by decide +kernel) rfl rfl (Nat.le_of_ble_eq_true rfl) dc_X4_init_41 (fun H locs hP hD hS => ?_)
  have hP : va_P (dC, dI) vwCl [(h0, .inr (4, [.int 0, .ref q0, .ref q1, .ref q2, .ref q3, .ref q4, .int 0, .null, .int 0, .null, .int 0])), (q0, .inl (c0, 120, .inl (fun _ => 0))), (q1, .inl (c1, 120, .inl (fun _ => 0))), (q2, .inl (c2, 120, .inl (fun _ => 0))), (q3, .inl (c3, 120, .inl (fun _ => 0))), (q4, .inl (c4, 120, .inl (fun _ => 0)))] H := hP
  have hD : va_D A [(h0, .inr (4, [.int 0, .ref q0, .ref q1, .ref q2, .ref q3, .ref q4, .int 0, .null, .int 0, .null, .int 0])), (q0, .inl (c0, 120, .inl (fun _ => 0))), (q1, .inl (c1, 120, .inl (fun _ => 0))), (q2, .inl (c2, 120, .inl (fun _ => 0))), (q3, .inl (c3, 120, .inl (fun _ => 0))), (q4, .inl (c4, 120, .inl (fun _ => 0)))] := hD
  refine lv_aload_n hx hb dc_X4_init_44 rfl (lv_at hl 0 rfl) ?_
  refine lv_bipush (v := (120)) hx hb dc_X4_init_45 (by decide) ?_
  refine va_newa (atype := .int) (ty := .int) (N' := 120) (a0 := (120, .inl (fun _ => 0))) hx hb (hts _ (om_tc_x (List.mem_of_getElem? (i := 29) rfl))) rfl hK hP hD hS hA (fun _ => rfl) (by decide) (by decide) (by decide) (Nat.le_of_ble_eq_true rfl) (Nat.le_of_ble_eq_true rfl) dc_X4_init_47 (fun q5 c5 H hK hP hD hS => ?_)
  have hP : va_P (dC, dI) vwCl [(h0, .inr (4, [.int 0, .ref q0, .ref q1, .ref q2, .ref q3, .ref q4, .int 0, .null, .int 0, .null, .int 0])), (q0, .inl (c0, 120, .inl (fun _ => 0))), (q1, .inl (c1, 120, .inl (fun _ => 0))), (q2, .inl (c2, 120, .inl (fun _ => 0))), (q3, .inl (c3, 120, .inl (fun _ => 0))), (q4, .inl (c4, 120, .inl (fun _ => 0))), (q5, .inl (c5, 120, .inl (fun _ => 0)))] H := hP
  have hD : va_D A [(h0, .inr (4, [.int 0, .ref q0, .ref q1, .ref q2, .ref q3, .ref q4, .int 0, .null, .int 0, .null, .int 0])), (q0, .inl (c0, 120, .inl (fun _ => 0))), (q1, .inl (c1, 120, .inl (fun _ => 0))), (q2, .inl (c2, 120, .inl (fun _ => 0))), (q3, .inl (c3, 120, .inl (fun _ => 0))), (q4, .inl (c4, 120, .inl (fun _ => 0))), (q5, .inl (c5, 120, .inl (fun _ => 0)))] := hD
  have hK : va_K (dC, dI) vwCl [(c0, .int), (c1, .int), (c2, .int), (c3, .int), (c4, .int), (c5, .int)] s := hK
  refine W.widen (k := 6) (n := 720) (Nat.le_of_ble_eq_true rfl) (Nat.le_of_ble_eq_true rfl) ?_
  refine va_putF (D := (dC, dI)) (ci := 4) (v := .ref q5) (ty := .array .int) (C := RX4) (T := TX4) (N := 11) hx hb hts (fun w hw => om_tc_b (om_tb_cw ((om_cls 4 (by decide)).2.1 w hw))) tyX4 tyX4_ok nmX4 hown hK hP hD hS 0 rfl rfl 7 (by decide) (hts _ (om_tc_b (om_tb_fw (List.mem_of_getElem? (i := 40) rfl)))) (fun _ h9 => h9) rfl hin rfl (by decide +kernel) rfl rfl (Nat.le_of_ble_eq_true rfl) dc_X4_init_49 (fun H locs hP hD hS => ?_)
  have hP : va_P (dC, dI) vwCl [(h0, .inr (4, [.int 0, .ref q0, .ref q1, .ref q2, .ref q3, .ref q4, .int 0, .ref q5, .int 0, .null, .int 0])), (q0, .inl (c0, 120, .inl (fun _ => 0))), (q1, .inl (c1, 120, .inl (fun _ => 0))), (q2, .inl (c2, 120, .inl (fun _ => 0))), (q3, .inl (c3, 120, .inl (fun _ => 0))), (q4, .inl (c4, 120, .inl (fun _ => 0))), (q5, .inl (c5, 120, .inl (fun _ => 0)))] H := hP
  have hD : va_D A [(h0, .inr (4, [.int 0, .ref q0, .ref q1, .ref q2, .ref q3, .ref q4, .int 0, .ref q5, .int 0, .null, .int 0])), (q0, .inl (c0, 120, .inl (fun _ => 0))), (q1, .inl (c1, 120, .inl (fun _ => 0))), (q2, .inl (c2, 120, .inl (fun _ => 0))), (q3, .inl (c3, 120, .inl (fun _ => 0))), (q4, .inl (c4, 120, .inl (fun _ => 0))), (q5, .inl (c5, 120, .inl (fun _ => 0)))] := hD
  refine lv_aload_n hx hb dc_X4_init_52 rfl (lv_at hl 0 rfl) ?_
  refine lv_bipush (v := (120)) hx hb dc_X4_init_53 (by decide) ?_
  refine va_newa (atype := .int) (ty := .int) (N' := 120) (a0 := (120, .inl (fun _ => 0))) hx hb (hts _ (om_tc_x (List.mem_of_getElem? (i := 29) rfl))) rfl hK hP hD hS hA (fun _ => rfl) (by decide) (by decide) (by decide) (Nat.le_of_ble_eq_true rfl) (Nat.le_of_ble_eq_true rfl) dc_X4_init_55 (fun q6 c6 H hK hP hD hS => ?_)
  have hP : va_P (dC, dI) vwCl [(h0, .inr (4, [.int 0, .ref q0, .ref q1, .ref q2, .ref q3, .ref q4, .int 0, .ref q5, .int 0, .null, .int 0])), (q0, .inl (c0, 120, .inl (fun _ => 0))), (q1, .inl (c1, 120, .inl (fun _ => 0))), (q2, .inl (c2, 120, .inl (fun _ => 0))), (q3, .inl (c3, 120, .inl (fun _ => 0))), (q4, .inl (c4, 120, .inl (fun _ => 0))), (q5, .inl (c5, 120, .inl (fun _ => 0))), (q6, .inl (c6, 120, .inl (fun _ => 0)))] H := hP
  have hD : va_D A [(h0, .inr (4, [.int 0, .ref q0, .ref q1, .ref q2, .ref q3, .ref q4, .int 0, .ref q5, .int 0, .null, .int 0])), (q0, .inl (c0, 120, .inl (fun _ => 0))), (q1, .inl (c1, 120, .inl (fun _ => 0))), (q2, .inl (c2, 120, .inl (fun _ => 0))), (q3, .inl (c3, 120, .inl (fun _ => 0))), (q4, .inl (c4, 120, .inl (fun _ => 0))), (q5, .inl (c5, 120, .inl (fun _ => 0))), (q6, .inl (c6, 120, .inl (fun _ => 0)))] := hD
  have hK : va_K (dC, dI) vwCl [(c0, .int), (c1, .int), (c2, .int), (c3, .int), (c4, .int), (c5, .int), (c6, .int)] s := hK
  refine W.widen (k := 7) (n := 840) (Nat.le_of_ble_eq_true rfl) (Nat.le_of_ble_eq_true rfl) ?_
  refine va_putF (D := (dC, dI)) (ci := 4) (v := .ref q6) (ty := .array .int) (C := RX4) (T := TX4) (N := 11) hx hb hts (fun w hw => om_tc_b (om_tb_cw ((om_cls 4 (by decide)).2.1 w hw))) tyX4 tyX4_ok nmX4 hown hK hP hD hS 0 rfl rfl 9 (by decide) (hts _ (om_tc_b (om_tb_fw (List.mem_of_getElem? (i := 42) rfl)))) (fun _ h9 => h9) rfl hin rfl (by decide +kernel) rfl rfl (Nat.le_of_ble_eq_true rfl) dc_X4_init_57 (fun H locs hP hD hS => ?_)
  have hP : va_P (dC, dI) vwCl [(h0, .inr (4, [.int 0, .ref q0, .ref q1, .ref q2, .ref q3, .ref q4, .int 0, .ref q5, .int 0, .ref q6, .int 0])), (q0, .inl (c0, 120, .inl (fun _ => 0))), (q1, .inl (c1, 120, .inl (fun _ => 0))), (q2, .inl (c2, 120, .inl (fun _ => 0))), (q3, .inl (c3, 120, .inl (fun _ => 0))), (q4, .inl (c4, 120, .inl (fun _ => 0))), (q5, .inl (c5, 120, .inl (fun _ => 0))), (q6, .inl (c6, 120, .inl (fun _ => 0)))] H := hP
  have hD : va_D A [(h0, .inr (4, [.int 0, .ref q0, .ref q1, .ref q2, .ref q3, .ref q4, .int 0, .ref q5, .int 0, .ref q6, .int 0])), (q0, .inl (c0, 120, .inl (fun _ => 0))), (q1, .inl (c1, 120, .inl (fun _ => 0))), (q2, .inl (c2, 120, .inl (fun _ => 0))), (q3, .inl (c3, 120, .inl (fun _ => 0))), (q4, .inl (c4, 120, .inl (fun _ => 0))), (q5, .inl (c5, 120, .inl (fun _ => 0))), (q6, .inl (c6, 120, .inl (fun _ => 0)))] := hD
  have hP9 := hP
  refine W.widen (k := 7) (n := 840) (Nat.le_refl _) (Nat.le_refl _) ?_
  exact W.vret hx hb hr (fun t ht hW => ⟨⟨(), rfl, trivial, q0, c0, q1, c1, q2, c2, q3, c3, q4, c4, q5, c5, q6, c6, by rw [ht]; exact hP, va_K.moved hW.alike hK, hD⟩, hS.F ht⟩) hS.2.2 dc_X4_init_60
theorem dc_X5_init_0 : decode cX5_init 0 = .ok (.aload_n 0, 1) := by decide +kernel
theorem dc_X5_init_1 : decode cX5_init 1 = .ok (.invokespecial 3, 3) := by decide +kernel
theorem dc_X5_init_4 : decode cX5_init 4 = .ok (.aload_n 0, 1) := by decide +kernel
theorem dc_X5_init_5 : decode cX5_init 5 = .ok (.bipush 120, 2) := by decide +kernel
theorem dc_X5_init_7 : decode cX5_init 7 = .ok (.newarray .int, 2) := by decide +kernel
theorem dc_X5_init_9 : decode cX5_init 9 = .ok (.putfield 9, 3) := by decide +kernel
theorem dc_X5_init_12 : decode cX5_init 12 = .ok (.return_, 1) := by decide +kernel
def om_pX5 (dC : Nat → ClassId) (dI : Nat → Nat → Nat) (A : Nat → Prop) (h0 : Nat) (t : State) : Prop := ∃ (q0 : Nat) (c0 : ClassId), va_P (dC, dI) vwCl [(h0, .inr (5, [.int 0, .ref q0, .int 0, .int 0, .int 0, .int 0, .int 0, .null])), (q0, .inl (c0, 120, .inl (fun _ => 0)))] t.heap ∧ va_K (dC, dI) vwCl [(c0, .int)] t ∧ va_D A [(h0, .inr (5, [.int 0, .ref q0, .int 0, .int 0, .int 0, .int 0, .int 0, .null])), (q0, .inl (c0, 120, .inl (fun _ => 0)))]
set_option maxHeartbeats 4000000 in
set_option maxRecDepth 100000 in
theorem om_kX5 (l : Launch) (dC : Nat → ClassId) (dI : Nat → Nat → Nat) (h0 : Nat) (sz : Nat) : Met l yX5_init (om_wc yX5_init cX5_init) ({ frames := 1, cells := 1, slots := 120, locals := 12 }) (va_Pc [.ref h0] (fun U => U.heap.size = sz ∧ va_P (dC, dI) vwCl [(h0, .inr (5, [.int 0, .null, .int 0, .int 0, .int 0, .int 0, .int 0, .null]))] U.heap ∧ va_K (dC, dI) vwCl [] U ∧ va_D (fun _ => True) [(h0, .inr (5, [.int 0, .null, .int 0, .int 0, .int 0, .int 0, .int 0, .null]))] ∧ om_KC U)) (va_Qv (fun _ : Unit => True) (fun _ t => om_pX5 dC dI (va_A [(h0, .inr (5, [.int 0, .null, .int 0, .int 0, .int 0, .int 0, .int 0, .null]))] sz) h0 t) (va_A [(h0, .inr (5, [.int 0, .null, .int 0, .int 0, .int 0, .int 0, .int 0, .null]))] sz)) 1 120 (va_A [(h0, .inr (5, [.int 0, .null, .int 0, .int 0, .int 0, .int 0, .int 0, .null]))] sz) := by
  refine Met.ofW (cc := cX5_init) (maxL := 1) (ret := none) (by decide) rfl ?_
  intro p e s m args below meth c s₁ B hml hv
  obtain ⟨rfl, hsz, hP, hK, hD0, hKC⟩ := hv
  have hx := B.exec
  have hb := B.bytes
  have hr := B.returns
  have hts : ∀ w ∈ om_tc, w.before #[Value.ref h0] s = true := fun w hw => atoms_spec (ws := om_wc yX5_init cX5_init) B.pre w (List.mem_cons_of_mem _ hw)
  have hown : s.vm.findClass RX5 = some m.cls := findClass_of_methodNamed B.named
  have hlocks := B.notSynchronized
  have hin : meth.name = "<init>" := (name_of_methodNamed B.named B.method).1
  subst hsz
  have hD := hD0.self (sz := s.heap.size)
  generalize hAe : va_A [(h0, .inr (5, [.int 0, .null, .int 0, .int 0, .int 0, .int 0, .int 0, .null]))] s.heap.size = A at hD ⊢
  have hA : ∀ q : Nat, s.heap.size ≤ q → A q := fun q h => by rw [← hAe]; exact Or.inr h
  have hS : va_S A s.heap s.heap [] := va_S.rf
  have hP : va_P (dC, dI) vwCl [(h0, .inr (5, [.int 0, .null, .int 0, .int 0, .int 0, .int 0, .int 0, .null]))] s.heap := hP
  have hl := lv_entry ([.ref h0]) (n := 1) (Nat.le_of_ble_eq_true rfl)
  rw [lg_entry_eq]
  generalize (lg_sl ([.ref h0]) ++ List.replicate (1 - (lg_sl ([.ref h0])).length) Slot.unset).toArray = ls at hl ⊢
  have hl : lv_has ls 1 [(0, .ref h0)] := hl
  skip
  refine lv_aload_n hx hb dc_X5_init_0 rfl (lv_at hl 0 rfl) ?_
  refine W.objInit hx hb hown (hts _ (om_tc_x (List.mem_of_getElem? (i := 50) rfl))) (hts _ (om_tc_x (List.mem_of_getElem? (i := 22) rfl))) (hts _ (om_tc_x (List.mem_of_getElem? (i := 23) rfl))) rfl (by rw [hml]; exact hl.1) rfl dc_X5_init_1 (Nat.le_of_ble_eq_true rfl) (Nat.le_of_ble_eq_true rfl) ?_
  refine W.eq (g2 := F0 m 4 ls []) rfl ?_
  refine lv_aload_n hx hb dc_X5_init_4 rfl (lv_at hl 0 rfl) ?_
  refine lv_bipush (v := (120)) hx hb dc_X5_init_5 (by decide) ?_
  refine va_newa (atype := .int) (ty := .int) (N' := 120) (a0 := (120, .inl (fun _ => 0))) hx hb (hts _ (om_tc_x (List.mem_of_getElem? (i := 29) rfl))) rfl hK hP hD hS hA (fun _ => rfl) (by decide) (by decide) (by decide) (Nat.le_of_ble_eq_true rfl) (Nat.le_of_ble_eq_true rfl) dc_X5_init_7 (fun q0 c0 H hK hP hD hS => ?_)
  have hP : va_P (dC, dI) vwCl [(h0, .inr (5, [.int 0, .null, .int 0, .int 0, .int 0, .int 0, .int 0, .null])), (q0, .inl (c0, 120, .inl (fun _ => 0)))] H := hP
  have hD : va_D A [(h0, .inr (5, [.int 0, .null, .int 0, .int 0, .int 0, .int 0, .int 0, .null])), (q0, .inl (c0, 120, .inl (fun _ => 0)))] := hD
  have hK : va_K (dC, dI) vwCl [(c0, .int)] s := hK
  refine W.widen (k := 1) (n := 120) (Nat.le_of_ble_eq_true rfl) (Nat.le_of_ble_eq_true rfl) ?_
  refine va_putF (D := (dC, dI)) (ci := 5) (v := .ref q0) (ty := .array .int) (C := RX5) (T := TX5) (N := 8) hx hb hts (fun w hw => om_tc_b (om_tb_cw ((om_cls 5 (by decide)).2.1 w hw))) tyX5 tyX5_ok nmX5 hown hK hP hD hS 0 rfl rfl 1 (by decide) (hts _ (om_tc_b (om_tb_fw (List.mem_of_getElem? (i := 26) rfl)))) (fun _ h9 => h9) rfl hin rfl (by decide +kernel) rfl rfl (Nat.le_of_ble_eq_true rfl) dc_X5_init_9 (fun H locs hP hD hS => ?_)
  have hP : va_P (dC, dI) vwCl [(h0, .inr (5, [.int 0, .ref q0, .int 0, .int 0, .int 0, .int 0, .int 0, .null])), (q0, .inl (c0, 120, .inl (fun _ => 0)))] H := hP
  have hD : va_D A [(h0, .inr (5, [.int 0, .ref q0, .int 0, .int 0, .int 0, .int 0, .int 0, .null])), (q0, .inl (c0, 120, .inl (fun _ => 0)))] := hD
  have hP9 := hP
  refine W.widen (k := 1) (n := 120) (Nat.le_refl _) (Nat.le_refl _) ?_
  exact W.vret hx hb hr (fun t ht hW => ⟨⟨(), rfl, trivial, q0, c0, by rw [ht]; exact hP, va_K.moved hW.alike hK, hD⟩, hS.F ht⟩) hS.2.2 dc_X5_init_12
