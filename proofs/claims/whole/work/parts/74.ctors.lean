def nestW (U : State) : Prop := va_Nw (Jvm.Cond.methodLinkNest "SchemaDesk$Verdicts" (11 : Nat) ({ cls := "SchemaDesk$Marks", name := "<init>", desc := "()V" } : Jvm.MethodName) "SchemaDesk") U ∧ va_Nw (Jvm.Cond.methodLinkNest "SchemaDesk$Report" (17 : Nat) ({ cls := "SchemaDesk$Marks", name := "<init>", desc := "()V" } : Jvm.MethodName) "SchemaDesk") U ∧ va_Nw (Jvm.Cond.methodLinkNest "SchemaDesk$Proposals" (24 : Nat) ({ cls := "SchemaDesk$Marks", name := "<init>", desc := "()V" } : Jvm.MethodName) "SchemaDesk") U
theorem nestW.moved {u U : State} (hW : u.WarmedH U.vm) (h : nestW u) : nestW U := ⟨va_Nw.warmM hW h.1, va_Nw.warmM hW h.2.1, va_Nw.warmM hW h.2.2⟩
theorem kb_blind {D : va_G} {cl : List vw_C} {ws : va_W} {tys : List (ClassId × FieldType)} {sz : Nat} {vs : List Value} : FrameBlind (va_Pc vs (fun U => U.heap.size = sz ∧ va_P D cl ws U.heap ∧ va_K D cl tys U ∧ va_D (fun _ => True) ws ∧ nestW U)) := by
  intro a U f mk q
  obtain ⟨q0, q1, qP, qK, qD, qN⟩ := q
  exact ⟨q0, q1, qP, va_K.moved (u := U) (U := U.calling f mk a) (Vm.Alike.refl U.vm) qK, qD, nestW.moved (U := U.calling f mk a) (State.WarmedH.refl U) qN⟩
theorem gd_i {n : Nat} {y : MethodName} {b : ByteArray} {ret : Option FieldType} (h5 : Cond.code y b n ret ∈ GW) : GoodIn GW (Cond.code y b n ret :: GW) := by
  intro w hw
  have hm : w ∈ GW := by
    rcases List.mem_cons.mp hw with rfl | h
    · exact h5
    · exact h
  exact ⟨hm, GW_good w hm⟩
def wlets : List Nat := [116, 121, 112, 101, 32, 99, 111, 110, 115, 116, 32, 101, 110, 117, 109, 32, 109, 105, 110, 32, 109, 97, 120, 32, 109, 117, 108, 116, 105, 112, 108, 101, 32, 109, 105, 110, 108, 101, 110, 103, 116, 104, 32, 109, 97, 120, 108, 101, 110, 103, 116, 104, 32, 109, 105, 110, 105, 116, 101, 109, 115, 32, 109, 97, 120, 105, 116, 101, 109, 115, 32, 114, 101, 113, 117, 105, 114, 101, 100, 32, 112, 114, 111, 112, 101, 114, 116, 105, 101, 115, 32, 97, 100, 100, 105, 116, 105, 111, 110, 97, 108, 32, 105, 116, 101, 109, 115, 32, 97, 108, 108, 111, 102, 32, 97, 110, 121, 111, 102, 32, 111, 110, 101, 111, 102, 32, 110, 111, 116, 32, 114, 101, 102, 32, 117, 110, 101, 118, 97, 108, 117, 97, 116, 101, 100, 32, 100, 101, 102, 115, 32, 110, 117, 108, 108, 32, 98, 111, 111, 108, 101, 97, 110, 32, 110, 117, 109, 98, 101, 114, 32, 115, 116, 114, 105, 110, 103, 32, 97, 114, 114, 97, 121, 32, 111, 98, 106, 101, 99, 116, 32, 102, 97, 108, 115, 101, 32, 116, 114, 117, 101, 32]
def wlet (j : Nat) : Int32 := nI (wlets.getD j 0)
def wstas : List Nat := [0, 0, 5, 11, 16, 20, 24, 33, 43, 53, 62, 71, 80, 91, 102, 108, 114, 120, 126, 130, 134, 146, 151, 156, 164, 171, 178, 184, 191, 197, 202]
def wsta (j : Nat) : Int32 := nI (wstas.getD j 0)
abbrev k_Mk_init : ByteArray := prog_2_method_1_code
abbrev y_Mk_init : MethodName := ⟨"SchemaDesk$Marks", "<init>", "()V"⟩
theorem d_Mk_init_0 : decode k_Mk_init 0 = .ok (.aload_n 0, 1) := by decide +kernel
theorem d_Mk_init_1 : decode k_Mk_init 1 = .ok (.invokespecial 3, 3) := by decide +kernel
theorem d_Mk_init_4 : decode k_Mk_init 4 = .ok (.aload_n 0, 1) := by decide +kernel
theorem d_Mk_init_5 : decode k_Mk_init 5 = .ok (.sipush 320, 3) := by decide +kernel
theorem d_Mk_init_8 : decode k_Mk_init 8 = .ok (.newarray .long, 2) := by decide +kernel
theorem d_Mk_init_10 : decode k_Mk_init 10 = .ok (.putfield 9, 3) := by decide +kernel
theorem d_Mk_init_13 : decode k_Mk_init 13 = .ok (.return_, 1) := by decide +kernel
theorem gw293 : (Jvm.Cond.methodLink "SchemaDesk$Marks" (3 : Nat) ({ cls := "java/lang/Object", name := "<init>", desc := "()V" } : Jvm.MethodName)) ∈ GW := gw_t2 (List.mem_of_getElem? (i := 53) rfl) rfl
theorem gw298 : (Jvm.Cond.arrayClass Jvm.ClassFile.FieldType.long) ∈ GW := gw_t2 (List.mem_of_getElem? (i := 58) rfl) rfl
set_option maxRecDepth 100000 in
set_option maxHeartbeats 4000000 in
theorem c_Mk_init (l : Launch) {D : va_G} {g : Gm} (h0 sz : Nat) : Met l y_Mk_init (.code y_Mk_init k_Mk_init 1 none :: GW) { frames := 1, cells := 1, slots := 320, locals := 12 } (va_Pc [.ref h0] (fun U => U.heap.size = sz ∧ va_P D vwCl [(h0, .inr (3, [.null]))] U.heap ∧ va_K D vwCl (TYS g) U ∧ va_D (fun _ => True) [(h0, .inr (3, [.null]))] ∧ nestW U)) (va_Qv (S := Nat → Nat) (fun _ => True) (fun u t => va_P D vwCl [(h0, .inr (3, [.ref (u 0)])), ((u 0), .inl (g.2 3, 320, .inr (.inl (fun _ => 0))))] t.heap ∧ va_D (va_A [(h0, .inr (3, [.null]))] sz) [(h0, .inr (3, [.ref (u 0)])), ((u 0), .inl (g.2 3, 320, .inr (.inl (fun _ => 0))))]) (va_A [(h0, .inr (3, [.null]))] sz)) 1 320 (va_A [(h0, .inr (3, [.null]))] sz) := by
  refine Met.ofW (cc := k_Mk_init) (maxL := 1) (ret := none) (by decide) rfl ?_
  intro p e s m args below meth c s₁ B hml hv
  obtain ⟨rfl, hsz, hP, hK, hD0, hNw⟩ := hv
  have hx := B.exec
  have hb := B.bytes
  have hr := B.returns
  have hts0 := atoms_spec (ws := .code y_Mk_init k_Mk_init 1 none :: GW) B.pre
  have hts : ∀ w ∈ GW, w.before _ s = true := fun w h => hts0 w (List.mem_cons_of_mem _ h)
  have hown : s.vm.findClass R_Mk = some m.cls := findClass_of_methodNamed B.named
  have hlocks := B.notSynchronized
  have hin : meth.name = "<init>" := (name_of_methodNamed B.named B.method).1
  subst hsz
  have hD := hD0.self (sz := s.heap.size)
  generalize hAe : va_A [(h0, .inr (3, [.null]))] s.heap.size = A at hD ⊢
  have hA : ∀ q : Nat, s.heap.size ≤ q → A q := fun q h => by rw [← hAe]; exact Or.inr h
  have hS : va_S A s.heap s.heap [] := va_S.rf
  have hP : va_P D vwCl [(h0, .inr (3, [.null]))] s.heap := hP
  have hl := lv_entry ([.ref h0]) (n := 1) (Nat.le_of_ble_eq_true rfl)
  rw [lg_entry_eq]
  generalize (lg_sl ([.ref h0]) ++ List.replicate (1 - (lg_sl ([.ref h0])).length) Slot.unset).toArray = ls at hl ⊢
  have hl : lv_has ls 1 [(0, .ref h0)] := hl
  refine lv_aload_n hx hb d_Mk_init_0 rfl (lv_at hl 0 rfl) ?_
  refine W.objInit hx hb hown (hts _ gw293) (hts _ gw33) (hts _ gw34) rfl (by rw [hml]; exact hl.1) rfl d_Mk_init_1 (Nat.le_of_ble_eq_true rfl) (Nat.le_of_ble_eq_true rfl) ?_
  refine W.eq (g2 := F0 m 4 ls []) rfl ?_
  refine lv_aload_n hx hb d_Mk_init_4 rfl (lv_at hl 0 rfl) ?_
  refine lv_sipush (v := (320 : Int32)) hx hb d_Mk_init_5 (by decide) ?_
  refine va_newa (atype := .long) (a0 := (320, .inr (.inl (fun _ => 0)))) hx hb (hts _ gw298) rfl hK hP hD hS hA (fun _ => rfl) (by decide) (by decide) (by decide) (Nat.le_of_ble_eq_true rfl) (Nat.le_of_ble_eq_true rfl) d_Mk_init_8 (fun q8 cA H hK2 hP hD hS => ?_)
  have hcA : cA = g.2 3 := Option.some.inj ((hK2.2 4 (cA, .long) rfl).2.symm.trans (hK2.2 3 (g.2 3, .long) rfl).2)
  subst hcA
  clear hK2
  have hP : va_P D vwCl [(h0, .inr (3, [.null])), (q8, .inl (g.2 3, 320, .inr (.inl (fun _ => 0))))] H := hP
  have hD : va_D A [(h0, .inr (3, [.null])), (q8, .inl (g.2 3, 320, .inr (.inl (fun _ => 0))))] := hD
  refine va_putF (D := D) (ci := 3) (v := .ref q8) (ty := .array .long) (C := R_Mk) (T := T_Mk) (N := 1) hx hb hts in_Mk ty_Mk ty_Mk_ok nm_Mk hown hK hP hD hS 0 rfl rfl 0 (by decide) (hts _ gw294) (fun _ h9 => h9) rfl hin rfl (by decide +kernel) rfl rfl (Nat.le_of_ble_eq_true rfl) d_Mk_init_10 (fun H locs hP hD hS => ?_)
  have hP : va_P D vwCl [(h0, .inr (3, [.ref q8])), (q8, .inl (g.2 3, 320, .inr (.inl (fun _ => 0))))] H := hP
  have hD : va_D A [(h0, .inr (3, [.ref q8])), (q8, .inl (g.2 3, 320, .inr (.inl (fun _ => 0))))] := hD
  have hP9 := hP.sub (ws' := [(h0, .inr (3, [.ref q8])), (q8, .inl (g.2 3, 320, .inr (.inl (fun _ => 0))))]) [0, 1] rfl
  have hD9 := hD.sub (ws' := [(h0, .inr (3, [.ref q8])), (q8, .inl (g.2 3, 320, .inr (.inl (fun _ => 0))))]) [0, 1] (by decide) rfl
  refine W.widen (k := 1) (n := 320) (Nat.le_of_ble_eq_true rfl) (Nat.le_of_ble_eq_true rfl) ?_
  exact W.vret hx hb hr (fun t ht _ => ⟨⟨(fun k => match k with | 0 => q8 | _ => 0), rfl, trivial, by rw [ht]; exact hP9, hD9⟩, hS.F ht⟩) hS.2.2 d_Mk_init_13 hlocks
abbrev k_Tx_init : ByteArray := prog_7_method_1_code
abbrev y_Tx_init : MethodName := ⟨"SchemaDesk$Text", "<init>", "(I)V"⟩
theorem d_Tx_init_0 : decode k_Tx_init 0 = .ok (.aload_n 0, 1) := by decide +kernel
theorem d_Tx_init_1 : decode k_Tx_init 1 = .ok (.invokespecial 3, 3) := by decide +kernel
theorem d_Tx_init_4 : decode k_Tx_init 4 = .ok (.aload_n 0, 1) := by decide +kernel
theorem d_Tx_init_5 : decode k_Tx_init 5 = .ok (.iload_n 1, 1) := by decide +kernel
theorem d_Tx_init_6 : decode k_Tx_init 6 = .ok (.newarray .char, 2) := by decide +kernel
theorem d_Tx_init_8 : decode k_Tx_init 8 = .ok (.putfield 9, 3) := by decide +kernel
theorem d_Tx_init_11 : decode k_Tx_init 11 = .ok (.return_, 1) := by decide +kernel
theorem gw104 : (Jvm.Cond.methodLink "SchemaDesk$Text" (3 : Nat) ({ cls := "java/lang/Object", name := "<init>", desc := "()V" } : Jvm.MethodName)) ∈ GW := gw_t1 (List.mem_of_getElem? (i := 104) rfl) rfl
theorem gw95 : (Jvm.Cond.arrayClass Jvm.ClassFile.FieldType.char) ∈ GW := gw_t1 (List.mem_of_getElem? (i := 95) rfl) rfl
set_option maxRecDepth 100000 in
set_option maxHeartbeats 4000000 in
theorem c_Tx_init_160 (l : Launch) {D : va_G} {g : Gm} (h0 sz : Nat) : Met l y_Tx_init (.code y_Tx_init k_Tx_init 2 none :: GW) { frames := 1, cells := 1, slots := 160, locals := 12 } (va_Pc [.ref h0, .int (160 : Int32)] (fun U => U.heap.size = sz ∧ va_P D vwCl [(h0, .inr (1, [.null, .int 0]))] U.heap ∧ va_K D vwCl (TYS g) U ∧ va_D (fun _ => True) [(h0, .inr (1, [.null, .int 0]))] ∧ nestW U)) (va_Qv (S := Nat → Nat) (fun _ => True) (fun u t => va_P D vwCl [(h0, .inr (1, [.ref (u 0), .int 0])), ((u 0), .inl (g.2 1, 160, .inl (fun _ => 0)))] t.heap ∧ va_D (va_A [(h0, .inr (1, [.null, .int 0]))] sz) [(h0, .inr (1, [.ref (u 0), .int 0])), ((u 0), .inl (g.2 1, 160, .inl (fun _ => 0)))]) (va_A [(h0, .inr (1, [.null, .int 0]))] sz)) 1 160 (va_A [(h0, .inr (1, [.null, .int 0]))] sz) := by
  refine Met.ofW (cc := k_Tx_init) (maxL := 2) (ret := none) (by decide) rfl ?_
  intro p e s m args below meth c s₁ B hml hv
  obtain ⟨rfl, hsz, hP, hK, hD0, hNw⟩ := hv
  have hx := B.exec
  have hb := B.bytes
  have hr := B.returns
  have hts0 := atoms_spec (ws := .code y_Tx_init k_Tx_init 2 none :: GW) B.pre
  have hts : ∀ w ∈ GW, w.before _ s = true := fun w h => hts0 w (List.mem_cons_of_mem _ h)
  have hown : s.vm.findClass R_Tx = some m.cls := findClass_of_methodNamed B.named
  have hlocks := B.notSynchronized
  have hin : meth.name = "<init>" := (name_of_methodNamed B.named B.method).1
  subst hsz
  have hD := hD0.self (sz := s.heap.size)
  generalize hAe : va_A [(h0, .inr (1, [.null, .int 0]))] s.heap.size = A at hD ⊢
  have hA : ∀ q : Nat, s.heap.size ≤ q → A q := fun q h => by rw [← hAe]; exact Or.inr h
  have hS : va_S A s.heap s.heap [] := va_S.rf
  have hP : va_P D vwCl [(h0, .inr (1, [.null, .int 0]))] s.heap := hP
  have hl := lv_entry ([.ref h0, .int (160 : Int32)]) (n := 2) (Nat.le_of_ble_eq_true rfl)
  rw [lg_entry_eq]
  generalize (lg_sl ([.ref h0, .int (160 : Int32)]) ++ List.replicate (2 - (lg_sl ([.ref h0, .int (160 : Int32)])).length) Slot.unset).toArray = ls at hl ⊢
  have hl : lv_has ls 2 [(0, .ref h0), (1, .int (160 : Int32))] := hl
  refine lv_aload_n hx hb d_Tx_init_0 rfl (lv_at hl 0 rfl) ?_
  refine W.objInit hx hb hown (hts _ gw104) (hts _ gw33) (hts _ gw34) rfl (by rw [hml]; exact hl.1) rfl d_Tx_init_1 (Nat.le_of_ble_eq_true rfl) (Nat.le_of_ble_eq_true rfl) ?_
  refine W.eq (g2 := F0 m 4 ls []) rfl ?_
  refine lv_aload_n hx hb d_Tx_init_4 rfl (lv_at hl 0 rfl) ?_
  refine lv_iload_n hx hb d_Tx_init_5 rfl (lv_at hl 1 rfl) ?_
  refine va_newa (atype := .char) (a0 := (160, .inl (fun _ => 0))) hx hb (hts _ gw95) rfl hK hP hD hS hA (fun _ => rfl) (by decide) (by decide) (by decide) (Nat.le_of_ble_eq_true rfl) (Nat.le_of_ble_eq_true rfl) d_Tx_init_6 (fun q6 cA H hK2 hP hD hS => ?_)
  have hcA : cA = g.2 1 := Option.some.inj ((hK2.2 4 (cA, .char) rfl).2.symm.trans (hK2.2 1 (g.2 1, .char) rfl).2)
  subst hcA
  clear hK2
  have hP : va_P D vwCl [(h0, .inr (1, [.null, .int 0])), (q6, .inl (g.2 1, 160, .inl (fun _ => 0)))] H := hP
  have hD : va_D A [(h0, .inr (1, [.null, .int 0])), (q6, .inl (g.2 1, 160, .inl (fun _ => 0)))] := hD
  refine va_putF (D := D) (ci := 1) (v := .ref q6) (ty := .array .char) (C := R_Tx) (T := T_Tx) (N := 2) hx hb hts in_Tx ty_Tx ty_Tx_ok nm_Tx hown hK hP hD hS 0 rfl rfl 0 (by decide) (hts _ gw106) (fun _ h9 => h9) rfl hin rfl (by decide +kernel) rfl rfl (Nat.le_of_ble_eq_true rfl) d_Tx_init_8 (fun H locs hP hD hS => ?_)
  have hP : va_P D vwCl [(h0, .inr (1, [.ref q6, .int 0])), (q6, .inl (g.2 1, 160, .inl (fun _ => 0)))] H := hP
  have hD : va_D A [(h0, .inr (1, [.ref q6, .int 0])), (q6, .inl (g.2 1, 160, .inl (fun _ => 0)))] := hD
  have hP9 := hP.sub (ws' := [(h0, .inr (1, [.ref q6, .int 0])), (q6, .inl (g.2 1, 160, .inl (fun _ => 0)))]) [0, 1] rfl
  have hD9 := hD.sub (ws' := [(h0, .inr (1, [.ref q6, .int 0])), (q6, .inl (g.2 1, 160, .inl (fun _ => 0)))]) [0, 1] (by decide) rfl
  refine W.widen (k := 1) (n := 160) (Nat.le_of_ble_eq_true rfl) (Nat.le_of_ble_eq_true rfl) ?_
  exact W.vret hx hb hr (fun t ht _ => ⟨⟨(fun k => match k with | 0 => q6 | _ => 0), rfl, trivial, by rw [ht]; exact hP9, hD9⟩, hS.F ht⟩) hS.2.2 d_Tx_init_11 hlocks
set_option maxRecDepth 100000 in
set_option maxHeartbeats 4000000 in
theorem c_Tx_init_80 (l : Launch) {D : va_G} {g : Gm} (h0 sz : Nat) : Met l y_Tx_init (.code y_Tx_init k_Tx_init 2 none :: GW) { frames := 1, cells := 1, slots := 80, locals := 12 } (va_Pc [.ref h0, .int (80 : Int32)] (fun U => U.heap.size = sz ∧ va_P D vwCl [(h0, .inr (1, [.null, .int 0]))] U.heap ∧ va_K D vwCl (TYS g) U ∧ va_D (fun _ => True) [(h0, .inr (1, [.null, .int 0]))] ∧ nestW U)) (va_Qv (S := Nat → Nat) (fun _ => True) (fun u t => va_P D vwCl [(h0, .inr (1, [.ref (u 0), .int 0])), ((u 0), .inl (g.2 1, 80, .inl (fun _ => 0)))] t.heap ∧ va_D (va_A [(h0, .inr (1, [.null, .int 0]))] sz) [(h0, .inr (1, [.ref (u 0), .int 0])), ((u 0), .inl (g.2 1, 80, .inl (fun _ => 0)))]) (va_A [(h0, .inr (1, [.null, .int 0]))] sz)) 1 80 (va_A [(h0, .inr (1, [.null, .int 0]))] sz) := by
  refine Met.ofW (cc := k_Tx_init) (maxL := 2) (ret := none) (by decide) rfl ?_
  intro p e s m args below meth c s₁ B hml hv
  obtain ⟨rfl, hsz, hP, hK, hD0, hNw⟩ := hv
  have hx := B.exec
  have hb := B.bytes
  have hr := B.returns
  have hts0 := atoms_spec (ws := .code y_Tx_init k_Tx_init 2 none :: GW) B.pre
  have hts : ∀ w ∈ GW, w.before _ s = true := fun w h => hts0 w (List.mem_cons_of_mem _ h)
  have hown : s.vm.findClass R_Tx = some m.cls := findClass_of_methodNamed B.named
  have hlocks := B.notSynchronized
  have hin : meth.name = "<init>" := (name_of_methodNamed B.named B.method).1
  subst hsz
  have hD := hD0.self (sz := s.heap.size)
  generalize hAe : va_A [(h0, .inr (1, [.null, .int 0]))] s.heap.size = A at hD ⊢
  have hA : ∀ q : Nat, s.heap.size ≤ q → A q := fun q h => by rw [← hAe]; exact Or.inr h
  have hS : va_S A s.heap s.heap [] := va_S.rf
  have hP : va_P D vwCl [(h0, .inr (1, [.null, .int 0]))] s.heap := hP
  have hl := lv_entry ([.ref h0, .int (80 : Int32)]) (n := 2) (Nat.le_of_ble_eq_true rfl)
  rw [lg_entry_eq]
  generalize (lg_sl ([.ref h0, .int (80 : Int32)]) ++ List.replicate (2 - (lg_sl ([.ref h0, .int (80 : Int32)])).length) Slot.unset).toArray = ls at hl ⊢
  have hl : lv_has ls 2 [(0, .ref h0), (1, .int (80 : Int32))] := hl
  refine lv_aload_n hx hb d_Tx_init_0 rfl (lv_at hl 0 rfl) ?_
  refine W.objInit hx hb hown (hts _ gw104) (hts _ gw33) (hts _ gw34) rfl (by rw [hml]; exact hl.1) rfl d_Tx_init_1 (Nat.le_of_ble_eq_true rfl) (Nat.le_of_ble_eq_true rfl) ?_
  refine W.eq (g2 := F0 m 4 ls []) rfl ?_
  refine lv_aload_n hx hb d_Tx_init_4 rfl (lv_at hl 0 rfl) ?_
  refine lv_iload_n hx hb d_Tx_init_5 rfl (lv_at hl 1 rfl) ?_
  refine va_newa (atype := .char) (a0 := (80, .inl (fun _ => 0))) hx hb (hts _ gw95) rfl hK hP hD hS hA (fun _ => rfl) (by decide) (by decide) (by decide) (Nat.le_of_ble_eq_true rfl) (Nat.le_of_ble_eq_true rfl) d_Tx_init_6 (fun q6 cA H hK2 hP hD hS => ?_)
  have hcA : cA = g.2 1 := Option.some.inj ((hK2.2 4 (cA, .char) rfl).2.symm.trans (hK2.2 1 (g.2 1, .char) rfl).2)
  subst hcA
  clear hK2
  have hP : va_P D vwCl [(h0, .inr (1, [.null, .int 0])), (q6, .inl (g.2 1, 80, .inl (fun _ => 0)))] H := hP
  have hD : va_D A [(h0, .inr (1, [.null, .int 0])), (q6, .inl (g.2 1, 80, .inl (fun _ => 0)))] := hD
  refine va_putF (D := D) (ci := 1) (v := .ref q6) (ty := .array .char) (C := R_Tx) (T := T_Tx) (N := 2) hx hb hts in_Tx ty_Tx ty_Tx_ok nm_Tx hown hK hP hD hS 0 rfl rfl 0 (by decide) (hts _ gw106) (fun _ h9 => h9) rfl hin rfl (by decide +kernel) rfl rfl (Nat.le_of_ble_eq_true rfl) d_Tx_init_8 (fun H locs hP hD hS => ?_)
  have hP : va_P D vwCl [(h0, .inr (1, [.ref q6, .int 0])), (q6, .inl (g.2 1, 80, .inl (fun _ => 0)))] H := hP
  have hD : va_D A [(h0, .inr (1, [.ref q6, .int 0])), (q6, .inl (g.2 1, 80, .inl (fun _ => 0)))] := hD
  have hP9 := hP.sub (ws' := [(h0, .inr (1, [.ref q6, .int 0])), (q6, .inl (g.2 1, 80, .inl (fun _ => 0)))]) [0, 1] rfl
  have hD9 := hD.sub (ws' := [(h0, .inr (1, [.ref q6, .int 0])), (q6, .inl (g.2 1, 80, .inl (fun _ => 0)))]) [0, 1] (by decide) rfl
  refine W.widen (k := 1) (n := 80) (Nat.le_of_ble_eq_true rfl) (Nat.le_of_ble_eq_true rfl) ?_
  exact W.vret hx hb hr (fun t ht _ => ⟨⟨(fun k => match k with | 0 => q6 | _ => 0), rfl, trivial, by rw [ht]; exact hP9, hD9⟩, hS.F ht⟩) hS.2.2 d_Tx_init_11 hlocks
abbrev k_Tr_init : ByteArray := prog_8_method_1_code
abbrev y_Tr_init : MethodName := ⟨"SchemaDesk$Tree", "<init>", "(LSchemaDesk$Text;)V"⟩
theorem d_Tr_init_0 : decode k_Tr_init 0 = .ok (.aload_n 0, 1) := by decide +kernel
theorem d_Tr_init_1 : decode k_Tr_init 1 = .ok (.invokespecial 3, 3) := by decide +kernel
theorem d_Tr_init_4 : decode k_Tr_init 4 = .ok (.aload_n 1, 1) := by decide +kernel
theorem d_Tr_init_5 : decode k_Tr_init 5 = .ok (.getfield 9, 3) := by decide +kernel
theorem d_Tr_init_8 : decode k_Tr_init 8 = .ok (.arraylength, 1) := by decide +kernel
theorem d_Tr_init_9 : decode k_Tr_init 9 = .ok (.istore_n 2, 1) := by decide +kernel
theorem d_Tr_init_10 : decode k_Tr_init 10 = .ok (.aload_n 0, 1) := by decide +kernel
theorem d_Tr_init_11 : decode k_Tr_init 11 = .ok (.aload_n 1, 1) := by decide +kernel
theorem d_Tr_init_12 : decode k_Tr_init 12 = .ok (.putfield 15, 3) := by decide +kernel
theorem d_Tr_init_15 : decode k_Tr_init 15 = .ok (.aload_n 0, 1) := by decide +kernel
theorem d_Tr_init_16 : decode k_Tr_init 16 = .ok (.iload_n 2, 1) := by decide +kernel
theorem d_Tr_init_17 : decode k_Tr_init 17 = .ok (.newarray .int, 2) := by decide +kernel
theorem d_Tr_init_19 : decode k_Tr_init 19 = .ok (.putfield 21, 3) := by decide +kernel
theorem d_Tr_init_22 : decode k_Tr_init 22 = .ok (.aload_n 0, 1) := by decide +kernel
theorem d_Tr_init_23 : decode k_Tr_init 23 = .ok (.iload_n 2, 1) := by decide +kernel
theorem d_Tr_init_24 : decode k_Tr_init 24 = .ok (.newarray .int, 2) := by decide +kernel
theorem d_Tr_init_26 : decode k_Tr_init 26 = .ok (.putfield 25, 3) := by decide +kernel
theorem d_Tr_init_29 : decode k_Tr_init 29 = .ok (.aload_n 0, 1) := by decide +kernel
theorem d_Tr_init_30 : decode k_Tr_init 30 = .ok (.iload_n 2, 1) := by decide +kernel
theorem d_Tr_init_31 : decode k_Tr_init 31 = .ok (.newarray .int, 2) := by decide +kernel
theorem d_Tr_init_33 : decode k_Tr_init 33 = .ok (.putfield 28, 3) := by decide +kernel
theorem d_Tr_init_36 : decode k_Tr_init 36 = .ok (.aload_n 0, 1) := by decide +kernel
theorem d_Tr_init_37 : decode k_Tr_init 37 = .ok (.iload_n 2, 1) := by decide +kernel
theorem d_Tr_init_38 : decode k_Tr_init 38 = .ok (.newarray .int, 2) := by decide +kernel
theorem d_Tr_init_40 : decode k_Tr_init 40 = .ok (.putfield 31, 3) := by decide +kernel
theorem d_Tr_init_43 : decode k_Tr_init 43 = .ok (.aload_n 0, 1) := by decide +kernel
theorem d_Tr_init_44 : decode k_Tr_init 44 = .ok (.iload_n 2, 1) := by decide +kernel
theorem d_Tr_init_45 : decode k_Tr_init 45 = .ok (.newarray .int, 2) := by decide +kernel
theorem d_Tr_init_47 : decode k_Tr_init 47 = .ok (.putfield 34, 3) := by decide +kernel
theorem d_Tr_init_50 : decode k_Tr_init 50 = .ok (.aload_n 0, 1) := by decide +kernel
theorem d_Tr_init_51 : decode k_Tr_init 51 = .ok (.iload_n 2, 1) := by decide +kernel
theorem d_Tr_init_52 : decode k_Tr_init 52 = .ok (.newarray .int, 2) := by decide +kernel
theorem d_Tr_init_54 : decode k_Tr_init 54 = .ok (.putfield 37, 3) := by decide +kernel
theorem d_Tr_init_57 : decode k_Tr_init 57 = .ok (.aload_n 0, 1) := by decide +kernel
theorem d_Tr_init_58 : decode k_Tr_init 58 = .ok (.iload_n 2, 1) := by decide +kernel
theorem d_Tr_init_59 : decode k_Tr_init 59 = .ok (.newarray .int, 2) := by decide +kernel
theorem d_Tr_init_61 : decode k_Tr_init 61 = .ok (.putfield 40, 3) := by decide +kernel
theorem d_Tr_init_64 : decode k_Tr_init 64 = .ok (.aload_n 0, 1) := by decide +kernel
theorem d_Tr_init_65 : decode k_Tr_init 65 = .ok (.iload_n 2, 1) := by decide +kernel
theorem d_Tr_init_66 : decode k_Tr_init 66 = .ok (.newarray .int, 2) := by decide +kernel
theorem d_Tr_init_68 : decode k_Tr_init 68 = .ok (.putfield 43, 3) := by decide +kernel
theorem d_Tr_init_71 : decode k_Tr_init 71 = .ok (.aload_n 0, 1) := by decide +kernel
theorem d_Tr_init_72 : decode k_Tr_init 72 = .ok (.iconst 3, 1) := by decide +kernel
theorem d_Tr_init_73 : decode k_Tr_init 73 = .ok (.iload_n 2, 1) := by decide +kernel
theorem d_Tr_init_74 : decode k_Tr_init 74 = .ok (.imul, 1) := by decide +kernel
theorem d_Tr_init_75 : decode k_Tr_init 75 = .ok (.newarray .int, 2) := by decide +kernel
theorem d_Tr_init_77 : decode k_Tr_init 77 = .ok (.putfield 46, 3) := by decide +kernel
theorem d_Tr_init_80 : decode k_Tr_init 80 = .ok (.return_, 1) := by decide +kernel
theorem gw124 : (Jvm.Cond.methodLink "SchemaDesk$Tree" (3 : Nat) ({ cls := "java/lang/Object", name := "<init>", desc := "()V" } : Jvm.MethodName)) ∈ GW := gw_t1 (List.mem_of_getElem? (i := 124) rfl) rfl
theorem gw105 : (Jvm.Cond.fieldLink "SchemaDesk$Tree" (9 : Nat) "SchemaDesk$Text" "letters" "[C") ∈ GW := gw_t1 (List.mem_of_getElem? (i := 105) rfl) rfl
set_option maxRecDepth 100000 in
set_option maxHeartbeats 4000000 in
theorem c_Tr_init_160 (l : Launch) {D : va_G} {g : Gm} (h0 a1 a2 sz : Nat) : Met l y_Tr_init (.code y_Tr_init k_Tr_init 3 none :: GW) { frames := 1, cells := 9, slots := 1760, locals := 12 } (va_Pc [.ref h0, .ref a1] (fun U => U.heap.size = sz ∧ va_P D vwCl [(h0, .inr (0, [.null, .null, .null, .null, .null, .null, .null, .null, .null, .int 0, .null, .int 0])), (a1, .inr (1, [.ref a2, .int 0])), (a2, .inl (g.2 1, 160, .inl (fun _ => 0)))] U.heap ∧ va_K D vwCl (TYS g) U ∧ va_D (fun _ => True) [(h0, .inr (0, [.null, .null, .null, .null, .null, .null, .null, .null, .null, .int 0, .null, .int 0])), (a1, .inr (1, [.ref a2, .int 0])), (a2, .inl (g.2 1, 160, .inl (fun _ => 0)))] ∧ nestW U)) (va_Qv (S := Nat → Nat) (fun _ => True) (fun u t => va_P D vwCl [(h0, .inr (0, [.ref a1, .ref (u 0), .ref (u 1), .ref (u 2), .ref (u 3), .ref (u 4), .ref (u 5), .ref (u 6), .ref (u 7), .int 0, .ref (u 8), .int 0])), (a1, .inr (1, [.ref a2, .int 0])), (a2, .inl (g.2 1, 160, .inl (fun _ => 0))), ((u 0), .inl (g.2 0, 160, .inl (fun _ => 0))), ((u 1), .inl (g.2 0, 160, .inl (fun _ => 0))), ((u 2), .inl (g.2 0, 160, .inl (fun _ => 0))), ((u 3), .inl (g.2 0, 160, .inl (fun _ => 0))), ((u 4), .inl (g.2 0, 160, .inl (fun _ => 0))), ((u 5), .inl (g.2 0, 160, .inl (fun _ => 0))), ((u 6), .inl (g.2 0, 160, .inl (fun _ => 0))), ((u 7), .inl (g.2 0, 160, .inl (fun _ => 0))), ((u 8), .inl (g.2 0, 480, .inl (fun _ => 0)))] t.heap ∧ va_D (va_A [(h0, .inr (0, [.null, .null, .null, .null, .null, .null, .null, .null, .null, .int 0, .null, .int 0])), (a1, .inr (1, [.ref a2, .int 0])), (a2, .inl (g.2 1, 160, .inl (fun _ => 0)))] sz) [(h0, .inr (0, [.ref a1, .ref (u 0), .ref (u 1), .ref (u 2), .ref (u 3), .ref (u 4), .ref (u 5), .ref (u 6), .ref (u 7), .int 0, .ref (u 8), .int 0])), (a1, .inr (1, [.ref a2, .int 0])), (a2, .inl (g.2 1, 160, .inl (fun _ => 0))), ((u 0), .inl (g.2 0, 160, .inl (fun _ => 0))), ((u 1), .inl (g.2 0, 160, .inl (fun _ => 0))), ((u 2), .inl (g.2 0, 160, .inl (fun _ => 0))), ((u 3), .inl (g.2 0, 160, .inl (fun _ => 0))), ((u 4), .inl (g.2 0, 160, .inl (fun _ => 0))), ((u 5), .inl (g.2 0, 160, .inl (fun _ => 0))), ((u 6), .inl (g.2 0, 160, .inl (fun _ => 0))), ((u 7), .inl (g.2 0, 160, .inl (fun _ => 0))), ((u 8), .inl (g.2 0, 480, .inl (fun _ => 0)))]) (va_A [(h0, .inr (0, [.null, .null, .null, .null, .null, .null, .null, .null, .null, .int 0, .null, .int 0])), (a1, .inr (1, [.ref a2, .int 0])), (a2, .inl (g.2 1, 160, .inl (fun _ => 0)))] sz)) 9 1760 (va_A [(h0, .inr (0, [.null, .null, .null, .null, .null, .null, .null, .null, .null, .int 0, .null, .int 0])), (a1, .inr (1, [.ref a2, .int 0])), (a2, .inl (g.2 1, 160, .inl (fun _ => 0)))] sz) := by
  refine Met.ofW (cc := k_Tr_init) (maxL := 3) (ret := none) (by decide) rfl ?_
  intro p e s m args below meth c s₁ B hml hv
  obtain ⟨rfl, hsz, hP, hK, hD0, hNw⟩ := hv
  have hx := B.exec
  have hb := B.bytes
  have hr := B.returns
  have hts0 := atoms_spec (ws := .code y_Tr_init k_Tr_init 3 none :: GW) B.pre
  have hts : ∀ w ∈ GW, w.before _ s = true := fun w h => hts0 w (List.mem_cons_of_mem _ h)
  have hown : s.vm.findClass R_Tr = some m.cls := findClass_of_methodNamed B.named
  have hlocks := B.notSynchronized
  have hin : meth.name = "<init>" := (name_of_methodNamed B.named B.method).1
  subst hsz
  have hD := hD0.self (sz := s.heap.size)
  generalize hAe : va_A [(h0, .inr (0, [.null, .null, .null, .null, .null, .null, .null, .null, .null, .int 0, .null, .int 0])), (a1, .inr (1, [.ref a2, .int 0])), (a2, .inl (g.2 1, 160, .inl (fun _ => 0)))] s.heap.size = A at hD ⊢
  have hA : ∀ q : Nat, s.heap.size ≤ q → A q := fun q h => by rw [← hAe]; exact Or.inr h
  have hS : va_S A s.heap s.heap [] := va_S.rf
  have hP : va_P D vwCl [(h0, .inr (0, [.null, .null, .null, .null, .null, .null, .null, .null, .null, .int 0, .null, .int 0])), (a1, .inr (1, [.ref a2, .int 0])), (a2, .inl (g.2 1, 160, .inl (fun _ => 0)))] s.heap := hP
  have hl := lv_entry ([.ref h0, .ref a1]) (n := 3) (Nat.le_of_ble_eq_true rfl)
  rw [lg_entry_eq]
  generalize (lg_sl ([.ref h0, .ref a1]) ++ List.replicate (3 - (lg_sl ([.ref h0, .ref a1])).length) Slot.unset).toArray = ls at hl ⊢
  have hl : lv_has ls 3 [(0, .ref h0), (1, .ref a1)] := hl
  refine lv_aload_n hx hb d_Tr_init_0 rfl (lv_at hl 0 rfl) ?_
  refine W.objInit hx hb hown (hts _ gw124) (hts _ gw33) (hts _ gw34) rfl (by rw [hml]; exact hl.1) rfl d_Tr_init_1 (Nat.le_of_ble_eq_true rfl) (Nat.le_of_ble_eq_true rfl) ?_
  refine W.eq (g2 := F0 m 4 ls []) rfl ?_
  refine lv_aload_n hx hb d_Tr_init_4 rfl (lv_at hl 1 rfl) ?_
  refine va_get (D := D) (ci := 1) (v := .ref a2) (C := R_Tx) (T := T_Tx) (N := 2) hx hb hts in_Tx hown hK hP 1 rfl rfl 0 (by decide) (hts _ gw105) (fun _ h9 => h9) rfl d_Tr_init_5 ?_
  refine va_alen (v := (160 : Int32)) hx hb hK hP 2 1 rfl rfl rfl d_Tr_init_8 ?_
  refine lv_istore_n hx hb d_Tr_init_9 rfl hl (by decide) rfl (fun ls hl => ?_)
  have hl : lv_has ls 3 [(2, .int (160 : Int32)), (0, .ref h0), (1, .ref a1)] := hl
  refine lv_aload_n hx hb d_Tr_init_10 rfl (lv_at hl 1 rfl) ?_
  refine lv_aload_n hx hb d_Tr_init_11 rfl (lv_at hl 2 rfl) ?_
  refine va_putF (D := D) (ci := 0) (v := .ref a1) (ty := .object "SchemaDesk$Text") (C := R_Tr) (T := T_Tr) (N := 12) hx hb hts in_Tr ty_Tr ty_Tr_ok nm_Tr hown hK hP hD hS 0 rfl rfl 0 (by decide) (hts _ gw126) (fun _ h9 => h9) rfl hin rfl (by decide +kernel) rfl rfl (Nat.le_of_ble_eq_true rfl) d_Tr_init_12 (fun H locs hP hD hS => ?_)
  have hP : va_P D vwCl [(h0, .inr (0, [.ref a1, .null, .null, .null, .null, .null, .null, .null, .null, .int 0, .null, .int 0])), (a1, .inr (1, [.ref a2, .int 0])), (a2, .inl (g.2 1, 160, .inl (fun _ => 0)))] H := hP
  have hD : va_D A [(h0, .inr (0, [.ref a1, .null, .null, .null, .null, .null, .null, .null, .null, .int 0, .null, .int 0])), (a1, .inr (1, [.ref a2, .int 0])), (a2, .inl (g.2 1, 160, .inl (fun _ => 0)))] := hD
  refine lv_aload_n hx hb d_Tr_init_15 rfl (lv_at hl 1 rfl) ?_
  refine lv_iload_n hx hb d_Tr_init_16 rfl (lv_at hl 0 rfl) ?_
  refine va_newa (atype := .int) (a0 := (160, .inl (fun _ => 0))) hx hb (hts _ gw96) rfl hK hP hD hS hA (fun _ => rfl) (by decide) (by decide) (by decide) (Nat.le_of_ble_eq_true rfl) (Nat.le_of_ble_eq_true rfl) d_Tr_init_17 (fun q17 cA H hK2 hP hD hS => ?_)
  have hcA : cA = g.2 0 := Option.some.inj ((hK2.2 4 (cA, .int) rfl).2.symm.trans (hK2.2 0 (g.2 0, .int) rfl).2)
  subst hcA
  clear hK2
  have hP : va_P D vwCl [(h0, .inr (0, [.ref a1, .null, .null, .null, .null, .null, .null, .null, .null, .int 0, .null, .int 0])), (a1, .inr (1, [.ref a2, .int 0])), (a2, .inl (g.2 1, 160, .inl (fun _ => 0))), (q17, .inl (g.2 0, 160, .inl (fun _ => 0)))] H := hP
  have hD : va_D A [(h0, .inr (0, [.ref a1, .null, .null, .null, .null, .null, .null, .null, .null, .int 0, .null, .int 0])), (a1, .inr (1, [.ref a2, .int 0])), (a2, .inl (g.2 1, 160, .inl (fun _ => 0))), (q17, .inl (g.2 0, 160, .inl (fun _ => 0)))] := hD
  refine va_putF (D := D) (ci := 0) (v := .ref q17) (ty := .array .int) (C := R_Tr) (T := T_Tr) (N := 12) hx hb hts in_Tr ty_Tr ty_Tr_ok nm_Tr hown hK hP hD hS 0 rfl rfl 1 (by decide) (hts _ gw131) (fun _ h9 => h9) rfl hin rfl (by decide +kernel) rfl rfl (Nat.le_of_ble_eq_true rfl) d_Tr_init_19 (fun H locs hP hD hS => ?_)
  have hP : va_P D vwCl [(h0, .inr (0, [.ref a1, .ref q17, .null, .null, .null, .null, .null, .null, .null, .int 0, .null, .int 0])), (a1, .inr (1, [.ref a2, .int 0])), (a2, .inl (g.2 1, 160, .inl (fun _ => 0))), (q17, .inl (g.2 0, 160, .inl (fun _ => 0)))] H := hP
  have hD : va_D A [(h0, .inr (0, [.ref a1, .ref q17, .null, .null, .null, .null, .null, .null, .null, .int 0, .null, .int 0])), (a1, .inr (1, [.ref a2, .int 0])), (a2, .inl (g.2 1, 160, .inl (fun _ => 0))), (q17, .inl (g.2 0, 160, .inl (fun _ => 0)))] := hD
  refine lv_aload_n hx hb d_Tr_init_22 rfl (lv_at hl 1 rfl) ?_
  refine lv_iload_n hx hb d_Tr_init_23 rfl (lv_at hl 0 rfl) ?_
  refine va_newa (atype := .int) (a0 := (160, .inl (fun _ => 0))) hx hb (hts _ gw96) rfl hK hP hD hS hA (fun _ => rfl) (by decide) (by decide) (by decide) (Nat.le_of_ble_eq_true rfl) (Nat.le_of_ble_eq_true rfl) d_Tr_init_24 (fun q24 cA H hK2 hP hD hS => ?_)
  have hcA : cA = g.2 0 := Option.some.inj ((hK2.2 4 (cA, .int) rfl).2.symm.trans (hK2.2 0 (g.2 0, .int) rfl).2)
  subst hcA
  clear hK2
  have hP : va_P D vwCl [(h0, .inr (0, [.ref a1, .ref q17, .null, .null, .null, .null, .null, .null, .null, .int 0, .null, .int 0])), (a1, .inr (1, [.ref a2, .int 0])), (a2, .inl (g.2 1, 160, .inl (fun _ => 0))), (q17, .inl (g.2 0, 160, .inl (fun _ => 0))), (q24, .inl (g.2 0, 160, .inl (fun _ => 0)))] H := hP
  have hD : va_D A [(h0, .inr (0, [.ref a1, .ref q17, .null, .null, .null, .null, .null, .null, .null, .int 0, .null, .int 0])), (a1, .inr (1, [.ref a2, .int 0])), (a2, .inl (g.2 1, 160, .inl (fun _ => 0))), (q17, .inl (g.2 0, 160, .inl (fun _ => 0))), (q24, .inl (g.2 0, 160, .inl (fun _ => 0)))] := hD
  refine va_putF (D := D) (ci := 0) (v := .ref q24) (ty := .array .int) (C := R_Tr) (T := T_Tr) (N := 12) hx hb hts in_Tr ty_Tr ty_Tr_ok nm_Tr hown hK hP hD hS 0 rfl rfl 2 (by decide) (hts _ gw138) (fun _ h9 => h9) rfl hin rfl (by decide +kernel) rfl rfl (Nat.le_of_ble_eq_true rfl) d_Tr_init_26 (fun H locs hP hD hS => ?_)
  have hP : va_P D vwCl [(h0, .inr (0, [.ref a1, .ref q17, .ref q24, .null, .null, .null, .null, .null, .null, .int 0, .null, .int 0])), (a1, .inr (1, [.ref a2, .int 0])), (a2, .inl (g.2 1, 160, .inl (fun _ => 0))), (q17, .inl (g.2 0, 160, .inl (fun _ => 0))), (q24, .inl (g.2 0, 160, .inl (fun _ => 0)))] H := hP
  have hD : va_D A [(h0, .inr (0, [.ref a1, .ref q17, .ref q24, .null, .null, .null, .null, .null, .null, .int 0, .null, .int 0])), (a1, .inr (1, [.ref a2, .int 0])), (a2, .inl (g.2 1, 160, .inl (fun _ => 0))), (q17, .inl (g.2 0, 160, .inl (fun _ => 0))), (q24, .inl (g.2 0, 160, .inl (fun _ => 0)))] := hD
  refine lv_aload_n hx hb d_Tr_init_29 rfl (lv_at hl 1 rfl) ?_
  refine lv_iload_n hx hb d_Tr_init_30 rfl (lv_at hl 0 rfl) ?_
  refine va_newa (atype := .int) (a0 := (160, .inl (fun _ => 0))) hx hb (hts _ gw96) rfl hK hP hD hS hA (fun _ => rfl) (by decide) (by decide) (by decide) (Nat.le_of_ble_eq_true rfl) (Nat.le_of_ble_eq_true rfl) d_Tr_init_31 (fun q31 cA H hK2 hP hD hS => ?_)
  have hcA : cA = g.2 0 := Option.some.inj ((hK2.2 4 (cA, .int) rfl).2.symm.trans (hK2.2 0 (g.2 0, .int) rfl).2)
  subst hcA
  clear hK2
  have hP : va_P D vwCl [(h0, .inr (0, [.ref a1, .ref q17, .ref q24, .null, .null, .null, .null, .null, .null, .int 0, .null, .int 0])), (a1, .inr (1, [.ref a2, .int 0])), (a2, .inl (g.2 1, 160, .inl (fun _ => 0))), (q17, .inl (g.2 0, 160, .inl (fun _ => 0))), (q24, .inl (g.2 0, 160, .inl (fun _ => 0))), (q31, .inl (g.2 0, 160, .inl (fun _ => 0)))] H := hP
  have hD : va_D A [(h0, .inr (0, [.ref a1, .ref q17, .ref q24, .null, .null, .null, .null, .null, .null, .int 0, .null, .int 0])), (a1, .inr (1, [.ref a2, .int 0])), (a2, .inl (g.2 1, 160, .inl (fun _ => 0))), (q17, .inl (g.2 0, 160, .inl (fun _ => 0))), (q24, .inl (g.2 0, 160, .inl (fun _ => 0))), (q31, .inl (g.2 0, 160, .inl (fun _ => 0)))] := hD
  refine va_putF (D := D) (ci := 0) (v := .ref q31) (ty := .array .int) (C := R_Tr) (T := T_Tr) (N := 12) hx hb hts in_Tr ty_Tr ty_Tr_ok nm_Tr hown hK hP hD hS 0 rfl rfl 3 (by decide) (hts _ gw143) (fun _ h9 => h9) rfl hin rfl (by decide +kernel) rfl rfl (Nat.le_of_ble_eq_true rfl) d_Tr_init_33 (fun H locs hP hD hS => ?_)
  have hP : va_P D vwCl [(h0, .inr (0, [.ref a1, .ref q17, .ref q24, .ref q31, .null, .null, .null, .null, .null, .int 0, .null, .int 0])), (a1, .inr (1, [.ref a2, .int 0])), (a2, .inl (g.2 1, 160, .inl (fun _ => 0))), (q17, .inl (g.2 0, 160, .inl (fun _ => 0))), (q24, .inl (g.2 0, 160, .inl (fun _ => 0))), (q31, .inl (g.2 0, 160, .inl (fun _ => 0)))] H := hP
  have hD : va_D A [(h0, .inr (0, [.ref a1, .ref q17, .ref q24, .ref q31, .null, .null, .null, .null, .null, .int 0, .null, .int 0])), (a1, .inr (1, [.ref a2, .int 0])), (a2, .inl (g.2 1, 160, .inl (fun _ => 0))), (q17, .inl (g.2 0, 160, .inl (fun _ => 0))), (q24, .inl (g.2 0, 160, .inl (fun _ => 0))), (q31, .inl (g.2 0, 160, .inl (fun _ => 0)))] := hD
  refine lv_aload_n hx hb d_Tr_init_36 rfl (lv_at hl 1 rfl) ?_
  refine lv_iload_n hx hb d_Tr_init_37 rfl (lv_at hl 0 rfl) ?_
  refine va_newa (atype := .int) (a0 := (160, .inl (fun _ => 0))) hx hb (hts _ gw96) rfl hK hP hD hS hA (fun _ => rfl) (by decide) (by decide) (by decide) (Nat.le_of_ble_eq_true rfl) (Nat.le_of_ble_eq_true rfl) d_Tr_init_38 (fun q38 cA H hK2 hP hD hS => ?_)
  have hcA : cA = g.2 0 := Option.some.inj ((hK2.2 4 (cA, .int) rfl).2.symm.trans (hK2.2 0 (g.2 0, .int) rfl).2)
  subst hcA
  clear hK2
  have hP : va_P D vwCl [(h0, .inr (0, [.ref a1, .ref q17, .ref q24, .ref q31, .null, .null, .null, .null, .null, .int 0, .null, .int 0])), (a1, .inr (1, [.ref a2, .int 0])), (a2, .inl (g.2 1, 160, .inl (fun _ => 0))), (q17, .inl (g.2 0, 160, .inl (fun _ => 0))), (q24, .inl (g.2 0, 160, .inl (fun _ => 0))), (q31, .inl (g.2 0, 160, .inl (fun _ => 0))), (q38, .inl (g.2 0, 160, .inl (fun _ => 0)))] H := hP
  have hD : va_D A [(h0, .inr (0, [.ref a1, .ref q17, .ref q24, .ref q31, .null, .null, .null, .null, .null, .int 0, .null, .int 0])), (a1, .inr (1, [.ref a2, .int 0])), (a2, .inl (g.2 1, 160, .inl (fun _ => 0))), (q17, .inl (g.2 0, 160, .inl (fun _ => 0))), (q24, .inl (g.2 0, 160, .inl (fun _ => 0))), (q31, .inl (g.2 0, 160, .inl (fun _ => 0))), (q38, .inl (g.2 0, 160, .inl (fun _ => 0)))] := hD
  refine va_putF (D := D) (ci := 0) (v := .ref q38) (ty := .array .int) (C := R_Tr) (T := T_Tr) (N := 12) hx hb hts in_Tr ty_Tr ty_Tr_ok nm_Tr hown hK hP hD hS 0 rfl rfl 4 (by decide) (hts _ gw145) (fun _ h9 => h9) rfl hin rfl (by decide +kernel) rfl rfl (Nat.le_of_ble_eq_true rfl) d_Tr_init_40 (fun H locs hP hD hS => ?_)
  have hP : va_P D vwCl [(h0, .inr (0, [.ref a1, .ref q17, .ref q24, .ref q31, .ref q38, .null, .null, .null, .null, .int 0, .null, .int 0])), (a1, .inr (1, [.ref a2, .int 0])), (a2, .inl (g.2 1, 160, .inl (fun _ => 0))), (q17, .inl (g.2 0, 160, .inl (fun _ => 0))), (q24, .inl (g.2 0, 160, .inl (fun _ => 0))), (q31, .inl (g.2 0, 160, .inl (fun _ => 0))), (q38, .inl (g.2 0, 160, .inl (fun _ => 0)))] H := hP
  have hD : va_D A [(h0, .inr (0, [.ref a1, .ref q17, .ref q24, .ref q31, .ref q38, .null, .null, .null, .null, .int 0, .null, .int 0])), (a1, .inr (1, [.ref a2, .int 0])), (a2, .inl (g.2 1, 160, .inl (fun _ => 0))), (q17, .inl (g.2 0, 160, .inl (fun _ => 0))), (q24, .inl (g.2 0, 160, .inl (fun _ => 0))), (q31, .inl (g.2 0, 160, .inl (fun _ => 0))), (q38, .inl (g.2 0, 160, .inl (fun _ => 0)))] := hD
  refine lv_aload_n hx hb d_Tr_init_43 rfl (lv_at hl 1 rfl) ?_
  refine lv_iload_n hx hb d_Tr_init_44 rfl (lv_at hl 0 rfl) ?_
  refine va_newa (atype := .int) (a0 := (160, .inl (fun _ => 0))) hx hb (hts _ gw96) rfl hK hP hD hS hA (fun _ => rfl) (by decide) (by decide) (by decide) (Nat.le_of_ble_eq_true rfl) (Nat.le_of_ble_eq_true rfl) d_Tr_init_45 (fun q45 cA H hK2 hP hD hS => ?_)
  have hcA : cA = g.2 0 := Option.some.inj ((hK2.2 4 (cA, .int) rfl).2.symm.trans (hK2.2 0 (g.2 0, .int) rfl).2)
  subst hcA
  clear hK2
  have hP : va_P D vwCl [(h0, .inr (0, [.ref a1, .ref q17, .ref q24, .ref q31, .ref q38, .null, .null, .null, .null, .int 0, .null, .int 0])), (a1, .inr (1, [.ref a2, .int 0])), (a2, .inl (g.2 1, 160, .inl (fun _ => 0))), (q17, .inl (g.2 0, 160, .inl (fun _ => 0))), (q24, .inl (g.2 0, 160, .inl (fun _ => 0))), (q31, .inl (g.2 0, 160, .inl (fun _ => 0))), (q38, .inl (g.2 0, 160, .inl (fun _ => 0))), (q45, .inl (g.2 0, 160, .inl (fun _ => 0)))] H := hP
  have hD : va_D A [(h0, .inr (0, [.ref a1, .ref q17, .ref q24, .ref q31, .ref q38, .null, .null, .null, .null, .int 0, .null, .int 0])), (a1, .inr (1, [.ref a2, .int 0])), (a2, .inl (g.2 1, 160, .inl (fun _ => 0))), (q17, .inl (g.2 0, 160, .inl (fun _ => 0))), (q24, .inl (g.2 0, 160, .inl (fun _ => 0))), (q31, .inl (g.2 0, 160, .inl (fun _ => 0))), (q38, .inl (g.2 0, 160, .inl (fun _ => 0))), (q45, .inl (g.2 0, 160, .inl (fun _ => 0)))] := hD
  refine va_putF (D := D) (ci := 0) (v := .ref q45) (ty := .array .int) (C := R_Tr) (T := T_Tr) (N := 12) hx hb hts in_Tr ty_Tr ty_Tr_ok nm_Tr hown hK hP hD hS 0 rfl rfl 5 (by decide) (hts _ gw148) (fun _ h9 => h9) rfl hin rfl (by decide +kernel) rfl rfl (Nat.le_of_ble_eq_true rfl) d_Tr_init_47 (fun H locs hP hD hS => ?_)
  have hP : va_P D vwCl [(h0, .inr (0, [.ref a1, .ref q17, .ref q24, .ref q31, .ref q38, .ref q45, .null, .null, .null, .int 0, .null, .int 0])), (a1, .inr (1, [.ref a2, .int 0])), (a2, .inl (g.2 1, 160, .inl (fun _ => 0))), (q17, .inl (g.2 0, 160, .inl (fun _ => 0))), (q24, .inl (g.2 0, 160, .inl (fun _ => 0))), (q31, .inl (g.2 0, 160, .inl (fun _ => 0))), (q38, .inl (g.2 0, 160, .inl (fun _ => 0))), (q45, .inl (g.2 0, 160, .inl (fun _ => 0)))] H := hP
  have hD : va_D A [(h0, .inr (0, [.ref a1, .ref q17, .ref q24, .ref q31, .ref q38, .ref q45, .null, .null, .null, .int 0, .null, .int 0])), (a1, .inr (1, [.ref a2, .int 0])), (a2, .inl (g.2 1, 160, .inl (fun _ => 0))), (q17, .inl (g.2 0, 160, .inl (fun _ => 0))), (q24, .inl (g.2 0, 160, .inl (fun _ => 0))), (q31, .inl (g.2 0, 160, .inl (fun _ => 0))), (q38, .inl (g.2 0, 160, .inl (fun _ => 0))), (q45, .inl (g.2 0, 160, .inl (fun _ => 0)))] := hD
  refine lv_aload_n hx hb d_Tr_init_50 rfl (lv_at hl 1 rfl) ?_
  refine lv_iload_n hx hb d_Tr_init_51 rfl (lv_at hl 0 rfl) ?_
  refine va_newa (atype := .int) (a0 := (160, .inl (fun _ => 0))) hx hb (hts _ gw96) rfl hK hP hD hS hA (fun _ => rfl) (by decide) (by decide) (by decide) (Nat.le_of_ble_eq_true rfl) (Nat.le_of_ble_eq_true rfl) d_Tr_init_52 (fun q52 cA H hK2 hP hD hS => ?_)
  have hcA : cA = g.2 0 := Option.some.inj ((hK2.2 4 (cA, .int) rfl).2.symm.trans (hK2.2 0 (g.2 0, .int) rfl).2)
  subst hcA
  clear hK2
  have hP : va_P D vwCl [(h0, .inr (0, [.ref a1, .ref q17, .ref q24, .ref q31, .ref q38, .ref q45, .null, .null, .null, .int 0, .null, .int 0])), (a1, .inr (1, [.ref a2, .int 0])), (a2, .inl (g.2 1, 160, .inl (fun _ => 0))), (q17, .inl (g.2 0, 160, .inl (fun _ => 0))), (q24, .inl (g.2 0, 160, .inl (fun _ => 0))), (q31, .inl (g.2 0, 160, .inl (fun _ => 0))), (q38, .inl (g.2 0, 160, .inl (fun _ => 0))), (q45, .inl (g.2 0, 160, .inl (fun _ => 0))), (q52, .inl (g.2 0, 160, .inl (fun _ => 0)))] H := hP
  have hD : va_D A [(h0, .inr (0, [.ref a1, .ref q17, .ref q24, .ref q31, .ref q38, .ref q45, .null, .null, .null, .int 0, .null, .int 0])), (a1, .inr (1, [.ref a2, .int 0])), (a2, .inl (g.2 1, 160, .inl (fun _ => 0))), (q17, .inl (g.2 0, 160, .inl (fun _ => 0))), (q24, .inl (g.2 0, 160, .inl (fun _ => 0))), (q31, .inl (g.2 0, 160, .inl (fun _ => 0))), (q38, .inl (g.2 0, 160, .inl (fun _ => 0))), (q45, .inl (g.2 0, 160, .inl (fun _ => 0))), (q52, .inl (g.2 0, 160, .inl (fun _ => 0)))] := hD
  refine va_putF (D := D) (ci := 0) (v := .ref q52) (ty := .array .int) (C := R_Tr) (T := T_Tr) (N := 12) hx hb hts in_Tr ty_Tr ty_Tr_ok nm_Tr hown hK hP hD hS 0 rfl rfl 6 (by decide) (hts _ gw154) (fun _ h9 => h9) rfl hin rfl (by decide +kernel) rfl rfl (Nat.le_of_ble_eq_true rfl) d_Tr_init_54 (fun H locs hP hD hS => ?_)
  have hP : va_P D vwCl [(h0, .inr (0, [.ref a1, .ref q17, .ref q24, .ref q31, .ref q38, .ref q45, .ref q52, .null, .null, .int 0, .null, .int 0])), (a1, .inr (1, [.ref a2, .int 0])), (a2, .inl (g.2 1, 160, .inl (fun _ => 0))), (q17, .inl (g.2 0, 160, .inl (fun _ => 0))), (q24, .inl (g.2 0, 160, .inl (fun _ => 0))), (q31, .inl (g.2 0, 160, .inl (fun _ => 0))), (q38, .inl (g.2 0, 160, .inl (fun _ => 0))), (q45, .inl (g.2 0, 160, .inl (fun _ => 0))), (q52, .inl (g.2 0, 160, .inl (fun _ => 0)))] H := hP
  have hD : va_D A [(h0, .inr (0, [.ref a1, .ref q17, .ref q24, .ref q31, .ref q38, .ref q45, .ref q52, .null, .null, .int 0, .null, .int 0])), (a1, .inr (1, [.ref a2, .int 0])), (a2, .inl (g.2 1, 160, .inl (fun _ => 0))), (q17, .inl (g.2 0, 160, .inl (fun _ => 0))), (q24, .inl (g.2 0, 160, .inl (fun _ => 0))), (q31, .inl (g.2 0, 160, .inl (fun _ => 0))), (q38, .inl (g.2 0, 160, .inl (fun _ => 0))), (q45, .inl (g.2 0, 160, .inl (fun _ => 0))), (q52, .inl (g.2 0, 160, .inl (fun _ => 0)))] := hD
  refine lv_aload_n hx hb d_Tr_init_57 rfl (lv_at hl 1 rfl) ?_
  refine lv_iload_n hx hb d_Tr_init_58 rfl (lv_at hl 0 rfl) ?_
  refine va_newa (atype := .int) (a0 := (160, .inl (fun _ => 0))) hx hb (hts _ gw96) rfl hK hP hD hS hA (fun _ => rfl) (by decide) (by decide) (by decide) (Nat.le_of_ble_eq_true rfl) (Nat.le_of_ble_eq_true rfl) d_Tr_init_59 (fun q59 cA H hK2 hP hD hS => ?_)
  have hcA : cA = g.2 0 := Option.some.inj ((hK2.2 4 (cA, .int) rfl).2.symm.trans (hK2.2 0 (g.2 0, .int) rfl).2)
  subst hcA
  clear hK2
  have hP : va_P D vwCl [(h0, .inr (0, [.ref a1, .ref q17, .ref q24, .ref q31, .ref q38, .ref q45, .ref q52, .null, .null, .int 0, .null, .int 0])), (a1, .inr (1, [.ref a2, .int 0])), (a2, .inl (g.2 1, 160, .inl (fun _ => 0))), (q17, .inl (g.2 0, 160, .inl (fun _ => 0))), (q24, .inl (g.2 0, 160, .inl (fun _ => 0))), (q31, .inl (g.2 0, 160, .inl (fun _ => 0))), (q38, .inl (g.2 0, 160, .inl (fun _ => 0))), (q45, .inl (g.2 0, 160, .inl (fun _ => 0))), (q52, .inl (g.2 0, 160, .inl (fun _ => 0))), (q59, .inl (g.2 0, 160, .inl (fun _ => 0)))] H := hP
  have hD : va_D A [(h0, .inr (0, [.ref a1, .ref q17, .ref q24, .ref q31, .ref q38, .ref q45, .ref q52, .null, .null, .int 0, .null, .int 0])), (a1, .inr (1, [.ref a2, .int 0])), (a2, .inl (g.2 1, 160, .inl (fun _ => 0))), (q17, .inl (g.2 0, 160, .inl (fun _ => 0))), (q24, .inl (g.2 0, 160, .inl (fun _ => 0))), (q31, .inl (g.2 0, 160, .inl (fun _ => 0))), (q38, .inl (g.2 0, 160, .inl (fun _ => 0))), (q45, .inl (g.2 0, 160, .inl (fun _ => 0))), (q52, .inl (g.2 0, 160, .inl (fun _ => 0))), (q59, .inl (g.2 0, 160, .inl (fun _ => 0)))] := hD
  refine va_putF (D := D) (ci := 0) (v := .ref q59) (ty := .array .int) (C := R_Tr) (T := T_Tr) (N := 12) hx hb hts in_Tr ty_Tr ty_Tr_ok nm_Tr hown hK hP hD hS 0 rfl rfl 7 (by decide) (hts _ gw159) (fun _ h9 => h9) rfl hin rfl (by decide +kernel) rfl rfl (Nat.le_of_ble_eq_true rfl) d_Tr_init_61 (fun H locs hP hD hS => ?_)
  have hP : va_P D vwCl [(h0, .inr (0, [.ref a1, .ref q17, .ref q24, .ref q31, .ref q38, .ref q45, .ref q52, .ref q59, .null, .int 0, .null, .int 0])), (a1, .inr (1, [.ref a2, .int 0])), (a2, .inl (g.2 1, 160, .inl (fun _ => 0))), (q17, .inl (g.2 0, 160, .inl (fun _ => 0))), (q24, .inl (g.2 0, 160, .inl (fun _ => 0))), (q31, .inl (g.2 0, 160, .inl (fun _ => 0))), (q38, .inl (g.2 0, 160, .inl (fun _ => 0))), (q45, .inl (g.2 0, 160, .inl (fun _ => 0))), (q52, .inl (g.2 0, 160, .inl (fun _ => 0))), (q59, .inl (g.2 0, 160, .inl (fun _ => 0)))] H := hP
  have hD : va_D A [(h0, .inr (0, [.ref a1, .ref q17, .ref q24, .ref q31, .ref q38, .ref q45, .ref q52, .ref q59, .null, .int 0, .null, .int 0])), (a1, .inr (1, [.ref a2, .int 0])), (a2, .inl (g.2 1, 160, .inl (fun _ => 0))), (q17, .inl (g.2 0, 160, .inl (fun _ => 0))), (q24, .inl (g.2 0, 160, .inl (fun _ => 0))), (q31, .inl (g.2 0, 160, .inl (fun _ => 0))), (q38, .inl (g.2 0, 160, .inl (fun _ => 0))), (q45, .inl (g.2 0, 160, .inl (fun _ => 0))), (q52, .inl (g.2 0, 160, .inl (fun _ => 0))), (q59, .inl (g.2 0, 160, .inl (fun _ => 0)))] := hD
  refine lv_aload_n hx hb d_Tr_init_64 rfl (lv_at hl 1 rfl) ?_
  refine lv_iload_n hx hb d_Tr_init_65 rfl (lv_at hl 0 rfl) ?_
  refine va_newa (atype := .int) (a0 := (160, .inl (fun _ => 0))) hx hb (hts _ gw96) rfl hK hP hD hS hA (fun _ => rfl) (by decide) (by decide) (by decide) (Nat.le_of_ble_eq_true rfl) (Nat.le_of_ble_eq_true rfl) d_Tr_init_66 (fun q66 cA H hK2 hP hD hS => ?_)
  have hcA : cA = g.2 0 := Option.some.inj ((hK2.2 4 (cA, .int) rfl).2.symm.trans (hK2.2 0 (g.2 0, .int) rfl).2)
  subst hcA
  clear hK2
  have hP : va_P D vwCl [(h0, .inr (0, [.ref a1, .ref q17, .ref q24, .ref q31, .ref q38, .ref q45, .ref q52, .ref q59, .null, .int 0, .null, .int 0])), (a1, .inr (1, [.ref a2, .int 0])), (a2, .inl (g.2 1, 160, .inl (fun _ => 0))), (q17, .inl (g.2 0, 160, .inl (fun _ => 0))), (q24, .inl (g.2 0, 160, .inl (fun _ => 0))), (q31, .inl (g.2 0, 160, .inl (fun _ => 0))), (q38, .inl (g.2 0, 160, .inl (fun _ => 0))), (q45, .inl (g.2 0, 160, .inl (fun _ => 0))), (q52, .inl (g.2 0, 160, .inl (fun _ => 0))), (q59, .inl (g.2 0, 160, .inl (fun _ => 0))), (q66, .inl (g.2 0, 160, .inl (fun _ => 0)))] H := hP
  have hD : va_D A [(h0, .inr (0, [.ref a1, .ref q17, .ref q24, .ref q31, .ref q38, .ref q45, .ref q52, .ref q59, .null, .int 0, .null, .int 0])), (a1, .inr (1, [.ref a2, .int 0])), (a2, .inl (g.2 1, 160, .inl (fun _ => 0))), (q17, .inl (g.2 0, 160, .inl (fun _ => 0))), (q24, .inl (g.2 0, 160, .inl (fun _ => 0))), (q31, .inl (g.2 0, 160, .inl (fun _ => 0))), (q38, .inl (g.2 0, 160, .inl (fun _ => 0))), (q45, .inl (g.2 0, 160, .inl (fun _ => 0))), (q52, .inl (g.2 0, 160, .inl (fun _ => 0))), (q59, .inl (g.2 0, 160, .inl (fun _ => 0))), (q66, .inl (g.2 0, 160, .inl (fun _ => 0)))] := hD
  refine va_putF (D := D) (ci := 0) (v := .ref q66) (ty := .array .int) (C := R_Tr) (T := T_Tr) (N := 12) hx hb hts in_Tr ty_Tr ty_Tr_ok nm_Tr hown hK hP hD hS 0 rfl rfl 8 (by decide) (hts _ gw163) (fun _ h9 => h9) rfl hin rfl (by decide +kernel) rfl rfl (Nat.le_of_ble_eq_true rfl) d_Tr_init_68 (fun H locs hP hD hS => ?_)
  have hP : va_P D vwCl [(h0, .inr (0, [.ref a1, .ref q17, .ref q24, .ref q31, .ref q38, .ref q45, .ref q52, .ref q59, .ref q66, .int 0, .null, .int 0])), (a1, .inr (1, [.ref a2, .int 0])), (a2, .inl (g.2 1, 160, .inl (fun _ => 0))), (q17, .inl (g.2 0, 160, .inl (fun _ => 0))), (q24, .inl (g.2 0, 160, .inl (fun _ => 0))), (q31, .inl (g.2 0, 160, .inl (fun _ => 0))), (q38, .inl (g.2 0, 160, .inl (fun _ => 0))), (q45, .inl (g.2 0, 160, .inl (fun _ => 0))), (q52, .inl (g.2 0, 160, .inl (fun _ => 0))), (q59, .inl (g.2 0, 160, .inl (fun _ => 0))), (q66, .inl (g.2 0, 160, .inl (fun _ => 0)))] H := hP
  have hD : va_D A [(h0, .inr (0, [.ref a1, .ref q17, .ref q24, .ref q31, .ref q38, .ref q45, .ref q52, .ref q59, .ref q66, .int 0, .null, .int 0])), (a1, .inr (1, [.ref a2, .int 0])), (a2, .inl (g.2 1, 160, .inl (fun _ => 0))), (q17, .inl (g.2 0, 160, .inl (fun _ => 0))), (q24, .inl (g.2 0, 160, .inl (fun _ => 0))), (q31, .inl (g.2 0, 160, .inl (fun _ => 0))), (q38, .inl (g.2 0, 160, .inl (fun _ => 0))), (q45, .inl (g.2 0, 160, .inl (fun _ => 0))), (q52, .inl (g.2 0, 160, .inl (fun _ => 0))), (q59, .inl (g.2 0, 160, .inl (fun _ => 0))), (q66, .inl (g.2 0, 160, .inl (fun _ => 0)))] := hD
  refine lv_aload_n hx hb d_Tr_init_71 rfl (lv_at hl 1 rfl) ?_
  refine lv_iconst (v := (3 : Int32)) hx hb d_Tr_init_72 (by decide) ?_
  refine lv_iload_n hx hb d_Tr_init_73 rfl (lv_at hl 0 rfl) ?_
  refine lv_imul hx hb d_Tr_init_74 ?_
  refine va_newa (atype := .int) (a0 := (480, .inl (fun _ => 0))) hx hb (hts _ gw96) rfl hK hP hD hS hA (fun _ => rfl) (by decide) (by decide) (by decide) (Nat.le_of_ble_eq_true rfl) (Nat.le_of_ble_eq_true rfl) d_Tr_init_75 (fun q75 cA H hK2 hP hD hS => ?_)
  have hcA : cA = g.2 0 := Option.some.inj ((hK2.2 4 (cA, .int) rfl).2.symm.trans (hK2.2 0 (g.2 0, .int) rfl).2)
  subst hcA
  clear hK2
  have hP : va_P D vwCl [(h0, .inr (0, [.ref a1, .ref q17, .ref q24, .ref q31, .ref q38, .ref q45, .ref q52, .ref q59, .ref q66, .int 0, .null, .int 0])), (a1, .inr (1, [.ref a2, .int 0])), (a2, .inl (g.2 1, 160, .inl (fun _ => 0))), (q17, .inl (g.2 0, 160, .inl (fun _ => 0))), (q24, .inl (g.2 0, 160, .inl (fun _ => 0))), (q31, .inl (g.2 0, 160, .inl (fun _ => 0))), (q38, .inl (g.2 0, 160, .inl (fun _ => 0))), (q45, .inl (g.2 0, 160, .inl (fun _ => 0))), (q52, .inl (g.2 0, 160, .inl (fun _ => 0))), (q59, .inl (g.2 0, 160, .inl (fun _ => 0))), (q66, .inl (g.2 0, 160, .inl (fun _ => 0))), (q75, .inl (g.2 0, 480, .inl (fun _ => 0)))] H := hP
  have hD : va_D A [(h0, .inr (0, [.ref a1, .ref q17, .ref q24, .ref q31, .ref q38, .ref q45, .ref q52, .ref q59, .ref q66, .int 0, .null, .int 0])), (a1, .inr (1, [.ref a2, .int 0])), (a2, .inl (g.2 1, 160, .inl (fun _ => 0))), (q17, .inl (g.2 0, 160, .inl (fun _ => 0))), (q24, .inl (g.2 0, 160, .inl (fun _ => 0))), (q31, .inl (g.2 0, 160, .inl (fun _ => 0))), (q38, .inl (g.2 0, 160, .inl (fun _ => 0))), (q45, .inl (g.2 0, 160, .inl (fun _ => 0))), (q52, .inl (g.2 0, 160, .inl (fun _ => 0))), (q59, .inl (g.2 0, 160, .inl (fun _ => 0))), (q66, .inl (g.2 0, 160, .inl (fun _ => 0))), (q75, .inl (g.2 0, 480, .inl (fun _ => 0)))] := hD
  refine va_putF (D := D) (ci := 0) (v := .ref q75) (ty := .array .int) (C := R_Tr) (T := T_Tr) (N := 12) hx hb hts in_Tr ty_Tr ty_Tr_ok nm_Tr hown hK hP hD hS 0 rfl rfl 10 (by decide) (hts _ gw173) (fun _ h9 => h9) rfl hin rfl (by decide +kernel) rfl rfl (Nat.le_of_ble_eq_true rfl) d_Tr_init_77 (fun H locs hP hD hS => ?_)
  have hP : va_P D vwCl [(h0, .inr (0, [.ref a1, .ref q17, .ref q24, .ref q31, .ref q38, .ref q45, .ref q52, .ref q59, .ref q66, .int 0, .ref q75, .int 0])), (a1, .inr (1, [.ref a2, .int 0])), (a2, .inl (g.2 1, 160, .inl (fun _ => 0))), (q17, .inl (g.2 0, 160, .inl (fun _ => 0))), (q24, .inl (g.2 0, 160, .inl (fun _ => 0))), (q31, .inl (g.2 0, 160, .inl (fun _ => 0))), (q38, .inl (g.2 0, 160, .inl (fun _ => 0))), (q45, .inl (g.2 0, 160, .inl (fun _ => 0))), (q52, .inl (g.2 0, 160, .inl (fun _ => 0))), (q59, .inl (g.2 0, 160, .inl (fun _ => 0))), (q66, .inl (g.2 0, 160, .inl (fun _ => 0))), (q75, .inl (g.2 0, 480, .inl (fun _ => 0)))] H := hP
  have hD : va_D A [(h0, .inr (0, [.ref a1, .ref q17, .ref q24, .ref q31, .ref q38, .ref q45, .ref q52, .ref q59, .ref q66, .int 0, .ref q75, .int 0])), (a1, .inr (1, [.ref a2, .int 0])), (a2, .inl (g.2 1, 160, .inl (fun _ => 0))), (q17, .inl (g.2 0, 160, .inl (fun _ => 0))), (q24, .inl (g.2 0, 160, .inl (fun _ => 0))), (q31, .inl (g.2 0, 160, .inl (fun _ => 0))), (q38, .inl (g.2 0, 160, .inl (fun _ => 0))), (q45, .inl (g.2 0, 160, .inl (fun _ => 0))), (q52, .inl (g.2 0, 160, .inl (fun _ => 0))), (q59, .inl (g.2 0, 160, .inl (fun _ => 0))), (q66, .inl (g.2 0, 160, .inl (fun _ => 0))), (q75, .inl (g.2 0, 480, .inl (fun _ => 0)))] := hD
  have hP9 := hP.sub (ws' := [(h0, .inr (0, [.ref a1, .ref q17, .ref q24, .ref q31, .ref q38, .ref q45, .ref q52, .ref q59, .ref q66, .int 0, .ref q75, .int 0])), (a1, .inr (1, [.ref a2, .int 0])), (a2, .inl (g.2 1, 160, .inl (fun _ => 0))), (q17, .inl (g.2 0, 160, .inl (fun _ => 0))), (q24, .inl (g.2 0, 160, .inl (fun _ => 0))), (q31, .inl (g.2 0, 160, .inl (fun _ => 0))), (q38, .inl (g.2 0, 160, .inl (fun _ => 0))), (q45, .inl (g.2 0, 160, .inl (fun _ => 0))), (q52, .inl (g.2 0, 160, .inl (fun _ => 0))), (q59, .inl (g.2 0, 160, .inl (fun _ => 0))), (q66, .inl (g.2 0, 160, .inl (fun _ => 0))), (q75, .inl (g.2 0, 480, .inl (fun _ => 0)))]) [0, 1, 2, 3, 4, 5, 6, 7, 8, 9, 10, 11] rfl
  have hD9 := hD.sub (ws' := [(h0, .inr (0, [.ref a1, .ref q17, .ref q24, .ref q31, .ref q38, .ref q45, .ref q52, .ref q59, .ref q66, .int 0, .ref q75, .int 0])), (a1, .inr (1, [.ref a2, .int 0])), (a2, .inl (g.2 1, 160, .inl (fun _ => 0))), (q17, .inl (g.2 0, 160, .inl (fun _ => 0))), (q24, .inl (g.2 0, 160, .inl (fun _ => 0))), (q31, .inl (g.2 0, 160, .inl (fun _ => 0))), (q38, .inl (g.2 0, 160, .inl (fun _ => 0))), (q45, .inl (g.2 0, 160, .inl (fun _ => 0))), (q52, .inl (g.2 0, 160, .inl (fun _ => 0))), (q59, .inl (g.2 0, 160, .inl (fun _ => 0))), (q66, .inl (g.2 0, 160, .inl (fun _ => 0))), (q75, .inl (g.2 0, 480, .inl (fun _ => 0)))]) [0, 1, 2, 3, 4, 5, 6, 7, 8, 9, 10, 11] (by decide) rfl
  refine W.widen (k := 9) (n := 1760) (Nat.le_of_ble_eq_true rfl) (Nat.le_of_ble_eq_true rfl) ?_
  exact W.vret hx hb hr (fun t ht _ => ⟨⟨(fun k => match k with | 0 => q17 | 1 => q24 | 2 => q31 | 3 => q38 | 4 => q45 | 5 => q52 | 6 => q59 | 7 => q66 | 8 => q75 | _ => 0), rfl, trivial, by rw [ht]; exact hP9, hD9⟩, hS.F ht⟩) hS.2.2 d_Tr_init_80 hlocks
set_option maxRecDepth 100000 in
set_option maxHeartbeats 4000000 in
theorem c_Tr_init_80 (l : Launch) {D : va_G} {g : Gm} (h0 a1 a2 sz : Nat) : Met l y_Tr_init (.code y_Tr_init k_Tr_init 3 none :: GW) { frames := 1, cells := 9, slots := 880, locals := 12 } (va_Pc [.ref h0, .ref a1] (fun U => U.heap.size = sz ∧ va_P D vwCl [(h0, .inr (0, [.null, .null, .null, .null, .null, .null, .null, .null, .null, .int 0, .null, .int 0])), (a1, .inr (1, [.ref a2, .int 0])), (a2, .inl (g.2 1, 80, .inl (fun _ => 0)))] U.heap ∧ va_K D vwCl (TYS g) U ∧ va_D (fun _ => True) [(h0, .inr (0, [.null, .null, .null, .null, .null, .null, .null, .null, .null, .int 0, .null, .int 0])), (a1, .inr (1, [.ref a2, .int 0])), (a2, .inl (g.2 1, 80, .inl (fun _ => 0)))] ∧ nestW U)) (va_Qv (S := Nat → Nat) (fun _ => True) (fun u t => va_P D vwCl [(h0, .inr (0, [.ref a1, .ref (u 0), .ref (u 1), .ref (u 2), .ref (u 3), .ref (u 4), .ref (u 5), .ref (u 6), .ref (u 7), .int 0, .ref (u 8), .int 0])), (a1, .inr (1, [.ref a2, .int 0])), (a2, .inl (g.2 1, 80, .inl (fun _ => 0))), ((u 0), .inl (g.2 0, 80, .inl (fun _ => 0))), ((u 1), .inl (g.2 0, 80, .inl (fun _ => 0))), ((u 2), .inl (g.2 0, 80, .inl (fun _ => 0))), ((u 3), .inl (g.2 0, 80, .inl (fun _ => 0))), ((u 4), .inl (g.2 0, 80, .inl (fun _ => 0))), ((u 5), .inl (g.2 0, 80, .inl (fun _ => 0))), ((u 6), .inl (g.2 0, 80, .inl (fun _ => 0))), ((u 7), .inl (g.2 0, 80, .inl (fun _ => 0))), ((u 8), .inl (g.2 0, 240, .inl (fun _ => 0)))] t.heap ∧ va_D (va_A [(h0, .inr (0, [.null, .null, .null, .null, .null, .null, .null, .null, .null, .int 0, .null, .int 0])), (a1, .inr (1, [.ref a2, .int 0])), (a2, .inl (g.2 1, 80, .inl (fun _ => 0)))] sz) [(h0, .inr (0, [.ref a1, .ref (u 0), .ref (u 1), .ref (u 2), .ref (u 3), .ref (u 4), .ref (u 5), .ref (u 6), .ref (u 7), .int 0, .ref (u 8), .int 0])), (a1, .inr (1, [.ref a2, .int 0])), (a2, .inl (g.2 1, 80, .inl (fun _ => 0))), ((u 0), .inl (g.2 0, 80, .inl (fun _ => 0))), ((u 1), .inl (g.2 0, 80, .inl (fun _ => 0))), ((u 2), .inl (g.2 0, 80, .inl (fun _ => 0))), ((u 3), .inl (g.2 0, 80, .inl (fun _ => 0))), ((u 4), .inl (g.2 0, 80, .inl (fun _ => 0))), ((u 5), .inl (g.2 0, 80, .inl (fun _ => 0))), ((u 6), .inl (g.2 0, 80, .inl (fun _ => 0))), ((u 7), .inl (g.2 0, 80, .inl (fun _ => 0))), ((u 8), .inl (g.2 0, 240, .inl (fun _ => 0)))]) (va_A [(h0, .inr (0, [.null, .null, .null, .null, .null, .null, .null, .null, .null, .int 0, .null, .int 0])), (a1, .inr (1, [.ref a2, .int 0])), (a2, .inl (g.2 1, 80, .inl (fun _ => 0)))] sz)) 9 880 (va_A [(h0, .inr (0, [.null, .null, .null, .null, .null, .null, .null, .null, .null, .int 0, .null, .int 0])), (a1, .inr (1, [.ref a2, .int 0])), (a2, .inl (g.2 1, 80, .inl (fun _ => 0)))] sz) := by
  refine Met.ofW (cc := k_Tr_init) (maxL := 3) (ret := none) (by decide) rfl ?_
  intro p e s m args below meth c s₁ B hml hv
  obtain ⟨rfl, hsz, hP, hK, hD0, hNw⟩ := hv
  have hx := B.exec
  have hb := B.bytes
  have hr := B.returns
  have hts0 := atoms_spec (ws := .code y_Tr_init k_Tr_init 3 none :: GW) B.pre
  have hts : ∀ w ∈ GW, w.before _ s = true := fun w h => hts0 w (List.mem_cons_of_mem _ h)
  have hown : s.vm.findClass R_Tr = some m.cls := findClass_of_methodNamed B.named
  have hlocks := B.notSynchronized
  have hin : meth.name = "<init>" := (name_of_methodNamed B.named B.method).1
  subst hsz
  have hD := hD0.self (sz := s.heap.size)
  generalize hAe : va_A [(h0, .inr (0, [.null, .null, .null, .null, .null, .null, .null, .null, .null, .int 0, .null, .int 0])), (a1, .inr (1, [.ref a2, .int 0])), (a2, .inl (g.2 1, 80, .inl (fun _ => 0)))] s.heap.size = A at hD ⊢
  have hA : ∀ q : Nat, s.heap.size ≤ q → A q := fun q h => by rw [← hAe]; exact Or.inr h
  have hS : va_S A s.heap s.heap [] := va_S.rf
  have hP : va_P D vwCl [(h0, .inr (0, [.null, .null, .null, .null, .null, .null, .null, .null, .null, .int 0, .null, .int 0])), (a1, .inr (1, [.ref a2, .int 0])), (a2, .inl (g.2 1, 80, .inl (fun _ => 0)))] s.heap := hP
  have hl := lv_entry ([.ref h0, .ref a1]) (n := 3) (Nat.le_of_ble_eq_true rfl)
  rw [lg_entry_eq]
  generalize (lg_sl ([.ref h0, .ref a1]) ++ List.replicate (3 - (lg_sl ([.ref h0, .ref a1])).length) Slot.unset).toArray = ls at hl ⊢
  have hl : lv_has ls 3 [(0, .ref h0), (1, .ref a1)] := hl
  refine lv_aload_n hx hb d_Tr_init_0 rfl (lv_at hl 0 rfl) ?_
  refine W.objInit hx hb hown (hts _ gw124) (hts _ gw33) (hts _ gw34) rfl (by rw [hml]; exact hl.1) rfl d_Tr_init_1 (Nat.le_of_ble_eq_true rfl) (Nat.le_of_ble_eq_true rfl) ?_
  refine W.eq (g2 := F0 m 4 ls []) rfl ?_
  refine lv_aload_n hx hb d_Tr_init_4 rfl (lv_at hl 1 rfl) ?_
  refine va_get (D := D) (ci := 1) (v := .ref a2) (C := R_Tx) (T := T_Tx) (N := 2) hx hb hts in_Tx hown hK hP 1 rfl rfl 0 (by decide) (hts _ gw105) (fun _ h9 => h9) rfl d_Tr_init_5 ?_
  refine va_alen (v := (80 : Int32)) hx hb hK hP 2 1 rfl rfl rfl d_Tr_init_8 ?_
  refine lv_istore_n hx hb d_Tr_init_9 rfl hl (by decide) rfl (fun ls hl => ?_)
  have hl : lv_has ls 3 [(2, .int (80 : Int32)), (0, .ref h0), (1, .ref a1)] := hl
  refine lv_aload_n hx hb d_Tr_init_10 rfl (lv_at hl 1 rfl) ?_
  refine lv_aload_n hx hb d_Tr_init_11 rfl (lv_at hl 2 rfl) ?_
  refine va_putF (D := D) (ci := 0) (v := .ref a1) (ty := .object "SchemaDesk$Text") (C := R_Tr) (T := T_Tr) (N := 12) hx hb hts in_Tr ty_Tr ty_Tr_ok nm_Tr hown hK hP hD hS 0 rfl rfl 0 (by decide) (hts _ gw126) (fun _ h9 => h9) rfl hin rfl (by decide +kernel) rfl rfl (Nat.le_of_ble_eq_true rfl) d_Tr_init_12 (fun H locs hP hD hS => ?_)
  have hP : va_P D vwCl [(h0, .inr (0, [.ref a1, .null, .null, .null, .null, .null, .null, .null, .null, .int 0, .null, .int 0])), (a1, .inr (1, [.ref a2, .int 0])), (a2, .inl (g.2 1, 80, .inl (fun _ => 0)))] H := hP
  have hD : va_D A [(h0, .inr (0, [.ref a1, .null, .null, .null, .null, .null, .null, .null, .null, .int 0, .null, .int 0])), (a1, .inr (1, [.ref a2, .int 0])), (a2, .inl (g.2 1, 80, .inl (fun _ => 0)))] := hD
  refine lv_aload_n hx hb d_Tr_init_15 rfl (lv_at hl 1 rfl) ?_
  refine lv_iload_n hx hb d_Tr_init_16 rfl (lv_at hl 0 rfl) ?_
  refine va_newa (atype := .int) (a0 := (80, .inl (fun _ => 0))) hx hb (hts _ gw96) rfl hK hP hD hS hA (fun _ => rfl) (by decide) (by decide) (by decide) (Nat.le_of_ble_eq_true rfl) (Nat.le_of_ble_eq_true rfl) d_Tr_init_17 (fun q17 cA H hK2 hP hD hS => ?_)
  have hcA : cA = g.2 0 := Option.some.inj ((hK2.2 4 (cA, .int) rfl).2.symm.trans (hK2.2 0 (g.2 0, .int) rfl).2)
  subst hcA
  clear hK2
  have hP : va_P D vwCl [(h0, .inr (0, [.ref a1, .null, .null, .null, .null, .null, .null, .null, .null, .int 0, .null, .int 0])), (a1, .inr (1, [.ref a2, .int 0])), (a2, .inl (g.2 1, 80, .inl (fun _ => 0))), (q17, .inl (g.2 0, 80, .inl (fun _ => 0)))] H := hP
  have hD : va_D A [(h0, .inr (0, [.ref a1, .null, .null, .null, .null, .null, .null, .null, .null, .int 0, .null, .int 0])), (a1, .inr (1, [.ref a2, .int 0])), (a2, .inl (g.2 1, 80, .inl (fun _ => 0))), (q17, .inl (g.2 0, 80, .inl (fun _ => 0)))] := hD
  refine va_putF (D := D) (ci := 0) (v := .ref q17) (ty := .array .int) (C := R_Tr) (T := T_Tr) (N := 12) hx hb hts in_Tr ty_Tr ty_Tr_ok nm_Tr hown hK hP hD hS 0 rfl rfl 1 (by decide) (hts _ gw131) (fun _ h9 => h9) rfl hin rfl (by decide +kernel) rfl rfl (Nat.le_of_ble_eq_true rfl) d_Tr_init_19 (fun H locs hP hD hS => ?_)
  have hP : va_P D vwCl [(h0, .inr (0, [.ref a1, .ref q17, .null, .null, .null, .null, .null, .null, .null, .int 0, .null, .int 0])), (a1, .inr (1, [.ref a2, .int 0])), (a2, .inl (g.2 1, 80, .inl (fun _ => 0))), (q17, .inl (g.2 0, 80, .inl (fun _ => 0)))] H := hP
  have hD : va_D A [(h0, .inr (0, [.ref a1, .ref q17, .null, .null, .null, .null, .null, .null, .null, .int 0, .null, .int 0])), (a1, .inr (1, [.ref a2, .int 0])), (a2, .inl (g.2 1, 80, .inl (fun _ => 0))), (q17, .inl (g.2 0, 80, .inl (fun _ => 0)))] := hD
  refine lv_aload_n hx hb d_Tr_init_22 rfl (lv_at hl 1 rfl) ?_
  refine lv_iload_n hx hb d_Tr_init_23 rfl (lv_at hl 0 rfl) ?_
  refine va_newa (atype := .int) (a0 := (80, .inl (fun _ => 0))) hx hb (hts _ gw96) rfl hK hP hD hS hA (fun _ => rfl) (by decide) (by decide) (by decide) (Nat.le_of_ble_eq_true rfl) (Nat.le_of_ble_eq_true rfl) d_Tr_init_24 (fun q24 cA H hK2 hP hD hS => ?_)
  have hcA : cA = g.2 0 := Option.some.inj ((hK2.2 4 (cA, .int) rfl).2.symm.trans (hK2.2 0 (g.2 0, .int) rfl).2)
  subst hcA
  clear hK2
  have hP : va_P D vwCl [(h0, .inr (0, [.ref a1, .ref q17, .null, .null, .null, .null, .null, .null, .null, .int 0, .null, .int 0])), (a1, .inr (1, [.ref a2, .int 0])), (a2, .inl (g.2 1, 80, .inl (fun _ => 0))), (q17, .inl (g.2 0, 80, .inl (fun _ => 0))), (q24, .inl (g.2 0, 80, .inl (fun _ => 0)))] H := hP
  have hD : va_D A [(h0, .inr (0, [.ref a1, .ref q17, .null, .null, .null, .null, .null, .null, .null, .int 0, .null, .int 0])), (a1, .inr (1, [.ref a2, .int 0])), (a2, .inl (g.2 1, 80, .inl (fun _ => 0))), (q17, .inl (g.2 0, 80, .inl (fun _ => 0))), (q24, .inl (g.2 0, 80, .inl (fun _ => 0)))] := hD
  refine va_putF (D := D) (ci := 0) (v := .ref q24) (ty := .array .int) (C := R_Tr) (T := T_Tr) (N := 12) hx hb hts in_Tr ty_Tr ty_Tr_ok nm_Tr hown hK hP hD hS 0 rfl rfl 2 (by decide) (hts _ gw138) (fun _ h9 => h9) rfl hin rfl (by decide +kernel) rfl rfl (Nat.le_of_ble_eq_true rfl) d_Tr_init_26 (fun H locs hP hD hS => ?_)
  have hP : va_P D vwCl [(h0, .inr (0, [.ref a1, .ref q17, .ref q24, .null, .null, .null, .null, .null, .null, .int 0, .null, .int 0])), (a1, .inr (1, [.ref a2, .int 0])), (a2, .inl (g.2 1, 80, .inl (fun _ => 0))), (q17, .inl (g.2 0, 80, .inl (fun _ => 0))), (q24, .inl (g.2 0, 80, .inl (fun _ => 0)))] H := hP
  have hD : va_D A [(h0, .inr (0, [.ref a1, .ref q17, .ref q24, .null, .null, .null, .null, .null, .null, .int 0, .null, .int 0])), (a1, .inr (1, [.ref a2, .int 0])), (a2, .inl (g.2 1, 80, .inl (fun _ => 0))), (q17, .inl (g.2 0, 80, .inl (fun _ => 0))), (q24, .inl (g.2 0, 80, .inl (fun _ => 0)))] := hD
  refine lv_aload_n hx hb d_Tr_init_29 rfl (lv_at hl 1 rfl) ?_
  refine lv_iload_n hx hb d_Tr_init_30 rfl (lv_at hl 0 rfl) ?_
  refine va_newa (atype := .int) (a0 := (80, .inl (fun _ => 0))) hx hb (hts _ gw96) rfl hK hP hD hS hA (fun _ => rfl) (by decide) (by decide) (by decide) (Nat.le_of_ble_eq_true rfl) (Nat.le_of_ble_eq_true rfl) d_Tr_init_31 (fun q31 cA H hK2 hP hD hS => ?_)
  have hcA : cA = g.2 0 := Option.some.inj ((hK2.2 4 (cA, .int) rfl).2.symm.trans (hK2.2 0 (g.2 0, .int) rfl).2)
  subst hcA
  clear hK2
  have hP : va_P D vwCl [(h0, .inr (0, [.ref a1, .ref q17, .ref q24, .null, .null, .null, .null, .null, .null, .int 0, .null, .int 0])), (a1, .inr (1, [.ref a2, .int 0])), (a2, .inl (g.2 1, 80, .inl (fun _ => 0))), (q17, .inl (g.2 0, 80, .inl (fun _ => 0))), (q24, .inl (g.2 0, 80, .inl (fun _ => 0))), (q31, .inl (g.2 0, 80, .inl (fun _ => 0)))] H := hP
  have hD : va_D A [(h0, .inr (0, [.ref a1, .ref q17, .ref q24, .null, .null, .null, .null, .null, .null, .int 0, .null, .int 0])), (a1, .inr (1, [.ref a2, .int 0])), (a2, .inl (g.2 1, 80, .inl (fun _ => 0))), (q17, .inl (g.2 0, 80, .inl (fun _ => 0))), (q24, .inl (g.2 0, 80, .inl (fun _ => 0))), (q31, .inl (g.2 0, 80, .inl (fun _ => 0)))] := hD
  refine va_putF (D := D) (ci := 0) (v := .ref q31) (ty := .array .int) (C := R_Tr) (T := T_Tr) (N := 12) hx hb hts in_Tr ty_Tr ty_Tr_ok nm_Tr hown hK hP hD hS 0 rfl rfl 3 (by decide) (hts _ gw143) (fun _ h9 => h9) rfl hin rfl (by decide +kernel) rfl rfl (Nat.le_of_ble_eq_true rfl) d_Tr_init_33 (fun H locs hP hD hS => ?_)
  have hP : va_P D vwCl [(h0, .inr (0, [.ref a1, .ref q17, .ref q24, .ref q31, .null, .null, .null, .null, .null, .int 0, .null, .int 0])), (a1, .inr (1, [.ref a2, .int 0])), (a2, .inl (g.2 1, 80, .inl (fun _ => 0))), (q17, .inl (g.2 0, 80, .inl (fun _ => 0))), (q24, .inl (g.2 0, 80, .inl (fun _ => 0))), (q31, .inl (g.2 0, 80, .inl (fun _ => 0)))] H := hP
  have hD : va_D A [(h0, .inr (0, [.ref a1, .ref q17, .ref q24, .ref q31, .null, .null, .null, .null, .null, .int 0, .null, .int 0])), (a1, .inr (1, [.ref a2, .int 0])), (a2, .inl (g.2 1, 80, .inl (fun _ => 0))), (q17, .inl (g.2 0, 80, .inl (fun _ => 0))), (q24, .inl (g.2 0, 80, .inl (fun _ => 0))), (q31, .inl (g.2 0, 80, .inl (fun _ => 0)))] := hD
  refine lv_aload_n hx hb d_Tr_init_36 rfl (lv_at hl 1 rfl) ?_
  refine lv_iload_n hx hb d_Tr_init_37 rfl (lv_at hl 0 rfl) ?_
  refine va_newa (atype := .int) (a0 := (80, .inl (fun _ => 0))) hx hb (hts _ gw96) rfl hK hP hD hS hA (fun _ => rfl) (by decide) (by decide) (by decide) (Nat.le_of_ble_eq_true rfl) (Nat.le_of_ble_eq_true rfl) d_Tr_init_38 (fun q38 cA H hK2 hP hD hS => ?_)
  have hcA : cA = g.2 0 := Option.some.inj ((hK2.2 4 (cA, .int) rfl).2.symm.trans (hK2.2 0 (g.2 0, .int) rfl).2)
  subst hcA
  clear hK2
  have hP : va_P D vwCl [(h0, .inr (0, [.ref a1, .ref q17, .ref q24, .ref q31, .null, .null, .null, .null, .null, .int 0, .null, .int 0])), (a1, .inr (1, [.ref a2, .int 0])), (a2, .inl (g.2 1, 80, .inl (fun _ => 0))), (q17, .inl (g.2 0, 80, .inl (fun _ => 0))), (q24, .inl (g.2 0, 80, .inl (fun _ => 0))), (q31, .inl (g.2 0, 80, .inl (fun _ => 0))), (q38, .inl (g.2 0, 80, .inl (fun _ => 0)))] H := hP
  have hD : va_D A [(h0, .inr (0, [.ref a1, .ref q17, .ref q24, .ref q31, .null, .null, .null, .null, .null, .int 0, .null, .int 0])), (a1, .inr (1, [.ref a2, .int 0])), (a2, .inl (g.2 1, 80, .inl (fun _ => 0))), (q17, .inl (g.2 0, 80, .inl (fun _ => 0))), (q24, .inl (g.2 0, 80, .inl (fun _ => 0))), (q31, .inl (g.2 0, 80, .inl (fun _ => 0))), (q38, .inl (g.2 0, 80, .inl (fun _ => 0)))] := hD
  refine va_putF (D := D) (ci := 0) (v := .ref q38) (ty := .array .int) (C := R_Tr) (T := T_Tr) (N := 12) hx hb hts in_Tr ty_Tr ty_Tr_ok nm_Tr hown hK hP hD hS 0 rfl rfl 4 (by decide) (hts _ gw145) (fun _ h9 => h9) rfl hin rfl (by decide +kernel) rfl rfl (Nat.le_of_ble_eq_true rfl) d_Tr_init_40 (fun H locs hP hD hS => ?_)
  have hP : va_P D vwCl [(h0, .inr (0, [.ref a1, .ref q17, .ref q24, .ref q31, .ref q38, .null, .null, .null, .null, .int 0, .null, .int 0])), (a1, .inr (1, [.ref a2, .int 0])), (a2, .inl (g.2 1, 80, .inl (fun _ => 0))), (q17, .inl (g.2 0, 80, .inl (fun _ => 0))), (q24, .inl (g.2 0, 80, .inl (fun _ => 0))), (q31, .inl (g.2 0, 80, .inl (fun _ => 0))), (q38, .inl (g.2 0, 80, .inl (fun _ => 0)))] H := hP
  have hD : va_D A [(h0, .inr (0, [.ref a1, .ref q17, .ref q24, .ref q31, .ref q38, .null, .null, .null, .null, .int 0, .null, .int 0])), (a1, .inr (1, [.ref a2, .int 0])), (a2, .inl (g.2 1, 80, .inl (fun _ => 0))), (q17, .inl (g.2 0, 80, .inl (fun _ => 0))), (q24, .inl (g.2 0, 80, .inl (fun _ => 0))), (q31, .inl (g.2 0, 80, .inl (fun _ => 0))), (q38, .inl (g.2 0, 80, .inl (fun _ => 0)))] := hD
  refine lv_aload_n hx hb d_Tr_init_43 rfl (lv_at hl 1 rfl) ?_
  refine lv_iload_n hx hb d_Tr_init_44 rfl (lv_at hl 0 rfl) ?_
  refine va_newa (atype := .int) (a0 := (80, .inl (fun _ => 0))) hx hb (hts _ gw96) rfl hK hP hD hS hA (fun _ => rfl) (by decide) (by decide) (by decide) (Nat.le_of_ble_eq_true rfl) (Nat.le_of_ble_eq_true rfl) d_Tr_init_45 (fun q45 cA H hK2 hP hD hS => ?_)
  have hcA : cA = g.2 0 := Option.some.inj ((hK2.2 4 (cA, .int) rfl).2.symm.trans (hK2.2 0 (g.2 0, .int) rfl).2)
  subst hcA
  clear hK2
  have hP : va_P D vwCl [(h0, .inr (0, [.ref a1, .ref q17, .ref q24, .ref q31, .ref q38, .null, .null, .null, .null, .int 0, .null, .int 0])), (a1, .inr (1, [.ref a2, .int 0])), (a2, .inl (g.2 1, 80, .inl (fun _ => 0))), (q17, .inl (g.2 0, 80, .inl (fun _ => 0))), (q24, .inl (g.2 0, 80, .inl (fun _ => 0))), (q31, .inl (g.2 0, 80, .inl (fun _ => 0))), (q38, .inl (g.2 0, 80, .inl (fun _ => 0))), (q45, .inl (g.2 0, 80, .inl (fun _ => 0)))] H := hP
  have hD : va_D A [(h0, .inr (0, [.ref a1, .ref q17, .ref q24, .ref q31, .ref q38, .null, .null, .null, .null, .int 0, .null, .int 0])), (a1, .inr (1, [.ref a2, .int 0])), (a2, .inl (g.2 1, 80, .inl (fun _ => 0))), (q17, .inl (g.2 0, 80, .inl (fun _ => 0))), (q24, .inl (g.2 0, 80, .inl (fun _ => 0))), (q31, .inl (g.2 0, 80, .inl (fun _ => 0))), (q38, .inl (g.2 0, 80, .inl (fun _ => 0))), (q45, .inl (g.2 0, 80, .inl (fun _ => 0)))] := hD
  refine va_putF (D := D) (ci := 0) (v := .ref q45) (ty := .array .int) (C := R_Tr) (T := T_Tr) (N := 12) hx hb hts in_Tr ty_Tr ty_Tr_ok nm_Tr hown hK hP hD hS 0 rfl rfl 5 (by decide) (hts _ gw148) (fun _ h9 => h9) rfl hin rfl (by decide +kernel) rfl rfl (Nat.le_of_ble_eq_true rfl) d_Tr_init_47 (fun H locs hP hD hS => ?_)
  have hP : va_P D vwCl [(h0, .inr (0, [.ref a1, .ref q17, .ref q24, .ref q31, .ref q38, .ref q45, .null, .null, .null, .int 0, .null, .int 0])), (a1, .inr (1, [.ref a2, .int 0])), (a2, .inl (g.2 1, 80, .inl (fun _ => 0))), (q17, .inl (g.2 0, 80, .inl (fun _ => 0))), (q24, .inl (g.2 0, 80, .inl (fun _ => 0))), (q31, .inl (g.2 0, 80, .inl (fun _ => 0))), (q38, .inl (g.2 0, 80, .inl (fun _ => 0))), (q45, .inl (g.2 0, 80, .inl (fun _ => 0)))] H := hP
  have hD : va_D A [(h0, .inr (0, [.ref a1, .ref q17, .ref q24, .ref q31, .ref q38, .ref q45, .null, .null, .null, .int 0, .null, .int 0])), (a1, .inr (1, [.ref a2, .int 0])), (a2, .inl (g.2 1, 80, .inl (fun _ => 0))), (q17, .inl (g.2 0, 80, .inl (fun _ => 0))), (q24, .inl (g.2 0, 80, .inl (fun _ => 0))), (q31, .inl (g.2 0, 80, .inl (fun _ => 0))), (q38, .inl (g.2 0, 80, .inl (fun _ => 0))), (q45, .inl (g.2 0, 80, .inl (fun _ => 0)))] := hD
  refine lv_aload_n hx hb d_Tr_init_50 rfl (lv_at hl 1 rfl) ?_
  refine lv_iload_n hx hb d_Tr_init_51 rfl (lv_at hl 0 rfl) ?_
  refine va_newa (atype := .int) (a0 := (80, .inl (fun _ => 0))) hx hb (hts _ gw96) rfl hK hP hD hS hA (fun _ => rfl) (by decide) (by decide) (by decide) (Nat.le_of_ble_eq_true rfl) (Nat.le_of_ble_eq_true rfl) d_Tr_init_52 (fun q52 cA H hK2 hP hD hS => ?_)
  have hcA : cA = g.2 0 := Option.some.inj ((hK2.2 4 (cA, .int) rfl).2.symm.trans (hK2.2 0 (g.2 0, .int) rfl).2)
  subst hcA
  clear hK2
  have hP : va_P D vwCl [(h0, .inr (0, [.ref a1, .ref q17, .ref q24, .ref q31, .ref q38, .ref q45, .null, .null, .null, .int 0, .null, .int 0])), (a1, .inr (1, [.ref a2, .int 0])), (a2, .inl (g.2 1, 80, .inl (fun _ => 0))), (q17, .inl (g.2 0, 80, .inl (fun _ => 0))), (q24, .inl (g.2 0, 80, .inl (fun _ => 0))), (q31, .inl (g.2 0, 80, .inl (fun _ => 0))), (q38, .inl (g.2 0, 80, .inl (fun _ => 0))), (q45, .inl (g.2 0, 80, .inl (fun _ => 0))), (q52, .inl (g.2 0, 80, .inl (fun _ => 0)))] H := hP
  have hD : va_D A [(h0, .inr (0, [.ref a1, .ref q17, .ref q24, .ref q31, .ref q38, .ref q45, .null, .null, .null, .int 0, .null, .int 0])), (a1, .inr (1, [.ref a2, .int 0])), (a2, .inl (g.2 1, 80, .inl (fun _ => 0))), (q17, .inl (g.2 0, 80, .inl (fun _ => 0))), (q24, .inl (g.2 0, 80, .inl (fun _ => 0))), (q31, .inl (g.2 0, 80, .inl (fun _ => 0))), (q38, .inl (g.2 0, 80, .inl (fun _ => 0))), (q45, .inl (g.2 0, 80, .inl (fun _ => 0))), (q52, .inl (g.2 0, 80, .inl (fun _ => 0)))] := hD
  refine va_putF (D := D) (ci := 0) (v := .ref q52) (ty := .array .int) (C := R_Tr) (T := T_Tr) (N := 12) hx hb hts in_Tr ty_Tr ty_Tr_ok nm_Tr hown hK hP hD hS 0 rfl rfl 6 (by decide) (hts _ gw154) (fun _ h9 => h9) rfl hin rfl (by decide +kernel) rfl rfl (Nat.le_of_ble_eq_true rfl) d_Tr_init_54 (fun H locs hP hD hS => ?_)
  have hP : va_P D vwCl [(h0, .inr (0, [.ref a1, .ref q17, .ref q24, .ref q31, .ref q38, .ref q45, .ref q52, .null, .null, .int 0, .null, .int 0])), (a1, .inr (1, [.ref a2, .int 0])), (a2, .inl (g.2 1, 80, .inl (fun _ => 0))), (q17, .inl (g.2 0, 80, .inl (fun _ => 0))), (q24, .inl (g.2 0, 80, .inl (fun _ => 0))), (q31, .inl (g.2 0, 80, .inl (fun _ => 0))), (q38, .inl (g.2 0, 80, .inl (fun _ => 0))), (q45, .inl (g.2 0, 80, .inl (fun _ => 0))), (q52, .inl (g.2 0, 80, .inl (fun _ => 0)))] H := hP
  have hD : va_D A [(h0, .inr (0, [.ref a1, .ref q17, .ref q24, .ref q31, .ref q38, .ref q45, .ref q52, .null, .null, .int 0, .null, .int 0])), (a1, .inr (1, [.ref a2, .int 0])), (a2, .inl (g.2 1, 80, .inl (fun _ => 0))), (q17, .inl (g.2 0, 80, .inl (fun _ => 0))), (q24, .inl (g.2 0, 80, .inl (fun _ => 0))), (q31, .inl (g.2 0, 80, .inl (fun _ => 0))), (q38, .inl (g.2 0, 80, .inl (fun _ => 0))), (q45, .inl (g.2 0, 80, .inl (fun _ => 0))), (q52, .inl (g.2 0, 80, .inl (fun _ => 0)))] := hD
  refine lv_aload_n hx hb d_Tr_init_57 rfl (lv_at hl 1 rfl) ?_
  refine lv_iload_n hx hb d_Tr_init_58 rfl (lv_at hl 0 rfl) ?_
  refine va_newa (atype := .int) (a0 := (80, .inl (fun _ => 0))) hx hb (hts _ gw96) rfl hK hP hD hS hA (fun _ => rfl) (by decide) (by decide) (by decide) (Nat.le_of_ble_eq_true rfl) (Nat.le_of_ble_eq_true rfl) d_Tr_init_59 (fun q59 cA H hK2 hP hD hS => ?_)
  have hcA : cA = g.2 0 := Option.some.inj ((hK2.2 4 (cA, .int) rfl).2.symm.trans (hK2.2 0 (g.2 0, .int) rfl).2)
  subst hcA
  clear hK2
  have hP : va_P D vwCl [(h0, .inr (0, [.ref a1, .ref q17, .ref q24, .ref q31, .ref q38, .ref q45, .ref q52, .null, .null, .int 0, .null, .int 0])), (a1, .inr (1, [.ref a2, .int 0])), (a2, .inl (g.2 1, 80, .inl (fun _ => 0))), (q17, .inl (g.2 0, 80, .inl (fun _ => 0))), (q24, .inl (g.2 0, 80, .inl (fun _ => 0))), (q31, .inl (g.2 0, 80, .inl (fun _ => 0))), (q38, .inl (g.2 0, 80, .inl (fun _ => 0))), (q45, .inl (g.2 0, 80, .inl (fun _ => 0))), (q52, .inl (g.2 0, 80, .inl (fun _ => 0))), (q59, .inl (g.2 0, 80, .inl (fun _ => 0)))] H := hP
  have hD : va_D A [(h0, .inr (0, [.ref a1, .ref q17, .ref q24, .ref q31, .ref q38, .ref q45, .ref q52, .null, .null, .int 0, .null, .int 0])), (a1, .inr (1, [.ref a2, .int 0])), (a2, .inl (g.2 1, 80, .inl (fun _ => 0))), (q17, .inl (g.2 0, 80, .inl (fun _ => 0))), (q24, .inl (g.2 0, 80, .inl (fun _ => 0))), (q31, .inl (g.2 0, 80, .inl (fun _ => 0))), (q38, .inl (g.2 0, 80, .inl (fun _ => 0))), (q45, .inl (g.2 0, 80, .inl (fun _ => 0))), (q52, .inl (g.2 0, 80, .inl (fun _ => 0))), (q59, .inl (g.2 0, 80, .inl (fun _ => 0)))] := hD
  refine va_putF (D := D) (ci := 0) (v := .ref q59) (ty := .array .int) (C := R_Tr) (T := T_Tr) (N := 12) hx hb hts in_Tr ty_Tr ty_Tr_ok nm_Tr hown hK hP hD hS 0 rfl rfl 7 (by decide) (hts _ gw159) (fun _ h9 => h9) rfl hin rfl (by decide +kernel) rfl rfl (Nat.le_of_ble_eq_true rfl) d_Tr_init_61 (fun H locs hP hD hS => ?_)
  have hP : va_P D vwCl [(h0, .inr (0, [.ref a1, .ref q17, .ref q24, .ref q31, .ref q38, .ref q45, .ref q52, .ref q59, .null, .int 0, .null, .int 0])), (a1, .inr (1, [.ref a2, .int 0])), (a2, .inl (g.2 1, 80, .inl (fun _ => 0))), (q17, .inl (g.2 0, 80, .inl (fun _ => 0))), (q24, .inl (g.2 0, 80, .inl (fun _ => 0))), (q31, .inl (g.2 0, 80, .inl (fun _ => 0))), (q38, .inl (g.2 0, 80, .inl (fun _ => 0))), (q45, .inl (g.2 0, 80, .inl (fun _ => 0))), (q52, .inl (g.2 0, 80, .inl (fun _ => 0))), (q59, .inl (g.2 0, 80, .inl (fun _ => 0)))] H := hP
  have hD : va_D A [(h0, .inr (0, [.ref a1, .ref q17, .ref q24, .ref q31, .ref q38, .ref q45, .ref q52, .ref q59, .null, .int 0, .null, .int 0])), (a1, .inr (1, [.ref a2, .int 0])), (a2, .inl (g.2 1, 80, .inl (fun _ => 0))), (q17, .inl (g.2 0, 80, .inl (fun _ => 0))), (q24, .inl (g.2 0, 80, .inl (fun _ => 0))), (q31, .inl (g.2 0, 80, .inl (fun _ => 0))), (q38, .inl (g.2 0, 80, .inl (fun _ => 0))), (q45, .inl (g.2 0, 80, .inl (fun _ => 0))), (q52, .inl (g.2 0, 80, .inl (fun _ => 0))), (q59, .inl (g.2 0, 80, .inl (fun _ => 0)))] := hD
  refine lv_aload_n hx hb d_Tr_init_64 rfl (lv_at hl 1 rfl) ?_
  refine lv_iload_n hx hb d_Tr_init_65 rfl (lv_at hl 0 rfl) ?_
  refine va_newa (atype := .int) (a0 := (80, .inl (fun _ => 0))) hx hb (hts _ gw96) rfl hK hP hD hS hA (fun _ => rfl) (by decide) (by decide) (by decide) (Nat.le_of_ble_eq_true rfl) (Nat.le_of_ble_eq_true rfl) d_Tr_init_66 (fun q66 cA H hK2 hP hD hS => ?_)
  have hcA : cA = g.2 0 := Option.some.inj ((hK2.2 4 (cA, .int) rfl).2.symm.trans (hK2.2 0 (g.2 0, .int) rfl).2)
  subst hcA
  clear hK2
  have hP : va_P D vwCl [(h0, .inr (0, [.ref a1, .ref q17, .ref q24, .ref q31, .ref q38, .ref q45, .ref q52, .ref q59, .null, .int 0, .null, .int 0])), (a1, .inr (1, [.ref a2, .int 0])), (a2, .inl (g.2 1, 80, .inl (fun _ => 0))), (q17, .inl (g.2 0, 80, .inl (fun _ => 0))), (q24, .inl (g.2 0, 80, .inl (fun _ => 0))), (q31, .inl (g.2 0, 80, .inl (fun _ => 0))), (q38, .inl (g.2 0, 80, .inl (fun _ => 0))), (q45, .inl (g.2 0, 80, .inl (fun _ => 0))), (q52, .inl (g.2 0, 80, .inl (fun _ => 0))), (q59, .inl (g.2 0, 80, .inl (fun _ => 0))), (q66, .inl (g.2 0, 80, .inl (fun _ => 0)))] H := hP
  have hD : va_D A [(h0, .inr (0, [.ref a1, .ref q17, .ref q24, .ref q31, .ref q38, .ref q45, .ref q52, .ref q59, .null, .int 0, .null, .int 0])), (a1, .inr (1, [.ref a2, .int 0])), (a2, .inl (g.2 1, 80, .inl (fun _ => 0))), (q17, .inl (g.2 0, 80, .inl (fun _ => 0))), (q24, .inl (g.2 0, 80, .inl (fun _ => 0))), (q31, .inl (g.2 0, 80, .inl (fun _ => 0))), (q38, .inl (g.2 0, 80, .inl (fun _ => 0))), (q45, .inl (g.2 0, 80, .inl (fun _ => 0))), (q52, .inl (g.2 0, 80, .inl (fun _ => 0))), (q59, .inl (g.2 0, 80, .inl (fun _ => 0))), (q66, .inl (g.2 0, 80, .inl (fun _ => 0)))] := hD
  refine va_putF (D := D) (ci := 0) (v := .ref q66) (ty := .array .int) (C := R_Tr) (T := T_Tr) (N := 12) hx hb hts in_Tr ty_Tr ty_Tr_ok nm_Tr hown hK hP hD hS 0 rfl rfl 8 (by decide) (hts _ gw163) (fun _ h9 => h9) rfl hin rfl (by decide +kernel) rfl rfl (Nat.le_of_ble_eq_true rfl) d_Tr_init_68 (fun H locs hP hD hS => ?_)
  have hP : va_P D vwCl [(h0, .inr (0, [.ref a1, .ref q17, .ref q24, .ref q31, .ref q38, .ref q45, .ref q52, .ref q59, .ref q66, .int 0, .null, .int 0])), (a1, .inr (1, [.ref a2, .int 0])), (a2, .inl (g.2 1, 80, .inl (fun _ => 0))), (q17, .inl (g.2 0, 80, .inl (fun _ => 0))), (q24, .inl (g.2 0, 80, .inl (fun _ => 0))), (q31, .inl (g.2 0, 80, .inl (fun _ => 0))), (q38, .inl (g.2 0, 80, .inl (fun _ => 0))), (q45, .inl (g.2 0, 80, .inl (fun _ => 0))), (q52, .inl (g.2 0, 80, .inl (fun _ => 0))), (q59, .inl (g.2 0, 80, .inl (fun _ => 0))), (q66, .inl (g.2 0, 80, .inl (fun _ => 0)))] H := hP
  have hD : va_D A [(h0, .inr (0, [.ref a1, .ref q17, .ref q24, .ref q31, .ref q38, .ref q45, .ref q52, .ref q59, .ref q66, .int 0, .null, .int 0])), (a1, .inr (1, [.ref a2, .int 0])), (a2, .inl (g.2 1, 80, .inl (fun _ => 0))), (q17, .inl (g.2 0, 80, .inl (fun _ => 0))), (q24, .inl (g.2 0, 80, .inl (fun _ => 0))), (q31, .inl (g.2 0, 80, .inl (fun _ => 0))), (q38, .inl (g.2 0, 80, .inl (fun _ => 0))), (q45, .inl (g.2 0, 80, .inl (fun _ => 0))), (q52, .inl (g.2 0, 80, .inl (fun _ => 0))), (q59, .inl (g.2 0, 80, .inl (fun _ => 0))), (q66, .inl (g.2 0, 80, .inl (fun _ => 0)))] := hD
  refine lv_aload_n hx hb d_Tr_init_71 rfl (lv_at hl 1 rfl) ?_
  refine lv_iconst (v := (3 : Int32)) hx hb d_Tr_init_72 (by decide) ?_
  refine lv_iload_n hx hb d_Tr_init_73 rfl (lv_at hl 0 rfl) ?_
  refine lv_imul hx hb d_Tr_init_74 ?_
  refine va_newa (atype := .int) (a0 := (240, .inl (fun _ => 0))) hx hb (hts _ gw96) rfl hK hP hD hS hA (fun _ => rfl) (by decide) (by decide) (by decide) (Nat.le_of_ble_eq_true rfl) (Nat.le_of_ble_eq_true rfl) d_Tr_init_75 (fun q75 cA H hK2 hP hD hS => ?_)
  have hcA : cA = g.2 0 := Option.some.inj ((hK2.2 4 (cA, .int) rfl).2.symm.trans (hK2.2 0 (g.2 0, .int) rfl).2)
  subst hcA
  clear hK2
  have hP : va_P D vwCl [(h0, .inr (0, [.ref a1, .ref q17, .ref q24, .ref q31, .ref q38, .ref q45, .ref q52, .ref q59, .ref q66, .int 0, .null, .int 0])), (a1, .inr (1, [.ref a2, .int 0])), (a2, .inl (g.2 1, 80, .inl (fun _ => 0))), (q17, .inl (g.2 0, 80, .inl (fun _ => 0))), (q24, .inl (g.2 0, 80, .inl (fun _ => 0))), (q31, .inl (g.2 0, 80, .inl (fun _ => 0))), (q38, .inl (g.2 0, 80, .inl (fun _ => 0))), (q45, .inl (g.2 0, 80, .inl (fun _ => 0))), (q52, .inl (g.2 0, 80, .inl (fun _ => 0))), (q59, .inl (g.2 0, 80, .inl (fun _ => 0))), (q66, .inl (g.2 0, 80, .inl (fun _ => 0))), (q75, .inl (g.2 0, 240, .inl (fun _ => 0)))] H := hP
  have hD : va_D A [(h0, .inr (0, [.ref a1, .ref q17, .ref q24, .ref q31, .ref q38, .ref q45, .ref q52, .ref q59, .ref q66, .int 0, .null, .int 0])), (a1, .inr (1, [.ref a2, .int 0])), (a2, .inl (g.2 1, 80, .inl (fun _ => 0))), (q17, .inl (g.2 0, 80, .inl (fun _ => 0))), (q24, .inl (g.2 0, 80, .inl (fun _ => 0))), (q31, .inl (g.2 0, 80, .inl (fun _ => 0))), (q38, .inl (g.2 0, 80, .inl (fun _ => 0))), (q45, .inl (g.2 0, 80, .inl (fun _ => 0))), (q52, .inl (g.2 0, 80, .inl (fun _ => 0))), (q59, .inl (g.2 0, 80, .inl (fun _ => 0))), (q66, .inl (g.2 0, 80, .inl (fun _ => 0))), (q75, .inl (g.2 0, 240, .inl (fun _ => 0)))] := hD
  refine va_putF (D := D) (ci := 0) (v := .ref q75) (ty := .array .int) (C := R_Tr) (T := T_Tr) (N := 12) hx hb hts in_Tr ty_Tr ty_Tr_ok nm_Tr hown hK hP hD hS 0 rfl rfl 10 (by decide) (hts _ gw173) (fun _ h9 => h9) rfl hin rfl (by decide +kernel) rfl rfl (Nat.le_of_ble_eq_true rfl) d_Tr_init_77 (fun H locs hP hD hS => ?_)
  have hP : va_P D vwCl [(h0, .inr (0, [.ref a1, .ref q17, .ref q24, .ref q31, .ref q38, .ref q45, .ref q52, .ref q59, .ref q66, .int 0, .ref q75, .int 0])), (a1, .inr (1, [.ref a2, .int 0])), (a2, .inl (g.2 1, 80, .inl (fun _ => 0))), (q17, .inl (g.2 0, 80, .inl (fun _ => 0))), (q24, .inl (g.2 0, 80, .inl (fun _ => 0))), (q31, .inl (g.2 0, 80, .inl (fun _ => 0))), (q38, .inl (g.2 0, 80, .inl (fun _ => 0))), (q45, .inl (g.2 0, 80, .inl (fun _ => 0))), (q52, .inl (g.2 0, 80, .inl (fun _ => 0))), (q59, .inl (g.2 0, 80, .inl (fun _ => 0))), (q66, .inl (g.2 0, 80, .inl (fun _ => 0))), (q75, .inl (g.2 0, 240, .inl (fun _ => 0)))] H := hP
  have hD : va_D A [(h0, .inr (0, [.ref a1, .ref q17, .ref q24, .ref q31, .ref q38, .ref q45, .ref q52, .ref q59, .ref q66, .int 0, .ref q75, .int 0])), (a1, .inr (1, [.ref a2, .int 0])), (a2, .inl (g.2 1, 80, .inl (fun _ => 0))), (q17, .inl (g.2 0, 80, .inl (fun _ => 0))), (q24, .inl (g.2 0, 80, .inl (fun _ => 0))), (q31, .inl (g.2 0, 80, .inl (fun _ => 0))), (q38, .inl (g.2 0, 80, .inl (fun _ => 0))), (q45, .inl (g.2 0, 80, .inl (fun _ => 0))), (q52, .inl (g.2 0, 80, .inl (fun _ => 0))), (q59, .inl (g.2 0, 80, .inl (fun _ => 0))), (q66, .inl (g.2 0, 80, .inl (fun _ => 0))), (q75, .inl (g.2 0, 240, .inl (fun _ => 0)))] := hD
  have hP9 := hP.sub (ws' := [(h0, .inr (0, [.ref a1, .ref q17, .ref q24, .ref q31, .ref q38, .ref q45, .ref q52, .ref q59, .ref q66, .int 0, .ref q75, .int 0])), (a1, .inr (1, [.ref a2, .int 0])), (a2, .inl (g.2 1, 80, .inl (fun _ => 0))), (q17, .inl (g.2 0, 80, .inl (fun _ => 0))), (q24, .inl (g.2 0, 80, .inl (fun _ => 0))), (q31, .inl (g.2 0, 80, .inl (fun _ => 0))), (q38, .inl (g.2 0, 80, .inl (fun _ => 0))), (q45, .inl (g.2 0, 80, .inl (fun _ => 0))), (q52, .inl (g.2 0, 80, .inl (fun _ => 0))), (q59, .inl (g.2 0, 80, .inl (fun _ => 0))), (q66, .inl (g.2 0, 80, .inl (fun _ => 0))), (q75, .inl (g.2 0, 240, .inl (fun _ => 0)))]) [0, 1, 2, 3, 4, 5, 6, 7, 8, 9, 10, 11] rfl
  have hD9 := hD.sub (ws' := [(h0, .inr (0, [.ref a1, .ref q17, .ref q24, .ref q31, .ref q38, .ref q45, .ref q52, .ref q59, .ref q66, .int 0, .ref q75, .int 0])), (a1, .inr (1, [.ref a2, .int 0])), (a2, .inl (g.2 1, 80, .inl (fun _ => 0))), (q17, .inl (g.2 0, 80, .inl (fun _ => 0))), (q24, .inl (g.2 0, 80, .inl (fun _ => 0))), (q31, .inl (g.2 0, 80, .inl (fun _ => 0))), (q38, .inl (g.2 0, 80, .inl (fun _ => 0))), (q45, .inl (g.2 0, 80, .inl (fun _ => 0))), (q52, .inl (g.2 0, 80, .inl (fun _ => 0))), (q59, .inl (g.2 0, 80, .inl (fun _ => 0))), (q66, .inl (g.2 0, 80, .inl (fun _ => 0))), (q75, .inl (g.2 0, 240, .inl (fun _ => 0)))]) [0, 1, 2, 3, 4, 5, 6, 7, 8, 9, 10, 11] (by decide) rfl
  refine W.widen (k := 9) (n := 880) (Nat.le_of_ble_eq_true rfl) (Nat.le_of_ble_eq_true rfl) ?_
  exact W.vret hx hb hr (fun t ht _ => ⟨⟨(fun k => match k with | 0 => q17 | 1 => q24 | 2 => q31 | 3 => q38 | 4 => q45 | 5 => q52 | 6 => q59 | 7 => q66 | 8 => q75 | _ => 0), rfl, trivial, by rw [ht]; exact hP9, hD9⟩, hS.F ht⟩) hS.2.2 d_Tr_init_80 hlocks
abbrev k_Rd_init : ByteArray := prog_5_method_1_code
abbrev y_Rd_init : MethodName := ⟨"SchemaDesk$Reader", "<init>", "(LSchemaDesk$Tree;LSchemaDesk$WordBook;)V"⟩
theorem d_Rd_init_0 : decode k_Rd_init 0 = .ok (.aload_n 0, 1) := by decide +kernel
theorem d_Rd_init_1 : decode k_Rd_init 1 = .ok (.invokespecial 3, 3) := by decide +kernel
theorem d_Rd_init_4 : decode k_Rd_init 4 = .ok (.aload_n 0, 1) := by decide +kernel
theorem d_Rd_init_5 : decode k_Rd_init 5 = .ok (.aload_n 1, 1) := by decide +kernel
theorem d_Rd_init_6 : decode k_Rd_init 6 = .ok (.putfield 9, 3) := by decide +kernel
theorem d_Rd_init_9 : decode k_Rd_init 9 = .ok (.aload_n 0, 1) := by decide +kernel
theorem d_Rd_init_10 : decode k_Rd_init 10 = .ok (.aload_n 1, 1) := by decide +kernel
theorem d_Rd_init_11 : decode k_Rd_init 11 = .ok (.getfield 15, 3) := by decide +kernel
theorem d_Rd_init_14 : decode k_Rd_init 14 = .ok (.putfield 21, 3) := by decide +kernel
theorem d_Rd_init_17 : decode k_Rd_init 17 = .ok (.aload_n 0, 1) := by decide +kernel
theorem d_Rd_init_18 : decode k_Rd_init 18 = .ok (.aload_n 2, 1) := by decide +kernel
theorem d_Rd_init_19 : decode k_Rd_init 19 = .ok (.putfield 22, 3) := by decide +kernel
theorem d_Rd_init_22 : decode k_Rd_init 22 = .ok (.return_, 1) := by decide +kernel
theorem gw207 : (Jvm.Cond.methodLink "SchemaDesk$Reader" (3 : Nat) ({ cls := "java/lang/Object", name := "<init>", desc := "()V" } : Jvm.MethodName)) ∈ GW := gw_t1 (List.mem_of_getElem? (i := 207) rfl) rfl
theorem gw125 : (Jvm.Cond.fieldLink "SchemaDesk$Reader" (15 : Nat) "SchemaDesk$Tree" "text" "LSchemaDesk$Text;") ∈ GW := gw_t1 (List.mem_of_getElem? (i := 125) rfl) rfl
set_option maxRecDepth 100000 in
set_option maxHeartbeats 4000000 in
theorem c_Rd_init (l : Launch) {D : va_G} {g : Gm} (h0 a1 a2 t0 t1 t2 t3 t4 t5 t6 t7 t8 t10 sz : Nat) : Met l y_Rd_init (.code y_Rd_init k_Rd_init 3 none :: GW) { frames := 1, cells := 0, slots := 0, locals := 12 } (va_Pc [.ref h0, .ref a1, .ref a2] (fun U => U.heap.size = sz ∧ va_P D vwCl [(h0, .inr (2, [.null, .int 0, .null, .null, .int 0])), (a1, .inr (0, [.ref t0, .ref t1, .ref t2, .ref t3, .ref t4, .ref t5, .ref t6, .ref t7, .ref t8, .int 0, .ref t10, .int 0]))] U.heap ∧ va_K D vwCl (TYS g) U ∧ va_D (fun _ => True) [(h0, .inr (2, [.null, .int 0, .null, .null, .int 0])), (a1, .inr (0, [.ref t0, .ref t1, .ref t2, .ref t3, .ref t4, .ref t5, .ref t6, .ref t7, .ref t8, .int 0, .ref t10, .int 0]))] ∧ nestW U)) (va_Qv (S := Nat → Nat) (fun _ => True) (fun u t => va_P D vwCl [(h0, .inr (2, [.ref a1, .int 0, .ref t0, .ref a2, .int 0])), (a1, .inr (0, [.ref t0, .ref t1, .ref t2, .ref t3, .ref t4, .ref t5, .ref t6, .ref t7, .ref t8, .int 0, .ref t10, .int 0]))] t.heap ∧ va_D (va_A [(h0, .inr (2, [.null, .int 0, .null, .null, .int 0])), (a1, .inr (0, [.ref t0, .ref t1, .ref t2, .ref t3, .ref t4, .ref t5, .ref t6, .ref t7, .ref t8, .int 0, .ref t10, .int 0]))] sz) [(h0, .inr (2, [.ref a1, .int 0, .ref t0, .ref a2, .int 0])), (a1, .inr (0, [.ref t0, .ref t1, .ref t2, .ref t3, .ref t4, .ref t5, .ref t6, .ref t7, .ref t8, .int 0, .ref t10, .int 0]))]) (va_A [(h0, .inr (2, [.null, .int 0, .null, .null, .int 0])), (a1, .inr (0, [.ref t0, .ref t1, .ref t2, .ref t3, .ref t4, .ref t5, .ref t6, .ref t7, .ref t8, .int 0, .ref t10, .int 0]))] sz)) 0 0 (va_A [(h0, .inr (2, [.null, .int 0, .null, .null, .int 0])), (a1, .inr (0, [.ref t0, .ref t1, .ref t2, .ref t3, .ref t4, .ref t5, .ref t6, .ref t7, .ref t8, .int 0, .ref t10, .int 0]))] sz) := by
  refine Met.ofW (cc := k_Rd_init) (maxL := 3) (ret := none) (by decide) rfl ?_
  intro p e s m args below meth c s₁ B hml hv
  obtain ⟨rfl, hsz, hP, hK, hD0, hNw⟩ := hv
  have hx := B.exec
  have hb := B.bytes
  have hr := B.returns
  have hts0 := atoms_spec (ws := .code y_Rd_init k_Rd_init 3 none :: GW) B.pre
  have hts : ∀ w ∈ GW, w.before _ s = true := fun w h => hts0 w (List.mem_cons_of_mem _ h)
  have hown : s.vm.findClass R_Rd = some m.cls := findClass_of_methodNamed B.named
  have hlocks := B.notSynchronized
  have hin : meth.name = "<init>" := (name_of_methodNamed B.named B.method).1
  subst hsz
  have hD := hD0.self (sz := s.heap.size)
  generalize hAe : va_A [(h0, .inr (2, [.null, .int 0, .null, .null, .int 0])), (a1, .inr (0, [.ref t0, .ref t1, .ref t2, .ref t3, .ref t4, .ref t5, .ref t6, .ref t7, .ref t8, .int 0, .ref t10, .int 0]))] s.heap.size = A at hD ⊢
  have hA : ∀ q : Nat, s.heap.size ≤ q → A q := fun q h => by rw [← hAe]; exact Or.inr h
  have hS : va_S A s.heap s.heap [] := va_S.rf
  have hP : va_P D vwCl [(h0, .inr (2, [.null, .int 0, .null, .null, .int 0])), (a1, .inr (0, [.ref t0, .ref t1, .ref t2, .ref t3, .ref t4, .ref t5, .ref t6, .ref t7, .ref t8, .int 0, .ref t10, .int 0]))] s.heap := hP
  have hl := lv_entry ([.ref h0, .ref a1, .ref a2]) (n := 3) (Nat.le_of_ble_eq_true rfl)
  rw [lg_entry_eq]
  generalize (lg_sl ([.ref h0, .ref a1, .ref a2]) ++ List.replicate (3 - (lg_sl ([.ref h0, .ref a1, .ref a2])).length) Slot.unset).toArray = ls at hl ⊢
  have hl : lv_has ls 3 [(0, .ref h0), (1, .ref a1), (2, .ref a2)] := hl
  refine lv_aload_n hx hb d_Rd_init_0 rfl (lv_at hl 0 rfl) ?_
  refine W.objInit hx hb hown (hts _ gw207) (hts _ gw33) (hts _ gw34) rfl (by rw [hml]; exact hl.1) rfl d_Rd_init_1 (Nat.le_of_ble_eq_true rfl) (Nat.le_of_ble_eq_true rfl) ?_
  refine W.eq (g2 := F0 m 4 ls []) rfl ?_
  refine lv_aload_n hx hb d_Rd_init_4 rfl (lv_at hl 0 rfl) ?_
  refine lv_aload_n hx hb d_Rd_init_5 rfl (lv_at hl 1 rfl) ?_
  refine va_putF (D := D) (ci := 2) (v := .ref a1) (ty := .object "SchemaDesk$Tree") (C := R_Rd) (T := T_Rd) (N := 5) hx hb hts in_Rd ty_Rd ty_Rd_ok nm_Rd hown hK hP hD hS 0 rfl rfl 0 (by decide) (hts _ gw208) (fun _ h9 => h9) rfl hin rfl (by decide +kernel) rfl rfl (Nat.le_of_ble_eq_true rfl) d_Rd_init_6 (fun H locs hP hD hS => ?_)
  have hP : va_P D vwCl [(h0, .inr (2, [.ref a1, .int 0, .null, .null, .int 0])), (a1, .inr (0, [.ref t0, .ref t1, .ref t2, .ref t3, .ref t4, .ref t5, .ref t6, .ref t7, .ref t8, .int 0, .ref t10, .int 0]))] H := hP
  have hD : va_D A [(h0, .inr (2, [.ref a1, .int 0, .null, .null, .int 0])), (a1, .inr (0, [.ref t0, .ref t1, .ref t2, .ref t3, .ref t4, .ref t5, .ref t6, .ref t7, .ref t8, .int 0, .ref t10, .int 0]))] := hD
  refine lv_aload_n hx hb d_Rd_init_9 rfl (lv_at hl 0 rfl) ?_
  refine lv_aload_n hx hb d_Rd_init_10 rfl (lv_at hl 1 rfl) ?_
  refine va_get (D := D) (ci := 0) (v := .ref t0) (C := R_Tr) (T := T_Tr) (N := 12) hx hb hts in_Tr hown hK hP 1 rfl rfl 0 (by decide) (hts _ gw125) (fun _ h9 => h9) rfl d_Rd_init_11 ?_
  refine va_putF (D := D) (ci := 2) (v := .ref t0) (ty := .object "SchemaDesk$Text") (C := R_Rd) (T := T_Rd) (N := 5) hx hb hts in_Rd ty_Rd ty_Rd_ok nm_Rd hown hK hP hD hS 0 rfl rfl 2 (by decide) (hts _ gw212) (fun _ h9 => h9) rfl hin rfl (by decide +kernel) rfl rfl (Nat.le_of_ble_eq_true rfl) d_Rd_init_14 (fun H locs hP hD hS => ?_)
  have hP : va_P D vwCl [(h0, .inr (2, [.ref a1, .int 0, .ref t0, .null, .int 0])), (a1, .inr (0, [.ref t0, .ref t1, .ref t2, .ref t3, .ref t4, .ref t5, .ref t6, .ref t7, .ref t8, .int 0, .ref t10, .int 0]))] H := hP
  have hD : va_D A [(h0, .inr (2, [.ref a1, .int 0, .ref t0, .null, .int 0])), (a1, .inr (0, [.ref t0, .ref t1, .ref t2, .ref t3, .ref t4, .ref t5, .ref t6, .ref t7, .ref t8, .int 0, .ref t10, .int 0]))] := hD
  refine lv_aload_n hx hb d_Rd_init_17 rfl (lv_at hl 0 rfl) ?_
  refine lv_aload_n hx hb d_Rd_init_18 rfl (lv_at hl 2 rfl) ?_
  refine va_putF (D := D) (ci := 2) (v := .ref a2) (ty := .object "SchemaDesk$WordBook") (C := R_Rd) (T := T_Rd) (N := 5) hx hb hts in_Rd ty_Rd ty_Rd_ok nm_Rd hown hK hP hD hS 0 rfl rfl 3 (by decide) (hts _ gw213) (fun _ h9 => h9) rfl hin rfl (by decide +kernel) rfl rfl (Nat.le_of_ble_eq_true rfl) d_Rd_init_19 (fun H locs hP hD hS => ?_)
  have hP : va_P D vwCl [(h0, .inr (2, [.ref a1, .int 0, .ref t0, .ref a2, .int 0])), (a1, .inr (0, [.ref t0, .ref t1, .ref t2, .ref t3, .ref t4, .ref t5, .ref t6, .ref t7, .ref t8, .int 0, .ref t10, .int 0]))] H := hP
  have hD : va_D A [(h0, .inr (2, [.ref a1, .int 0, .ref t0, .ref a2, .int 0])), (a1, .inr (0, [.ref t0, .ref t1, .ref t2, .ref t3, .ref t4, .ref t5, .ref t6, .ref t7, .ref t8, .int 0, .ref t10, .int 0]))] := hD
  have hP9 := hP.sub (ws' := [(h0, .inr (2, [.ref a1, .int 0, .ref t0, .ref a2, .int 0])), (a1, .inr (0, [.ref t0, .ref t1, .ref t2, .ref t3, .ref t4, .ref t5, .ref t6, .ref t7, .ref t8, .int 0, .ref t10, .int 0]))]) [0, 1] rfl
  have hD9 := hD.sub (ws' := [(h0, .inr (2, [.ref a1, .int 0, .ref t0, .ref a2, .int 0])), (a1, .inr (0, [.ref t0, .ref t1, .ref t2, .ref t3, .ref t4, .ref t5, .ref t6, .ref t7, .ref t8, .int 0, .ref t10, .int 0]))]) [0, 1] (by decide) rfl
  refine W.widen (k := 0) (n := 0) (Nat.le_of_ble_eq_true rfl) (Nat.le_of_ble_eq_true rfl) ?_
  exact W.vret hx hb hr (fun t ht _ => ⟨⟨(fun _ => 0), rfl, trivial, by rw [ht]; exact hP9, hD9⟩, hS.F ht⟩) hS.2.2 d_Rd_init_22 hlocks
abbrev k_Pl_init : ByteArray := prog_3_method_1_code
abbrev y_Pl_init : MethodName := ⟨"SchemaDesk$Plan", "<init>", "(LSchemaDesk$Tree;LSchemaDesk$WordBook;)V"⟩
theorem d_Pl_init_0 : decode k_Pl_init 0 = .ok (.aload_n 0, 1) := by decide +kernel
theorem d_Pl_init_1 : decode k_Pl_init 1 = .ok (.invokespecial 3, 3) := by decide +kernel
theorem d_Pl_init_4 : decode k_Pl_init 4 = .ok (.aload_n 0, 1) := by decide +kernel
theorem d_Pl_init_5 : decode k_Pl_init 5 = .ok (.sipush 160, 3) := by decide +kernel
theorem d_Pl_init_8 : decode k_Pl_init 8 = .ok (.newarray .int, 2) := by decide +kernel
theorem d_Pl_init_10 : decode k_Pl_init 10 = .ok (.putfield 9, 3) := by decide +kernel
theorem d_Pl_init_13 : decode k_Pl_init 13 = .ok (.aload_n 0, 1) := by decide +kernel
theorem d_Pl_init_14 : decode k_Pl_init 14 = .ok (.sipush 160, 3) := by decide +kernel
theorem d_Pl_init_17 : decode k_Pl_init 17 = .ok (.newarray .int, 2) := by decide +kernel
theorem d_Pl_init_19 : decode k_Pl_init 19 = .ok (.putfield 15, 3) := by decide +kernel
theorem d_Pl_init_22 : decode k_Pl_init 22 = .ok (.aload_n 0, 1) := by decide +kernel
theorem d_Pl_init_23 : decode k_Pl_init 23 = .ok (.sipush 160, 3) := by decide +kernel
theorem d_Pl_init_26 : decode k_Pl_init 26 = .ok (.newarray .int, 2) := by decide +kernel
theorem d_Pl_init_28 : decode k_Pl_init 28 = .ok (.putfield 18, 3) := by decide +kernel
theorem d_Pl_init_31 : decode k_Pl_init 31 = .ok (.aload_n 0, 1) := by decide +kernel
theorem d_Pl_init_32 : decode k_Pl_init 32 = .ok (.sipush 160, 3) := by decide +kernel
theorem d_Pl_init_35 : decode k_Pl_init 35 = .ok (.newarray .int, 2) := by decide +kernel
theorem d_Pl_init_37 : decode k_Pl_init 37 = .ok (.putfield 21, 3) := by decide +kernel
theorem d_Pl_init_40 : decode k_Pl_init 40 = .ok (.aload_n 0, 1) := by decide +kernel
theorem d_Pl_init_41 : decode k_Pl_init 41 = .ok (.sipush 160, 3) := by decide +kernel
theorem d_Pl_init_44 : decode k_Pl_init 44 = .ok (.newarray .boolean, 2) := by decide +kernel
theorem d_Pl_init_46 : decode k_Pl_init 46 = .ok (.putfield 24, 3) := by decide +kernel
theorem d_Pl_init_49 : decode k_Pl_init 49 = .ok (.aload_n 0, 1) := by decide +kernel
theorem d_Pl_init_50 : decode k_Pl_init 50 = .ok (.aload_n 1, 1) := by decide +kernel
theorem d_Pl_init_51 : decode k_Pl_init 51 = .ok (.putfield 28, 3) := by decide +kernel
theorem d_Pl_init_54 : decode k_Pl_init 54 = .ok (.aload_n 0, 1) := by decide +kernel
theorem d_Pl_init_55 : decode k_Pl_init 55 = .ok (.aload_n 2, 1) := by decide +kernel
theorem d_Pl_init_56 : decode k_Pl_init 56 = .ok (.putfield 32, 3) := by decide +kernel
theorem d_Pl_init_59 : decode k_Pl_init 59 = .ok (.return_, 1) := by decide +kernel
theorem gw231 : (Jvm.Cond.methodLink "SchemaDesk$Plan" (3 : Nat) ({ cls := "java/lang/Object", name := "<init>", desc := "()V" } : Jvm.MethodName)) ∈ GW := gw_t1 (List.mem_of_getElem? (i := 231) rfl) rfl
theorem gw281 : (Jvm.Cond.arrayClass Jvm.ClassFile.FieldType.boolean) ∈ GW := gw_t2 (List.mem_of_getElem? (i := 41) rfl) rfl
set_option maxRecDepth 100000 in
set_option maxHeartbeats 4000000 in
theorem c_Pl_init (l : Launch) {D : va_G} {g : Gm} (h0 a1 a2 sz : Nat) : Met l y_Pl_init (.code y_Pl_init k_Pl_init 3 none :: GW) { frames := 1, cells := 5, slots := 800, locals := 12 } (va_Pc [.ref h0, .ref a1, .ref a2] (fun U => U.heap.size = sz ∧ va_P D vwCl [(h0, .inr (5, [.null, .int 0, .null, .null, .null, .null, .int 0, .int 0, .null, .null]))] U.heap ∧ va_K D vwCl (TYS g) U ∧ va_D (fun _ => True) [(h0, .inr (5, [.null, .int 0, .null, .null, .null, .null, .int 0, .int 0, .null, .null]))] ∧ nestW U)) (va_Qv (S := Nat → Nat) (fun _ => True) (fun u t => va_P D vwCl [(h0, .inr (5, [.ref a1, .int 0, .ref (u 0), .ref (u 1), .ref (u 2), .ref (u 3), .int 0, .int 0, .ref a2, .ref (u 4)])), ((u 0), .inl (g.2 0, 160, .inl (fun _ => 0))), ((u 1), .inl (g.2 0, 160, .inl (fun _ => 0))), ((u 2), .inl (g.2 0, 160, .inl (fun _ => 0))), ((u 3), .inl (g.2 0, 160, .inl (fun _ => 0))), ((u 4), .inl (g.2 2, 160, .inl (fun _ => 0)))] t.heap ∧ va_D (va_A [(h0, .inr (5, [.null, .int 0, .null, .null, .null, .null, .int 0, .int 0, .null, .null]))] sz) [(h0, .inr (5, [.ref a1, .int 0, .ref (u 0), .ref (u 1), .ref (u 2), .ref (u 3), .int 0, .int 0, .ref a2, .ref (u 4)])), ((u 0), .inl (g.2 0, 160, .inl (fun _ => 0))), ((u 1), .inl (g.2 0, 160, .inl (fun _ => 0))), ((u 2), .inl (g.2 0, 160, .inl (fun _ => 0))), ((u 3), .inl (g.2 0, 160, .inl (fun _ => 0))), ((u 4), .inl (g.2 2, 160, .inl (fun _ => 0)))]) (va_A [(h0, .inr (5, [.null, .int 0, .null, .null, .null, .null, .int 0, .int 0, .null, .null]))] sz)) 5 800 (va_A [(h0, .inr (5, [.null, .int 0, .null, .null, .null, .null, .int 0, .int 0, .null, .null]))] sz) := by
  refine Met.ofW (cc := k_Pl_init) (maxL := 3) (ret := none) (by decide) rfl ?_
  intro p e s m args below meth c s₁ B hml hv
  obtain ⟨rfl, hsz, hP, hK, hD0, hNw⟩ := hv
  have hx := B.exec
  have hb := B.bytes
  have hr := B.returns
  have hts0 := atoms_spec (ws := .code y_Pl_init k_Pl_init 3 none :: GW) B.pre
  have hts : ∀ w ∈ GW, w.before _ s = true := fun w h => hts0 w (List.mem_cons_of_mem _ h)
  have hown : s.vm.findClass R_Pl = some m.cls := findClass_of_methodNamed B.named
  have hlocks := B.notSynchronized
  have hin : meth.name = "<init>" := (name_of_methodNamed B.named B.method).1
  subst hsz
  have hD := hD0.self (sz := s.heap.size)
  generalize hAe : va_A [(h0, .inr (5, [.null, .int 0, .null, .null, .null, .null, .int 0, .int 0, .null, .null]))] s.heap.size = A at hD ⊢
  have hA : ∀ q : Nat, s.heap.size ≤ q → A q := fun q h => by rw [← hAe]; exact Or.inr h
  have hS : va_S A s.heap s.heap [] := va_S.rf
  have hP : va_P D vwCl [(h0, .inr (5, [.null, .int 0, .null, .null, .null, .null, .int 0, .int 0, .null, .null]))] s.heap := hP
  have hl := lv_entry ([.ref h0, .ref a1, .ref a2]) (n := 3) (Nat.le_of_ble_eq_true rfl)
  rw [lg_entry_eq]
  generalize (lg_sl ([.ref h0, .ref a1, .ref a2]) ++ List.replicate (3 - (lg_sl ([.ref h0, .ref a1, .ref a2])).length) Slot.unset).toArray = ls at hl ⊢
  have hl : lv_has ls 3 [(0, .ref h0), (1, .ref a1), (2, .ref a2)] := hl
  refine lv_aload_n hx hb d_Pl_init_0 rfl (lv_at hl 0 rfl) ?_
  refine W.objInit hx hb hown (hts _ gw231) (hts _ gw33) (hts _ gw34) rfl (by rw [hml]; exact hl.1) rfl d_Pl_init_1 (Nat.le_of_ble_eq_true rfl) (Nat.le_of_ble_eq_true rfl) ?_
  refine W.eq (g2 := F0 m 4 ls []) rfl ?_
  refine lv_aload_n hx hb d_Pl_init_4 rfl (lv_at hl 0 rfl) ?_
  refine lv_sipush (v := (160 : Int32)) hx hb d_Pl_init_5 (by decide) ?_
  refine va_newa (atype := .int) (a0 := (160, .inl (fun _ => 0))) hx hb (hts _ gw96) rfl hK hP hD hS hA (fun _ => rfl) (by decide) (by decide) (by decide) (Nat.le_of_ble_eq_true rfl) (Nat.le_of_ble_eq_true rfl) d_Pl_init_8 (fun q8 cA H hK2 hP hD hS => ?_)
  have hcA : cA = g.2 0 := Option.some.inj ((hK2.2 4 (cA, .int) rfl).2.symm.trans (hK2.2 0 (g.2 0, .int) rfl).2)
  subst hcA
  clear hK2
  have hP : va_P D vwCl [(h0, .inr (5, [.null, .int 0, .null, .null, .null, .null, .int 0, .int 0, .null, .null])), (q8, .inl (g.2 0, 160, .inl (fun _ => 0)))] H := hP
  have hD : va_D A [(h0, .inr (5, [.null, .int 0, .null, .null, .null, .null, .int 0, .int 0, .null, .null])), (q8, .inl (g.2 0, 160, .inl (fun _ => 0)))] := hD
  refine va_putF (D := D) (ci := 5) (v := .ref q8) (ty := .array .int) (C := R_Pl) (T := T_Pl) (N := 10) hx hb hts in_Pl ty_Pl ty_Pl_ok nm_Pl hown hK hP hD hS 0 rfl rfl 2 (by decide) (hts _ gw236) (fun _ h9 => h9) rfl hin rfl (by decide +kernel) rfl rfl (Nat.le_of_ble_eq_true rfl) d_Pl_init_10 (fun H locs hP hD hS => ?_)
  have hP : va_P D vwCl [(h0, .inr (5, [.null, .int 0, .ref q8, .null, .null, .null, .int 0, .int 0, .null, .null])), (q8, .inl (g.2 0, 160, .inl (fun _ => 0)))] H := hP
  have hD : va_D A [(h0, .inr (5, [.null, .int 0, .ref q8, .null, .null, .null, .int 0, .int 0, .null, .null])), (q8, .inl (g.2 0, 160, .inl (fun _ => 0)))] := hD
  refine lv_aload_n hx hb d_Pl_init_13 rfl (lv_at hl 0 rfl) ?_
  refine lv_sipush (v := (160 : Int32)) hx hb d_Pl_init_14 (by decide) ?_
  refine va_newa (atype := .int) (a0 := (160, .inl (fun _ => 0))) hx hb (hts _ gw96) rfl hK hP hD hS hA (fun _ => rfl) (by decide) (by decide) (by decide) (Nat.le_of_ble_eq_true rfl) (Nat.le_of_ble_eq_true rfl) d_Pl_init_17 (fun q17 cA H hK2 hP hD hS => ?_)
  have hcA : cA = g.2 0 := Option.some.inj ((hK2.2 4 (cA, .int) rfl).2.symm.trans (hK2.2 0 (g.2 0, .int) rfl).2)
  subst hcA
  clear hK2
  have hP : va_P D vwCl [(h0, .inr (5, [.null, .int 0, .ref q8, .null, .null, .null, .int 0, .int 0, .null, .null])), (q8, .inl (g.2 0, 160, .inl (fun _ => 0))), (q17, .inl (g.2 0, 160, .inl (fun _ => 0)))] H := hP
  have hD : va_D A [(h0, .inr (5, [.null, .int 0, .ref q8, .null, .null, .null, .int 0, .int 0, .null, .null])), (q8, .inl (g.2 0, 160, .inl (fun _ => 0))), (q17, .inl (g.2 0, 160, .inl (fun _ => 0)))] := hD
  refine va_putF (D := D) (ci := 5) (v := .ref q17) (ty := .array .int) (C := R_Pl) (T := T_Pl) (N := 10) hx hb hts in_Pl ty_Pl ty_Pl_ok nm_Pl hown hK hP hD hS 0 rfl rfl 3 (by decide) (hts _ gw240) (fun _ h9 => h9) rfl hin rfl (by decide +kernel) rfl rfl (Nat.le_of_ble_eq_true rfl) d_Pl_init_19 (fun H locs hP hD hS => ?_)
  have hP : va_P D vwCl [(h0, .inr (5, [.null, .int 0, .ref q8, .ref q17, .null, .null, .int 0, .int 0, .null, .null])), (q8, .inl (g.2 0, 160, .inl (fun _ => 0))), (q17, .inl (g.2 0, 160, .inl (fun _ => 0)))] H := hP
  have hD : va_D A [(h0, .inr (5, [.null, .int 0, .ref q8, .ref q17, .null, .null, .int 0, .int 0, .null, .null])), (q8, .inl (g.2 0, 160, .inl (fun _ => 0))), (q17, .inl (g.2 0, 160, .inl (fun _ => 0)))] := hD
  refine lv_aload_n hx hb d_Pl_init_22 rfl (lv_at hl 0 rfl) ?_
  refine lv_sipush (v := (160 : Int32)) hx hb d_Pl_init_23 (by decide) ?_
  refine va_newa (atype := .int) (a0 := (160, .inl (fun _ => 0))) hx hb (hts _ gw96) rfl hK hP hD hS hA (fun _ => rfl) (by decide) (by decide) (by decide) (Nat.le_of_ble_eq_true rfl) (Nat.le_of_ble_eq_true rfl) d_Pl_init_26 (fun q26 cA H hK2 hP hD hS => ?_)
  have hcA : cA = g.2 0 := Option.some.inj ((hK2.2 4 (cA, .int) rfl).2.symm.trans (hK2.2 0 (g.2 0, .int) rfl).2)
  subst hcA
  clear hK2
  have hP : va_P D vwCl [(h0, .inr (5, [.null, .int 0, .ref q8, .ref q17, .null, .null, .int 0, .int 0, .null, .null])), (q8, .inl (g.2 0, 160, .inl (fun _ => 0))), (q17, .inl (g.2 0, 160, .inl (fun _ => 0))), (q26, .inl (g.2 0, 160, .inl (fun _ => 0)))] H := hP
  have hD : va_D A [(h0, .inr (5, [.null, .int 0, .ref q8, .ref q17, .null, .null, .int 0, .int 0, .null, .null])), (q8, .inl (g.2 0, 160, .inl (fun _ => 0))), (q17, .inl (g.2 0, 160, .inl (fun _ => 0))), (q26, .inl (g.2 0, 160, .inl (fun _ => 0)))] := hD
  refine va_putF (D := D) (ci := 5) (v := .ref q26) (ty := .array .int) (C := R_Pl) (T := T_Pl) (N := 10) hx hb hts in_Pl ty_Pl ty_Pl_ok nm_Pl hown hK hP hD hS 0 rfl rfl 4 (by decide) (hts _ gw244) (fun _ h9 => h9) rfl hin rfl (by decide +kernel) rfl rfl (Nat.le_of_ble_eq_true rfl) d_Pl_init_28 (fun H locs hP hD hS => ?_)
  have hP : va_P D vwCl [(h0, .inr (5, [.null, .int 0, .ref q8, .ref q17, .ref q26, .null, .int 0, .int 0, .null, .null])), (q8, .inl (g.2 0, 160, .inl (fun _ => 0))), (q17, .inl (g.2 0, 160, .inl (fun _ => 0))), (q26, .inl (g.2 0, 160, .inl (fun _ => 0)))] H := hP
  have hD : va_D A [(h0, .inr (5, [.null, .int 0, .ref q8, .ref q17, .ref q26, .null, .int 0, .int 0, .null, .null])), (q8, .inl (g.2 0, 160, .inl (fun _ => 0))), (q17, .inl (g.2 0, 160, .inl (fun _ => 0))), (q26, .inl (g.2 0, 160, .inl (fun _ => 0)))] := hD
  refine lv_aload_n hx hb d_Pl_init_31 rfl (lv_at hl 0 rfl) ?_
  refine lv_sipush (v := (160 : Int32)) hx hb d_Pl_init_32 (by decide) ?_
  refine va_newa (atype := .int) (a0 := (160, .inl (fun _ => 0))) hx hb (hts _ gw96) rfl hK hP hD hS hA (fun _ => rfl) (by decide) (by decide) (by decide) (Nat.le_of_ble_eq_true rfl) (Nat.le_of_ble_eq_true rfl) d_Pl_init_35 (fun q35 cA H hK2 hP hD hS => ?_)
  have hcA : cA = g.2 0 := Option.some.inj ((hK2.2 4 (cA, .int) rfl).2.symm.trans (hK2.2 0 (g.2 0, .int) rfl).2)
  subst hcA
  clear hK2
  have hP : va_P D vwCl [(h0, .inr (5, [.null, .int 0, .ref q8, .ref q17, .ref q26, .null, .int 0, .int 0, .null, .null])), (q8, .inl (g.2 0, 160, .inl (fun _ => 0))), (q17, .inl (g.2 0, 160, .inl (fun _ => 0))), (q26, .inl (g.2 0, 160, .inl (fun _ => 0))), (q35, .inl (g.2 0, 160, .inl (fun _ => 0)))] H := hP
  have hD : va_D A [(h0, .inr (5, [.null, .int 0, .ref q8, .ref q17, .ref q26, .null, .int 0, .int 0, .null, .null])), (q8, .inl (g.2 0, 160, .inl (fun _ => 0))), (q17, .inl (g.2 0, 160, .inl (fun _ => 0))), (q26, .inl (g.2 0, 160, .inl (fun _ => 0))), (q35, .inl (g.2 0, 160, .inl (fun _ => 0)))] := hD
  refine va_putF (D := D) (ci := 5) (v := .ref q35) (ty := .array .int) (C := R_Pl) (T := T_Pl) (N := 10) hx hb hts in_Pl ty_Pl ty_Pl_ok nm_Pl hown hK hP hD hS 0 rfl rfl 5 (by decide) (hts _ gw247) (fun _ h9 => h9) rfl hin rfl (by decide +kernel) rfl rfl (Nat.le_of_ble_eq_true rfl) d_Pl_init_37 (fun H locs hP hD hS => ?_)
  have hP : va_P D vwCl [(h0, .inr (5, [.null, .int 0, .ref q8, .ref q17, .ref q26, .ref q35, .int 0, .int 0, .null, .null])), (q8, .inl (g.2 0, 160, .inl (fun _ => 0))), (q17, .inl (g.2 0, 160, .inl (fun _ => 0))), (q26, .inl (g.2 0, 160, .inl (fun _ => 0))), (q35, .inl (g.2 0, 160, .inl (fun _ => 0)))] H := hP
  have hD : va_D A [(h0, .inr (5, [.null, .int 0, .ref q8, .ref q17, .ref q26, .ref q35, .int 0, .int 0, .null, .null])), (q8, .inl (g.2 0, 160, .inl (fun _ => 0))), (q17, .inl (g.2 0, 160, .inl (fun _ => 0))), (q26, .inl (g.2 0, 160, .inl (fun _ => 0))), (q35, .inl (g.2 0, 160, .inl (fun _ => 0)))] := hD
  refine lv_aload_n hx hb d_Pl_init_40 rfl (lv_at hl 0 rfl) ?_
  refine lv_sipush (v := (160 : Int32)) hx hb d_Pl_init_41 (by decide) ?_
  refine va_newa (atype := .boolean) (a0 := (160, .inl (fun _ => 0))) hx hb (hts _ gw281) rfl hK hP hD hS hA (fun _ => rfl) (by decide) (by decide) (by decide) (Nat.le_of_ble_eq_true rfl) (Nat.le_of_ble_eq_true rfl) d_Pl_init_44 (fun q44 cA H hK2 hP hD hS => ?_)
  have hcA : cA = g.2 2 := Option.some.inj ((hK2.2 4 (cA, .boolean) rfl).2.symm.trans (hK2.2 2 (g.2 2, .boolean) rfl).2)
  subst hcA
  clear hK2
  have hP : va_P D vwCl [(h0, .inr (5, [.null, .int 0, .ref q8, .ref q17, .ref q26, .ref q35, .int 0, .int 0, .null, .null])), (q8, .inl (g.2 0, 160, .inl (fun _ => 0))), (q17, .inl (g.2 0, 160, .inl (fun _ => 0))), (q26, .inl (g.2 0, 160, .inl (fun _ => 0))), (q35, .inl (g.2 0, 160, .inl (fun _ => 0))), (q44, .inl (g.2 2, 160, .inl (fun _ => 0)))] H := hP
  have hD : va_D A [(h0, .inr (5, [.null, .int 0, .ref q8, .ref q17, .ref q26, .ref q35, .int 0, .int 0, .null, .null])), (q8, .inl (g.2 0, 160, .inl (fun _ => 0))), (q17, .inl (g.2 0, 160, .inl (fun _ => 0))), (q26, .inl (g.2 0, 160, .inl (fun _ => 0))), (q35, .inl (g.2 0, 160, .inl (fun _ => 0))), (q44, .inl (g.2 2, 160, .inl (fun _ => 0)))] := hD
  refine va_putF (D := D) (ci := 5) (v := .ref q44) (ty := .array .boolean) (C := R_Pl) (T := T_Pl) (N := 10) hx hb hts in_Pl ty_Pl ty_Pl_ok nm_Pl hown hK hP hD hS 0 rfl rfl 9 (by decide) (hts _ gw259) (fun _ h9 => h9) rfl hin rfl (by decide +kernel) rfl rfl (Nat.le_of_ble_eq_true rfl) d_Pl_init_46 (fun H locs hP hD hS => ?_)
  have hP : va_P D vwCl [(h0, .inr (5, [.null, .int 0, .ref q8, .ref q17, .ref q26, .ref q35, .int 0, .int 0, .null, .ref q44])), (q8, .inl (g.2 0, 160, .inl (fun _ => 0))), (q17, .inl (g.2 0, 160, .inl (fun _ => 0))), (q26, .inl (g.2 0, 160, .inl (fun _ => 0))), (q35, .inl (g.2 0, 160, .inl (fun _ => 0))), (q44, .inl (g.2 2, 160, .inl (fun _ => 0)))] H := hP
  have hD : va_D A [(h0, .inr (5, [.null, .int 0, .ref q8, .ref q17, .ref q26, .ref q35, .int 0, .int 0, .null, .ref q44])), (q8, .inl (g.2 0, 160, .inl (fun _ => 0))), (q17, .inl (g.2 0, 160, .inl (fun _ => 0))), (q26, .inl (g.2 0, 160, .inl (fun _ => 0))), (q35, .inl (g.2 0, 160, .inl (fun _ => 0))), (q44, .inl (g.2 2, 160, .inl (fun _ => 0)))] := hD
  refine lv_aload_n hx hb d_Pl_init_49 rfl (lv_at hl 0 rfl) ?_
  refine lv_aload_n hx hb d_Pl_init_50 rfl (lv_at hl 1 rfl) ?_
  refine va_putF (D := D) (ci := 5) (v := .ref a1) (ty := .object "SchemaDesk$Tree") (C := R_Pl) (T := T_Pl) (N := 10) hx hb hts in_Pl ty_Pl ty_Pl_ok nm_Pl hown hK hP hD hS 0 rfl rfl 0 (by decide) (hts _ gw233) (fun _ h9 => h9) rfl hin rfl (by decide +kernel) rfl rfl (Nat.le_of_ble_eq_true rfl) d_Pl_init_51 (fun H locs hP hD hS => ?_)
  have hP : va_P D vwCl [(h0, .inr (5, [.ref a1, .int 0, .ref q8, .ref q17, .ref q26, .ref q35, .int 0, .int 0, .null, .ref q44])), (q8, .inl (g.2 0, 160, .inl (fun _ => 0))), (q17, .inl (g.2 0, 160, .inl (fun _ => 0))), (q26, .inl (g.2 0, 160, .inl (fun _ => 0))), (q35, .inl (g.2 0, 160, .inl (fun _ => 0))), (q44, .inl (g.2 2, 160, .inl (fun _ => 0)))] H := hP
  have hD : va_D A [(h0, .inr (5, [.ref a1, .int 0, .ref q8, .ref q17, .ref q26, .ref q35, .int 0, .int 0, .null, .ref q44])), (q8, .inl (g.2 0, 160, .inl (fun _ => 0))), (q17, .inl (g.2 0, 160, .inl (fun _ => 0))), (q26, .inl (g.2 0, 160, .inl (fun _ => 0))), (q35, .inl (g.2 0, 160, .inl (fun _ => 0))), (q44, .inl (g.2 2, 160, .inl (fun _ => 0)))] := hD
  refine lv_aload_n hx hb d_Pl_init_54 rfl (lv_at hl 0 rfl) ?_
  refine lv_aload_n hx hb d_Pl_init_55 rfl (lv_at hl 2 rfl) ?_
  refine va_putF (D := D) (ci := 5) (v := .ref a2) (ty := .object "SchemaDesk$WordBook") (C := R_Pl) (T := T_Pl) (N := 10) hx hb hts in_Pl ty_Pl ty_Pl_ok nm_Pl hown hK hP hD hS 0 rfl rfl 8 (by decide) (hts _ gw257) (fun _ h9 => h9) rfl hin rfl (by decide +kernel) rfl rfl (Nat.le_of_ble_eq_true rfl) d_Pl_init_56 (fun H locs hP hD hS => ?_)
  have hP : va_P D vwCl [(h0, .inr (5, [.ref a1, .int 0, .ref q8, .ref q17, .ref q26, .ref q35, .int 0, .int 0, .ref a2, .ref q44])), (q8, .inl (g.2 0, 160, .inl (fun _ => 0))), (q17, .inl (g.2 0, 160, .inl (fun _ => 0))), (q26, .inl (g.2 0, 160, .inl (fun _ => 0))), (q35, .inl (g.2 0, 160, .inl (fun _ => 0))), (q44, .inl (g.2 2, 160, .inl (fun _ => 0)))] H := hP
  have hD : va_D A [(h0, .inr (5, [.ref a1, .int 0, .ref q8, .ref q17, .ref q26, .ref q35, .int 0, .int 0, .ref a2, .ref q44])), (q8, .inl (g.2 0, 160, .inl (fun _ => 0))), (q17, .inl (g.2 0, 160, .inl (fun _ => 0))), (q26, .inl (g.2 0, 160, .inl (fun _ => 0))), (q35, .inl (g.2 0, 160, .inl (fun _ => 0))), (q44, .inl (g.2 2, 160, .inl (fun _ => 0)))] := hD
  have hP9 := hP.sub (ws' := [(h0, .inr (5, [.ref a1, .int 0, .ref q8, .ref q17, .ref q26, .ref q35, .int 0, .int 0, .ref a2, .ref q44])), (q8, .inl (g.2 0, 160, .inl (fun _ => 0))), (q17, .inl (g.2 0, 160, .inl (fun _ => 0))), (q26, .inl (g.2 0, 160, .inl (fun _ => 0))), (q35, .inl (g.2 0, 160, .inl (fun _ => 0))), (q44, .inl (g.2 2, 160, .inl (fun _ => 0)))]) [0, 1, 2, 3, 4, 5] rfl
  have hD9 := hD.sub (ws' := [(h0, .inr (5, [.ref a1, .int 0, .ref q8, .ref q17, .ref q26, .ref q35, .int 0, .int 0, .ref a2, .ref q44])), (q8, .inl (g.2 0, 160, .inl (fun _ => 0))), (q17, .inl (g.2 0, 160, .inl (fun _ => 0))), (q26, .inl (g.2 0, 160, .inl (fun _ => 0))), (q35, .inl (g.2 0, 160, .inl (fun _ => 0))), (q44, .inl (g.2 2, 160, .inl (fun _ => 0)))]) [0, 1, 2, 3, 4, 5] (by decide) rfl
  refine W.widen (k := 5) (n := 800) (Nat.le_of_ble_eq_true rfl) (Nat.le_of_ble_eq_true rfl) ?_
  exact W.vret hx hb hr (fun t ht _ => ⟨⟨(fun k => match k with | 0 => q8 | 1 => q17 | 2 => q26 | 3 => q35 | 4 => q44 | _ => 0), rfl, trivial, by rw [ht]; exact hP9, hD9⟩, hS.F ht⟩) hS.2.2 d_Pl_init_59 hlocks
abbrev k_Vd_init : ByteArray := prog_9_method_1_code
abbrev y_Vd_init : MethodName := ⟨"SchemaDesk$Verdicts", "<init>", "(LSchemaDesk$Plan;LSchemaDesk$Tree;)V"⟩
theorem d_Vd_init_0 : decode k_Vd_init 0 = .ok (.aload_n 0, 1) := by decide +kernel
theorem d_Vd_init_1 : decode k_Vd_init 1 = .ok (.invokespecial 3, 3) := by decide +kernel
theorem d_Vd_init_4 : decode k_Vd_init 4 = .ok (.aload_n 0, 1) := by decide +kernel
theorem d_Vd_init_5 : decode k_Vd_init 5 = .ok (.new 9, 3) := by decide +kernel
theorem d_Vd_init_8 : decode k_Vd_init 8 = .ok (.dup, 1) := by decide +kernel
theorem d_Vd_init_9 : decode k_Vd_init 9 = .ok (.invokespecial 11, 3) := by decide +kernel
theorem d_Vd_init_12 : decode k_Vd_init 12 = .ok (.putfield 12, 3) := by decide +kernel
theorem d_Vd_init_15 : decode k_Vd_init 15 = .ok (.aload_n 0, 1) := by decide +kernel
theorem d_Vd_init_16 : decode k_Vd_init 16 = .ok (.new 9, 3) := by decide +kernel
theorem d_Vd_init_19 : decode k_Vd_init 19 = .ok (.dup, 1) := by decide +kernel
theorem d_Vd_init_20 : decode k_Vd_init 20 = .ok (.invokespecial 11, 3) := by decide +kernel
theorem d_Vd_init_23 : decode k_Vd_init 23 = .ok (.putfield 18, 3) := by decide +kernel
theorem d_Vd_init_26 : decode k_Vd_init 26 = .ok (.aload_n 0, 1) := by decide +kernel
theorem d_Vd_init_27 : decode k_Vd_init 27 = .ok (.aload_n 1, 1) := by decide +kernel
theorem d_Vd_init_28 : decode k_Vd_init 28 = .ok (.putfield 21, 3) := by decide +kernel
theorem d_Vd_init_31 : decode k_Vd_init 31 = .ok (.aload_n 0, 1) := by decide +kernel
theorem d_Vd_init_32 : decode k_Vd_init 32 = .ok (.aload_n 1, 1) := by decide +kernel
theorem d_Vd_init_33 : decode k_Vd_init 33 = .ok (.getfield 25, 3) := by decide +kernel
theorem d_Vd_init_36 : decode k_Vd_init 36 = .ok (.putfield 31, 3) := by decide +kernel
theorem d_Vd_init_39 : decode k_Vd_init 39 = .ok (.aload_n 0, 1) := by decide +kernel
theorem d_Vd_init_40 : decode k_Vd_init 40 = .ok (.aload_n 2, 1) := by decide +kernel
theorem d_Vd_init_41 : decode k_Vd_init 41 = .ok (.putfield 32, 3) := by decide +kernel
theorem d_Vd_init_44 : decode k_Vd_init 44 = .ok (.return_, 1) := by decide +kernel
theorem gw287 : (Jvm.Cond.methodLink "SchemaDesk$Verdicts" (3 : Nat) ({ cls := "java/lang/Object", name := "<init>", desc := "()V" } : Jvm.MethodName)) ∈ GW := gw_t2 (List.mem_of_getElem? (i := 47) rfl) rfl
theorem gw288 : (Jvm.Cond.classLink "SchemaDesk$Verdicts" (9 : Nat) "SchemaDesk$Marks") ∈ GW := gw_t2 (List.mem_of_getElem? (i := 48) rfl) rfl
theorem gw289 : (Jvm.Cond.instantiable "SchemaDesk$Marks" (1 : Nat)) ∈ GW := gw_t2 (List.mem_of_getElem? (i := 49) rfl) rfl
theorem gw292 : (Jvm.Cond.code ({ cls := "SchemaDesk$Marks", name := "<init>", desc := "()V" } : Jvm.MethodName) prog_2_method_1_code (1 : Nat) (Option.none : Option Jvm.ClassFile.FieldType)) ∈ GW := gw_t2 (List.mem_of_getElem? (i := 52) rfl) rfl
theorem gw291 : (Jvm.Cond.instanceMethod ({ cls := "SchemaDesk$Marks", name := "<init>", desc := "()V" } : Jvm.MethodName)) ∈ GW := gw_t2 (List.mem_of_getElem? (i := 51) rfl) rfl
theorem gw232 : (Jvm.Cond.fieldLink "SchemaDesk$Verdicts" (25 : Nat) "SchemaDesk$Plan" "schema" "LSchemaDesk$Tree;") ∈ GW := gw_t1 (List.mem_of_getElem? (i := 232) rfl) rfl
set_option maxRecDepth 100000 in
set_option maxHeartbeats 4000000 in
theorem c_Vd_init (l : Launch) {D : va_G} {g : Gm} (h0 a1 a2 t0 t2 t3 t4 t5 t8 t9 sz : Nat) : Met l y_Vd_init (.code y_Vd_init k_Vd_init 3 none :: GW) { frames := 2, cells := 4, slots := 642, locals := 32 } (va_Pc [.ref h0, .ref a1, .ref a2] (fun U => U.heap.size = sz ∧ va_P D vwCl [(h0, .inr (6, [.null, .null, .null, .int 0, .null, .null])), (a1, .inr (5, [.ref t0, .int 0, .ref t2, .ref t3, .ref t4, .ref t5, .int 0, .int 0, .ref t8, .ref t9]))] U.heap ∧ va_K D vwCl (TYS g) U ∧ va_D (fun _ => True) [(h0, .inr (6, [.null, .null, .null, .int 0, .null, .null])), (a1, .inr (5, [.ref t0, .int 0, .ref t2, .ref t3, .ref t4, .ref t5, .int 0, .int 0, .ref t8, .ref t9]))] ∧ nestW U)) (va_Qv (S := Nat → Nat) (fun _ => True) (fun u t => va_P D vwCl [(h0, .inr (6, [.ref a1, .ref t0, .ref a2, .int 0, .ref (u 0), .ref (u 2)])), (a1, .inr (5, [.ref t0, .int 0, .ref t2, .ref t3, .ref t4, .ref t5, .int 0, .int 0, .ref t8, .ref t9])), ((u 0), .inr (3, [.ref (u 1)])), ((u 1), .inl (g.2 3, 320, .inr (.inl (fun _ => 0)))), ((u 2), .inr (3, [.ref (u 3)])), ((u 3), .inl (g.2 3, 320, .inr (.inl (fun _ => 0))))] t.heap ∧ va_D (va_A [(h0, .inr (6, [.null, .null, .null, .int 0, .null, .null])), (a1, .inr (5, [.ref t0, .int 0, .ref t2, .ref t3, .ref t4, .ref t5, .int 0, .int 0, .ref t8, .ref t9]))] sz) [(h0, .inr (6, [.ref a1, .ref t0, .ref a2, .int 0, .ref (u 0), .ref (u 2)])), (a1, .inr (5, [.ref t0, .int 0, .ref t2, .ref t3, .ref t4, .ref t5, .int 0, .int 0, .ref t8, .ref t9])), ((u 0), .inr (3, [.ref (u 1)])), ((u 1), .inl (g.2 3, 320, .inr (.inl (fun _ => 0)))), ((u 2), .inr (3, [.ref (u 3)])), ((u 3), .inl (g.2 3, 320, .inr (.inl (fun _ => 0))))]) (va_A [(h0, .inr (6, [.null, .null, .null, .int 0, .null, .null])), (a1, .inr (5, [.ref t0, .int 0, .ref t2, .ref t3, .ref t4, .ref t5, .int 0, .int 0, .ref t8, .ref t9]))] sz)) 4 642 (va_A [(h0, .inr (6, [.null, .null, .null, .int 0, .null, .null])), (a1, .inr (5, [.ref t0, .int 0, .ref t2, .ref t3, .ref t4, .ref t5, .int 0, .int 0, .ref t8, .ref t9]))] sz) := by
  refine Met.ofW (cc := k_Vd_init) (maxL := 3) (ret := none) (by decide) rfl ?_
  intro p e s m args below meth c s₁ B hml hv
  obtain ⟨rfl, hsz, hP, hK, hD0, hNw⟩ := hv
  have hx := B.exec
  have hb := B.bytes
  have hr := B.returns
  have hts0 := atoms_spec (ws := .code y_Vd_init k_Vd_init 3 none :: GW) B.pre
  have hts : ∀ w ∈ GW, w.before _ s = true := fun w h => hts0 w (List.mem_cons_of_mem _ h)
  have hown : s.vm.findClass R_Vd = some m.cls := findClass_of_methodNamed B.named
  have hlocks := B.notSynchronized
  have hin : meth.name = "<init>" := (name_of_methodNamed B.named B.method).1
  subst hsz
  have hD := hD0.self (sz := s.heap.size)
  generalize hAe : va_A [(h0, .inr (6, [.null, .null, .null, .int 0, .null, .null])), (a1, .inr (5, [.ref t0, .int 0, .ref t2, .ref t3, .ref t4, .ref t5, .int 0, .int 0, .ref t8, .ref t9]))] s.heap.size = A at hD ⊢
  have hA : ∀ q : Nat, s.heap.size ≤ q → A q := fun q h => by rw [← hAe]; exact Or.inr h
  have hS : va_S A s.heap s.heap [] := va_S.rf
  have hP : va_P D vwCl [(h0, .inr (6, [.null, .null, .null, .int 0, .null, .null])), (a1, .inr (5, [.ref t0, .int 0, .ref t2, .ref t3, .ref t4, .ref t5, .int 0, .int 0, .ref t8, .ref t9]))] s.heap := hP
  have hl := lv_entry ([.ref h0, .ref a1, .ref a2]) (n := 3) (Nat.le_of_ble_eq_true rfl)
  rw [lg_entry_eq]
  generalize (lg_sl ([.ref h0, .ref a1, .ref a2]) ++ List.replicate (3 - (lg_sl ([.ref h0, .ref a1, .ref a2])).length) Slot.unset).toArray = ls at hl ⊢
  have hl : lv_has ls 3 [(0, .ref h0), (1, .ref a1), (2, .ref a2)] := hl
  refine lv_aload_n hx hb d_Vd_init_0 rfl (lv_at hl 0 rfl) ?_
  refine W.objInit hx hb hown (hts _ gw287) (hts _ gw33) (hts _ gw34) rfl (by rw [hml]; exact hl.1) rfl d_Vd_init_1 (Nat.le_of_ble_eq_true rfl) (Nat.le_of_ble_eq_true rfl) ?_
  refine W.eq (g2 := F0 m 4 ls []) rfl ?_
  refine lv_aload_n hx hb d_Vd_init_4 rfl (lv_at hl 0 rfl) ?_
  refine va_new (ci := 3) (fs := [.null]) (C := R_Mk) (T := T_Mk) (N := 1) hx hb hts in_Mk ty_Mk ty_Mk_ok hown (hts _ gw288) (hts _ gw289) (hts _ gw12) hK hP hD hS hA rfl (fun j hj => by rcases (show j = 0 by omega) with rfl <;> rfl) (Nat.le_of_ble_eq_true rfl) (Nat.le_of_ble_eq_true rfl) d_Vd_init_5 (fun q5 H hP hD hS => ?_)
  have hP : va_P D vwCl [(h0, .inr (6, [.null, .null, .null, .int 0, .null, .null])), (a1, .inr (5, [.ref t0, .int 0, .ref t2, .ref t3, .ref t4, .ref t5, .int 0, .int 0, .ref t8, .ref t9])), (q5, .inr (3, [.null]))] H := hP
  have hD : va_D A [(h0, .inr (6, [.null, .null, .null, .int 0, .null, .null])), (a1, .inr (5, [.ref t0, .int 0, .ref t2, .ref t3, .ref t4, .ref t5, .int 0, .int 0, .ref t8, .ref t9])), (q5, .inr (3, [.null]))] := hD
  refine lv_dup hx hb d_Vd_init_8 rfl ?_
  have hPc := hP.sub (ws' := [(q5, .inr (3, [.null]))]) [2] rfl
  have hDc := hD.sub (ws' := [(q5, .inr (3, [.null]))]) [2] (by decide) rfl
  have hFc := va_free (wc := [(q5, .inr (3, [.null]))]) hD hS hA [2] rfl
  refine va_callv (va_runIN (As := []) (rest := [.ref q5, .ref h0]) ⟨hx, hb, hml, hown, hts⟩ (c_Mk_init l q5 H.size) ⟨va_cnB 0 hts (gd_i gw292) rfl rfl rfl hNw.1 (hts _ gw12) (by decide +kernel) ⟨Nat.le_of_ble_eq_true rfl, Nat.le_of_ble_eq_true rfl⟩, rfl, hts _ gw291⟩ ⟨kb_blind, fun U hU hW => ⟨rfl, by rw [hU], by rw [hU]; exact hPc, va_K.moved hW.alike hK, hDc.weaken (fun _ _ _ _ => trivial), nestW.moved hW hNw⟩⟩ rfl rfl hl.1 rfl (lv_room (Nat.le_of_ble_eq_true rfl)) d_Vd_init_9 ⟨Nat.le_of_ble_eq_true rfl, Nat.le_of_ble_eq_true rfl⟩) hS (fun q _ h => hFc q h) hFc (fun u9 t H1 locs ht hvm _ hB hz1 hk1 hS => ?_)
  obtain ⟨hP1, hD1⟩ := hB
  rw [ht] at hP1
  obtain ⟨hP, hD⟩ := va_join (wr := [(h0, .inr (6, [.null, .null, .null, .int 0, .null, .null])), (a1, .inr (5, [.ref t0, .int 0, .ref t2, .ref t3, .ref t4, .ref t5, .int 0, .int 0, .ref t8, .ref t9]))]) (w1 := [(q5, .inr (3, [.ref (u9 0)])), ((u9 0), .inl (g.2 3, 320, .inr (.inl (fun _ => 0))))]) hP hD [2] [0, 1] rfl rfl (by decide) (by decide) hk1 hFc hP1 hD1
  clear hP1 hD1 hPc hDc hFc hk1 hz1
  generalize H1 = H at hP hS ⊢
  generalize u9 0 = u9_0 at hP hD
  have hP : va_P D vwCl [(h0, .inr (6, [.null, .null, .null, .int 0, .null, .null])), (a1, .inr (5, [.ref t0, .int 0, .ref t2, .ref t3, .ref t4, .ref t5, .int 0, .int 0, .ref t8, .ref t9])), (q5, .inr (3, [.ref u9_0])), (u9_0, .inl (g.2 3, 320, .inr (.inl (fun _ => 0))))] H := hP
  have hD : va_D A [(h0, .inr (6, [.null, .null, .null, .int 0, .null, .null])), (a1, .inr (5, [.ref t0, .int 0, .ref t2, .ref t3, .ref t4, .ref t5, .int 0, .int 0, .ref t8, .ref t9])), (q5, .inr (3, [.ref u9_0])), (u9_0, .inl (g.2 3, 320, .inr (.inl (fun _ => 0))))] := hD
  refine va_putF (D := D) (ci := 6) (v := .ref q5) (ty := .object "SchemaDesk$Marks") (C := R_Vd) (T := T_Vd) (N := 6) hx hb hts in_Vd ty_Vd ty_Vd_ok nm_Vd hown hK hP hD hS 0 rfl rfl 4 (by decide) (hts _ gw310) (fun _ h9 => h9) rfl hin rfl (by decide +kernel) rfl rfl (Nat.le_of_ble_eq_true rfl) d_Vd_init_12 (fun H locs hP hD hS => ?_)
  have hP : va_P D vwCl [(h0, .inr (6, [.null, .null, .null, .int 0, .ref q5, .null])), (a1, .inr (5, [.ref t0, .int 0, .ref t2, .ref t3, .ref t4, .ref t5, .int 0, .int 0, .ref t8, .ref t9])), (q5, .inr (3, [.ref u9_0])), (u9_0, .inl (g.2 3, 320, .inr (.inl (fun _ => 0))))] H := hP
  have hD : va_D A [(h0, .inr (6, [.null, .null, .null, .int 0, .ref q5, .null])), (a1, .inr (5, [.ref t0, .int 0, .ref t2, .ref t3, .ref t4, .ref t5, .int 0, .int 0, .ref t8, .ref t9])), (q5, .inr (3, [.ref u9_0])), (u9_0, .inl (g.2 3, 320, .inr (.inl (fun _ => 0))))] := hD
  refine lv_aload_n hx hb d_Vd_init_15 rfl (lv_at hl 0 rfl) ?_
  refine va_new (ci := 3) (fs := [.null]) (C := R_Mk) (T := T_Mk) (N := 1) hx hb hts in_Mk ty_Mk ty_Mk_ok hown (hts _ gw288) (hts _ gw289) (hts _ gw12) hK hP hD hS hA rfl (fun j hj => by rcases (show j = 0 by omega) with rfl <;> rfl) (Nat.le_of_ble_eq_true rfl) (Nat.le_of_ble_eq_true rfl) d_Vd_init_16 (fun q16 H hP hD hS => ?_)
  have hP : va_P D vwCl [(h0, .inr (6, [.null, .null, .null, .int 0, .ref q5, .null])), (a1, .inr (5, [.ref t0, .int 0, .ref t2, .ref t3, .ref t4, .ref t5, .int 0, .int 0, .ref t8, .ref t9])), (q5, .inr (3, [.ref u9_0])), (u9_0, .inl (g.2 3, 320, .inr (.inl (fun _ => 0)))), (q16, .inr (3, [.null]))] H := hP
  have hD : va_D A [(h0, .inr (6, [.null, .null, .null, .int 0, .ref q5, .null])), (a1, .inr (5, [.ref t0, .int 0, .ref t2, .ref t3, .ref t4, .ref t5, .int 0, .int 0, .ref t8, .ref t9])), (q5, .inr (3, [.ref u9_0])), (u9_0, .inl (g.2 3, 320, .inr (.inl (fun _ => 0)))), (q16, .inr (3, [.null]))] := hD
  refine lv_dup hx hb d_Vd_init_19 rfl ?_
  have hPc := hP.sub (ws' := [(q16, .inr (3, [.null]))]) [4] rfl
  have hDc := hD.sub (ws' := [(q16, .inr (3, [.null]))]) [4] (by decide) rfl
  have hFc := va_free (wc := [(q16, .inr (3, [.null]))]) hD hS hA [4] rfl
  refine va_callv (va_runIN (As := []) (rest := [.ref q16, .ref h0]) ⟨hx, hb, hml, hown, hts⟩ (c_Mk_init l q16 H.size) ⟨va_cnB 0 hts (gd_i gw292) rfl rfl rfl hNw.1 (hts _ gw12) (by decide +kernel) ⟨Nat.le_of_ble_eq_true rfl, Nat.le_of_ble_eq_true rfl⟩, rfl, hts _ gw291⟩ ⟨kb_blind, fun U hU hW => ⟨rfl, by rw [hU], by rw [hU]; exact hPc, va_K.moved hW.alike hK, hDc.weaken (fun _ _ _ _ => trivial), nestW.moved hW hNw⟩⟩ rfl rfl hl.1 rfl (lv_room (Nat.le_of_ble_eq_true rfl)) d_Vd_init_20 ⟨Nat.le_of_ble_eq_true rfl, Nat.le_of_ble_eq_true rfl⟩) hS (fun q _ h => hFc q h) hFc (fun u20 t H1 locs ht hvm _ hB hz1 hk1 hS => ?_)
  obtain ⟨hP1, hD1⟩ := hB
  rw [ht] at hP1
  obtain ⟨hP, hD⟩ := va_join (wr := [(h0, .inr (6, [.null, .null, .null, .int 0, .ref q5, .null])), (a1, .inr (5, [.ref t0, .int 0, .ref t2, .ref t3, .ref t4, .ref t5, .int 0, .int 0, .ref t8, .ref t9])), (q5, .inr (3, [.ref u9_0])), (u9_0, .inl (g.2 3, 320, .inr (.inl (fun _ => 0))))]) (w1 := [(q16, .inr (3, [.ref (u20 0)])), ((u20 0), .inl (g.2 3, 320, .inr (.inl (fun _ => 0))))]) hP hD [4] [0, 1, 2, 3] rfl rfl (by decide) (by decide) hk1 hFc hP1 hD1
  clear hP1 hD1 hPc hDc hFc hk1 hz1
  generalize H1 = H at hP hS ⊢
  generalize u20 0 = u20_0 at hP hD
  have hP : va_P D vwCl [(h0, .inr (6, [.null, .null, .null, .int 0, .ref q5, .null])), (a1, .inr (5, [.ref t0, .int 0, .ref t2, .ref t3, .ref t4, .ref t5, .int 0, .int 0, .ref t8, .ref t9])), (q5, .inr (3, [.ref u9_0])), (u9_0, .inl (g.2 3, 320, .inr (.inl (fun _ => 0)))), (q16, .inr (3, [.ref u20_0])), (u20_0, .inl (g.2 3, 320, .inr (.inl (fun _ => 0))))] H := hP
  have hD : va_D A [(h0, .inr (6, [.null, .null, .null, .int 0, .ref q5, .null])), (a1, .inr (5, [.ref t0, .int 0, .ref t2, .ref t3, .ref t4, .ref t5, .int 0, .int 0, .ref t8, .ref t9])), (q5, .inr (3, [.ref u9_0])), (u9_0, .inl (g.2 3, 320, .inr (.inl (fun _ => 0)))), (q16, .inr (3, [.ref u20_0])), (u20_0, .inl (g.2 3, 320, .inr (.inl (fun _ => 0))))] := hD
  refine va_putF (D := D) (ci := 6) (v := .ref q16) (ty := .object "SchemaDesk$Marks") (C := R_Vd) (T := T_Vd) (N := 6) hx hb hts in_Vd ty_Vd ty_Vd_ok nm_Vd hown hK hP hD hS 0 rfl rfl 5 (by decide) (hts _ gw311) (fun _ h9 => h9) rfl hin rfl (by decide +kernel) rfl rfl (Nat.le_of_ble_eq_true rfl) d_Vd_init_23 (fun H locs hP hD hS => ?_)
  have hP : va_P D vwCl [(h0, .inr (6, [.null, .null, .null, .int 0, .ref q5, .ref q16])), (a1, .inr (5, [.ref t0, .int 0, .ref t2, .ref t3, .ref t4, .ref t5, .int 0, .int 0, .ref t8, .ref t9])), (q5, .inr (3, [.ref u9_0])), (u9_0, .inl (g.2 3, 320, .inr (.inl (fun _ => 0)))), (q16, .inr (3, [.ref u20_0])), (u20_0, .inl (g.2 3, 320, .inr (.inl (fun _ => 0))))] H := hP
  have hD : va_D A [(h0, .inr (6, [.null, .null, .null, .int 0, .ref q5, .ref q16])), (a1, .inr (5, [.ref t0, .int 0, .ref t2, .ref t3, .ref t4, .ref t5, .int 0, .int 0, .ref t8, .ref t9])), (q5, .inr (3, [.ref u9_0])), (u9_0, .inl (g.2 3, 320, .inr (.inl (fun _ => 0)))), (q16, .inr (3, [.ref u20_0])), (u20_0, .inl (g.2 3, 320, .inr (.inl (fun _ => 0))))] := hD
  refine lv_aload_n hx hb d_Vd_init_26 rfl (lv_at hl 0 rfl) ?_
  refine lv_aload_n hx hb d_Vd_init_27 rfl (lv_at hl 1 rfl) ?_
  refine va_putF (D := D) (ci := 6) (v := .ref a1) (ty := .object "SchemaDesk$Plan") (C := R_Vd) (T := T_Vd) (N := 6) hx hb hts in_Vd ty_Vd ty_Vd_ok nm_Vd hown hK hP hD hS 0 rfl rfl 0 (by decide) (hts _ gw299) (fun _ h9 => h9) rfl hin rfl (by decide +kernel) rfl rfl (Nat.le_of_ble_eq_true rfl) d_Vd_init_28 (fun H locs hP hD hS => ?_)
  have hP : va_P D vwCl [(h0, .inr (6, [.ref a1, .null, .null, .int 0, .ref q5, .ref q16])), (a1, .inr (5, [.ref t0, .int 0, .ref t2, .ref t3, .ref t4, .ref t5, .int 0, .int 0, .ref t8, .ref t9])), (q5, .inr (3, [.ref u9_0])), (u9_0, .inl (g.2 3, 320, .inr (.inl (fun _ => 0)))), (q16, .inr (3, [.ref u20_0])), (u20_0, .inl (g.2 3, 320, .inr (.inl (fun _ => 0))))] H := hP
  have hD : va_D A [(h0, .inr (6, [.ref a1, .null, .null, .int 0, .ref q5, .ref q16])), (a1, .inr (5, [.ref t0, .int 0, .ref t2, .ref t3, .ref t4, .ref t5, .int 0, .int 0, .ref t8, .ref t9])), (q5, .inr (3, [.ref u9_0])), (u9_0, .inl (g.2 3, 320, .inr (.inl (fun _ => 0)))), (q16, .inr (3, [.ref u20_0])), (u20_0, .inl (g.2 3, 320, .inr (.inl (fun _ => 0))))] := hD
  refine lv_aload_n hx hb d_Vd_init_31 rfl (lv_at hl 0 rfl) ?_
  refine lv_aload_n hx hb d_Vd_init_32 rfl (lv_at hl 1 rfl) ?_
  refine va_get (D := D) (ci := 5) (v := .ref t0) (C := R_Pl) (T := T_Pl) (N := 10) hx hb hts in_Pl hown hK hP 1 rfl rfl 0 (by decide) (hts _ gw232) (fun _ h9 => h9) rfl d_Vd_init_33 ?_
  refine va_putF (D := D) (ci := 6) (v := .ref t0) (ty := .object "SchemaDesk$Tree") (C := R_Vd) (T := T_Vd) (N := 6) hx hb hts in_Vd ty_Vd ty_Vd_ok nm_Vd hown hK hP hD hS 0 rfl rfl 1 (by decide) (hts _ gw302) (fun _ h9 => h9) rfl hin rfl (by decide +kernel) rfl rfl (Nat.le_of_ble_eq_true rfl) d_Vd_init_36 (fun H locs hP hD hS => ?_)
  have hP : va_P D vwCl [(h0, .inr (6, [.ref a1, .ref t0, .null, .int 0, .ref q5, .ref q16])), (a1, .inr (5, [.ref t0, .int 0, .ref t2, .ref t3, .ref t4, .ref t5, .int 0, .int 0, .ref t8, .ref t9])), (q5, .inr (3, [.ref u9_0])), (u9_0, .inl (g.2 3, 320, .inr (.inl (fun _ => 0)))), (q16, .inr (3, [.ref u20_0])), (u20_0, .inl (g.2 3, 320, .inr (.inl (fun _ => 0))))] H := hP
  have hD : va_D A [(h0, .inr (6, [.ref a1, .ref t0, .null, .int 0, .ref q5, .ref q16])), (a1, .inr (5, [.ref t0, .int 0, .ref t2, .ref t3, .ref t4, .ref t5, .int 0, .int 0, .ref t8, .ref t9])), (q5, .inr (3, [.ref u9_0])), (u9_0, .inl (g.2 3, 320, .inr (.inl (fun _ => 0)))), (q16, .inr (3, [.ref u20_0])), (u20_0, .inl (g.2 3, 320, .inr (.inl (fun _ => 0))))] := hD
  refine lv_aload_n hx hb d_Vd_init_39 rfl (lv_at hl 0 rfl) ?_
  refine lv_aload_n hx hb d_Vd_init_40 rfl (lv_at hl 2 rfl) ?_
  refine va_putF (D := D) (ci := 6) (v := .ref a2) (ty := .object "SchemaDesk$Tree") (C := R_Vd) (T := T_Vd) (N := 6) hx hb hts in_Vd ty_Vd ty_Vd_ok nm_Vd hown hK hP hD hS 0 rfl rfl 2 (by decide) (hts _ gw305) (fun _ h9 => h9) rfl hin rfl (by decide +kernel) rfl rfl (Nat.le_of_ble_eq_true rfl) d_Vd_init_41 (fun H locs hP hD hS => ?_)
  have hP : va_P D vwCl [(h0, .inr (6, [.ref a1, .ref t0, .ref a2, .int 0, .ref q5, .ref q16])), (a1, .inr (5, [.ref t0, .int 0, .ref t2, .ref t3, .ref t4, .ref t5, .int 0, .int 0, .ref t8, .ref t9])), (q5, .inr (3, [.ref u9_0])), (u9_0, .inl (g.2 3, 320, .inr (.inl (fun _ => 0)))), (q16, .inr (3, [.ref u20_0])), (u20_0, .inl (g.2 3, 320, .inr (.inl (fun _ => 0))))] H := hP
  have hD : va_D A [(h0, .inr (6, [.ref a1, .ref t0, .ref a2, .int 0, .ref q5, .ref q16])), (a1, .inr (5, [.ref t0, .int 0, .ref t2, .ref t3, .ref t4, .ref t5, .int 0, .int 0, .ref t8, .ref t9])), (q5, .inr (3, [.ref u9_0])), (u9_0, .inl (g.2 3, 320, .inr (.inl (fun _ => 0)))), (q16, .inr (3, [.ref u20_0])), (u20_0, .inl (g.2 3, 320, .inr (.inl (fun _ => 0))))] := hD
  have hP9 := hP.sub (ws' := [(h0, .inr (6, [.ref a1, .ref t0, .ref a2, .int 0, .ref q5, .ref q16])), (a1, .inr (5, [.ref t0, .int 0, .ref t2, .ref t3, .ref t4, .ref t5, .int 0, .int 0, .ref t8, .ref t9])), (q5, .inr (3, [.ref u9_0])), (u9_0, .inl (g.2 3, 320, .inr (.inl (fun _ => 0)))), (q16, .inr (3, [.ref u20_0])), (u20_0, .inl (g.2 3, 320, .inr (.inl (fun _ => 0))))]) [0, 1, 2, 3, 4, 5] rfl
  have hD9 := hD.sub (ws' := [(h0, .inr (6, [.ref a1, .ref t0, .ref a2, .int 0, .ref q5, .ref q16])), (a1, .inr (5, [.ref t0, .int 0, .ref t2, .ref t3, .ref t4, .ref t5, .int 0, .int 0, .ref t8, .ref t9])), (q5, .inr (3, [.ref u9_0])), (u9_0, .inl (g.2 3, 320, .inr (.inl (fun _ => 0)))), (q16, .inr (3, [.ref u20_0])), (u20_0, .inl (g.2 3, 320, .inr (.inl (fun _ => 0))))]) [0, 1, 2, 3, 4, 5] (by decide) rfl
  refine W.widen (k := 4) (n := 642) (Nat.le_of_ble_eq_true rfl) (Nat.le_of_ble_eq_true rfl) ?_
  exact W.vret hx hb hr (fun t ht _ => ⟨⟨(fun k => match k with | 0 => q5 | 1 => u9_0 | 2 => q16 | 3 => u20_0 | _ => 0), rfl, trivial, by rw [ht]; exact hP9, hD9⟩, hS.F ht⟩) hS.2.2 d_Vd_init_44 hlocks
abbrev k_Rp_init : ByteArray := prog_6_method_1_code
abbrev y_Rp_init : MethodName := ⟨"SchemaDesk$Report", "<init>", "(LSchemaDesk$Verdicts;)V"⟩
theorem d_Rp_init_0 : decode k_Rp_init 0 = .ok (.aload_n 0, 1) := by decide +kernel
theorem d_Rp_init_1 : decode k_Rp_init 1 = .ok (.invokespecial 3, 3) := by decide +kernel
theorem d_Rp_init_4 : decode k_Rp_init 4 = .ok (.aload_n 0, 1) := by decide +kernel
theorem d_Rp_init_5 : decode k_Rp_init 5 = .ok (.bipush 64, 2) := by decide +kernel
theorem d_Rp_init_7 : decode k_Rp_init 7 = .ok (.newarray .int, 2) := by decide +kernel
theorem d_Rp_init_9 : decode k_Rp_init 9 = .ok (.putfield 9, 3) := by decide +kernel
theorem d_Rp_init_12 : decode k_Rp_init 12 = .ok (.aload_n 0, 1) := by decide +kernel
theorem d_Rp_init_13 : decode k_Rp_init 13 = .ok (.new 15, 3) := by decide +kernel
theorem d_Rp_init_16 : decode k_Rp_init 16 = .ok (.dup, 1) := by decide +kernel
theorem d_Rp_init_17 : decode k_Rp_init 17 = .ok (.invokespecial 17, 3) := by decide +kernel
theorem d_Rp_init_20 : decode k_Rp_init 20 = .ok (.putfield 18, 3) := by decide +kernel
theorem d_Rp_init_23 : decode k_Rp_init 23 = .ok (.aload_n 0, 1) := by decide +kernel
theorem d_Rp_init_24 : decode k_Rp_init 24 = .ok (.new 15, 3) := by decide +kernel
theorem d_Rp_init_27 : decode k_Rp_init 27 = .ok (.dup, 1) := by decide +kernel
theorem d_Rp_init_28 : decode k_Rp_init 28 = .ok (.invokespecial 17, 3) := by decide +kernel
theorem d_Rp_init_31 : decode k_Rp_init 31 = .ok (.putfield 22, 3) := by decide +kernel
theorem d_Rp_init_34 : decode k_Rp_init 34 = .ok (.aload_n 0, 1) := by decide +kernel
theorem d_Rp_init_35 : decode k_Rp_init 35 = .ok (.aload_n 1, 1) := by decide +kernel
theorem d_Rp_init_36 : decode k_Rp_init 36 = .ok (.putfield 25, 3) := by decide +kernel
theorem d_Rp_init_39 : decode k_Rp_init 39 = .ok (.aload_n 0, 1) := by decide +kernel
theorem d_Rp_init_40 : decode k_Rp_init 40 = .ok (.aload_n 1, 1) := by decide +kernel
theorem d_Rp_init_41 : decode k_Rp_init 41 = .ok (.getfield 29, 3) := by decide +kernel
theorem d_Rp_init_44 : decode k_Rp_init 44 = .ok (.putfield 35, 3) := by decide +kernel
theorem d_Rp_init_47 : decode k_Rp_init 47 = .ok (.aload_n 0, 1) := by decide +kernel
theorem d_Rp_init_48 : decode k_Rp_init 48 = .ok (.aload_n 1, 1) := by decide +kernel
theorem d_Rp_init_49 : decode k_Rp_init 49 = .ok (.getfield 36, 3) := by decide +kernel
theorem d_Rp_init_52 : decode k_Rp_init 52 = .ok (.putfield 40, 3) := by decide +kernel
theorem d_Rp_init_55 : decode k_Rp_init 55 = .ok (.aload_n 0, 1) := by decide +kernel
theorem d_Rp_init_56 : decode k_Rp_init 56 = .ok (.aload_n 1, 1) := by decide +kernel
theorem d_Rp_init_57 : decode k_Rp_init 57 = .ok (.getfield 41, 3) := by decide +kernel
theorem d_Rp_init_60 : decode k_Rp_init 60 = .ok (.putfield 44, 3) := by decide +kernel
theorem d_Rp_init_63 : decode k_Rp_init 63 = .ok (.return_, 1) := by decide +kernel
theorem gw330 : (Jvm.Cond.methodLink "SchemaDesk$Report" (3 : Nat) ({ cls := "java/lang/Object", name := "<init>", desc := "()V" } : Jvm.MethodName)) ∈ GW := gw_t2 (List.mem_of_getElem? (i := 90) rfl) rfl
theorem gw331 : (Jvm.Cond.classLink "SchemaDesk$Report" (15 : Nat) "SchemaDesk$Marks") ∈ GW := gw_t2 (List.mem_of_getElem? (i := 91) rfl) rfl
theorem gw300 : (Jvm.Cond.fieldLink "SchemaDesk$Report" (29 : Nat) "SchemaDesk$Verdicts" "plan" "LSchemaDesk$Plan;") ∈ GW := gw_t2 (List.mem_of_getElem? (i := 60) rfl) rfl
theorem gw303 : (Jvm.Cond.fieldLink "SchemaDesk$Report" (36 : Nat) "SchemaDesk$Verdicts" "schema" "LSchemaDesk$Tree;") ∈ GW := gw_t2 (List.mem_of_getElem? (i := 63) rfl) rfl
theorem gw306 : (Jvm.Cond.fieldLink "SchemaDesk$Report" (41 : Nat) "SchemaDesk$Verdicts" "document" "LSchemaDesk$Tree;") ∈ GW := gw_t2 (List.mem_of_getElem? (i := 66) rfl) rfl
set_option maxRecDepth 100000 in
set_option maxHeartbeats 4000000 in
theorem c_Rp_init (l : Launch) {D : va_G} {g : Gm} (h0 a1 t0 t1 t2 t4 t5 sz : Nat) : Met l y_Rp_init (.code y_Rp_init k_Rp_init 2 none :: GW) { frames := 2, cells := 5, slots := 706, locals := 32 } (va_Pc [.ref h0, .ref a1] (fun U => U.heap.size = sz ∧ va_P D vwCl [(h0, .inr (7, [.int 0, .null, .null, .null, .null, .null, .null, .null])), (a1, .inr (6, [.ref t0, .ref t1, .ref t2, .int 0, .ref t4, .ref t5]))] U.heap ∧ va_K D vwCl (TYS g) U ∧ va_D (fun _ => True) [(h0, .inr (7, [.int 0, .null, .null, .null, .null, .null, .null, .null])), (a1, .inr (6, [.ref t0, .ref t1, .ref t2, .int 0, .ref t4, .ref t5]))] ∧ nestW U)) (va_Qv (S := Nat → Nat) (fun _ => True) (fun u t => va_P D vwCl [(h0, .inr (7, [.int 0, .ref (u 0), .ref a1, .ref t0, .ref t1, .ref t2, .ref (u 1), .ref (u 3)])), (a1, .inr (6, [.ref t0, .ref t1, .ref t2, .int 0, .ref t4, .ref t5])), ((u 0), .inl (g.2 0, 64, .inl (fun _ => 0))), ((u 1), .inr (3, [.ref (u 2)])), ((u 2), .inl (g.2 3, 320, .inr (.inl (fun _ => 0)))), ((u 3), .inr (3, [.ref (u 4)])), ((u 4), .inl (g.2 3, 320, .inr (.inl (fun _ => 0))))] t.heap ∧ va_D (va_A [(h0, .inr (7, [.int 0, .null, .null, .null, .null, .null, .null, .null])), (a1, .inr (6, [.ref t0, .ref t1, .ref t2, .int 0, .ref t4, .ref t5]))] sz) [(h0, .inr (7, [.int 0, .ref (u 0), .ref a1, .ref t0, .ref t1, .ref t2, .ref (u 1), .ref (u 3)])), (a1, .inr (6, [.ref t0, .ref t1, .ref t2, .int 0, .ref t4, .ref t5])), ((u 0), .inl (g.2 0, 64, .inl (fun _ => 0))), ((u 1), .inr (3, [.ref (u 2)])), ((u 2), .inl (g.2 3, 320, .inr (.inl (fun _ => 0)))), ((u 3), .inr (3, [.ref (u 4)])), ((u 4), .inl (g.2 3, 320, .inr (.inl (fun _ => 0))))]) (va_A [(h0, .inr (7, [.int 0, .null, .null, .null, .null, .null, .null, .null])), (a1, .inr (6, [.ref t0, .ref t1, .ref t2, .int 0, .ref t4, .ref t5]))] sz)) 5 706 (va_A [(h0, .inr (7, [.int 0, .null, .null, .null, .null, .null, .null, .null])), (a1, .inr (6, [.ref t0, .ref t1, .ref t2, .int 0, .ref t4, .ref t5]))] sz) := by
  refine Met.ofW (cc := k_Rp_init) (maxL := 2) (ret := none) (by decide) rfl ?_
  intro p e s m args below meth c s₁ B hml hv
  obtain ⟨rfl, hsz, hP, hK, hD0, hNw⟩ := hv
  have hx := B.exec
  have hb := B.bytes
  have hr := B.returns
  have hts0 := atoms_spec (ws := .code y_Rp_init k_Rp_init 2 none :: GW) B.pre
  have hts : ∀ w ∈ GW, w.before _ s = true := fun w h => hts0 w (List.mem_cons_of_mem _ h)
  have hown : s.vm.findClass R_Rp = some m.cls := findClass_of_methodNamed B.named
  have hlocks := B.notSynchronized
  have hin : meth.name = "<init>" := (name_of_methodNamed B.named B.method).1
  subst hsz
  have hD := hD0.self (sz := s.heap.size)
  generalize hAe : va_A [(h0, .inr (7, [.int 0, .null, .null, .null, .null, .null, .null, .null])), (a1, .inr (6, [.ref t0, .ref t1, .ref t2, .int 0, .ref t4, .ref t5]))] s.heap.size = A at hD ⊢
  have hA : ∀ q : Nat, s.heap.size ≤ q → A q := fun q h => by rw [← hAe]; exact Or.inr h
  have hS : va_S A s.heap s.heap [] := va_S.rf
  have hP : va_P D vwCl [(h0, .inr (7, [.int 0, .null, .null, .null, .null, .null, .null, .null])), (a1, .inr (6, [.ref t0, .ref t1, .ref t2, .int 0, .ref t4, .ref t5]))] s.heap := hP
  have hl := lv_entry ([.ref h0, .ref a1]) (n := 2) (Nat.le_of_ble_eq_true rfl)
  rw [lg_entry_eq]
  generalize (lg_sl ([.ref h0, .ref a1]) ++ List.replicate (2 - (lg_sl ([.ref h0, .ref a1])).length) Slot.unset).toArray = ls at hl ⊢
  have hl : lv_has ls 2 [(0, .ref h0), (1, .ref a1)] := hl
  refine lv_aload_n hx hb d_Rp_init_0 rfl (lv_at hl 0 rfl) ?_
  refine W.objInit hx hb hown (hts _ gw330) (hts _ gw33) (hts _ gw34) rfl (by rw [hml]; exact hl.1) rfl d_Rp_init_1 (Nat.le_of_ble_eq_true rfl) (Nat.le_of_ble_eq_true rfl) ?_
  refine W.eq (g2 := F0 m 4 ls []) rfl ?_
  refine lv_aload_n hx hb d_Rp_init_4 rfl (lv_at hl 0 rfl) ?_
  refine lv_bipush (v := (64 : Int32)) hx hb d_Rp_init_5 (by decide) ?_
  refine va_newa (atype := .int) (a0 := (64, .inl (fun _ => 0))) hx hb (hts _ gw96) rfl hK hP hD hS hA (fun _ => rfl) (by decide) (by decide) (by decide) (Nat.le_of_ble_eq_true rfl) (Nat.le_of_ble_eq_true rfl) d_Rp_init_7 (fun q7 cA H hK2 hP hD hS => ?_)
  have hcA : cA = g.2 0 := Option.some.inj ((hK2.2 4 (cA, .int) rfl).2.symm.trans (hK2.2 0 (g.2 0, .int) rfl).2)
  subst hcA
  clear hK2
  have hP : va_P D vwCl [(h0, .inr (7, [.int 0, .null, .null, .null, .null, .null, .null, .null])), (a1, .inr (6, [.ref t0, .ref t1, .ref t2, .int 0, .ref t4, .ref t5])), (q7, .inl (g.2 0, 64, .inl (fun _ => 0)))] H := hP
  have hD : va_D A [(h0, .inr (7, [.int 0, .null, .null, .null, .null, .null, .null, .null])), (a1, .inr (6, [.ref t0, .ref t1, .ref t2, .int 0, .ref t4, .ref t5])), (q7, .inl (g.2 0, 64, .inl (fun _ => 0)))] := hD
  refine va_put (D := D) (ci := 7) (v := .ref q7) (ty := .array .int) (C := R_Rp) (T := T_Rp) (N := 8) hx hb hts in_Rp ty_Rp ty_Rp_ok nm_Rp hown hK hP hD hS 0 rfl rfl 1 (by decide) (hts _ gw335) (fun _ h9 => h9) rfl (by decide +kernel) rfl rfl (Nat.le_of_ble_eq_true rfl) d_Rp_init_9 (fun H locs hP hD hS => ?_)
  have hP : va_P D vwCl [(h0, .inr (7, [.int 0, .ref q7, .null, .null, .null, .null, .null, .null])), (a1, .inr (6, [.ref t0, .ref t1, .ref t2, .int 0, .ref t4, .ref t5])), (q7, .inl (g.2 0, 64, .inl (fun _ => 0)))] H := hP
  have hD : va_D A [(h0, .inr (7, [.int 0, .ref q7, .null, .null, .null, .null, .null, .null])), (a1, .inr (6, [.ref t0, .ref t1, .ref t2, .int 0, .ref t4, .ref t5])), (q7, .inl (g.2 0, 64, .inl (fun _ => 0)))] := hD
  refine lv_aload_n hx hb d_Rp_init_12 rfl (lv_at hl 0 rfl) ?_
  refine va_new (ci := 3) (fs := [.null]) (C := R_Mk) (T := T_Mk) (N := 1) hx hb hts in_Mk ty_Mk ty_Mk_ok hown (hts _ gw331) (hts _ gw289) (hts _ gw12) hK hP hD hS hA rfl (fun j hj => by rcases (show j = 0 by omega) with rfl <;> rfl) (Nat.le_of_ble_eq_true rfl) (Nat.le_of_ble_eq_true rfl) d_Rp_init_13 (fun q13 H hP hD hS => ?_)
  have hP : va_P D vwCl [(h0, .inr (7, [.int 0, .ref q7, .null, .null, .null, .null, .null, .null])), (a1, .inr (6, [.ref t0, .ref t1, .ref t2, .int 0, .ref t4, .ref t5])), (q7, .inl (g.2 0, 64, .inl (fun _ => 0))), (q13, .inr (3, [.null]))] H := hP
  have hD : va_D A [(h0, .inr (7, [.int 0, .ref q7, .null, .null, .null, .null, .null, .null])), (a1, .inr (6, [.ref t0, .ref t1, .ref t2, .int 0, .ref t4, .ref t5])), (q7, .inl (g.2 0, 64, .inl (fun _ => 0))), (q13, .inr (3, [.null]))] := hD
  refine lv_dup hx hb d_Rp_init_16 rfl ?_
  have hPc := hP.sub (ws' := [(q13, .inr (3, [.null]))]) [3] rfl
  have hDc := hD.sub (ws' := [(q13, .inr (3, [.null]))]) [3] (by decide) rfl
  have hFc := va_free (wc := [(q13, .inr (3, [.null]))]) hD hS hA [3] rfl
  refine va_callv (va_runIN (As := []) (rest := [.ref q13, .ref h0]) ⟨hx, hb, hml, hown, hts⟩ (c_Mk_init l q13 H.size) ⟨va_cnB 0 hts (gd_i gw292) rfl rfl rfl hNw.2.1 (hts _ gw12) (by decide +kernel) ⟨Nat.le_of_ble_eq_true rfl, Nat.le_of_ble_eq_true rfl⟩, rfl, hts _ gw291⟩ ⟨kb_blind, fun U hU hW => ⟨rfl, by rw [hU], by rw [hU]; exact hPc, va_K.moved hW.alike hK, hDc.weaken (fun _ _ _ _ => trivial), nestW.moved hW hNw⟩⟩ rfl rfl hl.1 rfl (lv_room (Nat.le_of_ble_eq_true rfl)) d_Rp_init_17 ⟨Nat.le_of_ble_eq_true rfl, Nat.le_of_ble_eq_true rfl⟩) hS (fun q _ h => hFc q h) hFc (fun u17 t H1 locs ht hvm _ hB hz1 hk1 hS => ?_)
  obtain ⟨hP1, hD1⟩ := hB
  rw [ht] at hP1
  obtain ⟨hP, hD⟩ := va_join (wr := [(h0, .inr (7, [.int 0, .ref q7, .null, .null, .null, .null, .null, .null])), (a1, .inr (6, [.ref t0, .ref t1, .ref t2, .int 0, .ref t4, .ref t5])), (q7, .inl (g.2 0, 64, .inl (fun _ => 0)))]) (w1 := [(q13, .inr (3, [.ref (u17 0)])), ((u17 0), .inl (g.2 3, 320, .inr (.inl (fun _ => 0))))]) hP hD [3] [0, 1, 2] rfl rfl (by decide) (by decide) hk1 hFc hP1 hD1
  clear hP1 hD1 hPc hDc hFc hk1 hz1
  generalize H1 = H at hP hS ⊢
  generalize u17 0 = u17_0 at hP hD
  have hP : va_P D vwCl [(h0, .inr (7, [.int 0, .ref q7, .null, .null, .null, .null, .null, .null])), (a1, .inr (6, [.ref t0, .ref t1, .ref t2, .int 0, .ref t4, .ref t5])), (q7, .inl (g.2 0, 64, .inl (fun _ => 0))), (q13, .inr (3, [.ref u17_0])), (u17_0, .inl (g.2 3, 320, .inr (.inl (fun _ => 0))))] H := hP
  have hD : va_D A [(h0, .inr (7, [.int 0, .ref q7, .null, .null, .null, .null, .null, .null])), (a1, .inr (6, [.ref t0, .ref t1, .ref t2, .int 0, .ref t4, .ref t5])), (q7, .inl (g.2 0, 64, .inl (fun _ => 0))), (q13, .inr (3, [.ref u17_0])), (u17_0, .inl (g.2 3, 320, .inr (.inl (fun _ => 0))))] := hD
  refine va_putF (D := D) (ci := 7) (v := .ref q13) (ty := .object "SchemaDesk$Marks") (C := R_Rp) (T := T_Rp) (N := 8) hx hb hts in_Rp ty_Rp ty_Rp_ok nm_Rp hown hK hP hD hS 0 rfl rfl 6 (by decide) (hts _ gw340) (fun _ h9 => h9) rfl hin rfl (by decide +kernel) rfl rfl (Nat.le_of_ble_eq_true rfl) d_Rp_init_20 (fun H locs hP hD hS => ?_)
  have hP : va_P D vwCl [(h0, .inr (7, [.int 0, .ref q7, .null, .null, .null, .null, .ref q13, .null])), (a1, .inr (6, [.ref t0, .ref t1, .ref t2, .int 0, .ref t4, .ref t5])), (q7, .inl (g.2 0, 64, .inl (fun _ => 0))), (q13, .inr (3, [.ref u17_0])), (u17_0, .inl (g.2 3, 320, .inr (.inl (fun _ => 0))))] H := hP
  have hD : va_D A [(h0, .inr (7, [.int 0, .ref q7, .null, .null, .null, .null, .ref q13, .null])), (a1, .inr (6, [.ref t0, .ref t1, .ref t2, .int 0, .ref t4, .ref t5])), (q7, .inl (g.2 0, 64, .inl (fun _ => 0))), (q13, .inr (3, [.ref u17_0])), (u17_0, .inl (g.2 3, 320, .inr (.inl (fun _ => 0))))] := hD
  refine lv_aload_n hx hb d_Rp_init_23 rfl (lv_at hl 0 rfl) ?_
  refine va_new (ci := 3) (fs := [.null]) (C := R_Mk) (T := T_Mk) (N := 1) hx hb hts in_Mk ty_Mk ty_Mk_ok hown (hts _ gw331) (hts _ gw289) (hts _ gw12) hK hP hD hS hA rfl (fun j hj => by rcases (show j = 0 by omega) with rfl <;> rfl) (Nat.le_of_ble_eq_true rfl) (Nat.le_of_ble_eq_true rfl) d_Rp_init_24 (fun q24 H hP hD hS => ?_)
  have hP : va_P D vwCl [(h0, .inr (7, [.int 0, .ref q7, .null, .null, .null, .null, .ref q13, .null])), (a1, .inr (6, [.ref t0, .ref t1, .ref t2, .int 0, .ref t4, .ref t5])), (q7, .inl (g.2 0, 64, .inl (fun _ => 0))), (q13, .inr (3, [.ref u17_0])), (u17_0, .inl (g.2 3, 320, .inr (.inl (fun _ => 0)))), (q24, .inr (3, [.null]))] H := hP
  have hD : va_D A [(h0, .inr (7, [.int 0, .ref q7, .null, .null, .null, .null, .ref q13, .null])), (a1, .inr (6, [.ref t0, .ref t1, .ref t2, .int 0, .ref t4, .ref t5])), (q7, .inl (g.2 0, 64, .inl (fun _ => 0))), (q13, .inr (3, [.ref u17_0])), (u17_0, .inl (g.2 3, 320, .inr (.inl (fun _ => 0)))), (q24, .inr (3, [.null]))] := hD
  refine lv_dup hx hb d_Rp_init_27 rfl ?_
  have hPc := hP.sub (ws' := [(q24, .inr (3, [.null]))]) [5] rfl
  have hDc := hD.sub (ws' := [(q24, .inr (3, [.null]))]) [5] (by decide) rfl
  have hFc := va_free (wc := [(q24, .inr (3, [.null]))]) hD hS hA [5] rfl
  refine va_callv (va_runIN (As := []) (rest := [.ref q24, .ref h0]) ⟨hx, hb, hml, hown, hts⟩ (c_Mk_init l q24 H.size) ⟨va_cnB 0 hts (gd_i gw292) rfl rfl rfl hNw.2.1 (hts _ gw12) (by decide +kernel) ⟨Nat.le_of_ble_eq_true rfl, Nat.le_of_ble_eq_true rfl⟩, rfl, hts _ gw291⟩ ⟨kb_blind, fun U hU hW => ⟨rfl, by rw [hU], by rw [hU]; exact hPc, va_K.moved hW.alike hK, hDc.weaken (fun _ _ _ _ => trivial), nestW.moved hW hNw⟩⟩ rfl rfl hl.1 rfl (lv_room (Nat.le_of_ble_eq_true rfl)) d_Rp_init_28 ⟨Nat.le_of_ble_eq_true rfl, Nat.le_of_ble_eq_true rfl⟩) hS (fun q _ h => hFc q h) hFc (fun u28 t H1 locs ht hvm _ hB hz1 hk1 hS => ?_)
  obtain ⟨hP1, hD1⟩ := hB
  rw [ht] at hP1
  obtain ⟨hP, hD⟩ := va_join (wr := [(h0, .inr (7, [.int 0, .ref q7, .null, .null, .null, .null, .ref q13, .null])), (a1, .inr (6, [.ref t0, .ref t1, .ref t2, .int 0, .ref t4, .ref t5])), (q7, .inl (g.2 0, 64, .inl (fun _ => 0))), (q13, .inr (3, [.ref u17_0])), (u17_0, .inl (g.2 3, 320, .inr (.inl (fun _ => 0))))]) (w1 := [(q24, .inr (3, [.ref (u28 0)])), ((u28 0), .inl (g.2 3, 320, .inr (.inl (fun _ => 0))))]) hP hD [5] [0, 1, 2, 3, 4] rfl rfl (by decide) (by decide) hk1 hFc hP1 hD1
  clear hP1 hD1 hPc hDc hFc hk1 hz1
  generalize H1 = H at hP hS ⊢
  generalize u28 0 = u28_0 at hP hD
  have hP : va_P D vwCl [(h0, .inr (7, [.int 0, .ref q7, .null, .null, .null, .null, .ref q13, .null])), (a1, .inr (6, [.ref t0, .ref t1, .ref t2, .int 0, .ref t4, .ref t5])), (q7, .inl (g.2 0, 64, .inl (fun _ => 0))), (q13, .inr (3, [.ref u17_0])), (u17_0, .inl (g.2 3, 320, .inr (.inl (fun _ => 0)))), (q24, .inr (3, [.ref u28_0])), (u28_0, .inl (g.2 3, 320, .inr (.inl (fun _ => 0))))] H := hP
  have hD : va_D A [(h0, .inr (7, [.int 0, .ref q7, .null, .null, .null, .null, .ref q13, .null])), (a1, .inr (6, [.ref t0, .ref t1, .ref t2, .int 0, .ref t4, .ref t5])), (q7, .inl (g.2 0, 64, .inl (fun _ => 0))), (q13, .inr (3, [.ref u17_0])), (u17_0, .inl (g.2 3, 320, .inr (.inl (fun _ => 0)))), (q24, .inr (3, [.ref u28_0])), (u28_0, .inl (g.2 3, 320, .inr (.inl (fun _ => 0))))] := hD
  refine va_putF (D := D) (ci := 7) (v := .ref q24) (ty := .object "SchemaDesk$Marks") (C := R_Rp) (T := T_Rp) (N := 8) hx hb hts in_Rp ty_Rp ty_Rp_ok nm_Rp hown hK hP hD hS 0 rfl rfl 7 (by decide) (hts _ gw341) (fun _ h9 => h9) rfl hin rfl (by decide +kernel) rfl rfl (Nat.le_of_ble_eq_true rfl) d_Rp_init_31 (fun H locs hP hD hS => ?_)
  have hP : va_P D vwCl [(h0, .inr (7, [.int 0, .ref q7, .null, .null, .null, .null, .ref q13, .ref q24])), (a1, .inr (6, [.ref t0, .ref t1, .ref t2, .int 0, .ref t4, .ref t5])), (q7, .inl (g.2 0, 64, .inl (fun _ => 0))), (q13, .inr (3, [.ref u17_0])), (u17_0, .inl (g.2 3, 320, .inr (.inl (fun _ => 0)))), (q24, .inr (3, [.ref u28_0])), (u28_0, .inl (g.2 3, 320, .inr (.inl (fun _ => 0))))] H := hP
  have hD : va_D A [(h0, .inr (7, [.int 0, .ref q7, .null, .null, .null, .null, .ref q13, .ref q24])), (a1, .inr (6, [.ref t0, .ref t1, .ref t2, .int 0, .ref t4, .ref t5])), (q7, .inl (g.2 0, 64, .inl (fun _ => 0))), (q13, .inr (3, [.ref u17_0])), (u17_0, .inl (g.2 3, 320, .inr (.inl (fun _ => 0)))), (q24, .inr (3, [.ref u28_0])), (u28_0, .inl (g.2 3, 320, .inr (.inl (fun _ => 0))))] := hD
  refine lv_aload_n hx hb d_Rp_init_34 rfl (lv_at hl 0 rfl) ?_
  refine lv_aload_n hx hb d_Rp_init_35 rfl (lv_at hl 1 rfl) ?_
  refine va_putF (D := D) (ci := 7) (v := .ref a1) (ty := .object "SchemaDesk$Verdicts") (C := R_Rp) (T := T_Rp) (N := 8) hx hb hts in_Rp ty_Rp ty_Rp_ok nm_Rp hown hK hP hD hS 0 rfl rfl 2 (by decide) (hts _ gw336) (fun _ h9 => h9) rfl hin rfl (by decide +kernel) rfl rfl (Nat.le_of_ble_eq_true rfl) d_Rp_init_36 (fun H locs hP hD hS => ?_)
  have hP : va_P D vwCl [(h0, .inr (7, [.int 0, .ref q7, .ref a1, .null, .null, .null, .ref q13, .ref q24])), (a1, .inr (6, [.ref t0, .ref t1, .ref t2, .int 0, .ref t4, .ref t5])), (q7, .inl (g.2 0, 64, .inl (fun _ => 0))), (q13, .inr (3, [.ref u17_0])), (u17_0, .inl (g.2 3, 320, .inr (.inl (fun _ => 0)))), (q24, .inr (3, [.ref u28_0])), (u28_0, .inl (g.2 3, 320, .inr (.inl (fun _ => 0))))] H := hP
  have hD : va_D A [(h0, .inr (7, [.int 0, .ref q7, .ref a1, .null, .null, .null, .ref q13, .ref q24])), (a1, .inr (6, [.ref t0, .ref t1, .ref t2, .int 0, .ref t4, .ref t5])), (q7, .inl (g.2 0, 64, .inl (fun _ => 0))), (q13, .inr (3, [.ref u17_0])), (u17_0, .inl (g.2 3, 320, .inr (.inl (fun _ => 0)))), (q24, .inr (3, [.ref u28_0])), (u28_0, .inl (g.2 3, 320, .inr (.inl (fun _ => 0))))] := hD
  refine lv_aload_n hx hb d_Rp_init_39 rfl (lv_at hl 0 rfl) ?_
  refine lv_aload_n hx hb d_Rp_init_40 rfl (lv_at hl 1 rfl) ?_
  refine va_get (D := D) (ci := 6) (v := .ref t0) (C := R_Vd) (T := T_Vd) (N := 6) hx hb hts in_Vd hown hK hP 1 rfl rfl 0 (by decide) (hts _ gw300) (fun _ h9 => h9) rfl d_Rp_init_41 ?_
  refine va_putF (D := D) (ci := 7) (v := .ref t0) (ty := .object "SchemaDesk$Plan") (C := R_Rp) (T := T_Rp) (N := 8) hx hb hts in_Rp ty_Rp ty_Rp_ok nm_Rp hown hK hP hD hS 0 rfl rfl 3 (by decide) (hts _ gw337) (fun _ h9 => h9) rfl hin rfl (by decide +kernel) rfl rfl (Nat.le_of_ble_eq_true rfl) d_Rp_init_44 (fun H locs hP hD hS => ?_)
  have hP : va_P D vwCl [(h0, .inr (7, [.int 0, .ref q7, .ref a1, .ref t0, .null, .null, .ref q13, .ref q24])), (a1, .inr (6, [.ref t0, .ref t1, .ref t2, .int 0, .ref t4, .ref t5])), (q7, .inl (g.2 0, 64, .inl (fun _ => 0))), (q13, .inr (3, [.ref u17_0])), (u17_0, .inl (g.2 3, 320, .inr (.inl (fun _ => 0)))), (q24, .inr (3, [.ref u28_0])), (u28_0, .inl (g.2 3, 320, .inr (.inl (fun _ => 0))))] H := hP
  have hD : va_D A [(h0, .inr (7, [.int 0, .ref q7, .ref a1, .ref t0, .null, .null, .ref q13, .ref q24])), (a1, .inr (6, [.ref t0, .ref t1, .ref t2, .int 0, .ref t4, .ref t5])), (q7, .inl (g.2 0, 64, .inl (fun _ => 0))), (q13, .inr (3, [.ref u17_0])), (u17_0, .inl (g.2 3, 320, .inr (.inl (fun _ => 0)))), (q24, .inr (3, [.ref u28_0])), (u28_0, .inl (g.2 3, 320, .inr (.inl (fun _ => 0))))] := hD
  refine lv_aload_n hx hb d_Rp_init_47 rfl (lv_at hl 0 rfl) ?_
  refine lv_aload_n hx hb d_Rp_init_48 rfl (lv_at hl 1 rfl) ?_
  refine va_get (D := D) (ci := 6) (v := .ref t1) (C := R_Vd) (T := T_Vd) (N := 6) hx hb hts in_Vd hown hK hP 1 rfl rfl 1 (by decide) (hts _ gw303) (fun _ h9 => h9) rfl d_Rp_init_49 ?_
  refine va_putF (D := D) (ci := 7) (v := .ref t1) (ty := .object "SchemaDesk$Tree") (C := R_Rp) (T := T_Rp) (N := 8) hx hb hts in_Rp ty_Rp ty_Rp_ok nm_Rp hown hK hP hD hS 0 rfl rfl 4 (by decide) (hts _ gw338) (fun _ h9 => h9) rfl hin rfl (by decide +kernel) rfl rfl (Nat.le_of_ble_eq_true rfl) d_Rp_init_52 (fun H locs hP hD hS => ?_)
  have hP : va_P D vwCl [(h0, .inr (7, [.int 0, .ref q7, .ref a1, .ref t0, .ref t1, .null, .ref q13, .ref q24])), (a1, .inr (6, [.ref t0, .ref t1, .ref t2, .int 0, .ref t4, .ref t5])), (q7, .inl (g.2 0, 64, .inl (fun _ => 0))), (q13, .inr (3, [.ref u17_0])), (u17_0, .inl (g.2 3, 320, .inr (.inl (fun _ => 0)))), (q24, .inr (3, [.ref u28_0])), (u28_0, .inl (g.2 3, 320, .inr (.inl (fun _ => 0))))] H := hP
  have hD : va_D A [(h0, .inr (7, [.int 0, .ref q7, .ref a1, .ref t0, .ref t1, .null, .ref q13, .ref q24])), (a1, .inr (6, [.ref t0, .ref t1, .ref t2, .int 0, .ref t4, .ref t5])), (q7, .inl (g.2 0, 64, .inl (fun _ => 0))), (q13, .inr (3, [.ref u17_0])), (u17_0, .inl (g.2 3, 320, .inr (.inl (fun _ => 0)))), (q24, .inr (3, [.ref u28_0])), (u28_0, .inl (g.2 3, 320, .inr (.inl (fun _ => 0))))] := hD
  refine lv_aload_n hx hb d_Rp_init_55 rfl (lv_at hl 0 rfl) ?_
  refine lv_aload_n hx hb d_Rp_init_56 rfl (lv_at hl 1 rfl) ?_
  refine va_get (D := D) (ci := 6) (v := .ref t2) (C := R_Vd) (T := T_Vd) (N := 6) hx hb hts in_Vd hown hK hP 1 rfl rfl 2 (by decide) (hts _ gw306) (fun _ h9 => h9) rfl d_Rp_init_57 ?_
  refine va_putF (D := D) (ci := 7) (v := .ref t2) (ty := .object "SchemaDesk$Tree") (C := R_Rp) (T := T_Rp) (N := 8) hx hb hts in_Rp ty_Rp ty_Rp_ok nm_Rp hown hK hP hD hS 0 rfl rfl 5 (by decide) (hts _ gw339) (fun _ h9 => h9) rfl hin rfl (by decide +kernel) rfl rfl (Nat.le_of_ble_eq_true rfl) d_Rp_init_60 (fun H locs hP hD hS => ?_)
  have hP : va_P D vwCl [(h0, .inr (7, [.int 0, .ref q7, .ref a1, .ref t0, .ref t1, .ref t2, .ref q13, .ref q24])), (a1, .inr (6, [.ref t0, .ref t1, .ref t2, .int 0, .ref t4, .ref t5])), (q7, .inl (g.2 0, 64, .inl (fun _ => 0))), (q13, .inr (3, [.ref u17_0])), (u17_0, .inl (g.2 3, 320, .inr (.inl (fun _ => 0)))), (q24, .inr (3, [.ref u28_0])), (u28_0, .inl (g.2 3, 320, .inr (.inl (fun _ => 0))))] H := hP
  have hD : va_D A [(h0, .inr (7, [.int 0, .ref q7, .ref a1, .ref t0, .ref t1, .ref t2, .ref q13, .ref q24])), (a1, .inr (6, [.ref t0, .ref t1, .ref t2, .int 0, .ref t4, .ref t5])), (q7, .inl (g.2 0, 64, .inl (fun _ => 0))), (q13, .inr (3, [.ref u17_0])), (u17_0, .inl (g.2 3, 320, .inr (.inl (fun _ => 0)))), (q24, .inr (3, [.ref u28_0])), (u28_0, .inl (g.2 3, 320, .inr (.inl (fun _ => 0))))] := hD
  have hP9 := hP.sub (ws' := [(h0, .inr (7, [.int 0, .ref q7, .ref a1, .ref t0, .ref t1, .ref t2, .ref q13, .ref q24])), (a1, .inr (6, [.ref t0, .ref t1, .ref t2, .int 0, .ref t4, .ref t5])), (q7, .inl (g.2 0, 64, .inl (fun _ => 0))), (q13, .inr (3, [.ref u17_0])), (u17_0, .inl (g.2 3, 320, .inr (.inl (fun _ => 0)))), (q24, .inr (3, [.ref u28_0])), (u28_0, .inl (g.2 3, 320, .inr (.inl (fun _ => 0))))]) [0, 1, 2, 3, 4, 5, 6] rfl
  have hD9 := hD.sub (ws' := [(h0, .inr (7, [.int 0, .ref q7, .ref a1, .ref t0, .ref t1, .ref t2, .ref q13, .ref q24])), (a1, .inr (6, [.ref t0, .ref t1, .ref t2, .int 0, .ref t4, .ref t5])), (q7, .inl (g.2 0, 64, .inl (fun _ => 0))), (q13, .inr (3, [.ref u17_0])), (u17_0, .inl (g.2 3, 320, .inr (.inl (fun _ => 0)))), (q24, .inr (3, [.ref u28_0])), (u28_0, .inl (g.2 3, 320, .inr (.inl (fun _ => 0))))]) [0, 1, 2, 3, 4, 5, 6] (by decide) rfl
  refine W.widen (k := 5) (n := 706) (Nat.le_of_ble_eq_true rfl) (Nat.le_of_ble_eq_true rfl) ?_
  exact W.vret hx hb hr (fun t ht _ => ⟨⟨(fun k => match k with | 0 => q7 | 1 => q13 | 2 => u17_0 | 3 => q24 | 4 => u28_0 | _ => 0), rfl, trivial, by rw [ht]; exact hP9, hD9⟩, hS.F ht⟩) hS.2.2 d_Rp_init_63 hlocks
abbrev k_Pr_init : ByteArray := prog_4_method_1_code
abbrev y_Pr_init : MethodName := ⟨"SchemaDesk$Proposals", "<init>", "(LSchemaDesk$Verdicts;)V"⟩
theorem d_Pr_init_0 : decode k_Pr_init 0 = .ok (.aload_n 0, 1) := by decide +kernel
theorem d_Pr_init_1 : decode k_Pr_init 1 = .ok (.invokespecial 3, 3) := by decide +kernel
theorem d_Pr_init_4 : decode k_Pr_init 4 = .ok (.aload_n 0, 1) := by decide +kernel
theorem d_Pr_init_5 : decode k_Pr_init 5 = .ok (.sipush 160, 3) := by decide +kernel
theorem d_Pr_init_8 : decode k_Pr_init 8 = .ok (.newarray .char, 2) := by decide +kernel
theorem d_Pr_init_10 : decode k_Pr_init 10 = .ok (.putfield 9, 3) := by decide +kernel
theorem d_Pr_init_13 : decode k_Pr_init 13 = .ok (.aload_n 0, 1) := by decide +kernel
theorem d_Pr_init_14 : decode k_Pr_init 14 = .ok (.sipush 161, 3) := by decide +kernel
theorem d_Pr_init_17 : decode k_Pr_init 17 = .ok (.newarray .int, 2) := by decide +kernel
theorem d_Pr_init_19 : decode k_Pr_init 19 = .ok (.putfield 15, 3) := by decide +kernel
theorem d_Pr_init_22 : decode k_Pr_init 22 = .ok (.aload_n 0, 1) := by decide +kernel
theorem d_Pr_init_23 : decode k_Pr_init 23 = .ok (.sipush 160, 3) := by decide +kernel
theorem d_Pr_init_26 : decode k_Pr_init 26 = .ok (.newarray .int, 2) := by decide +kernel
theorem d_Pr_init_28 : decode k_Pr_init 28 = .ok (.putfield 19, 3) := by decide +kernel
theorem d_Pr_init_31 : decode k_Pr_init 31 = .ok (.aload_n 0, 1) := by decide +kernel
theorem d_Pr_init_32 : decode k_Pr_init 32 = .ok (.new 22, 3) := by decide +kernel
theorem d_Pr_init_35 : decode k_Pr_init 35 = .ok (.dup, 1) := by decide +kernel
theorem d_Pr_init_36 : decode k_Pr_init 36 = .ok (.invokespecial 24, 3) := by decide +kernel
theorem d_Pr_init_39 : decode k_Pr_init 39 = .ok (.putfield 25, 3) := by decide +kernel
theorem d_Pr_init_42 : decode k_Pr_init 42 = .ok (.aload_n 0, 1) := by decide +kernel
theorem d_Pr_init_43 : decode k_Pr_init 43 = .ok (.aload_n 1, 1) := by decide +kernel
theorem d_Pr_init_44 : decode k_Pr_init 44 = .ok (.putfield 29, 3) := by decide +kernel
theorem d_Pr_init_47 : decode k_Pr_init 47 = .ok (.aload_n 0, 1) := by decide +kernel
theorem d_Pr_init_48 : decode k_Pr_init 48 = .ok (.aload_n 1, 1) := by decide +kernel
theorem d_Pr_init_49 : decode k_Pr_init 49 = .ok (.getfield 33, 3) := by decide +kernel
theorem d_Pr_init_52 : decode k_Pr_init 52 = .ok (.putfield 39, 3) := by decide +kernel
theorem d_Pr_init_55 : decode k_Pr_init 55 = .ok (.aload_n 0, 1) := by decide +kernel
theorem d_Pr_init_56 : decode k_Pr_init 56 = .ok (.aload_n 1, 1) := by decide +kernel
theorem d_Pr_init_57 : decode k_Pr_init 57 = .ok (.getfield 40, 3) := by decide +kernel
theorem d_Pr_init_60 : decode k_Pr_init 60 = .ok (.putfield 44, 3) := by decide +kernel
theorem d_Pr_init_63 : decode k_Pr_init 63 = .ok (.aload_n 0, 1) := by decide +kernel
theorem d_Pr_init_64 : decode k_Pr_init 64 = .ok (.aload_n 1, 1) := by decide +kernel
theorem d_Pr_init_65 : decode k_Pr_init 65 = .ok (.getfield 45, 3) := by decide +kernel
theorem d_Pr_init_68 : decode k_Pr_init 68 = .ok (.putfield 48, 3) := by decide +kernel
theorem d_Pr_init_71 : decode k_Pr_init 71 = .ok (.return_, 1) := by decide +kernel
theorem gw364 : (Jvm.Cond.methodLink "SchemaDesk$Proposals" (3 : Nat) ({ cls := "java/lang/Object", name := "<init>", desc := "()V" } : Jvm.MethodName)) ∈ GW := gw_t2 (List.mem_of_getElem? (i := 124) rfl) rfl
theorem gw365 : (Jvm.Cond.classLink "SchemaDesk$Proposals" (22 : Nat) "SchemaDesk$Marks") ∈ GW := gw_t2 (List.mem_of_getElem? (i := 125) rfl) rfl
theorem gw301 : (Jvm.Cond.fieldLink "SchemaDesk$Proposals" (33 : Nat) "SchemaDesk$Verdicts" "plan" "LSchemaDesk$Plan;") ∈ GW := gw_t2 (List.mem_of_getElem? (i := 61) rfl) rfl
theorem gw304 : (Jvm.Cond.fieldLink "SchemaDesk$Proposals" (40 : Nat) "SchemaDesk$Verdicts" "schema" "LSchemaDesk$Tree;") ∈ GW := gw_t2 (List.mem_of_getElem? (i := 64) rfl) rfl
theorem gw307 : (Jvm.Cond.fieldLink "SchemaDesk$Proposals" (45 : Nat) "SchemaDesk$Verdicts" "document" "LSchemaDesk$Tree;") ∈ GW := gw_t2 (List.mem_of_getElem? (i := 67) rfl) rfl
set_option maxRecDepth 100000 in
set_option maxHeartbeats 4000000 in
theorem c_Pr_init (l : Launch) {D : va_G} {g : Gm} (h0 a1 t0 t1 t2 t4 t5 sz : Nat) : Met l y_Pr_init (.code y_Pr_init k_Pr_init 2 none :: GW) { frames := 2, cells := 5, slots := 802, locals := 32 } (va_Pc [.ref h0, .ref a1] (fun U => U.heap.size = sz ∧ va_P D vwCl [(h0, .inr (8, [.int 0, .null, .null, .null, .int 0, .null, .null, .null, .null, .null])), (a1, .inr (6, [.ref t0, .ref t1, .ref t2, .int 0, .ref t4, .ref t5]))] U.heap ∧ va_K D vwCl (TYS g) U ∧ va_D (fun _ => True) [(h0, .inr (8, [.int 0, .null, .null, .null, .int 0, .null, .null, .null, .null, .null])), (a1, .inr (6, [.ref t0, .ref t1, .ref t2, .int 0, .ref t4, .ref t5]))] ∧ nestW U)) (va_Qv (S := Nat → Nat) (fun _ => True) (fun u t => va_P D vwCl [(h0, .inr (8, [.int 0, .ref (u 0), .ref (u 1), .ref (u 2), .int 0, .ref a1, .ref t0, .ref t1, .ref t2, .ref (u 3)])), (a1, .inr (6, [.ref t0, .ref t1, .ref t2, .int 0, .ref t4, .ref t5])), ((u 0), .inl (g.2 1, 160, .inl (fun _ => 0))), ((u 1), .inl (g.2 0, 161, .inl (fun _ => 0))), ((u 2), .inl (g.2 0, 160, .inl (fun _ => 0))), ((u 3), .inr (3, [.ref (u 4)])), ((u 4), .inl (g.2 3, 320, .inr (.inl (fun _ => 0))))] t.heap ∧ va_D (va_A [(h0, .inr (8, [.int 0, .null, .null, .null, .int 0, .null, .null, .null, .null, .null])), (a1, .inr (6, [.ref t0, .ref t1, .ref t2, .int 0, .ref t4, .ref t5]))] sz) [(h0, .inr (8, [.int 0, .ref (u 0), .ref (u 1), .ref (u 2), .int 0, .ref a1, .ref t0, .ref t1, .ref t2, .ref (u 3)])), (a1, .inr (6, [.ref t0, .ref t1, .ref t2, .int 0, .ref t4, .ref t5])), ((u 0), .inl (g.2 1, 160, .inl (fun _ => 0))), ((u 1), .inl (g.2 0, 161, .inl (fun _ => 0))), ((u 2), .inl (g.2 0, 160, .inl (fun _ => 0))), ((u 3), .inr (3, [.ref (u 4)])), ((u 4), .inl (g.2 3, 320, .inr (.inl (fun _ => 0))))]) (va_A [(h0, .inr (8, [.int 0, .null, .null, .null, .int 0, .null, .null, .null, .null, .null])), (a1, .inr (6, [.ref t0, .ref t1, .ref t2, .int 0, .ref t4, .ref t5]))] sz)) 5 802 (va_A [(h0, .inr (8, [.int 0, .null, .null, .null, .int 0, .null, .null, .null, .null, .null])), (a1, .inr (6, [.ref t0, .ref t1, .ref t2, .int 0, .ref t4, .ref t5]))] sz) := by
  refine Met.ofW (cc := k_Pr_init) (maxL := 2) (ret := none) (by decide) rfl ?_
  intro p e s m args below meth c s₁ B hml hv
  obtain ⟨rfl, hsz, hP, hK, hD0, hNw⟩ := hv
  have hx := B.exec
  have hb := B.bytes
  have hr := B.returns
  have hts0 := atoms_spec (ws := .code y_Pr_init k_Pr_init 2 none :: GW) B.pre
  have hts : ∀ w ∈ GW, w.before _ s = true := fun w h => hts0 w (List.mem_cons_of_mem _ h)
  have hown : s.vm.findClass R_Pr = some m.cls := findClass_of_methodNamed B.named
  have hlocks := B.notSynchronized
  have hin : meth.name = "<init>" := (name_of_methodNamed B.named B.method).1
  subst hsz
  have hD := hD0.self (sz := s.heap.size)
  generalize hAe : va_A [(h0, .inr (8, [.int 0, .null, .null, .null, .int 0, .null, .null, .null, .null, .null])), (a1, .inr (6, [.ref t0, .ref t1, .ref t2, .int 0, .ref t4, .ref t5]))] s.heap.size = A at hD ⊢
  have hA : ∀ q : Nat, s.heap.size ≤ q → A q := fun q h => by rw [← hAe]; exact Or.inr h
  have hS : va_S A s.heap s.heap [] := va_S.rf
  have hP : va_P D vwCl [(h0, .inr (8, [.int 0, .null, .null, .null, .int 0, .null, .null, .null, .null, .null])), (a1, .inr (6, [.ref t0, .ref t1, .ref t2, .int 0, .ref t4, .ref t5]))] s.heap := hP
  have hl := lv_entry ([.ref h0, .ref a1]) (n := 2) (Nat.le_of_ble_eq_true rfl)
  rw [lg_entry_eq]
  generalize (lg_sl ([.ref h0, .ref a1]) ++ List.replicate (2 - (lg_sl ([.ref h0, .ref a1])).length) Slot.unset).toArray = ls at hl ⊢
  have hl : lv_has ls 2 [(0, .ref h0), (1, .ref a1)] := hl
  refine lv_aload_n hx hb d_Pr_init_0 rfl (lv_at hl 0 rfl) ?_
  refine W.objInit hx hb hown (hts _ gw364) (hts _ gw33) (hts _ gw34) rfl (by rw [hml]; exact hl.1) rfl d_Pr_init_1 (Nat.le_of_ble_eq_true rfl) (Nat.le_of_ble_eq_true rfl) ?_
  refine W.eq (g2 := F0 m 4 ls []) rfl ?_
  refine lv_aload_n hx hb d_Pr_init_4 rfl (lv_at hl 0 rfl) ?_
  refine lv_sipush (v := (160 : Int32)) hx hb d_Pr_init_5 (by decide) ?_
  refine va_newa (atype := .char) (a0 := (160, .inl (fun _ => 0))) hx hb (hts _ gw95) rfl hK hP hD hS hA (fun _ => rfl) (by decide) (by decide) (by decide) (Nat.le_of_ble_eq_true rfl) (Nat.le_of_ble_eq_true rfl) d_Pr_init_8 (fun q8 cA H hK2 hP hD hS => ?_)
  have hcA : cA = g.2 1 := Option.some.inj ((hK2.2 4 (cA, .char) rfl).2.symm.trans (hK2.2 1 (g.2 1, .char) rfl).2)
  subst hcA
  clear hK2
  have hP : va_P D vwCl [(h0, .inr (8, [.int 0, .null, .null, .null, .int 0, .null, .null, .null, .null, .null])), (a1, .inr (6, [.ref t0, .ref t1, .ref t2, .int 0, .ref t4, .ref t5])), (q8, .inl (g.2 1, 160, .inl (fun _ => 0)))] H := hP
  have hD : va_D A [(h0, .inr (8, [.int 0, .null, .null, .null, .int 0, .null, .null, .null, .null, .null])), (a1, .inr (6, [.ref t0, .ref t1, .ref t2, .int 0, .ref t4, .ref t5])), (q8, .inl (g.2 1, 160, .inl (fun _ => 0)))] := hD
  refine va_putF (D := D) (ci := 8) (v := .ref q8) (ty := .array .char) (C := R_Pr) (T := T_Pr) (N := 10) hx hb hts in_Pr ty_Pr ty_Pr_ok nm_Pr hown hK hP hD hS 0 rfl rfl 1 (by decide) (hts _ gw369) (fun _ h9 => h9) rfl hin rfl (by decide +kernel) rfl rfl (Nat.le_of_ble_eq_true rfl) d_Pr_init_10 (fun H locs hP hD hS => ?_)
  have hP : va_P D vwCl [(h0, .inr (8, [.int 0, .ref q8, .null, .null, .int 0, .null, .null, .null, .null, .null])), (a1, .inr (6, [.ref t0, .ref t1, .ref t2, .int 0, .ref t4, .ref t5])), (q8, .inl (g.2 1, 160, .inl (fun _ => 0)))] H := hP
  have hD : va_D A [(h0, .inr (8, [.int 0, .ref q8, .null, .null, .int 0, .null, .null, .null, .null, .null])), (a1, .inr (6, [.ref t0, .ref t1, .ref t2, .int 0, .ref t4, .ref t5])), (q8, .inl (g.2 1, 160, .inl (fun _ => 0)))] := hD
  refine lv_aload_n hx hb d_Pr_init_13 rfl (lv_at hl 0 rfl) ?_
  refine lv_sipush (v := (161 : Int32)) hx hb d_Pr_init_14 (by decide) ?_
  refine va_newa (atype := .int) (a0 := (161, .inl (fun _ => 0))) hx hb (hts _ gw96) rfl hK hP hD hS hA (fun _ => rfl) (by decide) (by decide) (by decide) (Nat.le_of_ble_eq_true rfl) (Nat.le_of_ble_eq_true rfl) d_Pr_init_17 (fun q17 cA H hK2 hP hD hS => ?_)
  have hcA : cA = g.2 0 := Option.some.inj ((hK2.2 4 (cA, .int) rfl).2.symm.trans (hK2.2 0 (g.2 0, .int) rfl).2)
  subst hcA
  clear hK2
  have hP : va_P D vwCl [(h0, .inr (8, [.int 0, .ref q8, .null, .null, .int 0, .null, .null, .null, .null, .null])), (a1, .inr (6, [.ref t0, .ref t1, .ref t2, .int 0, .ref t4, .ref t5])), (q8, .inl (g.2 1, 160, .inl (fun _ => 0))), (q17, .inl (g.2 0, 161, .inl (fun _ => 0)))] H := hP
  have hD : va_D A [(h0, .inr (8, [.int 0, .ref q8, .null, .null, .int 0, .null, .null, .null, .null, .null])), (a1, .inr (6, [.ref t0, .ref t1, .ref t2, .int 0, .ref t4, .ref t5])), (q8, .inl (g.2 1, 160, .inl (fun _ => 0))), (q17, .inl (g.2 0, 161, .inl (fun _ => 0)))] := hD
  refine va_putF (D := D) (ci := 8) (v := .ref q17) (ty := .array .int) (C := R_Pr) (T := T_Pr) (N := 10) hx hb hts in_Pr ty_Pr ty_Pr_ok nm_Pr hown hK hP hD hS 0 rfl rfl 2 (by decide) (hts _ gw370) (fun _ h9 => h9) rfl hin rfl (by decide +kernel) rfl rfl (Nat.le_of_ble_eq_true rfl) d_Pr_init_19 (fun H locs hP hD hS => ?_)
  have hP : va_P D vwCl [(h0, .inr (8, [.int 0, .ref q8, .ref q17, .null, .int 0, .null, .null, .null, .null, .null])), (a1, .inr (6, [.ref t0, .ref t1, .ref t2, .int 0, .ref t4, .ref t5])), (q8, .inl (g.2 1, 160, .inl (fun _ => 0))), (q17, .inl (g.2 0, 161, .inl (fun _ => 0)))] H := hP
  have hD : va_D A [(h0, .inr (8, [.int 0, .ref q8, .ref q17, .null, .int 0, .null, .null, .null, .null, .null])), (a1, .inr (6, [.ref t0, .ref t1, .ref t2, .int 0, .ref t4, .ref t5])), (q8, .inl (g.2 1, 160, .inl (fun _ => 0))), (q17, .inl (g.2 0, 161, .inl (fun _ => 0)))] := hD
  refine lv_aload_n hx hb d_Pr_init_22 rfl (lv_at hl 0 rfl) ?_
  refine lv_sipush (v := (160 : Int32)) hx hb d_Pr_init_23 (by decide) ?_
  refine va_newa (atype := .int) (a0 := (160, .inl (fun _ => 0))) hx hb (hts _ gw96) rfl hK hP hD hS hA (fun _ => rfl) (by decide) (by decide) (by decide) (Nat.le_of_ble_eq_true rfl) (Nat.le_of_ble_eq_true rfl) d_Pr_init_26 (fun q26 cA H hK2 hP hD hS => ?_)
  have hcA : cA = g.2 0 := Option.some.inj ((hK2.2 4 (cA, .int) rfl).2.symm.trans (hK2.2 0 (g.2 0, .int) rfl).2)
  subst hcA
  clear hK2
  have hP : va_P D vwCl [(h0, .inr (8, [.int 0, .ref q8, .ref q17, .null, .int 0, .null, .null, .null, .null, .null])), (a1, .inr (6, [.ref t0, .ref t1, .ref t2, .int 0, .ref t4, .ref t5])), (q8, .inl (g.2 1, 160, .inl (fun _ => 0))), (q17, .inl (g.2 0, 161, .inl (fun _ => 0))), (q26, .inl (g.2 0, 160, .inl (fun _ => 0)))] H := hP
  have hD : va_D A [(h0, .inr (8, [.int 0, .ref q8, .ref q17, .null, .int 0, .null, .null, .null, .null, .null])), (a1, .inr (6, [.ref t0, .ref t1, .ref t2, .int 0, .ref t4, .ref t5])), (q8, .inl (g.2 1, 160, .inl (fun _ => 0))), (q17, .inl (g.2 0, 161, .inl (fun _ => 0))), (q26, .inl (g.2 0, 160, .inl (fun _ => 0)))] := hD
  refine va_putF (D := D) (ci := 8) (v := .ref q26) (ty := .array .int) (C := R_Pr) (T := T_Pr) (N := 10) hx hb hts in_Pr ty_Pr ty_Pr_ok nm_Pr hown hK hP hD hS 0 rfl rfl 3 (by decide) (hts _ gw371) (fun _ h9 => h9) rfl hin rfl (by decide +kernel) rfl rfl (Nat.le_of_ble_eq_true rfl) d_Pr_init_28 (fun H locs hP hD hS => ?_)
  have hP : va_P D vwCl [(h0, .inr (8, [.int 0, .ref q8, .ref q17, .ref q26, .int 0, .null, .null, .null, .null, .null])), (a1, .inr (6, [.ref t0, .ref t1, .ref t2, .int 0, .ref t4, .ref t5])), (q8, .inl (g.2 1, 160, .inl (fun _ => 0))), (q17, .inl (g.2 0, 161, .inl (fun _ => 0))), (q26, .inl (g.2 0, 160, .inl (fun _ => 0)))] H := hP
  have hD : va_D A [(h0, .inr (8, [.int 0, .ref q8, .ref q17, .ref q26, .int 0, .null, .null, .null, .null, .null])), (a1, .inr (6, [.ref t0, .ref t1, .ref t2, .int 0, .ref t4, .ref t5])), (q8, .inl (g.2 1, 160, .inl (fun _ => 0))), (q17, .inl (g.2 0, 161, .inl (fun _ => 0))), (q26, .inl (g.2 0, 160, .inl (fun _ => 0)))] := hD
  refine lv_aload_n hx hb d_Pr_init_31 rfl (lv_at hl 0 rfl) ?_
  refine va_new (ci := 3) (fs := [.null]) (C := R_Mk) (T := T_Mk) (N := 1) hx hb hts in_Mk ty_Mk ty_Mk_ok hown (hts _ gw365) (hts _ gw289) (hts _ gw12) hK hP hD hS hA rfl (fun j hj => by rcases (show j = 0 by omega) with rfl <;> rfl) (Nat.le_of_ble_eq_true rfl) (Nat.le_of_ble_eq_true rfl) d_Pr_init_32 (fun q32 H hP hD hS => ?_)
  have hP : va_P D vwCl [(h0, .inr (8, [.int 0, .ref q8, .ref q17, .ref q26, .int 0, .null, .null, .null, .null, .null])), (a1, .inr (6, [.ref t0, .ref t1, .ref t2, .int 0, .ref t4, .ref t5])), (q8, .inl (g.2 1, 160, .inl (fun _ => 0))), (q17, .inl (g.2 0, 161, .inl (fun _ => 0))), (q26, .inl (g.2 0, 160, .inl (fun _ => 0))), (q32, .inr (3, [.null]))] H := hP
  have hD : va_D A [(h0, .inr (8, [.int 0, .ref q8, .ref q17, .ref q26, .int 0, .null, .null, .null, .null, .null])), (a1, .inr (6, [.ref t0, .ref t1, .ref t2, .int 0, .ref t4, .ref t5])), (q8, .inl (g.2 1, 160, .inl (fun _ => 0))), (q17, .inl (g.2 0, 161, .inl (fun _ => 0))), (q26, .inl (g.2 0, 160, .inl (fun _ => 0))), (q32, .inr (3, [.null]))] := hD
  refine lv_dup hx hb d_Pr_init_35 rfl ?_
  have hPc := hP.sub (ws' := [(q32, .inr (3, [.null]))]) [5] rfl
  have hDc := hD.sub (ws' := [(q32, .inr (3, [.null]))]) [5] (by decide) rfl
  have hFc := va_free (wc := [(q32, .inr (3, [.null]))]) hD hS hA [5] rfl
  refine va_callv (va_runIN (As := []) (rest := [.ref q32, .ref h0]) ⟨hx, hb, hml, hown, hts⟩ (c_Mk_init l q32 H.size) ⟨va_cnB 0 hts (gd_i gw292) rfl rfl rfl hNw.2.2 (hts _ gw12) (by decide +kernel) ⟨Nat.le_of_ble_eq_true rfl, Nat.le_of_ble_eq_true rfl⟩, rfl, hts _ gw291⟩ ⟨kb_blind, fun U hU hW => ⟨rfl, by rw [hU], by rw [hU]; exact hPc, va_K.moved hW.alike hK, hDc.weaken (fun _ _ _ _ => trivial), nestW.moved hW hNw⟩⟩ rfl rfl hl.1 rfl (lv_room (Nat.le_of_ble_eq_true rfl)) d_Pr_init_36 ⟨Nat.le_of_ble_eq_true rfl, Nat.le_of_ble_eq_true rfl⟩) hS (fun q _ h => hFc q h) hFc (fun u36 t H1 locs ht hvm _ hB hz1 hk1 hS => ?_)
  obtain ⟨hP1, hD1⟩ := hB
  rw [ht] at hP1
  obtain ⟨hP, hD⟩ := va_join (wr := [(h0, .inr (8, [.int 0, .ref q8, .ref q17, .ref q26, .int 0, .null, .null, .null, .null, .null])), (a1, .inr (6, [.ref t0, .ref t1, .ref t2, .int 0, .ref t4, .ref t5])), (q8, .inl (g.2 1, 160, .inl (fun _ => 0))), (q17, .inl (g.2 0, 161, .inl (fun _ => 0))), (q26, .inl (g.2 0, 160, .inl (fun _ => 0)))]) (w1 := [(q32, .inr (3, [.ref (u36 0)])), ((u36 0), .inl (g.2 3, 320, .inr (.inl (fun _ => 0))))]) hP hD [5] [0, 1, 2, 3, 4] rfl rfl (by decide) (by decide) hk1 hFc hP1 hD1
  clear hP1 hD1 hPc hDc hFc hk1 hz1
  generalize H1 = H at hP hS ⊢
  generalize u36 0 = u36_0 at hP hD
  have hP : va_P D vwCl [(h0, .inr (8, [.int 0, .ref q8, .ref q17, .ref q26, .int 0, .null, .null, .null, .null, .null])), (a1, .inr (6, [.ref t0, .ref t1, .ref t2, .int 0, .ref t4, .ref t5])), (q8, .inl (g.2 1, 160, .inl (fun _ => 0))), (q17, .inl (g.2 0, 161, .inl (fun _ => 0))), (q26, .inl (g.2 0, 160, .inl (fun _ => 0))), (q32, .inr (3, [.ref u36_0])), (u36_0, .inl (g.2 3, 320, .inr (.inl (fun _ => 0))))] H := hP
  have hD : va_D A [(h0, .inr (8, [.int 0, .ref q8, .ref q17, .ref q26, .int 0, .null, .null, .null, .null, .null])), (a1, .inr (6, [.ref t0, .ref t1, .ref t2, .int 0, .ref t4, .ref t5])), (q8, .inl (g.2 1, 160, .inl (fun _ => 0))), (q17, .inl (g.2 0, 161, .inl (fun _ => 0))), (q26, .inl (g.2 0, 160, .inl (fun _ => 0))), (q32, .inr (3, [.ref u36_0])), (u36_0, .inl (g.2 3, 320, .inr (.inl (fun _ => 0))))] := hD
  refine va_putF (D := D) (ci := 8) (v := .ref q32) (ty := .object "SchemaDesk$Marks") (C := R_Pr) (T := T_Pr) (N := 10) hx hb hts in_Pr ty_Pr ty_Pr_ok nm_Pr hown hK hP hD hS 0 rfl rfl 9 (by decide) (hts _ gw377) (fun _ h9 => h9) rfl hin rfl (by decide +kernel) rfl rfl (Nat.le_of_ble_eq_true rfl) d_Pr_init_39 (fun H locs hP hD hS => ?_)
  have hP : va_P D vwCl [(h0, .inr (8, [.int 0, .ref q8, .ref q17, .ref q26, .int 0, .null, .null, .null, .null, .ref q32])), (a1, .inr (6, [.ref t0, .ref t1, .ref t2, .int 0, .ref t4, .ref t5])), (q8, .inl (g.2 1, 160, .inl (fun _ => 0))), (q17, .inl (g.2 0, 161, .inl (fun _ => 0))), (q26, .inl (g.2 0, 160, .inl (fun _ => 0))), (q32, .inr (3, [.ref u36_0])), (u36_0, .inl (g.2 3, 320, .inr (.inl (fun _ => 0))))] H := hP
  have hD : va_D A [(h0, .inr (8, [.int 0, .ref q8, .ref q17, .ref q26, .int 0, .null, .null, .null, .null, .ref q32])), (a1, .inr (6, [.ref t0, .ref t1, .ref t2, .int 0, .ref t4, .ref t5])), (q8, .inl (g.2 1, 160, .inl (fun _ => 0))), (q17, .inl (g.2 0, 161, .inl (fun _ => 0))), (q26, .inl (g.2 0, 160, .inl (fun _ => 0))), (q32, .inr (3, [.ref u36_0])), (u36_0, .inl (g.2 3, 320, .inr (.inl (fun _ => 0))))] := hD
  refine lv_aload_n hx hb d_Pr_init_42 rfl (lv_at hl 0 rfl) ?_
  refine lv_aload_n hx hb d_Pr_init_43 rfl (lv_at hl 1 rfl) ?_
  refine va_putF (D := D) (ci := 8) (v := .ref a1) (ty := .object "SchemaDesk$Verdicts") (C := R_Pr) (T := T_Pr) (N := 10) hx hb hts in_Pr ty_Pr ty_Pr_ok nm_Pr hown hK hP hD hS 0 rfl rfl 5 (by decide) (hts _ gw373) (fun _ h9 => h9) rfl hin rfl (by decide +kernel) rfl rfl (Nat.le_of_ble_eq_true rfl) d_Pr_init_44 (fun H locs hP hD hS => ?_)
  have hP : va_P D vwCl [(h0, .inr (8, [.int 0, .ref q8, .ref q17, .ref q26, .int 0, .ref a1, .null, .null, .null, .ref q32])), (a1, .inr (6, [.ref t0, .ref t1, .ref t2, .int 0, .ref t4, .ref t5])), (q8, .inl (g.2 1, 160, .inl (fun _ => 0))), (q17, .inl (g.2 0, 161, .inl (fun _ => 0))), (q26, .inl (g.2 0, 160, .inl (fun _ => 0))), (q32, .inr (3, [.ref u36_0])), (u36_0, .inl (g.2 3, 320, .inr (.inl (fun _ => 0))))] H := hP
  have hD : va_D A [(h0, .inr (8, [.int 0, .ref q8, .ref q17, .ref q26, .int 0, .ref a1, .null, .null, .null, .ref q32])), (a1, .inr (6, [.ref t0, .ref t1, .ref t2, .int 0, .ref t4, .ref t5])), (q8, .inl (g.2 1, 160, .inl (fun _ => 0))), (q17, .inl (g.2 0, 161, .inl (fun _ => 0))), (q26, .inl (g.2 0, 160, .inl (fun _ => 0))), (q32, .inr (3, [.ref u36_0])), (u36_0, .inl (g.2 3, 320, .inr (.inl (fun _ => 0))))] := hD
  refine lv_aload_n hx hb d_Pr_init_47 rfl (lv_at hl 0 rfl) ?_
  refine lv_aload_n hx hb d_Pr_init_48 rfl (lv_at hl 1 rfl) ?_
  refine va_get (D := D) (ci := 6) (v := .ref t0) (C := R_Vd) (T := T_Vd) (N := 6) hx hb hts in_Vd hown hK hP 1 rfl rfl 0 (by decide) (hts _ gw301) (fun _ h9 => h9) rfl d_Pr_init_49 ?_
  refine va_putF (D := D) (ci := 8) (v := .ref t0) (ty := .object "SchemaDesk$Plan") (C := R_Pr) (T := T_Pr) (N := 10) hx hb hts in_Pr ty_Pr ty_Pr_ok nm_Pr hown hK hP hD hS 0 rfl rfl 6 (by decide) (hts _ gw374) (fun _ h9 => h9) rfl hin rfl (by decide +kernel) rfl rfl (Nat.le_of_ble_eq_true rfl) d_Pr_init_52 (fun H locs hP hD hS => ?_)
  have hP : va_P D vwCl [(h0, .inr (8, [.int 0, .ref q8, .ref q17, .ref q26, .int 0, .ref a1, .ref t0, .null, .null, .ref q32])), (a1, .inr (6, [.ref t0, .ref t1, .ref t2, .int 0, .ref t4, .ref t5])), (q8, .inl (g.2 1, 160, .inl (fun _ => 0))), (q17, .inl (g.2 0, 161, .inl (fun _ => 0))), (q26, .inl (g.2 0, 160, .inl (fun _ => 0))), (q32, .inr (3, [.ref u36_0])), (u36_0, .inl (g.2 3, 320, .inr (.inl (fun _ => 0))))] H := hP
  have hD : va_D A [(h0, .inr (8, [.int 0, .ref q8, .ref q17, .ref q26, .int 0, .ref a1, .ref t0, .null, .null, .ref q32])), (a1, .inr (6, [.ref t0, .ref t1, .ref t2, .int 0, .ref t4, .ref t5])), (q8, .inl (g.2 1, 160, .inl (fun _ => 0))), (q17, .inl (g.2 0, 161, .inl (fun _ => 0))), (q26, .inl (g.2 0, 160, .inl (fun _ => 0))), (q32, .inr (3, [.ref u36_0])), (u36_0, .inl (g.2 3, 320, .inr (.inl (fun _ => 0))))] := hD
  refine lv_aload_n hx hb d_Pr_init_55 rfl (lv_at hl 0 rfl) ?_
  refine lv_aload_n hx hb d_Pr_init_56 rfl (lv_at hl 1 rfl) ?_
  refine va_get (D := D) (ci := 6) (v := .ref t1) (C := R_Vd) (T := T_Vd) (N := 6) hx hb hts in_Vd hown hK hP 1 rfl rfl 1 (by decide) (hts _ gw304) (fun _ h9 => h9) rfl d_Pr_init_57 ?_
  refine va_putF (D := D) (ci := 8) (v := .ref t1) (ty := .object "SchemaDesk$Tree") (C := R_Pr) (T := T_Pr) (N := 10) hx hb hts in_Pr ty_Pr ty_Pr_ok nm_Pr hown hK hP hD hS 0 rfl rfl 7 (by decide) (hts _ gw375) (fun _ h9 => h9) rfl hin rfl (by decide +kernel) rfl rfl (Nat.le_of_ble_eq_true rfl) d_Pr_init_60 (fun H locs hP hD hS => ?_)
  have hP : va_P D vwCl [(h0, .inr (8, [.int 0, .ref q8, .ref q17, .ref q26, .int 0, .ref a1, .ref t0, .ref t1, .null, .ref q32])), (a1, .inr (6, [.ref t0, .ref t1, .ref t2, .int 0, .ref t4, .ref t5])), (q8, .inl (g.2 1, 160, .inl (fun _ => 0))), (q17, .inl (g.2 0, 161, .inl (fun _ => 0))), (q26, .inl (g.2 0, 160, .inl (fun _ => 0))), (q32, .inr (3, [.ref u36_0])), (u36_0, .inl (g.2 3, 320, .inr (.inl (fun _ => 0))))] H := hP
  have hD : va_D A [(h0, .inr (8, [.int 0, .ref q8, .ref q17, .ref q26, .int 0, .ref a1, .ref t0, .ref t1, .null, .ref q32])), (a1, .inr (6, [.ref t0, .ref t1, .ref t2, .int 0, .ref t4, .ref t5])), (q8, .inl (g.2 1, 160, .inl (fun _ => 0))), (q17, .inl (g.2 0, 161, .inl (fun _ => 0))), (q26, .inl (g.2 0, 160, .inl (fun _ => 0))), (q32, .inr (3, [.ref u36_0])), (u36_0, .inl (g.2 3, 320, .inr (.inl (fun _ => 0))))] := hD
  refine lv_aload_n hx hb d_Pr_init_63 rfl (lv_at hl 0 rfl) ?_
  refine lv_aload_n hx hb d_Pr_init_64 rfl (lv_at hl 1 rfl) ?_
  refine va_get (D := D) (ci := 6) (v := .ref t2) (C := R_Vd) (T := T_Vd) (N := 6) hx hb hts in_Vd hown hK hP 1 rfl rfl 2 (by decide) (hts _ gw307) (fun _ h9 => h9) rfl d_Pr_init_65 ?_
  refine va_putF (D := D) (ci := 8) (v := .ref t2) (ty := .object "SchemaDesk$Tree") (C := R_Pr) (T := T_Pr) (N := 10) hx hb hts in_Pr ty_Pr ty_Pr_ok nm_Pr hown hK hP hD hS 0 rfl rfl 8 (by decide) (hts _ gw376) (fun _ h9 => h9) rfl hin rfl (by decide +kernel) rfl rfl (Nat.le_of_ble_eq_true rfl) d_Pr_init_68 (fun H locs hP hD hS => ?_)
  have hP : va_P D vwCl [(h0, .inr (8, [.int 0, .ref q8, .ref q17, .ref q26, .int 0, .ref a1, .ref t0, .ref t1, .ref t2, .ref q32])), (a1, .inr (6, [.ref t0, .ref t1, .ref t2, .int 0, .ref t4, .ref t5])), (q8, .inl (g.2 1, 160, .inl (fun _ => 0))), (q17, .inl (g.2 0, 161, .inl (fun _ => 0))), (q26, .inl (g.2 0, 160, .inl (fun _ => 0))), (q32, .inr (3, [.ref u36_0])), (u36_0, .inl (g.2 3, 320, .inr (.inl (fun _ => 0))))] H := hP
  have hD : va_D A [(h0, .inr (8, [.int 0, .ref q8, .ref q17, .ref q26, .int 0, .ref a1, .ref t0, .ref t1, .ref t2, .ref q32])), (a1, .inr (6, [.ref t0, .ref t1, .ref t2, .int 0, .ref t4, .ref t5])), (q8, .inl (g.2 1, 160, .inl (fun _ => 0))), (q17, .inl (g.2 0, 161, .inl (fun _ => 0))), (q26, .inl (g.2 0, 160, .inl (fun _ => 0))), (q32, .inr (3, [.ref u36_0])), (u36_0, .inl (g.2 3, 320, .inr (.inl (fun _ => 0))))] := hD
  have hP9 := hP.sub (ws' := [(h0, .inr (8, [.int 0, .ref q8, .ref q17, .ref q26, .int 0, .ref a1, .ref t0, .ref t1, .ref t2, .ref q32])), (a1, .inr (6, [.ref t0, .ref t1, .ref t2, .int 0, .ref t4, .ref t5])), (q8, .inl (g.2 1, 160, .inl (fun _ => 0))), (q17, .inl (g.2 0, 161, .inl (fun _ => 0))), (q26, .inl (g.2 0, 160, .inl (fun _ => 0))), (q32, .inr (3, [.ref u36_0])), (u36_0, .inl (g.2 3, 320, .inr (.inl (fun _ => 0))))]) [0, 1, 2, 3, 4, 5, 6] rfl
  have hD9 := hD.sub (ws' := [(h0, .inr (8, [.int 0, .ref q8, .ref q17, .ref q26, .int 0, .ref a1, .ref t0, .ref t1, .ref t2, .ref q32])), (a1, .inr (6, [.ref t0, .ref t1, .ref t2, .int 0, .ref t4, .ref t5])), (q8, .inl (g.2 1, 160, .inl (fun _ => 0))), (q17, .inl (g.2 0, 161, .inl (fun _ => 0))), (q26, .inl (g.2 0, 160, .inl (fun _ => 0))), (q32, .inr (3, [.ref u36_0])), (u36_0, .inl (g.2 3, 320, .inr (.inl (fun _ => 0))))]) [0, 1, 2, 3, 4, 5, 6] (by decide) rfl
  refine W.widen (k := 5) (n := 802) (Nat.le_of_ble_eq_true rfl) (Nat.le_of_ble_eq_true rfl) ?_
  exact W.vret hx hb hr (fun t ht _ => ⟨⟨(fun k => match k with | 0 => q8 | 1 => q17 | 2 => q26 | 3 => q32 | 4 => u36_0 | _ => 0), rfl, trivial, by rw [ht]; exact hP9, hD9⟩, hS.F ht⟩) hS.2.2 d_Pr_init_71 hlocks
abbrev k_Wb_init : ByteArray := prog_10_method_1_code
abbrev y_Wb_init : MethodName := ⟨"SchemaDesk$WordBook", "<init>", "()V"⟩
