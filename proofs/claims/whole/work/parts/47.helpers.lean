/-! SchemaDeskLaw.insert (LSchemaDesk;IIC)I -/
abbrev k_Lw_insert : ByteArray := method_3_code
abbrev y_Lw_insert : MethodName := ⟨"SchemaDeskLaw", "insert", "(LSchemaDesk;IIC)I"⟩
theorem d_Lw_insert_0 : decode k_Lw_insert 0 = .ok (.aload_n 0, 1) := by decide +kernel
theorem d_Lw_insert_1 : decode k_Lw_insert 1 = .ok (.iload_n 1, 1) := by decide +kernel
theorem d_Lw_insert_2 : decode k_Lw_insert 2 = .ok (.iload_n 2, 1) := by decide +kernel
theorem d_Lw_insert_3 : decode k_Lw_insert 3 = .ok (.iload_n 3, 1) := by decide +kernel
theorem d_Lw_insert_4 : decode k_Lw_insert 4 = .ok (.invokevirtual 7, 3) := by decide +kernel
theorem d_Lw_insert_7 : decode k_Lw_insert 7 = .ok (.goto 15, 3) := by decide +kernel
theorem d_Lw_insert_10 : decode k_Lw_insert 10 = .ok (.astore 4, 2) := by decide +kernel
theorem d_Lw_insert_12 : decode k_Lw_insert 12 = .ok (.iconst 1, 1) := by decide +kernel
theorem d_Lw_insert_13 : decode k_Lw_insert 13 = .ok (.ireturn, 1) := by decide +kernel
theorem d_Lw_insert_14 : decode k_Lw_insert 14 = .ok (.astore 4, 2) := by decide +kernel
theorem d_Lw_insert_16 : decode k_Lw_insert 16 = .ok (.iconst 2, 1) := by decide +kernel
theorem d_Lw_insert_17 : decode k_Lw_insert 17 = .ok (.ireturn, 1) := by decide +kernel
theorem d_Lw_insert_18 : decode k_Lw_insert 18 = .ok (.astore 4, 2) := by decide +kernel
theorem d_Lw_insert_20 : decode k_Lw_insert 20 = .ok (.iconst 3, 1) := by decide +kernel
theorem d_Lw_insert_21 : decode k_Lw_insert 21 = .ok (.ireturn, 1) := by decide +kernel
theorem d_Lw_insert_22 : decode k_Lw_insert 22 = .ok (.iconst 0, 1) := by decide +kernel
theorem d_Lw_insert_23 : decode k_Lw_insert 23 = .ok (.ireturn, 1) := by decide +kernel
theorem gw474 : (Jvm.Cond.methodLink "SchemaDeskLaw" (7 : Nat) ({ cls := "SchemaDesk", name := "insert", desc := "(IIC)V" } : Jvm.MethodName)) ∈ GW := gw_t2 (List.mem_of_getElem? (i := 234) rfl) rfl
theorem gw475 : (Jvm.Cond.instanceMethod ({ cls := "SchemaDesk", name := "insert", desc := "(IIC)V" } : Jvm.MethodName)) ∈ GW := gw_t2 (List.mem_of_getElem? (i := 235) rfl) rfl
theorem gw476 : (Jvm.Cond.selects "SchemaDesk" ({ cls := "SchemaDesk", name := "insert", desc := "(IIC)V" } : Jvm.MethodName) ({ cls := "SchemaDesk", name := "insert", desc := "(IIC)V" } : Jvm.MethodName)) ∈ GW := gw_t2 (List.mem_of_getElem? (i := 236) rfl) rfl
theorem gw477 : (Jvm.Cond.code ({ cls := "SchemaDesk", name := "insert", desc := "(IIC)V" } : Jvm.MethodName) prog_1_method_4_code (5 : Nat) (Option.none : Option Jvm.ClassFile.FieldType)) ∈ GW := gw_t2 (List.mem_of_getElem? (i := 237) rfl) rfl
theorem gw471 : (Jvm.Cond.classLink "SchemaDeskLaw" (13 : Nat) "java/lang/IllegalArgumentException") ∈ GW := gw_t2 (List.mem_of_getElem? (i := 231) rfl) rfl
theorem gw472 : (Jvm.Cond.classLink "SchemaDeskLaw" (15 : Nat) "java/lang/IndexOutOfBoundsException") ∈ GW := gw_t2 (List.mem_of_getElem? (i := 232) rfl) rfl
theorem gw473 : (Jvm.Cond.classLink "SchemaDeskLaw" (17 : Nat) "java/lang/IllegalStateException") ∈ GW := gw_t2 (List.mem_of_getElem? (i := 233) rfl) rfl
def wq_Lw_insert (x1 : Int32) (x2 : Int32) (x3 : Int32) (σ : Sg) (post : Int32 → Sg → Prop) : Prop := ((wq_Sd_insert x1 x2 x3 σ (fun σ1 => post (0 : Int32) σ1)) ∨ (wq_Sd_insert_ia x1 x2 x3 σ (fun σ1 => post (1 : Int32) σ1)) ∨ (wq_Sd_insert_io x1 x2 x3 σ (fun σ1 => post (2 : Int32) σ1)) ∨ (wq_Sd_insert_is x1 x2 x3 σ (fun σ1 => post (3 : Int32) σ1)))
set_option maxRecDepth 100000 in
set_option maxHeartbeats 4000000 in
theorem b_Lw_insert_0 {p : Program} {l : Launch} {e : Env} {s : State} {m : MethodId} {args : Array Value} {below : List Frame} {meth : Method} {c : Code} {D : va_G} {g : Gm} {A : Nat → Prop} {post : Int32 → Sg → Prop} (C : kC p s m args meth c k_Lw_insert 5 (some .int) GW R_Lw D vwCl g (Zk g) A) (htr : l.stackTraces = false) (htab : c.exceptionTable.toList.map (fun h => (h.startPc, h.endPc, h.handlerPc, h.catchType)) = [(0, 7, 10, 13), (0, 7, 14, 15), (0, 7, 18, 17)]) (x1 : Int32) (x2 : Int32) (x3 : Int32) (σ : Sg) (H : Heap) (locs : List Loc) (ls : Array Slot) (hl : lv_has ls 5 [(0, .ref (g.1 51)), (1, .int x1), (2, .int x2), (3, .int x3)]) (hst : Wst D vwCl (WS g) A s σ H locs) (h : wq_Lw_insert x1 x2 x3 σ post) : W p l e { frames := 7, cells := 1, slots := 6, locals := 124 } s m args below meth c H locs 0 0 (MQ below (QiW D vwCl (WS g) post A) args s 1 6 A) (F0 m 0 ls []) := by
  obtain ⟨hx, hb, hr, hml, hown, hts, hlocks, hK, hZ, hA⟩ := C
  unfold wq_Lw_insert at h
  refine lv_aload_n hx hb d_Lw_insert_0 rfl (lv_at hl 0 rfl) ?_
  refine lv_iload_n hx hb d_Lw_insert_1 rfl (lv_at hl 1 rfl) ?_
  refine lv_iload_n hx hb d_Lw_insert_2 rfl (lv_at hl 2 rfl) ?_
  refine lv_iload_n hx hb d_Lw_insert_3 rfl (lv_at hl 3 rfl) ?_
  rcases h with h | h | h | h
  · refine kw_callv (va_runV (As := [.int x1, .int x2, .int x3]) (rest := []) (b := g.1 51) ⟨hx, hb, hml, hown, hts⟩ (c_Sd_insert l x1 x2 x3 h) (cwV 3 hts (gd_v gw474 gw475 gw476 gw1 gw477) rfl rfl rfl (by decide +kernel) ⟨Nat.le_of_ble_eq_true rfl, Nat.le_of_ble_eq_true rfl⟩) ⟨kw_blind (Zk_ok g), va_recv hK hst.1 rfl (WS_o51 g σ), kw_pre (Zk_ok g) hK hZ hA hst⟩ rfl rfl hl.1 rfl (lv_room (Nat.le_of_ble_eq_true rfl)) d_Lw_insert_4 ⟨Nat.le_of_ble_eq_true rfl, Nat.le_of_ble_eq_true rfl⟩) hst hA (fun σ1 H locs h hst => ?_)
    refine lv_goto (tgt := 22) hx hb d_Lw_insert_7 (by decide) ?_
    refine lv_iconst (v := (0 : Int32)) hx hb d_Lw_insert_22 (by decide) ?_
    refine W.widen (k := 1) (n := 6) (Nat.le_of_ble_eq_true rfl) (Nat.le_of_ble_eq_true rfl) ?_
    exact kw_iret hx hb hr hlocks hst h d_Lw_insert_23
  · refine kh_throw (E := E_ia) (hpc := 10) (As := [.int x1, .int x2, .int x3]) (rest := []) (b := g.1 51) ⟨hx, hb, hml, hown, hts⟩ (c_Sd_insert_ia l htr x1 x2 x3 h) (cwV 3 hts (gd_v gw474 gw475 gw476 gw1 gw477) rfl rfl rfl (by decide +kernel) ⟨Nat.le_of_ble_eq_true rfl, Nat.le_of_ble_eq_true rfl⟩) ⟨kw_blind (Zk_ok g), va_recv hK hst.1 rfl (WS_o51 g σ), kw_pre (Zk_ok g) hK hZ hA hst⟩ rfl hl.1 rfl (Nat.le_of_ble_eq_true rfl) d_Lw_insert_4 ⟨Nat.le_of_ble_eq_true rfl, Nat.le_of_ble_eq_true rfl⟩ (fun ha k hk => kc_of _ _ htab (kc_hy ⟨Nat.zero_le _, Nat.le_of_ble_eq_true rfl⟩ (by decide) (kc_yes ha hown (hts _ gw471) (hZ.2.2.2.1.1.use (List.mem_of_getElem? (i := 3) rfl)) hk))) hst hA (fun x_1 σ1 H locs h hst => ?_)
    refine lv_astore hx hb d_Lw_insert_10 hl (by decide) rfl (fun ls hl => ?_)
    have hl : lv_has ls 5 [(4, .ref x_1), (0, .ref (g.1 51)), (1, .int x1), (2, .int x2), (3, .int x3)] := hl
    refine lv_iconst (v := (1 : Int32)) hx hb d_Lw_insert_12 (by decide) ?_
    refine W.widen (k := 1) (n := 6) (Nat.le_of_ble_eq_true rfl) (Nat.le_of_ble_eq_true rfl) ?_
    exact kw_iret hx hb hr hlocks hst h d_Lw_insert_13
  · refine kh_throw (E := E_io) (hpc := 14) (As := [.int x1, .int x2, .int x3]) (rest := []) (b := g.1 51) ⟨hx, hb, hml, hown, hts⟩ (c_Sd_insert_io l htr x1 x2 x3 h) (cwV 3 hts (gd_v gw474 gw475 gw476 gw1 gw477) rfl rfl rfl (by decide +kernel) ⟨Nat.le_of_ble_eq_true rfl, Nat.le_of_ble_eq_true rfl⟩) ⟨kw_blind (Zk_ok g), va_recv hK hst.1 rfl (WS_o51 g σ), kw_pre (Zk_ok g) hK hZ hA hst⟩ rfl hl.1 rfl (Nat.le_of_ble_eq_true rfl) d_Lw_insert_4 ⟨Nat.le_of_ble_eq_true rfl, Nat.le_of_ble_eq_true rfl⟩ (fun ha k hk => kc_of _ _ htab (kc_hn ⟨Nat.zero_le _, Nat.le_of_ble_eq_true rfl⟩ (by decide) (kc_no ha hown (hts _ gw471) (hZ.2.2.2.1.2 _ (List.mem_of_getElem? (i := 0) rfl)) hk) (kc_hy ⟨Nat.zero_le _, Nat.le_of_ble_eq_true rfl⟩ (by decide) (kc_yes ha hown (hts _ gw472) (hZ.2.2.2.1.1.use (List.mem_of_getElem? (i := 4) rfl)) hk)))) hst hA (fun x_1 σ1 H locs h hst => ?_)
    refine lv_astore hx hb d_Lw_insert_14 hl (by decide) rfl (fun ls hl => ?_)
    have hl : lv_has ls 5 [(4, .ref x_1), (0, .ref (g.1 51)), (1, .int x1), (2, .int x2), (3, .int x3)] := hl
    refine lv_iconst (v := (2 : Int32)) hx hb d_Lw_insert_16 (by decide) ?_
    refine W.widen (k := 1) (n := 6) (Nat.le_of_ble_eq_true rfl) (Nat.le_of_ble_eq_true rfl) ?_
    exact kw_iret hx hb hr hlocks hst h d_Lw_insert_17
  · refine kh_throw (E := E_is) (hpc := 18) (As := [.int x1, .int x2, .int x3]) (rest := []) (b := g.1 51) ⟨hx, hb, hml, hown, hts⟩ (c_Sd_insert_is l htr x1 x2 x3 h) (cwV 3 hts (gd_v gw474 gw475 gw476 gw1 gw477) rfl rfl rfl (by decide +kernel) ⟨Nat.le_of_ble_eq_true rfl, Nat.le_of_ble_eq_true rfl⟩) ⟨kw_blind (Zk_ok g), va_recv hK hst.1 rfl (WS_o51 g σ), kw_pre (Zk_ok g) hK hZ hA hst⟩ rfl hl.1 rfl (Nat.le_of_ble_eq_true rfl) d_Lw_insert_4 ⟨Nat.le_of_ble_eq_true rfl, Nat.le_of_ble_eq_true rfl⟩ (fun ha k hk => kc_of _ _ htab (kc_hn ⟨Nat.zero_le _, Nat.le_of_ble_eq_true rfl⟩ (by decide) (kc_no ha hown (hts _ gw471) (hZ.2.2.2.1.2 _ (List.mem_of_getElem? (i := 1) rfl)) hk) (kc_hn ⟨Nat.zero_le _, Nat.le_of_ble_eq_true rfl⟩ (by decide) (kc_no ha hown (hts _ gw472) (hZ.2.2.2.1.2 _ (List.mem_of_getElem? (i := 2) rfl)) hk) (kc_hy ⟨Nat.zero_le _, Nat.le_of_ble_eq_true rfl⟩ (by decide) (kc_yes ha hown (hts _ gw473) (hZ.2.2.2.1.1.use (List.mem_of_getElem? (i := 5) rfl)) hk))))) hst hA (fun x_1 σ1 H locs h hst => ?_)
    refine lv_astore hx hb d_Lw_insert_18 hl (by decide) rfl (fun ls hl => ?_)
    have hl : lv_has ls 5 [(4, .ref x_1), (0, .ref (g.1 51)), (1, .int x1), (2, .int x2), (3, .int x3)] := hl
    refine lv_iconst (v := (3 : Int32)) hx hb d_Lw_insert_20 (by decide) ?_
    refine W.widen (k := 1) (n := 6) (Nat.le_of_ble_eq_true rfl) (Nat.le_of_ble_eq_true rfl) ?_
    exact kw_iret hx hb hr hlocks hst h d_Lw_insert_21
set_option maxRecDepth 100000 in
set_option maxHeartbeats 4000000 in
theorem c_Lw_insert (l : Launch) {D : va_G} {g : Gm} (htr : l.stackTraces = false) {sz : Nat} (x1 : Int32) (x2 : Int32) (x3 : Int32) {σ : Sg} {post : Int32 → Sg → Prop} (h : wq_Lw_insert x1 x2 x3 σ post) : Met l y_Lw_insert (.codeWith y_Lw_insert k_Lw_insert 5 (some .int) [(0, 7, 10, 13), (0, 7, 14, 15), (0, 7, 18, 17)] :: GW) { frames := 7, cells := 1, slots := 6, locals := 124 } (PcW D vwCl (WS g) g (Zk g) σ sz [.ref (g.1 51), .int x1, .int x2, .int x3]) (QiW D vwCl (WS g) post (va_A (WS g σ) sz)) 1 6 (va_A (WS g σ) sz) := by
  refine kh_entry (own := R_Lw) (by decide) rfl rfl (Nat.le_of_ble_eq_true rfl) ?_
  intro p e s m below meth c ls hsz C htab hl hst
  exact b_Lw_insert_0 C htr htab x1 x2 x3 σ _ _ ls hl hst h
/-! SchemaDeskLaw.remove (LSchemaDesk;III)I -/
abbrev k_Lw_remove : ByteArray := method_4_code
abbrev y_Lw_remove : MethodName := ⟨"SchemaDeskLaw", "remove", "(LSchemaDesk;III)I"⟩
theorem d_Lw_remove_0 : decode k_Lw_remove 0 = .ok (.aload_n 0, 1) := by decide +kernel
theorem d_Lw_remove_1 : decode k_Lw_remove 1 = .ok (.iload_n 1, 1) := by decide +kernel
theorem d_Lw_remove_2 : decode k_Lw_remove 2 = .ok (.iload_n 2, 1) := by decide +kernel
theorem d_Lw_remove_3 : decode k_Lw_remove 3 = .ok (.iload_n 3, 1) := by decide +kernel
theorem d_Lw_remove_4 : decode k_Lw_remove 4 = .ok (.invokevirtual 19, 3) := by decide +kernel
theorem d_Lw_remove_7 : decode k_Lw_remove 7 = .ok (.goto 11, 3) := by decide +kernel
theorem d_Lw_remove_10 : decode k_Lw_remove 10 = .ok (.astore 4, 2) := by decide +kernel
theorem d_Lw_remove_12 : decode k_Lw_remove 12 = .ok (.iconst 1, 1) := by decide +kernel
theorem d_Lw_remove_13 : decode k_Lw_remove 13 = .ok (.ireturn, 1) := by decide +kernel
theorem d_Lw_remove_14 : decode k_Lw_remove 14 = .ok (.astore 4, 2) := by decide +kernel
theorem d_Lw_remove_16 : decode k_Lw_remove 16 = .ok (.iconst 2, 1) := by decide +kernel
theorem d_Lw_remove_17 : decode k_Lw_remove 17 = .ok (.ireturn, 1) := by decide +kernel
theorem d_Lw_remove_18 : decode k_Lw_remove 18 = .ok (.iconst 0, 1) := by decide +kernel
theorem d_Lw_remove_19 : decode k_Lw_remove 19 = .ok (.ireturn, 1) := by decide +kernel
theorem gw576 : (Jvm.Cond.methodLink "SchemaDeskLaw" (19 : Nat) ({ cls := "SchemaDesk", name := "remove", desc := "(III)V" } : Jvm.MethodName)) ∈ GW := gw_t3 (List.mem_of_getElem? (i := 96) rfl) rfl
theorem gw577 : (Jvm.Cond.instanceMethod ({ cls := "SchemaDesk", name := "remove", desc := "(III)V" } : Jvm.MethodName)) ∈ GW := gw_t3 (List.mem_of_getElem? (i := 97) rfl) rfl
theorem gw578 : (Jvm.Cond.selects "SchemaDesk" ({ cls := "SchemaDesk", name := "remove", desc := "(III)V" } : Jvm.MethodName) ({ cls := "SchemaDesk", name := "remove", desc := "(III)V" } : Jvm.MethodName)) ∈ GW := gw_t3 (List.mem_of_getElem? (i := 98) rfl) rfl
theorem gw579 : (Jvm.Cond.code ({ cls := "SchemaDesk", name := "remove", desc := "(III)V" } : Jvm.MethodName) prog_1_method_5_code (5 : Nat) (Option.none : Option Jvm.ClassFile.FieldType)) ∈ GW := gw_t3 (List.mem_of_getElem? (i := 99) rfl) rfl
def wq_Lw_remove (x1 : Int32) (x2 : Int32) (x3 : Int32) (σ : Sg) (post : Int32 → Sg → Prop) : Prop := ((wq_Sd_remove x1 x2 x3 σ (fun σ1 => post (0 : Int32) σ1)) ∨ (wq_Sd_remove_ia x1 x2 x3 σ (fun σ1 => post (1 : Int32) σ1)) ∨ (wq_Sd_remove_io x1 x2 x3 σ (fun σ1 => post (2 : Int32) σ1)))
set_option maxRecDepth 100000 in
set_option maxHeartbeats 4000000 in
theorem b_Lw_remove_0 {p : Program} {l : Launch} {e : Env} {s : State} {m : MethodId} {args : Array Value} {below : List Frame} {meth : Method} {c : Code} {D : va_G} {g : Gm} {A : Nat → Prop} {post : Int32 → Sg → Prop} (C : kC p s m args meth c k_Lw_remove 5 (some .int) GW R_Lw D vwCl g (Zk g) A) (htr : l.stackTraces = false) (htab : c.exceptionTable.toList.map (fun h => (h.startPc, h.endPc, h.handlerPc, h.catchType)) = [(0, 7, 10, 13), (0, 7, 14, 15)]) (x1 : Int32) (x2 : Int32) (x3 : Int32) (σ : Sg) (H : Heap) (locs : List Loc) (ls : Array Slot) (hl : lv_has ls 5 [(0, .ref (g.1 51)), (1, .int x1), (2, .int x2), (3, .int x3)]) (hst : Wst D vwCl (WS g) A s σ H locs) (h : wq_Lw_remove x1 x2 x3 σ post) : W p l e { frames := 7, cells := 1, slots := 6, locals := 124 } s m args below meth c H locs 0 0 (MQ below (QiW D vwCl (WS g) post A) args s 1 6 A) (F0 m 0 ls []) := by
  obtain ⟨hx, hb, hr, hml, hown, hts, hlocks, hK, hZ, hA⟩ := C
  unfold wq_Lw_remove at h
  refine lv_aload_n hx hb d_Lw_remove_0 rfl (lv_at hl 0 rfl) ?_
  refine lv_iload_n hx hb d_Lw_remove_1 rfl (lv_at hl 1 rfl) ?_
  refine lv_iload_n hx hb d_Lw_remove_2 rfl (lv_at hl 2 rfl) ?_
  refine lv_iload_n hx hb d_Lw_remove_3 rfl (lv_at hl 3 rfl) ?_
  rcases h with h | h | h
  · refine kw_callv (va_runV (As := [.int x1, .int x2, .int x3]) (rest := []) (b := g.1 51) ⟨hx, hb, hml, hown, hts⟩ (c_Sd_remove l x1 x2 x3 h) (cwV 3 hts (gd_v gw576 gw577 gw578 gw1 gw579) rfl rfl rfl (by decide +kernel) ⟨Nat.le_of_ble_eq_true rfl, Nat.le_of_ble_eq_true rfl⟩) ⟨kw_blind (Zk_ok g), va_recv hK hst.1 rfl (WS_o51 g σ), kw_pre (Zk_ok g) hK hZ hA hst⟩ rfl rfl hl.1 rfl (lv_room (Nat.le_of_ble_eq_true rfl)) d_Lw_remove_4 ⟨Nat.le_of_ble_eq_true rfl, Nat.le_of_ble_eq_true rfl⟩) hst hA (fun σ1 H locs h hst => ?_)
    refine lv_goto (tgt := 18) hx hb d_Lw_remove_7 (by decide) ?_
    refine lv_iconst (v := (0 : Int32)) hx hb d_Lw_remove_18 (by decide) ?_
    refine W.widen (k := 1) (n := 6) (Nat.le_of_ble_eq_true rfl) (Nat.le_of_ble_eq_true rfl) ?_
    exact kw_iret hx hb hr hlocks hst h d_Lw_remove_19
  · refine kh_throw (E := E_ia) (hpc := 10) (As := [.int x1, .int x2, .int x3]) (rest := []) (b := g.1 51) ⟨hx, hb, hml, hown, hts⟩ (c_Sd_remove_ia l htr x1 x2 x3 h) (cwV 3 hts (gd_v gw576 gw577 gw578 gw1 gw579) rfl rfl rfl (by decide +kernel) ⟨Nat.le_of_ble_eq_true rfl, Nat.le_of_ble_eq_true rfl⟩) ⟨kw_blind (Zk_ok g), va_recv hK hst.1 rfl (WS_o51 g σ), kw_pre (Zk_ok g) hK hZ hA hst⟩ rfl hl.1 rfl (Nat.le_of_ble_eq_true rfl) d_Lw_remove_4 ⟨Nat.le_of_ble_eq_true rfl, Nat.le_of_ble_eq_true rfl⟩ (fun ha k hk => kc_of _ _ htab (kc_hy ⟨Nat.zero_le _, Nat.le_of_ble_eq_true rfl⟩ (by decide) (kc_yes ha hown (hts _ gw471) (hZ.2.2.2.1.1.use (List.mem_of_getElem? (i := 3) rfl)) hk))) hst hA (fun x_1 σ1 H locs h hst => ?_)
    refine lv_astore hx hb d_Lw_remove_10 hl (by decide) rfl (fun ls hl => ?_)
    have hl : lv_has ls 5 [(4, .ref x_1), (0, .ref (g.1 51)), (1, .int x1), (2, .int x2), (3, .int x3)] := hl
    refine lv_iconst (v := (1 : Int32)) hx hb d_Lw_remove_12 (by decide) ?_
    refine W.widen (k := 1) (n := 6) (Nat.le_of_ble_eq_true rfl) (Nat.le_of_ble_eq_true rfl) ?_
    exact kw_iret hx hb hr hlocks hst h d_Lw_remove_13
  · refine kh_throw (E := E_io) (hpc := 14) (As := [.int x1, .int x2, .int x3]) (rest := []) (b := g.1 51) ⟨hx, hb, hml, hown, hts⟩ (c_Sd_remove_io l htr x1 x2 x3 h) (cwV 3 hts (gd_v gw576 gw577 gw578 gw1 gw579) rfl rfl rfl (by decide +kernel) ⟨Nat.le_of_ble_eq_true rfl, Nat.le_of_ble_eq_true rfl⟩) ⟨kw_blind (Zk_ok g), va_recv hK hst.1 rfl (WS_o51 g σ), kw_pre (Zk_ok g) hK hZ hA hst⟩ rfl hl.1 rfl (Nat.le_of_ble_eq_true rfl) d_Lw_remove_4 ⟨Nat.le_of_ble_eq_true rfl, Nat.le_of_ble_eq_true rfl⟩ (fun ha k hk => kc_of _ _ htab (kc_hn ⟨Nat.zero_le _, Nat.le_of_ble_eq_true rfl⟩ (by decide) (kc_no ha hown (hts _ gw471) (hZ.2.2.2.1.2 _ (List.mem_of_getElem? (i := 0) rfl)) hk) (kc_hy ⟨Nat.zero_le _, Nat.le_of_ble_eq_true rfl⟩ (by decide) (kc_yes ha hown (hts _ gw472) (hZ.2.2.2.1.1.use (List.mem_of_getElem? (i := 4) rfl)) hk)))) hst hA (fun x_1 σ1 H locs h hst => ?_)
    refine lv_astore hx hb d_Lw_remove_14 hl (by decide) rfl (fun ls hl => ?_)
    have hl : lv_has ls 5 [(4, .ref x_1), (0, .ref (g.1 51)), (1, .int x1), (2, .int x2), (3, .int x3)] := hl
    refine lv_iconst (v := (2 : Int32)) hx hb d_Lw_remove_16 (by decide) ?_
    refine W.widen (k := 1) (n := 6) (Nat.le_of_ble_eq_true rfl) (Nat.le_of_ble_eq_true rfl) ?_
    exact kw_iret hx hb hr hlocks hst h d_Lw_remove_17
set_option maxRecDepth 100000 in
set_option maxHeartbeats 4000000 in
theorem c_Lw_remove (l : Launch) {D : va_G} {g : Gm} (htr : l.stackTraces = false) {sz : Nat} (x1 : Int32) (x2 : Int32) (x3 : Int32) {σ : Sg} {post : Int32 → Sg → Prop} (h : wq_Lw_remove x1 x2 x3 σ post) : Met l y_Lw_remove (.codeWith y_Lw_remove k_Lw_remove 5 (some .int) [(0, 7, 10, 13), (0, 7, 14, 15)] :: GW) { frames := 7, cells := 1, slots := 6, locals := 124 } (PcW D vwCl (WS g) g (Zk g) σ sz [.ref (g.1 51), .int x1, .int x2, .int x3]) (QiW D vwCl (WS g) post (va_A (WS g σ) sz)) 1 6 (va_A (WS g σ) sz) := by
  refine kh_entry (own := R_Lw) (by decide) rfl rfl (Nat.le_of_ble_eq_true rfl) ?_
  intro p e s m below meth c ls hsz C htab hl hst
  exact b_Lw_remove_0 C htr htab x1 x2 x3 σ _ _ ls hl hst h
/-! SchemaDeskLaw.length (LSchemaDesk;I[J)I -/
abbrev k_Lw_length : ByteArray := method_5_code
abbrev y_Lw_length : MethodName := ⟨"SchemaDeskLaw", "length", "(LSchemaDesk;I[J)I"⟩
theorem d_Lw_length_0 : decode k_Lw_length 0 = .ok (.aload_n 2, 1) := by decide +kernel
theorem d_Lw_length_1 : decode k_Lw_length 1 = .ok (.iconst 0, 1) := by decide +kernel
theorem d_Lw_length_2 : decode k_Lw_length 2 = .ok (.aload_n 0, 1) := by decide +kernel
theorem d_Lw_length_3 : decode k_Lw_length 3 = .ok (.iload_n 1, 1) := by decide +kernel
theorem d_Lw_length_4 : decode k_Lw_length 4 = .ok (.invokevirtual 23, 3) := by decide +kernel
theorem d_Lw_length_7 : decode k_Lw_length 7 = .ok (.i2l, 1) := by decide +kernel
theorem d_Lw_length_8 : decode k_Lw_length 8 = .ok (.lastore, 1) := by decide +kernel
theorem d_Lw_length_9 : decode k_Lw_length 9 = .ok (.goto 6, 3) := by decide +kernel
theorem d_Lw_length_12 : decode k_Lw_length 12 = .ok (.astore_n 3, 1) := by decide +kernel
theorem d_Lw_length_13 : decode k_Lw_length 13 = .ok (.iconst 1, 1) := by decide +kernel
theorem d_Lw_length_14 : decode k_Lw_length 14 = .ok (.ireturn, 1) := by decide +kernel
theorem d_Lw_length_15 : decode k_Lw_length 15 = .ok (.iconst 0, 1) := by decide +kernel
theorem d_Lw_length_16 : decode k_Lw_length 16 = .ok (.ireturn, 1) := by decide +kernel
theorem gw587 : (Jvm.Cond.methodLink "SchemaDeskLaw" (23 : Nat) ({ cls := "SchemaDesk", name := "length", desc := "(I)I" } : Jvm.MethodName)) ∈ GW := gw_t3 (List.mem_of_getElem? (i := 107) rfl) rfl
theorem gw588 : (Jvm.Cond.instanceMethod ({ cls := "SchemaDesk", name := "length", desc := "(I)I" } : Jvm.MethodName)) ∈ GW := gw_t3 (List.mem_of_getElem? (i := 108) rfl) rfl
theorem gw589 : (Jvm.Cond.selects "SchemaDesk" ({ cls := "SchemaDesk", name := "length", desc := "(I)I" } : Jvm.MethodName) ({ cls := "SchemaDesk", name := "length", desc := "(I)I" } : Jvm.MethodName)) ∈ GW := gw_t3 (List.mem_of_getElem? (i := 109) rfl) rfl
theorem gw590 : (Jvm.Cond.code ({ cls := "SchemaDesk", name := "length", desc := "(I)I" } : Jvm.MethodName) prog_1_method_6_code (2 : Nat) (Option.some Jvm.ClassFile.FieldType.int)) ∈ GW := gw_t3 (List.mem_of_getElem? (i := 110) rfl) rfl
def wq_Lw_length (x1 : Int32) (σ : Sg) (post : Int32 → Sg → Prop) : Prop := ((wq_Sd_length x1 σ (fun r1 σ1 => (vp_in (0 : Int32) 1 ∧ (∀ σ2, σ2 = sl σ1 53 ((0 : Int32) : Int32).toNatClampNeg ((r1 : Int32).toInt64) → post (0 : Int32) σ2)))) ∨ (wq_Sd_length_ia x1 σ (fun σ1 => post (1 : Int32) σ1)))
set_option maxRecDepth 100000 in
set_option maxHeartbeats 4000000 in
theorem b_Lw_length_0 {p : Program} {l : Launch} {e : Env} {s : State} {m : MethodId} {args : Array Value} {below : List Frame} {meth : Method} {c : Code} {D : va_G} {g : Gm} {A : Nat → Prop} {post : Int32 → Sg → Prop} (C : kC p s m args meth c k_Lw_length 4 (some .int) GW R_Lw D vwCl g (Zk g) A) (htr : l.stackTraces = false) (htab : c.exceptionTable.toList.map (fun h => (h.startPc, h.endPc, h.handlerPc, h.catchType)) = [(0, 9, 12, 13)]) (x1 : Int32) (σ : Sg) (H : Heap) (locs : List Loc) (ls : Array Slot) (hl : lv_has ls 4 [(0, .ref (g.1 51)), (1, .int x1), (2, .ref (g.1 53))]) (hst : Wst D vwCl (WS g) A s σ H locs) (h : wq_Lw_length x1 σ post) : W p l e { frames := 7, cells := 1, slots := 6, locals := 121 } s m args below meth c H locs 0 0 (MQ below (QiW D vwCl (WS g) post A) args s 1 6 A) (F0 m 0 ls []) := by
  obtain ⟨hx, hb, hr, hml, hown, hts, hlocks, hK, hZ, hA⟩ := C
  unfold wq_Lw_length at h
  refine lv_aload_n hx hb d_Lw_length_0 rfl (lv_at hl 2 rfl) ?_
  refine lv_iconst (v := (0 : Int32)) hx hb d_Lw_length_1 (by decide) ?_
  refine lv_aload_n hx hb d_Lw_length_2 rfl (lv_at hl 0 rfl) ?_
  refine lv_iload_n hx hb d_Lw_length_3 rfl (lv_at hl 1 rfl) ?_
  rcases h with h | h
  · refine kw_calli (va_runV (As := [.int x1]) (rest := [.int (0 : Int32), .ref (g.1 53)]) (b := g.1 51) ⟨hx, hb, hml, hown, hts⟩ (c_Sd_length l x1 h) (cwV 1 hts (gd_v gw587 gw588 gw589 gw1 gw590) rfl rfl rfl (by decide +kernel) ⟨Nat.le_of_ble_eq_true rfl, Nat.le_of_ble_eq_true rfl⟩) ⟨kw_blind (Zk_ok g), va_recv hK hst.1 rfl (WS_o51 g σ), kw_pre (Zk_ok g) hK hZ hA hst⟩ rfl rfl hl.1 rfl (lv_room (Nat.le_of_ble_eq_true rfl)) d_Lw_length_4 ⟨Nat.le_of_ble_eq_true rfl, Nat.le_of_ble_eq_true rfl⟩) hst hA (fun r1 σ1 H locs h hst => ?_)
    refine lv_i2l hx hb d_Lw_length_7 rfl ?_
    obtain ⟨hi, h⟩ := h
    refine kw_last hx hb hK hst 53 (WS_a53 g σ1) hi (WS_s53 g σ1 _ _) d_Lw_length_8 (fun σ2 H locs e2 hst => ?_)
    replace h := h σ2 e2
    refine lv_goto (tgt := 15) hx hb d_Lw_length_9 (by decide) ?_
    refine lv_iconst (v := (0 : Int32)) hx hb d_Lw_length_15 (by decide) ?_
    refine W.widen (k := 1) (n := 6) (Nat.le_of_ble_eq_true rfl) (Nat.le_of_ble_eq_true rfl) ?_
    exact kw_iret hx hb hr hlocks hst h d_Lw_length_16
  · refine kh_throw (E := E_ia) (hpc := 12) (As := [.int x1]) (rest := [.int (0 : Int32), .ref (g.1 53)]) (b := g.1 51) ⟨hx, hb, hml, hown, hts⟩ (c_Sd_length_ia l htr x1 h) (cwV 1 hts (gd_v gw587 gw588 gw589 gw1 gw590) rfl rfl rfl (by decide +kernel) ⟨Nat.le_of_ble_eq_true rfl, Nat.le_of_ble_eq_true rfl⟩) ⟨kw_blind (Zk_ok g), va_recv hK hst.1 rfl (WS_o51 g σ), kw_pre (Zk_ok g) hK hZ hA hst⟩ rfl hl.1 rfl (Nat.le_of_ble_eq_true rfl) d_Lw_length_4 ⟨Nat.le_of_ble_eq_true rfl, Nat.le_of_ble_eq_true rfl⟩ (fun ha k hk => kc_of _ _ htab (kc_hy ⟨Nat.zero_le _, Nat.le_of_ble_eq_true rfl⟩ (by decide) (kc_yes ha hown (hts _ gw471) (hZ.2.2.2.1.1.use (List.mem_of_getElem? (i := 3) rfl)) hk))) hst hA (fun x_1 σ1 H locs h hst => ?_)
    refine lv_astore_n hx hb d_Lw_length_12 rfl hl (by decide) rfl (fun ls hl => ?_)
    have hl : lv_has ls 4 [(3, .ref x_1), (0, .ref (g.1 51)), (1, .int x1), (2, .ref (g.1 53))] := hl
    refine lv_iconst (v := (1 : Int32)) hx hb d_Lw_length_13 (by decide) ?_
    refine W.widen (k := 1) (n := 6) (Nat.le_of_ble_eq_true rfl) (Nat.le_of_ble_eq_true rfl) ?_
    exact kw_iret hx hb hr hlocks hst h d_Lw_length_14
set_option maxRecDepth 100000 in
set_option maxHeartbeats 4000000 in
theorem c_Lw_length (l : Launch) {D : va_G} {g : Gm} (htr : l.stackTraces = false) {sz : Nat} (x1 : Int32) {σ : Sg} {post : Int32 → Sg → Prop} (h : wq_Lw_length x1 σ post) : Met l y_Lw_length (.codeWith y_Lw_length k_Lw_length 4 (some .int) [(0, 9, 12, 13)] :: GW) { frames := 7, cells := 1, slots := 6, locals := 121 } (PcW D vwCl (WS g) g (Zk g) σ sz [.ref (g.1 51), .int x1, .ref (g.1 53)]) (QiW D vwCl (WS g) post (va_A (WS g σ) sz)) 1 6 (va_A (WS g σ) sz) := by
  refine kh_entry (own := R_Lw) (by decide) rfl rfl (Nat.le_of_ble_eq_true rfl) ?_
  intro p e s m below meth c ls hsz C htab hl hst
  exact b_Lw_length_0 C htr htab x1 σ _ _ ls hl hst h
/-! SchemaDeskLaw.letter (LSchemaDesk;II[J)I -/
abbrev k_Lw_letter : ByteArray := method_6_code
abbrev y_Lw_letter : MethodName := ⟨"SchemaDeskLaw", "letter", "(LSchemaDesk;II[J)I"⟩
theorem d_Lw_letter_0 : decode k_Lw_letter 0 = .ok (.aload_n 3, 1) := by decide +kernel
theorem d_Lw_letter_1 : decode k_Lw_letter 1 = .ok (.iconst 0, 1) := by decide +kernel
theorem d_Lw_letter_2 : decode k_Lw_letter 2 = .ok (.aload_n 0, 1) := by decide +kernel
theorem d_Lw_letter_3 : decode k_Lw_letter 3 = .ok (.iload_n 1, 1) := by decide +kernel
theorem d_Lw_letter_4 : decode k_Lw_letter 4 = .ok (.iload_n 2, 1) := by decide +kernel
theorem d_Lw_letter_5 : decode k_Lw_letter 5 = .ok (.invokevirtual 27, 3) := by decide +kernel
theorem d_Lw_letter_8 : decode k_Lw_letter 8 = .ok (.i2l, 1) := by decide +kernel
theorem d_Lw_letter_9 : decode k_Lw_letter 9 = .ok (.lastore, 1) := by decide +kernel
theorem d_Lw_letter_10 : decode k_Lw_letter 10 = .ok (.goto 11, 3) := by decide +kernel
theorem d_Lw_letter_13 : decode k_Lw_letter 13 = .ok (.astore 4, 2) := by decide +kernel
theorem d_Lw_letter_15 : decode k_Lw_letter 15 = .ok (.iconst 1, 1) := by decide +kernel
theorem d_Lw_letter_16 : decode k_Lw_letter 16 = .ok (.ireturn, 1) := by decide +kernel
theorem d_Lw_letter_17 : decode k_Lw_letter 17 = .ok (.astore 4, 2) := by decide +kernel
theorem d_Lw_letter_19 : decode k_Lw_letter 19 = .ok (.iconst 2, 1) := by decide +kernel
theorem d_Lw_letter_20 : decode k_Lw_letter 20 = .ok (.ireturn, 1) := by decide +kernel
theorem d_Lw_letter_21 : decode k_Lw_letter 21 = .ok (.iconst 0, 1) := by decide +kernel
theorem d_Lw_letter_22 : decode k_Lw_letter 22 = .ok (.ireturn, 1) := by decide +kernel
theorem gw594 : (Jvm.Cond.methodLink "SchemaDeskLaw" (27 : Nat) ({ cls := "SchemaDesk", name := "letter", desc := "(II)C" } : Jvm.MethodName)) ∈ GW := gw_t3 (List.mem_of_getElem? (i := 114) rfl) rfl
theorem gw595 : (Jvm.Cond.instanceMethod ({ cls := "SchemaDesk", name := "letter", desc := "(II)C" } : Jvm.MethodName)) ∈ GW := gw_t3 (List.mem_of_getElem? (i := 115) rfl) rfl
theorem gw596 : (Jvm.Cond.selects "SchemaDesk" ({ cls := "SchemaDesk", name := "letter", desc := "(II)C" } : Jvm.MethodName) ({ cls := "SchemaDesk", name := "letter", desc := "(II)C" } : Jvm.MethodName)) ∈ GW := gw_t3 (List.mem_of_getElem? (i := 116) rfl) rfl
theorem gw597 : (Jvm.Cond.code ({ cls := "SchemaDesk", name := "letter", desc := "(II)C" } : Jvm.MethodName) prog_1_method_7_code (4 : Nat) (Option.some Jvm.ClassFile.FieldType.char)) ∈ GW := gw_t3 (List.mem_of_getElem? (i := 117) rfl) rfl
def wq_Lw_letter (x1 : Int32) (x2 : Int32) (σ : Sg) (post : Int32 → Sg → Prop) : Prop := ((wq_Sd_letter x1 x2 σ (fun r1 σ1 => (vp_in (0 : Int32) 1 ∧ (∀ σ2, σ2 = sl σ1 53 ((0 : Int32) : Int32).toNatClampNeg ((r1 : Int32).toInt64) → post (0 : Int32) σ2)))) ∨ (wq_Sd_letter_ia x1 x2 σ (fun σ1 => post (1 : Int32) σ1)) ∨ (wq_Sd_letter_io x1 x2 σ (fun σ1 => post (2 : Int32) σ1)))
set_option maxRecDepth 100000 in
set_option maxHeartbeats 4000000 in
theorem b_Lw_letter_0 {p : Program} {l : Launch} {e : Env} {s : State} {m : MethodId} {args : Array Value} {below : List Frame} {meth : Method} {c : Code} {D : va_G} {g : Gm} {A : Nat → Prop} {post : Int32 → Sg → Prop} (C : kC p s m args meth c k_Lw_letter 5 (some .int) GW R_Lw D vwCl g (Zk g) A) (htr : l.stackTraces = false) (htab : c.exceptionTable.toList.map (fun h => (h.startPc, h.endPc, h.handlerPc, h.catchType)) = [(0, 10, 13, 13), (0, 10, 17, 15)]) (x1 : Int32) (x2 : Int32) (σ : Sg) (H : Heap) (locs : List Loc) (ls : Array Slot) (hl : lv_has ls 5 [(0, .ref (g.1 51)), (1, .int x1), (2, .int x2), (3, .ref (g.1 53))]) (hst : Wst D vwCl (WS g) A s σ H locs) (h : wq_Lw_letter x1 x2 σ post) : W p l e { frames := 7, cells := 1, slots := 6, locals := 123 } s m args below meth c H locs 0 0 (MQ below (QiW D vwCl (WS g) post A) args s 1 6 A) (F0 m 0 ls []) := by
  obtain ⟨hx, hb, hr, hml, hown, hts, hlocks, hK, hZ, hA⟩ := C
  unfold wq_Lw_letter at h
  refine lv_aload_n hx hb d_Lw_letter_0 rfl (lv_at hl 3 rfl) ?_
  refine lv_iconst (v := (0 : Int32)) hx hb d_Lw_letter_1 (by decide) ?_
  refine lv_aload_n hx hb d_Lw_letter_2 rfl (lv_at hl 0 rfl) ?_
  refine lv_iload_n hx hb d_Lw_letter_3 rfl (lv_at hl 1 rfl) ?_
  refine lv_iload_n hx hb d_Lw_letter_4 rfl (lv_at hl 2 rfl) ?_
  rcases h with h | h | h
  · refine kw_calli (va_runV (As := [.int x1, .int x2]) (rest := [.int (0 : Int32), .ref (g.1 53)]) (b := g.1 51) ⟨hx, hb, hml, hown, hts⟩ (c_Sd_letter l x1 x2 h) (cwV 2 hts (gd_v gw594 gw595 gw596 gw1 gw597) rfl rfl rfl (by decide +kernel) ⟨Nat.le_of_ble_eq_true rfl, Nat.le_of_ble_eq_true rfl⟩) ⟨kw_blind (Zk_ok g), va_recv hK hst.1 rfl (WS_o51 g σ), kw_pre (Zk_ok g) hK hZ hA hst⟩ rfl rfl hl.1 rfl (lv_room (Nat.le_of_ble_eq_true rfl)) d_Lw_letter_5 ⟨Nat.le_of_ble_eq_true rfl, Nat.le_of_ble_eq_true rfl⟩) hst hA (fun r1 σ1 H locs h hst => ?_)
    refine lv_i2l hx hb d_Lw_letter_8 rfl ?_
    obtain ⟨hi, h⟩ := h
    refine kw_last hx hb hK hst 53 (WS_a53 g σ1) hi (WS_s53 g σ1 _ _) d_Lw_letter_9 (fun σ2 H locs e2 hst => ?_)
    replace h := h σ2 e2
    refine lv_goto (tgt := 21) hx hb d_Lw_letter_10 (by decide) ?_
    refine lv_iconst (v := (0 : Int32)) hx hb d_Lw_letter_21 (by decide) ?_
    refine W.widen (k := 1) (n := 6) (Nat.le_of_ble_eq_true rfl) (Nat.le_of_ble_eq_true rfl) ?_
    exact kw_iret hx hb hr hlocks hst h d_Lw_letter_22
  · refine kh_throw (E := E_ia) (hpc := 13) (As := [.int x1, .int x2]) (rest := [.int (0 : Int32), .ref (g.1 53)]) (b := g.1 51) ⟨hx, hb, hml, hown, hts⟩ (c_Sd_letter_ia l htr x1 x2 h) (cwV 2 hts (gd_v gw594 gw595 gw596 gw1 gw597) rfl rfl rfl (by decide +kernel) ⟨Nat.le_of_ble_eq_true rfl, Nat.le_of_ble_eq_true rfl⟩) ⟨kw_blind (Zk_ok g), va_recv hK hst.1 rfl (WS_o51 g σ), kw_pre (Zk_ok g) hK hZ hA hst⟩ rfl hl.1 rfl (Nat.le_of_ble_eq_true rfl) d_Lw_letter_5 ⟨Nat.le_of_ble_eq_true rfl, Nat.le_of_ble_eq_true rfl⟩ (fun ha k hk => kc_of _ _ htab (kc_hy ⟨Nat.zero_le _, Nat.le_of_ble_eq_true rfl⟩ (by decide) (kc_yes ha hown (hts _ gw471) (hZ.2.2.2.1.1.use (List.mem_of_getElem? (i := 3) rfl)) hk))) hst hA (fun x_1 σ1 H locs h hst => ?_)
    refine lv_astore hx hb d_Lw_letter_13 hl (by decide) rfl (fun ls hl => ?_)
    have hl : lv_has ls 5 [(4, .ref x_1), (0, .ref (g.1 51)), (1, .int x1), (2, .int x2), (3, .ref (g.1 53))] := hl
    refine lv_iconst (v := (1 : Int32)) hx hb d_Lw_letter_15 (by decide) ?_
    refine W.widen (k := 1) (n := 6) (Nat.le_of_ble_eq_true rfl) (Nat.le_of_ble_eq_true rfl) ?_
    exact kw_iret hx hb hr hlocks hst h d_Lw_letter_16
  · refine kh_throw (E := E_io) (hpc := 17) (As := [.int x1, .int x2]) (rest := [.int (0 : Int32), .ref (g.1 53)]) (b := g.1 51) ⟨hx, hb, hml, hown, hts⟩ (c_Sd_letter_io l htr x1 x2 h) (cwV 2 hts (gd_v gw594 gw595 gw596 gw1 gw597) rfl rfl rfl (by decide +kernel) ⟨Nat.le_of_ble_eq_true rfl, Nat.le_of_ble_eq_true rfl⟩) ⟨kw_blind (Zk_ok g), va_recv hK hst.1 rfl (WS_o51 g σ), kw_pre (Zk_ok g) hK hZ hA hst⟩ rfl hl.1 rfl (Nat.le_of_ble_eq_true rfl) d_Lw_letter_5 ⟨Nat.le_of_ble_eq_true rfl, Nat.le_of_ble_eq_true rfl⟩ (fun ha k hk => kc_of _ _ htab (kc_hn ⟨Nat.zero_le _, Nat.le_of_ble_eq_true rfl⟩ (by decide) (kc_no ha hown (hts _ gw471) (hZ.2.2.2.1.2 _ (List.mem_of_getElem? (i := 0) rfl)) hk) (kc_hy ⟨Nat.zero_le _, Nat.le_of_ble_eq_true rfl⟩ (by decide) (kc_yes ha hown (hts _ gw472) (hZ.2.2.2.1.1.use (List.mem_of_getElem? (i := 4) rfl)) hk)))) hst hA (fun x_1 σ1 H locs h hst => ?_)
    refine lv_astore hx hb d_Lw_letter_17 hl (by decide) rfl (fun ls hl => ?_)
    have hl : lv_has ls 5 [(4, .ref x_1), (0, .ref (g.1 51)), (1, .int x1), (2, .int x2), (3, .ref (g.1 53))] := hl
    refine lv_iconst (v := (2 : Int32)) hx hb d_Lw_letter_19 (by decide) ?_
    refine W.widen (k := 1) (n := 6) (Nat.le_of_ble_eq_true rfl) (Nat.le_of_ble_eq_true rfl) ?_
    exact kw_iret hx hb hr hlocks hst h d_Lw_letter_20
set_option maxRecDepth 100000 in
set_option maxHeartbeats 4000000 in
theorem c_Lw_letter (l : Launch) {D : va_G} {g : Gm} (htr : l.stackTraces = false) {sz : Nat} (x1 : Int32) (x2 : Int32) {σ : Sg} {post : Int32 → Sg → Prop} (h : wq_Lw_letter x1 x2 σ post) : Met l y_Lw_letter (.codeWith y_Lw_letter k_Lw_letter 5 (some .int) [(0, 10, 13, 13), (0, 10, 17, 15)] :: GW) { frames := 7, cells := 1, slots := 6, locals := 123 } (PcW D vwCl (WS g) g (Zk g) σ sz [.ref (g.1 51), .int x1, .int x2, .ref (g.1 53)]) (QiW D vwCl (WS g) post (va_A (WS g σ) sz)) 1 6 (va_A (WS g σ) sz) := by
  refine kh_entry (own := R_Lw) (by decide) rfl rfl (Nat.le_of_ble_eq_true rfl) ?_
  intro p e s m below meth c ls hsz C htab hl hst
  exact b_Lw_letter_0 C htr htab x1 x2 σ _ _ ls hl hst h
/-! SchemaDeskLaw.nodes (LSchemaDesk;I[J)I -/
abbrev k_Lw_nodes : ByteArray := method_7_code
abbrev y_Lw_nodes : MethodName := ⟨"SchemaDeskLaw", "nodes", "(LSchemaDesk;I[J)I"⟩
theorem d_Lw_nodes_0 : decode k_Lw_nodes 0 = .ok (.aload_n 2, 1) := by decide +kernel
theorem d_Lw_nodes_1 : decode k_Lw_nodes 1 = .ok (.iconst 0, 1) := by decide +kernel
theorem d_Lw_nodes_2 : decode k_Lw_nodes 2 = .ok (.aload_n 0, 1) := by decide +kernel
theorem d_Lw_nodes_3 : decode k_Lw_nodes 3 = .ok (.iload_n 1, 1) := by decide +kernel
theorem d_Lw_nodes_4 : decode k_Lw_nodes 4 = .ok (.invokevirtual 31, 3) := by decide +kernel
theorem d_Lw_nodes_7 : decode k_Lw_nodes 7 = .ok (.i2l, 1) := by decide +kernel
theorem d_Lw_nodes_8 : decode k_Lw_nodes 8 = .ok (.lastore, 1) := by decide +kernel
theorem d_Lw_nodes_9 : decode k_Lw_nodes 9 = .ok (.goto 6, 3) := by decide +kernel
theorem d_Lw_nodes_12 : decode k_Lw_nodes 12 = .ok (.astore_n 3, 1) := by decide +kernel
theorem d_Lw_nodes_13 : decode k_Lw_nodes 13 = .ok (.iconst 1, 1) := by decide +kernel
theorem d_Lw_nodes_14 : decode k_Lw_nodes 14 = .ok (.ireturn, 1) := by decide +kernel
theorem d_Lw_nodes_15 : decode k_Lw_nodes 15 = .ok (.iconst 0, 1) := by decide +kernel
theorem d_Lw_nodes_16 : decode k_Lw_nodes 16 = .ok (.ireturn, 1) := by decide +kernel
theorem gw601 : (Jvm.Cond.methodLink "SchemaDeskLaw" (31 : Nat) ({ cls := "SchemaDesk", name := "nodes", desc := "(I)I" } : Jvm.MethodName)) ∈ GW := gw_t3 (List.mem_of_getElem? (i := 121) rfl) rfl
theorem gw602 : (Jvm.Cond.instanceMethod ({ cls := "SchemaDesk", name := "nodes", desc := "(I)I" } : Jvm.MethodName)) ∈ GW := gw_t3 (List.mem_of_getElem? (i := 122) rfl) rfl
theorem gw603 : (Jvm.Cond.selects "SchemaDesk" ({ cls := "SchemaDesk", name := "nodes", desc := "(I)I" } : Jvm.MethodName) ({ cls := "SchemaDesk", name := "nodes", desc := "(I)I" } : Jvm.MethodName)) ∈ GW := gw_t3 (List.mem_of_getElem? (i := 123) rfl) rfl
theorem gw604 : (Jvm.Cond.code ({ cls := "SchemaDesk", name := "nodes", desc := "(I)I" } : Jvm.MethodName) prog_1_method_8_code (2 : Nat) (Option.some Jvm.ClassFile.FieldType.int)) ∈ GW := gw_t3 (List.mem_of_getElem? (i := 124) rfl) rfl
def wq_Lw_nodes (x1 : Int32) (σ : Sg) (post : Int32 → Sg → Prop) : Prop := ((wq_Sd_nodes x1 σ (fun r1 σ1 => (vp_in (0 : Int32) 1 ∧ (∀ σ2, σ2 = sl σ1 53 ((0 : Int32) : Int32).toNatClampNeg ((r1 : Int32).toInt64) → post (0 : Int32) σ2)))) ∨ (wq_Sd_nodes_ia x1 σ (fun σ1 => post (1 : Int32) σ1)))
set_option maxRecDepth 100000 in
set_option maxHeartbeats 4000000 in
theorem b_Lw_nodes_0 {p : Program} {l : Launch} {e : Env} {s : State} {m : MethodId} {args : Array Value} {below : List Frame} {meth : Method} {c : Code} {D : va_G} {g : Gm} {A : Nat → Prop} {post : Int32 → Sg → Prop} (C : kC p s m args meth c k_Lw_nodes 4 (some .int) GW R_Lw D vwCl g (Zk g) A) (htr : l.stackTraces = false) (htab : c.exceptionTable.toList.map (fun h => (h.startPc, h.endPc, h.handlerPc, h.catchType)) = [(0, 9, 12, 13)]) (x1 : Int32) (σ : Sg) (H : Heap) (locs : List Loc) (ls : Array Slot) (hl : lv_has ls 4 [(0, .ref (g.1 51)), (1, .int x1), (2, .ref (g.1 53))]) (hst : Wst D vwCl (WS g) A s σ H locs) (h : wq_Lw_nodes x1 σ post) : W p l e { frames := 38, cells := 1, slots := 6, locals := 949 } s m args below meth c H locs 0 0 (MQ below (QiW D vwCl (WS g) post A) args s 1 6 A) (F0 m 0 ls []) := by
  obtain ⟨hx, hb, hr, hml, hown, hts, hlocks, hK, hZ, hA⟩ := C
  unfold wq_Lw_nodes at h
  refine lv_aload_n hx hb d_Lw_nodes_0 rfl (lv_at hl 2 rfl) ?_
  refine lv_iconst (v := (0 : Int32)) hx hb d_Lw_nodes_1 (by decide) ?_
  refine lv_aload_n hx hb d_Lw_nodes_2 rfl (lv_at hl 0 rfl) ?_
  refine lv_iload_n hx hb d_Lw_nodes_3 rfl (lv_at hl 1 rfl) ?_
  rcases h with h | h
  · refine kw_calli (va_runV (As := [.int x1]) (rest := [.int (0 : Int32), .ref (g.1 53)]) (b := g.1 51) ⟨hx, hb, hml, hown, hts⟩ (c_Sd_nodes l x1 h) (cwV 1 hts (gd_v gw601 gw602 gw603 gw1 gw604) rfl rfl rfl (by decide +kernel) ⟨Nat.le_of_ble_eq_true rfl, Nat.le_of_ble_eq_true rfl⟩) ⟨kw_blind (Zk_ok g), va_recv hK hst.1 rfl (WS_o51 g σ), kw_pre (Zk_ok g) hK hZ hA hst⟩ rfl rfl hl.1 rfl (lv_room (Nat.le_of_ble_eq_true rfl)) d_Lw_nodes_4 ⟨Nat.le_of_ble_eq_true rfl, Nat.le_of_ble_eq_true rfl⟩) hst hA (fun r1 σ1 H locs h hst => ?_)
    refine lv_i2l hx hb d_Lw_nodes_7 rfl ?_
    obtain ⟨hi, h⟩ := h
    refine kw_last hx hb hK hst 53 (WS_a53 g σ1) hi (WS_s53 g σ1 _ _) d_Lw_nodes_8 (fun σ2 H locs e2 hst => ?_)
    replace h := h σ2 e2
    refine lv_goto (tgt := 15) hx hb d_Lw_nodes_9 (by decide) ?_
    refine lv_iconst (v := (0 : Int32)) hx hb d_Lw_nodes_15 (by decide) ?_
    refine W.widen (k := 1) (n := 6) (Nat.le_of_ble_eq_true rfl) (Nat.le_of_ble_eq_true rfl) ?_
    exact kw_iret hx hb hr hlocks hst h d_Lw_nodes_16
  · refine kh_throw (E := E_ia) (hpc := 12) (As := [.int x1]) (rest := [.int (0 : Int32), .ref (g.1 53)]) (b := g.1 51) ⟨hx, hb, hml, hown, hts⟩ (c_Sd_nodes_ia l htr x1 h) (cwV 1 hts (gd_v gw601 gw602 gw603 gw1 gw604) rfl rfl rfl (by decide +kernel) ⟨Nat.le_of_ble_eq_true rfl, Nat.le_of_ble_eq_true rfl⟩) ⟨kw_blind (Zk_ok g), va_recv hK hst.1 rfl (WS_o51 g σ), kw_pre (Zk_ok g) hK hZ hA hst⟩ rfl hl.1 rfl (Nat.le_of_ble_eq_true rfl) d_Lw_nodes_4 ⟨Nat.le_of_ble_eq_true rfl, Nat.le_of_ble_eq_true rfl⟩ (fun ha k hk => kc_of _ _ htab (kc_hy ⟨Nat.zero_le _, Nat.le_of_ble_eq_true rfl⟩ (by decide) (kc_yes ha hown (hts _ gw471) (hZ.2.2.2.1.1.use (List.mem_of_getElem? (i := 3) rfl)) hk))) hst hA (fun x_1 σ1 H locs h hst => ?_)
    refine lv_astore_n hx hb d_Lw_nodes_12 rfl hl (by decide) rfl (fun ls hl => ?_)
    have hl : lv_has ls 4 [(3, .ref x_1), (0, .ref (g.1 51)), (1, .int x1), (2, .ref (g.1 53))] := hl
    refine lv_iconst (v := (1 : Int32)) hx hb d_Lw_nodes_13 (by decide) ?_
    refine W.widen (k := 1) (n := 6) (Nat.le_of_ble_eq_true rfl) (Nat.le_of_ble_eq_true rfl) ?_
    exact kw_iret hx hb hr hlocks hst h d_Lw_nodes_14
set_option maxRecDepth 100000 in
set_option maxHeartbeats 4000000 in
theorem c_Lw_nodes (l : Launch) {D : va_G} {g : Gm} (htr : l.stackTraces = false) {sz : Nat} (x1 : Int32) {σ : Sg} {post : Int32 → Sg → Prop} (h : wq_Lw_nodes x1 σ post) : Met l y_Lw_nodes (.codeWith y_Lw_nodes k_Lw_nodes 4 (some .int) [(0, 9, 12, 13)] :: GW) { frames := 38, cells := 1, slots := 6, locals := 949 } (PcW D vwCl (WS g) g (Zk g) σ sz [.ref (g.1 51), .int x1, .ref (g.1 53)]) (QiW D vwCl (WS g) post (va_A (WS g σ) sz)) 1 6 (va_A (WS g σ) sz) := by
  refine kh_entry (own := R_Lw) (by decide) rfl rfl (Nat.le_of_ble_eq_true rfl) ?_
  intro p e s m below meth c ls hsz C htab hl hst
  exact b_Lw_nodes_0 C htr htab x1 σ _ _ ls hl hst h
/-! SchemaDeskLaw.node (LSchemaDesk;III[J)I -/
abbrev k_Lw_node : ByteArray := method_8_code
abbrev y_Lw_node : MethodName := ⟨"SchemaDeskLaw", "node", "(LSchemaDesk;III[J)I"⟩
theorem d_Lw_node_0 : decode k_Lw_node 0 = .ok (.aload 4, 2) := by decide +kernel
theorem d_Lw_node_2 : decode k_Lw_node 2 = .ok (.iconst 0, 1) := by decide +kernel
theorem d_Lw_node_3 : decode k_Lw_node 3 = .ok (.aload_n 0, 1) := by decide +kernel
theorem d_Lw_node_4 : decode k_Lw_node 4 = .ok (.iload_n 1, 1) := by decide +kernel
theorem d_Lw_node_5 : decode k_Lw_node 5 = .ok (.iload_n 2, 1) := by decide +kernel
theorem d_Lw_node_6 : decode k_Lw_node 6 = .ok (.iload_n 3, 1) := by decide +kernel
theorem d_Lw_node_7 : decode k_Lw_node 7 = .ok (.invokevirtual 34, 3) := by decide +kernel
theorem d_Lw_node_10 : decode k_Lw_node 10 = .ok (.i2l, 1) := by decide +kernel
theorem d_Lw_node_11 : decode k_Lw_node 11 = .ok (.lastore, 1) := by decide +kernel
theorem d_Lw_node_12 : decode k_Lw_node 12 = .ok (.goto 11, 3) := by decide +kernel
theorem d_Lw_node_15 : decode k_Lw_node 15 = .ok (.astore 5, 2) := by decide +kernel
theorem d_Lw_node_17 : decode k_Lw_node 17 = .ok (.iconst 1, 1) := by decide +kernel
theorem d_Lw_node_18 : decode k_Lw_node 18 = .ok (.ireturn, 1) := by decide +kernel
theorem d_Lw_node_19 : decode k_Lw_node 19 = .ok (.astore 5, 2) := by decide +kernel
theorem d_Lw_node_21 : decode k_Lw_node 21 = .ok (.iconst 2, 1) := by decide +kernel
theorem d_Lw_node_22 : decode k_Lw_node 22 = .ok (.ireturn, 1) := by decide +kernel
theorem d_Lw_node_23 : decode k_Lw_node 23 = .ok (.iconst 0, 1) := by decide +kernel
theorem d_Lw_node_24 : decode k_Lw_node 24 = .ok (.ireturn, 1) := by decide +kernel
theorem gw697 : (Jvm.Cond.methodLink "SchemaDeskLaw" (34 : Nat) ({ cls := "SchemaDesk", name := "node", desc := "(III)I" } : Jvm.MethodName)) ∈ GW := gw_t3 (List.mem_of_getElem? (i := 217) rfl) rfl
theorem gw698 : (Jvm.Cond.instanceMethod ({ cls := "SchemaDesk", name := "node", desc := "(III)I" } : Jvm.MethodName)) ∈ GW := gw_t3 (List.mem_of_getElem? (i := 218) rfl) rfl
theorem gw699 : (Jvm.Cond.selects "SchemaDesk" ({ cls := "SchemaDesk", name := "node", desc := "(III)I" } : Jvm.MethodName) ({ cls := "SchemaDesk", name := "node", desc := "(III)I" } : Jvm.MethodName)) ∈ GW := gw_t3 (List.mem_of_getElem? (i := 219) rfl) rfl
theorem gw700 : (Jvm.Cond.code ({ cls := "SchemaDesk", name := "node", desc := "(III)I" } : Jvm.MethodName) prog_1_method_9_code (5 : Nat) (Option.some Jvm.ClassFile.FieldType.int)) ∈ GW := gw_t3 (List.mem_of_getElem? (i := 220) rfl) rfl
theorem gw696 : (Jvm.Cond.classLink "SchemaDeskLaw" (38 : Nat) "java/util/NoSuchElementException") ∈ GW := gw_t3 (List.mem_of_getElem? (i := 216) rfl) rfl
def wq_Lw_node (x1 : Int32) (x2 : Int32) (x3 : Int32) (σ : Sg) (post : Int32 → Sg → Prop) : Prop := ((wq_Sd_node x1 x2 x3 σ (fun r1 σ1 => (vp_in (0 : Int32) 1 ∧ (∀ σ2, σ2 = sl σ1 53 ((0 : Int32) : Int32).toNatClampNeg ((r1 : Int32).toInt64) → post (0 : Int32) σ2)))) ∨ (wq_Sd_node_ia x1 x2 x3 σ (fun σ1 => post (1 : Int32) σ1)) ∨ (wq_Sd_node_ns x1 x2 x3 σ (fun σ1 => post (2 : Int32) σ1)))
set_option maxRecDepth 100000 in
set_option maxHeartbeats 4000000 in
theorem b_Lw_node_0 {p : Program} {l : Launch} {e : Env} {s : State} {m : MethodId} {args : Array Value} {below : List Frame} {meth : Method} {c : Code} {D : va_G} {g : Gm} {A : Nat → Prop} {post : Int32 → Sg → Prop} (C : kC p s m args meth c k_Lw_node 6 (some .int) GW R_Lw D vwCl g (Zk g) A) (htr : l.stackTraces = false) (htab : c.exceptionTable.toList.map (fun h => (h.startPc, h.endPc, h.handlerPc, h.catchType)) = [(0, 12, 15, 13), (0, 12, 19, 38)]) (x1 : Int32) (x2 : Int32) (x3 : Int32) (σ : Sg) (H : Heap) (locs : List Loc) (ls : Array Slot) (hl : lv_has ls 6 [(0, .ref (g.1 51)), (1, .int x1), (2, .int x2), (3, .int x3), (4, .ref (g.1 53))]) (hst : Wst D vwCl (WS g) A s σ H locs) (h : wq_Lw_node x1 x2 x3 σ post) : W p l e { frames := 38, cells := 1, slots := 6, locals := 952 } s m args below meth c H locs 0 0 (MQ below (QiW D vwCl (WS g) post A) args s 1 6 A) (F0 m 0 ls []) := by
  obtain ⟨hx, hb, hr, hml, hown, hts, hlocks, hK, hZ, hA⟩ := C
  unfold wq_Lw_node at h
  refine lv_aload hx hb d_Lw_node_0 (lv_at hl 4 rfl) ?_
  refine lv_iconst (v := (0 : Int32)) hx hb d_Lw_node_2 (by decide) ?_
  refine lv_aload_n hx hb d_Lw_node_3 rfl (lv_at hl 0 rfl) ?_
  refine lv_iload_n hx hb d_Lw_node_4 rfl (lv_at hl 1 rfl) ?_
  refine lv_iload_n hx hb d_Lw_node_5 rfl (lv_at hl 2 rfl) ?_
  refine lv_iload_n hx hb d_Lw_node_6 rfl (lv_at hl 3 rfl) ?_
  rcases h with h | h | h
  · refine kw_calli (va_runV (As := [.int x1, .int x2, .int x3]) (rest := [.int (0 : Int32), .ref (g.1 53)]) (b := g.1 51) ⟨hx, hb, hml, hown, hts⟩ (c_Sd_node l x1 x2 x3 h) (cwV 3 hts (gd_v gw697 gw698 gw699 gw1 gw700) rfl rfl rfl (by decide +kernel) ⟨Nat.le_of_ble_eq_true rfl, Nat.le_of_ble_eq_true rfl⟩) ⟨kw_blind (Zk_ok g), va_recv hK hst.1 rfl (WS_o51 g σ), kw_pre (Zk_ok g) hK hZ hA hst⟩ rfl rfl hl.1 rfl (lv_room (Nat.le_of_ble_eq_true rfl)) d_Lw_node_7 ⟨Nat.le_of_ble_eq_true rfl, Nat.le_of_ble_eq_true rfl⟩) hst hA (fun r1 σ1 H locs h hst => ?_)
    refine lv_i2l hx hb d_Lw_node_10 rfl ?_
    obtain ⟨hi, h⟩ := h
    refine kw_last hx hb hK hst 53 (WS_a53 g σ1) hi (WS_s53 g σ1 _ _) d_Lw_node_11 (fun σ2 H locs e2 hst => ?_)
    replace h := h σ2 e2
    refine lv_goto (tgt := 23) hx hb d_Lw_node_12 (by decide) ?_
    refine lv_iconst (v := (0 : Int32)) hx hb d_Lw_node_23 (by decide) ?_
    refine W.widen (k := 1) (n := 6) (Nat.le_of_ble_eq_true rfl) (Nat.le_of_ble_eq_true rfl) ?_
    exact kw_iret hx hb hr hlocks hst h d_Lw_node_24
  · refine kh_throw (E := E_ia) (hpc := 15) (As := [.int x1, .int x2, .int x3]) (rest := [.int (0 : Int32), .ref (g.1 53)]) (b := g.1 51) ⟨hx, hb, hml, hown, hts⟩ (c_Sd_node_ia l htr x1 x2 x3 h) (cwV 3 hts (gd_v gw697 gw698 gw699 gw1 gw700) rfl rfl rfl (by decide +kernel) ⟨Nat.le_of_ble_eq_true rfl, Nat.le_of_ble_eq_true rfl⟩) ⟨kw_blind (Zk_ok g), va_recv hK hst.1 rfl (WS_o51 g σ), kw_pre (Zk_ok g) hK hZ hA hst⟩ rfl hl.1 rfl (Nat.le_of_ble_eq_true rfl) d_Lw_node_7 ⟨Nat.le_of_ble_eq_true rfl, Nat.le_of_ble_eq_true rfl⟩ (fun ha k hk => kc_of _ _ htab (kc_hy ⟨Nat.zero_le _, Nat.le_of_ble_eq_true rfl⟩ (by decide) (kc_yes ha hown (hts _ gw471) (hZ.2.2.2.1.1.use (List.mem_of_getElem? (i := 3) rfl)) hk))) hst hA (fun x_1 σ1 H locs h hst => ?_)
    refine lv_astore hx hb d_Lw_node_15 hl (by decide) rfl (fun ls hl => ?_)
    have hl : lv_has ls 6 [(5, .ref x_1), (0, .ref (g.1 51)), (1, .int x1), (2, .int x2), (3, .int x3), (4, .ref (g.1 53))] := hl
    refine lv_iconst (v := (1 : Int32)) hx hb d_Lw_node_17 (by decide) ?_
    refine W.widen (k := 1) (n := 6) (Nat.le_of_ble_eq_true rfl) (Nat.le_of_ble_eq_true rfl) ?_
    exact kw_iret hx hb hr hlocks hst h d_Lw_node_18
  · refine kh_throw (E := E_ns) (hpc := 19) (As := [.int x1, .int x2, .int x3]) (rest := [.int (0 : Int32), .ref (g.1 53)]) (b := g.1 51) ⟨hx, hb, hml, hown, hts⟩ (c_Sd_node_ns l htr x1 x2 x3 h) (cwV 3 hts (gd_v gw697 gw698 gw699 gw1 gw700) rfl rfl rfl (by decide +kernel) ⟨Nat.le_of_ble_eq_true rfl, Nat.le_of_ble_eq_true rfl⟩) ⟨kw_blind (Zk_ok g), va_recv hK hst.1 rfl (WS_o51 g σ), kw_pre (Zk_ok g) hK hZ hA hst⟩ rfl hl.1 rfl (Nat.le_of_ble_eq_true rfl) d_Lw_node_7 ⟨Nat.le_of_ble_eq_true rfl, Nat.le_of_ble_eq_true rfl⟩ (fun ha k hk => kc_of _ _ htab (kc_hn ⟨Nat.zero_le _, Nat.le_of_ble_eq_true rfl⟩ (by decide) (kc_no ha hown (hts _ gw471) (hZ.2.2.2.1.2 _ (List.mem_of_getElem? (i := 3) rfl)) hk) (kc_hy ⟨Nat.zero_le _, Nat.le_of_ble_eq_true rfl⟩ (by decide) (kc_yes ha hown (hts _ gw696) (hZ.2.2.2.1.1.use (List.mem_of_getElem? (i := 6) rfl)) hk)))) hst hA (fun x_1 σ1 H locs h hst => ?_)
    refine lv_astore hx hb d_Lw_node_19 hl (by decide) rfl (fun ls hl => ?_)
    have hl : lv_has ls 6 [(5, .ref x_1), (0, .ref (g.1 51)), (1, .int x1), (2, .int x2), (3, .int x3), (4, .ref (g.1 53))] := hl
    refine lv_iconst (v := (2 : Int32)) hx hb d_Lw_node_21 (by decide) ?_
    refine W.widen (k := 1) (n := 6) (Nat.le_of_ble_eq_true rfl) (Nat.le_of_ble_eq_true rfl) ?_
    exact kw_iret hx hb hr hlocks hst h d_Lw_node_22
set_option maxRecDepth 100000 in
set_option maxHeartbeats 4000000 in
theorem c_Lw_node (l : Launch) {D : va_G} {g : Gm} (htr : l.stackTraces = false) {sz : Nat} (x1 : Int32) (x2 : Int32) (x3 : Int32) {σ : Sg} {post : Int32 → Sg → Prop} (h : wq_Lw_node x1 x2 x3 σ post) : Met l y_Lw_node (.codeWith y_Lw_node k_Lw_node 6 (some .int) [(0, 12, 15, 13), (0, 12, 19, 38)] :: GW) { frames := 38, cells := 1, slots := 6, locals := 952 } (PcW D vwCl (WS g) g (Zk g) σ sz [.ref (g.1 51), .int x1, .int x2, .int x3, .ref (g.1 53)]) (QiW D vwCl (WS g) post (va_A (WS g σ) sz)) 1 6 (va_A (WS g σ) sz) := by
  refine kh_entry (own := R_Lw) (by decide) rfl rfl (Nat.le_of_ble_eq_true rfl) ?_
  intro p e s m below meth c ls hsz C htab hl hst
  exact b_Lw_node_0 C htr htab x1 x2 x3 σ _ _ ls hl hst h
/-! SchemaDeskLaw.faults (LSchemaDesk;I[J)I -/
abbrev k_Lw_faults : ByteArray := method_9_code
abbrev y_Lw_faults : MethodName := ⟨"SchemaDeskLaw", "faults", "(LSchemaDesk;I[J)I"⟩
theorem d_Lw_faults_0 : decode k_Lw_faults 0 = .ok (.aload_n 2, 1) := by decide +kernel
theorem d_Lw_faults_1 : decode k_Lw_faults 1 = .ok (.iconst 0, 1) := by decide +kernel
theorem d_Lw_faults_2 : decode k_Lw_faults 2 = .ok (.aload_n 0, 1) := by decide +kernel
theorem d_Lw_faults_3 : decode k_Lw_faults 3 = .ok (.iload_n 1, 1) := by decide +kernel
theorem d_Lw_faults_4 : decode k_Lw_faults 4 = .ok (.invokevirtual 40, 3) := by decide +kernel
theorem d_Lw_faults_7 : decode k_Lw_faults 7 = .ok (.i2l, 1) := by decide +kernel
theorem d_Lw_faults_8 : decode k_Lw_faults 8 = .ok (.lastore, 1) := by decide +kernel
theorem d_Lw_faults_9 : decode k_Lw_faults 9 = .ok (.goto 6, 3) := by decide +kernel
theorem d_Lw_faults_12 : decode k_Lw_faults 12 = .ok (.astore_n 3, 1) := by decide +kernel
theorem d_Lw_faults_13 : decode k_Lw_faults 13 = .ok (.iconst 1, 1) := by decide +kernel
theorem d_Lw_faults_14 : decode k_Lw_faults 14 = .ok (.ireturn, 1) := by decide +kernel
theorem d_Lw_faults_15 : decode k_Lw_faults 15 = .ok (.iconst 0, 1) := by decide +kernel
theorem d_Lw_faults_16 : decode k_Lw_faults 16 = .ok (.ireturn, 1) := by decide +kernel
theorem gw723 : (Jvm.Cond.methodLink "SchemaDeskLaw" (40 : Nat) ({ cls := "SchemaDesk", name := "faults", desc := "(I)I" } : Jvm.MethodName)) ∈ GW := gw_t4 (List.mem_of_getElem? (i := 3) rfl) rfl
theorem gw724 : (Jvm.Cond.instanceMethod ({ cls := "SchemaDesk", name := "faults", desc := "(I)I" } : Jvm.MethodName)) ∈ GW := gw_t4 (List.mem_of_getElem? (i := 4) rfl) rfl
theorem gw725 : (Jvm.Cond.selects "SchemaDesk" ({ cls := "SchemaDesk", name := "faults", desc := "(I)I" } : Jvm.MethodName) ({ cls := "SchemaDesk", name := "faults", desc := "(I)I" } : Jvm.MethodName)) ∈ GW := gw_t4 (List.mem_of_getElem? (i := 5) rfl) rfl
theorem gw726 : (Jvm.Cond.code ({ cls := "SchemaDesk", name := "faults", desc := "(I)I" } : Jvm.MethodName) prog_1_method_10_code (2 : Nat) (Option.some Jvm.ClassFile.FieldType.int)) ∈ GW := gw_t4 (List.mem_of_getElem? (i := 6) rfl) rfl
def wq_Lw_faults (x1 : Int32) (σ : Sg) (post : Int32 → Sg → Prop) : Prop := ((wq_Sd_faults x1 σ (fun r1 σ1 => (vp_in (0 : Int32) 1 ∧ (∀ σ2, σ2 = sl σ1 53 ((0 : Int32) : Int32).toNatClampNeg ((r1 : Int32).toInt64) → post (0 : Int32) σ2)))) ∨ (wq_Sd_faults_ia x1 σ (fun σ1 => post (1 : Int32) σ1)))
set_option maxRecDepth 100000 in
set_option maxHeartbeats 4000000 in
theorem b_Lw_faults_0 {p : Program} {l : Launch} {e : Env} {s : State} {m : MethodId} {args : Array Value} {below : List Frame} {meth : Method} {c : Code} {D : va_G} {g : Gm} {A : Nat → Prop} {post : Int32 → Sg → Prop} (C : kC p s m args meth c k_Lw_faults 4 (some .int) GW R_Lw D vwCl g (Zk g) A) (htr : l.stackTraces = false) (htab : c.exceptionTable.toList.map (fun h => (h.startPc, h.endPc, h.handlerPc, h.catchType)) = [(0, 9, 12, 13)]) (x1 : Int32) (σ : Sg) (H : Heap) (locs : List Loc) (ls : Array Slot) (hl : lv_has ls 4 [(0, .ref (g.1 51)), (1, .int x1), (2, .ref (g.1 53))]) (hst : Wst D vwCl (WS g) A s σ H locs) (h : wq_Lw_faults x1 σ post) : W p l e { frames := 38, cells := 1, slots := 6, locals := 949 } s m args below meth c H locs 0 0 (MQ below (QiW D vwCl (WS g) post A) args s 1 6 A) (F0 m 0 ls []) := by
  obtain ⟨hx, hb, hr, hml, hown, hts, hlocks, hK, hZ, hA⟩ := C
  unfold wq_Lw_faults at h
  refine lv_aload_n hx hb d_Lw_faults_0 rfl (lv_at hl 2 rfl) ?_
  refine lv_iconst (v := (0 : Int32)) hx hb d_Lw_faults_1 (by decide) ?_
  refine lv_aload_n hx hb d_Lw_faults_2 rfl (lv_at hl 0 rfl) ?_
  refine lv_iload_n hx hb d_Lw_faults_3 rfl (lv_at hl 1 rfl) ?_
  rcases h with h | h
  · refine kw_calli (va_runV (As := [.int x1]) (rest := [.int (0 : Int32), .ref (g.1 53)]) (b := g.1 51) ⟨hx, hb, hml, hown, hts⟩ (c_Sd_faults l x1 h) (cwV 1 hts (gd_v gw723 gw724 gw725 gw1 gw726) rfl rfl rfl (by decide +kernel) ⟨Nat.le_of_ble_eq_true rfl, Nat.le_of_ble_eq_true rfl⟩) ⟨kw_blind (Zk_ok g), va_recv hK hst.1 rfl (WS_o51 g σ), kw_pre (Zk_ok g) hK hZ hA hst⟩ rfl rfl hl.1 rfl (lv_room (Nat.le_of_ble_eq_true rfl)) d_Lw_faults_4 ⟨Nat.le_of_ble_eq_true rfl, Nat.le_of_ble_eq_true rfl⟩) hst hA (fun r1 σ1 H locs h hst => ?_)
    refine lv_i2l hx hb d_Lw_faults_7 rfl ?_
    obtain ⟨hi, h⟩ := h
    refine kw_last hx hb hK hst 53 (WS_a53 g σ1) hi (WS_s53 g σ1 _ _) d_Lw_faults_8 (fun σ2 H locs e2 hst => ?_)
    replace h := h σ2 e2
    refine lv_goto (tgt := 15) hx hb d_Lw_faults_9 (by decide) ?_
    refine lv_iconst (v := (0 : Int32)) hx hb d_Lw_faults_15 (by decide) ?_
    refine W.widen (k := 1) (n := 6) (Nat.le_of_ble_eq_true rfl) (Nat.le_of_ble_eq_true rfl) ?_
    exact kw_iret hx hb hr hlocks hst h d_Lw_faults_16
  · refine kh_throw (E := E_ia) (hpc := 12) (As := [.int x1]) (rest := [.int (0 : Int32), .ref (g.1 53)]) (b := g.1 51) ⟨hx, hb, hml, hown, hts⟩ (c_Sd_faults_ia l htr x1 h) (cwV 1 hts (gd_v gw723 gw724 gw725 gw1 gw726) rfl rfl rfl (by decide +kernel) ⟨Nat.le_of_ble_eq_true rfl, Nat.le_of_ble_eq_true rfl⟩) ⟨kw_blind (Zk_ok g), va_recv hK hst.1 rfl (WS_o51 g σ), kw_pre (Zk_ok g) hK hZ hA hst⟩ rfl hl.1 rfl (Nat.le_of_ble_eq_true rfl) d_Lw_faults_4 ⟨Nat.le_of_ble_eq_true rfl, Nat.le_of_ble_eq_true rfl⟩ (fun ha k hk => kc_of _ _ htab (kc_hy ⟨Nat.zero_le _, Nat.le_of_ble_eq_true rfl⟩ (by decide) (kc_yes ha hown (hts _ gw471) (hZ.2.2.2.1.1.use (List.mem_of_getElem? (i := 3) rfl)) hk))) hst hA (fun x_1 σ1 H locs h hst => ?_)
    refine lv_astore_n hx hb d_Lw_faults_12 rfl hl (by decide) rfl (fun ls hl => ?_)
    have hl : lv_has ls 4 [(3, .ref x_1), (0, .ref (g.1 51)), (1, .int x1), (2, .ref (g.1 53))] := hl
    refine lv_iconst (v := (1 : Int32)) hx hb d_Lw_faults_13 (by decide) ?_
    refine W.widen (k := 1) (n := 6) (Nat.le_of_ble_eq_true rfl) (Nat.le_of_ble_eq_true rfl) ?_
    exact kw_iret hx hb hr hlocks hst h d_Lw_faults_14
set_option maxRecDepth 100000 in
set_option maxHeartbeats 4000000 in
theorem c_Lw_faults (l : Launch) {D : va_G} {g : Gm} (htr : l.stackTraces = false) {sz : Nat} (x1 : Int32) {σ : Sg} {post : Int32 → Sg → Prop} (h : wq_Lw_faults x1 σ post) : Met l y_Lw_faults (.codeWith y_Lw_faults k_Lw_faults 4 (some .int) [(0, 9, 12, 13)] :: GW) { frames := 38, cells := 1, slots := 6, locals := 949 } (PcW D vwCl (WS g) g (Zk g) σ sz [.ref (g.1 51), .int x1, .ref (g.1 53)]) (QiW D vwCl (WS g) post (va_A (WS g σ) sz)) 1 6 (va_A (WS g σ) sz) := by
  refine kh_entry (own := R_Lw) (by decide) rfl rfl (Nat.le_of_ble_eq_true rfl) ?_
  intro p e s m below meth c ls hsz C htab hl hst
  exact b_Lw_faults_0 C htr htab x1 σ _ _ ls hl hst h
/-! SchemaDeskLaw.fault (LSchemaDesk;II[J)I -/
abbrev k_Lw_fault : ByteArray := method_10_code
abbrev y_Lw_fault : MethodName := ⟨"SchemaDeskLaw", "fault", "(LSchemaDesk;II[J)I"⟩
theorem d_Lw_fault_0 : decode k_Lw_fault 0 = .ok (.aload_n 3, 1) := by decide +kernel
theorem d_Lw_fault_1 : decode k_Lw_fault 1 = .ok (.iconst 0, 1) := by decide +kernel
theorem d_Lw_fault_2 : decode k_Lw_fault 2 = .ok (.aload_n 0, 1) := by decide +kernel
theorem d_Lw_fault_3 : decode k_Lw_fault 3 = .ok (.iload_n 1, 1) := by decide +kernel
theorem d_Lw_fault_4 : decode k_Lw_fault 4 = .ok (.iload_n 2, 1) := by decide +kernel
theorem d_Lw_fault_5 : decode k_Lw_fault 5 = .ok (.invokevirtual 43, 3) := by decide +kernel
theorem d_Lw_fault_8 : decode k_Lw_fault 8 = .ok (.i2l, 1) := by decide +kernel
theorem d_Lw_fault_9 : decode k_Lw_fault 9 = .ok (.lastore, 1) := by decide +kernel
theorem d_Lw_fault_10 : decode k_Lw_fault 10 = .ok (.goto 11, 3) := by decide +kernel
theorem d_Lw_fault_13 : decode k_Lw_fault 13 = .ok (.astore 4, 2) := by decide +kernel
theorem d_Lw_fault_15 : decode k_Lw_fault 15 = .ok (.iconst 1, 1) := by decide +kernel
theorem d_Lw_fault_16 : decode k_Lw_fault 16 = .ok (.ireturn, 1) := by decide +kernel
theorem d_Lw_fault_17 : decode k_Lw_fault 17 = .ok (.astore 4, 2) := by decide +kernel
theorem d_Lw_fault_19 : decode k_Lw_fault 19 = .ok (.iconst 2, 1) := by decide +kernel
theorem d_Lw_fault_20 : decode k_Lw_fault 20 = .ok (.ireturn, 1) := by decide +kernel
theorem d_Lw_fault_21 : decode k_Lw_fault 21 = .ok (.iconst 0, 1) := by decide +kernel
theorem d_Lw_fault_22 : decode k_Lw_fault 22 = .ok (.ireturn, 1) := by decide +kernel
theorem gw730 : (Jvm.Cond.methodLink "SchemaDeskLaw" (43 : Nat) ({ cls := "SchemaDesk", name := "fault", desc := "(II)I" } : Jvm.MethodName)) ∈ GW := gw_t4 (List.mem_of_getElem? (i := 10) rfl) rfl
theorem gw731 : (Jvm.Cond.instanceMethod ({ cls := "SchemaDesk", name := "fault", desc := "(II)I" } : Jvm.MethodName)) ∈ GW := gw_t4 (List.mem_of_getElem? (i := 11) rfl) rfl
theorem gw732 : (Jvm.Cond.selects "SchemaDesk" ({ cls := "SchemaDesk", name := "fault", desc := "(II)I" } : Jvm.MethodName) ({ cls := "SchemaDesk", name := "fault", desc := "(II)I" } : Jvm.MethodName)) ∈ GW := gw_t4 (List.mem_of_getElem? (i := 12) rfl) rfl
theorem gw733 : (Jvm.Cond.code ({ cls := "SchemaDesk", name := "fault", desc := "(II)I" } : Jvm.MethodName) prog_1_method_11_code (4 : Nat) (Option.some Jvm.ClassFile.FieldType.int)) ∈ GW := gw_t4 (List.mem_of_getElem? (i := 13) rfl) rfl
def wq_Lw_fault (x1 : Int32) (x2 : Int32) (σ : Sg) (post : Int32 → Sg → Prop) : Prop := ((wq_Sd_fault x1 x2 σ (fun r1 σ1 => (vp_in (0 : Int32) 1 ∧ (∀ σ2, σ2 = sl σ1 53 ((0 : Int32) : Int32).toNatClampNeg ((r1 : Int32).toInt64) → post (0 : Int32) σ2)))) ∨ (wq_Sd_fault_ia x1 x2 σ (fun σ1 => post (1 : Int32) σ1)) ∨ (wq_Sd_fault_ns x1 x2 σ (fun σ1 => post (2 : Int32) σ1)))
set_option maxRecDepth 100000 in
set_option maxHeartbeats 4000000 in
theorem b_Lw_fault_0 {p : Program} {l : Launch} {e : Env} {s : State} {m : MethodId} {args : Array Value} {below : List Frame} {meth : Method} {c : Code} {D : va_G} {g : Gm} {A : Nat → Prop} {post : Int32 → Sg → Prop} (C : kC p s m args meth c k_Lw_fault 5 (some .int) GW R_Lw D vwCl g (Zk g) A) (htr : l.stackTraces = false) (htab : c.exceptionTable.toList.map (fun h => (h.startPc, h.endPc, h.handlerPc, h.catchType)) = [(0, 10, 13, 13), (0, 10, 17, 38)]) (x1 : Int32) (x2 : Int32) (σ : Sg) (H : Heap) (locs : List Loc) (ls : Array Slot) (hl : lv_has ls 5 [(0, .ref (g.1 51)), (1, .int x1), (2, .int x2), (3, .ref (g.1 53))]) (hst : Wst D vwCl (WS g) A s σ H locs) (h : wq_Lw_fault x1 x2 σ post) : W p l e { frames := 38, cells := 1, slots := 6, locals := 951 } s m args below meth c H locs 0 0 (MQ below (QiW D vwCl (WS g) post A) args s 1 6 A) (F0 m 0 ls []) := by
  obtain ⟨hx, hb, hr, hml, hown, hts, hlocks, hK, hZ, hA⟩ := C
  unfold wq_Lw_fault at h
  refine lv_aload_n hx hb d_Lw_fault_0 rfl (lv_at hl 3 rfl) ?_
  refine lv_iconst (v := (0 : Int32)) hx hb d_Lw_fault_1 (by decide) ?_
  refine lv_aload_n hx hb d_Lw_fault_2 rfl (lv_at hl 0 rfl) ?_
  refine lv_iload_n hx hb d_Lw_fault_3 rfl (lv_at hl 1 rfl) ?_
  refine lv_iload_n hx hb d_Lw_fault_4 rfl (lv_at hl 2 rfl) ?_
  rcases h with h | h | h
  · refine kw_calli (va_runV (As := [.int x1, .int x2]) (rest := [.int (0 : Int32), .ref (g.1 53)]) (b := g.1 51) ⟨hx, hb, hml, hown, hts⟩ (c_Sd_fault l x1 x2 h) (cwV 2 hts (gd_v gw730 gw731 gw732 gw1 gw733) rfl rfl rfl (by decide +kernel) ⟨Nat.le_of_ble_eq_true rfl, Nat.le_of_ble_eq_true rfl⟩) ⟨kw_blind (Zk_ok g), va_recv hK hst.1 rfl (WS_o51 g σ), kw_pre (Zk_ok g) hK hZ hA hst⟩ rfl rfl hl.1 rfl (lv_room (Nat.le_of_ble_eq_true rfl)) d_Lw_fault_5 ⟨Nat.le_of_ble_eq_true rfl, Nat.le_of_ble_eq_true rfl⟩) hst hA (fun r1 σ1 H locs h hst => ?_)
    refine lv_i2l hx hb d_Lw_fault_8 rfl ?_
    obtain ⟨hi, h⟩ := h
    refine kw_last hx hb hK hst 53 (WS_a53 g σ1) hi (WS_s53 g σ1 _ _) d_Lw_fault_9 (fun σ2 H locs e2 hst => ?_)
    replace h := h σ2 e2
    refine lv_goto (tgt := 21) hx hb d_Lw_fault_10 (by decide) ?_
    refine lv_iconst (v := (0 : Int32)) hx hb d_Lw_fault_21 (by decide) ?_
    refine W.widen (k := 1) (n := 6) (Nat.le_of_ble_eq_true rfl) (Nat.le_of_ble_eq_true rfl) ?_
    exact kw_iret hx hb hr hlocks hst h d_Lw_fault_22
  · refine kh_throw (E := E_ia) (hpc := 13) (As := [.int x1, .int x2]) (rest := [.int (0 : Int32), .ref (g.1 53)]) (b := g.1 51) ⟨hx, hb, hml, hown, hts⟩ (c_Sd_fault_ia l htr x1 x2 h) (cwV 2 hts (gd_v gw730 gw731 gw732 gw1 gw733) rfl rfl rfl (by decide +kernel) ⟨Nat.le_of_ble_eq_true rfl, Nat.le_of_ble_eq_true rfl⟩) ⟨kw_blind (Zk_ok g), va_recv hK hst.1 rfl (WS_o51 g σ), kw_pre (Zk_ok g) hK hZ hA hst⟩ rfl hl.1 rfl (Nat.le_of_ble_eq_true rfl) d_Lw_fault_5 ⟨Nat.le_of_ble_eq_true rfl, Nat.le_of_ble_eq_true rfl⟩ (fun ha k hk => kc_of _ _ htab (kc_hy ⟨Nat.zero_le _, Nat.le_of_ble_eq_true rfl⟩ (by decide) (kc_yes ha hown (hts _ gw471) (hZ.2.2.2.1.1.use (List.mem_of_getElem? (i := 3) rfl)) hk))) hst hA (fun x_1 σ1 H locs h hst => ?_)
    refine lv_astore hx hb d_Lw_fault_13 hl (by decide) rfl (fun ls hl => ?_)
    have hl : lv_has ls 5 [(4, .ref x_1), (0, .ref (g.1 51)), (1, .int x1), (2, .int x2), (3, .ref (g.1 53))] := hl
    refine lv_iconst (v := (1 : Int32)) hx hb d_Lw_fault_15 (by decide) ?_
    refine W.widen (k := 1) (n := 6) (Nat.le_of_ble_eq_true rfl) (Nat.le_of_ble_eq_true rfl) ?_
    exact kw_iret hx hb hr hlocks hst h d_Lw_fault_16
  · refine kh_throw (E := E_ns) (hpc := 17) (As := [.int x1, .int x2]) (rest := [.int (0 : Int32), .ref (g.1 53)]) (b := g.1 51) ⟨hx, hb, hml, hown, hts⟩ (c_Sd_fault_ns l htr x1 x2 h) (cwV 2 hts (gd_v gw730 gw731 gw732 gw1 gw733) rfl rfl rfl (by decide +kernel) ⟨Nat.le_of_ble_eq_true rfl, Nat.le_of_ble_eq_true rfl⟩) ⟨kw_blind (Zk_ok g), va_recv hK hst.1 rfl (WS_o51 g σ), kw_pre (Zk_ok g) hK hZ hA hst⟩ rfl hl.1 rfl (Nat.le_of_ble_eq_true rfl) d_Lw_fault_5 ⟨Nat.le_of_ble_eq_true rfl, Nat.le_of_ble_eq_true rfl⟩ (fun ha k hk => kc_of _ _ htab (kc_hn ⟨Nat.zero_le _, Nat.le_of_ble_eq_true rfl⟩ (by decide) (kc_no ha hown (hts _ gw471) (hZ.2.2.2.1.2 _ (List.mem_of_getElem? (i := 3) rfl)) hk) (kc_hy ⟨Nat.zero_le _, Nat.le_of_ble_eq_true rfl⟩ (by decide) (kc_yes ha hown (hts _ gw696) (hZ.2.2.2.1.1.use (List.mem_of_getElem? (i := 6) rfl)) hk)))) hst hA (fun x_1 σ1 H locs h hst => ?_)
    refine lv_astore hx hb d_Lw_fault_17 hl (by decide) rfl (fun ls hl => ?_)
    have hl : lv_has ls 5 [(4, .ref x_1), (0, .ref (g.1 51)), (1, .int x1), (2, .int x2), (3, .ref (g.1 53))] := hl
    refine lv_iconst (v := (2 : Int32)) hx hb d_Lw_fault_19 (by decide) ?_
    refine W.widen (k := 1) (n := 6) (Nat.le_of_ble_eq_true rfl) (Nat.le_of_ble_eq_true rfl) ?_
    exact kw_iret hx hb hr hlocks hst h d_Lw_fault_20
set_option maxRecDepth 100000 in
set_option maxHeartbeats 4000000 in
theorem c_Lw_fault (l : Launch) {D : va_G} {g : Gm} (htr : l.stackTraces = false) {sz : Nat} (x1 : Int32) (x2 : Int32) {σ : Sg} {post : Int32 → Sg → Prop} (h : wq_Lw_fault x1 x2 σ post) : Met l y_Lw_fault (.codeWith y_Lw_fault k_Lw_fault 5 (some .int) [(0, 10, 13, 13), (0, 10, 17, 38)] :: GW) { frames := 38, cells := 1, slots := 6, locals := 951 } (PcW D vwCl (WS g) g (Zk g) σ sz [.ref (g.1 51), .int x1, .int x2, .ref (g.1 53)]) (QiW D vwCl (WS g) post (va_A (WS g σ) sz)) 1 6 (va_A (WS g σ) sz) := by
  refine kh_entry (own := R_Lw) (by decide) rfl rfl (Nat.le_of_ble_eq_true rfl) ?_
  intro p e s m below meth c ls hsz C htab hl hst
  exact b_Lw_fault_0 C htr htab x1 x2 σ _ _ ls hl hst h
/-! SchemaDeskLaw.holds (LSchemaDesk;II[J)I -/
abbrev k_Lw_holds : ByteArray := method_11_code
abbrev y_Lw_holds : MethodName := ⟨"SchemaDeskLaw", "holds", "(LSchemaDesk;II[J)I"⟩
theorem d_Lw_holds_0 : decode k_Lw_holds 0 = .ok (.aload_n 3, 1) := by decide +kernel
theorem d_Lw_holds_1 : decode k_Lw_holds 1 = .ok (.iconst 0, 1) := by decide +kernel
theorem d_Lw_holds_2 : decode k_Lw_holds 2 = .ok (.aload_n 0, 1) := by decide +kernel
theorem d_Lw_holds_3 : decode k_Lw_holds 3 = .ok (.iload_n 1, 1) := by decide +kernel
theorem d_Lw_holds_4 : decode k_Lw_holds 4 = .ok (.iload_n 2, 1) := by decide +kernel
theorem d_Lw_holds_5 : decode k_Lw_holds 5 = .ok (.invokevirtual 47, 3) := by decide +kernel
theorem d_Lw_holds_8 : decode k_Lw_holds 8 = .ok (.ifCond .eq 7, 3) := by decide +kernel
theorem d_Lw_holds_11 : decode k_Lw_holds 11 = .ok (.lconst 1, 1) := by decide +kernel
theorem d_Lw_holds_12 : decode k_Lw_holds 12 = .ok (.goto 4, 3) := by decide +kernel
theorem d_Lw_holds_15 : decode k_Lw_holds 15 = .ok (.lconst 0, 1) := by decide +kernel
theorem d_Lw_holds_16 : decode k_Lw_holds 16 = .ok (.lastore, 1) := by decide +kernel
theorem d_Lw_holds_17 : decode k_Lw_holds 17 = .ok (.goto 11, 3) := by decide +kernel
theorem d_Lw_holds_20 : decode k_Lw_holds 20 = .ok (.astore 4, 2) := by decide +kernel
theorem d_Lw_holds_22 : decode k_Lw_holds 22 = .ok (.iconst 1, 1) := by decide +kernel
theorem d_Lw_holds_23 : decode k_Lw_holds 23 = .ok (.ireturn, 1) := by decide +kernel
theorem d_Lw_holds_24 : decode k_Lw_holds 24 = .ok (.astore 4, 2) := by decide +kernel
theorem d_Lw_holds_26 : decode k_Lw_holds 26 = .ok (.iconst 2, 1) := by decide +kernel
theorem d_Lw_holds_27 : decode k_Lw_holds 27 = .ok (.ireturn, 1) := by decide +kernel
theorem d_Lw_holds_28 : decode k_Lw_holds 28 = .ok (.iconst 0, 1) := by decide +kernel
theorem d_Lw_holds_29 : decode k_Lw_holds 29 = .ok (.ireturn, 1) := by decide +kernel
theorem gw738 : (Jvm.Cond.methodLink "SchemaDeskLaw" (47 : Nat) ({ cls := "SchemaDesk", name := "holds", desc := "(II)Z" } : Jvm.MethodName)) ∈ GW := gw_t4 (List.mem_of_getElem? (i := 18) rfl) rfl
theorem gw739 : (Jvm.Cond.instanceMethod ({ cls := "SchemaDesk", name := "holds", desc := "(II)Z" } : Jvm.MethodName)) ∈ GW := gw_t4 (List.mem_of_getElem? (i := 19) rfl) rfl
theorem gw740 : (Jvm.Cond.selects "SchemaDesk" ({ cls := "SchemaDesk", name := "holds", desc := "(II)Z" } : Jvm.MethodName) ({ cls := "SchemaDesk", name := "holds", desc := "(II)Z" } : Jvm.MethodName)) ∈ GW := gw_t4 (List.mem_of_getElem? (i := 20) rfl) rfl
theorem gw741 : (Jvm.Cond.code ({ cls := "SchemaDesk", name := "holds", desc := "(II)Z" } : Jvm.MethodName) prog_1_method_12_code (3 : Nat) (Option.some Jvm.ClassFile.FieldType.boolean)) ∈ GW := gw_t4 (List.mem_of_getElem? (i := 21) rfl) rfl
theorem gw737 : (Jvm.Cond.classLink "SchemaDeskLaw" (51 : Nat) "java/lang/UnsupportedOperationException") ∈ GW := gw_t4 (List.mem_of_getElem? (i := 17) rfl) rfl
def wq_Lw_holds (x1 : Int32) (x2 : Int32) (σ : Sg) (post : Int32 → Sg → Prop) : Prop := ((wq_Sd_holds x1 x2 σ (fun r1 σ1 => ((r1 = 0 → (vp_in (0 : Int32) 1 ∧ (∀ σ2, σ2 = sl σ1 53 ((0 : Int32) : Int32).toNatClampNeg (0 : Int64) → post (0 : Int32) σ2))) ∧ (¬ r1 = 0 → (vp_in (0 : Int32) 1 ∧ (∀ σ2, σ2 = sl σ1 53 ((0 : Int32) : Int32).toNatClampNeg (1 : Int64) → post (0 : Int32) σ2)))))) ∨ (wq_Sd_holds_ns x1 x2 σ (fun σ1 => post (1 : Int32) σ1)) ∨ (wq_Sd_holds_uo x1 x2 σ (fun σ1 => post (2 : Int32) σ1)))
set_option maxRecDepth 100000 in
set_option maxHeartbeats 4000000 in
theorem b_Lw_holds_0 {p : Program} {l : Launch} {e : Env} {s : State} {m : MethodId} {args : Array Value} {below : List Frame} {meth : Method} {c : Code} {D : va_G} {g : Gm} {A : Nat → Prop} {post : Int32 → Sg → Prop} (C : kC p s m args meth c k_Lw_holds 5 (some .int) GW R_Lw D vwCl g (Zk g) A) (htr : l.stackTraces = false) (htab : c.exceptionTable.toList.map (fun h => (h.startPc, h.endPc, h.handlerPc, h.catchType)) = [(0, 17, 20, 38), (0, 17, 24, 51)]) (x1 : Int32) (x2 : Int32) (σ : Sg) (H : Heap) (locs : List Loc) (ls : Array Slot) (hl : lv_has ls 5 [(0, .ref (g.1 51)), (1, .int x1), (2, .int x2), (3, .ref (g.1 53))]) (hst : Wst D vwCl (WS g) A s σ H locs) (h : wq_Lw_holds x1 x2 σ post) : W p l e { frames := 38, cells := 1, slots := 6, locals := 950 } s m args below meth c H locs 0 0 (MQ below (QiW D vwCl (WS g) post A) args s 1 6 A) (F0 m 0 ls []) := by
  obtain ⟨hx, hb, hr, hml, hown, hts, hlocks, hK, hZ, hA⟩ := C
  unfold wq_Lw_holds at h
  refine lv_aload_n hx hb d_Lw_holds_0 rfl (lv_at hl 3 rfl) ?_
  refine lv_iconst (v := (0 : Int32)) hx hb d_Lw_holds_1 (by decide) ?_
  refine lv_aload_n hx hb d_Lw_holds_2 rfl (lv_at hl 0 rfl) ?_
  refine lv_iload_n hx hb d_Lw_holds_3 rfl (lv_at hl 1 rfl) ?_
  refine lv_iload_n hx hb d_Lw_holds_4 rfl (lv_at hl 2 rfl) ?_
  rcases h with h | h | h
  · refine kw_calli (va_runV (As := [.int x1, .int x2]) (rest := [.int (0 : Int32), .ref (g.1 53)]) (b := g.1 51) ⟨hx, hb, hml, hown, hts⟩ (c_Sd_holds l x1 x2 h) (cwV 2 hts (gd_v gw738 gw739 gw740 gw1 gw741) rfl rfl rfl (by decide +kernel) ⟨Nat.le_of_ble_eq_true rfl, Nat.le_of_ble_eq_true rfl⟩) ⟨kw_blind (Zk_ok g), va_recv hK hst.1 rfl (WS_o51 g σ), kw_pre (Zk_ok g) hK hZ hA hst⟩ rfl rfl hl.1 rfl (lv_room (Nat.le_of_ble_eq_true rfl)) d_Lw_holds_5 ⟨Nat.le_of_ble_eq_true rfl, Nat.le_of_ble_eq_true rfl⟩) hst hA (fun r1 σ1 H locs h hst => ?_)
    refine lv_if_eq (tgt := 15) hx hb d_Lw_holds_8 (by decide) (fun hc => ?_) (fun hc => ?_)
    · replace h := h.1 hc
      refine lv_lconst (v := (0 : Int64)) hx hb d_Lw_holds_15 (by decide) ?_
      obtain ⟨hi, h⟩ := h
      refine kw_last hx hb hK hst 53 (WS_a53 g σ1) hi (WS_s53 g σ1 _ _) d_Lw_holds_16 (fun σ2 H locs e2 hst => ?_)
      replace h := h σ2 e2
      refine lv_goto (tgt := 28) hx hb d_Lw_holds_17 (by decide) ?_
      refine lv_iconst (v := (0 : Int32)) hx hb d_Lw_holds_28 (by decide) ?_
      refine W.widen (k := 1) (n := 6) (Nat.le_of_ble_eq_true rfl) (Nat.le_of_ble_eq_true rfl) ?_
      exact kw_iret hx hb hr hlocks hst h d_Lw_holds_29
    · replace h := h.2 hc
      refine lv_lconst (v := (1 : Int64)) hx hb d_Lw_holds_11 (by decide) ?_
      refine lv_goto (tgt := 16) hx hb d_Lw_holds_12 (by decide) ?_
      obtain ⟨hi, h⟩ := h
      refine kw_last hx hb hK hst 53 (WS_a53 g σ1) hi (WS_s53 g σ1 _ _) d_Lw_holds_16 (fun σ2 H locs e2 hst => ?_)
      replace h := h σ2 e2
      refine lv_goto (tgt := 28) hx hb d_Lw_holds_17 (by decide) ?_
      refine lv_iconst (v := (0 : Int32)) hx hb d_Lw_holds_28 (by decide) ?_
      refine W.widen (k := 1) (n := 6) (Nat.le_of_ble_eq_true rfl) (Nat.le_of_ble_eq_true rfl) ?_
      exact kw_iret hx hb hr hlocks hst h d_Lw_holds_29
  · refine kh_throw (E := E_ns) (hpc := 20) (As := [.int x1, .int x2]) (rest := [.int (0 : Int32), .ref (g.1 53)]) (b := g.1 51) ⟨hx, hb, hml, hown, hts⟩ (c_Sd_holds_ns l htr x1 x2 h) (cwV 2 hts (gd_v gw738 gw739 gw740 gw1 gw741) rfl rfl rfl (by decide +kernel) ⟨Nat.le_of_ble_eq_true rfl, Nat.le_of_ble_eq_true rfl⟩) ⟨kw_blind (Zk_ok g), va_recv hK hst.1 rfl (WS_o51 g σ), kw_pre (Zk_ok g) hK hZ hA hst⟩ rfl hl.1 rfl (Nat.le_of_ble_eq_true rfl) d_Lw_holds_5 ⟨Nat.le_of_ble_eq_true rfl, Nat.le_of_ble_eq_true rfl⟩ (fun ha k hk => kc_of _ _ htab (kc_hy ⟨Nat.zero_le _, Nat.le_of_ble_eq_true rfl⟩ (by decide) (kc_yes ha hown (hts _ gw696) (hZ.2.2.2.1.1.use (List.mem_of_getElem? (i := 6) rfl)) hk))) hst hA (fun x_1 σ1 H locs h hst => ?_)
    refine lv_astore hx hb d_Lw_holds_20 hl (by decide) rfl (fun ls hl => ?_)
    have hl : lv_has ls 5 [(4, .ref x_1), (0, .ref (g.1 51)), (1, .int x1), (2, .int x2), (3, .ref (g.1 53))] := hl
    refine lv_iconst (v := (1 : Int32)) hx hb d_Lw_holds_22 (by decide) ?_
    refine W.widen (k := 1) (n := 6) (Nat.le_of_ble_eq_true rfl) (Nat.le_of_ble_eq_true rfl) ?_
    exact kw_iret hx hb hr hlocks hst h d_Lw_holds_23
  · refine kh_throw (E := E_uo) (hpc := 24) (As := [.int x1, .int x2]) (rest := [.int (0 : Int32), .ref (g.1 53)]) (b := g.1 51) ⟨hx, hb, hml, hown, hts⟩ (c_Sd_holds_uo l htr x1 x2 h) (cwV 2 hts (gd_v gw738 gw739 gw740 gw1 gw741) rfl rfl rfl (by decide +kernel) ⟨Nat.le_of_ble_eq_true rfl, Nat.le_of_ble_eq_true rfl⟩) ⟨kw_blind (Zk_ok g), va_recv hK hst.1 rfl (WS_o51 g σ), kw_pre (Zk_ok g) hK hZ hA hst⟩ rfl hl.1 rfl (Nat.le_of_ble_eq_true rfl) d_Lw_holds_5 ⟨Nat.le_of_ble_eq_true rfl, Nat.le_of_ble_eq_true rfl⟩ (fun ha k hk => kc_of _ _ htab (kc_hn ⟨Nat.zero_le _, Nat.le_of_ble_eq_true rfl⟩ (by decide) (kc_no ha hown (hts _ gw696) (hZ.2.2.2.1.2 _ (List.mem_of_getElem? (i := 4) rfl)) hk) (kc_hy ⟨Nat.zero_le _, Nat.le_of_ble_eq_true rfl⟩ (by decide) (kc_yes ha hown (hts _ gw737) (hZ.2.2.2.1.1.use (List.mem_of_getElem? (i := 7) rfl)) hk)))) hst hA (fun x_1 σ1 H locs h hst => ?_)
    refine lv_astore hx hb d_Lw_holds_24 hl (by decide) rfl (fun ls hl => ?_)
    have hl : lv_has ls 5 [(4, .ref x_1), (0, .ref (g.1 51)), (1, .int x1), (2, .int x2), (3, .ref (g.1 53))] := hl
    refine lv_iconst (v := (2 : Int32)) hx hb d_Lw_holds_26 (by decide) ?_
    refine W.widen (k := 1) (n := 6) (Nat.le_of_ble_eq_true rfl) (Nat.le_of_ble_eq_true rfl) ?_
    exact kw_iret hx hb hr hlocks hst h d_Lw_holds_27
set_option maxRecDepth 100000 in
set_option maxHeartbeats 4000000 in
theorem c_Lw_holds (l : Launch) {D : va_G} {g : Gm} (htr : l.stackTraces = false) {sz : Nat} (x1 : Int32) (x2 : Int32) {σ : Sg} {post : Int32 → Sg → Prop} (h : wq_Lw_holds x1 x2 σ post) : Met l y_Lw_holds (.codeWith y_Lw_holds k_Lw_holds 5 (some .int) [(0, 17, 20, 38), (0, 17, 24, 51)] :: GW) { frames := 38, cells := 1, slots := 6, locals := 950 } (PcW D vwCl (WS g) g (Zk g) σ sz [.ref (g.1 51), .int x1, .int x2, .ref (g.1 53)]) (QiW D vwCl (WS g) post (va_A (WS g σ) sz)) 1 6 (va_A (WS g σ) sz) := by
  refine kh_entry (own := R_Lw) (by decide) rfl rfl (Nat.le_of_ble_eq_true rfl) ?_
  intro p e s m below meth c ls hsz C htab hl hst
  exact b_Lw_holds_0 C htr htab x1 x2 σ _ _ ls hl hst h
/-! SchemaDeskLaw.diagnostic (LSchemaDesk;II[J)I -/
abbrev k_Lw_diagnostic : ByteArray := method_13_code
abbrev y_Lw_diagnostic : MethodName := ⟨"SchemaDeskLaw", "diagnostic", "(LSchemaDesk;II[J)I"⟩
theorem d_Lw_diagnostic_0 : decode k_Lw_diagnostic 0 = .ok (.aload_n 3, 1) := by decide +kernel
theorem d_Lw_diagnostic_1 : decode k_Lw_diagnostic 1 = .ok (.iconst 0, 1) := by decide +kernel
theorem d_Lw_diagnostic_2 : decode k_Lw_diagnostic 2 = .ok (.aload_n 0, 1) := by decide +kernel
theorem d_Lw_diagnostic_3 : decode k_Lw_diagnostic 3 = .ok (.iload_n 1, 1) := by decide +kernel
theorem d_Lw_diagnostic_4 : decode k_Lw_diagnostic 4 = .ok (.iload_n 2, 1) := by decide +kernel
theorem d_Lw_diagnostic_5 : decode k_Lw_diagnostic 5 = .ok (.invokevirtual 57, 3) := by decide +kernel
theorem d_Lw_diagnostic_8 : decode k_Lw_diagnostic 8 = .ok (.i2l, 1) := by decide +kernel
theorem d_Lw_diagnostic_9 : decode k_Lw_diagnostic 9 = .ok (.lastore, 1) := by decide +kernel
theorem d_Lw_diagnostic_10 : decode k_Lw_diagnostic 10 = .ok (.goto 11, 3) := by decide +kernel
theorem d_Lw_diagnostic_13 : decode k_Lw_diagnostic 13 = .ok (.astore 4, 2) := by decide +kernel
theorem d_Lw_diagnostic_15 : decode k_Lw_diagnostic 15 = .ok (.iconst 1, 1) := by decide +kernel
theorem d_Lw_diagnostic_16 : decode k_Lw_diagnostic 16 = .ok (.ireturn, 1) := by decide +kernel
theorem d_Lw_diagnostic_17 : decode k_Lw_diagnostic 17 = .ok (.astore 4, 2) := by decide +kernel
theorem d_Lw_diagnostic_19 : decode k_Lw_diagnostic 19 = .ok (.iconst 2, 1) := by decide +kernel
theorem d_Lw_diagnostic_20 : decode k_Lw_diagnostic 20 = .ok (.ireturn, 1) := by decide +kernel
theorem d_Lw_diagnostic_21 : decode k_Lw_diagnostic 21 = .ok (.iconst 0, 1) := by decide +kernel
theorem d_Lw_diagnostic_22 : decode k_Lw_diagnostic 22 = .ok (.ireturn, 1) := by decide +kernel
theorem gw953 : (Jvm.Cond.methodLink "SchemaDeskLaw" (57 : Nat) ({ cls := "SchemaDesk", name := "diagnostic", desc := "(II)I" } : Jvm.MethodName)) ∈ GW := gw_t4 (List.mem_of_getElem? (i := 233) rfl) rfl
theorem gw954 : (Jvm.Cond.instanceMethod ({ cls := "SchemaDesk", name := "diagnostic", desc := "(II)I" } : Jvm.MethodName)) ∈ GW := gw_t4 (List.mem_of_getElem? (i := 234) rfl) rfl
theorem gw955 : (Jvm.Cond.selects "SchemaDesk" ({ cls := "SchemaDesk", name := "diagnostic", desc := "(II)I" } : Jvm.MethodName) ({ cls := "SchemaDesk", name := "diagnostic", desc := "(II)I" } : Jvm.MethodName)) ∈ GW := gw_t4 (List.mem_of_getElem? (i := 235) rfl) rfl
theorem gw956 : (Jvm.Cond.code ({ cls := "SchemaDesk", name := "diagnostic", desc := "(II)I" } : Jvm.MethodName) prog_1_method_14_code (3 : Nat) (Option.some Jvm.ClassFile.FieldType.int)) ∈ GW := gw_t4 (List.mem_of_getElem? (i := 236) rfl) rfl
def wq_Lw_diagnostic (x1 : Int32) (x2 : Int32) (σ : Sg) (post : Int32 → Sg → Prop) : Prop := ((wq_Sd_diagnostic x1 x2 σ (fun r1 σ1 => (vp_in (0 : Int32) 1 ∧ (∀ σ2, σ2 = sl σ1 53 ((0 : Int32) : Int32).toNatClampNeg ((r1 : Int32).toInt64) → post (0 : Int32) σ2)))) ∨ (wq_Sd_diagnostic_ia x1 x2 σ (fun σ1 => post (1 : Int32) σ1)) ∨ (wq_Sd_diagnostic_ns x1 x2 σ (fun σ1 => post (2 : Int32) σ1)))
set_option maxRecDepth 100000 in
set_option maxHeartbeats 4000000 in
theorem b_Lw_diagnostic_0 {p : Program} {l : Launch} {e : Env} {s : State} {m : MethodId} {args : Array Value} {below : List Frame} {meth : Method} {c : Code} {D : va_G} {g : Gm} {A : Nat → Prop} {post : Int32 → Sg → Prop} (C : kC p s m args meth c k_Lw_diagnostic 5 (some .int) GW R_Lw D vwCl g (Zk g) A) (htr : l.stackTraces = false) (htab : c.exceptionTable.toList.map (fun h => (h.startPc, h.endPc, h.handlerPc, h.catchType)) = [(0, 10, 13, 13), (0, 10, 17, 38)]) (x1 : Int32) (x2 : Int32) (σ : Sg) (H : Heap) (locs : List Loc) (ls : Array Slot) (hl : lv_has ls 5 [(0, .ref (g.1 51)), (1, .int x1), (2, .int x2), (3, .ref (g.1 53))]) (hst : Wst D vwCl (WS g) A s σ H locs) (h : wq_Lw_diagnostic x1 x2 σ post) : W p l e { frames := 7, cells := 1, slots := 6, locals := 122 } s m args below meth c H locs 0 0 (MQ below (QiW D vwCl (WS g) post A) args s 1 6 A) (F0 m 0 ls []) := by
  obtain ⟨hx, hb, hr, hml, hown, hts, hlocks, hK, hZ, hA⟩ := C
  unfold wq_Lw_diagnostic at h
  refine lv_aload_n hx hb d_Lw_diagnostic_0 rfl (lv_at hl 3 rfl) ?_
  refine lv_iconst (v := (0 : Int32)) hx hb d_Lw_diagnostic_1 (by decide) ?_
  refine lv_aload_n hx hb d_Lw_diagnostic_2 rfl (lv_at hl 0 rfl) ?_
  refine lv_iload_n hx hb d_Lw_diagnostic_3 rfl (lv_at hl 1 rfl) ?_
  refine lv_iload_n hx hb d_Lw_diagnostic_4 rfl (lv_at hl 2 rfl) ?_
  rcases h with h | h | h
  · refine kw_calli (va_runV (As := [.int x1, .int x2]) (rest := [.int (0 : Int32), .ref (g.1 53)]) (b := g.1 51) ⟨hx, hb, hml, hown, hts⟩ (c_Sd_diagnostic l x1 x2 h) (cwV 2 hts (gd_v gw953 gw954 gw955 gw1 gw956) rfl rfl rfl (by decide +kernel) ⟨Nat.le_of_ble_eq_true rfl, Nat.le_of_ble_eq_true rfl⟩) ⟨kw_blind (Zk_ok g), va_recv hK hst.1 rfl (WS_o51 g σ), kw_pre (Zk_ok g) hK hZ hA hst⟩ rfl rfl hl.1 rfl (lv_room (Nat.le_of_ble_eq_true rfl)) d_Lw_diagnostic_5 ⟨Nat.le_of_ble_eq_true rfl, Nat.le_of_ble_eq_true rfl⟩) hst hA (fun r1 σ1 H locs h hst => ?_)
    refine lv_i2l hx hb d_Lw_diagnostic_8 rfl ?_
    obtain ⟨hi, h⟩ := h
    refine kw_last hx hb hK hst 53 (WS_a53 g σ1) hi (WS_s53 g σ1 _ _) d_Lw_diagnostic_9 (fun σ2 H locs e2 hst => ?_)
    replace h := h σ2 e2
    refine lv_goto (tgt := 21) hx hb d_Lw_diagnostic_10 (by decide) ?_
    refine lv_iconst (v := (0 : Int32)) hx hb d_Lw_diagnostic_21 (by decide) ?_
    refine W.widen (k := 1) (n := 6) (Nat.le_of_ble_eq_true rfl) (Nat.le_of_ble_eq_true rfl) ?_
    exact kw_iret hx hb hr hlocks hst h d_Lw_diagnostic_22
  · refine kh_throw (E := E_ia) (hpc := 13) (As := [.int x1, .int x2]) (rest := [.int (0 : Int32), .ref (g.1 53)]) (b := g.1 51) ⟨hx, hb, hml, hown, hts⟩ (c_Sd_diagnostic_ia l htr x1 x2 h) (cwV 2 hts (gd_v gw953 gw954 gw955 gw1 gw956) rfl rfl rfl (by decide +kernel) ⟨Nat.le_of_ble_eq_true rfl, Nat.le_of_ble_eq_true rfl⟩) ⟨kw_blind (Zk_ok g), va_recv hK hst.1 rfl (WS_o51 g σ), kw_pre (Zk_ok g) hK hZ hA hst⟩ rfl hl.1 rfl (Nat.le_of_ble_eq_true rfl) d_Lw_diagnostic_5 ⟨Nat.le_of_ble_eq_true rfl, Nat.le_of_ble_eq_true rfl⟩ (fun ha k hk => kc_of _ _ htab (kc_hy ⟨Nat.zero_le _, Nat.le_of_ble_eq_true rfl⟩ (by decide) (kc_yes ha hown (hts _ gw471) (hZ.2.2.2.1.1.use (List.mem_of_getElem? (i := 3) rfl)) hk))) hst hA (fun x_1 σ1 H locs h hst => ?_)
    refine lv_astore hx hb d_Lw_diagnostic_13 hl (by decide) rfl (fun ls hl => ?_)
    have hl : lv_has ls 5 [(4, .ref x_1), (0, .ref (g.1 51)), (1, .int x1), (2, .int x2), (3, .ref (g.1 53))] := hl
    refine lv_iconst (v := (1 : Int32)) hx hb d_Lw_diagnostic_15 (by decide) ?_
    refine W.widen (k := 1) (n := 6) (Nat.le_of_ble_eq_true rfl) (Nat.le_of_ble_eq_true rfl) ?_
    exact kw_iret hx hb hr hlocks hst h d_Lw_diagnostic_16
  · refine kh_throw (E := E_ns) (hpc := 17) (As := [.int x1, .int x2]) (rest := [.int (0 : Int32), .ref (g.1 53)]) (b := g.1 51) ⟨hx, hb, hml, hown, hts⟩ (c_Sd_diagnostic_ns l htr x1 x2 h) (cwV 2 hts (gd_v gw953 gw954 gw955 gw1 gw956) rfl rfl rfl (by decide +kernel) ⟨Nat.le_of_ble_eq_true rfl, Nat.le_of_ble_eq_true rfl⟩) ⟨kw_blind (Zk_ok g), va_recv hK hst.1 rfl (WS_o51 g σ), kw_pre (Zk_ok g) hK hZ hA hst⟩ rfl hl.1 rfl (Nat.le_of_ble_eq_true rfl) d_Lw_diagnostic_5 ⟨Nat.le_of_ble_eq_true rfl, Nat.le_of_ble_eq_true rfl⟩ (fun ha k hk => kc_of _ _ htab (kc_hn ⟨Nat.zero_le _, Nat.le_of_ble_eq_true rfl⟩ (by decide) (kc_no ha hown (hts _ gw471) (hZ.2.2.2.1.2 _ (List.mem_of_getElem? (i := 3) rfl)) hk) (kc_hy ⟨Nat.zero_le _, Nat.le_of_ble_eq_true rfl⟩ (by decide) (kc_yes ha hown (hts _ gw696) (hZ.2.2.2.1.1.use (List.mem_of_getElem? (i := 6) rfl)) hk)))) hst hA (fun x_1 σ1 H locs h hst => ?_)
    refine lv_astore hx hb d_Lw_diagnostic_17 hl (by decide) rfl (fun ls hl => ?_)
    have hl : lv_has ls 5 [(4, .ref x_1), (0, .ref (g.1 51)), (1, .int x1), (2, .int x2), (3, .ref (g.1 53))] := hl
    refine lv_iconst (v := (2 : Int32)) hx hb d_Lw_diagnostic_19 (by decide) ?_
    refine W.widen (k := 1) (n := 6) (Nat.le_of_ble_eq_true rfl) (Nat.le_of_ble_eq_true rfl) ?_
    exact kw_iret hx hb hr hlocks hst h d_Lw_diagnostic_20
set_option maxRecDepth 100000 in
set_option maxHeartbeats 4000000 in
theorem c_Lw_diagnostic (l : Launch) {D : va_G} {g : Gm} (htr : l.stackTraces = false) {sz : Nat} (x1 : Int32) (x2 : Int32) {σ : Sg} {post : Int32 → Sg → Prop} (h : wq_Lw_diagnostic x1 x2 σ post) : Met l y_Lw_diagnostic (.codeWith y_Lw_diagnostic k_Lw_diagnostic 5 (some .int) [(0, 10, 13, 13), (0, 10, 17, 38)] :: GW) { frames := 7, cells := 1, slots := 6, locals := 122 } (PcW D vwCl (WS g) g (Zk g) σ sz [.ref (g.1 51), .int x1, .int x2, .ref (g.1 53)]) (QiW D vwCl (WS g) post (va_A (WS g σ) sz)) 1 6 (va_A (WS g σ) sz) := by
  refine kh_entry (own := R_Lw) (by decide) rfl rfl (Nat.le_of_ble_eq_true rfl) ?_
  intro p e s m below meth c ls hsz C htab hl hst
  exact b_Lw_diagnostic_0 C htr htab x1 x2 σ _ _ ls hl hst h
/-! SchemaDeskLaw.propose (LSchemaDesk;I[J)I -/
abbrev k_Lw_propose : ByteArray := method_14_code
abbrev y_Lw_propose : MethodName := ⟨"SchemaDeskLaw", "propose", "(LSchemaDesk;I[J)I"⟩
theorem d_Lw_propose_0 : decode k_Lw_propose 0 = .ok (.aload_n 2, 1) := by decide +kernel
theorem d_Lw_propose_1 : decode k_Lw_propose 1 = .ok (.iconst 0, 1) := by decide +kernel
theorem d_Lw_propose_2 : decode k_Lw_propose 2 = .ok (.aload_n 0, 1) := by decide +kernel
theorem d_Lw_propose_3 : decode k_Lw_propose 3 = .ok (.iload_n 1, 1) := by decide +kernel
theorem d_Lw_propose_4 : decode k_Lw_propose 4 = .ok (.invokevirtual 60, 3) := by decide +kernel
theorem d_Lw_propose_7 : decode k_Lw_propose 7 = .ok (.i2l, 1) := by decide +kernel
theorem d_Lw_propose_8 : decode k_Lw_propose 8 = .ok (.lastore, 1) := by decide +kernel
theorem d_Lw_propose_9 : decode k_Lw_propose 9 = .ok (.goto 9, 3) := by decide +kernel
theorem d_Lw_propose_12 : decode k_Lw_propose 12 = .ok (.astore_n 3, 1) := by decide +kernel
theorem d_Lw_propose_13 : decode k_Lw_propose 13 = .ok (.iconst 1, 1) := by decide +kernel
theorem d_Lw_propose_14 : decode k_Lw_propose 14 = .ok (.ireturn, 1) := by decide +kernel
theorem d_Lw_propose_15 : decode k_Lw_propose 15 = .ok (.astore_n 3, 1) := by decide +kernel
theorem d_Lw_propose_16 : decode k_Lw_propose 16 = .ok (.iconst 2, 1) := by decide +kernel
theorem d_Lw_propose_17 : decode k_Lw_propose 17 = .ok (.ireturn, 1) := by decide +kernel
theorem d_Lw_propose_18 : decode k_Lw_propose 18 = .ok (.iconst 0, 1) := by decide +kernel
theorem d_Lw_propose_19 : decode k_Lw_propose 19 = .ok (.ireturn, 1) := by decide +kernel
theorem gw972 : (Jvm.Cond.methodLink "SchemaDeskLaw" (60 : Nat) ({ cls := "SchemaDesk", name := "propose", desc := "(I)I" } : Jvm.MethodName)) ∈ GW := gw_t5 (List.mem_of_getElem? (i := 12) rfl) rfl
theorem gw973 : (Jvm.Cond.instanceMethod ({ cls := "SchemaDesk", name := "propose", desc := "(I)I" } : Jvm.MethodName)) ∈ GW := gw_t5 (List.mem_of_getElem? (i := 13) rfl) rfl
theorem gw974 : (Jvm.Cond.selects "SchemaDesk" ({ cls := "SchemaDesk", name := "propose", desc := "(I)I" } : Jvm.MethodName) ({ cls := "SchemaDesk", name := "propose", desc := "(I)I" } : Jvm.MethodName)) ∈ GW := gw_t5 (List.mem_of_getElem? (i := 14) rfl) rfl
theorem gw975 : (Jvm.Cond.code ({ cls := "SchemaDesk", name := "propose", desc := "(I)I" } : Jvm.MethodName) prog_1_method_15_code (2 : Nat) (Option.some Jvm.ClassFile.FieldType.int)) ∈ GW := gw_t5 (List.mem_of_getElem? (i := 15) rfl) rfl
def wq_Lw_propose (x1 : Int32) (σ : Sg) (post : Int32 → Sg → Prop) : Prop := ((wq_Sd_propose x1 σ (fun r1 σ1 => (vp_in (0 : Int32) 1 ∧ (∀ σ2, σ2 = sl σ1 53 ((0 : Int32) : Int32).toNatClampNeg ((r1 : Int32).toInt64) → post (0 : Int32) σ2)))) ∨ (wq_Sd_propose_ns x1 σ (fun σ1 => post (1 : Int32) σ1)) ∨ (wq_Sd_propose_uo x1 σ (fun σ1 => post (2 : Int32) σ1)))
set_option maxRecDepth 100000 in
set_option maxHeartbeats 4000000 in
theorem b_Lw_propose_0 {p : Program} {l : Launch} {e : Env} {s : State} {m : MethodId} {args : Array Value} {below : List Frame} {meth : Method} {c : Code} {D : va_G} {g : Gm} {A : Nat → Prop} {post : Int32 → Sg → Prop} (C : kC p s m args meth c k_Lw_propose 4 (some .int) GW R_Lw D vwCl g (Zk g) A) (htr : l.stackTraces = false) (htab : c.exceptionTable.toList.map (fun h => (h.startPc, h.endPc, h.handlerPc, h.catchType)) = [(0, 9, 12, 38), (0, 9, 15, 51)]) (x1 : Int32) (σ : Sg) (H : Heap) (locs : List Loc) (ls : Array Slot) (hl : lv_has ls 4 [(0, .ref (g.1 51)), (1, .int x1), (2, .ref (g.1 53))]) (hst : Wst D vwCl (WS g) A s σ H locs) (h : wq_Lw_propose x1 σ post) : W p l e { frames := 38, cells := 1, slots := 6, locals := 949 } s m args below meth c H locs 0 0 (MQ below (QiW D vwCl (WS g) post A) args s 1 6 A) (F0 m 0 ls []) := by
  obtain ⟨hx, hb, hr, hml, hown, hts, hlocks, hK, hZ, hA⟩ := C
  unfold wq_Lw_propose at h
  refine lv_aload_n hx hb d_Lw_propose_0 rfl (lv_at hl 2 rfl) ?_
  refine lv_iconst (v := (0 : Int32)) hx hb d_Lw_propose_1 (by decide) ?_
  refine lv_aload_n hx hb d_Lw_propose_2 rfl (lv_at hl 0 rfl) ?_
  refine lv_iload_n hx hb d_Lw_propose_3 rfl (lv_at hl 1 rfl) ?_
  rcases h with h | h | h
  · refine kw_calli (va_runV (As := [.int x1]) (rest := [.int (0 : Int32), .ref (g.1 53)]) (b := g.1 51) ⟨hx, hb, hml, hown, hts⟩ (c_Sd_propose l x1 h) (cwV 1 hts (gd_v gw972 gw973 gw974 gw1 gw975) rfl rfl rfl (by decide +kernel) ⟨Nat.le_of_ble_eq_true rfl, Nat.le_of_ble_eq_true rfl⟩) ⟨kw_blind (Zk_ok g), va_recv hK hst.1 rfl (WS_o51 g σ), kw_pre (Zk_ok g) hK hZ hA hst⟩ rfl rfl hl.1 rfl (lv_room (Nat.le_of_ble_eq_true rfl)) d_Lw_propose_4 ⟨Nat.le_of_ble_eq_true rfl, Nat.le_of_ble_eq_true rfl⟩) hst hA (fun r1 σ1 H locs h hst => ?_)
    refine lv_i2l hx hb d_Lw_propose_7 rfl ?_
    obtain ⟨hi, h⟩ := h
    refine kw_last hx hb hK hst 53 (WS_a53 g σ1) hi (WS_s53 g σ1 _ _) d_Lw_propose_8 (fun σ2 H locs e2 hst => ?_)
    replace h := h σ2 e2
    refine lv_goto (tgt := 18) hx hb d_Lw_propose_9 (by decide) ?_
    refine lv_iconst (v := (0 : Int32)) hx hb d_Lw_propose_18 (by decide) ?_
    refine W.widen (k := 1) (n := 6) (Nat.le_of_ble_eq_true rfl) (Nat.le_of_ble_eq_true rfl) ?_
    exact kw_iret hx hb hr hlocks hst h d_Lw_propose_19
  · refine kh_throw (E := E_ns) (hpc := 12) (As := [.int x1]) (rest := [.int (0 : Int32), .ref (g.1 53)]) (b := g.1 51) ⟨hx, hb, hml, hown, hts⟩ (c_Sd_propose_ns l htr x1 h) (cwV 1 hts (gd_v gw972 gw973 gw974 gw1 gw975) rfl rfl rfl (by decide +kernel) ⟨Nat.le_of_ble_eq_true rfl, Nat.le_of_ble_eq_true rfl⟩) ⟨kw_blind (Zk_ok g), va_recv hK hst.1 rfl (WS_o51 g σ), kw_pre (Zk_ok g) hK hZ hA hst⟩ rfl hl.1 rfl (Nat.le_of_ble_eq_true rfl) d_Lw_propose_4 ⟨Nat.le_of_ble_eq_true rfl, Nat.le_of_ble_eq_true rfl⟩ (fun ha k hk => kc_of _ _ htab (kc_hy ⟨Nat.zero_le _, Nat.le_of_ble_eq_true rfl⟩ (by decide) (kc_yes ha hown (hts _ gw696) (hZ.2.2.2.1.1.use (List.mem_of_getElem? (i := 6) rfl)) hk))) hst hA (fun x_1 σ1 H locs h hst => ?_)
    refine lv_astore_n hx hb d_Lw_propose_12 rfl hl (by decide) rfl (fun ls hl => ?_)
    have hl : lv_has ls 4 [(3, .ref x_1), (0, .ref (g.1 51)), (1, .int x1), (2, .ref (g.1 53))] := hl
    refine lv_iconst (v := (1 : Int32)) hx hb d_Lw_propose_13 (by decide) ?_
    refine W.widen (k := 1) (n := 6) (Nat.le_of_ble_eq_true rfl) (Nat.le_of_ble_eq_true rfl) ?_
    exact kw_iret hx hb hr hlocks hst h d_Lw_propose_14
  · refine kh_throw (E := E_uo) (hpc := 15) (As := [.int x1]) (rest := [.int (0 : Int32), .ref (g.1 53)]) (b := g.1 51) ⟨hx, hb, hml, hown, hts⟩ (c_Sd_propose_uo l htr x1 h) (cwV 1 hts (gd_v gw972 gw973 gw974 gw1 gw975) rfl rfl rfl (by decide +kernel) ⟨Nat.le_of_ble_eq_true rfl, Nat.le_of_ble_eq_true rfl⟩) ⟨kw_blind (Zk_ok g), va_recv hK hst.1 rfl (WS_o51 g σ), kw_pre (Zk_ok g) hK hZ hA hst⟩ rfl hl.1 rfl (Nat.le_of_ble_eq_true rfl) d_Lw_propose_4 ⟨Nat.le_of_ble_eq_true rfl, Nat.le_of_ble_eq_true rfl⟩ (fun ha k hk => kc_of _ _ htab (kc_hn ⟨Nat.zero_le _, Nat.le_of_ble_eq_true rfl⟩ (by decide) (kc_no ha hown (hts _ gw696) (hZ.2.2.2.1.2 _ (List.mem_of_getElem? (i := 4) rfl)) hk) (kc_hy ⟨Nat.zero_le _, Nat.le_of_ble_eq_true rfl⟩ (by decide) (kc_yes ha hown (hts _ gw737) (hZ.2.2.2.1.1.use (List.mem_of_getElem? (i := 7) rfl)) hk)))) hst hA (fun x_1 σ1 H locs h hst => ?_)
    refine lv_astore_n hx hb d_Lw_propose_15 rfl hl (by decide) rfl (fun ls hl => ?_)
    have hl : lv_has ls 4 [(3, .ref x_1), (0, .ref (g.1 51)), (1, .int x1), (2, .ref (g.1 53))] := hl
    refine lv_iconst (v := (2 : Int32)) hx hb d_Lw_propose_16 (by decide) ?_
    refine W.widen (k := 1) (n := 6) (Nat.le_of_ble_eq_true rfl) (Nat.le_of_ble_eq_true rfl) ?_
    exact kw_iret hx hb hr hlocks hst h d_Lw_propose_17
set_option maxRecDepth 100000 in
set_option maxHeartbeats 4000000 in
theorem c_Lw_propose (l : Launch) {D : va_G} {g : Gm} (htr : l.stackTraces = false) {sz : Nat} (x1 : Int32) {σ : Sg} {post : Int32 → Sg → Prop} (h : wq_Lw_propose x1 σ post) : Met l y_Lw_propose (.codeWith y_Lw_propose k_Lw_propose 4 (some .int) [(0, 9, 12, 38), (0, 9, 15, 51)] :: GW) { frames := 38, cells := 1, slots := 6, locals := 949 } (PcW D vwCl (WS g) g (Zk g) σ sz [.ref (g.1 51), .int x1, .ref (g.1 53)]) (QiW D vwCl (WS g) post (va_A (WS g σ) sz)) 1 6 (va_A (WS g σ) sz) := by
  refine kh_entry (own := R_Lw) (by decide) rfl rfl (Nat.le_of_ble_eq_true rfl) ?_
  intro p e s m below meth c ls hsz C htab hl hst
  exact b_Lw_propose_0 C htr htab x1 σ _ _ ls hl hst h
/-! SchemaDeskLaw.proposal (LSchemaDesk;II[J)I -/
abbrev k_Lw_proposal : ByteArray := method_15_code
abbrev y_Lw_proposal : MethodName := ⟨"SchemaDeskLaw", "proposal", "(LSchemaDesk;II[J)I"⟩
theorem d_Lw_proposal_0 : decode k_Lw_proposal 0 = .ok (.aload_n 3, 1) := by decide +kernel
theorem d_Lw_proposal_1 : decode k_Lw_proposal 1 = .ok (.iconst 0, 1) := by decide +kernel
theorem d_Lw_proposal_2 : decode k_Lw_proposal 2 = .ok (.aload_n 0, 1) := by decide +kernel
theorem d_Lw_proposal_3 : decode k_Lw_proposal 3 = .ok (.iload_n 1, 1) := by decide +kernel
theorem d_Lw_proposal_4 : decode k_Lw_proposal 4 = .ok (.iload_n 2, 1) := by decide +kernel
theorem d_Lw_proposal_5 : decode k_Lw_proposal 5 = .ok (.invokevirtual 63, 3) := by decide +kernel
theorem d_Lw_proposal_8 : decode k_Lw_proposal 8 = .ok (.i2l, 1) := by decide +kernel
theorem d_Lw_proposal_9 : decode k_Lw_proposal 9 = .ok (.lastore, 1) := by decide +kernel
theorem d_Lw_proposal_10 : decode k_Lw_proposal 10 = .ok (.goto 7, 3) := by decide +kernel
theorem d_Lw_proposal_13 : decode k_Lw_proposal 13 = .ok (.astore 4, 2) := by decide +kernel
theorem d_Lw_proposal_15 : decode k_Lw_proposal 15 = .ok (.iconst 1, 1) := by decide +kernel
theorem d_Lw_proposal_16 : decode k_Lw_proposal 16 = .ok (.ireturn, 1) := by decide +kernel
theorem d_Lw_proposal_17 : decode k_Lw_proposal 17 = .ok (.iconst 0, 1) := by decide +kernel
theorem d_Lw_proposal_18 : decode k_Lw_proposal 18 = .ok (.ireturn, 1) := by decide +kernel
theorem gw1023 : (Jvm.Cond.methodLink "SchemaDeskLaw" (63 : Nat) ({ cls := "SchemaDesk", name := "proposal", desc := "(II)I" } : Jvm.MethodName)) ∈ GW := gw_t5 (List.mem_of_getElem? (i := 63) rfl) rfl
theorem gw1024 : (Jvm.Cond.instanceMethod ({ cls := "SchemaDesk", name := "proposal", desc := "(II)I" } : Jvm.MethodName)) ∈ GW := gw_t5 (List.mem_of_getElem? (i := 64) rfl) rfl
theorem gw1025 : (Jvm.Cond.selects "SchemaDesk" ({ cls := "SchemaDesk", name := "proposal", desc := "(II)I" } : Jvm.MethodName) ({ cls := "SchemaDesk", name := "proposal", desc := "(II)I" } : Jvm.MethodName)) ∈ GW := gw_t5 (List.mem_of_getElem? (i := 65) rfl) rfl
theorem gw1026 : (Jvm.Cond.code ({ cls := "SchemaDesk", name := "proposal", desc := "(II)I" } : Jvm.MethodName) prog_1_method_16_code (3 : Nat) (Option.some Jvm.ClassFile.FieldType.int)) ∈ GW := gw_t5 (List.mem_of_getElem? (i := 66) rfl) rfl
def wq_Lw_proposal (x1 : Int32) (x2 : Int32) (σ : Sg) (post : Int32 → Sg → Prop) : Prop := ((wq_Sd_proposal x1 x2 σ (fun r1 σ1 => (vp_in (0 : Int32) 1 ∧ (∀ σ2, σ2 = sl σ1 53 ((0 : Int32) : Int32).toNatClampNeg ((r1 : Int32).toInt64) → post (0 : Int32) σ2)))) ∨ (wq_Sd_proposal_ns x1 x2 σ (fun σ1 => post (1 : Int32) σ1)))
set_option maxRecDepth 100000 in
set_option maxHeartbeats 4000000 in
theorem b_Lw_proposal_0 {p : Program} {l : Launch} {e : Env} {s : State} {m : MethodId} {args : Array Value} {below : List Frame} {meth : Method} {c : Code} {D : va_G} {g : Gm} {A : Nat → Prop} {post : Int32 → Sg → Prop} (C : kC p s m args meth c k_Lw_proposal 5 (some .int) GW R_Lw D vwCl g (Zk g) A) (htr : l.stackTraces = false) (htab : c.exceptionTable.toList.map (fun h => (h.startPc, h.endPc, h.handlerPc, h.catchType)) = [(0, 10, 13, 38)]) (x1 : Int32) (x2 : Int32) (σ : Sg) (H : Heap) (locs : List Loc) (ls : Array Slot) (hl : lv_has ls 5 [(0, .ref (g.1 51)), (1, .int x1), (2, .int x2), (3, .ref (g.1 53))]) (hst : Wst D vwCl (WS g) A s σ H locs) (h : wq_Lw_proposal x1 x2 σ post) : W p l e { frames := 7, cells := 1, slots := 6, locals := 122 } s m args below meth c H locs 0 0 (MQ below (QiW D vwCl (WS g) post A) args s 1 6 A) (F0 m 0 ls []) := by
  obtain ⟨hx, hb, hr, hml, hown, hts, hlocks, hK, hZ, hA⟩ := C
  unfold wq_Lw_proposal at h
  refine lv_aload_n hx hb d_Lw_proposal_0 rfl (lv_at hl 3 rfl) ?_
  refine lv_iconst (v := (0 : Int32)) hx hb d_Lw_proposal_1 (by decide) ?_
  refine lv_aload_n hx hb d_Lw_proposal_2 rfl (lv_at hl 0 rfl) ?_
  refine lv_iload_n hx hb d_Lw_proposal_3 rfl (lv_at hl 1 rfl) ?_
  refine lv_iload_n hx hb d_Lw_proposal_4 rfl (lv_at hl 2 rfl) ?_
  rcases h with h | h
  · refine kw_calli (va_runV (As := [.int x1, .int x2]) (rest := [.int (0 : Int32), .ref (g.1 53)]) (b := g.1 51) ⟨hx, hb, hml, hown, hts⟩ (c_Sd_proposal l x1 x2 h) (cwV 2 hts (gd_v gw1023 gw1024 gw1025 gw1 gw1026) rfl rfl rfl (by decide +kernel) ⟨Nat.le_of_ble_eq_true rfl, Nat.le_of_ble_eq_true rfl⟩) ⟨kw_blind (Zk_ok g), va_recv hK hst.1 rfl (WS_o51 g σ), kw_pre (Zk_ok g) hK hZ hA hst⟩ rfl rfl hl.1 rfl (lv_room (Nat.le_of_ble_eq_true rfl)) d_Lw_proposal_5 ⟨Nat.le_of_ble_eq_true rfl, Nat.le_of_ble_eq_true rfl⟩) hst hA (fun r1 σ1 H locs h hst => ?_)
    refine lv_i2l hx hb d_Lw_proposal_8 rfl ?_
    obtain ⟨hi, h⟩ := h
    refine kw_last hx hb hK hst 53 (WS_a53 g σ1) hi (WS_s53 g σ1 _ _) d_Lw_proposal_9 (fun σ2 H locs e2 hst => ?_)
    replace h := h σ2 e2
    refine lv_goto (tgt := 17) hx hb d_Lw_proposal_10 (by decide) ?_
    refine lv_iconst (v := (0 : Int32)) hx hb d_Lw_proposal_17 (by decide) ?_
    refine W.widen (k := 1) (n := 6) (Nat.le_of_ble_eq_true rfl) (Nat.le_of_ble_eq_true rfl) ?_
    exact kw_iret hx hb hr hlocks hst h d_Lw_proposal_18
  · refine kh_throw (E := E_ns) (hpc := 13) (As := [.int x1, .int x2]) (rest := [.int (0 : Int32), .ref (g.1 53)]) (b := g.1 51) ⟨hx, hb, hml, hown, hts⟩ (c_Sd_proposal_ns l htr x1 x2 h) (cwV 2 hts (gd_v gw1023 gw1024 gw1025 gw1 gw1026) rfl rfl rfl (by decide +kernel) ⟨Nat.le_of_ble_eq_true rfl, Nat.le_of_ble_eq_true rfl⟩) ⟨kw_blind (Zk_ok g), va_recv hK hst.1 rfl (WS_o51 g σ), kw_pre (Zk_ok g) hK hZ hA hst⟩ rfl hl.1 rfl (Nat.le_of_ble_eq_true rfl) d_Lw_proposal_5 ⟨Nat.le_of_ble_eq_true rfl, Nat.le_of_ble_eq_true rfl⟩ (fun ha k hk => kc_of _ _ htab (kc_hy ⟨Nat.zero_le _, Nat.le_of_ble_eq_true rfl⟩ (by decide) (kc_yes ha hown (hts _ gw696) (hZ.2.2.2.1.1.use (List.mem_of_getElem? (i := 6) rfl)) hk))) hst hA (fun x_1 σ1 H locs h hst => ?_)
    refine lv_astore hx hb d_Lw_proposal_13 hl (by decide) rfl (fun ls hl => ?_)
    have hl : lv_has ls 5 [(4, .ref x_1), (0, .ref (g.1 51)), (1, .int x1), (2, .int x2), (3, .ref (g.1 53))] := hl
    refine lv_iconst (v := (1 : Int32)) hx hb d_Lw_proposal_15 (by decide) ?_
    refine W.widen (k := 1) (n := 6) (Nat.le_of_ble_eq_true rfl) (Nat.le_of_ble_eq_true rfl) ?_
    exact kw_iret hx hb hr hlocks hst h d_Lw_proposal_16
set_option maxRecDepth 100000 in
set_option maxHeartbeats 4000000 in
theorem c_Lw_proposal (l : Launch) {D : va_G} {g : Gm} (htr : l.stackTraces = false) {sz : Nat} (x1 : Int32) (x2 : Int32) {σ : Sg} {post : Int32 → Sg → Prop} (h : wq_Lw_proposal x1 x2 σ post) : Met l y_Lw_proposal (.codeWith y_Lw_proposal k_Lw_proposal 5 (some .int) [(0, 10, 13, 38)] :: GW) { frames := 7, cells := 1, slots := 6, locals := 122 } (PcW D vwCl (WS g) g (Zk g) σ sz [.ref (g.1 51), .int x1, .int x2, .ref (g.1 53)]) (QiW D vwCl (WS g) post (va_A (WS g σ) sz)) 1 6 (va_A (WS g σ) sz) := by
  refine kh_entry (own := R_Lw) (by decide) rfl rfl (Nat.le_of_ble_eq_true rfl) ?_
  intro p e s m below meth c ls hsz C htab hl hst
  exact b_Lw_proposal_0 C htr htab x1 x2 σ _ _ ls hl hst h
