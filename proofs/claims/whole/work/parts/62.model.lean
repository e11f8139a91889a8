/-! SchemaDeskModel.isSo (II)Z -/
abbrev k_Md_isSo : ByteArray := prog_12_method_38_code
abbrev y_Md_isSo : MethodName := ⟨"SchemaDeskModel", "isSo", "(II)Z"⟩
theorem d_Md_isSo_0 : decode k_Md_isSo 0 = .ok (.aload_n 0, 1) := by decide +kernel
theorem d_Md_isSo_1 : decode k_Md_isSo 1 = .ok (.getfield 147, 3) := by decide +kernel
theorem d_Md_isSo_4 : decode k_Md_isSo 4 = .ok (.iload_n 1, 1) := by decide +kernel
theorem d_Md_isSo_5 : decode k_Md_isSo 5 = .ok (.laload, 1) := by decide +kernel
theorem d_Md_isSo_6 : decode k_Md_isSo 6 = .ok (.aload_n 0, 1) := by decide +kernel
theorem d_Md_isSo_7 : decode k_Md_isSo 7 = .ok (.getfield 150, 3) := by decide +kernel
theorem d_Md_isSo_10 : decode k_Md_isSo 10 = .ok (.iload_n 1, 1) := by decide +kernel
theorem d_Md_isSo_11 : decode k_Md_isSo 11 = .ok (.laload, 1) := by decide +kernel
theorem d_Md_isSo_12 : decode k_Md_isSo 12 = .ok (.iload_n 2, 1) := by decide +kernel
theorem d_Md_isSo_13 : decode k_Md_isSo 13 = .ok (.sipush 160, 3) := by decide +kernel
theorem d_Md_isSo_16 : decode k_Md_isSo 16 = .ok (.isub, 1) := by decide +kernel
theorem d_Md_isSo_17 : decode k_Md_isSo 17 = .ok (.invokestatic 284, 3) := by decide +kernel
theorem d_Md_isSo_20 : decode k_Md_isSo 20 = .ok (.ireturn, 1) := by decide +kernel
theorem gw1096 : (Jvm.Cond.fieldLink "SchemaDeskModel" (147 : Nat) "SchemaDeskModel" "holds0" "[J") ∈ GW := gw_t5 (List.mem_of_getElem? (i := 136) rfl) rfl
theorem gw1097 : (Jvm.Cond.fieldLink "SchemaDeskModel" (150 : Nat) "SchemaDeskModel" "holds1" "[J") ∈ GW := gw_t5 (List.mem_of_getElem? (i := 137) rfl) rfl
theorem gw1373 : (Jvm.Cond.methodLink "SchemaDeskModel" (284 : Nat) ({ cls := "SchemaDeskModel", name := "bit", desc := "(JJI)Z" } : Jvm.MethodName)) ∈ GW := gw_t6 (List.mem_of_getElem? (i := 173) rfl) rfl
theorem gw1374 : (Jvm.Cond.static ({ cls := "SchemaDeskModel", name := "bit", desc := "(JJI)Z" } : Jvm.MethodName)) ∈ GW := gw_t6 (List.mem_of_getElem? (i := 174) rfl) rfl
theorem gw1375 : (Jvm.Cond.code ({ cls := "SchemaDeskModel", name := "bit", desc := "(JJI)Z" } : Jvm.MethodName) prog_12_method_36_code (5 : Nat) (Option.some Jvm.ClassFile.FieldType.boolean)) ∈ GW := gw_t6 (List.mem_of_getElem? (i := 175) rfl) rfl
def wq_Md_isSo (x1 : Int32) (x2 : Int32) (σ : Sg) (post : Int32 → Sg → Prop) : Prop := (vp_in x1 160 ∧ (vp_in x1 160 ∧ (wq_Md_bit (σ.2.1 82 x1.toNatClampNeg) (σ.2.1 83 x1.toNatClampNeg) (x2 - (160 : Int32)) σ (fun r1 σ1 => (narrow .boolean (.int r1) = .int r1 ∧ post r1 σ1)))))
set_option maxRecDepth 100000 in
set_option maxHeartbeats 4000000 in
theorem b_Md_isSo_0 {p : Program} {l : Launch} {e : Env} {s : State} {m : MethodId} {args : Array Value} {below : List Frame} {meth : Method} {c : Code} {D : va_G} {g : Gm} {A : Nat → Prop} {post : Int32 → Sg → Prop} (C : kC p s m args meth c k_Md_isSo 3 (some .boolean) GW R_Md D vwCl g (Zk g) A) (x1 : Int32) (x2 : Int32) (σ : Sg) (H : Heap) (locs : List Loc) (ls : Array Slot) (hl : lv_has ls 3 [(0, .ref (g.1 54)), (1, .int x1), (2, .int x2)]) (hst : Wst D vwCl (WS g) A s σ H locs) (h : wq_Md_isSo x1 x2 σ post) : W p l e { frames := 1, cells := 0, slots := 0, locals := 24 } s m args below meth c H locs 0 0 (MQ below (QiW D vwCl (WS g) post A) args s 0 0 A) (F0 m 0 ls []) := by
  obtain ⟨hx, hb, hr, hml, hown, hts, hlocks, hK, hZ, hA⟩ := C
  unfold wq_Md_isSo at h
  refine lv_aload_n hx hb d_Md_isSo_0 rfl (lv_at hl 0 rfl) ?_
  refine va_get (D := D) (ci := 10) (C := R_Md) (T := T_Md) (N := 46) hx hb hts in_Md hown hK hst.1 54 (WS_o54 g σ) rfl 32 (by decide) (hts _ gw1096) (fun _ h9 => h9) rfl d_Md_isSo_1 ?_
  refine lv_iload_n hx hb d_Md_isSo_4 rfl (lv_at hl 1 rfl) ?_
  obtain ⟨hi, h⟩ := h
  refine va_lald hx hb hK hst.1 82 3 (WS_a82 g σ) rfl hi d_Md_isSo_5 ?_
  refine lv_aload_n hx hb d_Md_isSo_6 rfl (lv_at hl 0 rfl) ?_
  refine va_get (D := D) (ci := 10) (C := R_Md) (T := T_Md) (N := 46) hx hb hts in_Md hown hK hst.1 54 (WS_o54 g σ) rfl 33 (by decide) (hts _ gw1097) (fun _ h9 => h9) rfl d_Md_isSo_7 ?_
  refine lv_iload_n hx hb d_Md_isSo_10 rfl (lv_at hl 1 rfl) ?_
  obtain ⟨hi, h⟩ := h
  refine va_lald hx hb hK hst.1 83 3 (WS_a83 g σ) rfl hi d_Md_isSo_11 ?_
  refine lv_iload_n hx hb d_Md_isSo_12 rfl (lv_at hl 2 rfl) ?_
  refine lv_sipush (v := (160 : Int32)) hx hb d_Md_isSo_13 (by decide) ?_
  refine lv_isub hx hb d_Md_isSo_16 ?_
  refine kw_calli (va_runS (As := [.long (σ.2.1 82 x1.toNatClampNeg), .long (σ.2.1 83 x1.toNatClampNeg), .int (x2 - (160 : Int32))]) (rest := []) ⟨hx, hb, hml, hown, hts⟩ (c_Md_bit l (σ.2.1 82 x1.toNatClampNeg) (σ.2.1 83 x1.toNatClampNeg) (x2 - (160 : Int32)) h) (cwS 3 hts (gd_s gw1373 gw1374 gw15 gw1375) rfl rfl rfl (by decide +kernel) ⟨Nat.le_of_ble_eq_true rfl, Nat.le_of_ble_eq_true rfl⟩) ⟨kw_blind (Zk_ok g), kw_pre (Zk_ok g) hK hZ hA hst⟩ rfl rfl hl.1 rfl (lv_room (Nat.le_of_ble_eq_true rfl)) d_Md_isSo_17 ⟨Nat.le_of_ble_eq_true rfl, Nat.le_of_ble_eq_true rfl⟩) hst hA (fun r1 σ1 H locs h hst => ?_)
  exact kw_zret hx hb hr hlocks hst h d_Md_isSo_20
set_option maxRecDepth 100000 in
set_option maxHeartbeats 4000000 in
theorem c_Md_isSo (l : Launch) {D : va_G} {g : Gm} {sz : Nat} (x1 : Int32) (x2 : Int32) {σ : Sg} {post : Int32 → Sg → Prop} (h : wq_Md_isSo x1 x2 σ post) : Met l y_Md_isSo (.code y_Md_isSo k_Md_isSo 3 (some .boolean) :: GW) { frames := 1, cells := 0, slots := 0, locals := 24 } (PcW D vwCl (WS g) g (Zk g) σ sz [.ref (g.1 54), .int x1, .int x2]) (QiW D vwCl (WS g) post (va_A (WS g σ) sz)) 0 0 (va_A (WS g σ) sz) := by
  refine kw_entry (own := R_Md) (by decide) rfl rfl (Nat.le_of_ble_eq_true rfl) ?_
  intro p e s m below meth c ls hsz C hin hl hst
  exact b_Md_isSo_0 C x1 x2 σ _ _ ls hl hst h
/-! SchemaDeskModel.isEqual (II)Z -/
abbrev k_Md_isEqual : ByteArray := prog_12_method_39_code
abbrev y_Md_isEqual : MethodName := ⟨"SchemaDeskModel", "isEqual", "(II)Z"⟩
theorem d_Md_isEqual_0 : decode k_Md_isEqual 0 = .ok (.aload_n 0, 1) := by decide +kernel
theorem d_Md_isEqual_1 : decode k_Md_isEqual 1 = .ok (.getfield 141, 3) := by decide +kernel
theorem d_Md_isEqual_4 : decode k_Md_isEqual 4 = .ok (.iload_n 1, 1) := by decide +kernel
theorem d_Md_isEqual_5 : decode k_Md_isEqual 5 = .ok (.laload, 1) := by decide +kernel
theorem d_Md_isEqual_6 : decode k_Md_isEqual 6 = .ok (.aload_n 0, 1) := by decide +kernel
theorem d_Md_isEqual_7 : decode k_Md_isEqual 7 = .ok (.getfield 144, 3) := by decide +kernel
theorem d_Md_isEqual_10 : decode k_Md_isEqual 10 = .ok (.iload_n 1, 1) := by decide +kernel
theorem d_Md_isEqual_11 : decode k_Md_isEqual 11 = .ok (.laload, 1) := by decide +kernel
theorem d_Md_isEqual_12 : decode k_Md_isEqual 12 = .ok (.iload_n 2, 1) := by decide +kernel
theorem d_Md_isEqual_13 : decode k_Md_isEqual 13 = .ok (.sipush 160, 3) := by decide +kernel
theorem d_Md_isEqual_16 : decode k_Md_isEqual 16 = .ok (.isub, 1) := by decide +kernel
theorem d_Md_isEqual_17 : decode k_Md_isEqual 17 = .ok (.invokestatic 284, 3) := by decide +kernel
theorem d_Md_isEqual_20 : decode k_Md_isEqual 20 = .ok (.ireturn, 1) := by decide +kernel
theorem gw1094 : (Jvm.Cond.fieldLink "SchemaDeskModel" (141 : Nat) "SchemaDeskModel" "equal0" "[J") ∈ GW := gw_t5 (List.mem_of_getElem? (i := 134) rfl) rfl
theorem gw1095 : (Jvm.Cond.fieldLink "SchemaDeskModel" (144 : Nat) "SchemaDeskModel" "equal1" "[J") ∈ GW := gw_t5 (List.mem_of_getElem? (i := 135) rfl) rfl
def wq_Md_isEqual (x1 : Int32) (x2 : Int32) (σ : Sg) (post : Int32 → Sg → Prop) : Prop := (vp_in x1 160 ∧ (vp_in x1 160 ∧ (wq_Md_bit (σ.2.1 80 x1.toNatClampNeg) (σ.2.1 81 x1.toNatClampNeg) (x2 - (160 : Int32)) σ (fun r1 σ1 => (narrow .boolean (.int r1) = .int r1 ∧ post r1 σ1)))))
set_option maxRecDepth 100000 in
set_option maxHeartbeats 4000000 in
theorem b_Md_isEqual_0 {p : Program} {l : Launch} {e : Env} {s : State} {m : MethodId} {args : Array Value} {below : List Frame} {meth : Method} {c : Code} {D : va_G} {g : Gm} {A : Nat → Prop} {post : Int32 → Sg → Prop} (C : kC p s m args meth c k_Md_isEqual 3 (some .boolean) GW R_Md D vwCl g (Zk g) A) (x1 : Int32) (x2 : Int32) (σ : Sg) (H : Heap) (locs : List Loc) (ls : Array Slot) (hl : lv_has ls 3 [(0, .ref (g.1 54)), (1, .int x1), (2, .int x2)]) (hst : Wst D vwCl (WS g) A s σ H locs) (h : wq_Md_isEqual x1 x2 σ post) : W p l e { frames := 1, cells := 0, slots := 0, locals := 24 } s m args below meth c H locs 0 0 (MQ below (QiW D vwCl (WS g) post A) args s 0 0 A) (F0 m 0 ls []) := by
  obtain ⟨hx, hb, hr, hml, hown, hts, hlocks, hK, hZ, hA⟩ := C
  unfold wq_Md_isEqual at h
  refine lv_aload_n hx hb d_Md_isEqual_0 rfl (lv_at hl 0 rfl) ?_
  refine va_get (D := D) (ci := 10) (C := R_Md) (T := T_Md) (N := 46) hx hb hts in_Md hown hK hst.1 54 (WS_o54 g σ) rfl 30 (by decide) (hts _ gw1094) (fun _ h9 => h9) rfl d_Md_isEqual_1 ?_
  refine lv_iload_n hx hb d_Md_isEqual_4 rfl (lv_at hl 1 rfl) ?_
  obtain ⟨hi, h⟩ := h
  refine va_lald hx hb hK hst.1 80 3 (WS_a80 g σ) rfl hi d_Md_isEqual_5 ?_
  refine lv_aload_n hx hb d_Md_isEqual_6 rfl (lv_at hl 0 rfl) ?_
  refine va_get (D := D) (ci := 10) (C := R_Md) (T := T_Md) (N := 46) hx hb hts in_Md hown hK hst.1 54 (WS_o54 g σ) rfl 31 (by decide) (hts _ gw1095) (fun _ h9 => h9) rfl d_Md_isEqual_7 ?_
  refine lv_iload_n hx hb d_Md_isEqual_10 rfl (lv_at hl 1 rfl) ?_
  obtain ⟨hi, h⟩ := h
  refine va_lald hx hb hK hst.1 81 3 (WS_a81 g σ) rfl hi d_Md_isEqual_11 ?_
  refine lv_iload_n hx hb d_Md_isEqual_12 rfl (lv_at hl 2 rfl) ?_
  refine lv_sipush (v := (160 : Int32)) hx hb d_Md_isEqual_13 (by decide) ?_
  refine lv_isub hx hb d_Md_isEqual_16 ?_
  refine kw_calli (va_runS (As := [.long (σ.2.1 80 x1.toNatClampNeg), .long (σ.2.1 81 x1.toNatClampNeg), .int (x2 - (160 : Int32))]) (rest := []) ⟨hx, hb, hml, hown, hts⟩ (c_Md_bit l (σ.2.1 80 x1.toNatClampNeg) (σ.2.1 81 x1.toNatClampNeg) (x2 - (160 : Int32)) h) (cwS 3 hts (gd_s gw1373 gw1374 gw15 gw1375) rfl rfl rfl (by decide +kernel) ⟨Nat.le_of_ble_eq_true rfl, Nat.le_of_ble_eq_true rfl⟩) ⟨kw_blind (Zk_ok g), kw_pre (Zk_ok g) hK hZ hA hst⟩ rfl rfl hl.1 rfl (lv_room (Nat.le_of_ble_eq_true rfl)) d_Md_isEqual_17 ⟨Nat.le_of_ble_eq_true rfl, Nat.le_of_ble_eq_true rfl⟩) hst hA (fun r1 σ1 H locs h hst => ?_)
  exact kw_zret hx hb hr hlocks hst h d_Md_isEqual_20
set_option maxRecDepth 100000 in
set_option maxHeartbeats 4000000 in
theorem c_Md_isEqual (l : Launch) {D : va_G} {g : Gm} {sz : Nat} (x1 : Int32) (x2 : Int32) {σ : Sg} {post : Int32 → Sg → Prop} (h : wq_Md_isEqual x1 x2 σ post) : Met l y_Md_isEqual (.code y_Md_isEqual k_Md_isEqual 3 (some .boolean) :: GW) { frames := 1, cells := 0, slots := 0, locals := 24 } (PcW D vwCl (WS g) g (Zk g) σ sz [.ref (g.1 54), .int x1, .int x2]) (QiW D vwCl (WS g) post (va_A (WS g σ) sz)) 0 0 (va_A (WS g σ) sz) := by
  refine kw_entry (own := R_Md) (by decide) rfl rfl (Nat.le_of_ble_eq_true rfl) ?_
  intro p e s m below meth c ls hsz C hin hl hst
  exact b_Md_isEqual_0 C x1 x2 σ _ _ ls hl hst h
/-! SchemaDeskModel.isMarked (II)Z -/
abbrev k_Md_isMarked : ByteArray := prog_12_method_40_code
abbrev y_Md_isMarked : MethodName := ⟨"SchemaDeskModel", "isMarked", "(II)Z"⟩
theorem d_Md_isMarked_0 : decode k_Md_isMarked 0 = .ok (.aload_n 0, 1) := by decide +kernel
theorem d_Md_isMarked_1 : decode k_Md_isMarked 1 = .ok (.getfield 153, 3) := by decide +kernel
theorem d_Md_isMarked_4 : decode k_Md_isMarked 4 = .ok (.iload_n 1, 1) := by decide +kernel
theorem d_Md_isMarked_5 : decode k_Md_isMarked 5 = .ok (.laload, 1) := by decide +kernel
theorem d_Md_isMarked_6 : decode k_Md_isMarked 6 = .ok (.aload_n 0, 1) := by decide +kernel
theorem d_Md_isMarked_7 : decode k_Md_isMarked 7 = .ok (.getfield 156, 3) := by decide +kernel
theorem d_Md_isMarked_10 : decode k_Md_isMarked 10 = .ok (.iload_n 1, 1) := by decide +kernel
theorem d_Md_isMarked_11 : decode k_Md_isMarked 11 = .ok (.laload, 1) := by decide +kernel
theorem d_Md_isMarked_12 : decode k_Md_isMarked 12 = .ok (.iload_n 2, 1) := by decide +kernel
theorem d_Md_isMarked_13 : decode k_Md_isMarked 13 = .ok (.sipush 160, 3) := by decide +kernel
theorem d_Md_isMarked_16 : decode k_Md_isMarked 16 = .ok (.isub, 1) := by decide +kernel
theorem d_Md_isMarked_17 : decode k_Md_isMarked 17 = .ok (.invokestatic 284, 3) := by decide +kernel
theorem d_Md_isMarked_20 : decode k_Md_isMarked 20 = .ok (.ireturn, 1) := by decide +kernel
theorem gw1098 : (Jvm.Cond.fieldLink "SchemaDeskModel" (153 : Nat) "SchemaDeskModel" "marked0" "[J") ∈ GW := gw_t5 (List.mem_of_getElem? (i := 138) rfl) rfl
theorem gw1099 : (Jvm.Cond.fieldLink "SchemaDeskModel" (156 : Nat) "SchemaDeskModel" "marked1" "[J") ∈ GW := gw_t5 (List.mem_of_getElem? (i := 139) rfl) rfl
def wq_Md_isMarked (x1 : Int32) (x2 : Int32) (σ : Sg) (post : Int32 → Sg → Prop) : Prop := (vp_in x1 160 ∧ (vp_in x1 160 ∧ (wq_Md_bit (σ.2.1 84 x1.toNatClampNeg) (σ.2.1 85 x1.toNatClampNeg) (x2 - (160 : Int32)) σ (fun r1 σ1 => (narrow .boolean (.int r1) = .int r1 ∧ post r1 σ1)))))
set_option maxRecDepth 100000 in
set_option maxHeartbeats 4000000 in
theorem b_Md_isMarked_0 {p : Program} {l : Launch} {e : Env} {s : State} {m : MethodId} {args : Array Value} {below : List Frame} {meth : Method} {c : Code} {D : va_G} {g : Gm} {A : Nat → Prop} {post : Int32 → Sg → Prop} (C : kC p s m args meth c k_Md_isMarked 3 (some .boolean) GW R_Md D vwCl g (Zk g) A) (x1 : Int32) (x2 : Int32) (σ : Sg) (H : Heap) (locs : List Loc) (ls : Array Slot) (hl : lv_has ls 3 [(0, .ref (g.1 54)), (1, .int x1), (2, .int x2)]) (hst : Wst D vwCl (WS g) A s σ H locs) (h : wq_Md_isMarked x1 x2 σ post) : W p l e { frames := 1, cells := 0, slots := 0, locals := 24 } s m args below meth c H locs 0 0 (MQ below (QiW D vwCl (WS g) post A) args s 0 0 A) (F0 m 0 ls []) := by
  obtain ⟨hx, hb, hr, hml, hown, hts, hlocks, hK, hZ, hA⟩ := C
  unfold wq_Md_isMarked at h
  refine lv_aload_n hx hb d_Md_isMarked_0 rfl (lv_at hl 0 rfl) ?_
  refine va_get (D := D) (ci := 10) (C := R_Md) (T := T_Md) (N := 46) hx hb hts in_Md hown hK hst.1 54 (WS_o54 g σ) rfl 34 (by decide) (hts _ gw1098) (fun _ h9 => h9) rfl d_Md_isMarked_1 ?_
  refine lv_iload_n hx hb d_Md_isMarked_4 rfl (lv_at hl 1 rfl) ?_
  obtain ⟨hi, h⟩ := h
  refine va_lald hx hb hK hst.1 84 3 (WS_a84 g σ) rfl hi d_Md_isMarked_5 ?_
  refine lv_aload_n hx hb d_Md_isMarked_6 rfl (lv_at hl 0 rfl) ?_
  refine va_get (D := D) (ci := 10) (C := R_Md) (T := T_Md) (N := 46) hx hb hts in_Md hown hK hst.1 54 (WS_o54 g σ) rfl 35 (by decide) (hts _ gw1099) (fun _ h9 => h9) rfl d_Md_isMarked_7 ?_
  refine lv_iload_n hx hb d_Md_isMarked_10 rfl (lv_at hl 1 rfl) ?_
  obtain ⟨hi, h⟩ := h
  refine va_lald hx hb hK hst.1 85 3 (WS_a85 g σ) rfl hi d_Md_isMarked_11 ?_
  refine lv_iload_n hx hb d_Md_isMarked_12 rfl (lv_at hl 2 rfl) ?_
  refine lv_sipush (v := (160 : Int32)) hx hb d_Md_isMarked_13 (by decide) ?_
  refine lv_isub hx hb d_Md_isMarked_16 ?_
  refine kw_calli (va_runS (As := [.long (σ.2.1 84 x1.toNatClampNeg), .long (σ.2.1 85 x1.toNatClampNeg), .int (x2 - (160 : Int32))]) (rest := []) ⟨hx, hb, hml, hown, hts⟩ (c_Md_bit l (σ.2.1 84 x1.toNatClampNeg) (σ.2.1 85 x1.toNatClampNeg) (x2 - (160 : Int32)) h) (cwS 3 hts (gd_s gw1373 gw1374 gw15 gw1375) rfl rfl rfl (by decide +kernel) ⟨Nat.le_of_ble_eq_true rfl, Nat.le_of_ble_eq_true rfl⟩) ⟨kw_blind (Zk_ok g), kw_pre (Zk_ok g) hK hZ hA hst⟩ rfl rfl hl.1 rfl (lv_room (Nat.le_of_ble_eq_true rfl)) d_Md_isMarked_17 ⟨Nat.le_of_ble_eq_true rfl, Nat.le_of_ble_eq_true rfl⟩) hst hA (fun r1 σ1 H locs h hst => ?_)
  exact kw_zret hx hb hr hlocks hst h d_Md_isMarked_20
set_option maxRecDepth 100000 in
set_option maxHeartbeats 4000000 in
theorem c_Md_isMarked (l : Launch) {D : va_G} {g : Gm} {sz : Nat} (x1 : Int32) (x2 : Int32) {σ : Sg} {post : Int32 → Sg → Prop} (h : wq_Md_isMarked x1 x2 σ post) : Met l y_Md_isMarked (.code y_Md_isMarked k_Md_isMarked 3 (some .boolean) :: GW) { frames := 1, cells := 0, slots := 0, locals := 24 } (PcW D vwCl (WS g) g (Zk g) σ sz [.ref (g.1 54), .int x1, .int x2]) (QiW D vwCl (WS g) post (va_A (WS g σ) sz)) 0 0 (va_A (WS g σ) sz) := by
  refine kw_entry (own := R_Md) (by decide) rfl rfl (Nat.le_of_ble_eq_true rfl) ?_
  intro p e s m below meth c ls hsz C hin hl hst
  exact b_Md_isMarked_0 C x1 x2 σ _ _ ls hl hst h
/-! SchemaDeskModel.mark (II)V -/
abbrev k_Md_mark : ByteArray := prog_12_method_41_code
abbrev y_Md_mark : MethodName := ⟨"SchemaDeskModel", "mark", "(II)V"⟩
theorem d_Md_mark_0 : decode k_Md_mark 0 = .ok (.aload_n 0, 1) := by decide +kernel
theorem d_Md_mark_1 : decode k_Md_mark 1 = .ok (.aload_n 0, 1) := by decide +kernel
theorem d_Md_mark_2 : decode k_Md_mark 2 = .ok (.getfield 153, 3) := by decide +kernel
theorem d_Md_mark_5 : decode k_Md_mark 5 = .ok (.iload_n 1, 1) := by decide +kernel
theorem d_Md_mark_6 : decode k_Md_mark 6 = .ok (.laload, 1) := by decide +kernel
theorem d_Md_mark_7 : decode k_Md_mark 7 = .ok (.putfield 277, 3) := by decide +kernel
theorem d_Md_mark_10 : decode k_Md_mark 10 = .ok (.aload_n 0, 1) := by decide +kernel
theorem d_Md_mark_11 : decode k_Md_mark 11 = .ok (.aload_n 0, 1) := by decide +kernel
theorem d_Md_mark_12 : decode k_Md_mark 12 = .ok (.getfield 156, 3) := by decide +kernel
theorem d_Md_mark_15 : decode k_Md_mark 15 = .ok (.iload_n 1, 1) := by decide +kernel
theorem d_Md_mark_16 : decode k_Md_mark 16 = .ok (.laload, 1) := by decide +kernel
theorem d_Md_mark_17 : decode k_Md_mark 17 = .ok (.putfield 281, 3) := by decide +kernel
theorem d_Md_mark_20 : decode k_Md_mark 20 = .ok (.aload_n 0, 1) := by decide +kernel
theorem d_Md_mark_21 : decode k_Md_mark 21 = .ok (.iload_n 2, 1) := by decide +kernel
theorem d_Md_mark_22 : decode k_Md_mark 22 = .ok (.sipush 160, 3) := by decide +kernel
theorem d_Md_mark_25 : decode k_Md_mark 25 = .ok (.isub, 1) := by decide +kernel
theorem d_Md_mark_26 : decode k_Md_mark 26 = .ok (.invokevirtual 288, 3) := by decide +kernel
theorem d_Md_mark_29 : decode k_Md_mark 29 = .ok (.aload_n 0, 1) := by decide +kernel
theorem d_Md_mark_30 : decode k_Md_mark 30 = .ok (.getfield 153, 3) := by decide +kernel
theorem d_Md_mark_33 : decode k_Md_mark 33 = .ok (.iload_n 1, 1) := by decide +kernel
theorem d_Md_mark_34 : decode k_Md_mark 34 = .ok (.aload_n 0, 1) := by decide +kernel
theorem d_Md_mark_35 : decode k_Md_mark 35 = .ok (.getfield 277, 3) := by decide +kernel
theorem d_Md_mark_38 : decode k_Md_mark 38 = .ok (.lastore, 1) := by decide +kernel
theorem d_Md_mark_39 : decode k_Md_mark 39 = .ok (.aload_n 0, 1) := by decide +kernel
theorem d_Md_mark_40 : decode k_Md_mark 40 = .ok (.getfield 156, 3) := by decide +kernel
theorem d_Md_mark_43 : decode k_Md_mark 43 = .ok (.iload_n 1, 1) := by decide +kernel
theorem d_Md_mark_44 : decode k_Md_mark 44 = .ok (.aload_n 0, 1) := by decide +kernel
theorem d_Md_mark_45 : decode k_Md_mark 45 = .ok (.getfield 281, 3) := by decide +kernel
theorem d_Md_mark_48 : decode k_Md_mark 48 = .ok (.lastore, 1) := by decide +kernel
theorem d_Md_mark_49 : decode k_Md_mark 49 = .ok (.return_, 1) := by decide +kernel
theorem gw1376 : (Jvm.Cond.methodLink "SchemaDeskModel" (288 : Nat) ({ cls := "SchemaDeskModel", name := "add", desc := "(I)V" } : Jvm.MethodName)) ∈ GW := gw_t6 (List.mem_of_getElem? (i := 176) rfl) rfl
theorem gw1378 : (Jvm.Cond.instanceMethod ({ cls := "SchemaDeskModel", name := "add", desc := "(I)V" } : Jvm.MethodName)) ∈ GW := gw_t6 (List.mem_of_getElem? (i := 178) rfl) rfl
theorem gs71 : Cond.selects "SchemaDeskModel" ⟨"SchemaDeskModel", "add", "(I)V"⟩ ⟨"SchemaDeskModel", "add", "(I)V"⟩ ∈ GW := gw_p5 (q := (⟨"SchemaDeskModel", "add", "(I)V"⟩, 46)) (List.mem_of_getElem? (i := 7) rfl)
theorem gw1379 : (Jvm.Cond.code ({ cls := "SchemaDeskModel", name := "add", desc := "(I)V" } : Jvm.MethodName) prog_12_method_37_code (2 : Nat) (Option.none : Option Jvm.ClassFile.FieldType)) ∈ GW := gw_t6 (List.mem_of_getElem? (i := 179) rfl) rfl
def wq_Md_mark (x1 : Int32) (x2 : Int32) (σ : Sg) (post : Sg → Prop) : Prop := (vp_in x1 160 ∧ (∀ σ1, σ1 = sl σ 54 38 (σ.2.1 84 x1.toNatClampNeg) → (vp_in x1 160 ∧ (∀ σ2, σ2 = sl σ1 54 39 (σ1.2.1 85 x1.toNatClampNeg) → (wq_Md_add (x2 - (160 : Int32)) σ2 (fun σ3 => (vp_in x1 160 ∧ (∀ σ4, σ4 = sl σ3 84 x1.toNatClampNeg (σ3.2.1 54 38) → (vp_in x1 160 ∧ (∀ σ5, σ5 = sl σ4 85 x1.toNatClampNeg (σ4.2.1 54 39) → post σ5))))))))))
set_option maxRecDepth 100000 in
set_option maxHeartbeats 4000000 in
theorem b_Md_mark_0 {p : Program} {l : Launch} {e : Env} {s : State} {m : MethodId} {args : Array Value} {below : List Frame} {meth : Method} {c : Code} {D : va_G} {g : Gm} {A : Nat → Prop} {post : Sg → Prop} (C : kC p s m args meth c k_Md_mark 3 (none) GW R_Md D vwCl g (Zk g) A) (x1 : Int32) (x2 : Int32) (σ : Sg) (H : Heap) (locs : List Loc) (ls : Array Slot) (hl : lv_has ls 3 [(0, .ref (g.1 54)), (1, .int x1), (2, .int x2)]) (hst : Wst D vwCl (WS g) A s σ H locs) (h : wq_Md_mark x1 x2 σ post) : W p l e { frames := 1, cells := 0, slots := 0, locals := 21 } s m args below meth c H locs 0 0 (MQ below (QvW D vwCl (WS g) post A) args s 0 0 A) (F0 m 0 ls []) := by
  obtain ⟨hx, hb, hr, hml, hown, hts, hlocks, hK, hZ, hA⟩ := C
  unfold wq_Md_mark at h
  refine lv_aload_n hx hb d_Md_mark_0 rfl (lv_at hl 0 rfl) ?_
  refine lv_aload_n hx hb d_Md_mark_1 rfl (lv_at hl 0 rfl) ?_
  refine va_get (D := D) (ci := 10) (C := R_Md) (T := T_Md) (N := 46) hx hb hts in_Md hown hK hst.1 54 (WS_o54 g σ) rfl 34 (by decide) (hts _ gw1098) (fun _ h9 => h9) rfl d_Md_mark_2 ?_
  refine lv_iload_n hx hb d_Md_mark_5 rfl (lv_at hl 1 rfl) ?_
  obtain ⟨hi, h⟩ := h
  refine va_lald hx hb hK hst.1 84 3 (WS_a84 g σ) rfl hi d_Md_mark_6 ?_
  refine kw_putl (D := D) (ci := 10) (ty := .long) (C := R_Md) (T := T_Md) (N := 46) hx hb hts in_Md ty_Md ty_Md_ok nm_Md hown hK hst 54 (WS_o54 g σ) rfl 38 (by decide) (hts _ gw1102) (fun _ h9 => h9) rfl (by decide +kernel) rfl rfl (Nat.le_of_ble_eq_true rfl) (WS_p54_38 g σ _) d_Md_mark_7 (fun σ1 H locs e1 hst => ?_)
  replace h := h σ1 e1
  refine lv_aload_n hx hb d_Md_mark_10 rfl (lv_at hl 0 rfl) ?_
  refine lv_aload_n hx hb d_Md_mark_11 rfl (lv_at hl 0 rfl) ?_
  refine va_get (D := D) (ci := 10) (C := R_Md) (T := T_Md) (N := 46) hx hb hts in_Md hown hK hst.1 54 (WS_o54 g σ1) rfl 35 (by decide) (hts _ gw1099) (fun _ h9 => h9) rfl d_Md_mark_12 ?_
  refine lv_iload_n hx hb d_Md_mark_15 rfl (lv_at hl 1 rfl) ?_
  obtain ⟨hi, h⟩ := h
  refine va_lald hx hb hK hst.1 85 3 (WS_a85 g σ1) rfl hi d_Md_mark_16 ?_
  refine kw_putl (D := D) (ci := 10) (ty := .long) (C := R_Md) (T := T_Md) (N := 46) hx hb hts in_Md ty_Md ty_Md_ok nm_Md hown hK hst 54 (WS_o54 g σ1) rfl 39 (by decide) (hts _ gw1103) (fun _ h9 => h9) rfl (by decide +kernel) rfl rfl (Nat.le_of_ble_eq_true rfl) (WS_p54_39 g σ1 _) d_Md_mark_17 (fun σ2 H locs e2 hst => ?_)
  replace h := h σ2 e2
  refine lv_aload_n hx hb d_Md_mark_20 rfl (lv_at hl 0 rfl) ?_
  refine lv_iload_n hx hb d_Md_mark_21 rfl (lv_at hl 2 rfl) ?_
  refine lv_sipush (v := (160 : Int32)) hx hb d_Md_mark_22 (by decide) ?_
  refine lv_isub hx hb d_Md_mark_25 ?_
  refine kw_callv (va_runV (As := [.int (x2 - (160 : Int32))]) (rest := []) (b := g.1 54) ⟨hx, hb, hml, hown, hts⟩ (c_Md_add l (x2 - (160 : Int32)) h) (cwV 1 hts (gd_v gw1376 gw1378 gs71 gw15 gw1379) rfl rfl rfl (by decide +kernel) ⟨Nat.le_of_ble_eq_true rfl, Nat.le_of_ble_eq_true rfl⟩) ⟨kw_blind (Zk_ok g), va_recv hK hst.1 rfl (WS_o54 g σ2), kw_pre (Zk_ok g) hK hZ hA hst⟩ rfl rfl hl.1 rfl (lv_room (Nat.le_of_ble_eq_true rfl)) d_Md_mark_26 ⟨Nat.le_of_ble_eq_true rfl, Nat.le_of_ble_eq_true rfl⟩) hst hA (fun σ3 H locs h hst => ?_)
  refine lv_aload_n hx hb d_Md_mark_29 rfl (lv_at hl 0 rfl) ?_
  refine va_get (D := D) (ci := 10) (C := R_Md) (T := T_Md) (N := 46) hx hb hts in_Md hown hK hst.1 54 (WS_o54 g σ3) rfl 34 (by decide) (hts _ gw1098) (fun _ h9 => h9) rfl d_Md_mark_30 ?_
  refine lv_iload_n hx hb d_Md_mark_33 rfl (lv_at hl 1 rfl) ?_
  refine lv_aload_n hx hb d_Md_mark_34 rfl (lv_at hl 0 rfl) ?_
  refine va_get (D := D) (ci := 10) (C := R_Md) (T := T_Md) (N := 46) hx hb hts in_Md hown hK hst.1 54 (WS_o54 g σ3) rfl 38 (by decide) (hts _ gw1102) (fun _ h9 => h9) rfl d_Md_mark_35 ?_
  obtain ⟨hi, h⟩ := h
  refine kw_last hx hb hK hst 84 (WS_a84 g σ3) hi (WS_s84 g σ3 _ _) d_Md_mark_38 (fun σ4 H locs e4 hst => ?_)
  replace h := h σ4 e4
  refine lv_aload_n hx hb d_Md_mark_39 rfl (lv_at hl 0 rfl) ?_
  refine va_get (D := D) (ci := 10) (C := R_Md) (T := T_Md) (N := 46) hx hb hts in_Md hown hK hst.1 54 (WS_o54 g σ4) rfl 35 (by decide) (hts _ gw1099) (fun _ h9 => h9) rfl d_Md_mark_40 ?_
  refine lv_iload_n hx hb d_Md_mark_43 rfl (lv_at hl 1 rfl) ?_
  refine lv_aload_n hx hb d_Md_mark_44 rfl (lv_at hl 0 rfl) ?_
  refine va_get (D := D) (ci := 10) (C := R_Md) (T := T_Md) (N := 46) hx hb hts in_Md hown hK hst.1 54 (WS_o54 g σ4) rfl 39 (by decide) (hts _ gw1103) (fun _ h9 => h9) rfl d_Md_mark_45 ?_
  obtain ⟨hi, h⟩ := h
  refine kw_last hx hb hK hst 85 (WS_a85 g σ4) hi (WS_s85 g σ4 _ _) d_Md_mark_48 (fun σ5 H locs e5 hst => ?_)
  replace h := h σ5 e5
  exact kw_vret hx hb hr hlocks hst h d_Md_mark_49
set_option maxRecDepth 100000 in
set_option maxHeartbeats 4000000 in
theorem c_Md_mark (l : Launch) {D : va_G} {g : Gm} {sz : Nat} (x1 : Int32) (x2 : Int32) {σ : Sg} {post : Sg → Prop} (h : wq_Md_mark x1 x2 σ post) : Met l y_Md_mark (.code y_Md_mark k_Md_mark 3 (none) :: GW) { frames := 1, cells := 0, slots := 0, locals := 21 } (PcW D vwCl (WS g) g (Zk g) σ sz [.ref (g.1 54), .int x1, .int x2]) (QvW D vwCl (WS g) post (va_A (WS g σ) sz)) 0 0 (va_A (WS g σ) sz) := by
  refine kw_entry (own := R_Md) (by decide) rfl rfl (Nat.le_of_ble_eq_true rfl) ?_
  intro p e s m below meth c ls hsz C hin hl hst
  exact b_Md_mark_0 C x1 x2 σ _ _ ls hl hst h
/-! SchemaDeskModel.wordOf (I)I -/
abbrev k_Md_wordOf : ByteArray := prog_12_method_42_code
abbrev y_Md_wordOf : MethodName := ⟨"SchemaDeskModel", "wordOf", "(I)I"⟩
theorem d_Md_wordOf_0 : decode k_Md_wordOf 0 = .ok (.aload_n 0, 1) := by decide +kernel
theorem d_Md_wordOf_1 : decode k_Md_wordOf 1 = .ok (.aload_n 0, 1) := by decide +kernel
theorem d_Md_wordOf_2 : decode k_Md_wordOf 2 = .ok (.getfield 101, 3) := by decide +kernel
theorem d_Md_wordOf_5 : decode k_Md_wordOf 5 = .ok (.iload_n 1, 1) := by decide +kernel
theorem d_Md_wordOf_6 : decode k_Md_wordOf 6 = .ok (.iaload, 1) := by decide +kernel
theorem d_Md_wordOf_7 : decode k_Md_wordOf 7 = .ok (.iconst 1, 1) := by decide +kernel
theorem d_Md_wordOf_8 : decode k_Md_wordOf 8 = .ok (.iadd, 1) := by decide +kernel
theorem d_Md_wordOf_9 : decode k_Md_wordOf 9 = .ok (.aload_n 0, 1) := by decide +kernel
theorem d_Md_wordOf_10 : decode k_Md_wordOf 10 = .ok (.getfield 104, 3) := by decide +kernel
theorem d_Md_wordOf_13 : decode k_Md_wordOf 13 = .ok (.iload_n 1, 1) := by decide +kernel
theorem d_Md_wordOf_14 : decode k_Md_wordOf 14 = .ok (.iaload, 1) := by decide +kernel
theorem d_Md_wordOf_15 : decode k_Md_wordOf 15 = .ok (.invokevirtual 231, 3) := by decide +kernel
theorem d_Md_wordOf_18 : decode k_Md_wordOf 18 = .ok (.lstore_n 2, 1) := by decide +kernel
theorem d_Md_wordOf_19 : decode k_Md_wordOf 19 = .ok (.iconst 1, 1) := by decide +kernel
theorem d_Md_wordOf_20 : decode k_Md_wordOf 20 = .ok (.istore 4, 2) := by decide +kernel
theorem d_Md_wordOf_22 : decode k_Md_wordOf 22 = .ok (.iload 4, 2) := by decide +kernel
theorem d_Md_wordOf_24 : decode k_Md_wordOf 24 = .ok (.bipush 21, 2) := by decide +kernel
theorem d_Md_wordOf_26 : decode k_Md_wordOf 26 = .ok (.if_icmp .gt 26, 3) := by decide +kernel
theorem d_Md_wordOf_29 : decode k_Md_wordOf 29 = .ok (.aload_n 0, 1) := by decide +kernel
theorem d_Md_wordOf_30 : decode k_Md_wordOf 30 = .ok (.getfield 61, 3) := by decide +kernel
theorem d_Md_wordOf_33 : decode k_Md_wordOf 33 = .ok (.iload 4, 2) := by decide +kernel
theorem d_Md_wordOf_35 : decode k_Md_wordOf 35 = .ok (.iconst 1, 1) := by decide +kernel
theorem d_Md_wordOf_36 : decode k_Md_wordOf 36 = .ok (.isub, 1) := by decide +kernel
theorem d_Md_wordOf_37 : decode k_Md_wordOf 37 = .ok (.laload, 1) := by decide +kernel
theorem d_Md_wordOf_38 : decode k_Md_wordOf 38 = .ok (.lload_n 2, 1) := by decide +kernel
theorem d_Md_wordOf_39 : decode k_Md_wordOf 39 = .ok (.lcmp, 1) := by decide +kernel
theorem d_Md_wordOf_40 : decode k_Md_wordOf 40 = .ok (.ifCond .ne 6, 3) := by decide +kernel
theorem d_Md_wordOf_43 : decode k_Md_wordOf 43 = .ok (.iload 4, 2) := by decide +kernel
theorem d_Md_wordOf_45 : decode k_Md_wordOf 45 = .ok (.ireturn, 1) := by decide +kernel
theorem d_Md_wordOf_46 : decode k_Md_wordOf 46 = .ok (.iinc 4 1, 3) := by decide +kernel
theorem d_Md_wordOf_49 : decode k_Md_wordOf 49 = .ok (.goto (-27), 3) := by decide +kernel
theorem d_Md_wordOf_52 : decode k_Md_wordOf 52 = .ok (.iconst 0, 1) := by decide +kernel
theorem d_Md_wordOf_53 : decode k_Md_wordOf 53 = .ok (.ireturn, 1) := by decide +kernel
theorem gw1294 : (Jvm.Cond.methodLink "SchemaDeskModel" (231 : Nat) ({ cls := "SchemaDeskModel", name := "packed", desc := "(II)J" } : Jvm.MethodName)) ∈ GW := gw_t6 (List.mem_of_getElem? (i := 94) rfl) rfl
theorem gw1296 : (Jvm.Cond.instanceMethod ({ cls := "SchemaDeskModel", name := "packed", desc := "(II)J" } : Jvm.MethodName)) ∈ GW := gw_t6 (List.mem_of_getElem? (i := 96) rfl) rfl
theorem gs56 : Cond.selects "SchemaDeskModel" ⟨"SchemaDeskModel", "packed", "(II)J"⟩ ⟨"SchemaDeskModel", "packed", "(II)J"⟩ ∈ GW := gw_p4 (q := (⟨"SchemaDeskModel", "packed", "(II)J"⟩, 46)) (List.mem_of_getElem? (i := 8) rfl)
theorem gw1297 : (Jvm.Cond.code ({ cls := "SchemaDeskModel", name := "packed", desc := "(II)J" } : Jvm.MethodName) prog_12_method_26_code (7 : Nat) (Option.some Jvm.ClassFile.FieldType.long)) ∈ GW := gw_t6 (List.mem_of_getElem? (i := 97) rfl) rfl
def wb_Md_wordOf_0 (F : Nat → Int32 → Int32 → Int64 → Sg → Prop) (post : Int32 → Sg → Prop) (x1 : Int32) (σ : Sg) : Prop := (vp_in x1 240 ∧ (vp_in x1 240 ∧ (wq_Md_packed ((σ.1 67 x1.toNatClampNeg) + (1 : Int32)) (σ.1 68 x1.toNatClampNeg) σ (fun r1 σ1 => F 1 0 (1 : Int32) r1 σ1))))
def wb_Md_wordOf_1 (F : Nat → Int32 → Int32 → Int64 → Sg → Prop) (post : Int32 → Sg → Prop) (y2 : Int64) (x4 : Int32) (σ : Sg) : Prop := (((21 : Int32) < x4 → post (0 : Int32) σ) ∧ (¬ (21 : Int32) < x4 → (vp_in (x4 - (1 : Int32)) 27 ∧ ((¬ (lg_cmp (σ.2.1 55 ((x4 - (1 : Int32)) : Int32).toNatClampNeg) y2) = 0 → F 1 0 (x4 + 1) y2 σ) ∧ ((lg_cmp (σ.2.1 55 ((x4 - (1 : Int32)) : Int32).toNatClampNeg) y2) = 0 → post x4 σ)))))
def wp_Md_wordOf (post : Int32 → Sg → Prop) : Nat → Nat → Int32 → Int32 → Int64 → Sg → Prop
  | 0, _, _, _, _, _ => False
  | n + 1, k, x1, x4, y2, σ => match k with
    | 0 => wb_Md_wordOf_0 (wp_Md_wordOf post n) post x1 σ
    | 1 => wb_Md_wordOf_1 (wp_Md_wordOf post n) post y2 x4 σ
    | _ => False
def wq_Md_wordOf (x1 : Int32) (σ : Sg) (post : Int32 → Sg → Prop) : Prop := ∃ n, wp_Md_wordOf post n 0 x1 0 0 σ
def J_Md_wordOf_1 (p : Program) (l : Launch) (e : Env) (s : State) (m : MethodId) (args : Array Value) (below : List Frame) (meth : Method) (c : Code) (D : va_G) (g : Gm) (A : Nat → Prop) (post : Int32 → Sg → Prop) (F : Nat → Int32 → Int32 → Int64 → Sg → Prop) : Prop := ∀ (y2 : Int64) (x4 : Int32) (σ : Sg) (H : Heap) (locs : List Loc) (ls : Array Slot), lv_has ls 5 [(0, .ref (g.1 54)), (2, .long y2), (4, .int x4)] → Wst D vwCl (WS g) A s σ H locs → F 1 0 x4 y2 σ → W p l e { frames := 2, cells := 0, slots := 0, locals := 46 } s m args below meth c H locs 0 0 (MQ below (QiW D vwCl (WS g) post A) args s 0 0 A) (F0 m 22 ls [])
set_option maxRecDepth 100000 in
set_option maxHeartbeats 4000000 in
theorem b_Md_wordOf_0 {p : Program} {l : Launch} {e : Env} {s : State} {m : MethodId} {args : Array Value} {below : List Frame} {meth : Method} {c : Code} {D : va_G} {g : Gm} {A : Nat → Prop} {post : Int32 → Sg → Prop} {F : Nat → Int32 → Int32 → Int64 → Sg → Prop} (C : kC p s m args meth c k_Md_wordOf 5 (some .int) GW R_Md D vwCl g (Zk g) A) (j1 : J_Md_wordOf_1 p l e s m args below meth c D g A post F) (x1 : Int32) (σ : Sg) (H : Heap) (locs : List Loc) (ls : Array Slot) (hl : lv_has ls 5 [(0, .ref (g.1 54)), (1, .int x1)]) (hst : Wst D vwCl (WS g) A s σ H locs) (h : wb_Md_wordOf_0 F post x1 σ) : W p l e { frames := 2, cells := 0, slots := 0, locals := 46 } s m args below meth c H locs 0 0 (MQ below (QiW D vwCl (WS g) post A) args s 0 0 A) (F0 m 0 ls []) := by
  obtain ⟨hx, hb, hr, hml, hown, hts, hlocks, hK, hZ, hA⟩ := C
  unfold wb_Md_wordOf_0 at h
  refine lv_aload_n hx hb d_Md_wordOf_0 rfl (lv_at hl 0 rfl) ?_
  refine lv_aload_n hx hb d_Md_wordOf_1 rfl (lv_at hl 0 rfl) ?_
  refine va_get (D := D) (ci := 10) (C := R_Md) (T := T_Md) (N := 46) hx hb hts in_Md hown hK hst.1 54 (WS_o54 g σ) rfl 13 (by decide) (hts _ gw1077) (fun _ h9 => h9) rfl d_Md_wordOf_2 ?_
  refine lv_iload_n hx hb d_Md_wordOf_5 rfl (lv_at hl 1 rfl) ?_
  obtain ⟨hi, h⟩ := h
  refine va_iald hx hb hK hst.1 67 0 (WS_a67 g σ) rfl hi d_Md_wordOf_6 ?_
  refine lv_iconst (v := (1 : Int32)) hx hb d_Md_wordOf_7 (by decide) ?_
  refine lv_iadd hx hb d_Md_wordOf_8 ?_
  refine lv_aload_n hx hb d_Md_wordOf_9 rfl (lv_at hl 0 rfl) ?_
  refine va_get (D := D) (ci := 10) (C := R_Md) (T := T_Md) (N := 46) hx hb hts in_Md hown hK hst.1 54 (WS_o54 g σ) rfl 14 (by decide) (hts _ gw1078) (fun _ h9 => h9) rfl d_Md_wordOf_10 ?_
  refine lv_iload_n hx hb d_Md_wordOf_13 rfl (lv_at hl 1 rfl) ?_
  obtain ⟨hi, h⟩ := h
  refine va_iald hx hb hK hst.1 68 0 (WS_a68 g σ) rfl hi d_Md_wordOf_14 ?_
  refine kw_calll (va_runV (As := [.int ((σ.1 67 x1.toNatClampNeg) + (1 : Int32)), .int (σ.1 68 x1.toNatClampNeg)]) (rest := []) (b := g.1 54) ⟨hx, hb, hml, hown, hts⟩ (c_Md_packed l ((σ.1 67 x1.toNatClampNeg) + (1 : Int32)) (σ.1 68 x1.toNatClampNeg) h) (cwV 2 hts (gd_v gw1294 gw1296 gs56 gw15 gw1297) rfl rfl rfl (by decide +kernel) ⟨Nat.le_of_ble_eq_true rfl, Nat.le_of_ble_eq_true rfl⟩) ⟨kw_blind (Zk_ok g), va_recv hK hst.1 rfl (WS_o54 g σ), kw_pre (Zk_ok g) hK hZ hA hst⟩ rfl rfl hl.1 rfl (lv_room (Nat.le_of_ble_eq_true rfl)) d_Md_wordOf_15 ⟨Nat.le_of_ble_eq_true rfl, Nat.le_of_ble_eq_true rfl⟩) hst hA (fun r1 σ1 H locs h hst => ?_)
  refine lv_lstore_n hx hb d_Md_wordOf_18 rfl hl (by decide) rfl (fun ls hl => ?_)
  have hl : lv_has ls 5 [(2, .long r1), (0, .ref (g.1 54)), (1, .int x1)] := hl
  refine lv_iconst (v := (1 : Int32)) hx hb d_Md_wordOf_19 (by decide) ?_
  refine lv_istore hx hb d_Md_wordOf_20 hl (by decide) rfl (fun ls hl => ?_)
  have hl : lv_has ls 5 [(4, .int (1 : Int32)), (2, .long r1), (0, .ref (g.1 54)), (1, .int x1)] := hl
  exact j1 r1 (1 : Int32) σ1 _ _ _ (lv_sub hl [2, 1, 0] rfl) hst h
set_option maxRecDepth 100000 in
set_option maxHeartbeats 4000000 in
theorem b_Md_wordOf_1 {p : Program} {l : Launch} {e : Env} {s : State} {m : MethodId} {args : Array Value} {below : List Frame} {meth : Method} {c : Code} {D : va_G} {g : Gm} {A : Nat → Prop} {post : Int32 → Sg → Prop} {F : Nat → Int32 → Int32 → Int64 → Sg → Prop} (C : kC p s m args meth c k_Md_wordOf 5 (some .int) GW R_Md D vwCl g (Zk g) A) (j1 : J_Md_wordOf_1 p l e s m args below meth c D g A post F) (y2 : Int64) (x4 : Int32) (σ : Sg) (H : Heap) (locs : List Loc) (ls : Array Slot) (hl : lv_has ls 5 [(0, .ref (g.1 54)), (2, .long y2), (4, .int x4)]) (hst : Wst D vwCl (WS g) A s σ H locs) (h : wb_Md_wordOf_1 F post y2 x4 σ) : W p l e { frames := 2, cells := 0, slots := 0, locals := 46 } s m args below meth c H locs 0 0 (MQ below (QiW D vwCl (WS g) post A) args s 0 0 A) (F0 m 22 ls []) := by
  obtain ⟨hx, hb, hr, hml, hown, hts, hlocks, hK, hZ, hA⟩ := C
  unfold wb_Md_wordOf_1 at h
  refine lv_iload hx hb d_Md_wordOf_22 (lv_at hl 2 rfl) ?_
  refine lv_bipush (v := (21 : Int32)) hx hb d_Md_wordOf_24 (by decide) ?_
  refine lv_icmp_gt (tgt := 52) hx hb d_Md_wordOf_26 (by decide) (fun hc => ?_) (fun hc => ?_)
  · replace h := h.1 hc
    refine lv_iconst (v := (0 : Int32)) hx hb d_Md_wordOf_52 (by decide) ?_
    exact kw_iret hx hb hr hlocks hst h d_Md_wordOf_53
  · replace h := h.2 hc
    refine lv_aload_n hx hb d_Md_wordOf_29 rfl (lv_at hl 0 rfl) ?_
    refine va_get (D := D) (ci := 10) (C := R_Md) (T := T_Md) (N := 46) hx hb hts in_Md hown hK hst.1 54 (WS_o54 g σ) rfl 0 (by decide) (hts _ gw1064) (fun _ h9 => h9) rfl d_Md_wordOf_30 ?_
    refine lv_iload hx hb d_Md_wordOf_33 (lv_at hl 2 rfl) ?_
    refine lv_iconst (v := (1 : Int32)) hx hb d_Md_wordOf_35 (by decide) ?_
    refine lv_isub hx hb d_Md_wordOf_36 ?_
    obtain ⟨hi, h⟩ := h
    refine va_lald hx hb hK hst.1 55 3 (WS_a55 g σ) rfl hi d_Md_wordOf_37 ?_
    refine lv_lload_n hx hb d_Md_wordOf_38 rfl (lv_at hl 1 rfl) ?_
    refine W.lcmp hx hb d_Md_wordOf_39 ?_
    refine lv_if_ne (tgt := 46) hx hb d_Md_wordOf_40 (by decide) (fun hc => ?_) (fun hc => ?_)
    · replace h := h.1 hc
      refine lv_iinc (k := 2) (v := (x4 + 1)) hx hb d_Md_wordOf_46 hl rfl (kw_inc _ (by decide)) (by decide) rfl (fun ls hl => ?_)
      have hl : lv_has ls 5 [(4, .int (x4 + 1)), (0, .ref (g.1 54)), (2, .long y2)] := hl
      refine lv_goto (tgt := 22) hx hb d_Md_wordOf_49 (by decide) ?_
      exact j1 y2 (x4 + 1) σ _ _ _ (lv_sub hl [1, 2, 0] rfl) hst h
    · replace h := h.2 hc
      refine lv_iload hx hb d_Md_wordOf_43 (lv_at hl 2 rfl) ?_
      exact kw_iret hx hb hr hlocks hst h d_Md_wordOf_45
set_option maxRecDepth 100000 in
set_option maxHeartbeats 4000000 in
theorem a_Md_wordOf {p : Program} {l : Launch} {e : Env} {s : State} {m : MethodId} {args : Array Value} {below : List Frame} {meth : Method} {c : Code} {D : va_G} {g : Gm} {A : Nat → Prop} {post : Int32 → Sg → Prop} (C : kC p s m args meth c k_Md_wordOf 5 (some .int) GW R_Md D vwCl g (Zk g) A) : ∀ n : Nat, J_Md_wordOf_1 p l e s m args below meth c D g A post (wp_Md_wordOf post n) := by
  intro n
  induction n with
  | zero => exact fun _ _ _ _ _ _ _ _ h => h.elim
  | succ n ih => exact fun y2 x4 σ H locs ls hl hst h => b_Md_wordOf_1 (F := wp_Md_wordOf post n) C (ih) y2 x4 σ H locs ls hl hst h
set_option maxRecDepth 100000 in
set_option maxHeartbeats 4000000 in
theorem c_Md_wordOf (l : Launch) {D : va_G} {g : Gm} {sz : Nat} (x1 : Int32) {σ : Sg} {post : Int32 → Sg → Prop} (h : wq_Md_wordOf x1 σ post) : Met l y_Md_wordOf (.code y_Md_wordOf k_Md_wordOf 5 (some .int) :: GW) { frames := 2, cells := 0, slots := 0, locals := 46 } (PcW D vwCl (WS g) g (Zk g) σ sz [.ref (g.1 54), .int x1]) (QiW D vwCl (WS g) post (va_A (WS g σ) sz)) 0 0 (va_A (WS g σ) sz) := by
  refine kw_entry (own := R_Md) (by decide) rfl rfl (Nat.le_of_ble_eq_true rfl) ?_
  intro p e s m below meth c ls hsz C hin hl hst
  obtain ⟨n, h⟩ := h
  cases n with
  | zero => exact h.elim
  | succ n =>
    have ih := a_Md_wordOf (l := l) (e := e) (below := below) (post := post) C n
    exact b_Md_wordOf_0 (F := wp_Md_wordOf post n) C (ih) x1 σ _ _ ls hl hst h
/-! SchemaDeskModel.targetOf (I)I -/
abbrev k_Md_targetOf : ByteArray := prog_12_method_43_code
abbrev y_Md_targetOf : MethodName := ⟨"SchemaDeskModel", "targetOf", "(I)I"⟩
theorem d_Md_targetOf_0 : decode k_Md_targetOf 0 = .ok (.aload_n 0, 1) := by decide +kernel
theorem d_Md_targetOf_1 : decode k_Md_targetOf 1 = .ok (.getfield 80, 3) := by decide +kernel
theorem d_Md_targetOf_4 : decode k_Md_targetOf 4 = .ok (.iload_n 1, 1) := by decide +kernel
theorem d_Md_targetOf_5 : decode k_Md_targetOf 5 = .ok (.iaload, 1) := by decide +kernel
theorem d_Md_targetOf_6 : decode k_Md_targetOf 6 = .ok (.iconst 1, 1) := by decide +kernel
theorem d_Md_targetOf_7 : decode k_Md_targetOf 7 = .ok (.iadd, 1) := by decide +kernel
theorem d_Md_targetOf_8 : decode k_Md_targetOf 8 = .ok (.istore_n 2, 1) := by decide +kernel
theorem d_Md_targetOf_9 : decode k_Md_targetOf 9 = .ok (.aload_n 0, 1) := by decide +kernel
theorem d_Md_targetOf_10 : decode k_Md_targetOf 10 = .ok (.getfield 77, 3) := by decide +kernel
theorem d_Md_targetOf_13 : decode k_Md_targetOf 13 = .ok (.iload_n 1, 1) := by decide +kernel
theorem d_Md_targetOf_14 : decode k_Md_targetOf 14 = .ok (.iaload, 1) := by decide +kernel
theorem d_Md_targetOf_15 : decode k_Md_targetOf 15 = .ok (.iconst 4, 1) := by decide +kernel
theorem d_Md_targetOf_16 : decode k_Md_targetOf 16 = .ok (.if_icmp .ne 24, 3) := by decide +kernel
theorem d_Md_targetOf_19 : decode k_Md_targetOf 19 = .ok (.aload_n 0, 1) := by decide +kernel
theorem d_Md_targetOf_20 : decode k_Md_targetOf 20 = .ok (.getfield 86, 3) := by decide +kernel
theorem d_Md_targetOf_23 : decode k_Md_targetOf 23 = .ok (.iload_n 1, 1) := by decide +kernel
theorem d_Md_targetOf_24 : decode k_Md_targetOf 24 = .ok (.iaload, 1) := by decide +kernel
theorem d_Md_targetOf_25 : decode k_Md_targetOf 25 = .ok (.iload_n 2, 1) := by decide +kernel
theorem d_Md_targetOf_26 : decode k_Md_targetOf 26 = .ok (.if_icmp .eq 14, 3) := by decide +kernel
theorem d_Md_targetOf_29 : decode k_Md_targetOf 29 = .ok (.aload_n 0, 1) := by decide +kernel
theorem d_Md_targetOf_30 : decode k_Md_targetOf 30 = .ok (.getfield 67, 3) := by decide +kernel
theorem d_Md_targetOf_33 : decode k_Md_targetOf 33 = .ok (.iload_n 2, 1) := by decide +kernel
theorem d_Md_targetOf_34 : decode k_Md_targetOf 34 = .ok (.iaload, 1) := by decide +kernel
theorem d_Md_targetOf_35 : decode k_Md_targetOf 35 = .ok (.bipush 35, 2) := by decide +kernel
theorem d_Md_targetOf_37 : decode k_Md_targetOf 37 = .ok (.if_icmp .eq 5, 3) := by decide +kernel
theorem d_Md_targetOf_40 : decode k_Md_targetOf 40 = .ok (.iconst (-1), 1) := by decide +kernel
theorem d_Md_targetOf_41 : decode k_Md_targetOf 41 = .ok (.ireturn, 1) := by decide +kernel
theorem d_Md_targetOf_42 : decode k_Md_targetOf 42 = .ok (.aload_n 0, 1) := by decide +kernel
theorem d_Md_targetOf_43 : decode k_Md_targetOf 43 = .ok (.getfield 86, 3) := by decide +kernel
theorem d_Md_targetOf_46 : decode k_Md_targetOf 46 = .ok (.iload_n 1, 1) := by decide +kernel
theorem d_Md_targetOf_47 : decode k_Md_targetOf 47 = .ok (.iaload, 1) := by decide +kernel
theorem d_Md_targetOf_48 : decode k_Md_targetOf 48 = .ok (.iload_n 2, 1) := by decide +kernel
theorem d_Md_targetOf_49 : decode k_Md_targetOf 49 = .ok (.iconst 1, 1) := by decide +kernel
theorem d_Md_targetOf_50 : decode k_Md_targetOf 50 = .ok (.iadd, 1) := by decide +kernel
theorem d_Md_targetOf_51 : decode k_Md_targetOf 51 = .ok (.if_icmp .ne 5, 3) := by decide +kernel
theorem d_Md_targetOf_54 : decode k_Md_targetOf 54 = .ok (.iconst 0, 1) := by decide +kernel
theorem d_Md_targetOf_55 : decode k_Md_targetOf 55 = .ok (.ireturn, 1) := by decide +kernel
theorem d_Md_targetOf_56 : decode k_Md_targetOf 56 = .ok (.aload_n 0, 1) := by decide +kernel
theorem d_Md_targetOf_57 : decode k_Md_targetOf 57 = .ok (.getfield 129, 3) := by decide +kernel
theorem d_Md_targetOf_60 : decode k_Md_targetOf 60 = .ok (.bipush 21, 2) := by decide +kernel
theorem d_Md_targetOf_62 : decode k_Md_targetOf 62 = .ok (.iaload, 1) := by decide +kernel
theorem d_Md_targetOf_63 : decode k_Md_targetOf 63 = .ok (.istore_n 3, 1) := by decide +kernel
theorem d_Md_targetOf_64 : decode k_Md_targetOf 64 = .ok (.iload_n 3, 1) := by decide +kernel
theorem d_Md_targetOf_65 : decode k_Md_targetOf 65 = .ok (.ifCond .lt 14, 3) := by decide +kernel
theorem d_Md_targetOf_68 : decode k_Md_targetOf 68 = .ok (.aload_n 0, 1) := by decide +kernel
theorem d_Md_targetOf_69 : decode k_Md_targetOf 69 = .ok (.getfield 77, 3) := by decide +kernel
theorem d_Md_targetOf_72 : decode k_Md_targetOf 72 = .ok (.iload_n 3, 1) := by decide +kernel
theorem d_Md_targetOf_73 : decode k_Md_targetOf 73 = .ok (.iaload, 1) := by decide +kernel
theorem d_Md_targetOf_74 : decode k_Md_targetOf 74 = .ok (.bipush 6, 2) := by decide +kernel
theorem d_Md_targetOf_76 : decode k_Md_targetOf 76 = .ok (.if_icmp .eq 7, 3) := by decide +kernel
theorem d_Md_targetOf_79 : decode k_Md_targetOf 79 = .ok (.iconst (-1), 1) := by decide +kernel
theorem d_Md_targetOf_80 : decode k_Md_targetOf 80 = .ok (.goto 17, 3) := by decide +kernel
theorem d_Md_targetOf_83 : decode k_Md_targetOf 83 = .ok (.aload_n 0, 1) := by decide +kernel
theorem d_Md_targetOf_84 : decode k_Md_targetOf 84 = .ok (.iload_n 3, 1) := by decide +kernel
theorem d_Md_targetOf_85 : decode k_Md_targetOf 85 = .ok (.iload_n 2, 1) := by decide +kernel
theorem d_Md_targetOf_86 : decode k_Md_targetOf 86 = .ok (.iconst 1, 1) := by decide +kernel
theorem d_Md_targetOf_87 : decode k_Md_targetOf 87 = .ok (.iadd, 1) := by decide +kernel
theorem d_Md_targetOf_88 : decode k_Md_targetOf 88 = .ok (.aload_n 0, 1) := by decide +kernel
theorem d_Md_targetOf_89 : decode k_Md_targetOf 89 = .ok (.getfield 86, 3) := by decide +kernel
theorem d_Md_targetOf_92 : decode k_Md_targetOf 92 = .ok (.iload_n 1, 1) := by decide +kernel
theorem d_Md_targetOf_93 : decode k_Md_targetOf 93 = .ok (.iaload, 1) := by decide +kernel
theorem d_Md_targetOf_94 : decode k_Md_targetOf 94 = .ok (.invokevirtual 249, 3) := by decide +kernel
theorem d_Md_targetOf_97 : decode k_Md_targetOf 97 = .ok (.ireturn, 1) := by decide +kernel
theorem gw1089 : (Jvm.Cond.fieldLink "SchemaDeskModel" (129 : Nat) "SchemaDeskModel" "rule" "[I") ∈ GW := gw_t5 (List.mem_of_getElem? (i := 129) rfl) rfl
theorem gw1313 : (Jvm.Cond.methodLink "SchemaDeskModel" (249 : Nat) ({ cls := "SchemaDeskModel", name := "childNamed", desc := "(III)I" } : Jvm.MethodName)) ∈ GW := gw_t6 (List.mem_of_getElem? (i := 113) rfl) rfl
theorem gw1315 : (Jvm.Cond.instanceMethod ({ cls := "SchemaDeskModel", name := "childNamed", desc := "(III)I" } : Jvm.MethodName)) ∈ GW := gw_t6 (List.mem_of_getElem? (i := 115) rfl) rfl
theorem gs60 : Cond.selects "SchemaDeskModel" ⟨"SchemaDeskModel", "childNamed", "(III)I"⟩ ⟨"SchemaDeskModel", "childNamed", "(III)I"⟩ ∈ GW := gw_p4 (q := (⟨"SchemaDeskModel", "childNamed", "(III)I"⟩, 46)) (List.mem_of_getElem? (i := 12) rfl)
theorem gw1316 : (Jvm.Cond.code ({ cls := "SchemaDeskModel", name := "childNamed", desc := "(III)I" } : Jvm.MethodName) prog_12_method_28_code (6 : Nat) (Option.some Jvm.ClassFile.FieldType.int)) ∈ GW := gw_t6 (List.mem_of_getElem? (i := 116) rfl) rfl
def wq_Md_targetOf (x1 : Int32) (σ : Sg) (post : Int32 → Sg → Prop) : Prop := (vp_in x1 240 ∧ (vp_in x1 240 ∧ ((¬ (σ.1 59 x1.toNatClampNeg) = (4 : Int32) → post (-1 : Int32) σ) ∧ ((σ.1 59 x1.toNatClampNeg) = (4 : Int32) → (vp_in x1 240 ∧ (((σ.1 62 x1.toNatClampNeg) = ((σ.1 60 x1.toNatClampNeg) + (1 : Int32)) → post (-1 : Int32) σ) ∧ (¬ (σ.1 62 x1.toNatClampNeg) = ((σ.1 60 x1.toNatClampNeg) + (1 : Int32)) → (vp_in ((σ.1 60 x1.toNatClampNeg) + (1 : Int32)) 240 ∧ (((σ.1 56 (((σ.1 60 x1.toNatClampNeg) + (1 : Int32)) : Int32).toNatClampNeg) = (35 : Int32) → (vp_in x1 240 ∧ ((¬ (σ.1 62 x1.toNatClampNeg) = (((σ.1 60 x1.toNatClampNeg) + (1 : Int32)) + (1 : Int32)) → (vp_in (21 : Int32) 3520 ∧ (((σ.1 76 ((21 : Int32) : Int32).toNatClampNeg) < 0 → post (-1 : Int32) σ) ∧ (¬ (σ.1 76 ((21 : Int32) : Int32).toNatClampNeg) < 0 → (vp_in (σ.1 76 ((21 : Int32) : Int32).toNatClampNeg) 240 ∧ (((σ.1 59 ((σ.1 76 ((21 : Int32) : Int32).toNatClampNeg) : Int32).toNatClampNeg) = (6 : Int32) → (vp_in x1 240 ∧ (wq_Md_childNamed (σ.1 76 ((21 : Int32) : Int32).toNatClampNeg) (((σ.1 60 x1.toNatClampNeg) + (1 : Int32)) + (1 : Int32)) (σ.1 62 x1.toNatClampNeg) σ (fun r1 σ1 => post r1 σ1)))) ∧ (¬ (σ.1 59 ((σ.1 76 ((21 : Int32) : Int32).toNatClampNeg) : Int32).toNatClampNeg) = (6 : Int32) → post (-1 : Int32) σ))))))) ∧ ((σ.1 62 x1.toNatClampNeg) = (((σ.1 60 x1.toNatClampNeg) + (1 : Int32)) + (1 : Int32)) → post (0 : Int32) σ)))) ∧ (¬ (σ.1 56 (((σ.1 60 x1.toNatClampNeg) + (1 : Int32)) : Int32).toNatClampNeg) = (35 : Int32) → post (-1 : Int32) σ))))))))))
set_option maxRecDepth 100000 in
set_option maxHeartbeats 4000000 in
theorem b_Md_targetOf_0 {p : Program} {l : Launch} {e : Env} {s : State} {m : MethodId} {args : Array Value} {below : List Frame} {meth : Method} {c : Code} {D : va_G} {g : Gm} {A : Nat → Prop} {post : Int32 → Sg → Prop} (C : kC p s m args meth c k_Md_targetOf 4 (some .int) GW R_Md D vwCl g (Zk g) A) (x1 : Int32) (σ : Sg) (H : Heap) (locs : List Loc) (ls : Array Slot) (hl : lv_has ls 4 [(0, .ref (g.1 54)), (1, .int x1)]) (hst : Wst D vwCl (WS g) A s σ H locs) (h : wq_Md_targetOf x1 σ post) : W p l e { frames := 2, cells := 0, slots := 0, locals := 51 } s m args below meth c H locs 0 0 (MQ below (QiW D vwCl (WS g) post A) args s 0 0 A) (F0 m 0 ls []) := by
  obtain ⟨hx, hb, hr, hml, hown, hts, hlocks, hK, hZ, hA⟩ := C
  unfold wq_Md_targetOf at h
  refine lv_aload_n hx hb d_Md_targetOf_0 rfl (lv_at hl 0 rfl) ?_
  refine va_get (D := D) (ci := 10) (C := R_Md) (T := T_Md) (N := 46) hx hb hts in_Md hown hK hst.1 54 (WS_o54 g σ) rfl 6 (by decide) (hts _ gw1070) (fun _ h9 => h9) rfl d_Md_targetOf_1 ?_
  refine lv_iload_n hx hb d_Md_targetOf_4 rfl (lv_at hl 1 rfl) ?_
  obtain ⟨hi, h⟩ := h
  refine va_iald hx hb hK hst.1 60 0 (WS_a60 g σ) rfl hi d_Md_targetOf_5 ?_
  refine lv_iconst (v := (1 : Int32)) hx hb d_Md_targetOf_6 (by decide) ?_
  refine lv_iadd hx hb d_Md_targetOf_7 ?_
  refine lv_istore_n hx hb d_Md_targetOf_8 rfl hl (by decide) rfl (fun ls hl => ?_)
  have hl : lv_has ls 4 [(2, .int ((σ.1 60 x1.toNatClampNeg) + (1 : Int32))), (0, .ref (g.1 54)), (1, .int x1)] := hl
  refine lv_aload_n hx hb d_Md_targetOf_9 rfl (lv_at hl 1 rfl) ?_
  refine va_get (D := D) (ci := 10) (C := R_Md) (T := T_Md) (N := 46) hx hb hts in_Md hown hK hst.1 54 (WS_o54 g σ) rfl 5 (by decide) (hts _ gw1069) (fun _ h9 => h9) rfl d_Md_targetOf_10 ?_
  refine lv_iload_n hx hb d_Md_targetOf_13 rfl (lv_at hl 2 rfl) ?_
  obtain ⟨hi, h⟩ := h
  refine va_iald hx hb hK hst.1 59 0 (WS_a59 g σ) rfl hi d_Md_targetOf_14 ?_
  refine lv_iconst (v := (4 : Int32)) hx hb d_Md_targetOf_15 (by decide) ?_
  refine lv_icmp_ne (tgt := 40) hx hb d_Md_targetOf_16 (by decide) (fun hc => ?_) (fun hc => ?_)
  · replace h := h.1 hc
    refine lv_iconst (v := (-1 : Int32)) hx hb d_Md_targetOf_40 (by decide) ?_
    exact kw_iret hx hb hr hlocks hst h d_Md_targetOf_41
  · replace h := h.2 hc
    refine lv_aload_n hx hb d_Md_targetOf_19 rfl (lv_at hl 1 rfl) ?_
    refine va_get (D := D) (ci := 10) (C := R_Md) (T := T_Md) (N := 46) hx hb hts in_Md hown hK hst.1 54 (WS_o54 g σ) rfl 8 (by decide) (hts _ gw1072) (fun _ h9 => h9) rfl d_Md_targetOf_20 ?_
    refine lv_iload_n hx hb d_Md_targetOf_23 rfl (lv_at hl 2 rfl) ?_
    obtain ⟨hi, h⟩ := h
    refine va_iald hx hb hK hst.1 62 0 (WS_a62 g σ) rfl hi d_Md_targetOf_24 ?_
    refine lv_iload_n hx hb d_Md_targetOf_25 rfl (lv_at hl 0 rfl) ?_
    refine lv_icmp_eq (tgt := 40) hx hb d_Md_targetOf_26 (by decide) (fun hc => ?_) (fun hc => ?_)
    · replace h := h.1 hc
      refine lv_iconst (v := (-1 : Int32)) hx hb d_Md_targetOf_40 (by decide) ?_
      exact kw_iret hx hb hr hlocks hst h d_Md_targetOf_41
    · replace h := h.2 hc
      refine lv_aload_n hx hb d_Md_targetOf_29 rfl (lv_at hl 1 rfl) ?_
      refine va_get (D := D) (ci := 10) (C := R_Md) (T := T_Md) (N := 46) hx hb hts in_Md hown hK hst.1 54 (WS_o54 g σ) rfl 2 (by decide) (hts _ gw1066) (fun _ h9 => h9) rfl d_Md_targetOf_30 ?_
      refine lv_iload_n hx hb d_Md_targetOf_33 rfl (lv_at hl 0 rfl) ?_
      obtain ⟨hi, h⟩ := h
      refine va_iald hx hb hK hst.1 56 0 (WS_a56 g σ) rfl hi d_Md_targetOf_34 ?_
      refine lv_bipush (v := (35 : Int32)) hx hb d_Md_targetOf_35 (by decide) ?_
      refine lv_icmp_eq (tgt := 42) hx hb d_Md_targetOf_37 (by decide) (fun hc => ?_) (fun hc => ?_)
      · replace h := h.1 hc
        refine lv_aload_n hx hb d_Md_targetOf_42 rfl (lv_at hl 1 rfl) ?_
        refine va_get (D := D) (ci := 10) (C := R_Md) (T := T_Md) (N := 46) hx hb hts in_Md hown hK hst.1 54 (WS_o54 g σ) rfl 8 (by decide) (hts _ gw1072) (fun _ h9 => h9) rfl d_Md_targetOf_43 ?_
        refine lv_iload_n hx hb d_Md_targetOf_46 rfl (lv_at hl 2 rfl) ?_
        obtain ⟨hi, h⟩ := h
        refine va_iald hx hb hK hst.1 62 0 (WS_a62 g σ) rfl hi d_Md_targetOf_47 ?_
        refine lv_iload_n hx hb d_Md_targetOf_48 rfl (lv_at hl 0 rfl) ?_
        refine lv_iconst (v := (1 : Int32)) hx hb d_Md_targetOf_49 (by decide) ?_
        refine lv_iadd hx hb d_Md_targetOf_50 ?_
        refine lv_icmp_ne (tgt := 56) hx hb d_Md_targetOf_51 (by decide) (fun hc => ?_) (fun hc => ?_)
        · replace h := h.1 hc
          refine lv_aload_n hx hb d_Md_targetOf_56 rfl (lv_at hl 1 rfl) ?_
          refine va_get (D := D) (ci := 10) (C := R_Md) (T := T_Md) (N := 46) hx hb hts in_Md hown hK hst.1 54 (WS_o54 g σ) rfl 25 (by decide) (hts _ gw1089) (fun _ h9 => h9) rfl d_Md_targetOf_57 ?_
          refine lv_bipush (v := (21 : Int32)) hx hb d_Md_targetOf_60 (by decide) ?_
          obtain ⟨hi, h⟩ := h
          refine va_iald hx hb hK hst.1 76 0 (WS_a76 g σ) rfl hi d_Md_targetOf_62 ?_
          refine lv_istore_n hx hb d_Md_targetOf_63 rfl hl (by decide) rfl (fun ls hl => ?_)
          have hl : lv_has ls 4 [(3, .int (σ.1 76 ((21 : Int32) : Int32).toNatClampNeg)), (2, .int ((σ.1 60 x1.toNatClampNeg) + (1 : Int32))), (0, .ref (g.1 54)), (1, .int x1)] := hl
          refine lv_iload_n hx hb d_Md_targetOf_64 rfl (lv_at hl 0 rfl) ?_
          refine lv_if_lt (tgt := 79) hx hb d_Md_targetOf_65 (by decide) (fun hc => ?_) (fun hc => ?_)
          · replace h := h.1 hc
            refine lv_iconst (v := (-1 : Int32)) hx hb d_Md_targetOf_79 (by decide) ?_
            refine lv_goto (tgt := 97) hx hb d_Md_targetOf_80 (by decide) ?_
            exact kw_iret hx hb hr hlocks hst h d_Md_targetOf_97
          · replace h := h.2 hc
            refine lv_aload_n hx hb d_Md_targetOf_68 rfl (lv_at hl 2 rfl) ?_
            refine va_get (D := D) (ci := 10) (C := R_Md) (T := T_Md) (N := 46) hx hb hts in_Md hown hK hst.1 54 (WS_o54 g σ) rfl 5 (by decide) (hts _ gw1069) (fun _ h9 => h9) rfl d_Md_targetOf_69 ?_
            refine lv_iload_n hx hb d_Md_targetOf_72 rfl (lv_at hl 0 rfl) ?_
            obtain ⟨hi, h⟩ := h
            refine va_iald hx hb hK hst.1 59 0 (WS_a59 g σ) rfl hi d_Md_targetOf_73 ?_
            refine lv_bipush (v := (6 : Int32)) hx hb d_Md_targetOf_74 (by decide) ?_
            refine lv_icmp_eq (tgt := 83) hx hb d_Md_targetOf_76 (by decide) (fun hc => ?_) (fun hc => ?_)
            · replace h := h.1 hc
              refine lv_aload_n hx hb d_Md_targetOf_83 rfl (lv_at hl 2 rfl) ?_
              refine lv_iload_n hx hb d_Md_targetOf_84 rfl (lv_at hl 0 rfl) ?_
              refine lv_iload_n hx hb d_Md_targetOf_85 rfl (lv_at hl 1 rfl) ?_
              refine lv_iconst (v := (1 : Int32)) hx hb d_Md_targetOf_86 (by decide) ?_
              refine lv_iadd hx hb d_Md_targetOf_87 ?_
              refine lv_aload_n hx hb d_Md_targetOf_88 rfl (lv_at hl 2 rfl) ?_
              refine va_get (D := D) (ci := 10) (C := R_Md) (T := T_Md) (N := 46) hx hb hts in_Md hown hK hst.1 54 (WS_o54 g σ) rfl 8 (by decide) (hts _ gw1072) (fun _ h9 => h9) rfl d_Md_targetOf_89 ?_
              refine lv_iload_n hx hb d_Md_targetOf_92 rfl (lv_at hl 3 rfl) ?_
              obtain ⟨hi, h⟩ := h
              refine va_iald hx hb hK hst.1 62 0 (WS_a62 g σ) rfl hi d_Md_targetOf_93 ?_
              refine kw_calli (va_runV (As := [.int (σ.1 76 ((21 : Int32) : Int32).toNatClampNeg), .int (((σ.1 60 x1.toNatClampNeg) + (1 : Int32)) + (1 : Int32)), .int (σ.1 62 x1.toNatClampNeg)]) (rest := []) (b := g.1 54) ⟨hx, hb, hml, hown, hts⟩ (c_Md_childNamed l (σ.1 76 ((21 : Int32) : Int32).toNatClampNeg) (((σ.1 60 x1.toNatClampNeg) + (1 : Int32)) + (1 : Int32)) (σ.1 62 x1.toNatClampNeg) h) (cwV 3 hts (gd_v gw1313 gw1315 gs60 gw15 gw1316) rfl rfl rfl (by decide +kernel) ⟨Nat.le_of_ble_eq_true rfl, Nat.le_of_ble_eq_true rfl⟩) ⟨kw_blind (Zk_ok g), va_recv hK hst.1 rfl (WS_o54 g σ), kw_pre (Zk_ok g) hK hZ hA hst⟩ rfl rfl hl.1 rfl (lv_room (Nat.le_of_ble_eq_true rfl)) d_Md_targetOf_94 ⟨Nat.le_of_ble_eq_true rfl, Nat.le_of_ble_eq_true rfl⟩) hst hA (fun r1 σ1 H locs h hst => ?_)
              exact kw_iret hx hb hr hlocks hst h d_Md_targetOf_97
            · replace h := h.2 hc
              refine lv_iconst (v := (-1 : Int32)) hx hb d_Md_targetOf_79 (by decide) ?_
              refine lv_goto (tgt := 97) hx hb d_Md_targetOf_80 (by decide) ?_
              exact kw_iret hx hb hr hlocks hst h d_Md_targetOf_97
        · replace h := h.2 hc
          refine lv_iconst (v := (0 : Int32)) hx hb d_Md_targetOf_54 (by decide) ?_
          exact kw_iret hx hb hr hlocks hst h d_Md_targetOf_55
      · replace h := h.2 hc
        refine lv_iconst (v := (-1 : Int32)) hx hb d_Md_targetOf_40 (by decide) ?_
        exact kw_iret hx hb hr hlocks hst h d_Md_targetOf_41
set_option maxRecDepth 100000 in
set_option maxHeartbeats 4000000 in
theorem c_Md_targetOf (l : Launch) {D : va_G} {g : Gm} {sz : Nat} (x1 : Int32) {σ : Sg} {post : Int32 → Sg → Prop} (h : wq_Md_targetOf x1 σ post) : Met l y_Md_targetOf (.code y_Md_targetOf k_Md_targetOf 4 (some .int) :: GW) { frames := 2, cells := 0, slots := 0, locals := 51 } (PcW D vwCl (WS g) g (Zk g) σ sz [.ref (g.1 54), .int x1]) (QiW D vwCl (WS g) post (va_A (WS g σ) sz)) 0 0 (va_A (WS g σ) sz) := by
  refine kw_entry (own := R_Md) (by decide) rfl rfl (Nat.le_of_ble_eq_true rfl) ?_
  intro p e s m below meth c ls hsz C hin hl hst
  exact b_Md_targetOf_0 C x1 σ _ _ ls hl hst h
/-! SchemaDeskModel.needsNothing (I)Z -/
abbrev k_Md_needsNothing : ByteArray := prog_12_method_45_code
abbrev y_Md_needsNothing : MethodName := ⟨"SchemaDeskModel", "needsNothing", "(I)Z"⟩
theorem d_Md_needsNothing_0 : decode k_Md_needsNothing 0 = .ok (.iconst 1, 1) := by decide +kernel
theorem d_Md_needsNothing_1 : decode k_Md_needsNothing 1 = .ok (.istore_n 2, 1) := by decide +kernel
theorem d_Md_needsNothing_2 : decode k_Md_needsNothing 2 = .ok (.bipush 15, 2) := by decide +kernel
theorem d_Md_needsNothing_4 : decode k_Md_needsNothing 4 = .ok (.istore_n 3, 1) := by decide +kernel
theorem d_Md_needsNothing_5 : decode k_Md_needsNothing 5 = .ok (.iload_n 3, 1) := by decide +kernel
theorem d_Md_needsNothing_6 : decode k_Md_needsNothing 6 = .ok (.bipush 17, 2) := by decide +kernel
theorem d_Md_needsNothing_8 : decode k_Md_needsNothing 8 = .ok (.if_icmp .gt 84, 3) := by decide +kernel
theorem d_Md_needsNothing_11 : decode k_Md_needsNothing 11 = .ok (.aload_n 0, 1) := by decide +kernel
theorem d_Md_needsNothing_12 : decode k_Md_needsNothing 12 = .ok (.getfield 129, 3) := by decide +kernel
theorem d_Md_needsNothing_15 : decode k_Md_needsNothing 15 = .ok (.bipush 22, 2) := by decide +kernel
theorem d_Md_needsNothing_17 : decode k_Md_needsNothing 17 = .ok (.iload_n 1, 1) := by decide +kernel
theorem d_Md_needsNothing_18 : decode k_Md_needsNothing 18 = .ok (.imul, 1) := by decide +kernel
theorem d_Md_needsNothing_19 : decode k_Md_needsNothing 19 = .ok (.iload_n 3, 1) := by decide +kernel
theorem d_Md_needsNothing_20 : decode k_Md_needsNothing 20 = .ok (.iadd, 1) := by decide +kernel
theorem d_Md_needsNothing_21 : decode k_Md_needsNothing 21 = .ok (.iaload, 1) := by decide +kernel
theorem d_Md_needsNothing_22 : decode k_Md_needsNothing 22 = .ok (.istore 4, 2) := by decide +kernel
theorem d_Md_needsNothing_24 : decode k_Md_needsNothing 24 = .ok (.iload 4, 2) := by decide +kernel
theorem d_Md_needsNothing_26 : decode k_Md_needsNothing 26 = .ok (.ifCond .lt 60, 3) := by decide +kernel
theorem d_Md_needsNothing_29 : decode k_Md_needsNothing 29 = .ok (.aload_n 0, 1) := by decide +kernel
theorem d_Md_needsNothing_30 : decode k_Md_needsNothing 30 = .ok (.getfield 77, 3) := by decide +kernel
theorem d_Md_needsNothing_33 : decode k_Md_needsNothing 33 = .ok (.iload 4, 2) := by decide +kernel
theorem d_Md_needsNothing_35 : decode k_Md_needsNothing 35 = .ok (.iaload, 1) := by decide +kernel
theorem d_Md_needsNothing_36 : decode k_Md_needsNothing 36 = .ok (.iconst 5, 1) := by decide +kernel
theorem d_Md_needsNothing_37 : decode k_Md_needsNothing 37 = .ok (.if_icmp .ne 49, 3) := by decide +kernel
theorem d_Md_needsNothing_40 : decode k_Md_needsNothing 40 = .ok (.aload_n 0, 1) := by decide +kernel
theorem d_Md_needsNothing_41 : decode k_Md_needsNothing 41 = .ok (.getfield 95, 3) := by decide +kernel
theorem d_Md_needsNothing_44 : decode k_Md_needsNothing 44 = .ok (.iload 4, 2) := by decide +kernel
theorem d_Md_needsNothing_46 : decode k_Md_needsNothing 46 = .ok (.iaload, 1) := by decide +kernel
theorem d_Md_needsNothing_47 : decode k_Md_needsNothing 47 = .ok (.istore 5, 2) := by decide +kernel
theorem d_Md_needsNothing_49 : decode k_Md_needsNothing 49 = .ok (.iload 5, 2) := by decide +kernel
theorem d_Md_needsNothing_51 : decode k_Md_needsNothing 51 = .ok (.ifCond .lt 35, 3) := by decide +kernel
theorem d_Md_needsNothing_54 : decode k_Md_needsNothing 54 = .ok (.iload_n 2, 1) := by decide +kernel
theorem d_Md_needsNothing_55 : decode k_Md_needsNothing 55 = .ok (.ifCond .eq 17, 3) := by decide +kernel
theorem d_Md_needsNothing_58 : decode k_Md_needsNothing 58 = .ok (.aload_n 0, 1) := by decide +kernel
theorem d_Md_needsNothing_59 : decode k_Md_needsNothing 59 = .ok (.getfield 138, 3) := by decide +kernel
theorem d_Md_needsNothing_62 : decode k_Md_needsNothing 62 = .ok (.iload 5, 2) := by decide +kernel
theorem d_Md_needsNothing_64 : decode k_Md_needsNothing 64 = .ok (.baload, 1) := by decide +kernel
theorem d_Md_needsNothing_65 : decode k_Md_needsNothing 65 = .ok (.ifCond .eq 7, 3) := by decide +kernel
theorem d_Md_needsNothing_68 : decode k_Md_needsNothing 68 = .ok (.iconst 1, 1) := by decide +kernel
theorem d_Md_needsNothing_69 : decode k_Md_needsNothing 69 = .ok (.goto 4, 3) := by decide +kernel
theorem d_Md_needsNothing_72 : decode k_Md_needsNothing 72 = .ok (.iconst 0, 1) := by decide +kernel
theorem d_Md_needsNothing_73 : decode k_Md_needsNothing 73 = .ok (.istore_n 2, 1) := by decide +kernel
theorem d_Md_needsNothing_74 : decode k_Md_needsNothing 74 = .ok (.aload_n 0, 1) := by decide +kernel
theorem d_Md_needsNothing_75 : decode k_Md_needsNothing 75 = .ok (.getfield 98, 3) := by decide +kernel
theorem d_Md_needsNothing_78 : decode k_Md_needsNothing 78 = .ok (.iload 5, 2) := by decide +kernel
theorem d_Md_needsNothing_80 : decode k_Md_needsNothing 80 = .ok (.iaload, 1) := by decide +kernel
theorem d_Md_needsNothing_81 : decode k_Md_needsNothing 81 = .ok (.istore 5, 2) := by decide +kernel
theorem d_Md_needsNothing_83 : decode k_Md_needsNothing 83 = .ok (.goto (-34), 3) := by decide +kernel
theorem d_Md_needsNothing_86 : decode k_Md_needsNothing 86 = .ok (.iinc 3 1, 3) := by decide +kernel
theorem d_Md_needsNothing_89 : decode k_Md_needsNothing 89 = .ok (.goto (-84), 3) := by decide +kernel
theorem d_Md_needsNothing_92 : decode k_Md_needsNothing 92 = .ok (.aload_n 0, 1) := by decide +kernel
theorem d_Md_needsNothing_93 : decode k_Md_needsNothing 93 = .ok (.getfield 129, 3) := by decide +kernel
theorem d_Md_needsNothing_96 : decode k_Md_needsNothing 96 = .ok (.bipush 22, 2) := by decide +kernel
theorem d_Md_needsNothing_98 : decode k_Md_needsNothing 98 = .ok (.iload_n 1, 1) := by decide +kernel
theorem d_Md_needsNothing_99 : decode k_Md_needsNothing 99 = .ok (.imul, 1) := by decide +kernel
theorem d_Md_needsNothing_100 : decode k_Md_needsNothing 100 = .ok (.bipush 18, 2) := by decide +kernel
theorem d_Md_needsNothing_102 : decode k_Md_needsNothing 102 = .ok (.iadd, 1) := by decide +kernel
theorem d_Md_needsNothing_103 : decode k_Md_needsNothing 103 = .ok (.iaload, 1) := by decide +kernel
theorem d_Md_needsNothing_104 : decode k_Md_needsNothing 104 = .ok (.istore_n 3, 1) := by decide +kernel
theorem d_Md_needsNothing_105 : decode k_Md_needsNothing 105 = .ok (.aload_n 0, 1) := by decide +kernel
theorem d_Md_needsNothing_106 : decode k_Md_needsNothing 106 = .ok (.getfield 129, 3) := by decide +kernel
theorem d_Md_needsNothing_109 : decode k_Md_needsNothing 109 = .ok (.bipush 22, 2) := by decide +kernel
theorem d_Md_needsNothing_111 : decode k_Md_needsNothing 111 = .ok (.iload_n 1, 1) := by decide +kernel
theorem d_Md_needsNothing_112 : decode k_Md_needsNothing 112 = .ok (.imul, 1) := by decide +kernel
theorem d_Md_needsNothing_113 : decode k_Md_needsNothing 113 = .ok (.bipush 19, 2) := by decide +kernel
theorem d_Md_needsNothing_115 : decode k_Md_needsNothing 115 = .ok (.iadd, 1) := by decide +kernel
theorem d_Md_needsNothing_116 : decode k_Md_needsNothing 116 = .ok (.iaload, 1) := by decide +kernel
theorem d_Md_needsNothing_117 : decode k_Md_needsNothing 117 = .ok (.ifCond .ge 7, 3) := by decide +kernel
theorem d_Md_needsNothing_120 : decode k_Md_needsNothing 120 = .ok (.iconst (-1), 1) := by decide +kernel
theorem d_Md_needsNothing_121 : decode k_Md_needsNothing 121 = .ok (.goto 20, 3) := by decide +kernel
theorem d_Md_needsNothing_124 : decode k_Md_needsNothing 124 = .ok (.aload_n 0, 1) := by decide +kernel
theorem d_Md_needsNothing_125 : decode k_Md_needsNothing 125 = .ok (.getfield 132, 3) := by decide +kernel
theorem d_Md_needsNothing_128 : decode k_Md_needsNothing 128 = .ok (.aload_n 0, 1) := by decide +kernel
theorem d_Md_needsNothing_129 : decode k_Md_needsNothing 129 = .ok (.getfield 129, 3) := by decide +kernel
theorem d_Md_needsNothing_132 : decode k_Md_needsNothing 132 = .ok (.bipush 22, 2) := by decide +kernel
theorem d_Md_needsNothing_134 : decode k_Md_needsNothing 134 = .ok (.iload_n 1, 1) := by decide +kernel
theorem d_Md_needsNothing_135 : decode k_Md_needsNothing 135 = .ok (.imul, 1) := by decide +kernel
theorem d_Md_needsNothing_136 : decode k_Md_needsNothing 136 = .ok (.bipush 19, 2) := by decide +kernel
theorem d_Md_needsNothing_138 : decode k_Md_needsNothing 138 = .ok (.iadd, 1) := by decide +kernel
theorem d_Md_needsNothing_139 : decode k_Md_needsNothing 139 = .ok (.iaload, 1) := by decide +kernel
theorem d_Md_needsNothing_140 : decode k_Md_needsNothing 140 = .ok (.iaload, 1) := by decide +kernel
theorem d_Md_needsNothing_141 : decode k_Md_needsNothing 141 = .ok (.istore 4, 2) := by decide +kernel
theorem d_Md_needsNothing_143 : decode k_Md_needsNothing 143 = .ok (.iload_n 2, 1) := by decide +kernel
theorem d_Md_needsNothing_144 : decode k_Md_needsNothing 144 = .ok (.ifCond .eq 35, 3) := by decide +kernel
theorem d_Md_needsNothing_147 : decode k_Md_needsNothing 147 = .ok (.iload_n 3, 1) := by decide +kernel
theorem d_Md_needsNothing_148 : decode k_Md_needsNothing 148 = .ok (.ifCond .lt 12, 3) := by decide +kernel
theorem d_Md_needsNothing_151 : decode k_Md_needsNothing 151 = .ok (.aload_n 0, 1) := by decide +kernel
theorem d_Md_needsNothing_152 : decode k_Md_needsNothing 152 = .ok (.getfield 138, 3) := by decide +kernel
theorem d_Md_needsNothing_155 : decode k_Md_needsNothing 155 = .ok (.iload_n 3, 1) := by decide +kernel
theorem d_Md_needsNothing_156 : decode k_Md_needsNothing 156 = .ok (.baload, 1) := by decide +kernel
theorem d_Md_needsNothing_157 : decode k_Md_needsNothing 157 = .ok (.ifCond .eq 22, 3) := by decide +kernel
theorem d_Md_needsNothing_160 : decode k_Md_needsNothing 160 = .ok (.iload 4, 2) := by decide +kernel
theorem d_Md_needsNothing_162 : decode k_Md_needsNothing 162 = .ok (.ifCond .lt 13, 3) := by decide +kernel
theorem d_Md_needsNothing_165 : decode k_Md_needsNothing 165 = .ok (.aload_n 0, 1) := by decide +kernel
theorem d_Md_needsNothing_166 : decode k_Md_needsNothing 166 = .ok (.getfield 138, 3) := by decide +kernel
theorem d_Md_needsNothing_169 : decode k_Md_needsNothing 169 = .ok (.iload 4, 2) := by decide +kernel
theorem d_Md_needsNothing_171 : decode k_Md_needsNothing 171 = .ok (.baload, 1) := by decide +kernel
theorem d_Md_needsNothing_172 : decode k_Md_needsNothing 172 = .ok (.ifCond .eq 7, 3) := by decide +kernel
theorem d_Md_needsNothing_175 : decode k_Md_needsNothing 175 = .ok (.iconst 1, 1) := by decide +kernel
theorem d_Md_needsNothing_176 : decode k_Md_needsNothing 176 = .ok (.goto 4, 3) := by decide +kernel
theorem d_Md_needsNothing_179 : decode k_Md_needsNothing 179 = .ok (.iconst 0, 1) := by decide +kernel
theorem d_Md_needsNothing_180 : decode k_Md_needsNothing 180 = .ok (.ireturn, 1) := by decide +kernel
theorem gw1090 : (Jvm.Cond.fieldLink "SchemaDeskModel" (132 : Nat) "SchemaDeskModel" "target" "[I") ∈ GW := gw_t5 (List.mem_of_getElem? (i := 130) rfl) rfl
theorem gw1093 : (Jvm.Cond.fieldLink "SchemaDeskModel" (138 : Nat) "SchemaDeskModel" "ready" "[Z") ∈ GW := gw_t5 (List.mem_of_getElem? (i := 133) rfl) rfl
def wb_Md_needsNothing_0 (F : Nat → Int32 → Int32 → Int32 → Int32 → Int32 → Sg → Prop) (post : Int32 → Sg → Prop) (x1 : Int32) (σ : Sg) : Prop := F 1 x1 (1 : Int32) (15 : Int32) 0 0 σ
def wb_Md_needsNothing_1 (F : Nat → Int32 → Int32 → Int32 → Int32 → Int32 → Sg → Prop) (post : Int32 → Sg → Prop) (x1 : Int32) (x2 : Int32) (x3 : Int32) (σ : Sg) : Prop := (((17 : Int32) < x3 → (vp_in (((22 : Int32) * x1) + (18 : Int32)) 3520 ∧ (vp_in (((22 : Int32) * x1) + (19 : Int32)) 3520 ∧ ((0 ≤ (σ.1 76 ((((22 : Int32) * x1) + (19 : Int32)) : Int32).toNatClampNeg) → (vp_in (((22 : Int32) * x1) + (19 : Int32)) 3520 ∧ (vp_in (σ.1 76 ((((22 : Int32) * x1) + (19 : Int32)) : Int32).toNatClampNeg) 160 ∧ F 2 0 x2 (σ.1 76 ((((22 : Int32) * x1) + (18 : Int32)) : Int32).toNatClampNeg) (σ.1 77 ((σ.1 76 ((((22 : Int32) * x1) + (19 : Int32)) : Int32).toNatClampNeg) : Int32).toNatClampNeg) 0 σ))) ∧ (¬ 0 ≤ (σ.1 76 ((((22 : Int32) * x1) + (19 : Int32)) : Int32).toNatClampNeg) → F 2 0 x2 (σ.1 76 ((((22 : Int32) * x1) + (18 : Int32)) : Int32).toNatClampNeg) (-1 : Int32) 0 σ))))) ∧ (¬ (17 : Int32) < x3 → (vp_in (((22 : Int32) * x1) + x3) 3520 ∧ (((σ.1 76 ((((22 : Int32) * x1) + x3) : Int32).toNatClampNeg) < 0 → F 1 x1 x2 (x3 + 1) 0 0 σ) ∧ (¬ (σ.1 76 ((((22 : Int32) * x1) + x3) : Int32).toNatClampNeg) < 0 → (vp_in (σ.1 76 ((((22 : Int32) * x1) + x3) : Int32).toNatClampNeg) 240 ∧ ((¬ (σ.1 59 ((σ.1 76 ((((22 : Int32) * x1) + x3) : Int32).toNatClampNeg) : Int32).toNatClampNeg) = (5 : Int32) → F 1 x1 x2 (x3 + 1) 0 0 σ) ∧ ((σ.1 59 ((σ.1 76 ((((22 : Int32) * x1) + x3) : Int32).toNatClampNeg) : Int32).toNatClampNeg) = (5 : Int32) → (vp_in (σ.1 76 ((((22 : Int32) * x1) + x3) : Int32).toNatClampNeg) 240 ∧ F 3 x1 x2 x3 0 (σ.1 65 ((σ.1 76 ((((22 : Int32) * x1) + x3) : Int32).toNatClampNeg) : Int32).toNatClampNeg) σ)))))))))
def wb_Md_needsNothing_2 (F : Nat → Int32 → Int32 → Int32 → Int32 → Int32 → Sg → Prop) (post : Int32 → Sg → Prop) (x2 : Int32) (x3 : Int32) (x4 : Int32) (σ : Sg) : Prop := ((x2 = 0 → (narrow .boolean (.int (0 : Int32)) = .int (0 : Int32) ∧ post (0 : Int32) σ)) ∧ (¬ x2 = 0 → ((x3 < 0 → F 4 0 0 0 x4 0 σ) ∧ (¬ x3 < 0 → (vp_in x3 160 ∧ (((σ.1 79 x3.toNatClampNeg) = 0 → (narrow .boolean (.int (0 : Int32)) = .int (0 : Int32) ∧ post (0 : Int32) σ)) ∧ (¬ (σ.1 79 x3.toNatClampNeg) = 0 → F 4 0 0 0 x4 0 σ)))))))
def wb_Md_needsNothing_3 (F : Nat → Int32 → Int32 → Int32 → Int32 → Int32 → Sg → Prop) (post : Int32 → Sg → Prop) (x1 : Int32) (x2 : Int32) (x3 : Int32) (x5 : Int32) (σ : Sg) : Prop := ((x5 < 0 → F 1 x1 x2 (x3 + 1) 0 0 σ) ∧ (¬ x5 < 0 → ((x2 = 0 → (vp_in x5 240 ∧ F 3 x1 (0 : Int32) x3 0 (σ.1 66 x5.toNatClampNeg) σ)) ∧ (¬ x2 = 0 → (vp_in x5 160 ∧ (((σ.1 79 x5.toNatClampNeg) = 0 → (vp_in x5 240 ∧ F 3 x1 (0 : Int32) x3 0 (σ.1 66 x5.toNatClampNeg) σ)) ∧ (¬ (σ.1 79 x5.toNatClampNeg) = 0 → (vp_in x5 240 ∧ F 3 x1 (1 : Int32) x3 0 (σ.1 66 x5.toNatClampNeg) σ))))))))
def wb_Md_needsNothing_4 (F : Nat → Int32 → Int32 → Int32 → Int32 → Int32 → Sg → Prop) (post : Int32 → Sg → Prop) (x4 : Int32) (σ : Sg) : Prop := ((x4 < 0 → (narrow .boolean (.int (1 : Int32)) = .int (1 : Int32) ∧ post (1 : Int32) σ)) ∧ (¬ x4 < 0 → (vp_in x4 160 ∧ (((σ.1 79 x4.toNatClampNeg) = 0 → (narrow .boolean (.int (0 : Int32)) = .int (0 : Int32) ∧ post (0 : Int32) σ)) ∧ (¬ (σ.1 79 x4.toNatClampNeg) = 0 → (narrow .boolean (.int (1 : Int32)) = .int (1 : Int32) ∧ post (1 : Int32) σ))))))
def wp_Md_needsNothing (post : Int32 → Sg → Prop) : Nat → Nat → Int32 → Int32 → Int32 → Int32 → Int32 → Sg → Prop
  | 0, _, _, _, _, _, _, _ => False
  | n + 1, k, x1, x2, x3, x4, x5, σ => match k with
    | 0 => wb_Md_needsNothing_0 (wp_Md_needsNothing post n) post x1 σ
    | 1 => wb_Md_needsNothing_1 (wp_Md_needsNothing post n) post x1 x2 x3 σ
    | 2 => wb_Md_needsNothing_2 (wp_Md_needsNothing post n) post x2 x3 x4 σ
    | 3 => wb_Md_needsNothing_3 (wp_Md_needsNothing post n) post x1 x2 x3 x5 σ
    | 4 => wb_Md_needsNothing_4 (wp_Md_needsNothing post n) post x4 σ
    | _ => False
def wq_Md_needsNothing (x1 : Int32) (σ : Sg) (post : Int32 → Sg → Prop) : Prop := ∃ n, wp_Md_needsNothing post n 0 x1 0 0 0 0 σ
def J_Md_needsNothing_1 (p : Program) (l : Launch) (e : Env) (s : State) (m : MethodId) (args : Array Value) (below : List Frame) (meth : Method) (c : Code) (D : va_G) (g : Gm) (A : Nat → Prop) (post : Int32 → Sg → Prop) (F : Nat → Int32 → Int32 → Int32 → Int32 → Int32 → Sg → Prop) : Prop := ∀ (x1 : Int32) (x2 : Int32) (x3 : Int32) (σ : Sg) (H : Heap) (locs : List Loc) (ls : Array Slot), lv_has ls 6 [(0, .ref (g.1 54)), (1, .int x1), (2, .int x2), (3, .int x3)] → Wst D vwCl (WS g) A s σ H locs → F 1 x1 x2 x3 0 0 σ → W p l e { frames := 0, cells := 0, slots := 0, locals := 0 } s m args below meth c H locs 0 0 (MQ below (QiW D vwCl (WS g) post A) args s 0 0 A) (F0 m 5 ls [])
def J_Md_needsNothing_2 (p : Program) (l : Launch) (e : Env) (s : State) (m : MethodId) (args : Array Value) (below : List Frame) (meth : Method) (c : Code) (D : va_G) (g : Gm) (A : Nat → Prop) (post : Int32 → Sg → Prop) (F : Nat → Int32 → Int32 → Int32 → Int32 → Int32 → Sg → Prop) : Prop := ∀ (x2 : Int32) (x3 : Int32) (x4 : Int32) (σ : Sg) (H : Heap) (locs : List Loc) (ls : Array Slot), lv_has ls 6 [(0, .ref (g.1 54)), (2, .int x2), (3, .int x3), (4, .int x4)] → Wst D vwCl (WS g) A s σ H locs → F 2 0 x2 x3 x4 0 σ → W p l e { frames := 0, cells := 0, slots := 0, locals := 0 } s m args below meth c H locs 0 0 (MQ below (QiW D vwCl (WS g) post A) args s 0 0 A) (F0 m 143 ls [])
def J_Md_needsNothing_3 (p : Program) (l : Launch) (e : Env) (s : State) (m : MethodId) (args : Array Value) (below : List Frame) (meth : Method) (c : Code) (D : va_G) (g : Gm) (A : Nat → Prop) (post : Int32 → Sg → Prop) (F : Nat → Int32 → Int32 → Int32 → Int32 → Int32 → Sg → Prop) : Prop := ∀ (x1 : Int32) (x2 : Int32) (x3 : Int32) (x5 : Int32) (σ : Sg) (H : Heap) (locs : List Loc) (ls : Array Slot), lv_has ls 6 [(0, .ref (g.1 54)), (1, .int x1), (2, .int x2), (3, .int x3), (5, .int x5)] → Wst D vwCl (WS g) A s σ H locs → F 3 x1 x2 x3 0 x5 σ → W p l e { frames := 0, cells := 0, slots := 0, locals := 0 } s m args below meth c H locs 0 0 (MQ below (QiW D vwCl (WS g) post A) args s 0 0 A) (F0 m 49 ls [])
def J_Md_needsNothing_4 (p : Program) (l : Launch) (e : Env) (s : State) (m : MethodId) (args : Array Value) (below : List Frame) (meth : Method) (c : Code) (D : va_G) (g : Gm) (A : Nat → Prop) (post : Int32 → Sg → Prop) (F : Nat → Int32 → Int32 → Int32 → Int32 → Int32 → Sg → Prop) : Prop := ∀ (x4 : Int32) (σ : Sg) (H : Heap) (locs : List Loc) (ls : Array Slot), lv_has ls 6 [(0, .ref (g.1 54)), (4, .int x4)] → Wst D vwCl (WS g) A s σ H locs → F 4 0 0 0 x4 0 σ → W p l e { frames := 0, cells := 0, slots := 0, locals := 0 } s m args below meth c H locs 0 0 (MQ below (QiW D vwCl (WS g) post A) args s 0 0 A) (F0 m 160 ls [])
set_option maxRecDepth 100000 in
set_option maxHeartbeats 4000000 in
theorem b_Md_needsNothing_0 {p : Program} {l : Launch} {e : Env} {s : State} {m : MethodId} {args : Array Value} {below : List Frame} {meth : Method} {c : Code} {D : va_G} {g : Gm} {A : Nat → Prop} {post : Int32 → Sg → Prop} {F : Nat → Int32 → Int32 → Int32 → Int32 → Int32 → Sg → Prop} (C : kC p s m args meth c k_Md_needsNothing 6 (some .boolean) GW R_Md D vwCl g (Zk g) A) (j1 : J_Md_needsNothing_1 p l e s m args below meth c D g A post F) (x1 : Int32) (σ : Sg) (H : Heap) (locs : List Loc) (ls : Array Slot) (hl : lv_has ls 6 [(0, .ref (g.1 54)), (1, .int x1)]) (hst : Wst D vwCl (WS g) A s σ H locs) (h : wb_Md_needsNothing_0 F post x1 σ) : W p l e { frames := 0, cells := 0, slots := 0, locals := 0 } s m args below meth c H locs 0 0 (MQ below (QiW D vwCl (WS g) post A) args s 0 0 A) (F0 m 0 ls []) := by
  obtain ⟨hx, hb, hr, hml, hown, hts, hlocks, hK, hZ, hA⟩ := C
  unfold wb_Md_needsNothing_0 at h
  refine lv_iconst (v := (1 : Int32)) hx hb d_Md_needsNothing_0 (by decide) ?_
  refine lv_istore_n hx hb d_Md_needsNothing_1 rfl hl (by decide) rfl (fun ls hl => ?_)
  have hl : lv_has ls 6 [(2, .int (1 : Int32)), (0, .ref (g.1 54)), (1, .int x1)] := hl
  refine lv_bipush (v := (15 : Int32)) hx hb d_Md_needsNothing_2 (by decide) ?_
  refine lv_istore_n hx hb d_Md_needsNothing_4 rfl hl (by decide) rfl (fun ls hl => ?_)
  have hl : lv_has ls 6 [(3, .int (15 : Int32)), (2, .int (1 : Int32)), (0, .ref (g.1 54)), (1, .int x1)] := hl
  exact j1 x1 (1 : Int32) (15 : Int32) σ _ _ _ (lv_sub hl [2, 3, 1, 0] rfl) hst h
set_option maxRecDepth 100000 in
set_option maxHeartbeats 4000000 in
theorem b_Md_needsNothing_1 {p : Program} {l : Launch} {e : Env} {s : State} {m : MethodId} {args : Array Value} {below : List Frame} {meth : Method} {c : Code} {D : va_G} {g : Gm} {A : Nat → Prop} {post : Int32 → Sg → Prop} {F : Nat → Int32 → Int32 → Int32 → Int32 → Int32 → Sg → Prop} (C : kC p s m args meth c k_Md_needsNothing 6 (some .boolean) GW R_Md D vwCl g (Zk g) A) (j1 : J_Md_needsNothing_1 p l e s m args below meth c D g A post F) (j2 : J_Md_needsNothing_2 p l e s m args below meth c D g A post F) (j3 : J_Md_needsNothing_3 p l e s m args below meth c D g A post F) (x1 : Int32) (x2 : Int32) (x3 : Int32) (σ : Sg) (H : Heap) (locs : List Loc) (ls : Array Slot) (hl : lv_has ls 6 [(0, .ref (g.1 54)), (1, .int x1), (2, .int x2), (3, .int x3)]) (hst : Wst D vwCl (WS g) A s σ H locs) (h : wb_Md_needsNothing_1 F post x1 x2 x3 σ) : W p l e { frames := 0, cells := 0, slots := 0, locals := 0 } s m args below meth c H locs 0 0 (MQ below (QiW D vwCl (WS g) post A) args s 0 0 A) (F0 m 5 ls []) := by
  obtain ⟨hx, hb, hr, hml, hown, hts, hlocks, hK, hZ, hA⟩ := C
  unfold wb_Md_needsNothing_1 at h
  refine lv_iload_n hx hb d_Md_needsNothing_5 rfl (lv_at hl 3 rfl) ?_
  refine lv_bipush (v := (17 : Int32)) hx hb d_Md_needsNothing_6 (by decide) ?_
  refine lv_icmp_gt (tgt := 92) hx hb d_Md_needsNothing_8 (by decide) (fun hc => ?_) (fun hc => ?_)
  · replace h := h.1 hc
    refine lv_aload_n hx hb d_Md_needsNothing_92 rfl (lv_at hl 0 rfl) ?_
    refine va_get (D := D) (ci := 10) (C := R_Md) (T := T_Md) (N := 46) hx hb hts in_Md hown hK hst.1 54 (WS_o54 g σ) rfl 25 (by decide) (hts _ gw1089) (fun _ h9 => h9) rfl d_Md_needsNothing_93 ?_
    refine lv_bipush (v := (22 : Int32)) hx hb d_Md_needsNothing_96 (by decide) ?_
    refine lv_iload_n hx hb d_Md_needsNothing_98 rfl (lv_at hl 1 rfl) ?_
    refine lv_imul hx hb d_Md_needsNothing_99 ?_
    refine lv_bipush (v := (18 : Int32)) hx hb d_Md_needsNothing_100 (by decide) ?_
    refine lv_iadd hx hb d_Md_needsNothing_102 ?_
    obtain ⟨hi, h⟩ := h
    refine va_iald hx hb hK hst.1 76 0 (WS_a76 g σ) rfl hi d_Md_needsNothing_103 ?_
    refine lv_istore_n hx hb d_Md_needsNothing_104 rfl hl (by decide) rfl (fun ls hl => ?_)
    have hl : lv_has ls 6 [(3, .int (σ.1 76 ((((22 : Int32) * x1) + (18 : Int32)) : Int32).toNatClampNeg)), (0, .ref (g.1 54)), (1, .int x1), (2, .int x2)] := hl
    refine lv_aload_n hx hb d_Md_needsNothing_105 rfl (lv_at hl 1 rfl) ?_
    refine va_get (D := D) (ci := 10) (C := R_Md) (T := T_Md) (N := 46) hx hb hts in_Md hown hK hst.1 54 (WS_o54 g σ) rfl 25 (by decide) (hts _ gw1089) (fun _ h9 => h9) rfl d_Md_needsNothing_106 ?_
    refine lv_bipush (v := (22 : Int32)) hx hb d_Md_needsNothing_109 (by decide) ?_
    refine lv_iload_n hx hb d_Md_needsNothing_111 rfl (lv_at hl 2 rfl) ?_
    refine lv_imul hx hb d_Md_needsNothing_112 ?_
    refine lv_bipush (v := (19 : Int32)) hx hb d_Md_needsNothing_113 (by decide) ?_
    refine lv_iadd hx hb d_Md_needsNothing_115 ?_
    obtain ⟨hi, h⟩ := h
    refine va_iald hx hb hK hst.1 76 0 (WS_a76 g σ) rfl hi d_Md_needsNothing_116 ?_
    refine lv_if_ge (tgt := 124) hx hb d_Md_needsNothing_117 (by decide) (fun hc => ?_) (fun hc => ?_)
    · replace h := h.1 hc
      refine lv_aload_n hx hb d_Md_needsNothing_124 rfl (lv_at hl 1 rfl) ?_
      refine va_get (D := D) (ci := 10) (C := R_Md) (T := T_Md) (N := 46) hx hb hts in_Md hown hK hst.1 54 (WS_o54 g σ) rfl 26 (by decide) (hts _ gw1090) (fun _ h9 => h9) rfl d_Md_needsNothing_125 ?_
      refine lv_aload_n hx hb d_Md_needsNothing_128 rfl (lv_at hl 1 rfl) ?_
      refine va_get (D := D) (ci := 10) (C := R_Md) (T := T_Md) (N := 46) hx hb hts in_Md hown hK hst.1 54 (WS_o54 g σ) rfl 25 (by decide) (hts _ gw1089) (fun _ h9 => h9) rfl d_Md_needsNothing_129 ?_
      refine lv_bipush (v := (22 : Int32)) hx hb d_Md_needsNothing_132 (by decide) ?_
      refine lv_iload_n hx hb d_Md_needsNothing_134 rfl (lv_at hl 2 rfl) ?_
      refine lv_imul hx hb d_Md_needsNothing_135 ?_
      refine lv_bipush (v := (19 : Int32)) hx hb d_Md_needsNothing_136 (by decide) ?_
      refine lv_iadd hx hb d_Md_needsNothing_138 ?_
      obtain ⟨hi, h⟩ := h
      refine va_iald hx hb hK hst.1 76 0 (WS_a76 g σ) rfl hi d_Md_needsNothing_139 ?_
      obtain ⟨hi, h⟩ := h
      refine va_iald hx hb hK hst.1 77 0 (WS_a77 g σ) rfl hi d_Md_needsNothing_140 ?_
      refine lv_istore hx hb d_Md_needsNothing_141 hl (by decide) rfl (fun ls hl => ?_)
      have hl : lv_has ls 6 [(4, .int (σ.1 77 ((σ.1 76 ((((22 : Int32) * x1) + (19 : Int32)) : Int32).toNatClampNeg) : Int32).toNatClampNeg)), (3, .int (σ.1 76 ((((22 : Int32) * x1) + (18 : Int32)) : Int32).toNatClampNeg)), (0, .ref (g.1 54)), (1, .int x1), (2, .int x2)] := hl
      exact j2 x2 (σ.1 76 ((((22 : Int32) * x1) + (18 : Int32)) : Int32).toNatClampNeg) (σ.1 77 ((σ.1 76 ((((22 : Int32) * x1) + (19 : Int32)) : Int32).toNatClampNeg) : Int32).toNatClampNeg) σ _ _ _ (lv_sub hl [2, 4, 1, 0] rfl) hst h
    · replace h := h.2 hc
      refine lv_iconst (v := (-1 : Int32)) hx hb d_Md_needsNothing_120 (by decide) ?_
      refine lv_goto (tgt := 141) hx hb d_Md_needsNothing_121 (by decide) ?_
      refine lv_istore hx hb d_Md_needsNothing_141 hl (by decide) rfl (fun ls hl => ?_)
      have hl : lv_has ls 6 [(4, .int (-1 : Int32)), (3, .int (σ.1 76 ((((22 : Int32) * x1) + (18 : Int32)) : Int32).toNatClampNeg)), (0, .ref (g.1 54)), (1, .int x1), (2, .int x2)] := hl
      exact j2 x2 (σ.1 76 ((((22 : Int32) * x1) + (18 : Int32)) : Int32).toNatClampNeg) (-1 : Int32) σ _ _ _ (lv_sub hl [2, 4, 1, 0] rfl) hst h
  · replace h := h.2 hc
    refine lv_aload_n hx hb d_Md_needsNothing_11 rfl (lv_at hl 0 rfl) ?_
    refine va_get (D := D) (ci := 10) (C := R_Md) (T := T_Md) (N := 46) hx hb hts in_Md hown hK hst.1 54 (WS_o54 g σ) rfl 25 (by decide) (hts _ gw1089) (fun _ h9 => h9) rfl d_Md_needsNothing_12 ?_
    refine lv_bipush (v := (22 : Int32)) hx hb d_Md_needsNothing_15 (by decide) ?_
    refine lv_iload_n hx hb d_Md_needsNothing_17 rfl (lv_at hl 1 rfl) ?_
    refine lv_imul hx hb d_Md_needsNothing_18 ?_
    refine lv_iload_n hx hb d_Md_needsNothing_19 rfl (lv_at hl 3 rfl) ?_
    refine lv_iadd hx hb d_Md_needsNothing_20 ?_
    obtain ⟨hi, h⟩ := h
    refine va_iald hx hb hK hst.1 76 0 (WS_a76 g σ) rfl hi d_Md_needsNothing_21 ?_
    refine lv_istore hx hb d_Md_needsNothing_22 hl (by decide) rfl (fun ls hl => ?_)
    have hl : lv_has ls 6 [(4, .int (σ.1 76 ((((22 : Int32) * x1) + x3) : Int32).toNatClampNeg)), (0, .ref (g.1 54)), (1, .int x1), (2, .int x2), (3, .int x3)] := hl
    refine lv_iload hx hb d_Md_needsNothing_24 (lv_at hl 0 rfl) ?_
    refine lv_if_lt (tgt := 86) hx hb d_Md_needsNothing_26 (by decide) (fun hc => ?_) (fun hc => ?_)
    · replace h := h.1 hc
      refine lv_iinc (k := 4) (v := (x3 + 1)) hx hb d_Md_needsNothing_86 hl rfl (kw_inc _ (by decide)) (by decide) rfl (fun ls hl => ?_)
      have hl : lv_has ls 6 [(3, .int (x3 + 1)), (4, .int (σ.1 76 ((((22 : Int32) * x1) + x3) : Int32).toNatClampNeg)), (0, .ref (g.1 54)), (1, .int x1), (2, .int x2)] := hl
      refine lv_goto (tgt := 5) hx hb d_Md_needsNothing_89 (by decide) ?_
      exact j1 x1 x2 (x3 + 1) σ _ _ _ (lv_sub hl [2, 3, 4, 0] rfl) hst h
    · replace h := h.2 hc
      refine lv_aload_n hx hb d_Md_needsNothing_29 rfl (lv_at hl 1 rfl) ?_
      refine va_get (D := D) (ci := 10) (C := R_Md) (T := T_Md) (N := 46) hx hb hts in_Md hown hK hst.1 54 (WS_o54 g σ) rfl 5 (by decide) (hts _ gw1069) (fun _ h9 => h9) rfl d_Md_needsNothing_30 ?_
      refine lv_iload hx hb d_Md_needsNothing_33 (lv_at hl 0 rfl) ?_
      obtain ⟨hi, h⟩ := h
      refine va_iald hx hb hK hst.1 59 0 (WS_a59 g σ) rfl hi d_Md_needsNothing_35 ?_
      refine lv_iconst (v := (5 : Int32)) hx hb d_Md_needsNothing_36 (by decide) ?_
      refine lv_icmp_ne (tgt := 86) hx hb d_Md_needsNothing_37 (by decide) (fun hc => ?_) (fun hc => ?_)
      · replace h := h.1 hc
        refine lv_iinc (k := 4) (v := (x3 + 1)) hx hb d_Md_needsNothing_86 hl rfl (kw_inc _ (by decide)) (by decide) rfl (fun ls hl => ?_)
        have hl : lv_has ls 6 [(3, .int (x3 + 1)), (4, .int (σ.1 76 ((((22 : Int32) * x1) + x3) : Int32).toNatClampNeg)), (0, .ref (g.1 54)), (1, .int x1), (2, .int x2)] := hl
        refine lv_goto (tgt := 5) hx hb d_Md_needsNothing_89 (by decide) ?_
        exact j1 x1 x2 (x3 + 1) σ _ _ _ (lv_sub hl [2, 3, 4, 0] rfl) hst h
      · replace h := h.2 hc
        refine lv_aload_n hx hb d_Md_needsNothing_40 rfl (lv_at hl 1 rfl) ?_
        refine va_get (D := D) (ci := 10) (C := R_Md) (T := T_Md) (N := 46) hx hb hts in_Md hown hK hst.1 54 (WS_o54 g σ) rfl 11 (by decide) (hts _ gw1075) (fun _ h9 => h9) rfl d_Md_needsNothing_41 ?_
        refine lv_iload hx hb d_Md_needsNothing_44 (lv_at hl 0 rfl) ?_
        obtain ⟨hi, h⟩ := h
        refine va_iald hx hb hK hst.1 65 0 (WS_a65 g σ) rfl hi d_Md_needsNothing_46 ?_
        refine lv_istore hx hb d_Md_needsNothing_47 hl (by decide) rfl (fun ls hl => ?_)
        have hl : lv_has ls 6 [(5, .int (σ.1 65 ((σ.1 76 ((((22 : Int32) * x1) + x3) : Int32).toNatClampNeg) : Int32).toNatClampNeg)), (4, .int (σ.1 76 ((((22 : Int32) * x1) + x3) : Int32).toNatClampNeg)), (0, .ref (g.1 54)), (1, .int x1), (2, .int x2), (3, .int x3)] := hl
        exact j3 x1 x2 x3 (σ.1 65 ((σ.1 76 ((((22 : Int32) * x1) + x3) : Int32).toNatClampNeg) : Int32).toNatClampNeg) σ _ _ _ (lv_sub hl [2, 3, 4, 5, 0] rfl) hst h
set_option maxRecDepth 100000 in
set_option maxHeartbeats 4000000 in
theorem b_Md_needsNothing_2 {p : Program} {l : Launch} {e : Env} {s : State} {m : MethodId} {args : Array Value} {below : List Frame} {meth : Method} {c : Code} {D : va_G} {g : Gm} {A : Nat → Prop} {post : Int32 → Sg → Prop} {F : Nat → Int32 → Int32 → Int32 → Int32 → Int32 → Sg → Prop} (C : kC p s m args meth c k_Md_needsNothing 6 (some .boolean) GW R_Md D vwCl g (Zk g) A) (j4 : J_Md_needsNothing_4 p l e s m args below meth c D g A post F) (x2 : Int32) (x3 : Int32) (x4 : Int32) (σ : Sg) (H : Heap) (locs : List Loc) (ls : Array Slot) (hl : lv_has ls 6 [(0, .ref (g.1 54)), (2, .int x2), (3, .int x3), (4, .int x4)]) (hst : Wst D vwCl (WS g) A s σ H locs) (h : wb_Md_needsNothing_2 F post x2 x3 x4 σ) : W p l e { frames := 0, cells := 0, slots := 0, locals := 0 } s m args below meth c H locs 0 0 (MQ below (QiW D vwCl (WS g) post A) args s 0 0 A) (F0 m 143 ls []) := by
  obtain ⟨hx, hb, hr, hml, hown, hts, hlocks, hK, hZ, hA⟩ := C
  unfold wb_Md_needsNothing_2 at h
  refine lv_iload_n hx hb d_Md_needsNothing_143 rfl (lv_at hl 1 rfl) ?_
  refine lv_if_eq (tgt := 179) hx hb d_Md_needsNothing_144 (by decide) (fun hc => ?_) (fun hc => ?_)
  · replace h := h.1 hc
    refine lv_iconst (v := (0 : Int32)) hx hb d_Md_needsNothing_179 (by decide) ?_
    exact kw_zret hx hb hr hlocks hst h d_Md_needsNothing_180
  · replace h := h.2 hc
    refine lv_iload_n hx hb d_Md_needsNothing_147 rfl (lv_at hl 2 rfl) ?_
    refine lv_if_lt (tgt := 160) hx hb d_Md_needsNothing_148 (by decide) (fun hc => ?_) (fun hc => ?_)
    · replace h := h.1 hc
      exact j4 x4 σ _ _ _ (lv_sub hl [0, 3] rfl) hst h
    · replace h := h.2 hc
      refine lv_aload_n hx hb d_Md_needsNothing_151 rfl (lv_at hl 0 rfl) ?_
      refine va_get (D := D) (ci := 10) (C := R_Md) (T := T_Md) (N := 46) hx hb hts in_Md hown hK hst.1 54 (WS_o54 g σ) rfl 29 (by decide) (hts _ gw1093) (fun _ h9 => h9) rfl d_Md_needsNothing_152 ?_
      refine lv_iload_n hx hb d_Md_needsNothing_155 rfl (lv_at hl 2 rfl) ?_
      obtain ⟨hi, h⟩ := h
      refine va_zald hx hb hK hst.1 79 2 (WS_a79 g σ) rfl hi d_Md_needsNothing_156 ?_
      refine lv_if_eq (tgt := 179) hx hb d_Md_needsNothing_157 (by decide) (fun hc => ?_) (fun hc => ?_)
      · replace h := h.1 hc
        refine lv_iconst (v := (0 : Int32)) hx hb d_Md_needsNothing_179 (by decide) ?_
        exact kw_zret hx hb hr hlocks hst h d_Md_needsNothing_180
      · replace h := h.2 hc
        exact j4 x4 σ _ _ _ (lv_sub hl [0, 3] rfl) hst h
set_option maxRecDepth 100000 in
set_option maxHeartbeats 4000000 in
theorem b_Md_needsNothing_3 {p : Program} {l : Launch} {e : Env} {s : State} {m : MethodId} {args : Array Value} {below : List Frame} {meth : Method} {c : Code} {D : va_G} {g : Gm} {A : Nat → Prop} {post : Int32 → Sg → Prop} {F : Nat → Int32 → Int32 → Int32 → Int32 → Int32 → Sg → Prop} (C : kC p s m args meth c k_Md_needsNothing 6 (some .boolean) GW R_Md D vwCl g (Zk g) A) (j1 : J_Md_needsNothing_1 p l e s m args below meth c D g A post F) (j3 : J_Md_needsNothing_3 p l e s m args below meth c D g A post F) (x1 : Int32) (x2 : Int32) (x3 : Int32) (x5 : Int32) (σ : Sg) (H : Heap) (locs : List Loc) (ls : Array Slot) (hl : lv_has ls 6 [(0, .ref (g.1 54)), (1, .int x1), (2, .int x2), (3, .int x3), (5, .int x5)]) (hst : Wst D vwCl (WS g) A s σ H locs) (h : wb_Md_needsNothing_3 F post x1 x2 x3 x5 σ) : W p l e { frames := 0, cells := 0, slots := 0, locals := 0 } s m args below meth c H locs 0 0 (MQ below (QiW D vwCl (WS g) post A) args s 0 0 A) (F0 m 49 ls []) := by
  obtain ⟨hx, hb, hr, hml, hown, hts, hlocks, hK, hZ, hA⟩ := C
  unfold wb_Md_needsNothing_3 at h
  refine lv_iload hx hb d_Md_needsNothing_49 (lv_at hl 4 rfl) ?_
  refine lv_if_lt (tgt := 86) hx hb d_Md_needsNothing_51 (by decide) (fun hc => ?_) (fun hc => ?_)
  · replace h := h.1 hc
    refine lv_iinc (k := 3) (v := (x3 + 1)) hx hb d_Md_needsNothing_86 hl rfl (kw_inc _ (by decide)) (by decide) rfl (fun ls hl => ?_)
    have hl : lv_has ls 6 [(3, .int (x3 + 1)), (0, .ref (g.1 54)), (1, .int x1), (2, .int x2), (5, .int x5)] := hl
    refine lv_goto (tgt := 5) hx hb d_Md_needsNothing_89 (by decide) ?_
    exact j1 x1 x2 (x3 + 1) σ _ _ _ (lv_sub hl [1, 2, 3, 0] rfl) hst h
  · replace h := h.2 hc
    refine lv_iload_n hx hb d_Md_needsNothing_54 rfl (lv_at hl 2 rfl) ?_
    refine lv_if_eq (tgt := 72) hx hb d_Md_needsNothing_55 (by decide) (fun hc => ?_) (fun hc => ?_)
    · replace h := h.1 hc
      refine lv_iconst (v := (0 : Int32)) hx hb d_Md_needsNothing_72 (by decide) ?_
      refine lv_istore_n hx hb d_Md_needsNothing_73 rfl hl (by decide) rfl (fun ls hl => ?_)
      have hl : lv_has ls 6 [(2, .int (0 : Int32)), (0, .ref (g.1 54)), (1, .int x1), (3, .int x3), (5, .int x5)] := hl
      refine lv_aload_n hx hb d_Md_needsNothing_74 rfl (lv_at hl 1 rfl) ?_
      refine va_get (D := D) (ci := 10) (C := R_Md) (T := T_Md) (N := 46) hx hb hts in_Md hown hK hst.1 54 (WS_o54 g σ) rfl 12 (by decide) (hts _ gw1076) (fun _ h9 => h9) rfl d_Md_needsNothing_75 ?_
      refine lv_iload hx hb d_Md_needsNothing_78 (lv_at hl 4 rfl) ?_
      obtain ⟨hi, h⟩ := h
      refine va_iald hx hb hK hst.1 66 0 (WS_a66 g σ) rfl hi d_Md_needsNothing_80 ?_
      refine lv_istore hx hb d_Md_needsNothing_81 hl (by decide) rfl (fun ls hl => ?_)
      have hl : lv_has ls 6 [(5, .int (σ.1 66 x5.toNatClampNeg)), (2, .int (0 : Int32)), (0, .ref (g.1 54)), (1, .int x1), (3, .int x3)] := hl
      refine lv_goto (tgt := 49) hx hb d_Md_needsNothing_83 (by decide) ?_
      exact j3 x1 (0 : Int32) x3 (σ.1 66 x5.toNatClampNeg) σ _ _ _ (lv_sub hl [2, 3, 1, 4, 0] rfl) hst h
    · replace h := h.2 hc
      refine lv_aload_n hx hb d_Md_needsNothing_58 rfl (lv_at hl 0 rfl) ?_
      refine va_get (D := D) (ci := 10) (C := R_Md) (T := T_Md) (N := 46) hx hb hts in_Md hown hK hst.1 54 (WS_o54 g σ) rfl 29 (by decide) (hts _ gw1093) (fun _ h9 => h9) rfl d_Md_needsNothing_59 ?_
      refine lv_iload hx hb d_Md_needsNothing_62 (lv_at hl 4 rfl) ?_
      obtain ⟨hi, h⟩ := h
      refine va_zald hx hb hK hst.1 79 2 (WS_a79 g σ) rfl hi d_Md_needsNothing_64 ?_
      refine lv_if_eq (tgt := 72) hx hb d_Md_needsNothing_65 (by decide) (fun hc => ?_) (fun hc => ?_)
      · replace h := h.1 hc
        refine lv_iconst (v := (0 : Int32)) hx hb d_Md_needsNothing_72 (by decide) ?_
        refine lv_istore_n hx hb d_Md_needsNothing_73 rfl hl (by decide) rfl (fun ls hl => ?_)
        have hl : lv_has ls 6 [(2, .int (0 : Int32)), (0, .ref (g.1 54)), (1, .int x1), (3, .int x3), (5, .int x5)] := hl
        refine lv_aload_n hx hb d_Md_needsNothing_74 rfl (lv_at hl 1 rfl) ?_
        refine va_get (D := D) (ci := 10) (C := R_Md) (T := T_Md) (N := 46) hx hb hts in_Md hown hK hst.1 54 (WS_o54 g σ) rfl 12 (by decide) (hts _ gw1076) (fun _ h9 => h9) rfl d_Md_needsNothing_75 ?_
        refine lv_iload hx hb d_Md_needsNothing_78 (lv_at hl 4 rfl) ?_
        obtain ⟨hi, h⟩ := h
        refine va_iald hx hb hK hst.1 66 0 (WS_a66 g σ) rfl hi d_Md_needsNothing_80 ?_
        refine lv_istore hx hb d_Md_needsNothing_81 hl (by decide) rfl (fun ls hl => ?_)
        have hl : lv_has ls 6 [(5, .int (σ.1 66 x5.toNatClampNeg)), (2, .int (0 : Int32)), (0, .ref (g.1 54)), (1, .int x1), (3, .int x3)] := hl
        refine lv_goto (tgt := 49) hx hb d_Md_needsNothing_83 (by decide) ?_
        exact j3 x1 (0 : Int32) x3 (σ.1 66 x5.toNatClampNeg) σ _ _ _ (lv_sub hl [2, 3, 1, 4, 0] rfl) hst h
      · replace h := h.2 hc
        refine lv_iconst (v := (1 : Int32)) hx hb d_Md_needsNothing_68 (by decide) ?_
        refine lv_goto (tgt := 73) hx hb d_Md_needsNothing_69 (by decide) ?_
        refine lv_istore_n hx hb d_Md_needsNothing_73 rfl hl (by decide) rfl (fun ls hl => ?_)
        have hl : lv_has ls 6 [(2, .int (1 : Int32)), (0, .ref (g.1 54)), (1, .int x1), (3, .int x3), (5, .int x5)] := hl
        refine lv_aload_n hx hb d_Md_needsNothing_74 rfl (lv_at hl 1 rfl) ?_
        refine va_get (D := D) (ci := 10) (C := R_Md) (T := T_Md) (N := 46) hx hb hts in_Md hown hK hst.1 54 (WS_o54 g σ) rfl 12 (by decide) (hts _ gw1076) (fun _ h9 => h9) rfl d_Md_needsNothing_75 ?_
        refine lv_iload hx hb d_Md_needsNothing_78 (lv_at hl 4 rfl) ?_
        obtain ⟨hi, h⟩ := h
        refine va_iald hx hb hK hst.1 66 0 (WS_a66 g σ) rfl hi d_Md_needsNothing_80 ?_
        refine lv_istore hx hb d_Md_needsNothing_81 hl (by decide) rfl (fun ls hl => ?_)
        have hl : lv_has ls 6 [(5, .int (σ.1 66 x5.toNatClampNeg)), (2, .int (1 : Int32)), (0, .ref (g.1 54)), (1, .int x1), (3, .int x3)] := hl
        refine lv_goto (tgt := 49) hx hb d_Md_needsNothing_83 (by decide) ?_
        exact j3 x1 (1 : Int32) x3 (σ.1 66 x5.toNatClampNeg) σ _ _ _ (lv_sub hl [2, 3, 1, 4, 0] rfl) hst h
set_option maxRecDepth 100000 in
set_option maxHeartbeats 4000000 in
theorem b_Md_needsNothing_4 {p : Program} {l : Launch} {e : Env} {s : State} {m : MethodId} {args : Array Value} {below : List Frame} {meth : Method} {c : Code} {D : va_G} {g : Gm} {A : Nat → Prop} {post : Int32 → Sg → Prop} {F : Nat → Int32 → Int32 → Int32 → Int32 → Int32 → Sg → Prop} (C : kC p s m args meth c k_Md_needsNothing 6 (some .boolean) GW R_Md D vwCl g (Zk g) A) (x4 : Int32) (σ : Sg) (H : Heap) (locs : List Loc) (ls : Array Slot) (hl : lv_has ls 6 [(0, .ref (g.1 54)), (4, .int x4)]) (hst : Wst D vwCl (WS g) A s σ H locs) (h : wb_Md_needsNothing_4 F post x4 σ) : W p l e { frames := 0, cells := 0, slots := 0, locals := 0 } s m args below meth c H locs 0 0 (MQ below (QiW D vwCl (WS g) post A) args s 0 0 A) (F0 m 160 ls []) := by
  obtain ⟨hx, hb, hr, hml, hown, hts, hlocks, hK, hZ, hA⟩ := C
  unfold wb_Md_needsNothing_4 at h
  refine lv_iload hx hb d_Md_needsNothing_160 (lv_at hl 1 rfl) ?_
  refine lv_if_lt (tgt := 175) hx hb d_Md_needsNothing_162 (by decide) (fun hc => ?_) (fun hc => ?_)
  · replace h := h.1 hc
    refine lv_iconst (v := (1 : Int32)) hx hb d_Md_needsNothing_175 (by decide) ?_
    refine lv_goto (tgt := 180) hx hb d_Md_needsNothing_176 (by decide) ?_
    exact kw_zret hx hb hr hlocks hst h d_Md_needsNothing_180
  · replace h := h.2 hc
    refine lv_aload_n hx hb d_Md_needsNothing_165 rfl (lv_at hl 0 rfl) ?_
    refine va_get (D := D) (ci := 10) (C := R_Md) (T := T_Md) (N := 46) hx hb hts in_Md hown hK hst.1 54 (WS_o54 g σ) rfl 29 (by decide) (hts _ gw1093) (fun _ h9 => h9) rfl d_Md_needsNothing_166 ?_
    refine lv_iload hx hb d_Md_needsNothing_169 (lv_at hl 1 rfl) ?_
    obtain ⟨hi, h⟩ := h
    refine va_zald hx hb hK hst.1 79 2 (WS_a79 g σ) rfl hi d_Md_needsNothing_171 ?_
    refine lv_if_eq (tgt := 179) hx hb d_Md_needsNothing_172 (by decide) (fun hc => ?_) (fun hc => ?_)
    · replace h := h.1 hc
      refine lv_iconst (v := (0 : Int32)) hx hb d_Md_needsNothing_179 (by decide) ?_
      exact kw_zret hx hb hr hlocks hst h d_Md_needsNothing_180
    · replace h := h.2 hc
      refine lv_iconst (v := (1 : Int32)) hx hb d_Md_needsNothing_175 (by decide) ?_
      refine lv_goto (tgt := 180) hx hb d_Md_needsNothing_176 (by decide) ?_
      exact kw_zret hx hb hr hlocks hst h d_Md_needsNothing_180
set_option maxRecDepth 100000 in
set_option maxHeartbeats 4000000 in
theorem a_Md_needsNothing {p : Program} {l : Launch} {e : Env} {s : State} {m : MethodId} {args : Array Value} {below : List Frame} {meth : Method} {c : Code} {D : va_G} {g : Gm} {A : Nat → Prop} {post : Int32 → Sg → Prop} (C : kC p s m args meth c k_Md_needsNothing 6 (some .boolean) GW R_Md D vwCl g (Zk g) A) : ∀ n : Nat, J_Md_needsNothing_1 p l e s m args below meth c D g A post (wp_Md_needsNothing post n) ∧ J_Md_needsNothing_2 p l e s m args below meth c D g A post (wp_Md_needsNothing post n) ∧ J_Md_needsNothing_3 p l e s m args below meth c D g A post (wp_Md_needsNothing post n) ∧ J_Md_needsNothing_4 p l e s m args below meth c D g A post (wp_Md_needsNothing post n) := by
  intro n
  induction n with
  | zero => exact ⟨fun _ _ _ _ _ _ _ _ _ h => h.elim, fun _ _ _ _ _ _ _ _ _ h => h.elim, fun _ _ _ _ _ _ _ _ _ _ h => h.elim, fun _ _ _ _ _ _ _ h => h.elim⟩
  | succ n ih => exact ⟨fun x1 x2 x3 σ H locs ls hl hst h => b_Md_needsNothing_1 (F := wp_Md_needsNothing post n) C (ih.1) (ih.2.1) (ih.2.2.1) x1 x2 x3 σ H locs ls hl hst h, fun x2 x3 x4 σ H locs ls hl hst h => b_Md_needsNothing_2 (F := wp_Md_needsNothing post n) C (ih.2.2.2) x2 x3 x4 σ H locs ls hl hst h, fun x1 x2 x3 x5 σ H locs ls hl hst h => b_Md_needsNothing_3 (F := wp_Md_needsNothing post n) C (ih.1) (ih.2.2.1) x1 x2 x3 x5 σ H locs ls hl hst h, fun x4 σ H locs ls hl hst h => b_Md_needsNothing_4 (F := wp_Md_needsNothing post n) C x4 σ H locs ls hl hst h⟩
set_option maxRecDepth 100000 in
set_option maxHeartbeats 4000000 in
theorem c_Md_needsNothing (l : Launch) {D : va_G} {g : Gm} {sz : Nat} (x1 : Int32) {σ : Sg} {post : Int32 → Sg → Prop} (h : wq_Md_needsNothing x1 σ post) : Met l y_Md_needsNothing (.code y_Md_needsNothing k_Md_needsNothing 6 (some .boolean) :: GW) { frames := 0, cells := 0, slots := 0, locals := 0 } (PcW D vwCl (WS g) g (Zk g) σ sz [.ref (g.1 54), .int x1]) (QiW D vwCl (WS g) post (va_A (WS g σ) sz)) 0 0 (va_A (WS g σ) sz) := by
  refine kw_entry (own := R_Md) (by decide) rfl rfl (Nat.le_of_ble_eq_true rfl) ?_
  intro p e s m below meth c ls hsz C hin hl hst
  obtain ⟨n, h⟩ := h
  cases n with
  | zero => exact h.elim
  | succ n =>
    have ih := a_Md_needsNothing (l := l) (e := e) (below := below) (post := post) C n
    exact b_Md_needsNothing_0 (F := wp_Md_needsNothing post n) C (ih.1) x1 σ _ _ ls hl hst h
/-! SchemaDeskModel.equals (II)Z -/
abbrev k_Md_equals : ByteArray := prog_12_method_46_code
abbrev y_Md_equals : MethodName := ⟨"SchemaDeskModel", "equals", "(II)Z"⟩
theorem d_Md_equals_0 : decode k_Md_equals 0 = .ok (.aload_n 0, 1) := by decide +kernel
theorem d_Md_equals_1 : decode k_Md_equals 1 = .ok (.getfield 77, 3) := by decide +kernel
theorem d_Md_equals_4 : decode k_Md_equals 4 = .ok (.iload_n 1, 1) := by decide +kernel
theorem d_Md_equals_5 : decode k_Md_equals 5 = .ok (.iaload, 1) := by decide +kernel
theorem d_Md_equals_6 : decode k_Md_equals 6 = .ok (.aload_n 0, 1) := by decide +kernel
theorem d_Md_equals_7 : decode k_Md_equals 7 = .ok (.getfield 77, 3) := by decide +kernel
theorem d_Md_equals_10 : decode k_Md_equals 10 = .ok (.iload_n 2, 1) := by decide +kernel
theorem d_Md_equals_11 : decode k_Md_equals 11 = .ok (.iaload, 1) := by decide +kernel
theorem d_Md_equals_12 : decode k_Md_equals 12 = .ok (.if_icmp .ne 18, 3) := by decide +kernel
theorem d_Md_equals_15 : decode k_Md_equals 15 = .ok (.aload_n 0, 1) := by decide +kernel
theorem d_Md_equals_16 : decode k_Md_equals 16 = .ok (.getfield 92, 3) := by decide +kernel
theorem d_Md_equals_19 : decode k_Md_equals 19 = .ok (.iload_n 1, 1) := by decide +kernel
theorem d_Md_equals_20 : decode k_Md_equals 20 = .ok (.iaload, 1) := by decide +kernel
theorem d_Md_equals_21 : decode k_Md_equals 21 = .ok (.aload_n 0, 1) := by decide +kernel
theorem d_Md_equals_22 : decode k_Md_equals 22 = .ok (.getfield 92, 3) := by decide +kernel
theorem d_Md_equals_25 : decode k_Md_equals 25 = .ok (.iload_n 2, 1) := by decide +kernel
theorem d_Md_equals_26 : decode k_Md_equals 26 = .ok (.iaload, 1) := by decide +kernel
theorem d_Md_equals_27 : decode k_Md_equals 27 = .ok (.if_icmp .eq 5, 3) := by decide +kernel
theorem d_Md_equals_30 : decode k_Md_equals 30 = .ok (.iconst 0, 1) := by decide +kernel
theorem d_Md_equals_31 : decode k_Md_equals 31 = .ok (.ireturn, 1) := by decide +kernel
theorem d_Md_equals_32 : decode k_Md_equals 32 = .ok (.aload_n 0, 1) := by decide +kernel
theorem d_Md_equals_33 : decode k_Md_equals 33 = .ok (.getfield 77, 3) := by decide +kernel
theorem d_Md_equals_36 : decode k_Md_equals 36 = .ok (.iload_n 1, 1) := by decide +kernel
theorem d_Md_equals_37 : decode k_Md_equals 37 = .ok (.iaload, 1) := by decide +kernel
theorem d_Md_equals_38 : decode k_Md_equals 38 = .ok (.iconst 3, 1) := by decide +kernel
theorem d_Md_equals_39 : decode k_Md_equals 39 = .ok (.if_icmp .ne 24, 3) := by decide +kernel
theorem d_Md_equals_42 : decode k_Md_equals 42 = .ok (.aload_n 0, 1) := by decide +kernel
theorem d_Md_equals_43 : decode k_Md_equals 43 = .ok (.getfield 107, 3) := by decide +kernel
theorem d_Md_equals_46 : decode k_Md_equals 46 = .ok (.iload_n 1, 1) := by decide +kernel
theorem d_Md_equals_47 : decode k_Md_equals 47 = .ok (.iaload, 1) := by decide +kernel
theorem d_Md_equals_48 : decode k_Md_equals 48 = .ok (.aload_n 0, 1) := by decide +kernel
theorem d_Md_equals_49 : decode k_Md_equals 49 = .ok (.getfield 107, 3) := by decide +kernel
theorem d_Md_equals_52 : decode k_Md_equals 52 = .ok (.iload_n 2, 1) := by decide +kernel
theorem d_Md_equals_53 : decode k_Md_equals 53 = .ok (.iaload, 1) := by decide +kernel
theorem d_Md_equals_54 : decode k_Md_equals 54 = .ok (.if_icmp .ne 7, 3) := by decide +kernel
theorem d_Md_equals_57 : decode k_Md_equals 57 = .ok (.iconst 1, 1) := by decide +kernel
theorem d_Md_equals_58 : decode k_Md_equals 58 = .ok (.goto 4, 3) := by decide +kernel
theorem d_Md_equals_61 : decode k_Md_equals 61 = .ok (.iconst 0, 1) := by decide +kernel
theorem d_Md_equals_62 : decode k_Md_equals 62 = .ok (.ireturn, 1) := by decide +kernel
theorem d_Md_equals_63 : decode k_Md_equals 63 = .ok (.aload_n 0, 1) := by decide +kernel
theorem d_Md_equals_64 : decode k_Md_equals 64 = .ok (.getfield 77, 3) := by decide +kernel
theorem d_Md_equals_67 : decode k_Md_equals 67 = .ok (.iload_n 1, 1) := by decide +kernel
theorem d_Md_equals_68 : decode k_Md_equals 68 = .ok (.iaload, 1) := by decide +kernel
theorem d_Md_equals_69 : decode k_Md_equals 69 = .ok (.iconst 4, 1) := by decide +kernel
theorem d_Md_equals_70 : decode k_Md_equals 70 = .ok (.if_icmp .ne 44, 3) := by decide +kernel
theorem d_Md_equals_73 : decode k_Md_equals 73 = .ok (.aload_n 0, 1) := by decide +kernel
theorem d_Md_equals_74 : decode k_Md_equals 74 = .ok (.aload_n 0, 1) := by decide +kernel
theorem d_Md_equals_75 : decode k_Md_equals 75 = .ok (.getfield 80, 3) := by decide +kernel
theorem d_Md_equals_78 : decode k_Md_equals 78 = .ok (.iload_n 1, 1) := by decide +kernel
theorem d_Md_equals_79 : decode k_Md_equals 79 = .ok (.iaload, 1) := by decide +kernel
theorem d_Md_equals_80 : decode k_Md_equals 80 = .ok (.iconst 1, 1) := by decide +kernel
theorem d_Md_equals_81 : decode k_Md_equals 81 = .ok (.iadd, 1) := by decide +kernel
theorem d_Md_equals_82 : decode k_Md_equals 82 = .ok (.aload_n 0, 1) := by decide +kernel
theorem d_Md_equals_83 : decode k_Md_equals 83 = .ok (.getfield 86, 3) := by decide +kernel
theorem d_Md_equals_86 : decode k_Md_equals 86 = .ok (.iload_n 1, 1) := by decide +kernel
theorem d_Md_equals_87 : decode k_Md_equals 87 = .ok (.iaload, 1) := by decide +kernel
theorem d_Md_equals_88 : decode k_Md_equals 88 = .ok (.sipush 160, 3) := by decide +kernel
theorem d_Md_equals_91 : decode k_Md_equals 91 = .ok (.aload_n 0, 1) := by decide +kernel
theorem d_Md_equals_92 : decode k_Md_equals 92 = .ok (.getfield 80, 3) := by decide +kernel
theorem d_Md_equals_95 : decode k_Md_equals 95 = .ok (.iload_n 2, 1) := by decide +kernel
theorem d_Md_equals_96 : decode k_Md_equals 96 = .ok (.iaload, 1) := by decide +kernel
theorem d_Md_equals_97 : decode k_Md_equals 97 = .ok (.iadd, 1) := by decide +kernel
theorem d_Md_equals_98 : decode k_Md_equals 98 = .ok (.iconst 1, 1) := by decide +kernel
theorem d_Md_equals_99 : decode k_Md_equals 99 = .ok (.iadd, 1) := by decide +kernel
theorem d_Md_equals_100 : decode k_Md_equals 100 = .ok (.sipush 160, 3) := by decide +kernel
theorem d_Md_equals_103 : decode k_Md_equals 103 = .ok (.aload_n 0, 1) := by decide +kernel
theorem d_Md_equals_104 : decode k_Md_equals 104 = .ok (.getfield 86, 3) := by decide +kernel
theorem d_Md_equals_107 : decode k_Md_equals 107 = .ok (.iload_n 2, 1) := by decide +kernel
theorem d_Md_equals_108 : decode k_Md_equals 108 = .ok (.iaload, 1) := by decide +kernel
theorem d_Md_equals_109 : decode k_Md_equals 109 = .ok (.iadd, 1) := by decide +kernel
theorem d_Md_equals_110 : decode k_Md_equals 110 = .ok (.invokevirtual 245, 3) := by decide +kernel
theorem d_Md_equals_113 : decode k_Md_equals 113 = .ok (.ireturn, 1) := by decide +kernel
theorem d_Md_equals_114 : decode k_Md_equals 114 = .ok (.iconst 1, 1) := by decide +kernel
theorem d_Md_equals_115 : decode k_Md_equals 115 = .ok (.istore_n 3, 1) := by decide +kernel
theorem d_Md_equals_116 : decode k_Md_equals 116 = .ok (.aload_n 0, 1) := by decide +kernel
theorem d_Md_equals_117 : decode k_Md_equals 117 = .ok (.getfield 95, 3) := by decide +kernel
theorem d_Md_equals_120 : decode k_Md_equals 120 = .ok (.iload_n 2, 1) := by decide +kernel
theorem d_Md_equals_121 : decode k_Md_equals 121 = .ok (.iaload, 1) := by decide +kernel
theorem d_Md_equals_122 : decode k_Md_equals 122 = .ok (.istore 4, 2) := by decide +kernel
theorem d_Md_equals_124 : decode k_Md_equals 124 = .ok (.aload_n 0, 1) := by decide +kernel
theorem d_Md_equals_125 : decode k_Md_equals 125 = .ok (.getfield 95, 3) := by decide +kernel
theorem d_Md_equals_128 : decode k_Md_equals 128 = .ok (.iload_n 1, 1) := by decide +kernel
theorem d_Md_equals_129 : decode k_Md_equals 129 = .ok (.iaload, 1) := by decide +kernel
theorem d_Md_equals_130 : decode k_Md_equals 130 = .ok (.istore 5, 2) := by decide +kernel
theorem d_Md_equals_132 : decode k_Md_equals 132 = .ok (.iload 5, 2) := by decide +kernel
theorem d_Md_equals_134 : decode k_Md_equals 134 = .ok (.ifCond .lt 97, 3) := by decide +kernel
theorem d_Md_equals_137 : decode k_Md_equals 137 = .ok (.iload_n 3, 1) := by decide +kernel
theorem d_Md_equals_138 : decode k_Md_equals 138 = .ok (.ifCond .eq 93, 3) := by decide +kernel
theorem d_Md_equals_141 : decode k_Md_equals 141 = .ok (.aload_n 0, 1) := by decide +kernel
theorem d_Md_equals_142 : decode k_Md_equals 142 = .ok (.getfield 77, 3) := by decide +kernel
theorem d_Md_equals_145 : decode k_Md_equals 145 = .ok (.iload_n 1, 1) := by decide +kernel
theorem d_Md_equals_146 : decode k_Md_equals 146 = .ok (.iaload, 1) := by decide +kernel
theorem d_Md_equals_147 : decode k_Md_equals 147 = .ok (.iconst 5, 1) := by decide +kernel
theorem d_Md_equals_148 : decode k_Md_equals 148 = .ok (.if_icmp .ne 8, 3) := by decide +kernel
theorem d_Md_equals_151 : decode k_Md_equals 151 = .ok (.iload 4, 2) := by decide +kernel
theorem d_Md_equals_153 : decode k_Md_equals 153 = .ok (.goto 24, 3) := by decide +kernel
theorem d_Md_equals_156 : decode k_Md_equals 156 = .ok (.aload_n 0, 1) := by decide +kernel
theorem d_Md_equals_157 : decode k_Md_equals 157 = .ok (.iload_n 2, 1) := by decide +kernel
theorem d_Md_equals_158 : decode k_Md_equals 158 = .ok (.aload_n 0, 1) := by decide +kernel
theorem d_Md_equals_159 : decode k_Md_equals 159 = .ok (.getfield 101, 3) := by decide +kernel
theorem d_Md_equals_162 : decode k_Md_equals 162 = .ok (.iload 5, 2) := by decide +kernel
theorem d_Md_equals_164 : decode k_Md_equals 164 = .ok (.iaload, 1) := by decide +kernel
theorem d_Md_equals_165 : decode k_Md_equals 165 = .ok (.iconst 1, 1) := by decide +kernel
theorem d_Md_equals_166 : decode k_Md_equals 166 = .ok (.iadd, 1) := by decide +kernel
theorem d_Md_equals_167 : decode k_Md_equals 167 = .ok (.aload_n 0, 1) := by decide +kernel
theorem d_Md_equals_168 : decode k_Md_equals 168 = .ok (.getfield 104, 3) := by decide +kernel
theorem d_Md_equals_171 : decode k_Md_equals 171 = .ok (.iload 5, 2) := by decide +kernel
theorem d_Md_equals_173 : decode k_Md_equals 173 = .ok (.iaload, 1) := by decide +kernel
theorem d_Md_equals_174 : decode k_Md_equals 174 = .ok (.invokevirtual 249, 3) := by decide +kernel
theorem d_Md_equals_177 : decode k_Md_equals 177 = .ok (.istore 6, 2) := by decide +kernel
theorem d_Md_equals_179 : decode k_Md_equals 179 = .ok (.iload 6, 2) := by decide +kernel
theorem d_Md_equals_181 : decode k_Md_equals 181 = .ok (.ifCond .lt 18, 3) := by decide +kernel
theorem d_Md_equals_184 : decode k_Md_equals 184 = .ok (.aload_n 0, 1) := by decide +kernel
theorem d_Md_equals_185 : decode k_Md_equals 185 = .ok (.iload 5, 2) := by decide +kernel
theorem d_Md_equals_187 : decode k_Md_equals 187 = .ok (.iload 6, 2) := by decide +kernel
theorem d_Md_equals_189 : decode k_Md_equals 189 = .ok (.invokevirtual 303, 3) := by decide +kernel
theorem d_Md_equals_192 : decode k_Md_equals 192 = .ok (.ifCond .eq 7, 3) := by decide +kernel
theorem d_Md_equals_195 : decode k_Md_equals 195 = .ok (.iconst 1, 1) := by decide +kernel
theorem d_Md_equals_196 : decode k_Md_equals 196 = .ok (.goto 4, 3) := by decide +kernel
theorem d_Md_equals_199 : decode k_Md_equals 199 = .ok (.iconst 0, 1) := by decide +kernel
theorem d_Md_equals_200 : decode k_Md_equals 200 = .ok (.istore_n 3, 1) := by decide +kernel
theorem d_Md_equals_201 : decode k_Md_equals 201 = .ok (.iload 4, 2) := by decide +kernel
theorem d_Md_equals_203 : decode k_Md_equals 203 = .ok (.ifCond .ge 7, 3) := by decide +kernel
theorem d_Md_equals_206 : decode k_Md_equals 206 = .ok (.iconst (-1), 1) := by decide +kernel
theorem d_Md_equals_207 : decode k_Md_equals 207 = .ok (.goto 10, 3) := by decide +kernel
theorem d_Md_equals_210 : decode k_Md_equals 210 = .ok (.aload_n 0, 1) := by decide +kernel
theorem d_Md_equals_211 : decode k_Md_equals 211 = .ok (.getfield 98, 3) := by decide +kernel
theorem d_Md_equals_214 : decode k_Md_equals 214 = .ok (.iload 4, 2) := by decide +kernel
theorem d_Md_equals_216 : decode k_Md_equals 216 = .ok (.iaload, 1) := by decide +kernel
theorem d_Md_equals_217 : decode k_Md_equals 217 = .ok (.istore 4, 2) := by decide +kernel
theorem d_Md_equals_219 : decode k_Md_equals 219 = .ok (.aload_n 0, 1) := by decide +kernel
theorem d_Md_equals_220 : decode k_Md_equals 220 = .ok (.getfield 98, 3) := by decide +kernel
theorem d_Md_equals_223 : decode k_Md_equals 223 = .ok (.iload 5, 2) := by decide +kernel
theorem d_Md_equals_225 : decode k_Md_equals 225 = .ok (.iaload, 1) := by decide +kernel
theorem d_Md_equals_226 : decode k_Md_equals 226 = .ok (.istore 5, 2) := by decide +kernel
theorem d_Md_equals_228 : decode k_Md_equals 228 = .ok (.goto (-96), 3) := by decide +kernel
theorem d_Md_equals_231 : decode k_Md_equals 231 = .ok (.iload_n 3, 1) := by decide +kernel
theorem d_Md_equals_232 : decode k_Md_equals 232 = .ok (.ireturn, 1) := by decide +kernel
theorem gw1369 : (Jvm.Cond.methodLink "SchemaDeskModel" (303 : Nat) ({ cls := "SchemaDeskModel", name := "isEqual", desc := "(II)Z" } : Jvm.MethodName)) ∈ GW := gw_t6 (List.mem_of_getElem? (i := 169) rfl) rfl
theorem gw1371 : (Jvm.Cond.instanceMethod ({ cls := "SchemaDeskModel", name := "isEqual", desc := "(II)Z" } : Jvm.MethodName)) ∈ GW := gw_t6 (List.mem_of_getElem? (i := 171) rfl) rfl
theorem gs70 : Cond.selects "SchemaDeskModel" ⟨"SchemaDeskModel", "isEqual", "(II)Z"⟩ ⟨"SchemaDeskModel", "isEqual", "(II)Z"⟩ ∈ GW := gw_p5 (q := (⟨"SchemaDeskModel", "isEqual", "(II)Z"⟩, 46)) (List.mem_of_getElem? (i := 6) rfl)
theorem gw1372 : (Jvm.Cond.code ({ cls := "SchemaDeskModel", name := "isEqual", desc := "(II)Z" } : Jvm.MethodName) prog_12_method_39_code (3 : Nat) (Option.some Jvm.ClassFile.FieldType.boolean)) ∈ GW := gw_t6 (List.mem_of_getElem? (i := 172) rfl) rfl
def wb_Md_equals_0 (F : Nat → Int32 → Int32 → Int32 → Int32 → Int32 → Int32 → Sg → Prop) (post : Int32 → Sg → Prop) (x1 : Int32) (x2 : Int32) (σ : Sg) : Prop := (vp_in x1 240 ∧ (vp_in x2 240 ∧ ((¬ (σ.1 59 x1.toNatClampNeg) = (σ.1 59 x2.toNatClampNeg) → (narrow .boolean (.int (0 : Int32)) = .int (0 : Int32) ∧ post (0 : Int32) σ)) ∧ ((σ.1 59 x1.toNatClampNeg) = (σ.1 59 x2.toNatClampNeg) → (vp_in x1 240 ∧ (vp_in x2 240 ∧ (((σ.1 64 x1.toNatClampNeg) = (σ.1 64 x2.toNatClampNeg) → (vp_in x1 240 ∧ ((¬ (σ.1 59 x1.toNatClampNeg) = (3 : Int32) → (vp_in x1 240 ∧ ((¬ (σ.1 59 x1.toNatClampNeg) = (4 : Int32) → (vp_in x2 240 ∧ (vp_in x1 240 ∧ F 1 x1 x2 (1 : Int32) (σ.1 65 x2.toNatClampNeg) (σ.1 65 x1.toNatClampNeg) 0 σ))) ∧ ((σ.1 59 x1.toNatClampNeg) = (4 : Int32) → (vp_in x1 240 ∧ (vp_in x1 240 ∧ (vp_in x2 240 ∧ (vp_in x2 240 ∧ (wq_Md_same ((σ.1 60 x1.toNatClampNeg) + (1 : Int32)) (σ.1 62 x1.toNatClampNeg) (((160 : Int32) + (σ.1 60 x2.toNatClampNeg)) + (1 : Int32)) ((160 : Int32) + (σ.1 62 x2.toNatClampNeg)) σ (fun r1 σ1 => (narrow .boolean (.int r1) = .int r1 ∧ post r1 σ1))))))))))) ∧ ((σ.1 59 x1.toNatClampNeg) = (3 : Int32) → (vp_in x1 240 ∧ (vp_in x2 240 ∧ ((¬ (σ.1 69 x1.toNatClampNeg) = (σ.1 69 x2.toNatClampNeg) → (narrow .boolean (.int (0 : Int32)) = .int (0 : Int32) ∧ post (0 : Int32) σ)) ∧ ((σ.1 69 x1.toNatClampNeg) = (σ.1 69 x2.toNatClampNeg) → (narrow .boolean (.int (1 : Int32)) = .int (1 : Int32) ∧ post (1 : Int32) σ))))))))) ∧ (¬ (σ.1 64 x1.toNatClampNeg) = (σ.1 64 x2.toNatClampNeg) → (narrow .boolean (.int (0 : Int32)) = .int (0 : Int32) ∧ post (0 : Int32) σ)))))))))
def wb_Md_equals_1 (F : Nat → Int32 → Int32 → Int32 → Int32 → Int32 → Int32 → Sg → Prop) (post : Int32 → Sg → Prop) (x1 : Int32) (x2 : Int32) (x3 : Int32) (x4 : Int32) (x5 : Int32) (σ : Sg) : Prop := ((x5 < 0 → (narrow .boolean (.int x3) = .int x3 ∧ post x3 σ)) ∧ (¬ x5 < 0 → ((x3 = 0 → (narrow .boolean (.int x3) = .int x3 ∧ post x3 σ)) ∧ (¬ x3 = 0 → (vp_in x1 240 ∧ ((¬ (σ.1 59 x1.toNatClampNeg) = (5 : Int32) → (vp_in x5 240 ∧ (vp_in x5 240 ∧ (wq_Md_childNamed x2 ((σ.1 67 x5.toNatClampNeg) + (1 : Int32)) (σ.1 68 x5.toNatClampNeg) σ (fun r1 σ1 => F 2 x1 x2 0 x4 x5 r1 σ1))))) ∧ ((σ.1 59 x1.toNatClampNeg) = (5 : Int32) → F 2 x1 x2 0 x4 x5 x4 σ)))))))
def wb_Md_equals_2 (F : Nat → Int32 → Int32 → Int32 → Int32 → Int32 → Int32 → Sg → Prop) (post : Int32 → Sg → Prop) (x1 : Int32) (x2 : Int32) (x4 : Int32) (x5 : Int32) (x6 : Int32) (σ : Sg) : Prop := ((x6 < 0 → F 3 x1 x2 0 x4 x5 0 σ) ∧ (¬ x6 < 0 → (wq_Md_isEqual x5 x6 σ (fun r1 σ1 => ((r1 = 0 → F 3 x1 x2 0 x4 x5 0 σ1) ∧ (¬ r1 = 0 → F 4 x1 x2 (1 : Int32) x4 x5 0 σ1))))))
def wb_Md_equals_3 (F : Nat → Int32 → Int32 → Int32 → Int32 → Int32 → Int32 → Sg → Prop) (post : Int32 → Sg → Prop) (x1 : Int32) (x2 : Int32) (x4 : Int32) (x5 : Int32) (σ : Sg) : Prop := F 4 x1 x2 (0 : Int32) x4 x5 0 σ
def wb_Md_equals_4 (F : Nat → Int32 → Int32 → Int32 → Int32 → Int32 → Int32 → Sg → Prop) (post : Int32 → Sg → Prop) (x1 : Int32) (x2 : Int32) (x3 : Int32) (x4 : Int32) (x5 : Int32) (σ : Sg) : Prop := ((0 ≤ x4 → (vp_in x4 240 ∧ (vp_in x5 240 ∧ F 1 x1 x2 x3 (σ.1 66 x4.toNatClampNeg) (σ.1 66 x5.toNatClampNeg) 0 σ))) ∧ (¬ 0 ≤ x4 → (vp_in x5 240 ∧ F 1 x1 x2 x3 (-1 : Int32) (σ.1 66 x5.toNatClampNeg) 0 σ)))
def wp_Md_equals (post : Int32 → Sg → Prop) : Nat → Nat → Int32 → Int32 → Int32 → Int32 → Int32 → Int32 → Sg → Prop
  | 0, _, _, _, _, _, _, _, _ => False
  | n + 1, k, x1, x2, x3, x4, x5, x6, σ => match k with
    | 0 => wb_Md_equals_0 (wp_Md_equals post n) post x1 x2 σ
    | 1 => wb_Md_equals_1 (wp_Md_equals post n) post x1 x2 x3 x4 x5 σ
    | 2 => wb_Md_equals_2 (wp_Md_equals post n) post x1 x2 x4 x5 x6 σ
    | 3 => wb_Md_equals_3 (wp_Md_equals post n) post x1 x2 x4 x5 σ
    | 4 => wb_Md_equals_4 (wp_Md_equals post n) post x1 x2 x3 x4 x5 σ
    | _ => False
def wq_Md_equals (x1 : Int32) (x2 : Int32) (σ : Sg) (post : Int32 → Sg → Prop) : Prop := ∃ n, wp_Md_equals post n 0 x1 x2 0 0 0 0 σ
def J_Md_equals_1 (p : Program) (l : Launch) (e : Env) (s : State) (m : MethodId) (args : Array Value) (below : List Frame) (meth : Method) (c : Code) (D : va_G) (g : Gm) (A : Nat → Prop) (post : Int32 → Sg → Prop) (F : Nat → Int32 → Int32 → Int32 → Int32 → Int32 → Int32 → Sg → Prop) : Prop := ∀ (x1 : Int32) (x2 : Int32) (x3 : Int32) (x4 : Int32) (x5 : Int32) (σ : Sg) (H : Heap) (locs : List Loc) (ls : Array Slot), lv_has ls 7 [(0, .ref (g.1 54)), (1, .int x1), (2, .int x2), (3, .int x3), (4, .int x4), (5, .int x5)] → Wst D vwCl (WS g) A s σ H locs → F 1 x1 x2 x3 x4 x5 0 σ → W p l e { frames := 2, cells := 0, slots := 0, locals := 51 } s m args below meth c H locs 0 0 (MQ below (QiW D vwCl (WS g) post A) args s 0 0 A) (F0 m 132 ls [])
def J_Md_equals_2 (p : Program) (l : Launch) (e : Env) (s : State) (m : MethodId) (args : Array Value) (below : List Frame) (meth : Method) (c : Code) (D : va_G) (g : Gm) (A : Nat → Prop) (post : Int32 → Sg → Prop) (F : Nat → Int32 → Int32 → Int32 → Int32 → Int32 → Int32 → Sg → Prop) : Prop := ∀ (x1 : Int32) (x2 : Int32) (x4 : Int32) (x5 : Int32) (x6 : Int32) (σ : Sg) (H : Heap) (locs : List Loc) (ls : Array Slot), lv_has ls 7 [(0, .ref (g.1 54)), (1, .int x1), (2, .int x2), (4, .int x4), (5, .int x5), (6, .int x6)] → Wst D vwCl (WS g) A s σ H locs → F 2 x1 x2 0 x4 x5 x6 σ → W p l e { frames := 2, cells := 0, slots := 0, locals := 51 } s m args below meth c H locs 0 0 (MQ below (QiW D vwCl (WS g) post A) args s 0 0 A) (F0 m 179 ls [])
def J_Md_equals_3 (p : Program) (l : Launch) (e : Env) (s : State) (m : MethodId) (args : Array Value) (below : List Frame) (meth : Method) (c : Code) (D : va_G) (g : Gm) (A : Nat → Prop) (post : Int32 → Sg → Prop) (F : Nat → Int32 → Int32 → Int32 → Int32 → Int32 → Int32 → Sg → Prop) : Prop := ∀ (x1 : Int32) (x2 : Int32) (x4 : Int32) (x5 : Int32) (σ : Sg) (H : Heap) (locs : List Loc) (ls : Array Slot), lv_has ls 7 [(0, .ref (g.1 54)), (1, .int x1), (2, .int x2), (4, .int x4), (5, .int x5)] → Wst D vwCl (WS g) A s σ H locs → F 3 x1 x2 0 x4 x5 0 σ → W p l e { frames := 2, cells := 0, slots := 0, locals := 51 } s m args below meth c H locs 0 0 (MQ below (QiW D vwCl (WS g) post A) args s 0 0 A) (F0 m 199 ls [])
def J_Md_equals_4 (p : Program) (l : Launch) (e : Env) (s : State) (m : MethodId) (args : Array Value) (below : List Frame) (meth : Method) (c : Code) (D : va_G) (g : Gm) (A : Nat → Prop) (post : Int32 → Sg → Prop) (F : Nat → Int32 → Int32 → Int32 → Int32 → Int32 → Int32 → Sg → Prop) : Prop := ∀ (x1 : Int32) (x2 : Int32) (x3 : Int32) (x4 : Int32) (x5 : Int32) (σ : Sg) (H : Heap) (locs : List Loc) (ls : Array Slot), lv_has ls 7 [(0, .ref (g.1 54)), (1, .int x1), (2, .int x2), (3, .int x3), (4, .int x4), (5, .int x5)] → Wst D vwCl (WS g) A s σ H locs → F 4 x1 x2 x3 x4 x5 0 σ → W p l e { frames := 2, cells := 0, slots := 0, locals := 51 } s m args below meth c H locs 0 0 (MQ below (QiW D vwCl (WS g) post A) args s 0 0 A) (F0 m 201 ls [])
set_option maxRecDepth 100000 in
set_option maxHeartbeats 4000000 in
theorem b_Md_equals_0 {p : Program} {l : Launch} {e : Env} {s : State} {m : MethodId} {args : Array Value} {below : List Frame} {meth : Method} {c : Code} {D : va_G} {g : Gm} {A : Nat → Prop} {post : Int32 → Sg → Prop} {F : Nat → Int32 → Int32 → Int32 → Int32 → Int32 → Int32 → Sg → Prop} (C : kC p s m args meth c k_Md_equals 7 (some .boolean) GW R_Md D vwCl g (Zk g) A) (j1 : J_Md_equals_1 p l e s m args below meth c D g A post F) (x1 : Int32) (x2 : Int32) (σ : Sg) (H : Heap) (locs : List Loc) (ls : Array Slot) (hl : lv_has ls 7 [(0, .ref (g.1 54)), (1, .int x1), (2, .int x2)]) (hst : Wst D vwCl (WS g) A s σ H locs) (h : wb_Md_equals_0 F post x1 x2 σ) : W p l e { frames := 2, cells := 0, slots := 0, locals := 51 } s m args below meth c H locs 0 0 (MQ below (QiW D vwCl (WS g) post A) args s 0 0 A) (F0 m 0 ls []) := by
  obtain ⟨hx, hb, hr, hml, hown, hts, hlocks, hK, hZ, hA⟩ := C
  unfold wb_Md_equals_0 at h
  refine lv_aload_n hx hb d_Md_equals_0 rfl (lv_at hl 0 rfl) ?_
  refine va_get (D := D) (ci := 10) (C := R_Md) (T := T_Md) (N := 46) hx hb hts in_Md hown hK hst.1 54 (WS_o54 g σ) rfl 5 (by decide) (hts _ gw1069) (fun _ h9 => h9) rfl d_Md_equals_1 ?_
  refine lv_iload_n hx hb d_Md_equals_4 rfl (lv_at hl 1 rfl) ?_
  obtain ⟨hi, h⟩ := h
  refine va_iald hx hb hK hst.1 59 0 (WS_a59 g σ) rfl hi d_Md_equals_5 ?_
  refine lv_aload_n hx hb d_Md_equals_6 rfl (lv_at hl 0 rfl) ?_
  refine va_get (D := D) (ci := 10) (C := R_Md) (T := T_Md) (N := 46) hx hb hts in_Md hown hK hst.1 54 (WS_o54 g σ) rfl 5 (by decide) (hts _ gw1069) (fun _ h9 => h9) rfl d_Md_equals_7 ?_
  refine lv_iload_n hx hb d_Md_equals_10 rfl (lv_at hl 2 rfl) ?_
  obtain ⟨hi, h⟩ := h
  refine va_iald hx hb hK hst.1 59 0 (WS_a59 g σ) rfl hi d_Md_equals_11 ?_
  refine lv_icmp_ne (tgt := 30) hx hb d_Md_equals_12 (by decide) (fun hc => ?_) (fun hc => ?_)
  · replace h := h.1 hc
    refine lv_iconst (v := (0 : Int32)) hx hb d_Md_equals_30 (by decide) ?_
    exact kw_zret hx hb hr hlocks hst h d_Md_equals_31
  · replace h := h.2 hc
    refine lv_aload_n hx hb d_Md_equals_15 rfl (lv_at hl 0 rfl) ?_
    refine va_get (D := D) (ci := 10) (C := R_Md) (T := T_Md) (N := 46) hx hb hts in_Md hown hK hst.1 54 (WS_o54 g σ) rfl 10 (by decide) (hts _ gw1074) (fun _ h9 => h9) rfl d_Md_equals_16 ?_
    refine lv_iload_n hx hb d_Md_equals_19 rfl (lv_at hl 1 rfl) ?_
    obtain ⟨hi, h⟩ := h
    refine va_iald hx hb hK hst.1 64 0 (WS_a64 g σ) rfl hi d_Md_equals_20 ?_
    refine lv_aload_n hx hb d_Md_equals_21 rfl (lv_at hl 0 rfl) ?_
    refine va_get (D := D) (ci := 10) (C := R_Md) (T := T_Md) (N := 46) hx hb hts in_Md hown hK hst.1 54 (WS_o54 g σ) rfl 10 (by decide) (hts _ gw1074) (fun _ h9 => h9) rfl d_Md_equals_22 ?_
    refine lv_iload_n hx hb d_Md_equals_25 rfl (lv_at hl 2 rfl) ?_
    obtain ⟨hi, h⟩ := h
    refine va_iald hx hb hK hst.1 64 0 (WS_a64 g σ) rfl hi d_Md_equals_26 ?_
    refine lv_icmp_eq (tgt := 32) hx hb d_Md_equals_27 (by decide) (fun hc => ?_) (fun hc => ?_)
    · replace h := h.1 hc
      refine lv_aload_n hx hb d_Md_equals_32 rfl (lv_at hl 0 rfl) ?_
      refine va_get (D := D) (ci := 10) (C := R_Md) (T := T_Md) (N := 46) hx hb hts in_Md hown hK hst.1 54 (WS_o54 g σ) rfl 5 (by decide) (hts _ gw1069) (fun _ h9 => h9) rfl d_Md_equals_33 ?_
      refine lv_iload_n hx hb d_Md_equals_36 rfl (lv_at hl 1 rfl) ?_
      obtain ⟨hi, h⟩ := h
      refine va_iald hx hb hK hst.1 59 0 (WS_a59 g σ) rfl hi d_Md_equals_37 ?_
      refine lv_iconst (v := (3 : Int32)) hx hb d_Md_equals_38 (by decide) ?_
      refine lv_icmp_ne (tgt := 63) hx hb d_Md_equals_39 (by decide) (fun hc => ?_) (fun hc => ?_)
      · replace h := h.1 hc
        refine lv_aload_n hx hb d_Md_equals_63 rfl (lv_at hl 0 rfl) ?_
        refine va_get (D := D) (ci := 10) (C := R_Md) (T := T_Md) (N := 46) hx hb hts in_Md hown hK hst.1 54 (WS_o54 g σ) rfl 5 (by decide) (hts _ gw1069) (fun _ h9 => h9) rfl d_Md_equals_64 ?_
        refine lv_iload_n hx hb d_Md_equals_67 rfl (lv_at hl 1 rfl) ?_
        obtain ⟨hi, h⟩ := h
        refine va_iald hx hb hK hst.1 59 0 (WS_a59 g σ) rfl hi d_Md_equals_68 ?_
        refine lv_iconst (v := (4 : Int32)) hx hb d_Md_equals_69 (by decide) ?_
        refine lv_icmp_ne (tgt := 114) hx hb d_Md_equals_70 (by decide) (fun hc => ?_) (fun hc => ?_)
        · replace h := h.1 hc
          refine lv_iconst (v := (1 : Int32)) hx hb d_Md_equals_114 (by decide) ?_
          refine lv_istore_n hx hb d_Md_equals_115 rfl hl (by decide) rfl (fun ls hl => ?_)
          have hl : lv_has ls 7 [(3, .int (1 : Int32)), (0, .ref (g.1 54)), (1, .int x1), (2, .int x2)] := hl
          refine lv_aload_n hx hb d_Md_equals_116 rfl (lv_at hl 1 rfl) ?_
          refine va_get (D := D) (ci := 10) (C := R_Md) (T := T_Md) (N := 46) hx hb hts in_Md hown hK hst.1 54 (WS_o54 g σ) rfl 11 (by decide) (hts _ gw1075) (fun _ h9 => h9) rfl d_Md_equals_117 ?_
          refine lv_iload_n hx hb d_Md_equals_120 rfl (lv_at hl 3 rfl) ?_
          obtain ⟨hi, h⟩ := h
          refine va_iald hx hb hK hst.1 65 0 (WS_a65 g σ) rfl hi d_Md_equals_121 ?_
          refine lv_istore hx hb d_Md_equals_122 hl (by decide) rfl (fun ls hl => ?_)
          have hl : lv_has ls 7 [(4, .int (σ.1 65 x2.toNatClampNeg)), (3, .int (1 : Int32)), (0, .ref (g.1 54)), (1, .int x1), (2, .int x2)] := hl
          refine lv_aload_n hx hb d_Md_equals_124 rfl (lv_at hl 2 rfl) ?_
          refine va_get (D := D) (ci := 10) (C := R_Md) (T := T_Md) (N := 46) hx hb hts in_Md hown hK hst.1 54 (WS_o54 g σ) rfl 11 (by decide) (hts _ gw1075) (fun _ h9 => h9) rfl d_Md_equals_125 ?_
          refine lv_iload_n hx hb d_Md_equals_128 rfl (lv_at hl 3 rfl) ?_
          obtain ⟨hi, h⟩ := h
          refine va_iald hx hb hK hst.1 65 0 (WS_a65 g σ) rfl hi d_Md_equals_129 ?_
          refine lv_istore hx hb d_Md_equals_130 hl (by decide) rfl (fun ls hl => ?_)
          have hl : lv_has ls 7 [(5, .int (σ.1 65 x1.toNatClampNeg)), (4, .int (σ.1 65 x2.toNatClampNeg)), (3, .int (1 : Int32)), (0, .ref (g.1 54)), (1, .int x1), (2, .int x2)] := hl
          exact j1 x1 x2 (1 : Int32) (σ.1 65 x2.toNatClampNeg) (σ.1 65 x1.toNatClampNeg) σ _ _ _ (lv_sub hl [3, 4, 5, 2, 1, 0] rfl) hst h
        · replace h := h.2 hc
          refine lv_aload_n hx hb d_Md_equals_73 rfl (lv_at hl 0 rfl) ?_
          refine lv_aload_n hx hb d_Md_equals_74 rfl (lv_at hl 0 rfl) ?_
          refine va_get (D := D) (ci := 10) (C := R_Md) (T := T_Md) (N := 46) hx hb hts in_Md hown hK hst.1 54 (WS_o54 g σ) rfl 6 (by decide) (hts _ gw1070) (fun _ h9 => h9) rfl d_Md_equals_75 ?_
          refine lv_iload_n hx hb d_Md_equals_78 rfl (lv_at hl 1 rfl) ?_
          obtain ⟨hi, h⟩ := h
          refine va_iald hx hb hK hst.1 60 0 (WS_a60 g σ) rfl hi d_Md_equals_79 ?_
          refine lv_iconst (v := (1 : Int32)) hx hb d_Md_equals_80 (by decide) ?_
          refine lv_iadd hx hb d_Md_equals_81 ?_
          refine lv_aload_n hx hb d_Md_equals_82 rfl (lv_at hl 0 rfl) ?_
          refine va_get (D := D) (ci := 10) (C := R_Md) (T := T_Md) (N := 46) hx hb hts in_Md hown hK hst.1 54 (WS_o54 g σ) rfl 8 (by decide) (hts _ gw1072) (fun _ h9 => h9) rfl d_Md_equals_83 ?_
          refine lv_iload_n hx hb d_Md_equals_86 rfl (lv_at hl 1 rfl) ?_
          obtain ⟨hi, h⟩ := h
          refine va_iald hx hb hK hst.1 62 0 (WS_a62 g σ) rfl hi d_Md_equals_87 ?_
          refine lv_sipush (v := (160 : Int32)) hx hb d_Md_equals_88 (by decide) ?_
          refine lv_aload_n hx hb d_Md_equals_91 rfl (lv_at hl 0 rfl) ?_
          refine va_get (D := D) (ci := 10) (C := R_Md) (T := T_Md) (N := 46) hx hb hts in_Md hown hK hst.1 54 (WS_o54 g σ) rfl 6 (by decide) (hts _ gw1070) (fun _ h9 => h9) rfl d_Md_equals_92 ?_
          refine lv_iload_n hx hb d_Md_equals_95 rfl (lv_at hl 2 rfl) ?_
          obtain ⟨hi, h⟩ := h
          refine va_iald hx hb hK hst.1 60 0 (WS_a60 g σ) rfl hi d_Md_equals_96 ?_
          refine lv_iadd hx hb d_Md_equals_97 ?_
          refine lv_iconst (v := (1 : Int32)) hx hb d_Md_equals_98 (by decide) ?_
          refine lv_iadd hx hb d_Md_equals_99 ?_
          refine lv_sipush (v := (160 : Int32)) hx hb d_Md_equals_100 (by decide) ?_
          refine lv_aload_n hx hb d_Md_equals_103 rfl (lv_at hl 0 rfl) ?_
          refine va_get (D := D) (ci := 10) (C := R_Md) (T := T_Md) (N := 46) hx hb hts in_Md hown hK hst.1 54 (WS_o54 g σ) rfl 8 (by decide) (hts _ gw1072) (fun _ h9 => h9) rfl d_Md_equals_104 ?_
          refine lv_iload_n hx hb d_Md_equals_107 rfl (lv_at hl 2 rfl) ?_
          obtain ⟨hi, h⟩ := h
          refine va_iald hx hb hK hst.1 62 0 (WS_a62 g σ) rfl hi d_Md_equals_108 ?_
          refine lv_iadd hx hb d_Md_equals_109 ?_
          refine kw_calli (va_runV (As := [.int ((σ.1 60 x1.toNatClampNeg) + (1 : Int32)), .int (σ.1 62 x1.toNatClampNeg), .int (((160 : Int32) + (σ.1 60 x2.toNatClampNeg)) + (1 : Int32)), .int ((160 : Int32) + (σ.1 62 x2.toNatClampNeg))]) (rest := []) (b := g.1 54) ⟨hx, hb, hml, hown, hts⟩ (c_Md_same l ((σ.1 60 x1.toNatClampNeg) + (1 : Int32)) (σ.1 62 x1.toNatClampNeg) (((160 : Int32) + (σ.1 60 x2.toNatClampNeg)) + (1 : Int32)) ((160 : Int32) + (σ.1 62 x2.toNatClampNeg)) h) (cwV 4 hts (gd_v gw1317 gw1319 gs61 gw15 gw1320) rfl rfl rfl (by decide +kernel) ⟨Nat.le_of_ble_eq_true rfl, Nat.le_of_ble_eq_true rfl⟩) ⟨kw_blind (Zk_ok g), va_recv hK hst.1 rfl (WS_o54 g σ), kw_pre (Zk_ok g) hK hZ hA hst⟩ rfl rfl hl.1 rfl (lv_room (Nat.le_of_ble_eq_true rfl)) d_Md_equals_110 ⟨Nat.le_of_ble_eq_true rfl, Nat.le_of_ble_eq_true rfl⟩) hst hA (fun r1 σ1 H locs h hst => ?_)
          exact kw_zret hx hb hr hlocks hst h d_Md_equals_113
      · replace h := h.2 hc
        refine lv_aload_n hx hb d_Md_equals_42 rfl (lv_at hl 0 rfl) ?_
        refine va_get (D := D) (ci := 10) (C := R_Md) (T := T_Md) (N := 46) hx hb hts in_Md hown hK hst.1 54 (WS_o54 g σ) rfl 15 (by decide) (hts _ gw1079) (fun _ h9 => h9) rfl d_Md_equals_43 ?_
        refine lv_iload_n hx hb d_Md_equals_46 rfl (lv_at hl 1 rfl) ?_
        obtain ⟨hi, h⟩ := h
        refine va_iald hx hb hK hst.1 69 0 (WS_a69 g σ) rfl hi d_Md_equals_47 ?_
        refine lv_aload_n hx hb d_Md_equals_48 rfl (lv_at hl 0 rfl) ?_
        refine va_get (D := D) (ci := 10) (C := R_Md) (T := T_Md) (N := 46) hx hb hts in_Md hown hK hst.1 54 (WS_o54 g σ) rfl 15 (by decide) (hts _ gw1079) (fun _ h9 => h9) rfl d_Md_equals_49 ?_
        refine lv_iload_n hx hb d_Md_equals_52 rfl (lv_at hl 2 rfl) ?_
        obtain ⟨hi, h⟩ := h
        refine va_iald hx hb hK hst.1 69 0 (WS_a69 g σ) rfl hi d_Md_equals_53 ?_
        refine lv_icmp_ne (tgt := 61) hx hb d_Md_equals_54 (by decide) (fun hc => ?_) (fun hc => ?_)
        · replace h := h.1 hc
          refine lv_iconst (v := (0 : Int32)) hx hb d_Md_equals_61 (by decide) ?_
          exact kw_zret hx hb hr hlocks hst h d_Md_equals_62
        · replace h := h.2 hc
          refine lv_iconst (v := (1 : Int32)) hx hb d_Md_equals_57 (by decide) ?_
          refine lv_goto (tgt := 62) hx hb d_Md_equals_58 (by decide) ?_
          exact kw_zret hx hb hr hlocks hst h d_Md_equals_62
    · replace h := h.2 hc
      refine lv_iconst (v := (0 : Int32)) hx hb d_Md_equals_30 (by decide) ?_
      exact kw_zret hx hb hr hlocks hst h d_Md_equals_31
set_option maxRecDepth 100000 in
set_option maxHeartbeats 4000000 in
theorem b_Md_equals_1 {p : Program} {l : Launch} {e : Env} {s : State} {m : MethodId} {args : Array Value} {below : List Frame} {meth : Method} {c : Code} {D : va_G} {g : Gm} {A : Nat → Prop} {post : Int32 → Sg → Prop} {F : Nat → Int32 → Int32 → Int32 → Int32 → Int32 → Int32 → Sg → Prop} (C : kC p s m args meth c k_Md_equals 7 (some .boolean) GW R_Md D vwCl g (Zk g) A) (j2 : J_Md_equals_2 p l e s m args below meth c D g A post F) (x1 : Int32) (x2 : Int32) (x3 : Int32) (x4 : Int32) (x5 : Int32) (σ : Sg) (H : Heap) (locs : List Loc) (ls : Array Slot) (hl : lv_has ls 7 [(0, .ref (g.1 54)), (1, .int x1), (2, .int x2), (3, .int x3), (4, .int x4), (5, .int x5)]) (hst : Wst D vwCl (WS g) A s σ H locs) (h : wb_Md_equals_1 F post x1 x2 x3 x4 x5 σ) : W p l e { frames := 2, cells := 0, slots := 0, locals := 51 } s m args below meth c H locs 0 0 (MQ below (QiW D vwCl (WS g) post A) args s 0 0 A) (F0 m 132 ls []) := by
  obtain ⟨hx, hb, hr, hml, hown, hts, hlocks, hK, hZ, hA⟩ := C
  unfold wb_Md_equals_1 at h
  refine lv_iload hx hb d_Md_equals_132 (lv_at hl 5 rfl) ?_
  refine lv_if_lt (tgt := 231) hx hb d_Md_equals_134 (by decide) (fun hc => ?_) (fun hc => ?_)
  · replace h := h.1 hc
    refine lv_iload_n hx hb d_Md_equals_231 rfl (lv_at hl 3 rfl) ?_
    exact kw_zret hx hb hr hlocks hst h d_Md_equals_232
  · replace h := h.2 hc
    refine lv_iload_n hx hb d_Md_equals_137 rfl (lv_at hl 3 rfl) ?_
    refine lv_if_eq (tgt := 231) hx hb d_Md_equals_138 (by decide) (fun hc => ?_) (fun hc => ?_)
    · replace h := h.1 hc
      refine lv_iload_n hx hb d_Md_equals_231 rfl (lv_at hl 3 rfl) ?_
      exact kw_zret hx hb hr hlocks hst h d_Md_equals_232
    · replace h := h.2 hc
      refine lv_aload_n hx hb d_Md_equals_141 rfl (lv_at hl 0 rfl) ?_
      refine va_get (D := D) (ci := 10) (C := R_Md) (T := T_Md) (N := 46) hx hb hts in_Md hown hK hst.1 54 (WS_o54 g σ) rfl 5 (by decide) (hts _ gw1069) (fun _ h9 => h9) rfl d_Md_equals_142 ?_
      refine lv_iload_n hx hb d_Md_equals_145 rfl (lv_at hl 1 rfl) ?_
      obtain ⟨hi, h⟩ := h
      refine va_iald hx hb hK hst.1 59 0 (WS_a59 g σ) rfl hi d_Md_equals_146 ?_
      refine lv_iconst (v := (5 : Int32)) hx hb d_Md_equals_147 (by decide) ?_
      refine lv_icmp_ne (tgt := 156) hx hb d_Md_equals_148 (by decide) (fun hc => ?_) (fun hc => ?_)
      · replace h := h.1 hc
        refine lv_aload_n hx hb d_Md_equals_156 rfl (lv_at hl 0 rfl) ?_
        refine lv_iload_n hx hb d_Md_equals_157 rfl (lv_at hl 2 rfl) ?_
        refine lv_aload_n hx hb d_Md_equals_158 rfl (lv_at hl 0 rfl) ?_
        refine va_get (D := D) (ci := 10) (C := R_Md) (T := T_Md) (N := 46) hx hb hts in_Md hown hK hst.1 54 (WS_o54 g σ) rfl 13 (by decide) (hts _ gw1077) (fun _ h9 => h9) rfl d_Md_equals_159 ?_
        refine lv_iload hx hb d_Md_equals_162 (lv_at hl 5 rfl) ?_
        obtain ⟨hi, h⟩ := h
        refine va_iald hx hb hK hst.1 67 0 (WS_a67 g σ) rfl hi d_Md_equals_164 ?_
        refine lv_iconst (v := (1 : Int32)) hx hb d_Md_equals_165 (by decide) ?_
        refine lv_iadd hx hb d_Md_equals_166 ?_
        refine lv_aload_n hx hb d_Md_equals_167 rfl (lv_at hl 0 rfl) ?_
        refine va_get (D := D) (ci := 10) (C := R_Md) (T := T_Md) (N := 46) hx hb hts in_Md hown hK hst.1 54 (WS_o54 g σ) rfl 14 (by decide) (hts _ gw1078) (fun _ h9 => h9) rfl d_Md_equals_168 ?_
        refine lv_iload hx hb d_Md_equals_171 (lv_at hl 5 rfl) ?_
        obtain ⟨hi, h⟩ := h
        refine va_iald hx hb hK hst.1 68 0 (WS_a68 g σ) rfl hi d_Md_equals_173 ?_
        refine kw_calli (va_runV (As := [.int x2, .int ((σ.1 67 x5.toNatClampNeg) + (1 : Int32)), .int (σ.1 68 x5.toNatClampNeg)]) (rest := []) (b := g.1 54) ⟨hx, hb, hml, hown, hts⟩ (c_Md_childNamed l x2 ((σ.1 67 x5.toNatClampNeg) + (1 : Int32)) (σ.1 68 x5.toNatClampNeg) h) (cwV 3 hts (gd_v gw1313 gw1315 gs60 gw15 gw1316) rfl rfl rfl (by decide +kernel) ⟨Nat.le_of_ble_eq_true rfl, Nat.le_of_ble_eq_true rfl⟩) ⟨kw_blind (Zk_ok g), va_recv hK hst.1 rfl (WS_o54 g σ), kw_pre (Zk_ok g) hK hZ hA hst⟩ rfl rfl hl.1 rfl (lv_room (Nat.le_of_ble_eq_true rfl)) d_Md_equals_174 ⟨Nat.le_of_ble_eq_true rfl, Nat.le_of_ble_eq_true rfl⟩) hst hA (fun r1 σ1 H locs h hst => ?_)
        refine lv_istore hx hb d_Md_equals_177 hl (by decide) rfl (fun ls hl => ?_)
        have hl : lv_has ls 7 [(6, .int r1), (0, .ref (g.1 54)), (1, .int x1), (2, .int x2), (3, .int x3), (4, .int x4), (5, .int x5)] := hl
        exact j2 x1 x2 x4 x5 r1 σ1 _ _ _ (lv_sub hl [1, 2, 3, 5, 6, 0] rfl) hst h
      · replace h := h.2 hc
        refine lv_iload hx hb d_Md_equals_151 (lv_at hl 4 rfl) ?_
        refine lv_goto (tgt := 177) hx hb d_Md_equals_153 (by decide) ?_
        refine lv_istore hx hb d_Md_equals_177 hl (by decide) rfl (fun ls hl => ?_)
        have hl : lv_has ls 7 [(6, .int x4), (0, .ref (g.1 54)), (1, .int x1), (2, .int x2), (3, .int x3), (4, .int x4), (5, .int x5)] := hl
        exact j2 x1 x2 x4 x5 x4 σ _ _ _ (lv_sub hl [1, 2, 3, 5, 6, 0] rfl) hst h
set_option maxRecDepth 100000 in
set_option maxHeartbeats 4000000 in
theorem b_Md_equals_2 {p : Program} {l : Launch} {e : Env} {s : State} {m : MethodId} {args : Array Value} {below : List Frame} {meth : Method} {c : Code} {D : va_G} {g : Gm} {A : Nat → Prop} {post : Int32 → Sg → Prop} {F : Nat → Int32 → Int32 → Int32 → Int32 → Int32 → Int32 → Sg → Prop} (C : kC p s m args meth c k_Md_equals 7 (some .boolean) GW R_Md D vwCl g (Zk g) A) (j3 : J_Md_equals_3 p l e s m args below meth c D g A post F) (j4 : J_Md_equals_4 p l e s m args below meth c D g A post F) (x1 : Int32) (x2 : Int32) (x4 : Int32) (x5 : Int32) (x6 : Int32) (σ : Sg) (H : Heap) (locs : List Loc) (ls : Array Slot) (hl : lv_has ls 7 [(0, .ref (g.1 54)), (1, .int x1), (2, .int x2), (4, .int x4), (5, .int x5), (6, .int x6)]) (hst : Wst D vwCl (WS g) A s σ H locs) (h : wb_Md_equals_2 F post x1 x2 x4 x5 x6 σ) : W p l e { frames := 2, cells := 0, slots := 0, locals := 51 } s m args below meth c H locs 0 0 (MQ below (QiW D vwCl (WS g) post A) args s 0 0 A) (F0 m 179 ls []) := by
  obtain ⟨hx, hb, hr, hml, hown, hts, hlocks, hK, hZ, hA⟩ := C
  unfold wb_Md_equals_2 at h
  refine lv_iload hx hb d_Md_equals_179 (lv_at hl 5 rfl) ?_
  refine lv_if_lt (tgt := 199) hx hb d_Md_equals_181 (by decide) (fun hc => ?_) (fun hc => ?_)
  · replace h := h.1 hc
    exact j3 x1 x2 x4 x5 σ _ _ _ (lv_sub hl [0, 1, 2, 3, 4] rfl) hst h
  · replace h := h.2 hc
    refine lv_aload_n hx hb d_Md_equals_184 rfl (lv_at hl 0 rfl) ?_
    refine lv_iload hx hb d_Md_equals_185 (lv_at hl 4 rfl) ?_
    refine lv_iload hx hb d_Md_equals_187 (lv_at hl 5 rfl) ?_
    refine kw_calli (va_runV (As := [.int x5, .int x6]) (rest := []) (b := g.1 54) ⟨hx, hb, hml, hown, hts⟩ (c_Md_isEqual l x5 x6 h) (cwV 2 hts (gd_v gw1369 gw1371 gs70 gw15 gw1372) rfl rfl rfl (by decide +kernel) ⟨Nat.le_of_ble_eq_true rfl, Nat.le_of_ble_eq_true rfl⟩) ⟨kw_blind (Zk_ok g), va_recv hK hst.1 rfl (WS_o54 g σ), kw_pre (Zk_ok g) hK hZ hA hst⟩ rfl rfl hl.1 rfl (lv_room (Nat.le_of_ble_eq_true rfl)) d_Md_equals_189 ⟨Nat.le_of_ble_eq_true rfl, Nat.le_of_ble_eq_true rfl⟩) hst hA (fun r1 σ1 H locs h hst => ?_)
    refine lv_if_eq (tgt := 199) hx hb d_Md_equals_192 (by decide) (fun hc => ?_) (fun hc => ?_)
    · replace h := h.1 hc
      exact j3 x1 x2 x4 x5 σ1 _ _ _ (lv_sub hl [0, 1, 2, 3, 4] rfl) hst h
    · replace h := h.2 hc
      refine lv_iconst (v := (1 : Int32)) hx hb d_Md_equals_195 (by decide) ?_
      refine lv_goto (tgt := 200) hx hb d_Md_equals_196 (by decide) ?_
      refine lv_istore_n hx hb d_Md_equals_200 rfl hl (by decide) rfl (fun ls hl => ?_)
      have hl : lv_has ls 7 [(3, .int (1 : Int32)), (0, .ref (g.1 54)), (1, .int x1), (2, .int x2), (4, .int x4), (5, .int x5), (6, .int x6)] := hl
      exact j4 x1 x2 (1 : Int32) x4 x5 σ1 _ _ _ (lv_sub hl [1, 2, 3, 0, 4, 5] rfl) hst h
set_option maxRecDepth 100000 in
set_option maxHeartbeats 4000000 in
theorem b_Md_equals_3 {p : Program} {l : Launch} {e : Env} {s : State} {m : MethodId} {args : Array Value} {below : List Frame} {meth : Method} {c : Code} {D : va_G} {g : Gm} {A : Nat → Prop} {post : Int32 → Sg → Prop} {F : Nat → Int32 → Int32 → Int32 → Int32 → Int32 → Int32 → Sg → Prop} (C : kC p s m args meth c k_Md_equals 7 (some .boolean) GW R_Md D vwCl g (Zk g) A) (j4 : J_Md_equals_4 p l e s m args below meth c D g A post F) (x1 : Int32) (x2 : Int32) (x4 : Int32) (x5 : Int32) (σ : Sg) (H : Heap) (locs : List Loc) (ls : Array Slot) (hl : lv_has ls 7 [(0, .ref (g.1 54)), (1, .int x1), (2, .int x2), (4, .int x4), (5, .int x5)]) (hst : Wst D vwCl (WS g) A s σ H locs) (h : wb_Md_equals_3 F post x1 x2 x4 x5 σ) : W p l e { frames := 2, cells := 0, slots := 0, locals := 51 } s m args below meth c H locs 0 0 (MQ below (QiW D vwCl (WS g) post A) args s 0 0 A) (F0 m 199 ls []) := by
  obtain ⟨hx, hb, hr, hml, hown, hts, hlocks, hK, hZ, hA⟩ := C
  unfold wb_Md_equals_3 at h
  refine lv_iconst (v := (0 : Int32)) hx hb d_Md_equals_199 (by decide) ?_
  refine lv_istore_n hx hb d_Md_equals_200 rfl hl (by decide) rfl (fun ls hl => ?_)
  have hl : lv_has ls 7 [(3, .int (0 : Int32)), (0, .ref (g.1 54)), (1, .int x1), (2, .int x2), (4, .int x4), (5, .int x5)] := hl
  exact j4 x1 x2 (0 : Int32) x4 x5 σ _ _ _ (lv_sub hl [1, 2, 3, 0, 4, 5] rfl) hst h
set_option maxRecDepth 100000 in
set_option maxHeartbeats 4000000 in
theorem b_Md_equals_4 {p : Program} {l : Launch} {e : Env} {s : State} {m : MethodId} {args : Array Value} {below : List Frame} {meth : Method} {c : Code} {D : va_G} {g : Gm} {A : Nat → Prop} {post : Int32 → Sg → Prop} {F : Nat → Int32 → Int32 → Int32 → Int32 → Int32 → Int32 → Sg → Prop} (C : kC p s m args meth c k_Md_equals 7 (some .boolean) GW R_Md D vwCl g (Zk g) A) (j1 : J_Md_equals_1 p l e s m args below meth c D g A post F) (x1 : Int32) (x2 : Int32) (x3 : Int32) (x4 : Int32) (x5 : Int32) (σ : Sg) (H : Heap) (locs : List Loc) (ls : Array Slot) (hl : lv_has ls 7 [(0, .ref (g.1 54)), (1, .int x1), (2, .int x2), (3, .int x3), (4, .int x4), (5, .int x5)]) (hst : Wst D vwCl (WS g) A s σ H locs) (h : wb_Md_equals_4 F post x1 x2 x3 x4 x5 σ) : W p l e { frames := 2, cells := 0, slots := 0, locals := 51 } s m args below meth c H locs 0 0 (MQ below (QiW D vwCl (WS g) post A) args s 0 0 A) (F0 m 201 ls []) := by
  obtain ⟨hx, hb, hr, hml, hown, hts, hlocks, hK, hZ, hA⟩ := C
  unfold wb_Md_equals_4 at h
  refine lv_iload hx hb d_Md_equals_201 (lv_at hl 4 rfl) ?_
  refine lv_if_ge (tgt := 210) hx hb d_Md_equals_203 (by decide) (fun hc => ?_) (fun hc => ?_)
  · replace h := h.1 hc
    refine lv_aload_n hx hb d_Md_equals_210 rfl (lv_at hl 0 rfl) ?_
    refine va_get (D := D) (ci := 10) (C := R_Md) (T := T_Md) (N := 46) hx hb hts in_Md hown hK hst.1 54 (WS_o54 g σ) rfl 12 (by decide) (hts _ gw1076) (fun _ h9 => h9) rfl d_Md_equals_211 ?_
    refine lv_iload hx hb d_Md_equals_214 (lv_at hl 4 rfl) ?_
    obtain ⟨hi, h⟩ := h
    refine va_iald hx hb hK hst.1 66 0 (WS_a66 g σ) rfl hi d_Md_equals_216 ?_
    refine lv_istore hx hb d_Md_equals_217 hl (by decide) rfl (fun ls hl => ?_)
    have hl : lv_has ls 7 [(4, .int (σ.1 66 x4.toNatClampNeg)), (0, .ref (g.1 54)), (1, .int x1), (2, .int x2), (3, .int x3), (5, .int x5)] := hl
    refine lv_aload_n hx hb d_Md_equals_219 rfl (lv_at hl 1 rfl) ?_
    refine va_get (D := D) (ci := 10) (C := R_Md) (T := T_Md) (N := 46) hx hb hts in_Md hown hK hst.1 54 (WS_o54 g σ) rfl 12 (by decide) (hts _ gw1076) (fun _ h9 => h9) rfl d_Md_equals_220 ?_
    refine lv_iload hx hb d_Md_equals_223 (lv_at hl 5 rfl) ?_
    obtain ⟨hi, h⟩ := h
    refine va_iald hx hb hK hst.1 66 0 (WS_a66 g σ) rfl hi d_Md_equals_225 ?_
    refine lv_istore hx hb d_Md_equals_226 hl (by decide) rfl (fun ls hl => ?_)
    have hl : lv_has ls 7 [(5, .int (σ.1 66 x5.toNatClampNeg)), (4, .int (σ.1 66 x4.toNatClampNeg)), (0, .ref (g.1 54)), (1, .int x1), (2, .int x2), (3, .int x3)] := hl
    refine lv_goto (tgt := 132) hx hb d_Md_equals_228 (by decide) ?_
    exact j1 x1 x2 x3 (σ.1 66 x4.toNatClampNeg) (σ.1 66 x5.toNatClampNeg) σ _ _ _ (lv_sub hl [2, 3, 4, 5, 1, 0] rfl) hst h
  · replace h := h.2 hc
    refine lv_iconst (v := (-1 : Int32)) hx hb d_Md_equals_206 (by decide) ?_
    refine lv_goto (tgt := 217) hx hb d_Md_equals_207 (by decide) ?_
    refine lv_istore hx hb d_Md_equals_217 hl (by decide) rfl (fun ls hl => ?_)
    have hl : lv_has ls 7 [(4, .int (-1 : Int32)), (0, .ref (g.1 54)), (1, .int x1), (2, .int x2), (3, .int x3), (5, .int x5)] := hl
    refine lv_aload_n hx hb d_Md_equals_219 rfl (lv_at hl 1 rfl) ?_
    refine va_get (D := D) (ci := 10) (C := R_Md) (T := T_Md) (N := 46) hx hb hts in_Md hown hK hst.1 54 (WS_o54 g σ) rfl 12 (by decide) (hts _ gw1076) (fun _ h9 => h9) rfl d_Md_equals_220 ?_
    refine lv_iload hx hb d_Md_equals_223 (lv_at hl 5 rfl) ?_
    obtain ⟨hi, h⟩ := h
    refine va_iald hx hb hK hst.1 66 0 (WS_a66 g σ) rfl hi d_Md_equals_225 ?_
    refine lv_istore hx hb d_Md_equals_226 hl (by decide) rfl (fun ls hl => ?_)
    have hl : lv_has ls 7 [(5, .int (σ.1 66 x5.toNatClampNeg)), (4, .int (-1 : Int32)), (0, .ref (g.1 54)), (1, .int x1), (2, .int x2), (3, .int x3)] := hl
    refine lv_goto (tgt := 132) hx hb d_Md_equals_228 (by decide) ?_
    exact j1 x1 x2 x3 (-1 : Int32) (σ.1 66 x5.toNatClampNeg) σ _ _ _ (lv_sub hl [2, 3, 4, 5, 1, 0] rfl) hst h
set_option maxRecDepth 100000 in
set_option maxHeartbeats 4000000 in
theorem a_Md_equals {p : Program} {l : Launch} {e : Env} {s : State} {m : MethodId} {args : Array Value} {below : List Frame} {meth : Method} {c : Code} {D : va_G} {g : Gm} {A : Nat → Prop} {post : Int32 → Sg → Prop} (C : kC p s m args meth c k_Md_equals 7 (some .boolean) GW R_Md D vwCl g (Zk g) A) : ∀ n : Nat, J_Md_equals_1 p l e s m args below meth c D g A post (wp_Md_equals post n) ∧ J_Md_equals_2 p l e s m args below meth c D g A post (wp_Md_equals post n) ∧ J_Md_equals_3 p l e s m args below meth c D g A post (wp_Md_equals post n) ∧ J_Md_equals_4 p l e s m args below meth c D g A post (wp_Md_equals post n) := by
  intro n
  induction n with
  | zero => exact ⟨fun _ _ _ _ _ _ _ _ _ _ _ h => h.elim, fun _ _ _ _ _ _ _ _ _ _ _ h => h.elim, fun _ _ _ _ _ _ _ _ _ _ h => h.elim, fun _ _ _ _ _ _ _ _ _ _ _ h => h.elim⟩
  | succ n ih => exact ⟨fun x1 x2 x3 x4 x5 σ H locs ls hl hst h => b_Md_equals_1 (F := wp_Md_equals post n) C (ih.2.1) x1 x2 x3 x4 x5 σ H locs ls hl hst h, fun x1 x2 x4 x5 x6 σ H locs ls hl hst h => b_Md_equals_2 (F := wp_Md_equals post n) C (ih.2.2.1) (ih.2.2.2) x1 x2 x4 x5 x6 σ H locs ls hl hst h, fun x1 x2 x4 x5 σ H locs ls hl hst h => b_Md_equals_3 (F := wp_Md_equals post n) C (ih.2.2.2) x1 x2 x4 x5 σ H locs ls hl hst h, fun x1 x2 x3 x4 x5 σ H locs ls hl hst h => b_Md_equals_4 (F := wp_Md_equals post n) C (ih.1) x1 x2 x3 x4 x5 σ H locs ls hl hst h⟩
set_option maxRecDepth 100000 in
set_option maxHeartbeats 4000000 in
theorem c_Md_equals (l : Launch) {D : va_G} {g : Gm} {sz : Nat} (x1 : Int32) (x2 : Int32) {σ : Sg} {post : Int32 → Sg → Prop} (h : wq_Md_equals x1 x2 σ post) : Met l y_Md_equals (.code y_Md_equals k_Md_equals 7 (some .boolean) :: GW) { frames := 2, cells := 0, slots := 0, locals := 51 } (PcW D vwCl (WS g) g (Zk g) σ sz [.ref (g.1 54), .int x1, .int x2]) (QiW D vwCl (WS g) post (va_A (WS g σ) sz)) 0 0 (va_A (WS g σ) sz) := by
  refine kw_entry (own := R_Md) (by decide) rfl rfl (Nat.le_of_ble_eq_true rfl) ?_
  intro p e s m below meth c ls hsz C hin hl hst
  obtain ⟨n, h⟩ := h
  cases n with
  | zero => exact h.elim
  | succ n =>
    have ih := a_Md_equals (l := l) (e := e) (below := below) (post := post) C n
    exact b_Md_equals_0 (F := wp_Md_equals post n) C (ih.1) x1 x2 σ _ _ ls hl hst h
/-! SchemaDeskModel.compare ()V -/
abbrev k_Md_compare : ByteArray := prog_12_method_47_code
abbrev y_Md_compare : MethodName := ⟨"SchemaDeskModel", "compare", "()V"⟩
theorem d_Md_compare_0 : decode k_Md_compare 0 = .ok (.aload_n 0, 1) := by decide +kernel
theorem d_Md_compare_1 : decode k_Md_compare 1 = .ok (.getfield 74, 3) := by decide +kernel
theorem d_Md_compare_4 : decode k_Md_compare 4 = .ok (.iconst 0, 1) := by decide +kernel
theorem d_Md_compare_5 : decode k_Md_compare 5 = .ok (.iaload, 1) := by decide +kernel
theorem d_Md_compare_6 : decode k_Md_compare 6 = .ok (.iconst 1, 1) := by decide +kernel
theorem d_Md_compare_7 : decode k_Md_compare 7 = .ok (.isub, 1) := by decide +kernel
theorem d_Md_compare_8 : decode k_Md_compare 8 = .ok (.istore_n 1, 1) := by decide +kernel
theorem d_Md_compare_9 : decode k_Md_compare 9 = .ok (.iload_n 1, 1) := by decide +kernel
theorem d_Md_compare_10 : decode k_Md_compare 10 = .ok (.ifCond .lt 109, 3) := by decide +kernel
theorem d_Md_compare_13 : decode k_Md_compare 13 = .ok (.aload_n 0, 1) := by decide +kernel
theorem d_Md_compare_14 : decode k_Md_compare 14 = .ok (.getfield 141, 3) := by decide +kernel
theorem d_Md_compare_17 : decode k_Md_compare 17 = .ok (.iload_n 1, 1) := by decide +kernel
theorem d_Md_compare_18 : decode k_Md_compare 18 = .ok (.lconst 0, 1) := by decide +kernel
theorem d_Md_compare_19 : decode k_Md_compare 19 = .ok (.lastore, 1) := by decide +kernel
theorem d_Md_compare_20 : decode k_Md_compare 20 = .ok (.aload_n 0, 1) := by decide +kernel
theorem d_Md_compare_21 : decode k_Md_compare 21 = .ok (.getfield 144, 3) := by decide +kernel
theorem d_Md_compare_24 : decode k_Md_compare 24 = .ok (.iload_n 1, 1) := by decide +kernel
theorem d_Md_compare_25 : decode k_Md_compare 25 = .ok (.lconst 0, 1) := by decide +kernel
theorem d_Md_compare_26 : decode k_Md_compare 26 = .ok (.lastore, 1) := by decide +kernel
theorem d_Md_compare_27 : decode k_Md_compare 27 = .ok (.sipush 160, 3) := by decide +kernel
theorem d_Md_compare_30 : decode k_Md_compare 30 = .ok (.aload_n 0, 1) := by decide +kernel
theorem d_Md_compare_31 : decode k_Md_compare 31 = .ok (.getfield 74, 3) := by decide +kernel
theorem d_Md_compare_34 : decode k_Md_compare 34 = .ok (.iconst 1, 1) := by decide +kernel
theorem d_Md_compare_35 : decode k_Md_compare 35 = .ok (.iaload, 1) := by decide +kernel
theorem d_Md_compare_36 : decode k_Md_compare 36 = .ok (.iadd, 1) := by decide +kernel
theorem d_Md_compare_37 : decode k_Md_compare 37 = .ok (.iconst 1, 1) := by decide +kernel
theorem d_Md_compare_38 : decode k_Md_compare 38 = .ok (.isub, 1) := by decide +kernel
theorem d_Md_compare_39 : decode k_Md_compare 39 = .ok (.istore_n 2, 1) := by decide +kernel
theorem d_Md_compare_40 : decode k_Md_compare 40 = .ok (.iload_n 2, 1) := by decide +kernel
theorem d_Md_compare_41 : decode k_Md_compare 41 = .ok (.sipush 160, 3) := by decide +kernel
theorem d_Md_compare_44 : decode k_Md_compare 44 = .ok (.if_icmp .lt 69, 3) := by decide +kernel
theorem d_Md_compare_47 : decode k_Md_compare 47 = .ok (.aload_n 0, 1) := by decide +kernel
theorem d_Md_compare_48 : decode k_Md_compare 48 = .ok (.iload_n 1, 1) := by decide +kernel
theorem d_Md_compare_49 : decode k_Md_compare 49 = .ok (.iload_n 2, 1) := by decide +kernel
theorem d_Md_compare_50 : decode k_Md_compare 50 = .ok (.invokevirtual 307, 3) := by decide +kernel
theorem d_Md_compare_53 : decode k_Md_compare 53 = .ok (.istore_n 3, 1) := by decide +kernel
theorem d_Md_compare_54 : decode k_Md_compare 54 = .ok (.aload_n 0, 1) := by decide +kernel
theorem d_Md_compare_55 : decode k_Md_compare 55 = .ok (.aload_n 0, 1) := by decide +kernel
theorem d_Md_compare_56 : decode k_Md_compare 56 = .ok (.getfield 141, 3) := by decide +kernel
theorem d_Md_compare_59 : decode k_Md_compare 59 = .ok (.iload_n 1, 1) := by decide +kernel
theorem d_Md_compare_60 : decode k_Md_compare 60 = .ok (.laload, 1) := by decide +kernel
theorem d_Md_compare_61 : decode k_Md_compare 61 = .ok (.putfield 277, 3) := by decide +kernel
theorem d_Md_compare_64 : decode k_Md_compare 64 = .ok (.aload_n 0, 1) := by decide +kernel
theorem d_Md_compare_65 : decode k_Md_compare 65 = .ok (.aload_n 0, 1) := by decide +kernel
theorem d_Md_compare_66 : decode k_Md_compare 66 = .ok (.getfield 144, 3) := by decide +kernel
theorem d_Md_compare_69 : decode k_Md_compare 69 = .ok (.iload_n 1, 1) := by decide +kernel
theorem d_Md_compare_70 : decode k_Md_compare 70 = .ok (.laload, 1) := by decide +kernel
theorem d_Md_compare_71 : decode k_Md_compare 71 = .ok (.putfield 281, 3) := by decide +kernel
theorem d_Md_compare_74 : decode k_Md_compare 74 = .ok (.iload_n 3, 1) := by decide +kernel
theorem d_Md_compare_75 : decode k_Md_compare 75 = .ok (.ifCond .eq 12, 3) := by decide +kernel
theorem d_Md_compare_78 : decode k_Md_compare 78 = .ok (.aload_n 0, 1) := by decide +kernel
theorem d_Md_compare_79 : decode k_Md_compare 79 = .ok (.iload_n 2, 1) := by decide +kernel
theorem d_Md_compare_80 : decode k_Md_compare 80 = .ok (.sipush 160, 3) := by decide +kernel
theorem d_Md_compare_83 : decode k_Md_compare 83 = .ok (.isub, 1) := by decide +kernel
theorem d_Md_compare_84 : decode k_Md_compare 84 = .ok (.invokevirtual 288, 3) := by decide +kernel
theorem d_Md_compare_87 : decode k_Md_compare 87 = .ok (.aload_n 0, 1) := by decide +kernel
theorem d_Md_compare_88 : decode k_Md_compare 88 = .ok (.getfield 141, 3) := by decide +kernel
theorem d_Md_compare_91 : decode k_Md_compare 91 = .ok (.iload_n 1, 1) := by decide +kernel
theorem d_Md_compare_92 : decode k_Md_compare 92 = .ok (.aload_n 0, 1) := by decide +kernel
theorem d_Md_compare_93 : decode k_Md_compare 93 = .ok (.getfield 277, 3) := by decide +kernel
theorem d_Md_compare_96 : decode k_Md_compare 96 = .ok (.lastore, 1) := by decide +kernel
theorem d_Md_compare_97 : decode k_Md_compare 97 = .ok (.aload_n 0, 1) := by decide +kernel
theorem d_Md_compare_98 : decode k_Md_compare 98 = .ok (.getfield 144, 3) := by decide +kernel
theorem d_Md_compare_101 : decode k_Md_compare 101 = .ok (.iload_n 1, 1) := by decide +kernel
theorem d_Md_compare_102 : decode k_Md_compare 102 = .ok (.aload_n 0, 1) := by decide +kernel
theorem d_Md_compare_103 : decode k_Md_compare 103 = .ok (.getfield 281, 3) := by decide +kernel
theorem d_Md_compare_106 : decode k_Md_compare 106 = .ok (.lastore, 1) := by decide +kernel
theorem d_Md_compare_107 : decode k_Md_compare 107 = .ok (.iinc 2 (-1), 3) := by decide +kernel
theorem d_Md_compare_110 : decode k_Md_compare 110 = .ok (.goto (-70), 3) := by decide +kernel
theorem d_Md_compare_113 : decode k_Md_compare 113 = .ok (.iinc 1 (-1), 3) := by decide +kernel
theorem d_Md_compare_116 : decode k_Md_compare 116 = .ok (.goto (-107), 3) := by decide +kernel
theorem d_Md_compare_119 : decode k_Md_compare 119 = .ok (.return_, 1) := by decide +kernel
theorem gw1365 : (Jvm.Cond.methodLink "SchemaDeskModel" (307 : Nat) ({ cls := "SchemaDeskModel", name := "equals", desc := "(II)Z" } : Jvm.MethodName)) ∈ GW := gw_t6 (List.mem_of_getElem? (i := 165) rfl) rfl
theorem gw1367 : (Jvm.Cond.instanceMethod ({ cls := "SchemaDeskModel", name := "equals", desc := "(II)Z" } : Jvm.MethodName)) ∈ GW := gw_t6 (List.mem_of_getElem? (i := 167) rfl) rfl
theorem gs69 : Cond.selects "SchemaDeskModel" ⟨"SchemaDeskModel", "equals", "(II)Z"⟩ ⟨"SchemaDeskModel", "equals", "(II)Z"⟩ ∈ GW := gw_p5 (q := (⟨"SchemaDeskModel", "equals", "(II)Z"⟩, 46)) (List.mem_of_getElem? (i := 5) rfl)
theorem gw1368 : (Jvm.Cond.code ({ cls := "SchemaDeskModel", name := "equals", desc := "(II)Z" } : Jvm.MethodName) prog_12_method_46_code (7 : Nat) (Option.some Jvm.ClassFile.FieldType.boolean)) ∈ GW := gw_t6 (List.mem_of_getElem? (i := 168) rfl) rfl
def wb_Md_compare_0 (F : Nat → Int32 → Int32 → Sg → Prop) (post : Sg → Prop) (σ : Sg) : Prop := (vp_in (0 : Int32) 2 ∧ F 1 ((σ.1 58 ((0 : Int32) : Int32).toNatClampNeg) - (1 : Int32)) 0 σ)
def wb_Md_compare_1 (F : Nat → Int32 → Int32 → Sg → Prop) (post : Sg → Prop) (x1 : Int32) (σ : Sg) : Prop := ((x1 < 0 → post σ) ∧ (¬ x1 < 0 → (vp_in x1 160 ∧ (∀ σ1, σ1 = sl σ 80 x1.toNatClampNeg (0 : Int64) → (vp_in x1 160 ∧ (∀ σ2, σ2 = sl σ1 81 x1.toNatClampNeg (0 : Int64) → (vp_in (1 : Int32) 2 ∧ F 2 x1 (((160 : Int32) + (σ2.1 58 ((1 : Int32) : Int32).toNatClampNeg)) - (1 : Int32)) σ2)))))))
def wb_Md_compare_2 (F : Nat → Int32 → Int32 → Sg → Prop) (post : Sg → Prop) (x1 : Int32) (x2 : Int32) (σ : Sg) : Prop := ((x2 < (160 : Int32) → F 1 (x1 + (-1)) 0 σ) ∧ (¬ x2 < (160 : Int32) → (wq_Md_equals x1 x2 σ (fun r1 σ1 => (vp_in x1 160 ∧ (∀ σ2, σ2 = sl σ1 54 38 (σ1.2.1 80 x1.toNatClampNeg) → (vp_in x1 160 ∧ (∀ σ3, σ3 = sl σ2 54 39 (σ2.2.1 81 x1.toNatClampNeg) → ((r1 = 0 → F 3 x1 x2 σ3) ∧ (¬ r1 = 0 → (wq_Md_add (x2 - (160 : Int32)) σ3 (fun σ4 => F 3 x1 x2 σ4))))))))))))
def wb_Md_compare_3 (F : Nat → Int32 → Int32 → Sg → Prop) (post : Sg → Prop) (x1 : Int32) (x2 : Int32) (σ : Sg) : Prop := (vp_in x1 160 ∧ (∀ σ1, σ1 = sl σ 80 x1.toNatClampNeg (σ.2.1 54 38) → (vp_in x1 160 ∧ (∀ σ2, σ2 = sl σ1 81 x1.toNatClampNeg (σ1.2.1 54 39) → F 2 x1 (x2 + (-1)) σ2))))
def wp_Md_compare (post : Sg → Prop) : Nat → Nat → Int32 → Int32 → Sg → Prop
  | 0, _, _, _, _ => False
  | n + 1, k, x1, x2, σ => match k with
    | 0 => wb_Md_compare_0 (wp_Md_compare post n) post σ
    | 1 => wb_Md_compare_1 (wp_Md_compare post n) post x1 σ
    | 2 => wb_Md_compare_2 (wp_Md_compare post n) post x1 x2 σ
    | 3 => wb_Md_compare_3 (wp_Md_compare post n) post x1 x2 σ
    | _ => False
def wq_Md_compare (σ : Sg) (post : Sg → Prop) : Prop := ∃ n, wp_Md_compare post n 0 0 0 σ
def J_Md_compare_1 (p : Program) (l : Launch) (e : Env) (s : State) (m : MethodId) (args : Array Value) (below : List Frame) (meth : Method) (c : Code) (D : va_G) (g : Gm) (A : Nat → Prop) (post : Sg → Prop) (F : Nat → Int32 → Int32 → Sg → Prop) : Prop := ∀ (x1 : Int32) (σ : Sg) (H : Heap) (locs : List Loc) (ls : Array Slot), lv_has ls 4 [(0, .ref (g.1 54)), (1, .int x1)] → Wst D vwCl (WS g) A s σ H locs → F 1 x1 0 σ → W p l e { frames := 3, cells := 0, slots := 0, locals := 77 } s m args below meth c H locs 0 0 (MQ below (QvW D vwCl (WS g) post A) args s 0 0 A) (F0 m 9 ls [])
def J_Md_compare_2 (p : Program) (l : Launch) (e : Env) (s : State) (m : MethodId) (args : Array Value) (below : List Frame) (meth : Method) (c : Code) (D : va_G) (g : Gm) (A : Nat → Prop) (post : Sg → Prop) (F : Nat → Int32 → Int32 → Sg → Prop) : Prop := ∀ (x1 : Int32) (x2 : Int32) (σ : Sg) (H : Heap) (locs : List Loc) (ls : Array Slot), lv_has ls 4 [(0, .ref (g.1 54)), (1, .int x1), (2, .int x2)] → Wst D vwCl (WS g) A s σ H locs → F 2 x1 x2 σ → W p l e { frames := 3, cells := 0, slots := 0, locals := 77 } s m args below meth c H locs 0 0 (MQ below (QvW D vwCl (WS g) post A) args s 0 0 A) (F0 m 40 ls [])
def J_Md_compare_3 (p : Program) (l : Launch) (e : Env) (s : State) (m : MethodId) (args : Array Value) (below : List Frame) (meth : Method) (c : Code) (D : va_G) (g : Gm) (A : Nat → Prop) (post : Sg → Prop) (F : Nat → Int32 → Int32 → Sg → Prop) : Prop := ∀ (x1 : Int32) (x2 : Int32) (σ : Sg) (H : Heap) (locs : List Loc) (ls : Array Slot), lv_has ls 4 [(0, .ref (g.1 54)), (1, .int x1), (2, .int x2)] → Wst D vwCl (WS g) A s σ H locs → F 3 x1 x2 σ → W p l e { frames := 3, cells := 0, slots := 0, locals := 77 } s m args below meth c H locs 0 0 (MQ below (QvW D vwCl (WS g) post A) args s 0 0 A) (F0 m 87 ls [])
set_option maxRecDepth 100000 in
set_option maxHeartbeats 4000000 in
theorem b_Md_compare_0 {p : Program} {l : Launch} {e : Env} {s : State} {m : MethodId} {args : Array Value} {below : List Frame} {meth : Method} {c : Code} {D : va_G} {g : Gm} {A : Nat → Prop} {post : Sg → Prop} {F : Nat → Int32 → Int32 → Sg → Prop} (C : kC p s m args meth c k_Md_compare 4 (none) GW R_Md D vwCl g (Zk g) A) (j1 : J_Md_compare_1 p l e s m args below meth c D g A post F) (σ : Sg) (H : Heap) (locs : List Loc) (ls : Array Slot) (hl : lv_has ls 4 [(0, .ref (g.1 54))]) (hst : Wst D vwCl (WS g) A s σ H locs) (h : wb_Md_compare_0 F post σ) : W p l e { frames := 3, cells := 0, slots := 0, locals := 77 } s m args below meth c H locs 0 0 (MQ below (QvW D vwCl (WS g) post A) args s 0 0 A) (F0 m 0 ls []) := by
  obtain ⟨hx, hb, hr, hml, hown, hts, hlocks, hK, hZ, hA⟩ := C
  unfold wb_Md_compare_0 at h
  refine lv_aload_n hx hb d_Md_compare_0 rfl (lv_at hl 0 rfl) ?_
  refine va_get (D := D) (ci := 10) (C := R_Md) (T := T_Md) (N := 46) hx hb hts in_Md hown hK hst.1 54 (WS_o54 g σ) rfl 4 (by decide) (hts _ gw1068) (fun _ h9 => h9) rfl d_Md_compare_1 ?_
  refine lv_iconst (v := (0 : Int32)) hx hb d_Md_compare_4 (by decide) ?_
  obtain ⟨hi, h⟩ := h
  refine va_iald hx hb hK hst.1 58 0 (WS_a58 g σ) rfl hi d_Md_compare_5 ?_
  refine lv_iconst (v := (1 : Int32)) hx hb d_Md_compare_6 (by decide) ?_
  refine lv_isub hx hb d_Md_compare_7 ?_
  refine lv_istore_n hx hb d_Md_compare_8 rfl hl (by decide) rfl (fun ls hl => ?_)
  have hl : lv_has ls 4 [(1, .int ((σ.1 58 ((0 : Int32) : Int32).toNatClampNeg) - (1 : Int32))), (0, .ref (g.1 54))] := hl
  exact j1 ((σ.1 58 ((0 : Int32) : Int32).toNatClampNeg) - (1 : Int32)) σ _ _ _ (lv_sub hl [1, 0] rfl) hst h
set_option maxRecDepth 100000 in
set_option maxHeartbeats 4000000 in
theorem b_Md_compare_1 {p : Program} {l : Launch} {e : Env} {s : State} {m : MethodId} {args : Array Value} {below : List Frame} {meth : Method} {c : Code} {D : va_G} {g : Gm} {A : Nat → Prop} {post : Sg → Prop} {F : Nat → Int32 → Int32 → Sg → Prop} (C : kC p s m args meth c k_Md_compare 4 (none) GW R_Md D vwCl g (Zk g) A) (j2 : J_Md_compare_2 p l e s m args below meth c D g A post F) (x1 : Int32) (σ : Sg) (H : Heap) (locs : List Loc) (ls : Array Slot) (hl : lv_has ls 4 [(0, .ref (g.1 54)), (1, .int x1)]) (hst : Wst D vwCl (WS g) A s σ H locs) (h : wb_Md_compare_1 F post x1 σ) : W p l e { frames := 3, cells := 0, slots := 0, locals := 77 } s m args below meth c H locs 0 0 (MQ below (QvW D vwCl (WS g) post A) args s 0 0 A) (F0 m 9 ls []) := by
  obtain ⟨hx, hb, hr, hml, hown, hts, hlocks, hK, hZ, hA⟩ := C
  unfold wb_Md_compare_1 at h
  refine lv_iload_n hx hb d_Md_compare_9 rfl (lv_at hl 1 rfl) ?_
  refine lv_if_lt (tgt := 119) hx hb d_Md_compare_10 (by decide) (fun hc => ?_) (fun hc => ?_)
  · replace h := h.1 hc
    exact kw_vret hx hb hr hlocks hst h d_Md_compare_119
  · replace h := h.2 hc
    refine lv_aload_n hx hb d_Md_compare_13 rfl (lv_at hl 0 rfl) ?_
    refine va_get (D := D) (ci := 10) (C := R_Md) (T := T_Md) (N := 46) hx hb hts in_Md hown hK hst.1 54 (WS_o54 g σ) rfl 30 (by decide) (hts _ gw1094) (fun _ h9 => h9) rfl d_Md_compare_14 ?_
    refine lv_iload_n hx hb d_Md_compare_17 rfl (lv_at hl 1 rfl) ?_
    refine lv_lconst (v := (0 : Int64)) hx hb d_Md_compare_18 (by decide) ?_
    obtain ⟨hi, h⟩ := h
    refine kw_last hx hb hK hst 80 (WS_a80 g σ) hi (WS_s80 g σ _ _) d_Md_compare_19 (fun σ1 H locs e1 hst => ?_)
    replace h := h σ1 e1
    refine lv_aload_n hx hb d_Md_compare_20 rfl (lv_at hl 0 rfl) ?_
    refine va_get (D := D) (ci := 10) (C := R_Md) (T := T_Md) (N := 46) hx hb hts in_Md hown hK hst.1 54 (WS_o54 g σ1) rfl 31 (by decide) (hts _ gw1095) (fun _ h9 => h9) rfl d_Md_compare_21 ?_
    refine lv_iload_n hx hb d_Md_compare_24 rfl (lv_at hl 1 rfl) ?_
    refine lv_lconst (v := (0 : Int64)) hx hb d_Md_compare_25 (by decide) ?_
    obtain ⟨hi, h⟩ := h
    refine kw_last hx hb hK hst 81 (WS_a81 g σ1) hi (WS_s81 g σ1 _ _) d_Md_compare_26 (fun σ2 H locs e2 hst => ?_)
    replace h := h σ2 e2
    refine lv_sipush (v := (160 : Int32)) hx hb d_Md_compare_27 (by decide) ?_
    refine lv_aload_n hx hb d_Md_compare_30 rfl (lv_at hl 0 rfl) ?_
    refine va_get (D := D) (ci := 10) (C := R_Md) (T := T_Md) (N := 46) hx hb hts in_Md hown hK hst.1 54 (WS_o54 g σ2) rfl 4 (by decide) (hts _ gw1068) (fun _ h9 => h9) rfl d_Md_compare_31 ?_
    refine lv_iconst (v := (1 : Int32)) hx hb d_Md_compare_34 (by decide) ?_
    obtain ⟨hi, h⟩ := h
    refine va_iald hx hb hK hst.1 58 0 (WS_a58 g σ2) rfl hi d_Md_compare_35 ?_
    refine lv_iadd hx hb d_Md_compare_36 ?_
    refine lv_iconst (v := (1 : Int32)) hx hb d_Md_compare_37 (by decide) ?_
    refine lv_isub hx hb d_Md_compare_38 ?_
    refine lv_istore_n hx hb d_Md_compare_39 rfl hl (by decide) rfl (fun ls hl => ?_)
    have hl : lv_has ls 4 [(2, .int (((160 : Int32) + (σ2.1 58 ((1 : Int32) : Int32).toNatClampNeg)) - (1 : Int32))), (0, .ref (g.1 54)), (1, .int x1)] := hl
    exact j2 x1 (((160 : Int32) + (σ2.1 58 ((1 : Int32) : Int32).toNatClampNeg)) - (1 : Int32)) σ2 _ _ _ (lv_sub hl [1, 2, 0] rfl) hst h
set_option maxRecDepth 100000 in
set_option maxHeartbeats 4000000 in
theorem b_Md_compare_2 {p : Program} {l : Launch} {e : Env} {s : State} {m : MethodId} {args : Array Value} {below : List Frame} {meth : Method} {c : Code} {D : va_G} {g : Gm} {A : Nat → Prop} {post : Sg → Prop} {F : Nat → Int32 → Int32 → Sg → Prop} (C : kC p s m args meth c k_Md_compare 4 (none) GW R_Md D vwCl g (Zk g) A) (j1 : J_Md_compare_1 p l e s m args below meth c D g A post F) (j3 : J_Md_compare_3 p l e s m args below meth c D g A post F) (x1 : Int32) (x2 : Int32) (σ : Sg) (H : Heap) (locs : List Loc) (ls : Array Slot) (hl : lv_has ls 4 [(0, .ref (g.1 54)), (1, .int x1), (2, .int x2)]) (hst : Wst D vwCl (WS g) A s σ H locs) (h : wb_Md_compare_2 F post x1 x2 σ) : W p l e { frames := 3, cells := 0, slots := 0, locals := 77 } s m args below meth c H locs 0 0 (MQ below (QvW D vwCl (WS g) post A) args s 0 0 A) (F0 m 40 ls []) := by
  obtain ⟨hx, hb, hr, hml, hown, hts, hlocks, hK, hZ, hA⟩ := C
  unfold wb_Md_compare_2 at h
  refine lv_iload_n hx hb d_Md_compare_40 rfl (lv_at hl 2 rfl) ?_
  refine lv_sipush (v := (160 : Int32)) hx hb d_Md_compare_41 (by decide) ?_
  refine lv_icmp_lt (tgt := 113) hx hb d_Md_compare_44 (by decide) (fun hc => ?_) (fun hc => ?_)
  · replace h := h.1 hc
    refine lv_iinc (k := 1) (v := (x1 + (-1))) hx hb d_Md_compare_113 hl rfl (kw_inc _ (by decide)) (by decide) rfl (fun ls hl => ?_)
    have hl : lv_has ls 4 [(1, .int (x1 + (-1))), (0, .ref (g.1 54)), (2, .int x2)] := hl
    refine lv_goto (tgt := 9) hx hb d_Md_compare_116 (by decide) ?_
    exact j1 (x1 + (-1)) σ _ _ _ (lv_sub hl [1, 0] rfl) hst h
  · replace h := h.2 hc
    refine lv_aload_n hx hb d_Md_compare_47 rfl (lv_at hl 0 rfl) ?_
    refine lv_iload_n hx hb d_Md_compare_48 rfl (lv_at hl 1 rfl) ?_
    refine lv_iload_n hx hb d_Md_compare_49 rfl (lv_at hl 2 rfl) ?_
    refine kw_calli (va_runV (As := [.int x1, .int x2]) (rest := []) (b := g.1 54) ⟨hx, hb, hml, hown, hts⟩ (c_Md_equals l x1 x2 h) (cwV 2 hts (gd_v gw1365 gw1367 gs69 gw15 gw1368) rfl rfl rfl (by decide +kernel) ⟨Nat.le_of_ble_eq_true rfl, Nat.le_of_ble_eq_true rfl⟩) ⟨kw_blind (Zk_ok g), va_recv hK hst.1 rfl (WS_o54 g σ), kw_pre (Zk_ok g) hK hZ hA hst⟩ rfl rfl hl.1 rfl (lv_room (Nat.le_of_ble_eq_true rfl)) d_Md_compare_50 ⟨Nat.le_of_ble_eq_true rfl, Nat.le_of_ble_eq_true rfl⟩) hst hA (fun r1 σ1 H locs h hst => ?_)
    refine lv_istore_n hx hb d_Md_compare_53 rfl hl (by decide) rfl (fun ls hl => ?_)
    have hl : lv_has ls 4 [(3, .int r1), (0, .ref (g.1 54)), (1, .int x1), (2, .int x2)] := hl
    refine lv_aload_n hx hb d_Md_compare_54 rfl (lv_at hl 1 rfl) ?_
    refine lv_aload_n hx hb d_Md_compare_55 rfl (lv_at hl 1 rfl) ?_
    refine va_get (D := D) (ci := 10) (C := R_Md) (T := T_Md) (N := 46) hx hb hts in_Md hown hK hst.1 54 (WS_o54 g σ1) rfl 30 (by decide) (hts _ gw1094) (fun _ h9 => h9) rfl d_Md_compare_56 ?_
    refine lv_iload_n hx hb d_Md_compare_59 rfl (lv_at hl 2 rfl) ?_
    obtain ⟨hi, h⟩ := h
    refine va_lald hx hb hK hst.1 80 3 (WS_a80 g σ1) rfl hi d_Md_compare_60 ?_
    refine kw_putl (D := D) (ci := 10) (ty := .long) (C := R_Md) (T := T_Md) (N := 46) hx hb hts in_Md ty_Md ty_Md_ok nm_Md hown hK hst 54 (WS_o54 g σ1) rfl 38 (by decide) (hts _ gw1102) (fun _ h9 => h9) rfl (by decide +kernel) rfl rfl (Nat.le_of_ble_eq_true rfl) (WS_p54_38 g σ1 _) d_Md_compare_61 (fun σ2 H locs e2 hst => ?_)
    replace h := h σ2 e2
    refine lv_aload_n hx hb d_Md_compare_64 rfl (lv_at hl 1 rfl) ?_
    refine lv_aload_n hx hb d_Md_compare_65 rfl (lv_at hl 1 rfl) ?_
    refine va_get (D := D) (ci := 10) (C := R_Md) (T := T_Md) (N := 46) hx hb hts in_Md hown hK hst.1 54 (WS_o54 g σ2) rfl 31 (by decide) (hts _ gw1095) (fun _ h9 => h9) rfl d_Md_compare_66 ?_
    refine lv_iload_n hx hb d_Md_compare_69 rfl (lv_at hl 2 rfl) ?_
    obtain ⟨hi, h⟩ := h
    refine va_lald hx hb hK hst.1 81 3 (WS_a81 g σ2) rfl hi d_Md_compare_70 ?_
    refine kw_putl (D := D) (ci := 10) (ty := .long) (C := R_Md) (T := T_Md) (N := 46) hx hb hts in_Md ty_Md ty_Md_ok nm_Md hown hK hst 54 (WS_o54 g σ2) rfl 39 (by decide) (hts _ gw1103) (fun _ h9 => h9) rfl (by decide +kernel) rfl rfl (Nat.le_of_ble_eq_true rfl) (WS_p54_39 g σ2 _) d_Md_compare_71 (fun σ3 H locs e3 hst => ?_)
    replace h := h σ3 e3
    refine lv_iload_n hx hb d_Md_compare_74 rfl (lv_at hl 0 rfl) ?_
    refine lv_if_eq (tgt := 87) hx hb d_Md_compare_75 (by decide) (fun hc => ?_) (fun hc => ?_)
    · replace h := h.1 hc
      exact j3 x1 x2 σ3 _ _ _ (lv_sub hl [1, 2, 3] rfl) hst h
    · replace h := h.2 hc
      refine lv_aload_n hx hb d_Md_compare_78 rfl (lv_at hl 1 rfl) ?_
      refine lv_iload_n hx hb d_Md_compare_79 rfl (lv_at hl 3 rfl) ?_
      refine lv_sipush (v := (160 : Int32)) hx hb d_Md_compare_80 (by decide) ?_
      refine lv_isub hx hb d_Md_compare_83 ?_
      refine kw_callv (va_runV (As := [.int (x2 - (160 : Int32))]) (rest := []) (b := g.1 54) ⟨hx, hb, hml, hown, hts⟩ (c_Md_add l (x2 - (160 : Int32)) h) (cwV 1 hts (gd_v gw1376 gw1378 gs71 gw15 gw1379) rfl rfl rfl (by decide +kernel) ⟨Nat.le_of_ble_eq_true rfl, Nat.le_of_ble_eq_true rfl⟩) ⟨kw_blind (Zk_ok g), va_recv hK hst.1 rfl (WS_o54 g σ3), kw_pre (Zk_ok g) hK hZ hA hst⟩ rfl rfl hl.1 rfl (lv_room (Nat.le_of_ble_eq_true rfl)) d_Md_compare_84 ⟨Nat.le_of_ble_eq_true rfl, Nat.le_of_ble_eq_true rfl⟩) hst hA (fun σ4 H locs h hst => ?_)
      exact j3 x1 x2 σ4 _ _ _ (lv_sub hl [1, 2, 3] rfl) hst h
set_option maxRecDepth 100000 in
set_option maxHeartbeats 4000000 in
theorem b_Md_compare_3 {p : Program} {l : Launch} {e : Env} {s : State} {m : MethodId} {args : Array Value} {below : List Frame} {meth : Method} {c : Code} {D : va_G} {g : Gm} {A : Nat → Prop} {post : Sg → Prop} {F : Nat → Int32 → Int32 → Sg → Prop} (C : kC p s m args meth c k_Md_compare 4 (none) GW R_Md D vwCl g (Zk g) A) (j2 : J_Md_compare_2 p l e s m args below meth c D g A post F) (x1 : Int32) (x2 : Int32) (σ : Sg) (H : Heap) (locs : List Loc) (ls : Array Slot) (hl : lv_has ls 4 [(0, .ref (g.1 54)), (1, .int x1), (2, .int x2)]) (hst : Wst D vwCl (WS g) A s σ H locs) (h : wb_Md_compare_3 F post x1 x2 σ) : W p l e { frames := 3, cells := 0, slots := 0, locals := 77 } s m args below meth c H locs 0 0 (MQ below (QvW D vwCl (WS g) post A) args s 0 0 A) (F0 m 87 ls []) := by
  obtain ⟨hx, hb, hr, hml, hown, hts, hlocks, hK, hZ, hA⟩ := C
  unfold wb_Md_compare_3 at h
  refine lv_aload_n hx hb d_Md_compare_87 rfl (lv_at hl 0 rfl) ?_
  refine va_get (D := D) (ci := 10) (C := R_Md) (T := T_Md) (N := 46) hx hb hts in_Md hown hK hst.1 54 (WS_o54 g σ) rfl 30 (by decide) (hts _ gw1094) (fun _ h9 => h9) rfl d_Md_compare_88 ?_
  refine lv_iload_n hx hb d_Md_compare_91 rfl (lv_at hl 1 rfl) ?_
  refine lv_aload_n hx hb d_Md_compare_92 rfl (lv_at hl 0 rfl) ?_
  refine va_get (D := D) (ci := 10) (C := R_Md) (T := T_Md) (N := 46) hx hb hts in_Md hown hK hst.1 54 (WS_o54 g σ) rfl 38 (by decide) (hts _ gw1102) (fun _ h9 => h9) rfl d_Md_compare_93 ?_
  obtain ⟨hi, h⟩ := h
  refine kw_last hx hb hK hst 80 (WS_a80 g σ) hi (WS_s80 g σ _ _) d_Md_compare_96 (fun σ1 H locs e1 hst => ?_)
  replace h := h σ1 e1
  refine lv_aload_n hx hb d_Md_compare_97 rfl (lv_at hl 0 rfl) ?_
  refine va_get (D := D) (ci := 10) (C := R_Md) (T := T_Md) (N := 46) hx hb hts in_Md hown hK hst.1 54 (WS_o54 g σ1) rfl 31 (by decide) (hts _ gw1095) (fun _ h9 => h9) rfl d_Md_compare_98 ?_
  refine lv_iload_n hx hb d_Md_compare_101 rfl (lv_at hl 1 rfl) ?_
  refine lv_aload_n hx hb d_Md_compare_102 rfl (lv_at hl 0 rfl) ?_
  refine va_get (D := D) (ci := 10) (C := R_Md) (T := T_Md) (N := 46) hx hb hts in_Md hown hK hst.1 54 (WS_o54 g σ1) rfl 39 (by decide) (hts _ gw1103) (fun _ h9 => h9) rfl d_Md_compare_103 ?_
  obtain ⟨hi, h⟩ := h
  refine kw_last hx hb hK hst 81 (WS_a81 g σ1) hi (WS_s81 g σ1 _ _) d_Md_compare_106 (fun σ2 H locs e2 hst => ?_)
  replace h := h σ2 e2
  refine lv_iinc (k := 2) (v := (x2 + (-1))) hx hb d_Md_compare_107 hl rfl (kw_inc _ (by decide)) (by decide) rfl (fun ls hl => ?_)
  have hl : lv_has ls 4 [(2, .int (x2 + (-1))), (0, .ref (g.1 54)), (1, .int x1)] := hl
  refine lv_goto (tgt := 40) hx hb d_Md_compare_110 (by decide) ?_
  exact j2 x1 (x2 + (-1)) σ2 _ _ _ (lv_sub hl [1, 2, 0] rfl) hst h
set_option maxRecDepth 100000 in
set_option maxHeartbeats 4000000 in
theorem a_Md_compare {p : Program} {l : Launch} {e : Env} {s : State} {m : MethodId} {args : Array Value} {below : List Frame} {meth : Method} {c : Code} {D : va_G} {g : Gm} {A : Nat → Prop} {post : Sg → Prop} (C : kC p s m args meth c k_Md_compare 4 (none) GW R_Md D vwCl g (Zk g) A) : ∀ n : Nat, J_Md_compare_1 p l e s m args below meth c D g A post (wp_Md_compare post n) ∧ J_Md_compare_2 p l e s m args below meth c D g A post (wp_Md_compare post n) ∧ J_Md_compare_3 p l e s m args below meth c D g A post (wp_Md_compare post n) := by
  intro n
  induction n with
  | zero => exact ⟨fun _ _ _ _ _ _ _ h => h.elim, fun _ _ _ _ _ _ _ _ h => h.elim, fun _ _ _ _ _ _ _ _ h => h.elim⟩
  | succ n ih => exact ⟨fun x1 σ H locs ls hl hst h => b_Md_compare_1 (F := wp_Md_compare post n) C (ih.2.1) x1 σ H locs ls hl hst h, fun x1 x2 σ H locs ls hl hst h => b_Md_compare_2 (F := wp_Md_compare post n) C (ih.1) (ih.2.2) x1 x2 σ H locs ls hl hst h, fun x1 x2 σ H locs ls hl hst h => b_Md_compare_3 (F := wp_Md_compare post n) C (ih.2.1) x1 x2 σ H locs ls hl hst h⟩
set_option maxRecDepth 100000 in
set_option maxHeartbeats 4000000 in
theorem c_Md_compare (l : Launch) {D : va_G} {g : Gm} {sz : Nat} {σ : Sg} {post : Sg → Prop} (h : wq_Md_compare σ post) : Met l y_Md_compare (.code y_Md_compare k_Md_compare 4 (none) :: GW) { frames := 3, cells := 0, slots := 0, locals := 77 } (PcW D vwCl (WS g) g (Zk g) σ sz [.ref (g.1 54)]) (QvW D vwCl (WS g) post (va_A (WS g σ) sz)) 0 0 (va_A (WS g σ) sz) := by
  refine kw_entry (own := R_Md) (by decide) rfl rfl (Nat.le_of_ble_eq_true rfl) ?_
  intro p e s m below meth c ls hsz C hin hl hst
  obtain ⟨n, h⟩ := h
  cases n with
  | zero => exact h.elim
  | succ n =>
    have ih := a_Md_compare (l := l) (e := e) (below := below) (post := post) C n
    exact b_Md_compare_0 (F := wp_Md_compare post n) C (ih.1) σ _ _ ls hl hst h
