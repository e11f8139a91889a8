/-! SchemaDeskModel.member (I)V -/
abbrev k_Md_member : ByteArray := prog_12_method_29_code
abbrev y_Md_member : MethodName := ⟨"SchemaDeskModel", "member", "(I)V"⟩
theorem d_Md_member_0 : decode k_Md_member 0 = .ok (.aload_n 0, 1) := by decide +kernel
theorem d_Md_member_1 : decode k_Md_member 1 = .ok (.getfield 202, 3) := by decide +kernel
theorem d_Md_member_4 : decode k_Md_member 4 = .ok (.istore_n 2, 1) := by decide +kernel
theorem d_Md_member_5 : decode k_Md_member 5 = .ok (.aload_n 0, 1) := by decide +kernel
theorem d_Md_member_6 : decode k_Md_member 6 = .ok (.invokevirtual 228, 3) := by decide +kernel
theorem d_Md_member_9 : decode k_Md_member 9 = .ok (.istore_n 3, 1) := by decide +kernel
theorem d_Md_member_10 : decode k_Md_member 10 = .ok (.aload_n 0, 1) := by decide +kernel
theorem d_Md_member_11 : decode k_Md_member 11 = .ok (.iload_n 1, 1) := by decide +kernel
theorem d_Md_member_12 : decode k_Md_member 12 = .ok (.sipush 160, 3) := by decide +kernel
theorem d_Md_member_15 : decode k_Md_member 15 = .ok (.aload_n 0, 1) := by decide +kernel
theorem d_Md_member_16 : decode k_Md_member 16 = .ok (.getfield 205, 3) := by decide +kernel
theorem d_Md_member_19 : decode k_Md_member 19 = .ok (.imul, 1) := by decide +kernel
theorem d_Md_member_20 : decode k_Md_member 20 = .ok (.iload_n 2, 1) := by decide +kernel
theorem d_Md_member_21 : decode k_Md_member 21 = .ok (.iadd, 1) := by decide +kernel
theorem d_Md_member_22 : decode k_Md_member 22 = .ok (.iconst 1, 1) := by decide +kernel
theorem d_Md_member_23 : decode k_Md_member 23 = .ok (.iadd, 1) := by decide +kernel
theorem d_Md_member_24 : decode k_Md_member 24 = .ok (.sipush 160, 3) := by decide +kernel
theorem d_Md_member_27 : decode k_Md_member 27 = .ok (.aload_n 0, 1) := by decide +kernel
theorem d_Md_member_28 : decode k_Md_member 28 = .ok (.getfield 205, 3) := by decide +kernel
theorem d_Md_member_31 : decode k_Md_member 31 = .ok (.imul, 1) := by decide +kernel
theorem d_Md_member_32 : decode k_Md_member 32 = .ok (.iload_n 3, 1) := by decide +kernel
theorem d_Md_member_33 : decode k_Md_member 33 = .ok (.iadd, 1) := by decide +kernel
theorem d_Md_member_34 : decode k_Md_member 34 = .ok (.invokevirtual 249, 3) := by decide +kernel
theorem d_Md_member_37 : decode k_Md_member 37 = .ok (.ifCond .lt 10, 3) := by decide +kernel
theorem d_Md_member_40 : decode k_Md_member 40 = .ok (.aload_n 0, 1) := by decide +kernel
theorem d_Md_member_41 : decode k_Md_member 41 = .ok (.bipush 13, 2) := by decide +kernel
theorem d_Md_member_43 : decode k_Md_member 43 = .ok (.iload_n 2, 1) := by decide +kernel
theorem d_Md_member_44 : decode k_Md_member 44 = .ok (.invokevirtual 221, 3) := by decide +kernel
theorem d_Md_member_47 : decode k_Md_member 47 = .ok (.aload_n 0, 1) := by decide +kernel
theorem d_Md_member_48 : decode k_Md_member 48 = .ok (.invokevirtual 253, 3) := by decide +kernel
theorem d_Md_member_51 : decode k_Md_member 51 = .ok (.aload_n 0, 1) := by decide +kernel
theorem d_Md_member_52 : decode k_Md_member 52 = .ok (.invokevirtual 208, 3) := by decide +kernel
theorem d_Md_member_55 : decode k_Md_member 55 = .ok (.bipush 58, 2) := by decide +kernel
theorem d_Md_member_57 : decode k_Md_member 57 = .ok (.if_icmp .ne 16, 3) := by decide +kernel
theorem d_Md_member_60 : decode k_Md_member 60 = .ok (.aload_n 0, 1) := by decide +kernel
theorem d_Md_member_61 : decode k_Md_member 61 = .ok (.dup, 1) := by decide +kernel
theorem d_Md_member_62 : decode k_Md_member 62 = .ok (.getfield 202, 3) := by decide +kernel
theorem d_Md_member_65 : decode k_Md_member 65 = .ok (.iconst 1, 1) := by decide +kernel
theorem d_Md_member_66 : decode k_Md_member 66 = .ok (.iadd, 1) := by decide +kernel
theorem d_Md_member_67 : decode k_Md_member 67 = .ok (.putfield 202, 3) := by decide +kernel
theorem d_Md_member_70 : decode k_Md_member 70 = .ok (.goto 13, 3) := by decide +kernel
theorem d_Md_member_73 : decode k_Md_member 73 = .ok (.aload_n 0, 1) := by decide +kernel
theorem d_Md_member_74 : decode k_Md_member 74 = .ok (.bipush 11, 2) := by decide +kernel
theorem d_Md_member_76 : decode k_Md_member 76 = .ok (.aload_n 0, 1) := by decide +kernel
theorem d_Md_member_77 : decode k_Md_member 77 = .ok (.getfield 202, 3) := by decide +kernel
theorem d_Md_member_80 : decode k_Md_member 80 = .ok (.invokevirtual 221, 3) := by decide +kernel
theorem d_Md_member_83 : decode k_Md_member 83 = .ok (.aload_n 0, 1) := by decide +kernel
theorem d_Md_member_84 : decode k_Md_member 84 = .ok (.invokevirtual 253, 3) := by decide +kernel
theorem d_Md_member_87 : decode k_Md_member 87 = .ok (.aload_n 0, 1) := by decide +kernel
theorem d_Md_member_88 : decode k_Md_member 88 = .ok (.invokevirtual 256, 3) := by decide +kernel
theorem d_Md_member_91 : decode k_Md_member 91 = .ok (.ifCond .eq 12, 3) := by decide +kernel
theorem d_Md_member_94 : decode k_Md_member 94 = .ok (.aload_n 0, 1) := by decide +kernel
theorem d_Md_member_95 : decode k_Md_member 95 = .ok (.iload_n 2, 1) := by decide +kernel
theorem d_Md_member_96 : decode k_Md_member 96 = .ok (.iload_n 3, 1) := by decide +kernel
theorem d_Md_member_97 : decode k_Md_member 97 = .ok (.invokevirtual 260, 3) := by decide +kernel
theorem d_Md_member_100 : decode k_Md_member 100 = .ok (.goto 13, 3) := by decide +kernel
theorem d_Md_member_103 : decode k_Md_member 103 = .ok (.aload_n 0, 1) := by decide +kernel
theorem d_Md_member_104 : decode k_Md_member 104 = .ok (.bipush 12, 2) := by decide +kernel
theorem d_Md_member_106 : decode k_Md_member 106 = .ok (.aload_n 0, 1) := by decide +kernel
theorem d_Md_member_107 : decode k_Md_member 107 = .ok (.getfield 202, 3) := by decide +kernel
theorem d_Md_member_110 : decode k_Md_member 110 = .ok (.invokevirtual 221, 3) := by decide +kernel
theorem d_Md_member_113 : decode k_Md_member 113 = .ok (.return_, 1) := by decide +kernel
theorem gw1256 : (Jvm.Cond.methodLink "SchemaDeskModel" (253 : Nat) ({ cls := "SchemaDeskModel", name := "blanks", desc := "()V" } : Jvm.MethodName)) ∈ GW := gw_t6 (List.mem_of_getElem? (i := 56) rfl) rfl
theorem gw1258 : (Jvm.Cond.instanceMethod ({ cls := "SchemaDeskModel", name := "blanks", desc := "()V" } : Jvm.MethodName)) ∈ GW := gw_t6 (List.mem_of_getElem? (i := 58) rfl) rfl
theorem gs48 : Cond.selects "SchemaDeskModel" ⟨"SchemaDeskModel", "blanks", "()V"⟩ ⟨"SchemaDeskModel", "blanks", "()V"⟩ ∈ GW := gw_p4 (q := (⟨"SchemaDeskModel", "blanks", "()V"⟩, 46)) (List.mem_of_getElem? (i := 0) rfl)
theorem gw1259 : (Jvm.Cond.code ({ cls := "SchemaDeskModel", name := "blanks", desc := "()V" } : Jvm.MethodName) prog_12_method_17_code (1 : Nat) (Option.none : Option Jvm.ClassFile.FieldType)) ∈ GW := gw_t6 (List.mem_of_getElem? (i := 59) rfl) rfl
theorem gw1264 : (Jvm.Cond.methodLink "SchemaDeskModel" (256 : Nat) ({ cls := "SchemaDeskModel", name := "starts", desc := "()Z" } : Jvm.MethodName)) ∈ GW := gw_t6 (List.mem_of_getElem? (i := 64) rfl) rfl
theorem gw1266 : (Jvm.Cond.instanceMethod ({ cls := "SchemaDeskModel", name := "starts", desc := "()Z" } : Jvm.MethodName)) ∈ GW := gw_t6 (List.mem_of_getElem? (i := 66) rfl) rfl
theorem gs50 : Cond.selects "SchemaDeskModel" ⟨"SchemaDeskModel", "starts", "()Z"⟩ ⟨"SchemaDeskModel", "starts", "()Z"⟩ ∈ GW := gw_p4 (q := (⟨"SchemaDeskModel", "starts", "()Z"⟩, 46)) (List.mem_of_getElem? (i := 2) rfl)
theorem gw1267 : (Jvm.Cond.code ({ cls := "SchemaDeskModel", name := "starts", desc := "()Z" } : Jvm.MethodName) prog_12_method_20_code (2 : Nat) (Option.some Jvm.ClassFile.FieldType.boolean)) ∈ GW := gw_t6 (List.mem_of_getElem? (i := 67) rfl) rfl
theorem gw1282 : (Jvm.Cond.methodLink "SchemaDeskModel" (260 : Nat) ({ cls := "SchemaDeskModel", name := "value", desc := "(II)V" } : Jvm.MethodName)) ∈ GW := gw_t6 (List.mem_of_getElem? (i := 82) rfl) rfl
theorem gw1284 : (Jvm.Cond.instanceMethod ({ cls := "SchemaDeskModel", name := "value", desc := "(II)V" } : Jvm.MethodName)) ∈ GW := gw_t6 (List.mem_of_getElem? (i := 84) rfl) rfl
theorem gs53 : Cond.selects "SchemaDeskModel" ⟨"SchemaDeskModel", "value", "(II)V"⟩ ⟨"SchemaDeskModel", "value", "(II)V"⟩ ∈ GW := gw_p4 (q := (⟨"SchemaDeskModel", "value", "(II)V"⟩, 46)) (List.mem_of_getElem? (i := 5) rfl)
theorem gw1285 : (Jvm.Cond.code ({ cls := "SchemaDeskModel", name := "value", desc := "(II)V" } : Jvm.MethodName) prog_12_method_24_code (7 : Nat) (Option.none : Option Jvm.ClassFile.FieldType)) ∈ GW := gw_t6 (List.mem_of_getElem? (i := 85) rfl) rfl
def wb_Md_member_0 (F : Nat → Int32 → Int32 → Int32 → Sg → Prop) (post : Sg → Prop) (x1 : Int32) (σ : Sg) : Prop := (wq_Md_quoted  σ (fun r1 σ1 => (wq_Md_childNamed x1 ((((160 : Int32) * (σ1.1 54 18)) + (σ.1 54 19)) + (1 : Int32)) (((160 : Int32) * (σ1.1 54 18)) + r1) σ1 (fun r2 σ2 => ((r2 < 0 → F 1 0 (σ.1 54 19) r1 σ2) ∧ (¬ r2 < 0 → (wq_Md_note (13 : Int32) (σ.1 54 19) σ2 (fun σ3 => F 1 0 (σ.1 54 19) r1 σ3))))))))
def wb_Md_member_1 (F : Nat → Int32 → Int32 → Int32 → Sg → Prop) (post : Sg → Prop) (x2 : Int32) (x3 : Int32) (σ : Sg) : Prop := (wq_Md_blanks  σ (fun σ1 => (wq_Md_here  σ1 (fun r2 σ2 => ((¬ r2 = (58 : Int32) → (wq_Md_note (11 : Int32) (σ2.1 54 19) σ2 (fun σ3 => F 2 0 x2 x3 σ3))) ∧ (r2 = (58 : Int32) → (∀ σ3, σ3 = si σ2 54 19 ((σ2.1 54 19) + (1 : Int32)) → F 2 0 x2 x3 σ3)))))))
def wb_Md_member_2 (F : Nat → Int32 → Int32 → Int32 → Sg → Prop) (post : Sg → Prop) (x2 : Int32) (x3 : Int32) (σ : Sg) : Prop := (wq_Md_blanks  σ (fun σ1 => (wq_Md_starts  σ1 (fun r2 σ2 => ((r2 = 0 → (wq_Md_note (12 : Int32) (σ2.1 54 19) σ2 (fun σ3 => post σ3))) ∧ (¬ r2 = 0 → (wq_Md_value x2 x3 σ2 (fun σ3 => post σ3))))))))
def wp_Md_member (post : Sg → Prop) : Nat → Nat → Int32 → Int32 → Int32 → Sg → Prop
  | 0, _, _, _, _, _ => False
  | n + 1, k, x1, x2, x3, σ => match k with
    | 0 => wb_Md_member_0 (wp_Md_member post n) post x1 σ
    | 1 => wb_Md_member_1 (wp_Md_member post n) post x2 x3 σ
    | 2 => wb_Md_member_2 (wp_Md_member post n) post x2 x3 σ
    | _ => False
def wq_Md_member (x1 : Int32) (σ : Sg) (post : Sg → Prop) : Prop := ∃ n, wp_Md_member post n 0 x1 0 0 σ
def J_Md_member_1 (p : Program) (l : Launch) (e : Env) (s : State) (m : MethodId) (args : Array Value) (below : List Frame) (meth : Method) (c : Code) (D : va_G) (g : Gm) (A : Nat → Prop) (post : Sg → Prop) (F : Nat → Int32 → Int32 → Int32 → Sg → Prop) : Prop := ∀ (x2 : Int32) (x3 : Int32) (σ : Sg) (H : Heap) (locs : List Loc) (ls : Array Slot), lv_has ls 4 [(0, .ref (g.1 54)), (2, .int x2), (3, .int x3)] → Wst D vwCl (WS g) A s σ H locs → F 1 0 x2 x3 σ → W p l e { frames := 3, cells := 0, slots := 0, locals := 72 } s m args below meth c H locs 0 0 (MQ below (QvW D vwCl (WS g) post A) args s 0 0 A) (F0 m 47 ls [])
def J_Md_member_2 (p : Program) (l : Launch) (e : Env) (s : State) (m : MethodId) (args : Array Value) (below : List Frame) (meth : Method) (c : Code) (D : va_G) (g : Gm) (A : Nat → Prop) (post : Sg → Prop) (F : Nat → Int32 → Int32 → Int32 → Sg → Prop) : Prop := ∀ (x2 : Int32) (x3 : Int32) (σ : Sg) (H : Heap) (locs : List Loc) (ls : Array Slot), lv_has ls 4 [(0, .ref (g.1 54)), (2, .int x2), (3, .int x3)] → Wst D vwCl (WS g) A s σ H locs → F 2 0 x2 x3 σ → W p l e { frames := 3, cells := 0, slots := 0, locals := 72 } s m args below meth c H locs 0 0 (MQ below (QvW D vwCl (WS g) post A) args s 0 0 A) (F0 m 83 ls [])
set_option maxRecDepth 100000 in
set_option maxHeartbeats 4000000 in
theorem b_Md_member_0 {p : Program} {l : Launch} {e : Env} {s : State} {m : MethodId} {args : Array Value} {below : List Frame} {meth : Method} {c : Code} {D : va_G} {g : Gm} {A : Nat → Prop} {post : Sg → Prop} {F : Nat → Int32 → Int32 → Int32 → Sg → Prop} (C : kC p s m args meth c k_Md_member 4 (none) GW R_Md D vwCl g (Zk g) A) (j1 : J_Md_member_1 p l e s m args below meth c D g A post F) (x1 : Int32) (σ : Sg) (H : Heap) (locs : List Loc) (ls : Array Slot) (hl : lv_has ls 4 [(0, .ref (g.1 54)), (1, .int x1)]) (hst : Wst D vwCl (WS g) A s σ H locs) (h : wb_Md_member_0 F post x1 σ) : W p l e { frames := 3, cells := 0, slots := 0, locals := 72 } s m args below meth c H locs 0 0 (MQ below (QvW D vwCl (WS g) post A) args s 0 0 A) (F0 m 0 ls []) := by
  obtain ⟨hx, hb, hr, hml, hown, hts, hlocks, hK, hZ, hA⟩ := C
  unfold wb_Md_member_0 at h
  refine lv_aload_n hx hb d_Md_member_0 rfl (lv_at hl 0 rfl) ?_
  refine va_get (D := D) (ci := 10) (C := R_Md) (T := T_Md) (N := 46) hx hb hts in_Md hown hK hst.1 54 (WS_o54 g σ) rfl 19 (by decide) (hts _ gw1083) (fun _ h9 => h9) rfl d_Md_member_1 ?_
  refine lv_istore_n hx hb d_Md_member_4 rfl hl (by decide) rfl (fun ls hl => ?_)
  have hl : lv_has ls 4 [(2, .int (σ.1 54 19)), (0, .ref (g.1 54)), (1, .int x1)] := hl
  refine lv_aload_n hx hb d_Md_member_5 rfl (lv_at hl 1 rfl) ?_
  refine kw_calli (va_runV (As := []) (rest := []) (b := g.1 54) ⟨hx, hb, hml, hown, hts⟩ (c_Md_quoted l h) (cwV 0 hts (gd_v gw1290 gw1292 gs55 gw15 gw1293) rfl rfl rfl (by decide +kernel) ⟨Nat.le_of_ble_eq_true rfl, Nat.le_of_ble_eq_true rfl⟩) ⟨kw_blind (Zk_ok g), va_recv hK hst.1 rfl (WS_o54 g σ), kw_pre (Zk_ok g) hK hZ hA hst⟩ rfl rfl hl.1 rfl (lv_room (Nat.le_of_ble_eq_true rfl)) d_Md_member_6 ⟨Nat.le_of_ble_eq_true rfl, Nat.le_of_ble_eq_true rfl⟩) hst hA (fun r1 σ1 H locs h hst => ?_)
  refine lv_istore_n hx hb d_Md_member_9 rfl hl (by decide) rfl (fun ls hl => ?_)
  have hl : lv_has ls 4 [(3, .int r1), (2, .int (σ.1 54 19)), (0, .ref (g.1 54)), (1, .int x1)] := hl
  refine lv_aload_n hx hb d_Md_member_10 rfl (lv_at hl 2 rfl) ?_
  refine lv_iload_n hx hb d_Md_member_11 rfl (lv_at hl 3 rfl) ?_
  refine lv_sipush (v := (160 : Int32)) hx hb d_Md_member_12 (by decide) ?_
  refine lv_aload_n hx hb d_Md_member_15 rfl (lv_at hl 2 rfl) ?_
  refine va_get (D := D) (ci := 10) (C := R_Md) (T := T_Md) (N := 46) hx hb hts in_Md hown hK hst.1 54 (WS_o54 g σ1) rfl 18 (by decide) (hts _ gw1082) (fun _ h9 => h9) rfl d_Md_member_16 ?_
  refine lv_imul hx hb d_Md_member_19 ?_
  refine lv_iload_n hx hb d_Md_member_20 rfl (lv_at hl 1 rfl) ?_
  refine lv_iadd hx hb d_Md_member_21 ?_
  refine lv_iconst (v := (1 : Int32)) hx hb d_Md_member_22 (by decide) ?_
  refine lv_iadd hx hb d_Md_member_23 ?_
  refine lv_sipush (v := (160 : Int32)) hx hb d_Md_member_24 (by decide) ?_
  refine lv_aload_n hx hb d_Md_member_27 rfl (lv_at hl 2 rfl) ?_
  refine va_get (D := D) (ci := 10) (C := R_Md) (T := T_Md) (N := 46) hx hb hts in_Md hown hK hst.1 54 (WS_o54 g σ1) rfl 18 (by decide) (hts _ gw1082) (fun _ h9 => h9) rfl d_Md_member_28 ?_
  refine lv_imul hx hb d_Md_member_31 ?_
  refine lv_iload_n hx hb d_Md_member_32 rfl (lv_at hl 0 rfl) ?_
  refine lv_iadd hx hb d_Md_member_33 ?_
  refine kw_calli (va_runV (As := [.int x1, .int ((((160 : Int32) * (σ1.1 54 18)) + (σ.1 54 19)) + (1 : Int32)), .int (((160 : Int32) * (σ1.1 54 18)) + r1)]) (rest := []) (b := g.1 54) ⟨hx, hb, hml, hown, hts⟩ (c_Md_childNamed l x1 ((((160 : Int32) * (σ1.1 54 18)) + (σ.1 54 19)) + (1 : Int32)) (((160 : Int32) * (σ1.1 54 18)) + r1) h) (cwV 3 hts (gd_v gw1313 gw1315 gs60 gw15 gw1316) rfl rfl rfl (by decide +kernel) ⟨Nat.le_of_ble_eq_true rfl, Nat.le_of_ble_eq_true rfl⟩) ⟨kw_blind (Zk_ok g), va_recv hK hst.1 rfl (WS_o54 g σ1), kw_pre (Zk_ok g) hK hZ hA hst⟩ rfl rfl hl.1 rfl (lv_room (Nat.le_of_ble_eq_true rfl)) d_Md_member_34 ⟨Nat.le_of_ble_eq_true rfl, Nat.le_of_ble_eq_true rfl⟩) hst hA (fun r2 σ2 H locs h hst => ?_)
  refine lv_if_lt (tgt := 47) hx hb d_Md_member_37 (by decide) (fun hc => ?_) (fun hc => ?_)
  · replace h := h.1 hc
    exact j1 (σ.1 54 19) r1 σ2 _ _ _ (lv_sub hl [2, 1, 0] rfl) hst h
  · replace h := h.2 hc
    refine lv_aload_n hx hb d_Md_member_40 rfl (lv_at hl 2 rfl) ?_
    refine lv_bipush (v := (13 : Int32)) hx hb d_Md_member_41 (by decide) ?_
    refine lv_iload_n hx hb d_Md_member_43 rfl (lv_at hl 1 rfl) ?_
    refine kw_callv (va_runV (As := [.int (13 : Int32), .int (σ.1 54 19)]) (rest := []) (b := g.1 54) ⟨hx, hb, hml, hown, hts⟩ (c_Md_note l (13 : Int32) (σ.1 54 19) h) (cwV 2 hts (gd_v gw1278 gw1280 gs52 gw15 gw1281) rfl rfl rfl (by decide +kernel) ⟨Nat.le_of_ble_eq_true rfl, Nat.le_of_ble_eq_true rfl⟩) ⟨kw_blind (Zk_ok g), va_recv hK hst.1 rfl (WS_o54 g σ2), kw_pre (Zk_ok g) hK hZ hA hst⟩ rfl rfl hl.1 rfl (lv_room (Nat.le_of_ble_eq_true rfl)) d_Md_member_44 ⟨Nat.le_of_ble_eq_true rfl, Nat.le_of_ble_eq_true rfl⟩) hst hA (fun σ3 H locs h hst => ?_)
    exact j1 (σ.1 54 19) r1 σ3 _ _ _ (lv_sub hl [2, 1, 0] rfl) hst h
set_option maxRecDepth 100000 in
set_option maxHeartbeats 4000000 in
theorem b_Md_member_1 {p : Program} {l : Launch} {e : Env} {s : State} {m : MethodId} {args : Array Value} {below : List Frame} {meth : Method} {c : Code} {D : va_G} {g : Gm} {A : Nat → Prop} {post : Sg → Prop} {F : Nat → Int32 → Int32 → Int32 → Sg → Prop} (C : kC p s m args meth c k_Md_member 4 (none) GW R_Md D vwCl g (Zk g) A) (j2 : J_Md_member_2 p l e s m args below meth c D g A post F) (x2 : Int32) (x3 : Int32) (σ : Sg) (H : Heap) (locs : List Loc) (ls : Array Slot) (hl : lv_has ls 4 [(0, .ref (g.1 54)), (2, .int x2), (3, .int x3)]) (hst : Wst D vwCl (WS g) A s σ H locs) (h : wb_Md_member_1 F post x2 x3 σ) : W p l e { frames := 3, cells := 0, slots := 0, locals := 72 } s m args below meth c H locs 0 0 (MQ below (QvW D vwCl (WS g) post A) args s 0 0 A) (F0 m 47 ls []) := by
  obtain ⟨hx, hb, hr, hml, hown, hts, hlocks, hK, hZ, hA⟩ := C
  unfold wb_Md_member_1 at h
  refine lv_aload_n hx hb d_Md_member_47 rfl (lv_at hl 0 rfl) ?_
  refine kw_callv (va_runV (As := []) (rest := []) (b := g.1 54) ⟨hx, hb, hml, hown, hts⟩ (c_Md_blanks l h) (cwV 0 hts (gd_v gw1256 gw1258 gs48 gw15 gw1259) rfl rfl rfl (by decide +kernel) ⟨Nat.le_of_ble_eq_true rfl, Nat.le_of_ble_eq_true rfl⟩) ⟨kw_blind (Zk_ok g), va_recv hK hst.1 rfl (WS_o54 g σ), kw_pre (Zk_ok g) hK hZ hA hst⟩ rfl rfl hl.1 rfl (lv_room (Nat.le_of_ble_eq_true rfl)) d_Md_member_48 ⟨Nat.le_of_ble_eq_true rfl, Nat.le_of_ble_eq_true rfl⟩) hst hA (fun σ1 H locs h hst => ?_)
  refine lv_aload_n hx hb d_Md_member_51 rfl (lv_at hl 0 rfl) ?_
  refine kw_calli (va_runV (As := []) (rest := []) (b := g.1 54) ⟨hx, hb, hml, hown, hts⟩ (c_Md_here l h) (cwV 0 hts (gd_v gw1260 gw1262 gs49 gw15 gw1263) rfl rfl rfl (by decide +kernel) ⟨Nat.le_of_ble_eq_true rfl, Nat.le_of_ble_eq_true rfl⟩) ⟨kw_blind (Zk_ok g), va_recv hK hst.1 rfl (WS_o54 g σ1), kw_pre (Zk_ok g) hK hZ hA hst⟩ rfl rfl hl.1 rfl (lv_room (Nat.le_of_ble_eq_true rfl)) d_Md_member_52 ⟨Nat.le_of_ble_eq_true rfl, Nat.le_of_ble_eq_true rfl⟩) hst hA (fun r2 σ2 H locs h hst => ?_)
  refine lv_bipush (v := (58 : Int32)) hx hb d_Md_member_55 (by decide) ?_
  refine lv_icmp_ne (tgt := 73) hx hb d_Md_member_57 (by decide) (fun hc => ?_) (fun hc => ?_)
  · replace h := h.1 hc
    refine lv_aload_n hx hb d_Md_member_73 rfl (lv_at hl 0 rfl) ?_
    refine lv_bipush (v := (11 : Int32)) hx hb d_Md_member_74 (by decide) ?_
    refine lv_aload_n hx hb d_Md_member_76 rfl (lv_at hl 0 rfl) ?_
    refine va_get (D := D) (ci := 10) (C := R_Md) (T := T_Md) (N := 46) hx hb hts in_Md hown hK hst.1 54 (WS_o54 g σ2) rfl 19 (by decide) (hts _ gw1083) (fun _ h9 => h9) rfl d_Md_member_77 ?_
    refine kw_callv (va_runV (As := [.int (11 : Int32), .int (σ2.1 54 19)]) (rest := []) (b := g.1 54) ⟨hx, hb, hml, hown, hts⟩ (c_Md_note l (11 : Int32) (σ2.1 54 19) h) (cwV 2 hts (gd_v gw1278 gw1280 gs52 gw15 gw1281) rfl rfl rfl (by decide +kernel) ⟨Nat.le_of_ble_eq_true rfl, Nat.le_of_ble_eq_true rfl⟩) ⟨kw_blind (Zk_ok g), va_recv hK hst.1 rfl (WS_o54 g σ2), kw_pre (Zk_ok g) hK hZ hA hst⟩ rfl rfl hl.1 rfl (lv_room (Nat.le_of_ble_eq_true rfl)) d_Md_member_80 ⟨Nat.le_of_ble_eq_true rfl, Nat.le_of_ble_eq_true rfl⟩) hst hA (fun σ3 H locs h hst => ?_)
    exact j2 x2 x3 σ3 _ _ _ (lv_sub hl [0, 1, 2] rfl) hst h
  · replace h := h.2 hc
    refine lv_aload_n hx hb d_Md_member_60 rfl (lv_at hl 0 rfl) ?_
    refine lv_dup hx hb d_Md_member_61 rfl ?_
    refine va_get (D := D) (ci := 10) (C := R_Md) (T := T_Md) (N := 46) hx hb hts in_Md hown hK hst.1 54 (WS_o54 g σ2) rfl 19 (by decide) (hts _ gw1083) (fun _ h9 => h9) rfl d_Md_member_62 ?_
    refine lv_iconst (v := (1 : Int32)) hx hb d_Md_member_65 (by decide) ?_
    refine lv_iadd hx hb d_Md_member_66 ?_
    refine kw_put (D := D) (ci := 10) (ty := .int) (C := R_Md) (T := T_Md) (N := 46) hx hb hts in_Md ty_Md ty_Md_ok nm_Md hown hK hst 54 (WS_o54 g σ2) rfl 19 (by decide) (hts _ gw1083) (fun _ h9 => h9) rfl (by decide +kernel) rfl rfl (Nat.le_of_ble_eq_true rfl) (WS_p54_19 g σ2 _) d_Md_member_67 (fun σ3 H locs e3 hst => ?_)
    replace h := h σ3 e3
    refine lv_goto (tgt := 83) hx hb d_Md_member_70 (by decide) ?_
    exact j2 x2 x3 σ3 _ _ _ (lv_sub hl [0, 1, 2] rfl) hst h
set_option maxRecDepth 100000 in
set_option maxHeartbeats 4000000 in
theorem b_Md_member_2 {p : Program} {l : Launch} {e : Env} {s : State} {m : MethodId} {args : Array Value} {below : List Frame} {meth : Method} {c : Code} {D : va_G} {g : Gm} {A : Nat → Prop} {post : Sg → Prop} {F : Nat → Int32 → Int32 → Int32 → Sg → Prop} (C : kC p s m args meth c k_Md_member 4 (none) GW R_Md D vwCl g (Zk g) A) (x2 : Int32) (x3 : Int32) (σ : Sg) (H : Heap) (locs : List Loc) (ls : Array Slot) (hl : lv_has ls 4 [(0, .ref (g.1 54)), (2, .int x2), (3, .int x3)]) (hst : Wst D vwCl (WS g) A s σ H locs) (h : wb_Md_member_2 F post x2 x3 σ) : W p l e { frames := 3, cells := 0, slots := 0, locals := 72 } s m args below meth c H locs 0 0 (MQ below (QvW D vwCl (WS g) post A) args s 0 0 A) (F0 m 83 ls []) := by
  obtain ⟨hx, hb, hr, hml, hown, hts, hlocks, hK, hZ, hA⟩ := C
  unfold wb_Md_member_2 at h
  refine lv_aload_n hx hb d_Md_member_83 rfl (lv_at hl 0 rfl) ?_
  refine kw_callv (va_runV (As := []) (rest := []) (b := g.1 54) ⟨hx, hb, hml, hown, hts⟩ (c_Md_blanks l h) (cwV 0 hts (gd_v gw1256 gw1258 gs48 gw15 gw1259) rfl rfl rfl (by decide +kernel) ⟨Nat.le_of_ble_eq_true rfl, Nat.le_of_ble_eq_true rfl⟩) ⟨kw_blind (Zk_ok g), va_recv hK hst.1 rfl (WS_o54 g σ), kw_pre (Zk_ok g) hK hZ hA hst⟩ rfl rfl hl.1 rfl (lv_room (Nat.le_of_ble_eq_true rfl)) d_Md_member_84 ⟨Nat.le_of_ble_eq_true rfl, Nat.le_of_ble_eq_true rfl⟩) hst hA (fun σ1 H locs h hst => ?_)
  refine lv_aload_n hx hb d_Md_member_87 rfl (lv_at hl 0 rfl) ?_
  refine kw_calli (va_runV (As := []) (rest := []) (b := g.1 54) ⟨hx, hb, hml, hown, hts⟩ (c_Md_starts l h) (cwV 0 hts (gd_v gw1264 gw1266 gs50 gw15 gw1267) rfl rfl rfl (by decide +kernel) ⟨Nat.le_of_ble_eq_true rfl, Nat.le_of_ble_eq_true rfl⟩) ⟨kw_blind (Zk_ok g), va_recv hK hst.1 rfl (WS_o54 g σ1), kw_pre (Zk_ok g) hK hZ hA hst⟩ rfl rfl hl.1 rfl (lv_room (Nat.le_of_ble_eq_true rfl)) d_Md_member_88 ⟨Nat.le_of_ble_eq_true rfl, Nat.le_of_ble_eq_true rfl⟩) hst hA (fun r2 σ2 H locs h hst => ?_)
  refine lv_if_eq (tgt := 103) hx hb d_Md_member_91 (by decide) (fun hc => ?_) (fun hc => ?_)
  · replace h := h.1 hc
    refine lv_aload_n hx hb d_Md_member_103 rfl (lv_at hl 0 rfl) ?_
    refine lv_bipush (v := (12 : Int32)) hx hb d_Md_member_104 (by decide) ?_
    refine lv_aload_n hx hb d_Md_member_106 rfl (lv_at hl 0 rfl) ?_
    refine va_get (D := D) (ci := 10) (C := R_Md) (T := T_Md) (N := 46) hx hb hts in_Md hown hK hst.1 54 (WS_o54 g σ2) rfl 19 (by decide) (hts _ gw1083) (fun _ h9 => h9) rfl d_Md_member_107 ?_
    refine kw_callv (va_runV (As := [.int (12 : Int32), .int (σ2.1 54 19)]) (rest := []) (b := g.1 54) ⟨hx, hb, hml, hown, hts⟩ (c_Md_note l (12 : Int32) (σ2.1 54 19) h) (cwV 2 hts (gd_v gw1278 gw1280 gs52 gw15 gw1281) rfl rfl rfl (by decide +kernel) ⟨Nat.le_of_ble_eq_true rfl, Nat.le_of_ble_eq_true rfl⟩) ⟨kw_blind (Zk_ok g), va_recv hK hst.1 rfl (WS_o54 g σ2), kw_pre (Zk_ok g) hK hZ hA hst⟩ rfl rfl hl.1 rfl (lv_room (Nat.le_of_ble_eq_true rfl)) d_Md_member_110 ⟨Nat.le_of_ble_eq_true rfl, Nat.le_of_ble_eq_true rfl⟩) hst hA (fun σ3 H locs h hst => ?_)
    exact kw_vret hx hb hr hlocks hst h d_Md_member_113
  · replace h := h.2 hc
    refine lv_aload_n hx hb d_Md_member_94 rfl (lv_at hl 0 rfl) ?_
    refine lv_iload_n hx hb d_Md_member_95 rfl (lv_at hl 1 rfl) ?_
    refine lv_iload_n hx hb d_Md_member_96 rfl (lv_at hl 2 rfl) ?_
    refine kw_callv (va_runV (As := [.int x2, .int x3]) (rest := []) (b := g.1 54) ⟨hx, hb, hml, hown, hts⟩ (c_Md_value l x2 x3 h) (cwV 2 hts (gd_v gw1282 gw1284 gs53 gw15 gw1285) rfl rfl rfl (by decide +kernel) ⟨Nat.le_of_ble_eq_true rfl, Nat.le_of_ble_eq_true rfl⟩) ⟨kw_blind (Zk_ok g), va_recv hK hst.1 rfl (WS_o54 g σ2), kw_pre (Zk_ok g) hK hZ hA hst⟩ rfl rfl hl.1 rfl (lv_room (Nat.le_of_ble_eq_true rfl)) d_Md_member_97 ⟨Nat.le_of_ble_eq_true rfl, Nat.le_of_ble_eq_true rfl⟩) hst hA (fun σ3 H locs h hst => ?_)
    refine lv_goto (tgt := 113) hx hb d_Md_member_100 (by decide) ?_
    exact kw_vret hx hb hr hlocks hst h d_Md_member_113
set_option maxRecDepth 100000 in
set_option maxHeartbeats 4000000 in
theorem a_Md_member {p : Program} {l : Launch} {e : Env} {s : State} {m : MethodId} {args : Array Value} {below : List Frame} {meth : Method} {c : Code} {D : va_G} {g : Gm} {A : Nat → Prop} {post : Sg → Prop} (C : kC p s m args meth c k_Md_member 4 (none) GW R_Md D vwCl g (Zk g) A) : ∀ n : Nat, J_Md_member_1 p l e s m args below meth c D g A post (wp_Md_member post n) ∧ J_Md_member_2 p l e s m args below meth c D g A post (wp_Md_member post n) := by
  intro n
  induction n with
  | zero => exact ⟨fun _ _ _ _ _ _ _ _ h => h.elim, fun _ _ _ _ _ _ _ _ h => h.elim⟩
  | succ n ih => exact ⟨fun x2 x3 σ H locs ls hl hst h => b_Md_member_1 (F := wp_Md_member post n) C (ih.2) x2 x3 σ H locs ls hl hst h, fun x2 x3 σ H locs ls hl hst h => b_Md_member_2 (F := wp_Md_member post n) C x2 x3 σ H locs ls hl hst h⟩
set_option maxRecDepth 100000 in
set_option maxHeartbeats 4000000 in
theorem c_Md_member (l : Launch) {D : va_G} {g : Gm} {sz : Nat} (x1 : Int32) {σ : Sg} {post : Sg → Prop} (h : wq_Md_member x1 σ post) : Met l y_Md_member (.code y_Md_member k_Md_member 4 (none) :: GW) { frames := 3, cells := 0, slots := 0, locals := 72 } (PcW D vwCl (WS g) g (Zk g) σ sz [.ref (g.1 54), .int x1]) (QvW D vwCl (WS g) post (va_A (WS g σ) sz)) 0 0 (va_A (WS g σ) sz) := by
  refine kw_entry (own := R_Md) (by decide) rfl rfl (Nat.le_of_ble_eq_true rfl) ?_
  intro p e s m below meth c ls hsz C hin hl hst
  obtain ⟨n, h⟩ := h
  cases n with
  | zero => exact h.elim
  | succ n =>
    have ih := a_Md_member (l := l) (e := e) (below := below) (post := post) C n
    exact b_Md_member_0 (F := wp_Md_member post n) C (ih.1) x1 σ _ _ ls hl hst h
/-! SchemaDeskModel.goOn ()V -/
abbrev k_Md_goOn : ByteArray := prog_12_method_30_code
abbrev y_Md_goOn : MethodName := ⟨"SchemaDeskModel", "goOn", "()V"⟩
theorem d_Md_goOn_0 : decode k_Md_goOn 0 = .ok (.aload_n 0, 1) := by decide +kernel
theorem d_Md_goOn_1 : decode k_Md_goOn 1 = .ok (.getfield 212, 3) := by decide +kernel
theorem d_Md_goOn_4 : decode k_Md_goOn 4 = .ok (.iconst 1, 1) := by decide +kernel
theorem d_Md_goOn_5 : decode k_Md_goOn 5 = .ok (.isub, 1) := by decide +kernel
theorem d_Md_goOn_6 : decode k_Md_goOn 6 = .ok (.istore_n 1, 1) := by decide +kernel
theorem d_Md_goOn_7 : decode k_Md_goOn 7 = .ok (.aload_n 0, 1) := by decide +kernel
theorem d_Md_goOn_8 : decode k_Md_goOn 8 = .ok (.getfield 116, 3) := by decide +kernel
theorem d_Md_goOn_11 : decode k_Md_goOn 11 = .ok (.iload_n 1, 1) := by decide +kernel
theorem d_Md_goOn_12 : decode k_Md_goOn 12 = .ok (.iaload, 1) := by decide +kernel
theorem d_Md_goOn_13 : decode k_Md_goOn 13 = .ok (.istore_n 2, 1) := by decide +kernel
theorem d_Md_goOn_14 : decode k_Md_goOn 14 = .ok (.aload_n 0, 1) := by decide +kernel
theorem d_Md_goOn_15 : decode k_Md_goOn 15 = .ok (.invokevirtual 253, 3) := by decide +kernel
theorem d_Md_goOn_18 : decode k_Md_goOn 18 = .ok (.aload_n 0, 1) := by decide +kernel
theorem d_Md_goOn_19 : decode k_Md_goOn 19 = .ok (.invokevirtual 208, 3) := by decide +kernel
theorem d_Md_goOn_22 : decode k_Md_goOn 22 = .ok (.istore_n 3, 1) := by decide +kernel
theorem d_Md_goOn_23 : decode k_Md_goOn 23 = .ok (.iload_n 3, 1) := by decide +kernel
theorem d_Md_goOn_24 : decode k_Md_goOn 24 = .ok (.iconst (-1), 1) := by decide +kernel
theorem d_Md_goOn_25 : decode k_Md_goOn 25 = .ok (.if_icmp .eq 24, 3) := by decide +kernel
theorem d_Md_goOn_28 : decode k_Md_goOn 28 = .ok (.iload_n 3, 1) := by decide +kernel
theorem d_Md_goOn_29 : decode k_Md_goOn 29 = .ok (.aload_n 0, 1) := by decide +kernel
theorem d_Md_goOn_30 : decode k_Md_goOn 30 = .ok (.getfield 77, 3) := by decide +kernel
theorem d_Md_goOn_33 : decode k_Md_goOn 33 = .ok (.iload_n 2, 1) := by decide +kernel
theorem d_Md_goOn_34 : decode k_Md_goOn 34 = .ok (.iaload, 1) := by decide +kernel
theorem d_Md_goOn_35 : decode k_Md_goOn 35 = .ok (.iconst 5, 1) := by decide +kernel
theorem d_Md_goOn_36 : decode k_Md_goOn 36 = .ok (.if_icmp .ne 8, 3) := by decide +kernel
theorem d_Md_goOn_39 : decode k_Md_goOn 39 = .ok (.bipush 93, 2) := by decide +kernel
theorem d_Md_goOn_41 : decode k_Md_goOn 41 = .ok (.goto 5, 3) := by decide +kernel
theorem d_Md_goOn_44 : decode k_Md_goOn 44 = .ok (.bipush 125, 2) := by decide +kernel
theorem d_Md_goOn_46 : decode k_Md_goOn 46 = .ok (.if_icmp .ne 95, 3) := by decide +kernel
theorem d_Md_goOn_49 : decode k_Md_goOn 49 = .ok (.iload_n 3, 1) := by decide +kernel
theorem d_Md_goOn_50 : decode k_Md_goOn 50 = .ok (.iconst (-1), 1) := by decide +kernel
theorem d_Md_goOn_51 : decode k_Md_goOn 51 = .ok (.if_icmp .ne 17, 3) := by decide +kernel
theorem d_Md_goOn_54 : decode k_Md_goOn 54 = .ok (.aload_n 0, 1) := by decide +kernel
theorem d_Md_goOn_55 : decode k_Md_goOn 55 = .ok (.iconst 4, 1) := by decide +kernel
theorem d_Md_goOn_56 : decode k_Md_goOn 56 = .ok (.aload_n 0, 1) := by decide +kernel
theorem d_Md_goOn_57 : decode k_Md_goOn 57 = .ok (.getfield 80, 3) := by decide +kernel
theorem d_Md_goOn_60 : decode k_Md_goOn 60 = .ok (.iload_n 2, 1) := by decide +kernel
theorem d_Md_goOn_61 : decode k_Md_goOn 61 = .ok (.iaload, 1) := by decide +kernel
theorem d_Md_goOn_62 : decode k_Md_goOn 62 = .ok (.invokevirtual 221, 3) := by decide +kernel
theorem d_Md_goOn_65 : decode k_Md_goOn 65 = .ok (.goto 31, 3) := by decide +kernel
theorem d_Md_goOn_68 : decode k_Md_goOn 68 = .ok (.aload_n 0, 1) := by decide +kernel
theorem d_Md_goOn_69 : decode k_Md_goOn 69 = .ok (.getfield 126, 3) := by decide +kernel
theorem d_Md_goOn_72 : decode k_Md_goOn 72 = .ok (.iload_n 1, 1) := by decide +kernel
theorem d_Md_goOn_73 : decode k_Md_goOn 73 = .ok (.baload, 1) := by decide +kernel
theorem d_Md_goOn_74 : decode k_Md_goOn 74 = .ok (.ifCond .eq 22, 3) := by decide +kernel
theorem d_Md_goOn_77 : decode k_Md_goOn 77 = .ok (.aload_n 0, 1) := by decide +kernel
theorem d_Md_goOn_78 : decode k_Md_goOn 78 = .ok (.getfield 122, 3) := by decide +kernel
theorem d_Md_goOn_81 : decode k_Md_goOn 81 = .ok (.iload_n 1, 1) := by decide +kernel
theorem d_Md_goOn_82 : decode k_Md_goOn 82 = .ok (.baload, 1) := by decide +kernel
theorem d_Md_goOn_83 : decode k_Md_goOn 83 = .ok (.ifCond .ne 13, 3) := by decide +kernel
theorem d_Md_goOn_86 : decode k_Md_goOn 86 = .ok (.aload_n 0, 1) := by decide +kernel
theorem d_Md_goOn_87 : decode k_Md_goOn 87 = .ok (.bipush 10, 2) := by decide +kernel
theorem d_Md_goOn_89 : decode k_Md_goOn 89 = .ok (.aload_n 0, 1) := by decide +kernel
theorem d_Md_goOn_90 : decode k_Md_goOn 90 = .ok (.getfield 202, 3) := by decide +kernel
theorem d_Md_goOn_93 : decode k_Md_goOn 93 = .ok (.invokevirtual 221, 3) := by decide +kernel
theorem d_Md_goOn_96 : decode k_Md_goOn 96 = .ok (.aload_n 0, 1) := by decide +kernel
theorem d_Md_goOn_97 : decode k_Md_goOn 97 = .ok (.iload_n 3, 1) := by decide +kernel
theorem d_Md_goOn_98 : decode k_Md_goOn 98 = .ok (.iconst (-1), 1) := by decide +kernel
theorem d_Md_goOn_99 : decode k_Md_goOn 99 = .ok (.if_icmp .ne 10, 3) := by decide +kernel
theorem d_Md_goOn_102 : decode k_Md_goOn 102 = .ok (.aload_n 0, 1) := by decide +kernel
theorem d_Md_goOn_103 : decode k_Md_goOn 103 = .ok (.getfield 202, 3) := by decide +kernel
theorem d_Md_goOn_106 : decode k_Md_goOn 106 = .ok (.goto 9, 3) := by decide +kernel
theorem d_Md_goOn_109 : decode k_Md_goOn 109 = .ok (.aload_n 0, 1) := by decide +kernel
theorem d_Md_goOn_110 : decode k_Md_goOn 110 = .ok (.getfield 202, 3) := by decide +kernel
theorem d_Md_goOn_113 : decode k_Md_goOn 113 = .ok (.iconst 1, 1) := by decide +kernel
theorem d_Md_goOn_114 : decode k_Md_goOn 114 = .ok (.iadd, 1) := by decide +kernel
theorem d_Md_goOn_115 : decode k_Md_goOn 115 = .ok (.putfield 202, 3) := by decide +kernel
theorem d_Md_goOn_118 : decode k_Md_goOn 118 = .ok (.aload_n 0, 1) := by decide +kernel
theorem d_Md_goOn_119 : decode k_Md_goOn 119 = .ok (.getfield 83, 3) := by decide +kernel
theorem d_Md_goOn_122 : decode k_Md_goOn 122 = .ok (.iload_n 2, 1) := by decide +kernel
theorem d_Md_goOn_123 : decode k_Md_goOn 123 = .ok (.aload_n 0, 1) := by decide +kernel
theorem d_Md_goOn_124 : decode k_Md_goOn 124 = .ok (.getfield 202, 3) := by decide +kernel
theorem d_Md_goOn_127 : decode k_Md_goOn 127 = .ok (.iastore, 1) := by decide +kernel
theorem d_Md_goOn_128 : decode k_Md_goOn 128 = .ok (.aload_n 0, 1) := by decide +kernel
theorem d_Md_goOn_129 : decode k_Md_goOn 129 = .ok (.dup, 1) := by decide +kernel
theorem d_Md_goOn_130 : decode k_Md_goOn 130 = .ok (.getfield 212, 3) := by decide +kernel
theorem d_Md_goOn_133 : decode k_Md_goOn 133 = .ok (.iconst 1, 1) := by decide +kernel
theorem d_Md_goOn_134 : decode k_Md_goOn 134 = .ok (.isub, 1) := by decide +kernel
theorem d_Md_goOn_135 : decode k_Md_goOn 135 = .ok (.putfield 212, 3) := by decide +kernel
theorem d_Md_goOn_138 : decode k_Md_goOn 138 = .ok (.goto 138, 3) := by decide +kernel
theorem d_Md_goOn_141 : decode k_Md_goOn 141 = .ok (.iload_n 3, 1) := by decide +kernel
theorem d_Md_goOn_142 : decode k_Md_goOn 142 = .ok (.bipush 44, 2) := by decide +kernel
theorem d_Md_goOn_144 : decode k_Md_goOn 144 = .ok (.if_icmp .ne 49, 3) := by decide +kernel
theorem d_Md_goOn_147 : decode k_Md_goOn 147 = .ok (.aload_n 0, 1) := by decide +kernel
theorem d_Md_goOn_148 : decode k_Md_goOn 148 = .ok (.getfield 122, 3) := by decide +kernel
theorem d_Md_goOn_151 : decode k_Md_goOn 151 = .ok (.iload_n 1, 1) := by decide +kernel
theorem d_Md_goOn_152 : decode k_Md_goOn 152 = .ok (.baload, 1) := by decide +kernel
theorem d_Md_goOn_153 : decode k_Md_goOn 153 = .ok (.ifCond .ne 13, 3) := by decide +kernel
theorem d_Md_goOn_156 : decode k_Md_goOn 156 = .ok (.aload_n 0, 1) := by decide +kernel
theorem d_Md_goOn_157 : decode k_Md_goOn 157 = .ok (.bipush 8, 2) := by decide +kernel
theorem d_Md_goOn_159 : decode k_Md_goOn 159 = .ok (.aload_n 0, 1) := by decide +kernel
theorem d_Md_goOn_160 : decode k_Md_goOn 160 = .ok (.getfield 202, 3) := by decide +kernel
theorem d_Md_goOn_163 : decode k_Md_goOn 163 = .ok (.invokevirtual 221, 3) := by decide +kernel
theorem d_Md_goOn_166 : decode k_Md_goOn 166 = .ok (.aload_n 0, 1) := by decide +kernel
theorem d_Md_goOn_167 : decode k_Md_goOn 167 = .ok (.getfield 122, 3) := by decide +kernel
theorem d_Md_goOn_170 : decode k_Md_goOn 170 = .ok (.iload_n 1, 1) := by decide +kernel
theorem d_Md_goOn_171 : decode k_Md_goOn 171 = .ok (.iconst 0, 1) := by decide +kernel
theorem d_Md_goOn_172 : decode k_Md_goOn 172 = .ok (.bastore, 1) := by decide +kernel
theorem d_Md_goOn_173 : decode k_Md_goOn 173 = .ok (.aload_n 0, 1) := by decide +kernel
theorem d_Md_goOn_174 : decode k_Md_goOn 174 = .ok (.getfield 126, 3) := by decide +kernel
theorem d_Md_goOn_177 : decode k_Md_goOn 177 = .ok (.iload_n 1, 1) := by decide +kernel
theorem d_Md_goOn_178 : decode k_Md_goOn 178 = .ok (.iconst 1, 1) := by decide +kernel
theorem d_Md_goOn_179 : decode k_Md_goOn 179 = .ok (.bastore, 1) := by decide +kernel
theorem d_Md_goOn_180 : decode k_Md_goOn 180 = .ok (.aload_n 0, 1) := by decide +kernel
theorem d_Md_goOn_181 : decode k_Md_goOn 181 = .ok (.dup, 1) := by decide +kernel
theorem d_Md_goOn_182 : decode k_Md_goOn 182 = .ok (.getfield 202, 3) := by decide +kernel
theorem d_Md_goOn_185 : decode k_Md_goOn 185 = .ok (.iconst 1, 1) := by decide +kernel
theorem d_Md_goOn_186 : decode k_Md_goOn 186 = .ok (.iadd, 1) := by decide +kernel
theorem d_Md_goOn_187 : decode k_Md_goOn 187 = .ok (.putfield 202, 3) := by decide +kernel
theorem d_Md_goOn_190 : decode k_Md_goOn 190 = .ok (.goto 86, 3) := by decide +kernel
theorem d_Md_goOn_193 : decode k_Md_goOn 193 = .ok (.aload_n 0, 1) := by decide +kernel
theorem d_Md_goOn_194 : decode k_Md_goOn 194 = .ok (.getfield 77, 3) := by decide +kernel
theorem d_Md_goOn_197 : decode k_Md_goOn 197 = .ok (.iload_n 2, 1) := by decide +kernel
theorem d_Md_goOn_198 : decode k_Md_goOn 198 = .ok (.iaload, 1) := by decide +kernel
theorem d_Md_goOn_199 : decode k_Md_goOn 199 = .ok (.iconst 5, 1) := by decide +kernel
theorem d_Md_goOn_200 : decode k_Md_goOn 200 = .ok (.if_icmp .ne 13, 3) := by decide +kernel
theorem d_Md_goOn_203 : decode k_Md_goOn 203 = .ok (.aload_n 0, 1) := by decide +kernel
theorem d_Md_goOn_204 : decode k_Md_goOn 204 = .ok (.invokevirtual 256, 3) := by decide +kernel
theorem d_Md_goOn_207 : decode k_Md_goOn 207 = .ok (.ifCond .eq 65, 3) := by decide +kernel
theorem d_Md_goOn_210 : decode k_Md_goOn 210 = .ok (.goto 9, 3) := by decide +kernel
theorem d_Md_goOn_213 : decode k_Md_goOn 213 = .ok (.iload_n 3, 1) := by decide +kernel
theorem d_Md_goOn_214 : decode k_Md_goOn 214 = .ok (.bipush 34, 2) := by decide +kernel
theorem d_Md_goOn_216 : decode k_Md_goOn 216 = .ok (.if_icmp .ne 56, 3) := by decide +kernel
theorem d_Md_goOn_219 : decode k_Md_goOn 219 = .ok (.aload_n 0, 1) := by decide +kernel
theorem d_Md_goOn_220 : decode k_Md_goOn 220 = .ok (.getfield 122, 3) := by decide +kernel
theorem d_Md_goOn_223 : decode k_Md_goOn 223 = .ok (.iload_n 1, 1) := by decide +kernel
theorem d_Md_goOn_224 : decode k_Md_goOn 224 = .ok (.baload, 1) := by decide +kernel
theorem d_Md_goOn_225 : decode k_Md_goOn 225 = .ok (.ifCond .eq 13, 3) := by decide +kernel
theorem d_Md_goOn_228 : decode k_Md_goOn 228 = .ok (.aload_n 0, 1) := by decide +kernel
theorem d_Md_goOn_229 : decode k_Md_goOn 229 = .ok (.bipush 9, 2) := by decide +kernel
theorem d_Md_goOn_231 : decode k_Md_goOn 231 = .ok (.aload_n 0, 1) := by decide +kernel
theorem d_Md_goOn_232 : decode k_Md_goOn 232 = .ok (.getfield 202, 3) := by decide +kernel
theorem d_Md_goOn_235 : decode k_Md_goOn 235 = .ok (.invokevirtual 221, 3) := by decide +kernel
theorem d_Md_goOn_238 : decode k_Md_goOn 238 = .ok (.aload_n 0, 1) := by decide +kernel
theorem d_Md_goOn_239 : decode k_Md_goOn 239 = .ok (.getfield 122, 3) := by decide +kernel
theorem d_Md_goOn_242 : decode k_Md_goOn 242 = .ok (.iload_n 1, 1) := by decide +kernel
theorem d_Md_goOn_243 : decode k_Md_goOn 243 = .ok (.iconst 1, 1) := by decide +kernel
theorem d_Md_goOn_244 : decode k_Md_goOn 244 = .ok (.bastore, 1) := by decide +kernel
theorem d_Md_goOn_245 : decode k_Md_goOn 245 = .ok (.aload_n 0, 1) := by decide +kernel
theorem d_Md_goOn_246 : decode k_Md_goOn 246 = .ok (.getfield 77, 3) := by decide +kernel
theorem d_Md_goOn_249 : decode k_Md_goOn 249 = .ok (.iload_n 2, 1) := by decide +kernel
theorem d_Md_goOn_250 : decode k_Md_goOn 250 = .ok (.iaload, 1) := by decide +kernel
theorem d_Md_goOn_251 : decode k_Md_goOn 251 = .ok (.iconst 5, 1) := by decide +kernel
theorem d_Md_goOn_252 : decode k_Md_goOn 252 = .ok (.if_icmp .ne 12, 3) := by decide +kernel
theorem d_Md_goOn_255 : decode k_Md_goOn 255 = .ok (.aload_n 0, 1) := by decide +kernel
theorem d_Md_goOn_256 : decode k_Md_goOn 256 = .ok (.iconst (-1), 1) := by decide +kernel
theorem d_Md_goOn_257 : decode k_Md_goOn 257 = .ok (.iconst (-1), 1) := by decide +kernel
theorem d_Md_goOn_258 : decode k_Md_goOn 258 = .ok (.invokevirtual 260, 3) := by decide +kernel
theorem d_Md_goOn_261 : decode k_Md_goOn 261 = .ok (.goto 15, 3) := by decide +kernel
theorem d_Md_goOn_264 : decode k_Md_goOn 264 = .ok (.aload_n 0, 1) := by decide +kernel
theorem d_Md_goOn_265 : decode k_Md_goOn 265 = .ok (.iload_n 2, 1) := by decide +kernel
theorem d_Md_goOn_266 : decode k_Md_goOn 266 = .ok (.invokevirtual 262, 3) := by decide +kernel
theorem d_Md_goOn_269 : decode k_Md_goOn 269 = .ok (.goto 7, 3) := by decide +kernel
theorem d_Md_goOn_272 : decode k_Md_goOn 272 = .ok (.aload_n 0, 1) := by decide +kernel
theorem d_Md_goOn_273 : decode k_Md_goOn 273 = .ok (.invokevirtual 265, 3) := by decide +kernel
theorem d_Md_goOn_276 : decode k_Md_goOn 276 = .ok (.return_, 1) := by decide +kernel
theorem gw1274 : (Jvm.Cond.methodLink "SchemaDeskModel" (265 : Nat) ({ cls := "SchemaDeskModel", name := "stray", desc := "()V" } : Jvm.MethodName)) ∈ GW := gw_t6 (List.mem_of_getElem? (i := 74) rfl) rfl
theorem gw1276 : (Jvm.Cond.instanceMethod ({ cls := "SchemaDeskModel", name := "stray", desc := "()V" } : Jvm.MethodName)) ∈ GW := gw_t6 (List.mem_of_getElem? (i := 76) rfl) rfl
theorem gs51 : Cond.selects "SchemaDeskModel" ⟨"SchemaDeskModel", "stray", "()V"⟩ ⟨"SchemaDeskModel", "stray", "()V"⟩ ∈ GW := gw_p4 (q := (⟨"SchemaDeskModel", "stray", "()V"⟩, 46)) (List.mem_of_getElem? (i := 3) rfl)
theorem gw1277 : (Jvm.Cond.code ({ cls := "SchemaDeskModel", name := "stray", desc := "()V" } : Jvm.MethodName) prog_12_method_21_code (2 : Nat) (Option.none : Option Jvm.ClassFile.FieldType)) ∈ GW := gw_t6 (List.mem_of_getElem? (i := 77) rfl) rfl
theorem gw1309 : (Jvm.Cond.methodLink "SchemaDeskModel" (262 : Nat) ({ cls := "SchemaDeskModel", name := "member", desc := "(I)V" } : Jvm.MethodName)) ∈ GW := gw_t6 (List.mem_of_getElem? (i := 109) rfl) rfl
theorem gw1311 : (Jvm.Cond.instanceMethod ({ cls := "SchemaDeskModel", name := "member", desc := "(I)V" } : Jvm.MethodName)) ∈ GW := gw_t6 (List.mem_of_getElem? (i := 111) rfl) rfl
theorem gs59 : Cond.selects "SchemaDeskModel" ⟨"SchemaDeskModel", "member", "(I)V"⟩ ⟨"SchemaDeskModel", "member", "(I)V"⟩ ∈ GW := gw_p4 (q := (⟨"SchemaDeskModel", "member", "(I)V"⟩, 46)) (List.mem_of_getElem? (i := 11) rfl)
theorem gw1312 : (Jvm.Cond.code ({ cls := "SchemaDeskModel", name := "member", desc := "(I)V" } : Jvm.MethodName) prog_12_method_29_code (4 : Nat) (Option.none : Option Jvm.ClassFile.FieldType)) ∈ GW := gw_t6 (List.mem_of_getElem? (i := 112) rfl) rfl
def wb_Md_goOn_0 (F : Nat → Int32 → Int32 → Int32 → Sg → Prop) (post : Sg → Prop) (σ : Sg) : Prop := (vp_in ((σ.1 54 20) - (1 : Int32)) 9 ∧ (wq_Md_blanks  σ (fun σ1 => (wq_Md_here  σ1 (fun r2 σ2 => ((r2 = (-1 : Int32) → F 1 ((σ.1 54 20) - (1 : Int32)) (σ.1 72 (((σ.1 54 20) - (1 : Int32)) : Int32).toNatClampNeg) r2 σ2) ∧ (¬ r2 = (-1 : Int32) → (vp_in (σ.1 72 (((σ.1 54 20) - (1 : Int32)) : Int32).toNatClampNeg) 240 ∧ ((¬ (σ2.1 59 ((σ.1 72 (((σ.1 54 20) - (1 : Int32)) : Int32).toNatClampNeg) : Int32).toNatClampNeg) = (5 : Int32) → ((¬ r2 = (125 : Int32) → F 2 ((σ.1 54 20) - (1 : Int32)) (σ.1 72 (((σ.1 54 20) - (1 : Int32)) : Int32).toNatClampNeg) r2 σ2) ∧ (r2 = (125 : Int32) → F 1 ((σ.1 54 20) - (1 : Int32)) (σ.1 72 (((σ.1 54 20) - (1 : Int32)) : Int32).toNatClampNeg) r2 σ2))) ∧ ((σ2.1 59 ((σ.1 72 (((σ.1 54 20) - (1 : Int32)) : Int32).toNatClampNeg) : Int32).toNatClampNeg) = (5 : Int32) → ((¬ r2 = (93 : Int32) → F 2 ((σ.1 54 20) - (1 : Int32)) (σ.1 72 (((σ.1 54 20) - (1 : Int32)) : Int32).toNatClampNeg) r2 σ2) ∧ (r2 = (93 : Int32) → F 1 ((σ.1 54 20) - (1 : Int32)) (σ.1 72 (((σ.1 54 20) - (1 : Int32)) : Int32).toNatClampNeg) r2 σ2))))))))))))
def wb_Md_goOn_1 (F : Nat → Int32 → Int32 → Int32 → Sg → Prop) (post : Sg → Prop) (x1 : Int32) (x2 : Int32) (x3 : Int32) (σ : Sg) : Prop := ((¬ x3 = (-1 : Int32) → (vp_in x1 9 ∧ (((σ.1 75 x1.toNatClampNeg) = 0 → F 3 0 x2 x3 σ) ∧ (¬ (σ.1 75 x1.toNatClampNeg) = 0 → (vp_in x1 9 ∧ ((¬ (σ.1 74 x1.toNatClampNeg) = 0 → F 3 0 x2 x3 σ) ∧ ((σ.1 74 x1.toNatClampNeg) = 0 → (wq_Md_note (10 : Int32) (σ.1 54 19) σ (fun σ1 => F 3 0 x2 x3 σ1))))))))) ∧ (x3 = (-1 : Int32) → (vp_in x2 240 ∧ (wq_Md_note (4 : Int32) (σ.1 60 x2.toNatClampNeg) σ (fun σ1 => F 3 0 x2 x3 σ1)))))
def wb_Md_goOn_2 (F : Nat → Int32 → Int32 → Int32 → Sg → Prop) (post : Sg → Prop) (x1 : Int32) (x2 : Int32) (x3 : Int32) (σ : Sg) : Prop := ((¬ x3 = (44 : Int32) → (vp_in x2 240 ∧ ((¬ (σ.1 59 x2.toNatClampNeg) = (5 : Int32) → ((¬ x3 = (34 : Int32) → (wq_Md_stray  σ (fun σ1 => post σ1))) ∧ (x3 = (34 : Int32) → F 4 x1 x2 0 σ))) ∧ ((σ.1 59 x2.toNatClampNeg) = (5 : Int32) → (wq_Md_starts  σ (fun r1 σ1 => ((r1 = 0 → (wq_Md_stray  σ1 (fun σ2 => post σ2))) ∧ (¬ r1 = 0 → F 4 x1 x2 0 σ1)))))))) ∧ (x3 = (44 : Int32) → (vp_in x1 9 ∧ ((¬ (σ.1 74 x1.toNatClampNeg) = 0 → F 5 x1 0 0 σ) ∧ ((σ.1 74 x1.toNatClampNeg) = 0 → (wq_Md_note (8 : Int32) (σ.1 54 19) σ (fun σ1 => F 5 x1 0 0 σ1)))))))
def wb_Md_goOn_3 (F : Nat → Int32 → Int32 → Int32 → Sg → Prop) (post : Sg → Prop) (x2 : Int32) (x3 : Int32) (σ : Sg) : Prop := ((¬ x3 = (-1 : Int32) → (∀ σ1, σ1 = si σ 54 19 ((σ.1 54 19) + (1 : Int32)) → F 6 0 x2 0 σ1)) ∧ (x3 = (-1 : Int32) → (∀ σ1, σ1 = si σ 54 19 (σ.1 54 19) → F 6 0 x2 0 σ1)))
def wb_Md_goOn_4 (F : Nat → Int32 → Int32 → Int32 → Sg → Prop) (post : Sg → Prop) (x1 : Int32) (x2 : Int32) (σ : Sg) : Prop := (vp_in x1 9 ∧ (((σ.1 74 x1.toNatClampNeg) = 0 → F 7 x1 x2 0 σ) ∧ (¬ (σ.1 74 x1.toNatClampNeg) = 0 → (wq_Md_note (9 : Int32) (σ.1 54 19) σ (fun σ1 => F 7 x1 x2 0 σ1)))))
def wb_Md_goOn_5 (F : Nat → Int32 → Int32 → Int32 → Sg → Prop) (post : Sg → Prop) (x1 : Int32) (σ : Sg) : Prop := (vp_in x1 9 ∧ (∀ σ1, σ1 = si σ 74 x1.toNatClampNeg (vp_nar .boolean (0 : Int32)) → (vp_in x1 9 ∧ (∀ σ2, σ2 = si σ1 75 x1.toNatClampNeg (vp_nar .boolean (1 : Int32)) → (∀ σ3, σ3 = si σ2 54 19 ((σ2.1 54 19) + (1 : Int32)) → post σ3)))))
def wb_Md_goOn_6 (F : Nat → Int32 → Int32 → Int32 → Sg → Prop) (post : Sg → Prop) (x2 : Int32) (σ : Sg) : Prop := (vp_in x2 240 ∧ (∀ σ1, σ1 = si σ 61 x2.toNatClampNeg (σ.1 54 19) → (∀ σ2, σ2 = si σ1 54 20 ((σ1.1 54 20) - (1 : Int32)) → post σ2)))
def wb_Md_goOn_7 (F : Nat → Int32 → Int32 → Int32 → Sg → Prop) (post : Sg → Prop) (x1 : Int32) (x2 : Int32) (σ : Sg) : Prop := (vp_in x1 9 ∧ (∀ σ1, σ1 = si σ 74 x1.toNatClampNeg (vp_nar .boolean (1 : Int32)) → (vp_in x2 240 ∧ ((¬ (σ1.1 59 x2.toNatClampNeg) = (5 : Int32) → (wq_Md_member x2 σ1 (fun σ2 => post σ2))) ∧ ((σ1.1 59 x2.toNatClampNeg) = (5 : Int32) → (wq_Md_value (-1 : Int32) (-1 : Int32) σ1 (fun σ2 => post σ2)))))))
def wp_Md_goOn (post : Sg → Prop) : Nat → Nat → Int32 → Int32 → Int32 → Sg → Prop
  | 0, _, _, _, _, _ => False
  | n + 1, k, x1, x2, x3, σ => match k with
    | 0 => wb_Md_goOn_0 (wp_Md_goOn post n) post σ
    | 1 => wb_Md_goOn_1 (wp_Md_goOn post n) post x1 x2 x3 σ
    | 2 => wb_Md_goOn_2 (wp_Md_goOn post n) post x1 x2 x3 σ
    | 3 => wb_Md_goOn_3 (wp_Md_goOn post n) post x2 x3 σ
    | 4 => wb_Md_goOn_4 (wp_Md_goOn post n) post x1 x2 σ
    | 5 => wb_Md_goOn_5 (wp_Md_goOn post n) post x1 σ
    | 6 => wb_Md_goOn_6 (wp_Md_goOn post n) post x2 σ
    | 7 => wb_Md_goOn_7 (wp_Md_goOn post n) post x1 x2 σ
    | _ => False
def wq_Md_goOn (σ : Sg) (post : Sg → Prop) : Prop := ∃ n, wp_Md_goOn post n 0 0 0 0 σ
def J_Md_goOn_1 (p : Program) (l : Launch) (e : Env) (s : State) (m : MethodId) (args : Array Value) (below : List Frame) (meth : Method) (c : Code) (D : va_G) (g : Gm) (A : Nat → Prop) (post : Sg → Prop) (F : Nat → Int32 → Int32 → Int32 → Sg → Prop) : Prop := ∀ (x1 : Int32) (x2 : Int32) (x3 : Int32) (σ : Sg) (H : Heap) (locs : List Loc) (ls : Array Slot), lv_has ls 4 [(0, .ref (g.1 54)), (1, .int x1), (2, .int x2), (3, .int x3)] → Wst D vwCl (WS g) A s σ H locs → F 1 x1 x2 x3 σ → W p l e { frames := 4, cells := 0, slots := 0, locals := 95 } s m args below meth c H locs 0 0 (MQ below (QvW D vwCl (WS g) post A) args s 0 0 A) (F0 m 49 ls [])
def J_Md_goOn_2 (p : Program) (l : Launch) (e : Env) (s : State) (m : MethodId) (args : Array Value) (below : List Frame) (meth : Method) (c : Code) (D : va_G) (g : Gm) (A : Nat → Prop) (post : Sg → Prop) (F : Nat → Int32 → Int32 → Int32 → Sg → Prop) : Prop := ∀ (x1 : Int32) (x2 : Int32) (x3 : Int32) (σ : Sg) (H : Heap) (locs : List Loc) (ls : Array Slot), lv_has ls 4 [(0, .ref (g.1 54)), (1, .int x1), (2, .int x2), (3, .int x3)] → Wst D vwCl (WS g) A s σ H locs → F 2 x1 x2 x3 σ → W p l e { frames := 4, cells := 0, slots := 0, locals := 95 } s m args below meth c H locs 0 0 (MQ below (QvW D vwCl (WS g) post A) args s 0 0 A) (F0 m 141 ls [])
def J_Md_goOn_3 (p : Program) (l : Launch) (e : Env) (s : State) (m : MethodId) (args : Array Value) (below : List Frame) (meth : Method) (c : Code) (D : va_G) (g : Gm) (A : Nat → Prop) (post : Sg → Prop) (F : Nat → Int32 → Int32 → Int32 → Sg → Prop) : Prop := ∀ (x2 : Int32) (x3 : Int32) (σ : Sg) (H : Heap) (locs : List Loc) (ls : Array Slot), lv_has ls 4 [(0, .ref (g.1 54)), (2, .int x2), (3, .int x3)] → Wst D vwCl (WS g) A s σ H locs → F 3 0 x2 x3 σ → W p l e { frames := 4, cells := 0, slots := 0, locals := 95 } s m args below meth c H locs 0 0 (MQ below (QvW D vwCl (WS g) post A) args s 0 0 A) (F0 m 96 ls [])
def J_Md_goOn_4 (p : Program) (l : Launch) (e : Env) (s : State) (m : MethodId) (args : Array Value) (below : List Frame) (meth : Method) (c : Code) (D : va_G) (g : Gm) (A : Nat → Prop) (post : Sg → Prop) (F : Nat → Int32 → Int32 → Int32 → Sg → Prop) : Prop := ∀ (x1 : Int32) (x2 : Int32) (σ : Sg) (H : Heap) (locs : List Loc) (ls : Array Slot), lv_has ls 4 [(0, .ref (g.1 54)), (1, .int x1), (2, .int x2)] → Wst D vwCl (WS g) A s σ H locs → F 4 x1 x2 0 σ → W p l e { frames := 4, cells := 0, slots := 0, locals := 95 } s m args below meth c H locs 0 0 (MQ below (QvW D vwCl (WS g) post A) args s 0 0 A) (F0 m 219 ls [])
def J_Md_goOn_5 (p : Program) (l : Launch) (e : Env) (s : State) (m : MethodId) (args : Array Value) (below : List Frame) (meth : Method) (c : Code) (D : va_G) (g : Gm) (A : Nat → Prop) (post : Sg → Prop) (F : Nat → Int32 → Int32 → Int32 → Sg → Prop) : Prop := ∀ (x1 : Int32) (σ : Sg) (H : Heap) (locs : List Loc) (ls : Array Slot), lv_has ls 4 [(0, .ref (g.1 54)), (1, .int x1)] → Wst D vwCl (WS g) A s σ H locs → F 5 x1 0 0 σ → W p l e { frames := 4, cells := 0, slots := 0, locals := 95 } s m args below meth c H locs 0 0 (MQ below (QvW D vwCl (WS g) post A) args s 0 0 A) (F0 m 166 ls [])
def J_Md_goOn_6 (p : Program) (l : Launch) (e : Env) (s : State) (m : MethodId) (args : Array Value) (below : List Frame) (meth : Method) (c : Code) (D : va_G) (g : Gm) (A : Nat → Prop) (post : Sg → Prop) (F : Nat → Int32 → Int32 → Int32 → Sg → Prop) : Prop := ∀ (x2 : Int32) (σ : Sg) (H : Heap) (locs : List Loc) (ls : Array Slot), lv_has ls 4 [(0, .ref (g.1 54)), (2, .int x2)] → Wst D vwCl (WS g) A s σ H locs → F 6 0 x2 0 σ → W p l e { frames := 4, cells := 0, slots := 0, locals := 95 } s m args below meth c H locs 0 0 (MQ below (QvW D vwCl (WS g) post A) args s 0 0 A) (F0 m 118 ls [])
def J_Md_goOn_7 (p : Program) (l : Launch) (e : Env) (s : State) (m : MethodId) (args : Array Value) (below : List Frame) (meth : Method) (c : Code) (D : va_G) (g : Gm) (A : Nat → Prop) (post : Sg → Prop) (F : Nat → Int32 → Int32 → Int32 → Sg → Prop) : Prop := ∀ (x1 : Int32) (x2 : Int32) (σ : Sg) (H : Heap) (locs : List Loc) (ls : Array Slot), lv_has ls 4 [(0, .ref (g.1 54)), (1, .int x1), (2, .int x2)] → Wst D vwCl (WS g) A s σ H locs → F 7 x1 x2 0 σ → W p l e { frames := 4, cells := 0, slots := 0, locals := 95 } s m args below meth c H locs 0 0 (MQ below (QvW D vwCl (WS g) post A) args s 0 0 A) (F0 m 238 ls [])
set_option maxRecDepth 100000 in
set_option maxHeartbeats 4000000 in
theorem b_Md_goOn_0 {p : Program} {l : Launch} {e : Env} {s : State} {m : MethodId} {args : Array Value} {below : List Frame} {meth : Method} {c : Code} {D : va_G} {g : Gm} {A : Nat → Prop} {post : Sg → Prop} {F : Nat → Int32 → Int32 → Int32 → Sg → Prop} (C : kC p s m args meth c k_Md_goOn 4 (none) GW R_Md D vwCl g (Zk g) A) (j1 : J_Md_goOn_1 p l e s m args below meth c D g A post F) (j2 : J_Md_goOn_2 p l e s m args below meth c D g A post F) (σ : Sg) (H : Heap) (locs : List Loc) (ls : Array Slot) (hl : lv_has ls 4 [(0, .ref (g.1 54))]) (hst : Wst D vwCl (WS g) A s σ H locs) (h : wb_Md_goOn_0 F post σ) : W p l e { frames := 4, cells := 0, slots := 0, locals := 95 } s m args below meth c H locs 0 0 (MQ below (QvW D vwCl (WS g) post A) args s 0 0 A) (F0 m 0 ls []) := by
  obtain ⟨hx, hb, hr, hml, hown, hts, hlocks, hK, hZ, hA⟩ := C
  unfold wb_Md_goOn_0 at h
  refine lv_aload_n hx hb d_Md_goOn_0 rfl (lv_at hl 0 rfl) ?_
  refine va_get (D := D) (ci := 10) (C := R_Md) (T := T_Md) (N := 46) hx hb hts in_Md hown hK hst.1 54 (WS_o54 g σ) rfl 20 (by decide) (hts _ gw1084) (fun _ h9 => h9) rfl d_Md_goOn_1 ?_
  refine lv_iconst (v := (1 : Int32)) hx hb d_Md_goOn_4 (by decide) ?_
  refine lv_isub hx hb d_Md_goOn_5 ?_
  refine lv_istore_n hx hb d_Md_goOn_6 rfl hl (by decide) rfl (fun ls hl => ?_)
  have hl : lv_has ls 4 [(1, .int ((σ.1 54 20) - (1 : Int32))), (0, .ref (g.1 54))] := hl
  refine lv_aload_n hx hb d_Md_goOn_7 rfl (lv_at hl 1 rfl) ?_
  refine va_get (D := D) (ci := 10) (C := R_Md) (T := T_Md) (N := 46) hx hb hts in_Md hown hK hst.1 54 (WS_o54 g σ) rfl 21 (by decide) (hts _ gw1085) (fun _ h9 => h9) rfl d_Md_goOn_8 ?_
  refine lv_iload_n hx hb d_Md_goOn_11 rfl (lv_at hl 0 rfl) ?_
  obtain ⟨hi, h⟩ := h
  refine va_iald hx hb hK hst.1 72 0 (WS_a72 g σ) rfl hi d_Md_goOn_12 ?_
  refine lv_istore_n hx hb d_Md_goOn_13 rfl hl (by decide) rfl (fun ls hl => ?_)
  have hl : lv_has ls 4 [(2, .int (σ.1 72 (((σ.1 54 20) - (1 : Int32)) : Int32).toNatClampNeg)), (1, .int ((σ.1 54 20) - (1 : Int32))), (0, .ref (g.1 54))] := hl
  refine lv_aload_n hx hb d_Md_goOn_14 rfl (lv_at hl 2 rfl) ?_
  refine kw_callv (va_runV (As := []) (rest := []) (b := g.1 54) ⟨hx, hb, hml, hown, hts⟩ (c_Md_blanks l h) (cwV 0 hts (gd_v gw1256 gw1258 gs48 gw15 gw1259) rfl rfl rfl (by decide +kernel) ⟨Nat.le_of_ble_eq_true rfl, Nat.le_of_ble_eq_true rfl⟩) ⟨kw_blind (Zk_ok g), va_recv hK hst.1 rfl (WS_o54 g σ), kw_pre (Zk_ok g) hK hZ hA hst⟩ rfl rfl hl.1 rfl (lv_room (Nat.le_of_ble_eq_true rfl)) d_Md_goOn_15 ⟨Nat.le_of_ble_eq_true rfl, Nat.le_of_ble_eq_true rfl⟩) hst hA (fun σ1 H locs h hst => ?_)
  refine lv_aload_n hx hb d_Md_goOn_18 rfl (lv_at hl 2 rfl) ?_
  refine kw_calli (va_runV (As := []) (rest := []) (b := g.1 54) ⟨hx, hb, hml, hown, hts⟩ (c_Md_here l h) (cwV 0 hts (gd_v gw1260 gw1262 gs49 gw15 gw1263) rfl rfl rfl (by decide +kernel) ⟨Nat.le_of_ble_eq_true rfl, Nat.le_of_ble_eq_true rfl⟩) ⟨kw_blind (Zk_ok g), va_recv hK hst.1 rfl (WS_o54 g σ1), kw_pre (Zk_ok g) hK hZ hA hst⟩ rfl rfl hl.1 rfl (lv_room (Nat.le_of_ble_eq_true rfl)) d_Md_goOn_19 ⟨Nat.le_of_ble_eq_true rfl, Nat.le_of_ble_eq_true rfl⟩) hst hA (fun r2 σ2 H locs h hst => ?_)
  refine lv_istore_n hx hb d_Md_goOn_22 rfl hl (by decide) rfl (fun ls hl => ?_)
  have hl : lv_has ls 4 [(3, .int r2), (2, .int (σ.1 72 (((σ.1 54 20) - (1 : Int32)) : Int32).toNatClampNeg)), (1, .int ((σ.1 54 20) - (1 : Int32))), (0, .ref (g.1 54))] := hl
  refine lv_iload_n hx hb d_Md_goOn_23 rfl (lv_at hl 0 rfl) ?_
  refine lv_iconst (v := (-1 : Int32)) hx hb d_Md_goOn_24 (by decide) ?_
  refine lv_icmp_eq (tgt := 49) hx hb d_Md_goOn_25 (by decide) (fun hc => ?_) (fun hc => ?_)
  · replace h := h.1 hc
    exact j1 ((σ.1 54 20) - (1 : Int32)) (σ.1 72 (((σ.1 54 20) - (1 : Int32)) : Int32).toNatClampNeg) r2 σ2 _ _ _ (lv_sub hl [3, 2, 1, 0] rfl) hst h
  · replace h := h.2 hc
    refine lv_iload_n hx hb d_Md_goOn_28 rfl (lv_at hl 0 rfl) ?_
    refine lv_aload_n hx hb d_Md_goOn_29 rfl (lv_at hl 3 rfl) ?_
    refine va_get (D := D) (ci := 10) (C := R_Md) (T := T_Md) (N := 46) hx hb hts in_Md hown hK hst.1 54 (WS_o54 g σ2) rfl 5 (by decide) (hts _ gw1069) (fun _ h9 => h9) rfl d_Md_goOn_30 ?_
    refine lv_iload_n hx hb d_Md_goOn_33 rfl (lv_at hl 1 rfl) ?_
    obtain ⟨hi, h⟩ := h
    refine va_iald hx hb hK hst.1 59 0 (WS_a59 g σ2) rfl hi d_Md_goOn_34 ?_
    refine lv_iconst (v := (5 : Int32)) hx hb d_Md_goOn_35 (by decide) ?_
    refine lv_icmp_ne (tgt := 44) hx hb d_Md_goOn_36 (by decide) (fun hc => ?_) (fun hc => ?_)
    · replace h := h.1 hc
      refine lv_bipush (v := (125 : Int32)) hx hb d_Md_goOn_44 (by decide) ?_
      refine lv_icmp_ne (tgt := 141) hx hb d_Md_goOn_46 (by decide) (fun hc => ?_) (fun hc => ?_)
      · replace h := h.1 hc
        exact j2 ((σ.1 54 20) - (1 : Int32)) (σ.1 72 (((σ.1 54 20) - (1 : Int32)) : Int32).toNatClampNeg) r2 σ2 _ _ _ (lv_sub hl [3, 2, 1, 0] rfl) hst h
      · replace h := h.2 hc
        exact j1 ((σ.1 54 20) - (1 : Int32)) (σ.1 72 (((σ.1 54 20) - (1 : Int32)) : Int32).toNatClampNeg) r2 σ2 _ _ _ (lv_sub hl [3, 2, 1, 0] rfl) hst h
    · replace h := h.2 hc
      refine lv_bipush (v := (93 : Int32)) hx hb d_Md_goOn_39 (by decide) ?_
      refine lv_goto (tgt := 46) hx hb d_Md_goOn_41 (by decide) ?_
      refine lv_icmp_ne (tgt := 141) hx hb d_Md_goOn_46 (by decide) (fun hc => ?_) (fun hc => ?_)
      · replace h := h.1 hc
        exact j2 ((σ.1 54 20) - (1 : Int32)) (σ.1 72 (((σ.1 54 20) - (1 : Int32)) : Int32).toNatClampNeg) r2 σ2 _ _ _ (lv_sub hl [3, 2, 1, 0] rfl) hst h
      · replace h := h.2 hc
        exact j1 ((σ.1 54 20) - (1 : Int32)) (σ.1 72 (((σ.1 54 20) - (1 : Int32)) : Int32).toNatClampNeg) r2 σ2 _ _ _ (lv_sub hl [3, 2, 1, 0] rfl) hst h
set_option maxRecDepth 100000 in
set_option maxHeartbeats 4000000 in
theorem b_Md_goOn_1 {p : Program} {l : Launch} {e : Env} {s : State} {m : MethodId} {args : Array Value} {below : List Frame} {meth : Method} {c : Code} {D : va_G} {g : Gm} {A : Nat → Prop} {post : Sg → Prop} {F : Nat → Int32 → Int32 → Int32 → Sg → Prop} (C : kC p s m args meth c k_Md_goOn 4 (none) GW R_Md D vwCl g (Zk g) A) (j3 : J_Md_goOn_3 p l e s m args below meth c D g A post F) (x1 : Int32) (x2 : Int32) (x3 : Int32) (σ : Sg) (H : Heap) (locs : List Loc) (ls : Array Slot) (hl : lv_has ls 4 [(0, .ref (g.1 54)), (1, .int x1), (2, .int x2), (3, .int x3)]) (hst : Wst D vwCl (WS g) A s σ H locs) (h : wb_Md_goOn_1 F post x1 x2 x3 σ) : W p l e { frames := 4, cells := 0, slots := 0, locals := 95 } s m args below meth c H locs 0 0 (MQ below (QvW D vwCl (WS g) post A) args s 0 0 A) (F0 m 49 ls []) := by
  obtain ⟨hx, hb, hr, hml, hown, hts, hlocks, hK, hZ, hA⟩ := C
  unfold wb_Md_goOn_1 at h
  refine lv_iload_n hx hb d_Md_goOn_49 rfl (lv_at hl 3 rfl) ?_
  refine lv_iconst (v := (-1 : Int32)) hx hb d_Md_goOn_50 (by decide) ?_
  refine lv_icmp_ne (tgt := 68) hx hb d_Md_goOn_51 (by decide) (fun hc => ?_) (fun hc => ?_)
  · replace h := h.1 hc
    refine lv_aload_n hx hb d_Md_goOn_68 rfl (lv_at hl 0 rfl) ?_
    refine va_get (D := D) (ci := 10) (C := R_Md) (T := T_Md) (N := 46) hx hb hts in_Md hown hK hst.1 54 (WS_o54 g σ) rfl 24 (by decide) (hts _ gw1088) (fun _ h9 => h9) rfl d_Md_goOn_69 ?_
    refine lv_iload_n hx hb d_Md_goOn_72 rfl (lv_at hl 1 rfl) ?_
    obtain ⟨hi, h⟩ := h
    refine va_zald hx hb hK hst.1 75 2 (WS_a75 g σ) rfl hi d_Md_goOn_73 ?_
    refine lv_if_eq (tgt := 96) hx hb d_Md_goOn_74 (by decide) (fun hc => ?_) (fun hc => ?_)
    · replace h := h.1 hc
      exact j3 x2 x3 σ _ _ _ (lv_sub hl [0, 2, 3] rfl) hst h
    · replace h := h.2 hc
      refine lv_aload_n hx hb d_Md_goOn_77 rfl (lv_at hl 0 rfl) ?_
      refine va_get (D := D) (ci := 10) (C := R_Md) (T := T_Md) (N := 46) hx hb hts in_Md hown hK hst.1 54 (WS_o54 g σ) rfl 23 (by decide) (hts _ gw1087) (fun _ h9 => h9) rfl d_Md_goOn_78 ?_
      refine lv_iload_n hx hb d_Md_goOn_81 rfl (lv_at hl 1 rfl) ?_
      obtain ⟨hi, h⟩ := h
      refine va_zald hx hb hK hst.1 74 2 (WS_a74 g σ) rfl hi d_Md_goOn_82 ?_
      refine lv_if_ne (tgt := 96) hx hb d_Md_goOn_83 (by decide) (fun hc => ?_) (fun hc => ?_)
      · replace h := h.1 hc
        exact j3 x2 x3 σ _ _ _ (lv_sub hl [0, 2, 3] rfl) hst h
      · replace h := h.2 hc
        refine lv_aload_n hx hb d_Md_goOn_86 rfl (lv_at hl 0 rfl) ?_
        refine lv_bipush (v := (10 : Int32)) hx hb d_Md_goOn_87 (by decide) ?_
        refine lv_aload_n hx hb d_Md_goOn_89 rfl (lv_at hl 0 rfl) ?_
        refine va_get (D := D) (ci := 10) (C := R_Md) (T := T_Md) (N := 46) hx hb hts in_Md hown hK hst.1 54 (WS_o54 g σ) rfl 19 (by decide) (hts _ gw1083) (fun _ h9 => h9) rfl d_Md_goOn_90 ?_
        refine kw_callv (va_runV (As := [.int (10 : Int32), .int (σ.1 54 19)]) (rest := []) (b := g.1 54) ⟨hx, hb, hml, hown, hts⟩ (c_Md_note l (10 : Int32) (σ.1 54 19) h) (cwV 2 hts (gd_v gw1278 gw1280 gs52 gw15 gw1281) rfl rfl rfl (by decide +kernel) ⟨Nat.le_of_ble_eq_true rfl, Nat.le_of_ble_eq_true rfl⟩) ⟨kw_blind (Zk_ok g), va_recv hK hst.1 rfl (WS_o54 g σ), kw_pre (Zk_ok g) hK hZ hA hst⟩ rfl rfl hl.1 rfl (lv_room (Nat.le_of_ble_eq_true rfl)) d_Md_goOn_93 ⟨Nat.le_of_ble_eq_true rfl, Nat.le_of_ble_eq_true rfl⟩) hst hA (fun σ1 H locs h hst => ?_)
        exact j3 x2 x3 σ1 _ _ _ (lv_sub hl [0, 2, 3] rfl) hst h
  · replace h := h.2 hc
    refine lv_aload_n hx hb d_Md_goOn_54 rfl (lv_at hl 0 rfl) ?_
    refine lv_iconst (v := (4 : Int32)) hx hb d_Md_goOn_55 (by decide) ?_
    refine lv_aload_n hx hb d_Md_goOn_56 rfl (lv_at hl 0 rfl) ?_
    refine va_get (D := D) (ci := 10) (C := R_Md) (T := T_Md) (N := 46) hx hb hts in_Md hown hK hst.1 54 (WS_o54 g σ) rfl 6 (by decide) (hts _ gw1070) (fun _ h9 => h9) rfl d_Md_goOn_57 ?_
    refine lv_iload_n hx hb d_Md_goOn_60 rfl (lv_at hl 2 rfl) ?_
    obtain ⟨hi, h⟩ := h
    refine va_iald hx hb hK hst.1 60 0 (WS_a60 g σ) rfl hi d_Md_goOn_61 ?_
    refine kw_callv (va_runV (As := [.int (4 : Int32), .int (σ.1 60 x2.toNatClampNeg)]) (rest := []) (b := g.1 54) ⟨hx, hb, hml, hown, hts⟩ (c_Md_note l (4 : Int32) (σ.1 60 x2.toNatClampNeg) h) (cwV 2 hts (gd_v gw1278 gw1280 gs52 gw15 gw1281) rfl rfl rfl (by decide +kernel) ⟨Nat.le_of_ble_eq_true rfl, Nat.le_of_ble_eq_true rfl⟩) ⟨kw_blind (Zk_ok g), va_recv hK hst.1 rfl (WS_o54 g σ), kw_pre (Zk_ok g) hK hZ hA hst⟩ rfl rfl hl.1 rfl (lv_room (Nat.le_of_ble_eq_true rfl)) d_Md_goOn_62 ⟨Nat.le_of_ble_eq_true rfl, Nat.le_of_ble_eq_true rfl⟩) hst hA (fun σ1 H locs h hst => ?_)
    refine lv_goto (tgt := 96) hx hb d_Md_goOn_65 (by decide) ?_
    exact j3 x2 x3 σ1 _ _ _ (lv_sub hl [0, 2, 3] rfl) hst h
set_option maxRecDepth 100000 in
set_option maxHeartbeats 4000000 in
theorem b_Md_goOn_2 {p : Program} {l : Launch} {e : Env} {s : State} {m : MethodId} {args : Array Value} {below : List Frame} {meth : Method} {c : Code} {D : va_G} {g : Gm} {A : Nat → Prop} {post : Sg → Prop} {F : Nat → Int32 → Int32 → Int32 → Sg → Prop} (C : kC p s m args meth c k_Md_goOn 4 (none) GW R_Md D vwCl g (Zk g) A) (j4 : J_Md_goOn_4 p l e s m args below meth c D g A post F) (j5 : J_Md_goOn_5 p l e s m args below meth c D g A post F) (x1 : Int32) (x2 : Int32) (x3 : Int32) (σ : Sg) (H : Heap) (locs : List Loc) (ls : Array Slot) (hl : lv_has ls 4 [(0, .ref (g.1 54)), (1, .int x1), (2, .int x2), (3, .int x3)]) (hst : Wst D vwCl (WS g) A s σ H locs) (h : wb_Md_goOn_2 F post x1 x2 x3 σ) : W p l e { frames := 4, cells := 0, slots := 0, locals := 95 } s m args below meth c H locs 0 0 (MQ below (QvW D vwCl (WS g) post A) args s 0 0 A) (F0 m 141 ls []) := by
  obtain ⟨hx, hb, hr, hml, hown, hts, hlocks, hK, hZ, hA⟩ := C
  unfold wb_Md_goOn_2 at h
  refine lv_iload_n hx hb d_Md_goOn_141 rfl (lv_at hl 3 rfl) ?_
  refine lv_bipush (v := (44 : Int32)) hx hb d_Md_goOn_142 (by decide) ?_
  refine lv_icmp_ne (tgt := 193) hx hb d_Md_goOn_144 (by decide) (fun hc => ?_) (fun hc => ?_)
  · replace h := h.1 hc
    refine lv_aload_n hx hb d_Md_goOn_193 rfl (lv_at hl 0 rfl) ?_
    refine va_get (D := D) (ci := 10) (C := R_Md) (T := T_Md) (N := 46) hx hb hts in_Md hown hK hst.1 54 (WS_o54 g σ) rfl 5 (by decide) (hts _ gw1069) (fun _ h9 => h9) rfl d_Md_goOn_194 ?_
    refine lv_iload_n hx hb d_Md_goOn_197 rfl (lv_at hl 2 rfl) ?_
    obtain ⟨hi, h⟩ := h
    refine va_iald hx hb hK hst.1 59 0 (WS_a59 g σ) rfl hi d_Md_goOn_198 ?_
    refine lv_iconst (v := (5 : Int32)) hx hb d_Md_goOn_199 (by decide) ?_
    refine lv_icmp_ne (tgt := 213) hx hb d_Md_goOn_200 (by decide) (fun hc => ?_) (fun hc => ?_)
    · replace h := h.1 hc
      refine lv_iload_n hx hb d_Md_goOn_213 rfl (lv_at hl 3 rfl) ?_
      refine lv_bipush (v := (34 : Int32)) hx hb d_Md_goOn_214 (by decide) ?_
      refine lv_icmp_ne (tgt := 272) hx hb d_Md_goOn_216 (by decide) (fun hc => ?_) (fun hc => ?_)
      · replace h := h.1 hc
        refine lv_aload_n hx hb d_Md_goOn_272 rfl (lv_at hl 0 rfl) ?_
        refine kw_callv (va_runV (As := []) (rest := []) (b := g.1 54) ⟨hx, hb, hml, hown, hts⟩ (c_Md_stray l h) (cwV 0 hts (gd_v gw1274 gw1276 gs51 gw15 gw1277) rfl rfl rfl (by decide +kernel) ⟨Nat.le_of_ble_eq_true rfl, Nat.le_of_ble_eq_true rfl⟩) ⟨kw_blind (Zk_ok g), va_recv hK hst.1 rfl (WS_o54 g σ), kw_pre (Zk_ok g) hK hZ hA hst⟩ rfl rfl hl.1 rfl (lv_room (Nat.le_of_ble_eq_true rfl)) d_Md_goOn_273 ⟨Nat.le_of_ble_eq_true rfl, Nat.le_of_ble_eq_true rfl⟩) hst hA (fun σ1 H locs h hst => ?_)
        exact kw_vret hx hb hr hlocks hst h d_Md_goOn_276
      · replace h := h.2 hc
        exact j4 x1 x2 σ _ _ _ (lv_sub hl [0, 1, 2] rfl) hst h
    · replace h := h.2 hc
      refine lv_aload_n hx hb d_Md_goOn_203 rfl (lv_at hl 0 rfl) ?_
      refine kw_calli (va_runV (As := []) (rest := []) (b := g.1 54) ⟨hx, hb, hml, hown, hts⟩ (c_Md_starts l h) (cwV 0 hts (gd_v gw1264 gw1266 gs50 gw15 gw1267) rfl rfl rfl (by decide +kernel) ⟨Nat.le_of_ble_eq_true rfl, Nat.le_of_ble_eq_true rfl⟩) ⟨kw_blind (Zk_ok g), va_recv hK hst.1 rfl (WS_o54 g σ), kw_pre (Zk_ok g) hK hZ hA hst⟩ rfl rfl hl.1 rfl (lv_room (Nat.le_of_ble_eq_true rfl)) d_Md_goOn_204 ⟨Nat.le_of_ble_eq_true rfl, Nat.le_of_ble_eq_true rfl⟩) hst hA (fun r1 σ1 H locs h hst => ?_)
      refine lv_if_eq (tgt := 272) hx hb d_Md_goOn_207 (by decide) (fun hc => ?_) (fun hc => ?_)
      · replace h := h.1 hc
        refine lv_aload_n hx hb d_Md_goOn_272 rfl (lv_at hl 0 rfl) ?_
        refine kw_callv (va_runV (As := []) (rest := []) (b := g.1 54) ⟨hx, hb, hml, hown, hts⟩ (c_Md_stray l h) (cwV 0 hts (gd_v gw1274 gw1276 gs51 gw15 gw1277) rfl rfl rfl (by decide +kernel) ⟨Nat.le_of_ble_eq_true rfl, Nat.le_of_ble_eq_true rfl⟩) ⟨kw_blind (Zk_ok g), va_recv hK hst.1 rfl (WS_o54 g σ1), kw_pre (Zk_ok g) hK hZ hA hst⟩ rfl rfl hl.1 rfl (lv_room (Nat.le_of_ble_eq_true rfl)) d_Md_goOn_273 ⟨Nat.le_of_ble_eq_true rfl, Nat.le_of_ble_eq_true rfl⟩) hst hA (fun σ2 H locs h hst => ?_)
        exact kw_vret hx hb hr hlocks hst h d_Md_goOn_276
      · replace h := h.2 hc
        refine lv_goto (tgt := 219) hx hb d_Md_goOn_210 (by decide) ?_
        exact j4 x1 x2 σ1 _ _ _ (lv_sub hl [0, 1, 2] rfl) hst h
  · replace h := h.2 hc
    refine lv_aload_n hx hb d_Md_goOn_147 rfl (lv_at hl 0 rfl) ?_
    refine va_get (D := D) (ci := 10) (C := R_Md) (T := T_Md) (N := 46) hx hb hts in_Md hown hK hst.1 54 (WS_o54 g σ) rfl 23 (by decide) (hts _ gw1087) (fun _ h9 => h9) rfl d_Md_goOn_148 ?_
    refine lv_iload_n hx hb d_Md_goOn_151 rfl (lv_at hl 1 rfl) ?_
    obtain ⟨hi, h⟩ := h
    refine va_zald hx hb hK hst.1 74 2 (WS_a74 g σ) rfl hi d_Md_goOn_152 ?_
    refine lv_if_ne (tgt := 166) hx hb d_Md_goOn_153 (by decide) (fun hc => ?_) (fun hc => ?_)
    · replace h := h.1 hc
      exact j5 x1 σ _ _ _ (lv_sub hl [0, 1] rfl) hst h
    · replace h := h.2 hc
      refine lv_aload_n hx hb d_Md_goOn_156 rfl (lv_at hl 0 rfl) ?_
      refine lv_bipush (v := (8 : Int32)) hx hb d_Md_goOn_157 (by decide) ?_
      refine lv_aload_n hx hb d_Md_goOn_159 rfl (lv_at hl 0 rfl) ?_
      refine va_get (D := D) (ci := 10) (C := R_Md) (T := T_Md) (N := 46) hx hb hts in_Md hown hK hst.1 54 (WS_o54 g σ) rfl 19 (by decide) (hts _ gw1083) (fun _ h9 => h9) rfl d_Md_goOn_160 ?_
      refine kw_callv (va_runV (As := [.int (8 : Int32), .int (σ.1 54 19)]) (rest := []) (b := g.1 54) ⟨hx, hb, hml, hown, hts⟩ (c_Md_note l (8 : Int32) (σ.1 54 19) h) (cwV 2 hts (gd_v gw1278 gw1280 gs52 gw15 gw1281) rfl rfl rfl (by decide +kernel) ⟨Nat.le_of_ble_eq_true rfl, Nat.le_of_ble_eq_true rfl⟩) ⟨kw_blind (Zk_ok g), va_recv hK hst.1 rfl (WS_o54 g σ), kw_pre (Zk_ok g) hK hZ hA hst⟩ rfl rfl hl.1 rfl (lv_room (Nat.le_of_ble_eq_true rfl)) d_Md_goOn_163 ⟨Nat.le_of_ble_eq_true rfl, Nat.le_of_ble_eq_true rfl⟩) hst hA (fun σ1 H locs h hst => ?_)
      exact j5 x1 σ1 _ _ _ (lv_sub hl [0, 1] rfl) hst h
set_option maxRecDepth 100000 in
set_option maxHeartbeats 4000000 in
theorem b_Md_goOn_3 {p : Program} {l : Launch} {e : Env} {s : State} {m : MethodId} {args : Array Value} {below : List Frame} {meth : Method} {c : Code} {D : va_G} {g : Gm} {A : Nat → Prop} {post : Sg → Prop} {F : Nat → Int32 → Int32 → Int32 → Sg → Prop} (C : kC p s m args meth c k_Md_goOn 4 (none) GW R_Md D vwCl g (Zk g) A) (j6 : J_Md_goOn_6 p l e s m args below meth c D g A post F) (x2 : Int32) (x3 : Int32) (σ : Sg) (H : Heap) (locs : List Loc) (ls : Array Slot) (hl : lv_has ls 4 [(0, .ref (g.1 54)), (2, .int x2), (3, .int x3)]) (hst : Wst D vwCl (WS g) A s σ H locs) (h : wb_Md_goOn_3 F post x2 x3 σ) : W p l e { frames := 4, cells := 0, slots := 0, locals := 95 } s m args below meth c H locs 0 0 (MQ below (QvW D vwCl (WS g) post A) args s 0 0 A) (F0 m 96 ls []) := by
  obtain ⟨hx, hb, hr, hml, hown, hts, hlocks, hK, hZ, hA⟩ := C
  unfold wb_Md_goOn_3 at h
  refine lv_aload_n hx hb d_Md_goOn_96 rfl (lv_at hl 0 rfl) ?_
  refine lv_iload_n hx hb d_Md_goOn_97 rfl (lv_at hl 2 rfl) ?_
  refine lv_iconst (v := (-1 : Int32)) hx hb d_Md_goOn_98 (by decide) ?_
  refine lv_icmp_ne (tgt := 109) hx hb d_Md_goOn_99 (by decide) (fun hc => ?_) (fun hc => ?_)
  · replace h := h.1 hc
    refine lv_aload_n hx hb d_Md_goOn_109 rfl (lv_at hl 0 rfl) ?_
    refine va_get (D := D) (ci := 10) (C := R_Md) (T := T_Md) (N := 46) hx hb hts in_Md hown hK hst.1 54 (WS_o54 g σ) rfl 19 (by decide) (hts _ gw1083) (fun _ h9 => h9) rfl d_Md_goOn_110 ?_
    refine lv_iconst (v := (1 : Int32)) hx hb d_Md_goOn_113 (by decide) ?_
    refine lv_iadd hx hb d_Md_goOn_114 ?_
    refine kw_put (D := D) (ci := 10) (ty := .int) (C := R_Md) (T := T_Md) (N := 46) hx hb hts in_Md ty_Md ty_Md_ok nm_Md hown hK hst 54 (WS_o54 g σ) rfl 19 (by decide) (hts _ gw1083) (fun _ h9 => h9) rfl (by decide +kernel) rfl rfl (Nat.le_of_ble_eq_true rfl) (WS_p54_19 g σ _) d_Md_goOn_115 (fun σ1 H locs e1 hst => ?_)
    replace h := h σ1 e1
    exact j6 x2 σ1 _ _ _ (lv_sub hl [0, 1] rfl) hst h
  · replace h := h.2 hc
    refine lv_aload_n hx hb d_Md_goOn_102 rfl (lv_at hl 0 rfl) ?_
    refine va_get (D := D) (ci := 10) (C := R_Md) (T := T_Md) (N := 46) hx hb hts in_Md hown hK hst.1 54 (WS_o54 g σ) rfl 19 (by decide) (hts _ gw1083) (fun _ h9 => h9) rfl d_Md_goOn_103 ?_
    refine lv_goto (tgt := 115) hx hb d_Md_goOn_106 (by decide) ?_
    refine kw_put (D := D) (ci := 10) (ty := .int) (C := R_Md) (T := T_Md) (N := 46) hx hb hts in_Md ty_Md ty_Md_ok nm_Md hown hK hst 54 (WS_o54 g σ) rfl 19 (by decide) (hts _ gw1083) (fun _ h9 => h9) rfl (by decide +kernel) rfl rfl (Nat.le_of_ble_eq_true rfl) (WS_p54_19 g σ _) d_Md_goOn_115 (fun σ1 H locs e1 hst => ?_)
    replace h := h σ1 e1
    exact j6 x2 σ1 _ _ _ (lv_sub hl [0, 1] rfl) hst h
set_option maxRecDepth 100000 in
set_option maxHeartbeats 4000000 in
theorem b_Md_goOn_4 {p : Program} {l : Launch} {e : Env} {s : State} {m : MethodId} {args : Array Value} {below : List Frame} {meth : Method} {c : Code} {D : va_G} {g : Gm} {A : Nat → Prop} {post : Sg → Prop} {F : Nat → Int32 → Int32 → Int32 → Sg → Prop} (C : kC p s m args meth c k_Md_goOn 4 (none) GW R_Md D vwCl g (Zk g) A) (j7 : J_Md_goOn_7 p l e s m args below meth c D g A post F) (x1 : Int32) (x2 : Int32) (σ : Sg) (H : Heap) (locs : List Loc) (ls : Array Slot) (hl : lv_has ls 4 [(0, .ref (g.1 54)), (1, .int x1), (2, .int x2)]) (hst : Wst D vwCl (WS g) A s σ H locs) (h : wb_Md_goOn_4 F post x1 x2 σ) : W p l e { frames := 4, cells := 0, slots := 0, locals := 95 } s m args below meth c H locs 0 0 (MQ below (QvW D vwCl (WS g) post A) args s 0 0 A) (F0 m 219 ls []) := by
  obtain ⟨hx, hb, hr, hml, hown, hts, hlocks, hK, hZ, hA⟩ := C
  unfold wb_Md_goOn_4 at h
  refine lv_aload_n hx hb d_Md_goOn_219 rfl (lv_at hl 0 rfl) ?_
  refine va_get (D := D) (ci := 10) (C := R_Md) (T := T_Md) (N := 46) hx hb hts in_Md hown hK hst.1 54 (WS_o54 g σ) rfl 23 (by decide) (hts _ gw1087) (fun _ h9 => h9) rfl d_Md_goOn_220 ?_
  refine lv_iload_n hx hb d_Md_goOn_223 rfl (lv_at hl 1 rfl) ?_
  obtain ⟨hi, h⟩ := h
  refine va_zald hx hb hK hst.1 74 2 (WS_a74 g σ) rfl hi d_Md_goOn_224 ?_
  refine lv_if_eq (tgt := 238) hx hb d_Md_goOn_225 (by decide) (fun hc => ?_) (fun hc => ?_)
  · replace h := h.1 hc
    exact j7 x1 x2 σ _ _ _ (lv_sub hl [0, 1, 2] rfl) hst h
  · replace h := h.2 hc
    refine lv_aload_n hx hb d_Md_goOn_228 rfl (lv_at hl 0 rfl) ?_
    refine lv_bipush (v := (9 : Int32)) hx hb d_Md_goOn_229 (by decide) ?_
    refine lv_aload_n hx hb d_Md_goOn_231 rfl (lv_at hl 0 rfl) ?_
    refine va_get (D := D) (ci := 10) (C := R_Md) (T := T_Md) (N := 46) hx hb hts in_Md hown hK hst.1 54 (WS_o54 g σ) rfl 19 (by decide) (hts _ gw1083) (fun _ h9 => h9) rfl d_Md_goOn_232 ?_
    refine kw_callv (va_runV (As := [.int (9 : Int32), .int (σ.1 54 19)]) (rest := []) (b := g.1 54) ⟨hx, hb, hml, hown, hts⟩ (c_Md_note l (9 : Int32) (σ.1 54 19) h) (cwV 2 hts (gd_v gw1278 gw1280 gs52 gw15 gw1281) rfl rfl rfl (by decide +kernel) ⟨Nat.le_of_ble_eq_true rfl, Nat.le_of_ble_eq_true rfl⟩) ⟨kw_blind (Zk_ok g), va_recv hK hst.1 rfl (WS_o54 g σ), kw_pre (Zk_ok g) hK hZ hA hst⟩ rfl rfl hl.1 rfl (lv_room (Nat.le_of_ble_eq_true rfl)) d_Md_goOn_235 ⟨Nat.le_of_ble_eq_true rfl, Nat.le_of_ble_eq_true rfl⟩) hst hA (fun σ1 H locs h hst => ?_)
    exact j7 x1 x2 σ1 _ _ _ (lv_sub hl [0, 1, 2] rfl) hst h
set_option maxRecDepth 100000 in
set_option maxHeartbeats 4000000 in
theorem b_Md_goOn_5 {p : Program} {l : Launch} {e : Env} {s : State} {m : MethodId} {args : Array Value} {below : List Frame} {meth : Method} {c : Code} {D : va_G} {g : Gm} {A : Nat → Prop} {post : Sg → Prop} {F : Nat → Int32 → Int32 → Int32 → Sg → Prop} (C : kC p s m args meth c k_Md_goOn 4 (none) GW R_Md D vwCl g (Zk g) A) (x1 : Int32) (σ : Sg) (H : Heap) (locs : List Loc) (ls : Array Slot) (hl : lv_has ls 4 [(0, .ref (g.1 54)), (1, .int x1)]) (hst : Wst D vwCl (WS g) A s σ H locs) (h : wb_Md_goOn_5 F post x1 σ) : W p l e { frames := 4, cells := 0, slots := 0, locals := 95 } s m args below meth c H locs 0 0 (MQ below (QvW D vwCl (WS g) post A) args s 0 0 A) (F0 m 166 ls []) := by
  obtain ⟨hx, hb, hr, hml, hown, hts, hlocks, hK, hZ, hA⟩ := C
  unfold wb_Md_goOn_5 at h
  refine lv_aload_n hx hb d_Md_goOn_166 rfl (lv_at hl 0 rfl) ?_
  refine va_get (D := D) (ci := 10) (C := R_Md) (T := T_Md) (N := 46) hx hb hts in_Md hown hK hst.1 54 (WS_o54 g σ) rfl 23 (by decide) (hts _ gw1087) (fun _ h9 => h9) rfl d_Md_goOn_167 ?_
  refine lv_iload_n hx hb d_Md_goOn_170 rfl (lv_at hl 1 rfl) ?_
  refine lv_iconst (v := (0 : Int32)) hx hb d_Md_goOn_171 (by decide) ?_
  obtain ⟨hi, h⟩ := h
  refine kw_zast hx hb hK hst 74 (WS_a74 g σ) hi (WS_s74 g σ _ _) d_Md_goOn_172 (fun σ1 H locs e1 hst => ?_)
  replace h := h σ1 e1
  refine lv_aload_n hx hb d_Md_goOn_173 rfl (lv_at hl 0 rfl) ?_
  refine va_get (D := D) (ci := 10) (C := R_Md) (T := T_Md) (N := 46) hx hb hts in_Md hown hK hst.1 54 (WS_o54 g σ1) rfl 24 (by decide) (hts _ gw1088) (fun _ h9 => h9) rfl d_Md_goOn_174 ?_
  refine lv_iload_n hx hb d_Md_goOn_177 rfl (lv_at hl 1 rfl) ?_
  refine lv_iconst (v := (1 : Int32)) hx hb d_Md_goOn_178 (by decide) ?_
  obtain ⟨hi, h⟩ := h
  refine kw_zast hx hb hK hst 75 (WS_a75 g σ1) hi (WS_s75 g σ1 _ _) d_Md_goOn_179 (fun σ2 H locs e2 hst => ?_)
  replace h := h σ2 e2
  refine lv_aload_n hx hb d_Md_goOn_180 rfl (lv_at hl 0 rfl) ?_
  refine lv_dup hx hb d_Md_goOn_181 rfl ?_
  refine va_get (D := D) (ci := 10) (C := R_Md) (T := T_Md) (N := 46) hx hb hts in_Md hown hK hst.1 54 (WS_o54 g σ2) rfl 19 (by decide) (hts _ gw1083) (fun _ h9 => h9) rfl d_Md_goOn_182 ?_
  refine lv_iconst (v := (1 : Int32)) hx hb d_Md_goOn_185 (by decide) ?_
  refine lv_iadd hx hb d_Md_goOn_186 ?_
  refine kw_put (D := D) (ci := 10) (ty := .int) (C := R_Md) (T := T_Md) (N := 46) hx hb hts in_Md ty_Md ty_Md_ok nm_Md hown hK hst 54 (WS_o54 g σ2) rfl 19 (by decide) (hts _ gw1083) (fun _ h9 => h9) rfl (by decide +kernel) rfl rfl (Nat.le_of_ble_eq_true rfl) (WS_p54_19 g σ2 _) d_Md_goOn_187 (fun σ3 H locs e3 hst => ?_)
  replace h := h σ3 e3
  refine lv_goto (tgt := 276) hx hb d_Md_goOn_190 (by decide) ?_
  exact kw_vret hx hb hr hlocks hst h d_Md_goOn_276
set_option maxRecDepth 100000 in
set_option maxHeartbeats 4000000 in
theorem b_Md_goOn_6 {p : Program} {l : Launch} {e : Env} {s : State} {m : MethodId} {args : Array Value} {below : List Frame} {meth : Method} {c : Code} {D : va_G} {g : Gm} {A : Nat → Prop} {post : Sg → Prop} {F : Nat → Int32 → Int32 → Int32 → Sg → Prop} (C : kC p s m args meth c k_Md_goOn 4 (none) GW R_Md D vwCl g (Zk g) A) (x2 : Int32) (σ : Sg) (H : Heap) (locs : List Loc) (ls : Array Slot) (hl : lv_has ls 4 [(0, .ref (g.1 54)), (2, .int x2)]) (hst : Wst D vwCl (WS g) A s σ H locs) (h : wb_Md_goOn_6 F post x2 σ) : W p l e { frames := 4, cells := 0, slots := 0, locals := 95 } s m args below meth c H locs 0 0 (MQ below (QvW D vwCl (WS g) post A) args s 0 0 A) (F0 m 118 ls []) := by
  obtain ⟨hx, hb, hr, hml, hown, hts, hlocks, hK, hZ, hA⟩ := C
  unfold wb_Md_goOn_6 at h
  refine lv_aload_n hx hb d_Md_goOn_118 rfl (lv_at hl 0 rfl) ?_
  refine va_get (D := D) (ci := 10) (C := R_Md) (T := T_Md) (N := 46) hx hb hts in_Md hown hK hst.1 54 (WS_o54 g σ) rfl 7 (by decide) (hts _ gw1071) (fun _ h9 => h9) rfl d_Md_goOn_119 ?_
  refine lv_iload_n hx hb d_Md_goOn_122 rfl (lv_at hl 1 rfl) ?_
  refine lv_aload_n hx hb d_Md_goOn_123 rfl (lv_at hl 0 rfl) ?_
  refine va_get (D := D) (ci := 10) (C := R_Md) (T := T_Md) (N := 46) hx hb hts in_Md hown hK hst.1 54 (WS_o54 g σ) rfl 19 (by decide) (hts _ gw1083) (fun _ h9 => h9) rfl d_Md_goOn_124 ?_
  obtain ⟨hi, h⟩ := h
  refine kw_iast hx hb hK hst 61 (WS_a61 g σ) hi (WS_s61 g σ _ _) d_Md_goOn_127 (fun σ1 H locs e1 hst => ?_)
  replace h := h σ1 e1
  refine lv_aload_n hx hb d_Md_goOn_128 rfl (lv_at hl 0 rfl) ?_
  refine lv_dup hx hb d_Md_goOn_129 rfl ?_
  refine va_get (D := D) (ci := 10) (C := R_Md) (T := T_Md) (N := 46) hx hb hts in_Md hown hK hst.1 54 (WS_o54 g σ1) rfl 20 (by decide) (hts _ gw1084) (fun _ h9 => h9) rfl d_Md_goOn_130 ?_
  refine lv_iconst (v := (1 : Int32)) hx hb d_Md_goOn_133 (by decide) ?_
  refine lv_isub hx hb d_Md_goOn_134 ?_
  refine kw_put (D := D) (ci := 10) (ty := .int) (C := R_Md) (T := T_Md) (N := 46) hx hb hts in_Md ty_Md ty_Md_ok nm_Md hown hK hst 54 (WS_o54 g σ1) rfl 20 (by decide) (hts _ gw1084) (fun _ h9 => h9) rfl (by decide +kernel) rfl rfl (Nat.le_of_ble_eq_true rfl) (WS_p54_20 g σ1 _) d_Md_goOn_135 (fun σ2 H locs e2 hst => ?_)
  replace h := h σ2 e2
  refine lv_goto (tgt := 276) hx hb d_Md_goOn_138 (by decide) ?_
  exact kw_vret hx hb hr hlocks hst h d_Md_goOn_276
set_option maxRecDepth 100000 in
set_option maxHeartbeats 4000000 in
theorem b_Md_goOn_7 {p : Program} {l : Launch} {e : Env} {s : State} {m : MethodId} {args : Array Value} {below : List Frame} {meth : Method} {c : Code} {D : va_G} {g : Gm} {A : Nat → Prop} {post : Sg → Prop} {F : Nat → Int32 → Int32 → Int32 → Sg → Prop} (C : kC p s m args meth c k_Md_goOn 4 (none) GW R_Md D vwCl g (Zk g) A) (x1 : Int32) (x2 : Int32) (σ : Sg) (H : Heap) (locs : List Loc) (ls : Array Slot) (hl : lv_has ls 4 [(0, .ref (g.1 54)), (1, .int x1), (2, .int x2)]) (hst : Wst D vwCl (WS g) A s σ H locs) (h : wb_Md_goOn_7 F post x1 x2 σ) : W p l e { frames := 4, cells := 0, slots := 0, locals := 95 } s m args below meth c H locs 0 0 (MQ below (QvW D vwCl (WS g) post A) args s 0 0 A) (F0 m 238 ls []) := by
  obtain ⟨hx, hb, hr, hml, hown, hts, hlocks, hK, hZ, hA⟩ := C
  unfold wb_Md_goOn_7 at h
  refine lv_aload_n hx hb d_Md_goOn_238 rfl (lv_at hl 0 rfl) ?_
  refine va_get (D := D) (ci := 10) (C := R_Md) (T := T_Md) (N := 46) hx hb hts in_Md hown hK hst.1 54 (WS_o54 g σ) rfl 23 (by decide) (hts _ gw1087) (fun _ h9 => h9) rfl d_Md_goOn_239 ?_
  refine lv_iload_n hx hb d_Md_goOn_242 rfl (lv_at hl 1 rfl) ?_
  refine lv_iconst (v := (1 : Int32)) hx hb d_Md_goOn_243 (by decide) ?_
  obtain ⟨hi, h⟩ := h
  refine kw_zast hx hb hK hst 74 (WS_a74 g σ) hi (WS_s74 g σ _ _) d_Md_goOn_244 (fun σ1 H locs e1 hst => ?_)
  replace h := h σ1 e1
  refine lv_aload_n hx hb d_Md_goOn_245 rfl (lv_at hl 0 rfl) ?_
  refine va_get (D := D) (ci := 10) (C := R_Md) (T := T_Md) (N := 46) hx hb hts in_Md hown hK hst.1 54 (WS_o54 g σ1) rfl 5 (by decide) (hts _ gw1069) (fun _ h9 => h9) rfl d_Md_goOn_246 ?_
  refine lv_iload_n hx hb d_Md_goOn_249 rfl (lv_at hl 2 rfl) ?_
  obtain ⟨hi, h⟩ := h
  refine va_iald hx hb hK hst.1 59 0 (WS_a59 g σ1) rfl hi d_Md_goOn_250 ?_
  refine lv_iconst (v := (5 : Int32)) hx hb d_Md_goOn_251 (by decide) ?_
  refine lv_icmp_ne (tgt := 264) hx hb d_Md_goOn_252 (by decide) (fun hc => ?_) (fun hc => ?_)
  · replace h := h.1 hc
    refine lv_aload_n hx hb d_Md_goOn_264 rfl (lv_at hl 0 rfl) ?_
    refine lv_iload_n hx hb d_Md_goOn_265 rfl (lv_at hl 2 rfl) ?_
    refine kw_callv (va_runV (As := [.int x2]) (rest := []) (b := g.1 54) ⟨hx, hb, hml, hown, hts⟩ (c_Md_member l x2 h) (cwV 1 hts (gd_v gw1309 gw1311 gs59 gw15 gw1312) rfl rfl rfl (by decide +kernel) ⟨Nat.le_of_ble_eq_true rfl, Nat.le_of_ble_eq_true rfl⟩) ⟨kw_blind (Zk_ok g), va_recv hK hst.1 rfl (WS_o54 g σ1), kw_pre (Zk_ok g) hK hZ hA hst⟩ rfl rfl hl.1 rfl (lv_room (Nat.le_of_ble_eq_true rfl)) d_Md_goOn_266 ⟨Nat.le_of_ble_eq_true rfl, Nat.le_of_ble_eq_true rfl⟩) hst hA (fun σ2 H locs h hst => ?_)
    refine lv_goto (tgt := 276) hx hb d_Md_goOn_269 (by decide) ?_
    exact kw_vret hx hb hr hlocks hst h d_Md_goOn_276
  · replace h := h.2 hc
    refine lv_aload_n hx hb d_Md_goOn_255 rfl (lv_at hl 0 rfl) ?_
    refine lv_iconst (v := (-1 : Int32)) hx hb d_Md_goOn_256 (by decide) ?_
    refine lv_iconst (v := (-1 : Int32)) hx hb d_Md_goOn_257 (by decide) ?_
    refine kw_callv (va_runV (As := [.int (-1 : Int32), .int (-1 : Int32)]) (rest := []) (b := g.1 54) ⟨hx, hb, hml, hown, hts⟩ (c_Md_value l (-1 : Int32) (-1 : Int32) h) (cwV 2 hts (gd_v gw1282 gw1284 gs53 gw15 gw1285) rfl rfl rfl (by decide +kernel) ⟨Nat.le_of_ble_eq_true rfl, Nat.le_of_ble_eq_true rfl⟩) ⟨kw_blind (Zk_ok g), va_recv hK hst.1 rfl (WS_o54 g σ1), kw_pre (Zk_ok g) hK hZ hA hst⟩ rfl rfl hl.1 rfl (lv_room (Nat.le_of_ble_eq_true rfl)) d_Md_goOn_258 ⟨Nat.le_of_ble_eq_true rfl, Nat.le_of_ble_eq_true rfl⟩) hst hA (fun σ2 H locs h hst => ?_)
    refine lv_goto (tgt := 276) hx hb d_Md_goOn_261 (by decide) ?_
    exact kw_vret hx hb hr hlocks hst h d_Md_goOn_276
set_option maxRecDepth 100000 in
set_option maxHeartbeats 4000000 in
theorem a_Md_goOn {p : Program} {l : Launch} {e : Env} {s : State} {m : MethodId} {args : Array Value} {below : List Frame} {meth : Method} {c : Code} {D : va_G} {g : Gm} {A : Nat → Prop} {post : Sg → Prop} (C : kC p s m args meth c k_Md_goOn 4 (none) GW R_Md D vwCl g (Zk g) A) : ∀ n : Nat, J_Md_goOn_1 p l e s m args below meth c D g A post (wp_Md_goOn post n) ∧ J_Md_goOn_2 p l e s m args below meth c D g A post (wp_Md_goOn post n) ∧ J_Md_goOn_3 p l e s m args below meth c D g A post (wp_Md_goOn post n) ∧ J_Md_goOn_4 p l e s m args below meth c D g A post (wp_Md_goOn post n) ∧ J_Md_goOn_5 p l e s m args below meth c D g A post (wp_Md_goOn post n) ∧ J_Md_goOn_6 p l e s m args below meth c D g A post (wp_Md_goOn post n) ∧ J_Md_goOn_7 p l e s m args below meth c D g A post (wp_Md_goOn post n) := by
  intro n
  induction n with
  | zero => exact ⟨fun _ _ _ _ _ _ _ _ _ h => h.elim, fun _ _ _ _ _ _ _ _ _ h => h.elim, fun _ _ _ _ _ _ _ _ h => h.elim, fun _ _ _ _ _ _ _ _ h => h.elim, fun _ _ _ _ _ _ _ h => h.elim, fun _ _ _ _ _ _ _ h => h.elim, fun _ _ _ _ _ _ _ _ h => h.elim⟩
  | succ n ih => exact ⟨fun x1 x2 x3 σ H locs ls hl hst h => b_Md_goOn_1 (F := wp_Md_goOn post n) C (ih.2.2.1) x1 x2 x3 σ H locs ls hl hst h, fun x1 x2 x3 σ H locs ls hl hst h => b_Md_goOn_2 (F := wp_Md_goOn post n) C (ih.2.2.2.1) (ih.2.2.2.2.1) x1 x2 x3 σ H locs ls hl hst h, fun x2 x3 σ H locs ls hl hst h => b_Md_goOn_3 (F := wp_Md_goOn post n) C (ih.2.2.2.2.2.1) x2 x3 σ H locs ls hl hst h, fun x1 x2 σ H locs ls hl hst h => b_Md_goOn_4 (F := wp_Md_goOn post n) C (ih.2.2.2.2.2.2) x1 x2 σ H locs ls hl hst h, fun x1 σ H locs ls hl hst h => b_Md_goOn_5 (F := wp_Md_goOn post n) C x1 σ H locs ls hl hst h, fun x2 σ H locs ls hl hst h => b_Md_goOn_6 (F := wp_Md_goOn post n) C x2 σ H locs ls hl hst h, fun x1 x2 σ H locs ls hl hst h => b_Md_goOn_7 (F := wp_Md_goOn post n) C x1 x2 σ H locs ls hl hst h⟩
set_option maxRecDepth 100000 in
set_option maxHeartbeats 4000000 in
theorem c_Md_goOn (l : Launch) {D : va_G} {g : Gm} {sz : Nat} {σ : Sg} {post : Sg → Prop} (h : wq_Md_goOn σ post) : Met l y_Md_goOn (.code y_Md_goOn k_Md_goOn 4 (none) :: GW) { frames := 4, cells := 0, slots := 0, locals := 95 } (PcW D vwCl (WS g) g (Zk g) σ sz [.ref (g.1 54)]) (QvW D vwCl (WS g) post (va_A (WS g σ) sz)) 0 0 (va_A (WS g σ) sz) := by
  refine kw_entry (own := R_Md) (by decide) rfl rfl (Nat.le_of_ble_eq_true rfl) ?_
  intro p e s m below meth c ls hsz C hin hl hst
  obtain ⟨n, h⟩ := h
  cases n with
  | zero => exact h.elim
  | succ n =>
    have ih := a_Md_goOn (l := l) (e := e) (below := below) (post := post) C n
    exact b_Md_goOn_0 (F := wp_Md_goOn post n) C (ih.1) (ih.2.1) σ _ _ ls hl hst h
/-! SchemaDeskModel.read (I)V -/
abbrev k_Md_read : ByteArray := prog_12_method_31_code
abbrev y_Md_read : MethodName := ⟨"SchemaDeskModel", "read", "(I)V"⟩
theorem d_Md_read_0 : decode k_Md_read 0 = .ok (.aload_n 0, 1) := by decide +kernel
theorem d_Md_read_1 : decode k_Md_read 1 = .ok (.iload_n 1, 1) := by decide +kernel
theorem d_Md_read_2 : decode k_Md_read 2 = .ok (.putfield 205, 3) := by decide +kernel
theorem d_Md_read_5 : decode k_Md_read 5 = .ok (.aload_n 0, 1) := by decide +kernel
theorem d_Md_read_6 : decode k_Md_read 6 = .ok (.iconst 0, 1) := by decide +kernel
theorem d_Md_read_7 : decode k_Md_read 7 = .ok (.putfield 202, 3) := by decide +kernel
theorem d_Md_read_10 : decode k_Md_read 10 = .ok (.aload_n 0, 1) := by decide +kernel
theorem d_Md_read_11 : decode k_Md_read 11 = .ok (.iconst 0, 1) := by decide +kernel
theorem d_Md_read_12 : decode k_Md_read 12 = .ok (.putfield 212, 3) := by decide +kernel
theorem d_Md_read_15 : decode k_Md_read 15 = .ok (.aload_n 0, 1) := by decide +kernel
theorem d_Md_read_16 : decode k_Md_read 16 = .ok (.getfield 74, 3) := by decide +kernel
theorem d_Md_read_19 : decode k_Md_read 19 = .ok (.aload_n 0, 1) := by decide +kernel
theorem d_Md_read_20 : decode k_Md_read 20 = .ok (.getfield 205, 3) := by decide +kernel
theorem d_Md_read_23 : decode k_Md_read 23 = .ok (.iconst 0, 1) := by decide +kernel
theorem d_Md_read_24 : decode k_Md_read 24 = .ok (.iastore, 1) := by decide +kernel
theorem d_Md_read_25 : decode k_Md_read 25 = .ok (.aload_n 0, 1) := by decide +kernel
theorem d_Md_read_26 : decode k_Md_read 26 = .ok (.getfield 113, 3) := by decide +kernel
theorem d_Md_read_29 : decode k_Md_read 29 = .ok (.aload_n 0, 1) := by decide +kernel
theorem d_Md_read_30 : decode k_Md_read 30 = .ok (.getfield 205, 3) := by decide +kernel
theorem d_Md_read_33 : decode k_Md_read 33 = .ok (.iconst 0, 1) := by decide +kernel
theorem d_Md_read_34 : decode k_Md_read 34 = .ok (.iastore, 1) := by decide +kernel
theorem d_Md_read_35 : decode k_Md_read 35 = .ok (.aload_n 0, 1) := by decide +kernel
theorem d_Md_read_36 : decode k_Md_read 36 = .ok (.invokevirtual 253, 3) := by decide +kernel
theorem d_Md_read_39 : decode k_Md_read 39 = .ok (.aload_n 0, 1) := by decide +kernel
theorem d_Md_read_40 : decode k_Md_read 40 = .ok (.invokevirtual 208, 3) := by decide +kernel
theorem d_Md_read_43 : decode k_Md_read 43 = .ok (.ifCond .lt 21, 3) := by decide +kernel
theorem d_Md_read_46 : decode k_Md_read 46 = .ok (.aload_n 0, 1) := by decide +kernel
theorem d_Md_read_47 : decode k_Md_read 47 = .ok (.invokevirtual 256, 3) := by decide +kernel
theorem d_Md_read_50 : decode k_Md_read 50 = .ok (.ifCond .ne 14, 3) := by decide +kernel
theorem d_Md_read_53 : decode k_Md_read 53 = .ok (.aload_n 0, 1) := by decide +kernel
theorem d_Md_read_54 : decode k_Md_read 54 = .ok (.invokevirtual 265, 3) := by decide +kernel
theorem d_Md_read_57 : decode k_Md_read 57 = .ok (.aload_n 0, 1) := by decide +kernel
theorem d_Md_read_58 : decode k_Md_read 58 = .ok (.invokevirtual 253, 3) := by decide +kernel
theorem d_Md_read_61 : decode k_Md_read 61 = .ok (.goto (-22), 3) := by decide +kernel
theorem d_Md_read_64 : decode k_Md_read 64 = .ok (.aload_n 0, 1) := by decide +kernel
theorem d_Md_read_65 : decode k_Md_read 65 = .ok (.invokevirtual 208, 3) := by decide +kernel
theorem d_Md_read_68 : decode k_Md_read 68 = .ok (.ifCond .ge 13, 3) := by decide +kernel
theorem d_Md_read_71 : decode k_Md_read 71 = .ok (.aload_n 0, 1) := by decide +kernel
theorem d_Md_read_72 : decode k_Md_read 72 = .ok (.iconst 1, 1) := by decide +kernel
theorem d_Md_read_73 : decode k_Md_read 73 = .ok (.aload_n 0, 1) := by decide +kernel
theorem d_Md_read_74 : decode k_Md_read 74 = .ok (.getfield 202, 3) := by decide +kernel
theorem d_Md_read_77 : decode k_Md_read 77 = .ok (.invokevirtual 221, 3) := by decide +kernel
theorem d_Md_read_80 : decode k_Md_read 80 = .ok (.return_, 1) := by decide +kernel
theorem d_Md_read_81 : decode k_Md_read 81 = .ok (.aload_n 0, 1) := by decide +kernel
theorem d_Md_read_82 : decode k_Md_read 82 = .ok (.iconst (-1), 1) := by decide +kernel
theorem d_Md_read_83 : decode k_Md_read 83 = .ok (.iconst (-1), 1) := by decide +kernel
theorem d_Md_read_84 : decode k_Md_read 84 = .ok (.invokevirtual 260, 3) := by decide +kernel
theorem d_Md_read_87 : decode k_Md_read 87 = .ok (.aload_n 0, 1) := by decide +kernel
theorem d_Md_read_88 : decode k_Md_read 88 = .ok (.getfield 212, 3) := by decide +kernel
theorem d_Md_read_91 : decode k_Md_read 91 = .ok (.ifCond .le 10, 3) := by decide +kernel
theorem d_Md_read_94 : decode k_Md_read 94 = .ok (.aload_n 0, 1) := by decide +kernel
theorem d_Md_read_95 : decode k_Md_read 95 = .ok (.invokevirtual 268, 3) := by decide +kernel
theorem d_Md_read_98 : decode k_Md_read 98 = .ok (.goto (-11), 3) := by decide +kernel
theorem d_Md_read_101 : decode k_Md_read 101 = .ok (.aload_n 0, 1) := by decide +kernel
theorem d_Md_read_102 : decode k_Md_read 102 = .ok (.invokevirtual 253, 3) := by decide +kernel
theorem d_Md_read_105 : decode k_Md_read 105 = .ok (.aload_n 0, 1) := by decide +kernel
theorem d_Md_read_106 : decode k_Md_read 106 = .ok (.invokevirtual 208, 3) := by decide +kernel
theorem d_Md_read_109 : decode k_Md_read 109 = .ok (.ifCond .lt 12, 3) := by decide +kernel
theorem d_Md_read_112 : decode k_Md_read 112 = .ok (.aload_n 0, 1) := by decide +kernel
theorem d_Md_read_113 : decode k_Md_read 113 = .ok (.iconst 2, 1) := by decide +kernel
theorem d_Md_read_114 : decode k_Md_read 114 = .ok (.aload_n 0, 1) := by decide +kernel
theorem d_Md_read_115 : decode k_Md_read 115 = .ok (.getfield 202, 3) := by decide +kernel
theorem d_Md_read_118 : decode k_Md_read 118 = .ok (.invokevirtual 221, 3) := by decide +kernel
theorem d_Md_read_121 : decode k_Md_read 121 = .ok (.return_, 1) := by decide +kernel
theorem gw1305 : (Jvm.Cond.methodLink "SchemaDeskModel" (268 : Nat) ({ cls := "SchemaDeskModel", name := "goOn", desc := "()V" } : Jvm.MethodName)) ∈ GW := gw_t6 (List.mem_of_getElem? (i := 105) rfl) rfl
theorem gw1307 : (Jvm.Cond.instanceMethod ({ cls := "SchemaDeskModel", name := "goOn", desc := "()V" } : Jvm.MethodName)) ∈ GW := gw_t6 (List.mem_of_getElem? (i := 107) rfl) rfl
theorem gs58 : Cond.selects "SchemaDeskModel" ⟨"SchemaDeskModel", "goOn", "()V"⟩ ⟨"SchemaDeskModel", "goOn", "()V"⟩ ∈ GW := gw_p4 (q := (⟨"SchemaDeskModel", "goOn", "()V"⟩, 46)) (List.mem_of_getElem? (i := 10) rfl)
theorem gw1308 : (Jvm.Cond.code ({ cls := "SchemaDeskModel", name := "goOn", desc := "()V" } : Jvm.MethodName) prog_12_method_30_code (4 : Nat) (Option.none : Option Jvm.ClassFile.FieldType)) ∈ GW := gw_t6 (List.mem_of_getElem? (i := 108) rfl) rfl
def wb_Md_read_0 (F : Nat → Int32 → Sg → Prop) (post : Sg → Prop) (x1 : Int32) (σ : Sg) : Prop := (∀ σ1, σ1 = si σ 54 18 x1 → (∀ σ2, σ2 = si σ1 54 19 (0 : Int32) → (∀ σ3, σ3 = si σ2 54 20 (0 : Int32) → (vp_in (σ3.1 54 18) 2 ∧ (∀ σ4, σ4 = si σ3 58 ((σ3.1 54 18) : Int32).toNatClampNeg (0 : Int32) → (vp_in (σ4.1 54 18) 2 ∧ (∀ σ5, σ5 = si σ4 71 ((σ4.1 54 18) : Int32).toNatClampNeg (0 : Int32) → (wq_Md_blanks  σ5 (fun σ6 => F 1 0 σ6)))))))))
def wb_Md_read_1 (F : Nat → Int32 → Sg → Prop) (post : Sg → Prop) (σ : Sg) : Prop := (wq_Md_here  σ (fun r1 σ1 => ((r1 < 0 → F 2 0 σ1) ∧ (¬ r1 < 0 → (wq_Md_starts  σ1 (fun r2 σ2 => ((¬ r2 = 0 → F 2 0 σ2) ∧ (r2 = 0 → (wq_Md_stray  σ2 (fun σ3 => (wq_Md_blanks  σ3 (fun σ4 => F 1 0 σ4))))))))))))
def wb_Md_read_2 (F : Nat → Int32 → Sg → Prop) (post : Sg → Prop) (σ : Sg) : Prop := (wq_Md_here  σ (fun r1 σ1 => ((0 ≤ r1 → (wq_Md_value (-1 : Int32) (-1 : Int32) σ1 (fun σ2 => F 3 0 σ2))) ∧ (¬ 0 ≤ r1 → (wq_Md_note (1 : Int32) (σ1.1 54 19) σ1 (fun σ2 => post σ2))))))
def wb_Md_read_3 (F : Nat → Int32 → Sg → Prop) (post : Sg → Prop) (σ : Sg) : Prop := (((σ.1 54 20) ≤ 0 → (wq_Md_blanks  σ (fun σ1 => (wq_Md_here  σ1 (fun r2 σ2 => ((r2 < 0 → post σ2) ∧ (¬ r2 < 0 → (wq_Md_note (2 : Int32) (σ2.1 54 19) σ2 (fun σ3 => post σ3))))))))) ∧ (¬ (σ.1 54 20) ≤ 0 → (wq_Md_goOn  σ (fun σ1 => F 3 0 σ1))))
def wp_Md_read (post : Sg → Prop) : Nat → Nat → Int32 → Sg → Prop
  | 0, _, _, _ => False
  | n + 1, k, x1, σ => match k with
    | 0 => wb_Md_read_0 (wp_Md_read post n) post x1 σ
    | 1 => wb_Md_read_1 (wp_Md_read post n) post σ
    | 2 => wb_Md_read_2 (wp_Md_read post n) post σ
    | 3 => wb_Md_read_3 (wp_Md_read post n) post σ
    | _ => False
def wq_Md_read (x1 : Int32) (σ : Sg) (post : Sg → Prop) : Prop := ∃ n, wp_Md_read post n 0 x1 σ
def J_Md_read_1 (p : Program) (l : Launch) (e : Env) (s : State) (m : MethodId) (args : Array Value) (below : List Frame) (meth : Method) (c : Code) (D : va_G) (g : Gm) (A : Nat → Prop) (post : Sg → Prop) (F : Nat → Int32 → Sg → Prop) : Prop := ∀ (σ : Sg) (H : Heap) (locs : List Loc) (ls : Array Slot), lv_has ls 2 [(0, .ref (g.1 54))] → Wst D vwCl (WS g) A s σ H locs → F 1 0 σ → W p l e { frames := 5, cells := 0, slots := 0, locals := 118 } s m args below meth c H locs 0 0 (MQ below (QvW D vwCl (WS g) post A) args s 0 0 A) (F0 m 39 ls [])
def J_Md_read_2 (p : Program) (l : Launch) (e : Env) (s : State) (m : MethodId) (args : Array Value) (below : List Frame) (meth : Method) (c : Code) (D : va_G) (g : Gm) (A : Nat → Prop) (post : Sg → Prop) (F : Nat → Int32 → Sg → Prop) : Prop := ∀ (σ : Sg) (H : Heap) (locs : List Loc) (ls : Array Slot), lv_has ls 2 [(0, .ref (g.1 54))] → Wst D vwCl (WS g) A s σ H locs → F 2 0 σ → W p l e { frames := 5, cells := 0, slots := 0, locals := 118 } s m args below meth c H locs 0 0 (MQ below (QvW D vwCl (WS g) post A) args s 0 0 A) (F0 m 64 ls [])
def J_Md_read_3 (p : Program) (l : Launch) (e : Env) (s : State) (m : MethodId) (args : Array Value) (below : List Frame) (meth : Method) (c : Code) (D : va_G) (g : Gm) (A : Nat → Prop) (post : Sg → Prop) (F : Nat → Int32 → Sg → Prop) : Prop := ∀ (σ : Sg) (H : Heap) (locs : List Loc) (ls : Array Slot), lv_has ls 2 [(0, .ref (g.1 54))] → Wst D vwCl (WS g) A s σ H locs → F 3 0 σ → W p l e { frames := 5, cells := 0, slots := 0, locals := 118 } s m args below meth c H locs 0 0 (MQ below (QvW D vwCl (WS g) post A) args s 0 0 A) (F0 m 87 ls [])
set_option maxRecDepth 100000 in
set_option maxHeartbeats 4000000 in
theorem b_Md_read_0 {p : Program} {l : Launch} {e : Env} {s : State} {m : MethodId} {args : Array Value} {below : List Frame} {meth : Method} {c : Code} {D : va_G} {g : Gm} {A : Nat → Prop} {post : Sg → Prop} {F : Nat → Int32 → Sg → Prop} (C : kC p s m args meth c k_Md_read 2 (none) GW R_Md D vwCl g (Zk g) A) (j1 : J_Md_read_1 p l e s m args below meth c D g A post F) (x1 : Int32) (σ : Sg) (H : Heap) (locs : List Loc) (ls : Array Slot) (hl : lv_has ls 2 [(0, .ref (g.1 54)), (1, .int x1)]) (hst : Wst D vwCl (WS g) A s σ H locs) (h : wb_Md_read_0 F post x1 σ) : W p l e { frames := 5, cells := 0, slots := 0, locals := 118 } s m args below meth c H locs 0 0 (MQ below (QvW D vwCl (WS g) post A) args s 0 0 A) (F0 m 0 ls []) := by
  obtain ⟨hx, hb, hr, hml, hown, hts, hlocks, hK, hZ, hA⟩ := C
  unfold wb_Md_read_0 at h
  refine lv_aload_n hx hb d_Md_read_0 rfl (lv_at hl 0 rfl) ?_
  refine lv_iload_n hx hb d_Md_read_1 rfl (lv_at hl 1 rfl) ?_
  refine kw_put (D := D) (ci := 10) (ty := .int) (C := R_Md) (T := T_Md) (N := 46) hx hb hts in_Md ty_Md ty_Md_ok nm_Md hown hK hst 54 (WS_o54 g σ) rfl 18 (by decide) (hts _ gw1082) (fun _ h9 => h9) rfl (by decide +kernel) rfl rfl (Nat.le_of_ble_eq_true rfl) (WS_p54_18 g σ _) d_Md_read_2 (fun σ1 H locs e1 hst => ?_)
  replace h := h σ1 e1
  refine lv_aload_n hx hb d_Md_read_5 rfl (lv_at hl 0 rfl) ?_
  refine lv_iconst (v := (0 : Int32)) hx hb d_Md_read_6 (by decide) ?_
  refine kw_put (D := D) (ci := 10) (ty := .int) (C := R_Md) (T := T_Md) (N := 46) hx hb hts in_Md ty_Md ty_Md_ok nm_Md hown hK hst 54 (WS_o54 g σ1) rfl 19 (by decide) (hts _ gw1083) (fun _ h9 => h9) rfl (by decide +kernel) rfl rfl (Nat.le_of_ble_eq_true rfl) (WS_p54_19 g σ1 _) d_Md_read_7 (fun σ2 H locs e2 hst => ?_)
  replace h := h σ2 e2
  refine lv_aload_n hx hb d_Md_read_10 rfl (lv_at hl 0 rfl) ?_
  refine lv_iconst (v := (0 : Int32)) hx hb d_Md_read_11 (by decide) ?_
  refine kw_put (D := D) (ci := 10) (ty := .int) (C := R_Md) (T := T_Md) (N := 46) hx hb hts in_Md ty_Md ty_Md_ok nm_Md hown hK hst 54 (WS_o54 g σ2) rfl 20 (by decide) (hts _ gw1084) (fun _ h9 => h9) rfl (by decide +kernel) rfl rfl (Nat.le_of_ble_eq_true rfl) (WS_p54_20 g σ2 _) d_Md_read_12 (fun σ3 H locs e3 hst => ?_)
  replace h := h σ3 e3
  refine lv_aload_n hx hb d_Md_read_15 rfl (lv_at hl 0 rfl) ?_
  refine va_get (D := D) (ci := 10) (C := R_Md) (T := T_Md) (N := 46) hx hb hts in_Md hown hK hst.1 54 (WS_o54 g σ3) rfl 4 (by decide) (hts _ gw1068) (fun _ h9 => h9) rfl d_Md_read_16 ?_
  refine lv_aload_n hx hb d_Md_read_19 rfl (lv_at hl 0 rfl) ?_
  refine va_get (D := D) (ci := 10) (C := R_Md) (T := T_Md) (N := 46) hx hb hts in_Md hown hK hst.1 54 (WS_o54 g σ3) rfl 18 (by decide) (hts _ gw1082) (fun _ h9 => h9) rfl d_Md_read_20 ?_
  refine lv_iconst (v := (0 : Int32)) hx hb d_Md_read_23 (by decide) ?_
  obtain ⟨hi, h⟩ := h
  refine kw_iast hx hb hK hst 58 (WS_a58 g σ3) hi (WS_s58 g σ3 _ _) d_Md_read_24 (fun σ4 H locs e4 hst => ?_)
  replace h := h σ4 e4
  refine lv_aload_n hx hb d_Md_read_25 rfl (lv_at hl 0 rfl) ?_
  refine va_get (D := D) (ci := 10) (C := R_Md) (T := T_Md) (N := 46) hx hb hts in_Md hown hK hst.1 54 (WS_o54 g σ4) rfl 17 (by decide) (hts _ gw1081) (fun _ h9 => h9) rfl d_Md_read_26 ?_
  refine lv_aload_n hx hb d_Md_read_29 rfl (lv_at hl 0 rfl) ?_
  refine va_get (D := D) (ci := 10) (C := R_Md) (T := T_Md) (N := 46) hx hb hts in_Md hown hK hst.1 54 (WS_o54 g σ4) rfl 18 (by decide) (hts _ gw1082) (fun _ h9 => h9) rfl d_Md_read_30 ?_
  refine lv_iconst (v := (0 : Int32)) hx hb d_Md_read_33 (by decide) ?_
  obtain ⟨hi, h⟩ := h
  refine kw_iast hx hb hK hst 71 (WS_a71 g σ4) hi (WS_s71 g σ4 _ _) d_Md_read_34 (fun σ5 H locs e5 hst => ?_)
  replace h := h σ5 e5
  refine lv_aload_n hx hb d_Md_read_35 rfl (lv_at hl 0 rfl) ?_
  refine kw_callv (va_runV (As := []) (rest := []) (b := g.1 54) ⟨hx, hb, hml, hown, hts⟩ (c_Md_blanks l h) (cwV 0 hts (gd_v gw1256 gw1258 gs48 gw15 gw1259) rfl rfl rfl (by decide +kernel) ⟨Nat.le_of_ble_eq_true rfl, Nat.le_of_ble_eq_true rfl⟩) ⟨kw_blind (Zk_ok g), va_recv hK hst.1 rfl (WS_o54 g σ5), kw_pre (Zk_ok g) hK hZ hA hst⟩ rfl rfl hl.1 rfl (lv_room (Nat.le_of_ble_eq_true rfl)) d_Md_read_36 ⟨Nat.le_of_ble_eq_true rfl, Nat.le_of_ble_eq_true rfl⟩) hst hA (fun σ6 H locs h hst => ?_)
  exact j1 σ6 _ _ _ (lv_sub hl [0] rfl) hst h
set_option maxRecDepth 100000 in
set_option maxHeartbeats 4000000 in
theorem b_Md_read_1 {p : Program} {l : Launch} {e : Env} {s : State} {m : MethodId} {args : Array Value} {below : List Frame} {meth : Method} {c : Code} {D : va_G} {g : Gm} {A : Nat → Prop} {post : Sg → Prop} {F : Nat → Int32 → Sg → Prop} (C : kC p s m args meth c k_Md_read 2 (none) GW R_Md D vwCl g (Zk g) A) (j1 : J_Md_read_1 p l e s m args below meth c D g A post F) (j2 : J_Md_read_2 p l e s m args below meth c D g A post F) (σ : Sg) (H : Heap) (locs : List Loc) (ls : Array Slot) (hl : lv_has ls 2 [(0, .ref (g.1 54))]) (hst : Wst D vwCl (WS g) A s σ H locs) (h : wb_Md_read_1 F post σ) : W p l e { frames := 5, cells := 0, slots := 0, locals := 118 } s m args below meth c H locs 0 0 (MQ below (QvW D vwCl (WS g) post A) args s 0 0 A) (F0 m 39 ls []) := by
  obtain ⟨hx, hb, hr, hml, hown, hts, hlocks, hK, hZ, hA⟩ := C
  unfold wb_Md_read_1 at h
  refine lv_aload_n hx hb d_Md_read_39 rfl (lv_at hl 0 rfl) ?_
  refine kw_calli (va_runV (As := []) (rest := []) (b := g.1 54) ⟨hx, hb, hml, hown, hts⟩ (c_Md_here l h) (cwV 0 hts (gd_v gw1260 gw1262 gs49 gw15 gw1263) rfl rfl rfl (by decide +kernel) ⟨Nat.le_of_ble_eq_true rfl, Nat.le_of_ble_eq_true rfl⟩) ⟨kw_blind (Zk_ok g), va_recv hK hst.1 rfl (WS_o54 g σ), kw_pre (Zk_ok g) hK hZ hA hst⟩ rfl rfl hl.1 rfl (lv_room (Nat.le_of_ble_eq_true rfl)) d_Md_read_40 ⟨Nat.le_of_ble_eq_true rfl, Nat.le_of_ble_eq_true rfl⟩) hst hA (fun r1 σ1 H locs h hst => ?_)
  refine lv_if_lt (tgt := 64) hx hb d_Md_read_43 (by decide) (fun hc => ?_) (fun hc => ?_)
  · replace h := h.1 hc
    exact j2 σ1 _ _ _ (lv_sub hl [0] rfl) hst h
  · replace h := h.2 hc
    refine lv_aload_n hx hb d_Md_read_46 rfl (lv_at hl 0 rfl) ?_
    refine kw_calli (va_runV (As := []) (rest := []) (b := g.1 54) ⟨hx, hb, hml, hown, hts⟩ (c_Md_starts l h) (cwV 0 hts (gd_v gw1264 gw1266 gs50 gw15 gw1267) rfl rfl rfl (by decide +kernel) ⟨Nat.le_of_ble_eq_true rfl, Nat.le_of_ble_eq_true rfl⟩) ⟨kw_blind (Zk_ok g), va_recv hK hst.1 rfl (WS_o54 g σ1), kw_pre (Zk_ok g) hK hZ hA hst⟩ rfl rfl hl.1 rfl (lv_room (Nat.le_of_ble_eq_true rfl)) d_Md_read_47 ⟨Nat.le_of_ble_eq_true rfl, Nat.le_of_ble_eq_true rfl⟩) hst hA (fun r2 σ2 H locs h hst => ?_)
    refine lv_if_ne (tgt := 64) hx hb d_Md_read_50 (by decide) (fun hc => ?_) (fun hc => ?_)
    · replace h := h.1 hc
      exact j2 σ2 _ _ _ (lv_sub hl [0] rfl) hst h
    · replace h := h.2 hc
      refine lv_aload_n hx hb d_Md_read_53 rfl (lv_at hl 0 rfl) ?_
      refine kw_callv (va_runV (As := []) (rest := []) (b := g.1 54) ⟨hx, hb, hml, hown, hts⟩ (c_Md_stray l h) (cwV 0 hts (gd_v gw1274 gw1276 gs51 gw15 gw1277) rfl rfl rfl (by decide +kernel) ⟨Nat.le_of_ble_eq_true rfl, Nat.le_of_ble_eq_true rfl⟩) ⟨kw_blind (Zk_ok g), va_recv hK hst.1 rfl (WS_o54 g σ2), kw_pre (Zk_ok g) hK hZ hA hst⟩ rfl rfl hl.1 rfl (lv_room (Nat.le_of_ble_eq_true rfl)) d_Md_read_54 ⟨Nat.le_of_ble_eq_true rfl, Nat.le_of_ble_eq_true rfl⟩) hst hA (fun σ3 H locs h hst => ?_)
      refine lv_aload_n hx hb d_Md_read_57 rfl (lv_at hl 0 rfl) ?_
      refine kw_callv (va_runV (As := []) (rest := []) (b := g.1 54) ⟨hx, hb, hml, hown, hts⟩ (c_Md_blanks l h) (cwV 0 hts (gd_v gw1256 gw1258 gs48 gw15 gw1259) rfl rfl rfl (by decide +kernel) ⟨Nat.le_of_ble_eq_true rfl, Nat.le_of_ble_eq_true rfl⟩) ⟨kw_blind (Zk_ok g), va_recv hK hst.1 rfl (WS_o54 g σ3), kw_pre (Zk_ok g) hK hZ hA hst⟩ rfl rfl hl.1 rfl (lv_room (Nat.le_of_ble_eq_true rfl)) d_Md_read_58 ⟨Nat.le_of_ble_eq_true rfl, Nat.le_of_ble_eq_true rfl⟩) hst hA (fun σ4 H locs h hst => ?_)
      refine lv_goto (tgt := 39) hx hb d_Md_read_61 (by decide) ?_
      exact j1 σ4 _ _ _ (lv_sub hl [0] rfl) hst h
set_option maxRecDepth 100000 in
set_option maxHeartbeats 4000000 in
theorem b_Md_read_2 {p : Program} {l : Launch} {e : Env} {s : State} {m : MethodId} {args : Array Value} {below : List Frame} {meth : Method} {c : Code} {D : va_G} {g : Gm} {A : Nat → Prop} {post : Sg → Prop} {F : Nat → Int32 → Sg → Prop} (C : kC p s m args meth c k_Md_read 2 (none) GW R_Md D vwCl g (Zk g) A) (j3 : J_Md_read_3 p l e s m args below meth c D g A post F) (σ : Sg) (H : Heap) (locs : List Loc) (ls : Array Slot) (hl : lv_has ls 2 [(0, .ref (g.1 54))]) (hst : Wst D vwCl (WS g) A s σ H locs) (h : wb_Md_read_2 F post σ) : W p l e { frames := 5, cells := 0, slots := 0, locals := 118 } s m args below meth c H locs 0 0 (MQ below (QvW D vwCl (WS g) post A) args s 0 0 A) (F0 m 64 ls []) := by
  obtain ⟨hx, hb, hr, hml, hown, hts, hlocks, hK, hZ, hA⟩ := C
  unfold wb_Md_read_2 at h
  refine lv_aload_n hx hb d_Md_read_64 rfl (lv_at hl 0 rfl) ?_
  refine kw_calli (va_runV (As := []) (rest := []) (b := g.1 54) ⟨hx, hb, hml, hown, hts⟩ (c_Md_here l h) (cwV 0 hts (gd_v gw1260 gw1262 gs49 gw15 gw1263) rfl rfl rfl (by decide +kernel) ⟨Nat.le_of_ble_eq_true rfl, Nat.le_of_ble_eq_true rfl⟩) ⟨kw_blind (Zk_ok g), va_recv hK hst.1 rfl (WS_o54 g σ), kw_pre (Zk_ok g) hK hZ hA hst⟩ rfl rfl hl.1 rfl (lv_room (Nat.le_of_ble_eq_true rfl)) d_Md_read_65 ⟨Nat.le_of_ble_eq_true rfl, Nat.le_of_ble_eq_true rfl⟩) hst hA (fun r1 σ1 H locs h hst => ?_)
  refine lv_if_ge (tgt := 81) hx hb d_Md_read_68 (by decide) (fun hc => ?_) (fun hc => ?_)
  · replace h := h.1 hc
    refine lv_aload_n hx hb d_Md_read_81 rfl (lv_at hl 0 rfl) ?_
    refine lv_iconst (v := (-1 : Int32)) hx hb d_Md_read_82 (by decide) ?_
    refine lv_iconst (v := (-1 : Int32)) hx hb d_Md_read_83 (by decide) ?_
    refine kw_callv (va_runV (As := [.int (-1 : Int32), .int (-1 : Int32)]) (rest := []) (b := g.1 54) ⟨hx, hb, hml, hown, hts⟩ (c_Md_value l (-1 : Int32) (-1 : Int32) h) (cwV 2 hts (gd_v gw1282 gw1284 gs53 gw15 gw1285) rfl rfl rfl (by decide +kernel) ⟨Nat.le_of_ble_eq_true rfl, Nat.le_of_ble_eq_true rfl⟩) ⟨kw_blind (Zk_ok g), va_recv hK hst.1 rfl (WS_o54 g σ1), kw_pre (Zk_ok g) hK hZ hA hst⟩ rfl rfl hl.1 rfl (lv_room (Nat.le_of_ble_eq_true rfl)) d_Md_read_84 ⟨Nat.le_of_ble_eq_true rfl, Nat.le_of_ble_eq_true rfl⟩) hst hA (fun σ2 H locs h hst => ?_)
    exact j3 σ2 _ _ _ (lv_sub hl [0] rfl) hst h
  · replace h := h.2 hc
    refine lv_aload_n hx hb d_Md_read_71 rfl (lv_at hl 0 rfl) ?_
    refine lv_iconst (v := (1 : Int32)) hx hb d_Md_read_72 (by decide) ?_
    refine lv_aload_n hx hb d_Md_read_73 rfl (lv_at hl 0 rfl) ?_
    refine va_get (D := D) (ci := 10) (C := R_Md) (T := T_Md) (N := 46) hx hb hts in_Md hown hK hst.1 54 (WS_o54 g σ1) rfl 19 (by decide) (hts _ gw1083) (fun _ h9 => h9) rfl d_Md_read_74 ?_
    refine kw_callv (va_runV (As := [.int (1 : Int32), .int (σ1.1 54 19)]) (rest := []) (b := g.1 54) ⟨hx, hb, hml, hown, hts⟩ (c_Md_note l (1 : Int32) (σ1.1 54 19) h) (cwV 2 hts (gd_v gw1278 gw1280 gs52 gw15 gw1281) rfl rfl rfl (by decide +kernel) ⟨Nat.le_of_ble_eq_true rfl, Nat.le_of_ble_eq_true rfl⟩) ⟨kw_blind (Zk_ok g), va_recv hK hst.1 rfl (WS_o54 g σ1), kw_pre (Zk_ok g) hK hZ hA hst⟩ rfl rfl hl.1 rfl (lv_room (Nat.le_of_ble_eq_true rfl)) d_Md_read_77 ⟨Nat.le_of_ble_eq_true rfl, Nat.le_of_ble_eq_true rfl⟩) hst hA (fun σ2 H locs h hst => ?_)
    exact kw_vret hx hb hr hlocks hst h d_Md_read_80
set_option maxRecDepth 100000 in
set_option maxHeartbeats 4000000 in
theorem b_Md_read_3 {p : Program} {l : Launch} {e : Env} {s : State} {m : MethodId} {args : Array Value} {below : List Frame} {meth : Method} {c : Code} {D : va_G} {g : Gm} {A : Nat → Prop} {post : Sg → Prop} {F : Nat → Int32 → Sg → Prop} (C : kC p s m args meth c k_Md_read 2 (none) GW R_Md D vwCl g (Zk g) A) (j3 : J_Md_read_3 p l e s m args below meth c D g A post F) (σ : Sg) (H : Heap) (locs : List Loc) (ls : Array Slot) (hl : lv_has ls 2 [(0, .ref (g.1 54))]) (hst : Wst D vwCl (WS g) A s σ H locs) (h : wb_Md_read_3 F post σ) : W p l e { frames := 5, cells := 0, slots := 0, locals := 118 } s m args below meth c H locs 0 0 (MQ below (QvW D vwCl (WS g) post A) args s 0 0 A) (F0 m 87 ls []) := by
  obtain ⟨hx, hb, hr, hml, hown, hts, hlocks, hK, hZ, hA⟩ := C
  unfold wb_Md_read_3 at h
  refine lv_aload_n hx hb d_Md_read_87 rfl (lv_at hl 0 rfl) ?_
  refine va_get (D := D) (ci := 10) (C := R_Md) (T := T_Md) (N := 46) hx hb hts in_Md hown hK hst.1 54 (WS_o54 g σ) rfl 20 (by decide) (hts _ gw1084) (fun _ h9 => h9) rfl d_Md_read_88 ?_
  refine lv_if_le (tgt := 101) hx hb d_Md_read_91 (by decide) (fun hc => ?_) (fun hc => ?_)
  · replace h := h.1 hc
    refine lv_aload_n hx hb d_Md_read_101 rfl (lv_at hl 0 rfl) ?_
    refine kw_callv (va_runV (As := []) (rest := []) (b := g.1 54) ⟨hx, hb, hml, hown, hts⟩ (c_Md_blanks l h) (cwV 0 hts (gd_v gw1256 gw1258 gs48 gw15 gw1259) rfl rfl rfl (by decide +kernel) ⟨Nat.le_of_ble_eq_true rfl, Nat.le_of_ble_eq_true rfl⟩) ⟨kw_blind (Zk_ok g), va_recv hK hst.1 rfl (WS_o54 g σ), kw_pre (Zk_ok g) hK hZ hA hst⟩ rfl rfl hl.1 rfl (lv_room (Nat.le_of_ble_eq_true rfl)) d_Md_read_102 ⟨Nat.le_of_ble_eq_true rfl, Nat.le_of_ble_eq_true rfl⟩) hst hA (fun σ1 H locs h hst => ?_)
    refine lv_aload_n hx hb d_Md_read_105 rfl (lv_at hl 0 rfl) ?_
    refine kw_calli (va_runV (As := []) (rest := []) (b := g.1 54) ⟨hx, hb, hml, hown, hts⟩ (c_Md_here l h) (cwV 0 hts (gd_v gw1260 gw1262 gs49 gw15 gw1263) rfl rfl rfl (by decide +kernel) ⟨Nat.le_of_ble_eq_true rfl, Nat.le_of_ble_eq_true rfl⟩) ⟨kw_blind (Zk_ok g), va_recv hK hst.1 rfl (WS_o54 g σ1), kw_pre (Zk_ok g) hK hZ hA hst⟩ rfl rfl hl.1 rfl (lv_room (Nat.le_of_ble_eq_true rfl)) d_Md_read_106 ⟨Nat.le_of_ble_eq_true rfl, Nat.le_of_ble_eq_true rfl⟩) hst hA (fun r2 σ2 H locs h hst => ?_)
    refine lv_if_lt (tgt := 121) hx hb d_Md_read_109 (by decide) (fun hc => ?_) (fun hc => ?_)
    · replace h := h.1 hc
      exact kw_vret hx hb hr hlocks hst h d_Md_read_121
    · replace h := h.2 hc
      refine lv_aload_n hx hb d_Md_read_112 rfl (lv_at hl 0 rfl) ?_
      refine lv_iconst (v := (2 : Int32)) hx hb d_Md_read_113 (by decide) ?_
      refine lv_aload_n hx hb d_Md_read_114 rfl (lv_at hl 0 rfl) ?_
      refine va_get (D := D) (ci := 10) (C := R_Md) (T := T_Md) (N := 46) hx hb hts in_Md hown hK hst.1 54 (WS_o54 g σ2) rfl 19 (by decide) (hts _ gw1083) (fun _ h9 => h9) rfl d_Md_read_115 ?_
      refine kw_callv (va_runV (As := [.int (2 : Int32), .int (σ2.1 54 19)]) (rest := []) (b := g.1 54) ⟨hx, hb, hml, hown, hts⟩ (c_Md_note l (2 : Int32) (σ2.1 54 19) h) (cwV 2 hts (gd_v gw1278 gw1280 gs52 gw15 gw1281) rfl rfl rfl (by decide +kernel) ⟨Nat.le_of_ble_eq_true rfl, Nat.le_of_ble_eq_true rfl⟩) ⟨kw_blind (Zk_ok g), va_recv hK hst.1 rfl (WS_o54 g σ2), kw_pre (Zk_ok g) hK hZ hA hst⟩ rfl rfl hl.1 rfl (lv_room (Nat.le_of_ble_eq_true rfl)) d_Md_read_118 ⟨Nat.le_of_ble_eq_true rfl, Nat.le_of_ble_eq_true rfl⟩) hst hA (fun σ3 H locs h hst => ?_)
      exact kw_vret hx hb hr hlocks hst h d_Md_read_121
  · replace h := h.2 hc
    refine lv_aload_n hx hb d_Md_read_94 rfl (lv_at hl 0 rfl) ?_
    refine kw_callv (va_runV (As := []) (rest := []) (b := g.1 54) ⟨hx, hb, hml, hown, hts⟩ (c_Md_goOn l h) (cwV 0 hts (gd_v gw1305 gw1307 gs58 gw15 gw1308) rfl rfl rfl (by decide +kernel) ⟨Nat.le_of_ble_eq_true rfl, Nat.le_of_ble_eq_true rfl⟩) ⟨kw_blind (Zk_ok g), va_recv hK hst.1 rfl (WS_o54 g σ), kw_pre (Zk_ok g) hK hZ hA hst⟩ rfl rfl hl.1 rfl (lv_room (Nat.le_of_ble_eq_true rfl)) d_Md_read_95 ⟨Nat.le_of_ble_eq_true rfl, Nat.le_of_ble_eq_true rfl⟩) hst hA (fun σ1 H locs h hst => ?_)
    refine lv_goto (tgt := 87) hx hb d_Md_read_98 (by decide) ?_
    exact j3 σ1 _ _ _ (lv_sub hl [0] rfl) hst h
set_option maxRecDepth 100000 in
set_option maxHeartbeats 4000000 in
theorem a_Md_read {p : Program} {l : Launch} {e : Env} {s : State} {m : MethodId} {args : Array Value} {below : List Frame} {meth : Method} {c : Code} {D : va_G} {g : Gm} {A : Nat → Prop} {post : Sg → Prop} (C : kC p s m args meth c k_Md_read 2 (none) GW R_Md D vwCl g (Zk g) A) : ∀ n : Nat, J_Md_read_1 p l e s m args below meth c D g A post (wp_Md_read post n) ∧ J_Md_read_2 p l e s m args below meth c D g A post (wp_Md_read post n) ∧ J_Md_read_3 p l e s m args below meth c D g A post (wp_Md_read post n) := by
  intro n
  induction n with
  | zero => exact ⟨fun _ _ _ _ _ _ h => h.elim, fun _ _ _ _ _ _ h => h.elim, fun _ _ _ _ _ _ h => h.elim⟩
  | succ n ih => exact ⟨fun σ H locs ls hl hst h => b_Md_read_1 (F := wp_Md_read post n) C (ih.1) (ih.2.1) σ H locs ls hl hst h, fun σ H locs ls hl hst h => b_Md_read_2 (F := wp_Md_read post n) C (ih.2.2) σ H locs ls hl hst h, fun σ H locs ls hl hst h => b_Md_read_3 (F := wp_Md_read post n) C (ih.2.2) σ H locs ls hl hst h⟩
set_option maxRecDepth 100000 in
set_option maxHeartbeats 4000000 in
theorem c_Md_read (l : Launch) {D : va_G} {g : Gm} {sz : Nat} (x1 : Int32) {σ : Sg} {post : Sg → Prop} (h : wq_Md_read x1 σ post) : Met l y_Md_read (.code y_Md_read k_Md_read 2 (none) :: GW) { frames := 5, cells := 0, slots := 0, locals := 118 } (PcW D vwCl (WS g) g (Zk g) σ sz [.ref (g.1 54), .int x1]) (QvW D vwCl (WS g) post (va_A (WS g σ) sz)) 0 0 (va_A (WS g σ) sz) := by
  refine kw_entry (own := R_Md) (by decide) rfl rfl (Nat.le_of_ble_eq_true rfl) ?_
  intro p e s m below meth c ls hsz C hin hl hst
  obtain ⟨n, h⟩ := h
  cases n with
  | zero => exact h.elim
  | succ n =>
    have ih := a_Md_read (l := l) (e := e) (below := below) (post := post) C n
    exact b_Md_read_0 (F := wp_Md_read post n) C (ih.1) x1 σ _ _ ls hl hst h
/-! SchemaDeskModel.nodes (I)I -/
abbrev k_Md_nodes : ByteArray := prog_12_method_32_code
abbrev y_Md_nodes : MethodName := ⟨"SchemaDeskModel", "nodes", "(I)I"⟩
theorem d_Md_nodes_0 : decode k_Md_nodes 0 = .ok (.aload_n 0, 1) := by decide +kernel
theorem d_Md_nodes_1 : decode k_Md_nodes 1 = .ok (.iload_n 1, 1) := by decide +kernel
theorem d_Md_nodes_2 : decode k_Md_nodes 2 = .ok (.invokestatic 181, 3) := by decide +kernel
theorem d_Md_nodes_5 : decode k_Md_nodes 5 = .ok (.ifCond .eq 7, 3) := by decide +kernel
theorem d_Md_nodes_8 : decode k_Md_nodes 8 = .ok (.iconst 0, 1) := by decide +kernel
theorem d_Md_nodes_9 : decode k_Md_nodes 9 = .ok (.goto 4, 3) := by decide +kernel
theorem d_Md_nodes_12 : decode k_Md_nodes 12 = .ok (.iconst 1, 1) := by decide +kernel
theorem d_Md_nodes_13 : decode k_Md_nodes 13 = .ok (.putfield 177, 3) := by decide +kernel
theorem d_Md_nodes_16 : decode k_Md_nodes 16 = .ok (.aload_n 0, 1) := by decide +kernel
theorem d_Md_nodes_17 : decode k_Md_nodes 17 = .ok (.getfield 177, 3) := by decide +kernel
theorem d_Md_nodes_20 : decode k_Md_nodes 20 = .ok (.ifCond .eq 5, 3) := by decide +kernel
theorem d_Md_nodes_23 : decode k_Md_nodes 23 = .ok (.iconst 0, 1) := by decide +kernel
theorem d_Md_nodes_24 : decode k_Md_nodes 24 = .ok (.ireturn, 1) := by decide +kernel
theorem d_Md_nodes_25 : decode k_Md_nodes 25 = .ok (.aload_n 0, 1) := by decide +kernel
theorem d_Md_nodes_26 : decode k_Md_nodes 26 = .ok (.iload_n 1, 1) := by decide +kernel
theorem d_Md_nodes_27 : decode k_Md_nodes 27 = .ok (.invokevirtual 271, 3) := by decide +kernel
theorem d_Md_nodes_30 : decode k_Md_nodes 30 = .ok (.aload_n 0, 1) := by decide +kernel
theorem d_Md_nodes_31 : decode k_Md_nodes 31 = .ok (.getfield 74, 3) := by decide +kernel
theorem d_Md_nodes_34 : decode k_Md_nodes 34 = .ok (.iload_n 1, 1) := by decide +kernel
theorem d_Md_nodes_35 : decode k_Md_nodes 35 = .ok (.iaload, 1) := by decide +kernel
theorem d_Md_nodes_36 : decode k_Md_nodes 36 = .ok (.ireturn, 1) := by decide +kernel
theorem gw1252 : (Jvm.Cond.methodLink "SchemaDeskModel" (271 : Nat) ({ cls := "SchemaDeskModel", name := "read", desc := "(I)V" } : Jvm.MethodName)) ∈ GW := gw_t6 (List.mem_of_getElem? (i := 52) rfl) rfl
theorem gw1254 : (Jvm.Cond.instanceMethod ({ cls := "SchemaDeskModel", name := "read", desc := "(I)V" } : Jvm.MethodName)) ∈ GW := gw_t6 (List.mem_of_getElem? (i := 54) rfl) rfl
theorem gs47 : Cond.selects "SchemaDeskModel" ⟨"SchemaDeskModel", "read", "(I)V"⟩ ⟨"SchemaDeskModel", "read", "(I)V"⟩ ∈ GW := gw_p3 (q := (⟨"SchemaDeskModel", "read", "(I)V"⟩, 46)) (List.mem_of_getElem? (i := 15) rfl)
theorem gw1255 : (Jvm.Cond.code ({ cls := "SchemaDeskModel", name := "read", desc := "(I)V" } : Jvm.MethodName) prog_12_method_31_code (2 : Nat) (Option.none : Option Jvm.ClassFile.FieldType)) ∈ GW := gw_t6 (List.mem_of_getElem? (i := 55) rfl) rfl
def wb_Md_nodes_0 (F : Nat → Int32 → Sg → Prop) (post : Int32 → Sg → Prop) (x1 : Int32) (σ : Sg) : Prop := (wq_Md_isText x1 σ (fun r1 σ1 => ((r1 = 0 → (∀ σ2, σ2 = si σ1 54 1 (1 : Int32) → F 1 x1 σ2)) ∧ (¬ r1 = 0 → (∀ σ2, σ2 = si σ1 54 1 (0 : Int32) → F 1 x1 σ2)))))
def wb_Md_nodes_1 (F : Nat → Int32 → Sg → Prop) (post : Int32 → Sg → Prop) (x1 : Int32) (σ : Sg) : Prop := (((σ.1 54 1) = 0 → (wq_Md_read x1 σ (fun σ1 => (vp_in x1 2 ∧ post (σ1.1 58 x1.toNatClampNeg) σ1)))) ∧ (¬ (σ.1 54 1) = 0 → post (0 : Int32) σ))
def wp_Md_nodes (post : Int32 → Sg → Prop) : Nat → Nat → Int32 → Sg → Prop
  | 0, _, _, _ => False
  | n + 1, k, x1, σ => match k with
    | 0 => wb_Md_nodes_0 (wp_Md_nodes post n) post x1 σ
    | 1 => wb_Md_nodes_1 (wp_Md_nodes post n) post x1 σ
    | _ => False
def wq_Md_nodes (x1 : Int32) (σ : Sg) (post : Int32 → Sg → Prop) : Prop := ∃ n, wp_Md_nodes post n 0 x1 σ
def J_Md_nodes_1 (p : Program) (l : Launch) (e : Env) (s : State) (m : MethodId) (args : Array Value) (below : List Frame) (meth : Method) (c : Code) (D : va_G) (g : Gm) (A : Nat → Prop) (post : Int32 → Sg → Prop) (F : Nat → Int32 → Sg → Prop) : Prop := ∀ (x1 : Int32) (σ : Sg) (H : Heap) (locs : List Loc) (ls : Array Slot), lv_has ls 2 [(0, .ref (g.1 54)), (1, .int x1)] → Wst D vwCl (WS g) A s σ H locs → F 1 x1 σ → W p l e { frames := 6, cells := 0, slots := 0, locals := 139 } s m args below meth c H locs 0 0 (MQ below (QiW D vwCl (WS g) post A) args s 0 0 A) (F0 m 16 ls [])
set_option maxRecDepth 100000 in
set_option maxHeartbeats 4000000 in
theorem b_Md_nodes_0 {p : Program} {l : Launch} {e : Env} {s : State} {m : MethodId} {args : Array Value} {below : List Frame} {meth : Method} {c : Code} {D : va_G} {g : Gm} {A : Nat → Prop} {post : Int32 → Sg → Prop} {F : Nat → Int32 → Sg → Prop} (C : kC p s m args meth c k_Md_nodes 2 (some .int) GW R_Md D vwCl g (Zk g) A) (j1 : J_Md_nodes_1 p l e s m args below meth c D g A post F) (x1 : Int32) (σ : Sg) (H : Heap) (locs : List Loc) (ls : Array Slot) (hl : lv_has ls 2 [(0, .ref (g.1 54)), (1, .int x1)]) (hst : Wst D vwCl (WS g) A s σ H locs) (h : wb_Md_nodes_0 F post x1 σ) : W p l e { frames := 6, cells := 0, slots := 0, locals := 139 } s m args below meth c H locs 0 0 (MQ below (QiW D vwCl (WS g) post A) args s 0 0 A) (F0 m 0 ls []) := by
  obtain ⟨hx, hb, hr, hml, hown, hts, hlocks, hK, hZ, hA⟩ := C
  unfold wb_Md_nodes_0 at h
  refine lv_aload_n hx hb d_Md_nodes_0 rfl (lv_at hl 0 rfl) ?_
  refine lv_iload_n hx hb d_Md_nodes_1 rfl (lv_at hl 1 rfl) ?_
  refine kw_calli (va_runS (As := [.int x1]) (rest := [.ref (g.1 54)]) ⟨hx, hb, hml, hown, hts⟩ (c_Md_isText l x1 h) (cwS 1 hts (gd_s gw1211 gw1212 gw15 gw1213) rfl rfl rfl (by decide +kernel) ⟨Nat.le_of_ble_eq_true rfl, Nat.le_of_ble_eq_true rfl⟩) ⟨kw_blind (Zk_ok g), kw_pre (Zk_ok g) hK hZ hA hst⟩ rfl rfl hl.1 rfl (lv_room (Nat.le_of_ble_eq_true rfl)) d_Md_nodes_2 ⟨Nat.le_of_ble_eq_true rfl, Nat.le_of_ble_eq_true rfl⟩) hst hA (fun r1 σ1 H locs h hst => ?_)
  refine lv_if_eq (tgt := 12) hx hb d_Md_nodes_5 (by decide) (fun hc => ?_) (fun hc => ?_)
  · replace h := h.1 hc
    refine lv_iconst (v := (1 : Int32)) hx hb d_Md_nodes_12 (by decide) ?_
    refine kw_put (D := D) (ci := 10) (ty := .int) (C := R_Md) (T := T_Md) (N := 46) hx hb hts in_Md ty_Md ty_Md_ok nm_Md hown hK hst 54 (WS_o54 g σ1) rfl 1 (by decide) (hts _ gw1065) (fun _ h9 => h9) rfl (by decide +kernel) rfl rfl (Nat.le_of_ble_eq_true rfl) (WS_p54_1 g σ1 _) d_Md_nodes_13 (fun σ2 H locs e2 hst => ?_)
    replace h := h σ2 e2
    exact j1 x1 σ2 _ _ _ (lv_sub hl [0, 1] rfl) hst h
  · replace h := h.2 hc
    refine lv_iconst (v := (0 : Int32)) hx hb d_Md_nodes_8 (by decide) ?_
    refine lv_goto (tgt := 13) hx hb d_Md_nodes_9 (by decide) ?_
    refine kw_put (D := D) (ci := 10) (ty := .int) (C := R_Md) (T := T_Md) (N := 46) hx hb hts in_Md ty_Md ty_Md_ok nm_Md hown hK hst 54 (WS_o54 g σ1) rfl 1 (by decide) (hts _ gw1065) (fun _ h9 => h9) rfl (by decide +kernel) rfl rfl (Nat.le_of_ble_eq_true rfl) (WS_p54_1 g σ1 _) d_Md_nodes_13 (fun σ2 H locs e2 hst => ?_)
    replace h := h σ2 e2
    exact j1 x1 σ2 _ _ _ (lv_sub hl [0, 1] rfl) hst h
set_option maxRecDepth 100000 in
set_option maxHeartbeats 4000000 in
theorem b_Md_nodes_1 {p : Program} {l : Launch} {e : Env} {s : State} {m : MethodId} {args : Array Value} {below : List Frame} {meth : Method} {c : Code} {D : va_G} {g : Gm} {A : Nat → Prop} {post : Int32 → Sg → Prop} {F : Nat → Int32 → Sg → Prop} (C : kC p s m args meth c k_Md_nodes 2 (some .int) GW R_Md D vwCl g (Zk g) A) (x1 : Int32) (σ : Sg) (H : Heap) (locs : List Loc) (ls : Array Slot) (hl : lv_has ls 2 [(0, .ref (g.1 54)), (1, .int x1)]) (hst : Wst D vwCl (WS g) A s σ H locs) (h : wb_Md_nodes_1 F post x1 σ) : W p l e { frames := 6, cells := 0, slots := 0, locals := 139 } s m args below meth c H locs 0 0 (MQ below (QiW D vwCl (WS g) post A) args s 0 0 A) (F0 m 16 ls []) := by
  obtain ⟨hx, hb, hr, hml, hown, hts, hlocks, hK, hZ, hA⟩ := C
  unfold wb_Md_nodes_1 at h
  refine lv_aload_n hx hb d_Md_nodes_16 rfl (lv_at hl 0 rfl) ?_
  refine va_get (D := D) (ci := 10) (C := R_Md) (T := T_Md) (N := 46) hx hb hts in_Md hown hK hst.1 54 (WS_o54 g σ) rfl 1 (by decide) (hts _ gw1065) (fun _ h9 => h9) rfl d_Md_nodes_17 ?_
  refine lv_if_eq (tgt := 25) hx hb d_Md_nodes_20 (by decide) (fun hc => ?_) (fun hc => ?_)
  · replace h := h.1 hc
    refine lv_aload_n hx hb d_Md_nodes_25 rfl (lv_at hl 0 rfl) ?_
    refine lv_iload_n hx hb d_Md_nodes_26 rfl (lv_at hl 1 rfl) ?_
    refine kw_callv (va_runV (As := [.int x1]) (rest := []) (b := g.1 54) ⟨hx, hb, hml, hown, hts⟩ (c_Md_read l x1 h) (cwV 1 hts (gd_v gw1252 gw1254 gs47 gw15 gw1255) rfl rfl rfl (by decide +kernel) ⟨Nat.le_of_ble_eq_true rfl, Nat.le_of_ble_eq_true rfl⟩) ⟨kw_blind (Zk_ok g), va_recv hK hst.1 rfl (WS_o54 g σ), kw_pre (Zk_ok g) hK hZ hA hst⟩ rfl rfl hl.1 rfl (lv_room (Nat.le_of_ble_eq_true rfl)) d_Md_nodes_27 ⟨Nat.le_of_ble_eq_true rfl, Nat.le_of_ble_eq_true rfl⟩) hst hA (fun σ1 H locs h hst => ?_)
    refine lv_aload_n hx hb d_Md_nodes_30 rfl (lv_at hl 0 rfl) ?_
    refine va_get (D := D) (ci := 10) (C := R_Md) (T := T_Md) (N := 46) hx hb hts in_Md hown hK hst.1 54 (WS_o54 g σ1) rfl 4 (by decide) (hts _ gw1068) (fun _ h9 => h9) rfl d_Md_nodes_31 ?_
    refine lv_iload_n hx hb d_Md_nodes_34 rfl (lv_at hl 1 rfl) ?_
    obtain ⟨hi, h⟩ := h
    refine va_iald hx hb hK hst.1 58 0 (WS_a58 g σ1) rfl hi d_Md_nodes_35 ?_
    exact kw_iret hx hb hr hlocks hst h d_Md_nodes_36
  · replace h := h.2 hc
    refine lv_iconst (v := (0 : Int32)) hx hb d_Md_nodes_23 (by decide) ?_
    exact kw_iret hx hb hr hlocks hst h d_Md_nodes_24
set_option maxRecDepth 100000 in
set_option maxHeartbeats 4000000 in
theorem a_Md_nodes {p : Program} {l : Launch} {e : Env} {s : State} {m : MethodId} {args : Array Value} {below : List Frame} {meth : Method} {c : Code} {D : va_G} {g : Gm} {A : Nat → Prop} {post : Int32 → Sg → Prop} (C : kC p s m args meth c k_Md_nodes 2 (some .int) GW R_Md D vwCl g (Zk g) A) : ∀ n : Nat, J_Md_nodes_1 p l e s m args below meth c D g A post (wp_Md_nodes post n) := by
  intro n
  induction n with
  | zero => exact fun _ _ _ _ _ _ _ h => h.elim
  | succ n ih => exact fun x1 σ H locs ls hl hst h => b_Md_nodes_1 (F := wp_Md_nodes post n) C x1 σ H locs ls hl hst h
set_option maxRecDepth 100000 in
set_option maxHeartbeats 4000000 in
theorem c_Md_nodes (l : Launch) {D : va_G} {g : Gm} {sz : Nat} (x1 : Int32) {σ : Sg} {post : Int32 → Sg → Prop} (h : wq_Md_nodes x1 σ post) : Met l y_Md_nodes (.code y_Md_nodes k_Md_nodes 2 (some .int) :: GW) { frames := 6, cells := 0, slots := 0, locals := 139 } (PcW D vwCl (WS g) g (Zk g) σ sz [.ref (g.1 54), .int x1]) (QiW D vwCl (WS g) post (va_A (WS g σ) sz)) 0 0 (va_A (WS g σ) sz) := by
  refine kw_entry (own := R_Md) (by decide) rfl rfl (Nat.le_of_ble_eq_true rfl) ?_
  intro p e s m below meth c ls hsz C hin hl hst
  obtain ⟨n, h⟩ := h
  cases n with
  | zero => exact h.elim
  | succ n =>
    have ih := a_Md_nodes (l := l) (e := e) (below := below) (post := post) C n
    exact b_Md_nodes_0 (F := wp_Md_nodes post n) C (ih) x1 σ _ _ ls hl hst h
/-! SchemaDeskModel.node (III)I -/
abbrev k_Md_node : ByteArray := prog_12_method_33_code
abbrev y_Md_node : MethodName := ⟨"SchemaDeskModel", "node", "(III)I"⟩
theorem d_Md_node_0 : decode k_Md_node 0 = .ok (.aload_n 0, 1) := by decide +kernel
theorem d_Md_node_1 : decode k_Md_node 1 = .ok (.iconst 0, 1) := by decide +kernel
theorem d_Md_node_2 : decode k_Md_node 2 = .ok (.putfield 177, 3) := by decide +kernel
theorem d_Md_node_5 : decode k_Md_node 5 = .ok (.iload_n 1, 1) := by decide +kernel
theorem d_Md_node_6 : decode k_Md_node 6 = .ok (.invokestatic 181, 3) := by decide +kernel
theorem d_Md_node_9 : decode k_Md_node 9 = .ok (.ifCond .eq 13, 3) := by decide +kernel
theorem d_Md_node_12 : decode k_Md_node 12 = .ok (.iload_n 3, 1) := by decide +kernel
theorem d_Md_node_13 : decode k_Md_node 13 = .ok (.ifCond .lt 9, 3) := by decide +kernel
theorem d_Md_node_16 : decode k_Md_node 16 = .ok (.iload_n 3, 1) := by decide +kernel
theorem d_Md_node_17 : decode k_Md_node 17 = .ok (.bipush 6, 2) := by decide +kernel
theorem d_Md_node_19 : decode k_Md_node 19 = .ok (.if_icmp .le 9, 3) := by decide +kernel
theorem d_Md_node_22 : decode k_Md_node 22 = .ok (.aload_n 0, 1) := by decide +kernel
theorem d_Md_node_23 : decode k_Md_node 23 = .ok (.iconst 1, 1) := by decide +kernel
theorem d_Md_node_24 : decode k_Md_node 24 = .ok (.invokevirtual 274, 3) := by decide +kernel
theorem d_Md_node_27 : decode k_Md_node 27 = .ok (.ireturn, 1) := by decide +kernel
theorem d_Md_node_28 : decode k_Md_node 28 = .ok (.aload_n 0, 1) := by decide +kernel
theorem d_Md_node_29 : decode k_Md_node 29 = .ok (.iload_n 1, 1) := by decide +kernel
theorem d_Md_node_30 : decode k_Md_node 30 = .ok (.invokevirtual 271, 3) := by decide +kernel
theorem d_Md_node_33 : decode k_Md_node 33 = .ok (.iload_n 2, 1) := by decide +kernel
theorem d_Md_node_34 : decode k_Md_node 34 = .ok (.ifCond .lt 13, 3) := by decide +kernel
theorem d_Md_node_37 : decode k_Md_node 37 = .ok (.iload_n 2, 1) := by decide +kernel
theorem d_Md_node_38 : decode k_Md_node 38 = .ok (.aload_n 0, 1) := by decide +kernel
theorem d_Md_node_39 : decode k_Md_node 39 = .ok (.getfield 74, 3) := by decide +kernel
theorem d_Md_node_42 : decode k_Md_node 42 = .ok (.iload_n 1, 1) := by decide +kernel
theorem d_Md_node_43 : decode k_Md_node 43 = .ok (.iaload, 1) := by decide +kernel
theorem d_Md_node_44 : decode k_Md_node 44 = .ok (.if_icmp .lt 9, 3) := by decide +kernel
theorem d_Md_node_47 : decode k_Md_node 47 = .ok (.aload_n 0, 1) := by decide +kernel
theorem d_Md_node_48 : decode k_Md_node 48 = .ok (.iconst 2, 1) := by decide +kernel
theorem d_Md_node_49 : decode k_Md_node 49 = .ok (.invokevirtual 274, 3) := by decide +kernel
theorem d_Md_node_52 : decode k_Md_node 52 = .ok (.ireturn, 1) := by decide +kernel
theorem d_Md_node_53 : decode k_Md_node 53 = .ok (.sipush 160, 3) := by decide +kernel
theorem d_Md_node_56 : decode k_Md_node 56 = .ok (.iload_n 1, 1) := by decide +kernel
theorem d_Md_node_57 : decode k_Md_node 57 = .ok (.imul, 1) := by decide +kernel
theorem d_Md_node_58 : decode k_Md_node 58 = .ok (.iload_n 2, 1) := by decide +kernel
theorem d_Md_node_59 : decode k_Md_node 59 = .ok (.iadd, 1) := by decide +kernel
theorem d_Md_node_60 : decode k_Md_node 60 = .ok (.istore 4, 2) := by decide +kernel
theorem d_Md_node_62 : decode k_Md_node 62 = .ok (.iload_n 3, 1) := by decide +kernel
theorem d_Md_node_63 : decode k_Md_node 63 = .ok (.iconst 3, 1) := by decide +kernel
theorem d_Md_node_64 : decode k_Md_node 64 = .ok (.if_icmp .ge 40, 3) := by decide +kernel
theorem d_Md_node_67 : decode k_Md_node 67 = .ok (.iload_n 3, 1) := by decide +kernel
theorem d_Md_node_68 : decode k_Md_node 68 = .ok (.ifCond .ne 13, 3) := by decide +kernel
theorem d_Md_node_71 : decode k_Md_node 71 = .ok (.aload_n 0, 1) := by decide +kernel
theorem d_Md_node_72 : decode k_Md_node 72 = .ok (.getfield 77, 3) := by decide +kernel
theorem d_Md_node_75 : decode k_Md_node 75 = .ok (.iload 4, 2) := by decide +kernel
theorem d_Md_node_77 : decode k_Md_node 77 = .ok (.iaload, 1) := by decide +kernel
theorem d_Md_node_78 : decode k_Md_node 78 = .ok (.goto 25, 3) := by decide +kernel
theorem d_Md_node_81 : decode k_Md_node 81 = .ok (.iload_n 3, 1) := by decide +kernel
theorem d_Md_node_82 : decode k_Md_node 82 = .ok (.iconst 1, 1) := by decide +kernel
theorem d_Md_node_83 : decode k_Md_node 83 = .ok (.if_icmp .ne 13, 3) := by decide +kernel
theorem d_Md_node_86 : decode k_Md_node 86 = .ok (.aload_n 0, 1) := by decide +kernel
theorem d_Md_node_87 : decode k_Md_node 87 = .ok (.getfield 80, 3) := by decide +kernel
theorem d_Md_node_90 : decode k_Md_node 90 = .ok (.iload 4, 2) := by decide +kernel
theorem d_Md_node_92 : decode k_Md_node 92 = .ok (.iaload, 1) := by decide +kernel
theorem d_Md_node_93 : decode k_Md_node 93 = .ok (.goto 10, 3) := by decide +kernel
theorem d_Md_node_96 : decode k_Md_node 96 = .ok (.aload_n 0, 1) := by decide +kernel
theorem d_Md_node_97 : decode k_Md_node 97 = .ok (.getfield 83, 3) := by decide +kernel
theorem d_Md_node_100 : decode k_Md_node 100 = .ok (.iload 4, 2) := by decide +kernel
theorem d_Md_node_102 : decode k_Md_node 102 = .ok (.iaload, 1) := by decide +kernel
theorem d_Md_node_103 : decode k_Md_node 103 = .ok (.ireturn, 1) := by decide +kernel
theorem d_Md_node_104 : decode k_Md_node 104 = .ok (.iload_n 3, 1) := by decide +kernel
theorem d_Md_node_105 : decode k_Md_node 105 = .ok (.iconst 3, 1) := by decide +kernel
theorem d_Md_node_106 : decode k_Md_node 106 = .ok (.if_icmp .ne 31, 3) := by decide +kernel
theorem d_Md_node_109 : decode k_Md_node 109 = .ok (.aload_n 0, 1) := by decide +kernel
theorem d_Md_node_110 : decode k_Md_node 110 = .ok (.getfield 89, 3) := by decide +kernel
theorem d_Md_node_113 : decode k_Md_node 113 = .ok (.iload 4, 2) := by decide +kernel
theorem d_Md_node_115 : decode k_Md_node 115 = .ok (.iaload, 1) := by decide +kernel
theorem d_Md_node_116 : decode k_Md_node 116 = .ok (.ifCond .ge 7, 3) := by decide +kernel
theorem d_Md_node_119 : decode k_Md_node 119 = .ok (.iconst (-1), 1) := by decide +kernel
theorem d_Md_node_120 : decode k_Md_node 120 = .ok (.goto 16, 3) := by decide +kernel
theorem d_Md_node_123 : decode k_Md_node 123 = .ok (.aload_n 0, 1) := by decide +kernel
theorem d_Md_node_124 : decode k_Md_node 124 = .ok (.getfield 89, 3) := by decide +kernel
theorem d_Md_node_127 : decode k_Md_node 127 = .ok (.iload 4, 2) := by decide +kernel
theorem d_Md_node_129 : decode k_Md_node 129 = .ok (.iaload, 1) := by decide +kernel
theorem d_Md_node_130 : decode k_Md_node 130 = .ok (.sipush 160, 3) := by decide +kernel
theorem d_Md_node_133 : decode k_Md_node 133 = .ok (.iload_n 1, 1) := by decide +kernel
theorem d_Md_node_134 : decode k_Md_node 134 = .ok (.imul, 1) := by decide +kernel
theorem d_Md_node_135 : decode k_Md_node 135 = .ok (.isub, 1) := by decide +kernel
theorem d_Md_node_136 : decode k_Md_node 136 = .ok (.ireturn, 1) := by decide +kernel
theorem d_Md_node_137 : decode k_Md_node 137 = .ok (.iload_n 3, 1) := by decide +kernel
theorem d_Md_node_138 : decode k_Md_node 138 = .ok (.iconst 4, 1) := by decide +kernel
theorem d_Md_node_139 : decode k_Md_node 139 = .ok (.if_icmp .ne 13, 3) := by decide +kernel
theorem d_Md_node_142 : decode k_Md_node 142 = .ok (.aload_n 0, 1) := by decide +kernel
theorem d_Md_node_143 : decode k_Md_node 143 = .ok (.getfield 92, 3) := by decide +kernel
theorem d_Md_node_146 : decode k_Md_node 146 = .ok (.iload 4, 2) := by decide +kernel
theorem d_Md_node_148 : decode k_Md_node 148 = .ok (.iaload, 1) := by decide +kernel
theorem d_Md_node_149 : decode k_Md_node 149 = .ok (.goto 25, 3) := by decide +kernel
theorem d_Md_node_152 : decode k_Md_node 152 = .ok (.iload_n 3, 1) := by decide +kernel
theorem d_Md_node_153 : decode k_Md_node 153 = .ok (.iconst 5, 1) := by decide +kernel
theorem d_Md_node_154 : decode k_Md_node 154 = .ok (.if_icmp .ne 13, 3) := by decide +kernel
theorem d_Md_node_157 : decode k_Md_node 157 = .ok (.aload_n 0, 1) := by decide +kernel
theorem d_Md_node_158 : decode k_Md_node 158 = .ok (.getfield 101, 3) := by decide +kernel
theorem d_Md_node_161 : decode k_Md_node 161 = .ok (.iload 4, 2) := by decide +kernel
theorem d_Md_node_163 : decode k_Md_node 163 = .ok (.iaload, 1) := by decide +kernel
theorem d_Md_node_164 : decode k_Md_node 164 = .ok (.goto 10, 3) := by decide +kernel
theorem d_Md_node_167 : decode k_Md_node 167 = .ok (.aload_n 0, 1) := by decide +kernel
theorem d_Md_node_168 : decode k_Md_node 168 = .ok (.getfield 107, 3) := by decide +kernel
theorem d_Md_node_171 : decode k_Md_node 171 = .ok (.iload 4, 2) := by decide +kernel
theorem d_Md_node_173 : decode k_Md_node 173 = .ok (.iaload, 1) := by decide +kernel
theorem d_Md_node_174 : decode k_Md_node 174 = .ok (.ireturn, 1) := by decide +kernel
def wq_Md_node (x1 : Int32) (x2 : Int32) (x3 : Int32) (σ : Sg) (post : Int32 → Sg → Prop) : Prop := (∀ σ1, σ1 = si σ 54 1 (0 : Int32) → (wq_Md_isText x1 σ1 (fun r2 σ2 => ((r2 = 0 → (wq_Md_fails (1 : Int32) σ2 (fun r3 σ3 => post r3 σ3))) ∧ (¬ r2 = 0 → ((x3 < 0 → (wq_Md_fails (1 : Int32) σ2 (fun r3 σ3 => post r3 σ3))) ∧ (¬ x3 < 0 → ((x3 ≤ (6 : Int32) → (wq_Md_read x1 σ2 (fun σ3 => ((x2 < 0 → (wq_Md_fails (2 : Int32) σ3 (fun r4 σ4 => post r4 σ4))) ∧ (¬ x2 < 0 → (vp_in x1 2 ∧ ((x2 < (σ3.1 58 x1.toNatClampNeg) → (((3 : Int32) ≤ x3 → ((¬ x3 = (3 : Int32) → ((¬ x3 = (4 : Int32) → ((¬ x3 = (5 : Int32) → (vp_in (((160 : Int32) * x1) + x2) 240 ∧ post (σ3.1 69 ((((160 : Int32) * x1) + x2) : Int32).toNatClampNeg) σ3)) ∧ (x3 = (5 : Int32) → (vp_in (((160 : Int32) * x1) + x2) 240 ∧ post (σ3.1 67 ((((160 : Int32) * x1) + x2) : Int32).toNatClampNeg) σ3)))) ∧ (x3 = (4 : Int32) → (vp_in (((160 : Int32) * x1) + x2) 240 ∧ post (σ3.1 64 ((((160 : Int32) * x1) + x2) : Int32).toNatClampNeg) σ3)))) ∧ (x3 = (3 : Int32) → (vp_in (((160 : Int32) * x1) + x2) 240 ∧ ((0 ≤ (σ3.1 63 ((((160 : Int32) * x1) + x2) : Int32).toNatClampNeg) → (vp_in (((160 : Int32) * x1) + x2) 240 ∧ post ((σ3.1 63 ((((160 : Int32) * x1) + x2) : Int32).toNatClampNeg) - ((160 : Int32) * x1)) σ3)) ∧ (¬ 0 ≤ (σ3.1 63 ((((160 : Int32) * x1) + x2) : Int32).toNatClampNeg) → post (-1 : Int32) σ3)))))) ∧ (¬ (3 : Int32) ≤ x3 → ((¬ x3 = 0 → ((¬ x3 = (1 : Int32) → (vp_in (((160 : Int32) * x1) + x2) 240 ∧ post (σ3.1 61 ((((160 : Int32) * x1) + x2) : Int32).toNatClampNeg) σ3)) ∧ (x3 = (1 : Int32) → (vp_in (((160 : Int32) * x1) + x2) 240 ∧ post (σ3.1 60 ((((160 : Int32) * x1) + x2) : Int32).toNatClampNeg) σ3)))) ∧ (x3 = 0 → (vp_in (((160 : Int32) * x1) + x2) 240 ∧ post (σ3.1 59 ((((160 : Int32) * x1) + x2) : Int32).toNatClampNeg) σ3)))))) ∧ (¬ x2 < (σ3.1 58 x1.toNatClampNeg) → (wq_Md_fails (2 : Int32) σ3 (fun r4 σ4 => post r4 σ4)))))))))) ∧ (¬ x3 ≤ (6 : Int32) → (wq_Md_fails (1 : Int32) σ2 (fun r3 σ3 => post r3 σ3)))))))))))
set_option maxRecDepth 100000 in
set_option maxHeartbeats 4000000 in
theorem b_Md_node_0 {p : Program} {l : Launch} {e : Env} {s : State} {m : MethodId} {args : Array Value} {below : List Frame} {meth : Method} {c : Code} {D : va_G} {g : Gm} {A : Nat → Prop} {post : Int32 → Sg → Prop} (C : kC p s m args meth c k_Md_node 5 (some .int) GW R_Md D vwCl g (Zk g) A) (x1 : Int32) (x2 : Int32) (x3 : Int32) (σ : Sg) (H : Heap) (locs : List Loc) (ls : Array Slot) (hl : lv_has ls 5 [(0, .ref (g.1 54)), (1, .int x1), (2, .int x2), (3, .int x3)]) (hst : Wst D vwCl (WS g) A s σ H locs) (h : wq_Md_node x1 x2 x3 σ post) : W p l e { frames := 6, cells := 0, slots := 0, locals := 139 } s m args below meth c H locs 0 0 (MQ below (QiW D vwCl (WS g) post A) args s 0 0 A) (F0 m 0 ls []) := by
  obtain ⟨hx, hb, hr, hml, hown, hts, hlocks, hK, hZ, hA⟩ := C
  unfold wq_Md_node at h
  refine lv_aload_n hx hb d_Md_node_0 rfl (lv_at hl 0 rfl) ?_
  refine lv_iconst (v := (0 : Int32)) hx hb d_Md_node_1 (by decide) ?_
  refine kw_put (D := D) (ci := 10) (ty := .int) (C := R_Md) (T := T_Md) (N := 46) hx hb hts in_Md ty_Md ty_Md_ok nm_Md hown hK hst 54 (WS_o54 g σ) rfl 1 (by decide) (hts _ gw1065) (fun _ h9 => h9) rfl (by decide +kernel) rfl rfl (Nat.le_of_ble_eq_true rfl) (WS_p54_1 g σ _) d_Md_node_2 (fun σ1 H locs e1 hst => ?_)
  replace h := h σ1 e1
  refine lv_iload_n hx hb d_Md_node_5 rfl (lv_at hl 1 rfl) ?_
  refine kw_calli (va_runS (As := [.int x1]) (rest := []) ⟨hx, hb, hml, hown, hts⟩ (c_Md_isText l x1 h) (cwS 1 hts (gd_s gw1211 gw1212 gw15 gw1213) rfl rfl rfl (by decide +kernel) ⟨Nat.le_of_ble_eq_true rfl, Nat.le_of_ble_eq_true rfl⟩) ⟨kw_blind (Zk_ok g), kw_pre (Zk_ok g) hK hZ hA hst⟩ rfl rfl hl.1 rfl (lv_room (Nat.le_of_ble_eq_true rfl)) d_Md_node_6 ⟨Nat.le_of_ble_eq_true rfl, Nat.le_of_ble_eq_true rfl⟩) hst hA (fun r2 σ2 H locs h hst => ?_)
  refine lv_if_eq (tgt := 22) hx hb d_Md_node_9 (by decide) (fun hc => ?_) (fun hc => ?_)
  · replace h := h.1 hc
    refine lv_aload_n hx hb d_Md_node_22 rfl (lv_at hl 0 rfl) ?_
    refine lv_iconst (v := (1 : Int32)) hx hb d_Md_node_23 (by decide) ?_
    refine kw_calli (va_runV (As := [.int (1 : Int32)]) (rest := []) (b := g.1 54) ⟨hx, hb, hml, hown, hts⟩ (c_Md_fails l (1 : Int32) h) (cwV 1 hts (gd_v gw1325 gw1327 gs62 gw15 gw1328) rfl rfl rfl (by decide +kernel) ⟨Nat.le_of_ble_eq_true rfl, Nat.le_of_ble_eq_true rfl⟩) ⟨kw_blind (Zk_ok g), va_recv hK hst.1 rfl (WS_o54 g σ2), kw_pre (Zk_ok g) hK hZ hA hst⟩ rfl rfl hl.1 rfl (lv_room (Nat.le_of_ble_eq_true rfl)) d_Md_node_24 ⟨Nat.le_of_ble_eq_true rfl, Nat.le_of_ble_eq_true rfl⟩) hst hA (fun r3 σ3 H locs h hst => ?_)
    exact kw_iret hx hb hr hlocks hst h d_Md_node_27
  · replace h := h.2 hc
    refine lv_iload_n hx hb d_Md_node_12 rfl (lv_at hl 3 rfl) ?_
    refine lv_if_lt (tgt := 22) hx hb d_Md_node_13 (by decide) (fun hc => ?_) (fun hc => ?_)
    · replace h := h.1 hc
      refine lv_aload_n hx hb d_Md_node_22 rfl (lv_at hl 0 rfl) ?_
      refine lv_iconst (v := (1 : Int32)) hx hb d_Md_node_23 (by decide) ?_
      refine kw_calli (va_runV (As := [.int (1 : Int32)]) (rest := []) (b := g.1 54) ⟨hx, hb, hml, hown, hts⟩ (c_Md_fails l (1 : Int32) h) (cwV 1 hts (gd_v gw1325 gw1327 gs62 gw15 gw1328) rfl rfl rfl (by decide +kernel) ⟨Nat.le_of_ble_eq_true rfl, Nat.le_of_ble_eq_true rfl⟩) ⟨kw_blind (Zk_ok g), va_recv hK hst.1 rfl (WS_o54 g σ2), kw_pre (Zk_ok g) hK hZ hA hst⟩ rfl rfl hl.1 rfl (lv_room (Nat.le_of_ble_eq_true rfl)) d_Md_node_24 ⟨Nat.le_of_ble_eq_true rfl, Nat.le_of_ble_eq_true rfl⟩) hst hA (fun r3 σ3 H locs h hst => ?_)
      exact kw_iret hx hb hr hlocks hst h d_Md_node_27
    · replace h := h.2 hc
      refine lv_iload_n hx hb d_Md_node_16 rfl (lv_at hl 3 rfl) ?_
      refine lv_bipush (v := (6 : Int32)) hx hb d_Md_node_17 (by decide) ?_
      refine lv_icmp_le (tgt := 28) hx hb d_Md_node_19 (by decide) (fun hc => ?_) (fun hc => ?_)
      · replace h := h.1 hc
        refine lv_aload_n hx hb d_Md_node_28 rfl (lv_at hl 0 rfl) ?_
        refine lv_iload_n hx hb d_Md_node_29 rfl (lv_at hl 1 rfl) ?_
        refine kw_callv (va_runV (As := [.int x1]) (rest := []) (b := g.1 54) ⟨hx, hb, hml, hown, hts⟩ (c_Md_read l x1 h) (cwV 1 hts (gd_v gw1252 gw1254 gs47 gw15 gw1255) rfl rfl rfl (by decide +kernel) ⟨Nat.le_of_ble_eq_true rfl, Nat.le_of_ble_eq_true rfl⟩) ⟨kw_blind (Zk_ok g), va_recv hK hst.1 rfl (WS_o54 g σ2), kw_pre (Zk_ok g) hK hZ hA hst⟩ rfl rfl hl.1 rfl (lv_room (Nat.le_of_ble_eq_true rfl)) d_Md_node_30 ⟨Nat.le_of_ble_eq_true rfl, Nat.le_of_ble_eq_true rfl⟩) hst hA (fun σ3 H locs h hst => ?_)
        refine lv_iload_n hx hb d_Md_node_33 rfl (lv_at hl 2 rfl) ?_
        refine lv_if_lt (tgt := 47) hx hb d_Md_node_34 (by decide) (fun hc => ?_) (fun hc => ?_)
        · replace h := h.1 hc
          refine lv_aload_n hx hb d_Md_node_47 rfl (lv_at hl 0 rfl) ?_
          refine lv_iconst (v := (2 : Int32)) hx hb d_Md_node_48 (by decide) ?_
          refine kw_calli (va_runV (As := [.int (2 : Int32)]) (rest := []) (b := g.1 54) ⟨hx, hb, hml, hown, hts⟩ (c_Md_fails l (2 : Int32) h) (cwV 1 hts (gd_v gw1325 gw1327 gs62 gw15 gw1328) rfl rfl rfl (by decide +kernel) ⟨Nat.le_of_ble_eq_true rfl, Nat.le_of_ble_eq_true rfl⟩) ⟨kw_blind (Zk_ok g), va_recv hK hst.1 rfl (WS_o54 g σ3), kw_pre (Zk_ok g) hK hZ hA hst⟩ rfl rfl hl.1 rfl (lv_room (Nat.le_of_ble_eq_true rfl)) d_Md_node_49 ⟨Nat.le_of_ble_eq_true rfl, Nat.le_of_ble_eq_true rfl⟩) hst hA (fun r4 σ4 H locs h hst => ?_)
          exact kw_iret hx hb hr hlocks hst h d_Md_node_52
        · replace h := h.2 hc
          refine lv_iload_n hx hb d_Md_node_37 rfl (lv_at hl 2 rfl) ?_
          refine lv_aload_n hx hb d_Md_node_38 rfl (lv_at hl 0 rfl) ?_
          refine va_get (D := D) (ci := 10) (C := R_Md) (T := T_Md) (N := 46) hx hb hts in_Md hown hK hst.1 54 (WS_o54 g σ3) rfl 4 (by decide) (hts _ gw1068) (fun _ h9 => h9) rfl d_Md_node_39 ?_
          refine lv_iload_n hx hb d_Md_node_42 rfl (lv_at hl 1 rfl) ?_
          obtain ⟨hi, h⟩ := h
          refine va_iald hx hb hK hst.1 58 0 (WS_a58 g σ3) rfl hi d_Md_node_43 ?_
          refine lv_icmp_lt (tgt := 53) hx hb d_Md_node_44 (by decide) (fun hc => ?_) (fun hc => ?_)
          · replace h := h.1 hc
            refine lv_sipush (v := (160 : Int32)) hx hb d_Md_node_53 (by decide) ?_
            refine lv_iload_n hx hb d_Md_node_56 rfl (lv_at hl 1 rfl) ?_
            refine lv_imul hx hb d_Md_node_57 ?_
            refine lv_iload_n hx hb d_Md_node_58 rfl (lv_at hl 2 rfl) ?_
            refine lv_iadd hx hb d_Md_node_59 ?_
            refine lv_istore hx hb d_Md_node_60 hl (by decide) rfl (fun ls hl => ?_)
            have hl : lv_has ls 5 [(4, .int (((160 : Int32) * x1) + x2)), (0, .ref (g.1 54)), (1, .int x1), (2, .int x2), (3, .int x3)] := hl
            refine lv_iload_n hx hb d_Md_node_62 rfl (lv_at hl 4 rfl) ?_
            refine lv_iconst (v := (3 : Int32)) hx hb d_Md_node_63 (by decide) ?_
            refine lv_icmp_ge (tgt := 104) hx hb d_Md_node_64 (by decide) (fun hc => ?_) (fun hc => ?_)
            · replace h := h.1 hc
              refine lv_iload_n hx hb d_Md_node_104 rfl (lv_at hl 4 rfl) ?_
              refine lv_iconst (v := (3 : Int32)) hx hb d_Md_node_105 (by decide) ?_
              refine lv_icmp_ne (tgt := 137) hx hb d_Md_node_106 (by decide) (fun hc => ?_) (fun hc => ?_)
              · replace h := h.1 hc
                refine lv_iload_n hx hb d_Md_node_137 rfl (lv_at hl 4 rfl) ?_
                refine lv_iconst (v := (4 : Int32)) hx hb d_Md_node_138 (by decide) ?_
                refine lv_icmp_ne (tgt := 152) hx hb d_Md_node_139 (by decide) (fun hc => ?_) (fun hc => ?_)
                · replace h := h.1 hc
                  refine lv_iload_n hx hb d_Md_node_152 rfl (lv_at hl 4 rfl) ?_
                  refine lv_iconst (v := (5 : Int32)) hx hb d_Md_node_153 (by decide) ?_
                  refine lv_icmp_ne (tgt := 167) hx hb d_Md_node_154 (by decide) (fun hc => ?_) (fun hc => ?_)
                  · replace h := h.1 hc
                    refine lv_aload_n hx hb d_Md_node_167 rfl (lv_at hl 1 rfl) ?_
                    refine va_get (D := D) (ci := 10) (C := R_Md) (T := T_Md) (N := 46) hx hb hts in_Md hown hK hst.1 54 (WS_o54 g σ3) rfl 15 (by decide) (hts _ gw1079) (fun _ h9 => h9) rfl d_Md_node_168 ?_
                    refine lv_iload hx hb d_Md_node_171 (lv_at hl 0 rfl) ?_
                    obtain ⟨hi, h⟩ := h
                    refine va_iald hx hb hK hst.1 69 0 (WS_a69 g σ3) rfl hi d_Md_node_173 ?_
                    exact kw_iret hx hb hr hlocks hst h d_Md_node_174
                  · replace h := h.2 hc
                    refine lv_aload_n hx hb d_Md_node_157 rfl (lv_at hl 1 rfl) ?_
                    refine va_get (D := D) (ci := 10) (C := R_Md) (T := T_Md) (N := 46) hx hb hts in_Md hown hK hst.1 54 (WS_o54 g σ3) rfl 13 (by decide) (hts _ gw1077) (fun _ h9 => h9) rfl d_Md_node_158 ?_
                    refine lv_iload hx hb d_Md_node_161 (lv_at hl 0 rfl) ?_
                    obtain ⟨hi, h⟩ := h
                    refine va_iald hx hb hK hst.1 67 0 (WS_a67 g σ3) rfl hi d_Md_node_163 ?_
                    refine lv_goto (tgt := 174) hx hb d_Md_node_164 (by decide) ?_
                    exact kw_iret hx hb hr hlocks hst h d_Md_node_174
                · replace h := h.2 hc
                  refine lv_aload_n hx hb d_Md_node_142 rfl (lv_at hl 1 rfl) ?_
                  refine va_get (D := D) (ci := 10) (C := R_Md) (T := T_Md) (N := 46) hx hb hts in_Md hown hK hst.1 54 (WS_o54 g σ3) rfl 10 (by decide) (hts _ gw1074) (fun _ h9 => h9) rfl d_Md_node_143 ?_
                  refine lv_iload hx hb d_Md_node_146 (lv_at hl 0 rfl) ?_
                  obtain ⟨hi, h⟩ := h
                  refine va_iald hx hb hK hst.1 64 0 (WS_a64 g σ3) rfl hi d_Md_node_148 ?_
                  refine lv_goto (tgt := 174) hx hb d_Md_node_149 (by decide) ?_
                  exact kw_iret hx hb hr hlocks hst h d_Md_node_174
              · replace h := h.2 hc
                refine lv_aload_n hx hb d_Md_node_109 rfl (lv_at hl 1 rfl) ?_
                refine va_get (D := D) (ci := 10) (C := R_Md) (T := T_Md) (N := 46) hx hb hts in_Md hown hK hst.1 54 (WS_o54 g σ3) rfl 9 (by decide) (hts _ gw1073) (fun _ h9 => h9) rfl d_Md_node_110 ?_
                refine lv_iload hx hb d_Md_node_113 (lv_at hl 0 rfl) ?_
                obtain ⟨hi, h⟩ := h
                refine va_iald hx hb hK hst.1 63 0 (WS_a63 g σ3) rfl hi d_Md_node_115 ?_
                refine lv_if_ge (tgt := 123) hx hb d_Md_node_116 (by decide) (fun hc => ?_) (fun hc => ?_)
                · replace h := h.1 hc
                  refine lv_aload_n hx hb d_Md_node_123 rfl (lv_at hl 1 rfl) ?_
                  refine va_get (D := D) (ci := 10) (C := R_Md) (T := T_Md) (N := 46) hx hb hts in_Md hown hK hst.1 54 (WS_o54 g σ3) rfl 9 (by decide) (hts _ gw1073) (fun _ h9 => h9) rfl d_Md_node_124 ?_
                  refine lv_iload hx hb d_Md_node_127 (lv_at hl 0 rfl) ?_
                  obtain ⟨hi, h⟩ := h
                  refine va_iald hx hb hK hst.1 63 0 (WS_a63 g σ3) rfl hi d_Md_node_129 ?_
                  refine lv_sipush (v := (160 : Int32)) hx hb d_Md_node_130 (by decide) ?_
                  refine lv_iload_n hx hb d_Md_node_133 rfl (lv_at hl 2 rfl) ?_
                  refine lv_imul hx hb d_Md_node_134 ?_
                  refine lv_isub hx hb d_Md_node_135 ?_
                  exact kw_iret hx hb hr hlocks hst h d_Md_node_136
                · replace h := h.2 hc
                  refine lv_iconst (v := (-1 : Int32)) hx hb d_Md_node_119 (by decide) ?_
                  refine lv_goto (tgt := 136) hx hb d_Md_node_120 (by decide) ?_
                  exact kw_iret hx hb hr hlocks hst h d_Md_node_136
            · replace h := h.2 hc
              refine lv_iload_n hx hb d_Md_node_67 rfl (lv_at hl 4 rfl) ?_
              refine lv_if_ne (tgt := 81) hx hb d_Md_node_68 (by decide) (fun hc => ?_) (fun hc => ?_)
              · replace h := h.1 hc
                refine lv_iload_n hx hb d_Md_node_81 rfl (lv_at hl 4 rfl) ?_
                refine lv_iconst (v := (1 : Int32)) hx hb d_Md_node_82 (by decide) ?_
                refine lv_icmp_ne (tgt := 96) hx hb d_Md_node_83 (by decide) (fun hc => ?_) (fun hc => ?_)
                · replace h := h.1 hc
                  refine lv_aload_n hx hb d_Md_node_96 rfl (lv_at hl 1 rfl) ?_
                  refine va_get (D := D) (ci := 10) (C := R_Md) (T := T_Md) (N := 46) hx hb hts in_Md hown hK hst.1 54 (WS_o54 g σ3) rfl 7 (by decide) (hts _ gw1071) (fun _ h9 => h9) rfl d_Md_node_97 ?_
                  refine lv_iload hx hb d_Md_node_100 (lv_at hl 0 rfl) ?_
                  obtain ⟨hi, h⟩ := h
                  refine va_iald hx hb hK hst.1 61 0 (WS_a61 g σ3) rfl hi d_Md_node_102 ?_
                  exact kw_iret hx hb hr hlocks hst h d_Md_node_103
                · replace h := h.2 hc
                  refine lv_aload_n hx hb d_Md_node_86 rfl (lv_at hl 1 rfl) ?_
                  refine va_get (D := D) (ci := 10) (C := R_Md) (T := T_Md) (N := 46) hx hb hts in_Md hown hK hst.1 54 (WS_o54 g σ3) rfl 6 (by decide) (hts _ gw1070) (fun _ h9 => h9) rfl d_Md_node_87 ?_
                  refine lv_iload hx hb d_Md_node_90 (lv_at hl 0 rfl) ?_
                  obtain ⟨hi, h⟩ := h
                  refine va_iald hx hb hK hst.1 60 0 (WS_a60 g σ3) rfl hi d_Md_node_92 ?_
                  refine lv_goto (tgt := 103) hx hb d_Md_node_93 (by decide) ?_
                  exact kw_iret hx hb hr hlocks hst h d_Md_node_103
              · replace h := h.2 hc
                refine lv_aload_n hx hb d_Md_node_71 rfl (lv_at hl 1 rfl) ?_
                refine va_get (D := D) (ci := 10) (C := R_Md) (T := T_Md) (N := 46) hx hb hts in_Md hown hK hst.1 54 (WS_o54 g σ3) rfl 5 (by decide) (hts _ gw1069) (fun _ h9 => h9) rfl d_Md_node_72 ?_
                refine lv_iload hx hb d_Md_node_75 (lv_at hl 0 rfl) ?_
                obtain ⟨hi, h⟩ := h
                refine va_iald hx hb hK hst.1 59 0 (WS_a59 g σ3) rfl hi d_Md_node_77 ?_
                refine lv_goto (tgt := 103) hx hb d_Md_node_78 (by decide) ?_
                exact kw_iret hx hb hr hlocks hst h d_Md_node_103
          · replace h := h.2 hc
            refine lv_aload_n hx hb d_Md_node_47 rfl (lv_at hl 0 rfl) ?_
            refine lv_iconst (v := (2 : Int32)) hx hb d_Md_node_48 (by decide) ?_
            refine kw_calli (va_runV (As := [.int (2 : Int32)]) (rest := []) (b := g.1 54) ⟨hx, hb, hml, hown, hts⟩ (c_Md_fails l (2 : Int32) h) (cwV 1 hts (gd_v gw1325 gw1327 gs62 gw15 gw1328) rfl rfl rfl (by decide +kernel) ⟨Nat.le_of_ble_eq_true rfl, Nat.le_of_ble_eq_true rfl⟩) ⟨kw_blind (Zk_ok g), va_recv hK hst.1 rfl (WS_o54 g σ3), kw_pre (Zk_ok g) hK hZ hA hst⟩ rfl rfl hl.1 rfl (lv_room (Nat.le_of_ble_eq_true rfl)) d_Md_node_49 ⟨Nat.le_of_ble_eq_true rfl, Nat.le_of_ble_eq_true rfl⟩) hst hA (fun r4 σ4 H locs h hst => ?_)
            exact kw_iret hx hb hr hlocks hst h d_Md_node_52
      · replace h := h.2 hc
        refine lv_aload_n hx hb d_Md_node_22 rfl (lv_at hl 0 rfl) ?_
        refine lv_iconst (v := (1 : Int32)) hx hb d_Md_node_23 (by decide) ?_
        refine kw_calli (va_runV (As := [.int (1 : Int32)]) (rest := []) (b := g.1 54) ⟨hx, hb, hml, hown, hts⟩ (c_Md_fails l (1 : Int32) h) (cwV 1 hts (gd_v gw1325 gw1327 gs62 gw15 gw1328) rfl rfl rfl (by decide +kernel) ⟨Nat.le_of_ble_eq_true rfl, Nat.le_of_ble_eq_true rfl⟩) ⟨kw_blind (Zk_ok g), va_recv hK hst.1 rfl (WS_o54 g σ2), kw_pre (Zk_ok g) hK hZ hA hst⟩ rfl rfl hl.1 rfl (lv_room (Nat.le_of_ble_eq_true rfl)) d_Md_node_24 ⟨Nat.le_of_ble_eq_true rfl, Nat.le_of_ble_eq_true rfl⟩) hst hA (fun r3 σ3 H locs h hst => ?_)
        exact kw_iret hx hb hr hlocks hst h d_Md_node_27
set_option maxRecDepth 100000 in
set_option maxHeartbeats 4000000 in
theorem c_Md_node (l : Launch) {D : va_G} {g : Gm} {sz : Nat} (x1 : Int32) (x2 : Int32) (x3 : Int32) {σ : Sg} {post : Int32 → Sg → Prop} (h : wq_Md_node x1 x2 x3 σ post) : Met l y_Md_node (.code y_Md_node k_Md_node 5 (some .int) :: GW) { frames := 6, cells := 0, slots := 0, locals := 139 } (PcW D vwCl (WS g) g (Zk g) σ sz [.ref (g.1 54), .int x1, .int x2, .int x3]) (QiW D vwCl (WS g) post (va_A (WS g σ) sz)) 0 0 (va_A (WS g σ) sz) := by
  refine kw_entry (own := R_Md) (by decide) rfl rfl (Nat.le_of_ble_eq_true rfl) ?_
  intro p e s m below meth c ls hsz C hin hl hst
  exact b_Md_node_0 C x1 x2 x3 σ _ _ ls hl hst h
/-! SchemaDeskModel.faults (I)I -/
abbrev k_Md_faults : ByteArray := prog_12_method_34_code
abbrev y_Md_faults : MethodName := ⟨"SchemaDeskModel", "faults", "(I)I"⟩
theorem d_Md_faults_0 : decode k_Md_faults 0 = .ok (.aload_n 0, 1) := by decide +kernel
theorem d_Md_faults_1 : decode k_Md_faults 1 = .ok (.iload_n 1, 1) := by decide +kernel
theorem d_Md_faults_2 : decode k_Md_faults 2 = .ok (.invokestatic 181, 3) := by decide +kernel
theorem d_Md_faults_5 : decode k_Md_faults 5 = .ok (.ifCond .eq 7, 3) := by decide +kernel
theorem d_Md_faults_8 : decode k_Md_faults 8 = .ok (.iconst 0, 1) := by decide +kernel
theorem d_Md_faults_9 : decode k_Md_faults 9 = .ok (.goto 4, 3) := by decide +kernel
theorem d_Md_faults_12 : decode k_Md_faults 12 = .ok (.iconst 1, 1) := by decide +kernel
theorem d_Md_faults_13 : decode k_Md_faults 13 = .ok (.putfield 177, 3) := by decide +kernel
theorem d_Md_faults_16 : decode k_Md_faults 16 = .ok (.aload_n 0, 1) := by decide +kernel
theorem d_Md_faults_17 : decode k_Md_faults 17 = .ok (.getfield 177, 3) := by decide +kernel
theorem d_Md_faults_20 : decode k_Md_faults 20 = .ok (.ifCond .eq 5, 3) := by decide +kernel
theorem d_Md_faults_23 : decode k_Md_faults 23 = .ok (.iconst 0, 1) := by decide +kernel
theorem d_Md_faults_24 : decode k_Md_faults 24 = .ok (.ireturn, 1) := by decide +kernel
theorem d_Md_faults_25 : decode k_Md_faults 25 = .ok (.aload_n 0, 1) := by decide +kernel
theorem d_Md_faults_26 : decode k_Md_faults 26 = .ok (.iload_n 1, 1) := by decide +kernel
theorem d_Md_faults_27 : decode k_Md_faults 27 = .ok (.invokevirtual 271, 3) := by decide +kernel
theorem d_Md_faults_30 : decode k_Md_faults 30 = .ok (.aload_n 0, 1) := by decide +kernel
theorem d_Md_faults_31 : decode k_Md_faults 31 = .ok (.getfield 113, 3) := by decide +kernel
theorem d_Md_faults_34 : decode k_Md_faults 34 = .ok (.iload_n 1, 1) := by decide +kernel
theorem d_Md_faults_35 : decode k_Md_faults 35 = .ok (.iaload, 1) := by decide +kernel
theorem d_Md_faults_36 : decode k_Md_faults 36 = .ok (.ireturn, 1) := by decide +kernel
def wb_Md_faults_0 (F : Nat → Int32 → Sg → Prop) (post : Int32 → Sg → Prop) (x1 : Int32) (σ : Sg) : Prop := (wq_Md_isText x1 σ (fun r1 σ1 => ((r1 = 0 → (∀ σ2, σ2 = si σ1 54 1 (1 : Int32) → F 1 x1 σ2)) ∧ (¬ r1 = 0 → (∀ σ2, σ2 = si σ1 54 1 (0 : Int32) → F 1 x1 σ2)))))
def wb_Md_faults_1 (F : Nat → Int32 → Sg → Prop) (post : Int32 → Sg → Prop) (x1 : Int32) (σ : Sg) : Prop := (((σ.1 54 1) = 0 → (wq_Md_read x1 σ (fun σ1 => (vp_in x1 2 ∧ post (σ1.1 71 x1.toNatClampNeg) σ1)))) ∧ (¬ (σ.1 54 1) = 0 → post (0 : Int32) σ))
def wp_Md_faults (post : Int32 → Sg → Prop) : Nat → Nat → Int32 → Sg → Prop
  | 0, _, _, _ => False
  | n + 1, k, x1, σ => match k with
    | 0 => wb_Md_faults_0 (wp_Md_faults post n) post x1 σ
    | 1 => wb_Md_faults_1 (wp_Md_faults post n) post x1 σ
    | _ => False
def wq_Md_faults (x1 : Int32) (σ : Sg) (post : Int32 → Sg → Prop) : Prop := ∃ n, wp_Md_faults post n 0 x1 σ
def J_Md_faults_1 (p : Program) (l : Launch) (e : Env) (s : State) (m : MethodId) (args : Array Value) (below : List Frame) (meth : Method) (c : Code) (D : va_G) (g : Gm) (A : Nat → Prop) (post : Int32 → Sg → Prop) (F : Nat → Int32 → Sg → Prop) : Prop := ∀ (x1 : Int32) (σ : Sg) (H : Heap) (locs : List Loc) (ls : Array Slot), lv_has ls 2 [(0, .ref (g.1 54)), (1, .int x1)] → Wst D vwCl (WS g) A s σ H locs → F 1 x1 σ → W p l e { frames := 6, cells := 0, slots := 0, locals := 139 } s m args below meth c H locs 0 0 (MQ below (QiW D vwCl (WS g) post A) args s 0 0 A) (F0 m 16 ls [])
set_option maxRecDepth 100000 in
set_option maxHeartbeats 4000000 in
theorem b_Md_faults_0 {p : Program} {l : Launch} {e : Env} {s : State} {m : MethodId} {args : Array Value} {below : List Frame} {meth : Method} {c : Code} {D : va_G} {g : Gm} {A : Nat → Prop} {post : Int32 → Sg → Prop} {F : Nat → Int32 → Sg → Prop} (C : kC p s m args meth c k_Md_faults 2 (some .int) GW R_Md D vwCl g (Zk g) A) (j1 : J_Md_faults_1 p l e s m args below meth c D g A post F) (x1 : Int32) (σ : Sg) (H : Heap) (locs : List Loc) (ls : Array Slot) (hl : lv_has ls 2 [(0, .ref (g.1 54)), (1, .int x1)]) (hst : Wst D vwCl (WS g) A s σ H locs) (h : wb_Md_faults_0 F post x1 σ) : W p l e { frames := 6, cells := 0, slots := 0, locals := 139 } s m args below meth c H locs 0 0 (MQ below (QiW D vwCl (WS g) post A) args s 0 0 A) (F0 m 0 ls []) := by
  obtain ⟨hx, hb, hr, hml, hown, hts, hlocks, hK, hZ, hA⟩ := C
  unfold wb_Md_faults_0 at h
  refine lv_aload_n hx hb d_Md_faults_0 rfl (lv_at hl 0 rfl) ?_
  refine lv_iload_n hx hb d_Md_faults_1 rfl (lv_at hl 1 rfl) ?_
  refine kw_calli (va_runS (As := [.int x1]) (rest := [.ref (g.1 54)]) ⟨hx, hb, hml, hown, hts⟩ (c_Md_isText l x1 h) (cwS 1 hts (gd_s gw1211 gw1212 gw15 gw1213) rfl rfl rfl (by decide +kernel) ⟨Nat.le_of_ble_eq_true rfl, Nat.le_of_ble_eq_true rfl⟩) ⟨kw_blind (Zk_ok g), kw_pre (Zk_ok g) hK hZ hA hst⟩ rfl rfl hl.1 rfl (lv_room (Nat.le_of_ble_eq_true rfl)) d_Md_faults_2 ⟨Nat.le_of_ble_eq_true rfl, Nat.le_of_ble_eq_true rfl⟩) hst hA (fun r1 σ1 H locs h hst => ?_)
  refine lv_if_eq (tgt := 12) hx hb d_Md_faults_5 (by decide) (fun hc => ?_) (fun hc => ?_)
  · replace h := h.1 hc
    refine lv_iconst (v := (1 : Int32)) hx hb d_Md_faults_12 (by decide) ?_
    refine kw_put (D := D) (ci := 10) (ty := .int) (C := R_Md) (T := T_Md) (N := 46) hx hb hts in_Md ty_Md ty_Md_ok nm_Md hown hK hst 54 (WS_o54 g σ1) rfl 1 (by decide) (hts _ gw1065) (fun _ h9 => h9) rfl (by decide +kernel) rfl rfl (Nat.le_of_ble_eq_true rfl) (WS_p54_1 g σ1 _) d_Md_faults_13 (fun σ2 H locs e2 hst => ?_)
    replace h := h σ2 e2
    exact j1 x1 σ2 _ _ _ (lv_sub hl [0, 1] rfl) hst h
  · replace h := h.2 hc
    refine lv_iconst (v := (0 : Int32)) hx hb d_Md_faults_8 (by decide) ?_
    refine lv_goto (tgt := 13) hx hb d_Md_faults_9 (by decide) ?_
    refine kw_put (D := D) (ci := 10) (ty := .int) (C := R_Md) (T := T_Md) (N := 46) hx hb hts in_Md ty_Md ty_Md_ok nm_Md hown hK hst 54 (WS_o54 g σ1) rfl 1 (by decide) (hts _ gw1065) (fun _ h9 => h9) rfl (by decide +kernel) rfl rfl (Nat.le_of_ble_eq_true rfl) (WS_p54_1 g σ1 _) d_Md_faults_13 (fun σ2 H locs e2 hst => ?_)
    replace h := h σ2 e2
    exact j1 x1 σ2 _ _ _ (lv_sub hl [0, 1] rfl) hst h
set_option maxRecDepth 100000 in
set_option maxHeartbeats 4000000 in
theorem b_Md_faults_1 {p : Program} {l : Launch} {e : Env} {s : State} {m : MethodId} {args : Array Value} {below : List Frame} {meth : Method} {c : Code} {D : va_G} {g : Gm} {A : Nat → Prop} {post : Int32 → Sg → Prop} {F : Nat → Int32 → Sg → Prop} (C : kC p s m args meth c k_Md_faults 2 (some .int) GW R_Md D vwCl g (Zk g) A) (x1 : Int32) (σ : Sg) (H : Heap) (locs : List Loc) (ls : Array Slot) (hl : lv_has ls 2 [(0, .ref (g.1 54)), (1, .int x1)]) (hst : Wst D vwCl (WS g) A s σ H locs) (h : wb_Md_faults_1 F post x1 σ) : W p l e { frames := 6, cells := 0, slots := 0, locals := 139 } s m args below meth c H locs 0 0 (MQ below (QiW D vwCl (WS g) post A) args s 0 0 A) (F0 m 16 ls []) := by
  obtain ⟨hx, hb, hr, hml, hown, hts, hlocks, hK, hZ, hA⟩ := C
  unfold wb_Md_faults_1 at h
  refine lv_aload_n hx hb d_Md_faults_16 rfl (lv_at hl 0 rfl) ?_
  refine va_get (D := D) (ci := 10) (C := R_Md) (T := T_Md) (N := 46) hx hb hts in_Md hown hK hst.1 54 (WS_o54 g σ) rfl 1 (by decide) (hts _ gw1065) (fun _ h9 => h9) rfl d_Md_faults_17 ?_
  refine lv_if_eq (tgt := 25) hx hb d_Md_faults_20 (by decide) (fun hc => ?_) (fun hc => ?_)
  · replace h := h.1 hc
    refine lv_aload_n hx hb d_Md_faults_25 rfl (lv_at hl 0 rfl) ?_
    refine lv_iload_n hx hb d_Md_faults_26 rfl (lv_at hl 1 rfl) ?_
    refine kw_callv (va_runV (As := [.int x1]) (rest := []) (b := g.1 54) ⟨hx, hb, hml, hown, hts⟩ (c_Md_read l x1 h) (cwV 1 hts (gd_v gw1252 gw1254 gs47 gw15 gw1255) rfl rfl rfl (by decide +kernel) ⟨Nat.le_of_ble_eq_true rfl, Nat.le_of_ble_eq_true rfl⟩) ⟨kw_blind (Zk_ok g), va_recv hK hst.1 rfl (WS_o54 g σ), kw_pre (Zk_ok g) hK hZ hA hst⟩ rfl rfl hl.1 rfl (lv_room (Nat.le_of_ble_eq_true rfl)) d_Md_faults_27 ⟨Nat.le_of_ble_eq_true rfl, Nat.le_of_ble_eq_true rfl⟩) hst hA (fun σ1 H locs h hst => ?_)
    refine lv_aload_n hx hb d_Md_faults_30 rfl (lv_at hl 0 rfl) ?_
    refine va_get (D := D) (ci := 10) (C := R_Md) (T := T_Md) (N := 46) hx hb hts in_Md hown hK hst.1 54 (WS_o54 g σ1) rfl 17 (by decide) (hts _ gw1081) (fun _ h9 => h9) rfl d_Md_faults_31 ?_
    refine lv_iload_n hx hb d_Md_faults_34 rfl (lv_at hl 1 rfl) ?_
    obtain ⟨hi, h⟩ := h
    refine va_iald hx hb hK hst.1 71 0 (WS_a71 g σ1) rfl hi d_Md_faults_35 ?_
    exact kw_iret hx hb hr hlocks hst h d_Md_faults_36
  · replace h := h.2 hc
    refine lv_iconst (v := (0 : Int32)) hx hb d_Md_faults_23 (by decide) ?_
    exact kw_iret hx hb hr hlocks hst h d_Md_faults_24
set_option maxRecDepth 100000 in
set_option maxHeartbeats 4000000 in
theorem a_Md_faults {p : Program} {l : Launch} {e : Env} {s : State} {m : MethodId} {args : Array Value} {below : List Frame} {meth : Method} {c : Code} {D : va_G} {g : Gm} {A : Nat → Prop} {post : Int32 → Sg → Prop} (C : kC p s m args meth c k_Md_faults 2 (some .int) GW R_Md D vwCl g (Zk g) A) : ∀ n : Nat, J_Md_faults_1 p l e s m args below meth c D g A post (wp_Md_faults post n) := by
  intro n
  induction n with
  | zero => exact fun _ _ _ _ _ _ _ h => h.elim
  | succ n ih => exact fun x1 σ H locs ls hl hst h => b_Md_faults_1 (F := wp_Md_faults post n) C x1 σ H locs ls hl hst h
set_option maxRecDepth 100000 in
set_option maxHeartbeats 4000000 in
theorem c_Md_faults (l : Launch) {D : va_G} {g : Gm} {sz : Nat} (x1 : Int32) {σ : Sg} {post : Int32 → Sg → Prop} (h : wq_Md_faults x1 σ post) : Met l y_Md_faults (.code y_Md_faults k_Md_faults 2 (some .int) :: GW) { frames := 6, cells := 0, slots := 0, locals := 139 } (PcW D vwCl (WS g) g (Zk g) σ sz [.ref (g.1 54), .int x1]) (QiW D vwCl (WS g) post (va_A (WS g σ) sz)) 0 0 (va_A (WS g σ) sz) := by
  refine kw_entry (own := R_Md) (by decide) rfl rfl (Nat.le_of_ble_eq_true rfl) ?_
  intro p e s m below meth c ls hsz C hin hl hst
  obtain ⟨n, h⟩ := h
  cases n with
  | zero => exact h.elim
  | succ n =>
    have ih := a_Md_faults (l := l) (e := e) (below := below) (post := post) C n
    exact b_Md_faults_0 (F := wp_Md_faults post n) C (ih) x1 σ _ _ ls hl hst h
/-! SchemaDeskModel.fault (II)I -/
abbrev k_Md_fault : ByteArray := prog_12_method_35_code
abbrev y_Md_fault : MethodName := ⟨"SchemaDeskModel", "fault", "(II)I"⟩
theorem d_Md_fault_0 : decode k_Md_fault 0 = .ok (.aload_n 0, 1) := by decide +kernel
theorem d_Md_fault_1 : decode k_Md_fault 1 = .ok (.iconst 0, 1) := by decide +kernel
theorem d_Md_fault_2 : decode k_Md_fault 2 = .ok (.putfield 177, 3) := by decide +kernel
theorem d_Md_fault_5 : decode k_Md_fault 5 = .ok (.iload_n 1, 1) := by decide +kernel
theorem d_Md_fault_6 : decode k_Md_fault 6 = .ok (.invokestatic 181, 3) := by decide +kernel
theorem d_Md_fault_9 : decode k_Md_fault 9 = .ok (.ifCond .ne 9, 3) := by decide +kernel
theorem d_Md_fault_12 : decode k_Md_fault 12 = .ok (.aload_n 0, 1) := by decide +kernel
theorem d_Md_fault_13 : decode k_Md_fault 13 = .ok (.iconst 1, 1) := by decide +kernel
theorem d_Md_fault_14 : decode k_Md_fault 14 = .ok (.invokevirtual 274, 3) := by decide +kernel
theorem d_Md_fault_17 : decode k_Md_fault 17 = .ok (.ireturn, 1) := by decide +kernel
theorem d_Md_fault_18 : decode k_Md_fault 18 = .ok (.aload_n 0, 1) := by decide +kernel
theorem d_Md_fault_19 : decode k_Md_fault 19 = .ok (.iload_n 1, 1) := by decide +kernel
theorem d_Md_fault_20 : decode k_Md_fault 20 = .ok (.invokevirtual 271, 3) := by decide +kernel
theorem d_Md_fault_23 : decode k_Md_fault 23 = .ok (.iload_n 2, 1) := by decide +kernel
theorem d_Md_fault_24 : decode k_Md_fault 24 = .ok (.ifCond .lt 13, 3) := by decide +kernel
theorem d_Md_fault_27 : decode k_Md_fault 27 = .ok (.iload_n 2, 1) := by decide +kernel
theorem d_Md_fault_28 : decode k_Md_fault 28 = .ok (.aload_n 0, 1) := by decide +kernel
theorem d_Md_fault_29 : decode k_Md_fault 29 = .ok (.getfield 113, 3) := by decide +kernel
theorem d_Md_fault_32 : decode k_Md_fault 32 = .ok (.iload_n 1, 1) := by decide +kernel
theorem d_Md_fault_33 : decode k_Md_fault 33 = .ok (.iaload, 1) := by decide +kernel
theorem d_Md_fault_34 : decode k_Md_fault 34 = .ok (.if_icmp .lt 11, 3) := by decide +kernel
theorem d_Md_fault_37 : decode k_Md_fault 37 = .ok (.aload_n 0, 1) := by decide +kernel
theorem d_Md_fault_38 : decode k_Md_fault 38 = .ok (.iconst 2, 1) := by decide +kernel
theorem d_Md_fault_39 : decode k_Md_fault 39 = .ok (.invokevirtual 274, 3) := by decide +kernel
theorem d_Md_fault_42 : decode k_Md_fault 42 = .ok (.goto 15, 3) := by decide +kernel
theorem d_Md_fault_45 : decode k_Md_fault 45 = .ok (.aload_n 0, 1) := by decide +kernel
theorem d_Md_fault_46 : decode k_Md_fault 46 = .ok (.getfield 110, 3) := by decide +kernel
theorem d_Md_fault_49 : decode k_Md_fault 49 = .ok (.sipush 400, 3) := by decide +kernel
theorem d_Md_fault_52 : decode k_Md_fault 52 = .ok (.iload_n 1, 1) := by decide +kernel
theorem d_Md_fault_53 : decode k_Md_fault 53 = .ok (.imul, 1) := by decide +kernel
theorem d_Md_fault_54 : decode k_Md_fault 54 = .ok (.iload_n 2, 1) := by decide +kernel
theorem d_Md_fault_55 : decode k_Md_fault 55 = .ok (.iadd, 1) := by decide +kernel
theorem d_Md_fault_56 : decode k_Md_fault 56 = .ok (.iaload, 1) := by decide +kernel
theorem d_Md_fault_57 : decode k_Md_fault 57 = .ok (.ireturn, 1) := by decide +kernel
def wq_Md_fault (x1 : Int32) (x2 : Int32) (σ : Sg) (post : Int32 → Sg → Prop) : Prop := (∀ σ1, σ1 = si σ 54 1 (0 : Int32) → (wq_Md_isText x1 σ1 (fun r2 σ2 => ((¬ r2 = 0 → (wq_Md_read x1 σ2 (fun σ3 => ((x2 < 0 → (wq_Md_fails (2 : Int32) σ3 (fun r4 σ4 => post r4 σ4))) ∧ (¬ x2 < 0 → (vp_in x1 2 ∧ ((x2 < (σ3.1 71 x1.toNatClampNeg) → (vp_in (((400 : Int32) * x1) + x2) 800 ∧ post (σ3.1 70 ((((400 : Int32) * x1) + x2) : Int32).toNatClampNeg) σ3)) ∧ (¬ x2 < (σ3.1 71 x1.toNatClampNeg) → (wq_Md_fails (2 : Int32) σ3 (fun r4 σ4 => post r4 σ4)))))))))) ∧ (r2 = 0 → (wq_Md_fails (1 : Int32) σ2 (fun r3 σ3 => post r3 σ3)))))))
set_option maxRecDepth 100000 in
set_option maxHeartbeats 4000000 in
theorem b_Md_fault_0 {p : Program} {l : Launch} {e : Env} {s : State} {m : MethodId} {args : Array Value} {below : List Frame} {meth : Method} {c : Code} {D : va_G} {g : Gm} {A : Nat → Prop} {post : Int32 → Sg → Prop} (C : kC p s m args meth c k_Md_fault 3 (some .int) GW R_Md D vwCl g (Zk g) A) (x1 : Int32) (x2 : Int32) (σ : Sg) (H : Heap) (locs : List Loc) (ls : Array Slot) (hl : lv_has ls 3 [(0, .ref (g.1 54)), (1, .int x1), (2, .int x2)]) (hst : Wst D vwCl (WS g) A s σ H locs) (h : wq_Md_fault x1 x2 σ post) : W p l e { frames := 6, cells := 0, slots := 0, locals := 139 } s m args below meth c H locs 0 0 (MQ below (QiW D vwCl (WS g) post A) args s 0 0 A) (F0 m 0 ls []) := by
  obtain ⟨hx, hb, hr, hml, hown, hts, hlocks, hK, hZ, hA⟩ := C
  unfold wq_Md_fault at h
  refine lv_aload_n hx hb d_Md_fault_0 rfl (lv_at hl 0 rfl) ?_
  refine lv_iconst (v := (0 : Int32)) hx hb d_Md_fault_1 (by decide) ?_
  refine kw_put (D := D) (ci := 10) (ty := .int) (C := R_Md) (T := T_Md) (N := 46) hx hb hts in_Md ty_Md ty_Md_ok nm_Md hown hK hst 54 (WS_o54 g σ) rfl 1 (by decide) (hts _ gw1065) (fun _ h9 => h9) rfl (by decide +kernel) rfl rfl (Nat.le_of_ble_eq_true rfl) (WS_p54_1 g σ _) d_Md_fault_2 (fun σ1 H locs e1 hst => ?_)
  replace h := h σ1 e1
  refine lv_iload_n hx hb d_Md_fault_5 rfl (lv_at hl 1 rfl) ?_
  refine kw_calli (va_runS (As := [.int x1]) (rest := []) ⟨hx, hb, hml, hown, hts⟩ (c_Md_isText l x1 h) (cwS 1 hts (gd_s gw1211 gw1212 gw15 gw1213) rfl rfl rfl (by decide +kernel) ⟨Nat.le_of_ble_eq_true rfl, Nat.le_of_ble_eq_true rfl⟩) ⟨kw_blind (Zk_ok g), kw_pre (Zk_ok g) hK hZ hA hst⟩ rfl rfl hl.1 rfl (lv_room (Nat.le_of_ble_eq_true rfl)) d_Md_fault_6 ⟨Nat.le_of_ble_eq_true rfl, Nat.le_of_ble_eq_true rfl⟩) hst hA (fun r2 σ2 H locs h hst => ?_)
  refine lv_if_ne (tgt := 18) hx hb d_Md_fault_9 (by decide) (fun hc => ?_) (fun hc => ?_)
  · replace h := h.1 hc
    refine lv_aload_n hx hb d_Md_fault_18 rfl (lv_at hl 0 rfl) ?_
    refine lv_iload_n hx hb d_Md_fault_19 rfl (lv_at hl 1 rfl) ?_
    refine kw_callv (va_runV (As := [.int x1]) (rest := []) (b := g.1 54) ⟨hx, hb, hml, hown, hts⟩ (c_Md_read l x1 h) (cwV 1 hts (gd_v gw1252 gw1254 gs47 gw15 gw1255) rfl rfl rfl (by decide +kernel) ⟨Nat.le_of_ble_eq_true rfl, Nat.le_of_ble_eq_true rfl⟩) ⟨kw_blind (Zk_ok g), va_recv hK hst.1 rfl (WS_o54 g σ2), kw_pre (Zk_ok g) hK hZ hA hst⟩ rfl rfl hl.1 rfl (lv_room (Nat.le_of_ble_eq_true rfl)) d_Md_fault_20 ⟨Nat.le_of_ble_eq_true rfl, Nat.le_of_ble_eq_true rfl⟩) hst hA (fun σ3 H locs h hst => ?_)
    refine lv_iload_n hx hb d_Md_fault_23 rfl (lv_at hl 2 rfl) ?_
    refine lv_if_lt (tgt := 37) hx hb d_Md_fault_24 (by decide) (fun hc => ?_) (fun hc => ?_)
    · replace h := h.1 hc
      refine lv_aload_n hx hb d_Md_fault_37 rfl (lv_at hl 0 rfl) ?_
      refine lv_iconst (v := (2 : Int32)) hx hb d_Md_fault_38 (by decide) ?_
      refine kw_calli (va_runV (As := [.int (2 : Int32)]) (rest := []) (b := g.1 54) ⟨hx, hb, hml, hown, hts⟩ (c_Md_fails l (2 : Int32) h) (cwV 1 hts (gd_v gw1325 gw1327 gs62 gw15 gw1328) rfl rfl rfl (by decide +kernel) ⟨Nat.le_of_ble_eq_true rfl, Nat.le_of_ble_eq_true rfl⟩) ⟨kw_blind (Zk_ok g), va_recv hK hst.1 rfl (WS_o54 g σ3), kw_pre (Zk_ok g) hK hZ hA hst⟩ rfl rfl hl.1 rfl (lv_room (Nat.le_of_ble_eq_true rfl)) d_Md_fault_39 ⟨Nat.le_of_ble_eq_true rfl, Nat.le_of_ble_eq_true rfl⟩) hst hA (fun r4 σ4 H locs h hst => ?_)
      refine lv_goto (tgt := 57) hx hb d_Md_fault_42 (by decide) ?_
      exact kw_iret hx hb hr hlocks hst h d_Md_fault_57
    · replace h := h.2 hc
      refine lv_iload_n hx hb d_Md_fault_27 rfl (lv_at hl 2 rfl) ?_
      refine lv_aload_n hx hb d_Md_fault_28 rfl (lv_at hl 0 rfl) ?_
      refine va_get (D := D) (ci := 10) (C := R_Md) (T := T_Md) (N := 46) hx hb hts in_Md hown hK hst.1 54 (WS_o54 g σ3) rfl 17 (by decide) (hts _ gw1081) (fun _ h9 => h9) rfl d_Md_fault_29 ?_
      refine lv_iload_n hx hb d_Md_fault_32 rfl (lv_at hl 1 rfl) ?_
      obtain ⟨hi, h⟩ := h
      refine va_iald hx hb hK hst.1 71 0 (WS_a71 g σ3) rfl hi d_Md_fault_33 ?_
      refine lv_icmp_lt (tgt := 45) hx hb d_Md_fault_34 (by decide) (fun hc => ?_) (fun hc => ?_)
      · replace h := h.1 hc
        refine lv_aload_n hx hb d_Md_fault_45 rfl (lv_at hl 0 rfl) ?_
        refine va_get (D := D) (ci := 10) (C := R_Md) (T := T_Md) (N := 46) hx hb hts in_Md hown hK hst.1 54 (WS_o54 g σ3) rfl 16 (by decide) (hts _ gw1080) (fun _ h9 => h9) rfl d_Md_fault_46 ?_
        refine lv_sipush (v := (400 : Int32)) hx hb d_Md_fault_49 (by decide) ?_
        refine lv_iload_n hx hb d_Md_fault_52 rfl (lv_at hl 1 rfl) ?_
        refine lv_imul hx hb d_Md_fault_53 ?_
        refine lv_iload_n hx hb d_Md_fault_54 rfl (lv_at hl 2 rfl) ?_
        refine lv_iadd hx hb d_Md_fault_55 ?_
        obtain ⟨hi, h⟩ := h
        refine va_iald hx hb hK hst.1 70 0 (WS_a70 g σ3) rfl hi d_Md_fault_56 ?_
        exact kw_iret hx hb hr hlocks hst h d_Md_fault_57
      · replace h := h.2 hc
        refine lv_aload_n hx hb d_Md_fault_37 rfl (lv_at hl 0 rfl) ?_
        refine lv_iconst (v := (2 : Int32)) hx hb d_Md_fault_38 (by decide) ?_
        refine kw_calli (va_runV (As := [.int (2 : Int32)]) (rest := []) (b := g.1 54) ⟨hx, hb, hml, hown, hts⟩ (c_Md_fails l (2 : Int32) h) (cwV 1 hts (gd_v gw1325 gw1327 gs62 gw15 gw1328) rfl rfl rfl (by decide +kernel) ⟨Nat.le_of_ble_eq_true rfl, Nat.le_of_ble_eq_true rfl⟩) ⟨kw_blind (Zk_ok g), va_recv hK hst.1 rfl (WS_o54 g σ3), kw_pre (Zk_ok g) hK hZ hA hst⟩ rfl rfl hl.1 rfl (lv_room (Nat.le_of_ble_eq_true rfl)) d_Md_fault_39 ⟨Nat.le_of_ble_eq_true rfl, Nat.le_of_ble_eq_true rfl⟩) hst hA (fun r4 σ4 H locs h hst => ?_)
        refine lv_goto (tgt := 57) hx hb d_Md_fault_42 (by decide) ?_
        exact kw_iret hx hb hr hlocks hst h d_Md_fault_57
  · replace h := h.2 hc
    refine lv_aload_n hx hb d_Md_fault_12 rfl (lv_at hl 0 rfl) ?_
    refine lv_iconst (v := (1 : Int32)) hx hb d_Md_fault_13 (by decide) ?_
    refine kw_calli (va_runV (As := [.int (1 : Int32)]) (rest := []) (b := g.1 54) ⟨hx, hb, hml, hown, hts⟩ (c_Md_fails l (1 : Int32) h) (cwV 1 hts (gd_v gw1325 gw1327 gs62 gw15 gw1328) rfl rfl rfl (by decide +kernel) ⟨Nat.le_of_ble_eq_true rfl, Nat.le_of_ble_eq_true rfl⟩) ⟨kw_blind (Zk_ok g), va_recv hK hst.1 rfl (WS_o54 g σ2), kw_pre (Zk_ok g) hK hZ hA hst⟩ rfl rfl hl.1 rfl (lv_room (Nat.le_of_ble_eq_true rfl)) d_Md_fault_14 ⟨Nat.le_of_ble_eq_true rfl, Nat.le_of_ble_eq_true rfl⟩) hst hA (fun r3 σ3 H locs h hst => ?_)
    exact kw_iret hx hb hr hlocks hst h d_Md_fault_17
set_option maxRecDepth 100000 in
set_option maxHeartbeats 4000000 in
theorem c_Md_fault (l : Launch) {D : va_G} {g : Gm} {sz : Nat} (x1 : Int32) (x2 : Int32) {σ : Sg} {post : Int32 → Sg → Prop} (h : wq_Md_fault x1 x2 σ post) : Met l y_Md_fault (.code y_Md_fault k_Md_fault 3 (some .int) :: GW) { frames := 6, cells := 0, slots := 0, locals := 139 } (PcW D vwCl (WS g) g (Zk g) σ sz [.ref (g.1 54), .int x1, .int x2]) (QiW D vwCl (WS g) post (va_A (WS g σ) sz)) 0 0 (va_A (WS g σ) sz) := by
  refine kw_entry (own := R_Md) (by decide) rfl rfl (Nat.le_of_ble_eq_true rfl) ?_
  intro p e s m below meth c ls hsz C hin hl hst
  exact b_Md_fault_0 C x1 x2 σ _ _ ls hl hst h
/-! SchemaDeskModel.prepared ()Z -/
abbrev k_Md_prepared : ByteArray := prog_12_method_44_code
abbrev y_Md_prepared : MethodName := ⟨"SchemaDeskModel", "prepared", "()Z"⟩
theorem d_Md_prepared_0 : decode k_Md_prepared 0 = .ok (.aload_n 0, 1) := by decide +kernel
theorem d_Md_prepared_1 : decode k_Md_prepared 1 = .ok (.iconst 1, 1) := by decide +kernel
theorem d_Md_prepared_2 : decode k_Md_prepared 2 = .ok (.invokevirtual 271, 3) := by decide +kernel
theorem d_Md_prepared_5 : decode k_Md_prepared 5 = .ok (.aload_n 0, 1) := by decide +kernel
theorem d_Md_prepared_6 : decode k_Md_prepared 6 = .ok (.iconst 0, 1) := by decide +kernel
theorem d_Md_prepared_7 : decode k_Md_prepared 7 = .ok (.invokevirtual 271, 3) := by decide +kernel
theorem d_Md_prepared_10 : decode k_Md_prepared 10 = .ok (.iconst 0, 1) := by decide +kernel
theorem d_Md_prepared_11 : decode k_Md_prepared 11 = .ok (.istore_n 1, 1) := by decide +kernel
theorem d_Md_prepared_12 : decode k_Md_prepared 12 = .ok (.iload_n 1, 1) := by decide +kernel
theorem d_Md_prepared_13 : decode k_Md_prepared 13 = .ok (.bipush 22, 2) := by decide +kernel
theorem d_Md_prepared_15 : decode k_Md_prepared 15 = .ok (.aload_n 0, 1) := by decide +kernel
theorem d_Md_prepared_16 : decode k_Md_prepared 16 = .ok (.getfield 74, 3) := by decide +kernel
theorem d_Md_prepared_19 : decode k_Md_prepared 19 = .ok (.iconst 0, 1) := by decide +kernel
theorem d_Md_prepared_20 : decode k_Md_prepared 20 = .ok (.iaload, 1) := by decide +kernel
theorem d_Md_prepared_21 : decode k_Md_prepared 21 = .ok (.imul, 1) := by decide +kernel
theorem d_Md_prepared_22 : decode k_Md_prepared 22 = .ok (.if_icmp .ge 16, 3) := by decide +kernel
theorem d_Md_prepared_25 : decode k_Md_prepared 25 = .ok (.aload_n 0, 1) := by decide +kernel
theorem d_Md_prepared_26 : decode k_Md_prepared 26 = .ok (.getfield 129, 3) := by decide +kernel
theorem d_Md_prepared_29 : decode k_Md_prepared 29 = .ok (.iload_n 1, 1) := by decide +kernel
theorem d_Md_prepared_30 : decode k_Md_prepared 30 = .ok (.iconst (-1), 1) := by decide +kernel
theorem d_Md_prepared_31 : decode k_Md_prepared 31 = .ok (.iastore, 1) := by decide +kernel
theorem d_Md_prepared_32 : decode k_Md_prepared 32 = .ok (.iinc 1 1, 3) := by decide +kernel
theorem d_Md_prepared_35 : decode k_Md_prepared 35 = .ok (.goto (-23), 3) := by decide +kernel
theorem d_Md_prepared_38 : decode k_Md_prepared 38 = .ok (.iconst 0, 1) := by decide +kernel
theorem d_Md_prepared_39 : decode k_Md_prepared 39 = .ok (.istore_n 1, 1) := by decide +kernel
theorem d_Md_prepared_40 : decode k_Md_prepared 40 = .ok (.iload_n 1, 1) := by decide +kernel
theorem d_Md_prepared_41 : decode k_Md_prepared 41 = .ok (.aload_n 0, 1) := by decide +kernel
theorem d_Md_prepared_42 : decode k_Md_prepared 42 = .ok (.getfield 74, 3) := by decide +kernel
theorem d_Md_prepared_45 : decode k_Md_prepared 45 = .ok (.iconst 0, 1) := by decide +kernel
theorem d_Md_prepared_46 : decode k_Md_prepared 46 = .ok (.iaload, 1) := by decide +kernel
theorem d_Md_prepared_47 : decode k_Md_prepared 47 = .ok (.if_icmp .ge 71, 3) := by decide +kernel
theorem d_Md_prepared_50 : decode k_Md_prepared 50 = .ok (.aload_n 0, 1) := by decide +kernel
theorem d_Md_prepared_51 : decode k_Md_prepared 51 = .ok (.getfield 89, 3) := by decide +kernel
theorem d_Md_prepared_54 : decode k_Md_prepared 54 = .ok (.iload_n 1, 1) := by decide +kernel
theorem d_Md_prepared_55 : decode k_Md_prepared 55 = .ok (.iaload, 1) := by decide +kernel
theorem d_Md_prepared_56 : decode k_Md_prepared 56 = .ok (.istore_n 2, 1) := by decide +kernel
theorem d_Md_prepared_57 : decode k_Md_prepared 57 = .ok (.iload_n 2, 1) := by decide +kernel
theorem d_Md_prepared_58 : decode k_Md_prepared 58 = .ok (.ifCond .lt 22, 3) := by decide +kernel
theorem d_Md_prepared_61 : decode k_Md_prepared 61 = .ok (.aload_n 0, 1) := by decide +kernel
theorem d_Md_prepared_62 : decode k_Md_prepared 62 = .ok (.getfield 77, 3) := by decide +kernel
theorem d_Md_prepared_65 : decode k_Md_prepared 65 = .ok (.iload_n 2, 1) := by decide +kernel
theorem d_Md_prepared_66 : decode k_Md_prepared 66 = .ok (.iaload, 1) := by decide +kernel
theorem d_Md_prepared_67 : decode k_Md_prepared 67 = .ok (.bipush 6, 2) := by decide +kernel
theorem d_Md_prepared_69 : decode k_Md_prepared 69 = .ok (.if_icmp .ne 11, 3) := by decide +kernel
theorem d_Md_prepared_72 : decode k_Md_prepared 72 = .ok (.aload_n 0, 1) := by decide +kernel
theorem d_Md_prepared_73 : decode k_Md_prepared 73 = .ok (.iload_n 1, 1) := by decide +kernel
theorem d_Md_prepared_74 : decode k_Md_prepared 74 = .ok (.invokevirtual 291, 3) := by decide +kernel
theorem d_Md_prepared_77 : decode k_Md_prepared 77 = .ok (.goto 4, 3) := by decide +kernel
theorem d_Md_prepared_80 : decode k_Md_prepared 80 = .ok (.iconst 0, 1) := by decide +kernel
theorem d_Md_prepared_81 : decode k_Md_prepared 81 = .ok (.istore_n 3, 1) := by decide +kernel
theorem d_Md_prepared_82 : decode k_Md_prepared 82 = .ok (.iload_n 3, 1) := by decide +kernel
theorem d_Md_prepared_83 : decode k_Md_prepared 83 = .ok (.ifCond .le 29, 3) := by decide +kernel
theorem d_Md_prepared_86 : decode k_Md_prepared 86 = .ok (.aload_n 0, 1) := by decide +kernel
theorem d_Md_prepared_87 : decode k_Md_prepared 87 = .ok (.getfield 129, 3) := by decide +kernel
theorem d_Md_prepared_90 : decode k_Md_prepared 90 = .ok (.bipush 22, 2) := by decide +kernel
theorem d_Md_prepared_92 : decode k_Md_prepared 92 = .ok (.iload_n 2, 1) := by decide +kernel
theorem d_Md_prepared_93 : decode k_Md_prepared 93 = .ok (.imul, 1) := by decide +kernel
theorem d_Md_prepared_94 : decode k_Md_prepared 94 = .ok (.iload_n 3, 1) := by decide +kernel
theorem d_Md_prepared_95 : decode k_Md_prepared 95 = .ok (.iadd, 1) := by decide +kernel
theorem d_Md_prepared_96 : decode k_Md_prepared 96 = .ok (.iaload, 1) := by decide +kernel
theorem d_Md_prepared_97 : decode k_Md_prepared 97 = .ok (.ifCond .ge 15, 3) := by decide +kernel
theorem d_Md_prepared_100 : decode k_Md_prepared 100 = .ok (.aload_n 0, 1) := by decide +kernel
theorem d_Md_prepared_101 : decode k_Md_prepared 101 = .ok (.getfield 129, 3) := by decide +kernel
theorem d_Md_prepared_104 : decode k_Md_prepared 104 = .ok (.bipush 22, 2) := by decide +kernel
theorem d_Md_prepared_106 : decode k_Md_prepared 106 = .ok (.iload_n 2, 1) := by decide +kernel
theorem d_Md_prepared_107 : decode k_Md_prepared 107 = .ok (.imul, 1) := by decide +kernel
theorem d_Md_prepared_108 : decode k_Md_prepared 108 = .ok (.iload_n 3, 1) := by decide +kernel
theorem d_Md_prepared_109 : decode k_Md_prepared 109 = .ok (.iadd, 1) := by decide +kernel
theorem d_Md_prepared_110 : decode k_Md_prepared 110 = .ok (.iload_n 1, 1) := by decide +kernel
theorem d_Md_prepared_111 : decode k_Md_prepared 111 = .ok (.iastore, 1) := by decide +kernel
theorem d_Md_prepared_112 : decode k_Md_prepared 112 = .ok (.iinc 1 1, 3) := by decide +kernel
theorem d_Md_prepared_115 : decode k_Md_prepared 115 = .ok (.goto (-75), 3) := by decide +kernel
theorem d_Md_prepared_118 : decode k_Md_prepared 118 = .ok (.iconst 0, 1) := by decide +kernel
theorem d_Md_prepared_119 : decode k_Md_prepared 119 = .ok (.istore_n 1, 1) := by decide +kernel
theorem d_Md_prepared_120 : decode k_Md_prepared 120 = .ok (.iload_n 1, 1) := by decide +kernel
theorem d_Md_prepared_121 : decode k_Md_prepared 121 = .ok (.aload_n 0, 1) := by decide +kernel
theorem d_Md_prepared_122 : decode k_Md_prepared 122 = .ok (.getfield 74, 3) := by decide +kernel
theorem d_Md_prepared_125 : decode k_Md_prepared 125 = .ok (.iconst 0, 1) := by decide +kernel
theorem d_Md_prepared_126 : decode k_Md_prepared 126 = .ok (.iaload, 1) := by decide +kernel
theorem d_Md_prepared_127 : decode k_Md_prepared 127 = .ok (.if_icmp .ge 20, 3) := by decide +kernel
theorem d_Md_prepared_130 : decode k_Md_prepared 130 = .ok (.aload_n 0, 1) := by decide +kernel
theorem d_Md_prepared_131 : decode k_Md_prepared 131 = .ok (.getfield 132, 3) := by decide +kernel
theorem d_Md_prepared_134 : decode k_Md_prepared 134 = .ok (.iload_n 1, 1) := by decide +kernel
theorem d_Md_prepared_135 : decode k_Md_prepared 135 = .ok (.aload_n 0, 1) := by decide +kernel
theorem d_Md_prepared_136 : decode k_Md_prepared 136 = .ok (.iload_n 1, 1) := by decide +kernel
theorem d_Md_prepared_137 : decode k_Md_prepared 137 = .ok (.invokevirtual 294, 3) := by decide +kernel
theorem d_Md_prepared_140 : decode k_Md_prepared 140 = .ok (.iastore, 1) := by decide +kernel
theorem d_Md_prepared_141 : decode k_Md_prepared 141 = .ok (.iinc 1 1, 3) := by decide +kernel
theorem d_Md_prepared_144 : decode k_Md_prepared 144 = .ok (.goto (-24), 3) := by decide +kernel
theorem d_Md_prepared_147 : decode k_Md_prepared 147 = .ok (.aload_n 0, 1) := by decide +kernel
theorem d_Md_prepared_148 : decode k_Md_prepared 148 = .ok (.iconst 0, 1) := by decide +kernel
theorem d_Md_prepared_149 : decode k_Md_prepared 149 = .ok (.putfield 297, 3) := by decide +kernel
theorem d_Md_prepared_152 : decode k_Md_prepared 152 = .ok (.iconst 0, 1) := by decide +kernel
theorem d_Md_prepared_153 : decode k_Md_prepared 153 = .ok (.istore_n 1, 1) := by decide +kernel
theorem d_Md_prepared_154 : decode k_Md_prepared 154 = .ok (.iload_n 1, 1) := by decide +kernel
theorem d_Md_prepared_155 : decode k_Md_prepared 155 = .ok (.aload_n 0, 1) := by decide +kernel
theorem d_Md_prepared_156 : decode k_Md_prepared 156 = .ok (.getfield 74, 3) := by decide +kernel
theorem d_Md_prepared_159 : decode k_Md_prepared 159 = .ok (.iconst 0, 1) := by decide +kernel
theorem d_Md_prepared_160 : decode k_Md_prepared 160 = .ok (.iaload, 1) := by decide +kernel
theorem d_Md_prepared_161 : decode k_Md_prepared 161 = .ok (.if_icmp .ge 16, 3) := by decide +kernel
theorem d_Md_prepared_164 : decode k_Md_prepared 164 = .ok (.aload_n 0, 1) := by decide +kernel
theorem d_Md_prepared_165 : decode k_Md_prepared 165 = .ok (.getfield 138, 3) := by decide +kernel
theorem d_Md_prepared_168 : decode k_Md_prepared 168 = .ok (.iload_n 1, 1) := by decide +kernel
theorem d_Md_prepared_169 : decode k_Md_prepared 169 = .ok (.iconst 0, 1) := by decide +kernel
theorem d_Md_prepared_170 : decode k_Md_prepared 170 = .ok (.bastore, 1) := by decide +kernel
theorem d_Md_prepared_171 : decode k_Md_prepared 171 = .ok (.iinc 1 1, 3) := by decide +kernel
theorem d_Md_prepared_174 : decode k_Md_prepared 174 = .ok (.goto (-20), 3) := by decide +kernel
theorem d_Md_prepared_177 : decode k_Md_prepared 177 = .ok (.iconst 0, 1) := by decide +kernel
theorem d_Md_prepared_178 : decode k_Md_prepared 178 = .ok (.istore_n 1, 1) := by decide +kernel
theorem d_Md_prepared_179 : decode k_Md_prepared 179 = .ok (.iload_n 1, 1) := by decide +kernel
theorem d_Md_prepared_180 : decode k_Md_prepared 180 = .ok (.aload_n 0, 1) := by decide +kernel
theorem d_Md_prepared_181 : decode k_Md_prepared 181 = .ok (.getfield 74, 3) := by decide +kernel
theorem d_Md_prepared_184 : decode k_Md_prepared 184 = .ok (.iconst 0, 1) := by decide +kernel
theorem d_Md_prepared_185 : decode k_Md_prepared 185 = .ok (.iaload, 1) := by decide +kernel
theorem d_Md_prepared_186 : decode k_Md_prepared 186 = .ok (.if_icmp .ge 71, 3) := by decide +kernel
theorem d_Md_prepared_189 : decode k_Md_prepared 189 = .ok (.iconst 0, 1) := by decide +kernel
theorem d_Md_prepared_190 : decode k_Md_prepared 190 = .ok (.istore_n 2, 1) := by decide +kernel
theorem d_Md_prepared_191 : decode k_Md_prepared 191 = .ok (.iload_n 2, 1) := by decide +kernel
theorem d_Md_prepared_192 : decode k_Md_prepared 192 = .ok (.aload_n 0, 1) := by decide +kernel
theorem d_Md_prepared_193 : decode k_Md_prepared 193 = .ok (.getfield 74, 3) := by decide +kernel
theorem d_Md_prepared_196 : decode k_Md_prepared 196 = .ok (.iconst 0, 1) := by decide +kernel
theorem d_Md_prepared_197 : decode k_Md_prepared 197 = .ok (.iaload, 1) := by decide +kernel
theorem d_Md_prepared_198 : decode k_Md_prepared 198 = .ok (.if_icmp .ge 53, 3) := by decide +kernel
theorem d_Md_prepared_201 : decode k_Md_prepared 201 = .ok (.aload_n 0, 1) := by decide +kernel
theorem d_Md_prepared_202 : decode k_Md_prepared 202 = .ok (.getfield 138, 3) := by decide +kernel
theorem d_Md_prepared_205 : decode k_Md_prepared 205 = .ok (.iload_n 2, 1) := by decide +kernel
theorem d_Md_prepared_206 : decode k_Md_prepared 206 = .ok (.baload, 1) := by decide +kernel
theorem d_Md_prepared_207 : decode k_Md_prepared 207 = .ok (.ifCond .ne 38, 3) := by decide +kernel
theorem d_Md_prepared_210 : decode k_Md_prepared 210 = .ok (.aload_n 0, 1) := by decide +kernel
theorem d_Md_prepared_211 : decode k_Md_prepared 211 = .ok (.iload_n 2, 1) := by decide +kernel
theorem d_Md_prepared_212 : decode k_Md_prepared 212 = .ok (.invokevirtual 300, 3) := by decide +kernel
theorem d_Md_prepared_215 : decode k_Md_prepared 215 = .ok (.ifCond .eq 30, 3) := by decide +kernel
theorem d_Md_prepared_218 : decode k_Md_prepared 218 = .ok (.aload_n 0, 1) := by decide +kernel
theorem d_Md_prepared_219 : decode k_Md_prepared 219 = .ok (.getfield 138, 3) := by decide +kernel
theorem d_Md_prepared_222 : decode k_Md_prepared 222 = .ok (.iload_n 2, 1) := by decide +kernel
theorem d_Md_prepared_223 : decode k_Md_prepared 223 = .ok (.iconst 1, 1) := by decide +kernel
theorem d_Md_prepared_224 : decode k_Md_prepared 224 = .ok (.bastore, 1) := by decide +kernel
theorem d_Md_prepared_225 : decode k_Md_prepared 225 = .ok (.aload_n 0, 1) := by decide +kernel
theorem d_Md_prepared_226 : decode k_Md_prepared 226 = .ok (.getfield 135, 3) := by decide +kernel
theorem d_Md_prepared_229 : decode k_Md_prepared 229 = .ok (.aload_n 0, 1) := by decide +kernel
theorem d_Md_prepared_230 : decode k_Md_prepared 230 = .ok (.getfield 297, 3) := by decide +kernel
theorem d_Md_prepared_233 : decode k_Md_prepared 233 = .ok (.iload_n 2, 1) := by decide +kernel
theorem d_Md_prepared_234 : decode k_Md_prepared 234 = .ok (.iastore, 1) := by decide +kernel
theorem d_Md_prepared_235 : decode k_Md_prepared 235 = .ok (.aload_n 0, 1) := by decide +kernel
theorem d_Md_prepared_236 : decode k_Md_prepared 236 = .ok (.dup, 1) := by decide +kernel
theorem d_Md_prepared_237 : decode k_Md_prepared 237 = .ok (.getfield 297, 3) := by decide +kernel
theorem d_Md_prepared_240 : decode k_Md_prepared 240 = .ok (.iconst 1, 1) := by decide +kernel
theorem d_Md_prepared_241 : decode k_Md_prepared 241 = .ok (.iadd, 1) := by decide +kernel
theorem d_Md_prepared_242 : decode k_Md_prepared 242 = .ok (.putfield 297, 3) := by decide +kernel
theorem d_Md_prepared_245 : decode k_Md_prepared 245 = .ok (.iinc 2 1, 3) := by decide +kernel
theorem d_Md_prepared_248 : decode k_Md_prepared 248 = .ok (.goto (-57), 3) := by decide +kernel
theorem d_Md_prepared_251 : decode k_Md_prepared 251 = .ok (.iinc 1 1, 3) := by decide +kernel
theorem d_Md_prepared_254 : decode k_Md_prepared 254 = .ok (.goto (-75), 3) := by decide +kernel
theorem d_Md_prepared_257 : decode k_Md_prepared 257 = .ok (.aload_n 0, 1) := by decide +kernel
theorem d_Md_prepared_258 : decode k_Md_prepared 258 = .ok (.getfield 297, 3) := by decide +kernel
theorem d_Md_prepared_261 : decode k_Md_prepared 261 = .ok (.aload_n 0, 1) := by decide +kernel
theorem d_Md_prepared_262 : decode k_Md_prepared 262 = .ok (.getfield 74, 3) := by decide +kernel
theorem d_Md_prepared_265 : decode k_Md_prepared 265 = .ok (.iconst 0, 1) := by decide +kernel
theorem d_Md_prepared_266 : decode k_Md_prepared 266 = .ok (.iaload, 1) := by decide +kernel
theorem d_Md_prepared_267 : decode k_Md_prepared 267 = .ok (.if_icmp .ne 7, 3) := by decide +kernel
theorem d_Md_prepared_270 : decode k_Md_prepared 270 = .ok (.iconst 1, 1) := by decide +kernel
theorem d_Md_prepared_271 : decode k_Md_prepared 271 = .ok (.goto 4, 3) := by decide +kernel
theorem d_Md_prepared_274 : decode k_Md_prepared 274 = .ok (.iconst 0, 1) := by decide +kernel
theorem d_Md_prepared_275 : decode k_Md_prepared 275 = .ok (.ireturn, 1) := by decide +kernel
theorem gw1345 : (Jvm.Cond.methodLink "SchemaDeskModel" (291 : Nat) ({ cls := "SchemaDeskModel", name := "wordOf", desc := "(I)I" } : Jvm.MethodName)) ∈ GW := gw_t6 (List.mem_of_getElem? (i := 145) rfl) rfl
theorem gw1347 : (Jvm.Cond.instanceMethod ({ cls := "SchemaDeskModel", name := "wordOf", desc := "(I)I" } : Jvm.MethodName)) ∈ GW := gw_t6 (List.mem_of_getElem? (i := 147) rfl) rfl
theorem gs64 : Cond.selects "SchemaDeskModel" ⟨"SchemaDeskModel", "wordOf", "(I)I"⟩ ⟨"SchemaDeskModel", "wordOf", "(I)I"⟩ ∈ GW := gw_p5 (q := (⟨"SchemaDeskModel", "wordOf", "(I)I"⟩, 46)) (List.mem_of_getElem? (i := 0) rfl)
theorem gw1348 : (Jvm.Cond.code ({ cls := "SchemaDeskModel", name := "wordOf", desc := "(I)I" } : Jvm.MethodName) prog_12_method_42_code (5 : Nat) (Option.some Jvm.ClassFile.FieldType.int)) ∈ GW := gw_t6 (List.mem_of_getElem? (i := 148) rfl) rfl
theorem gw1092 : (Jvm.Cond.fieldLink "SchemaDeskModel" (297 : Nat) "SchemaDeskModel" "ordered" "I") ∈ GW := gw_t5 (List.mem_of_getElem? (i := 132) rfl) rfl
theorem gw1349 : (Jvm.Cond.methodLink "SchemaDeskModel" (294 : Nat) ({ cls := "SchemaDeskModel", name := "targetOf", desc := "(I)I" } : Jvm.MethodName)) ∈ GW := gw_t6 (List.mem_of_getElem? (i := 149) rfl) rfl
theorem gw1351 : (Jvm.Cond.instanceMethod ({ cls := "SchemaDeskModel", name := "targetOf", desc := "(I)I" } : Jvm.MethodName)) ∈ GW := gw_t6 (List.mem_of_getElem? (i := 151) rfl) rfl
theorem gs65 : Cond.selects "SchemaDeskModel" ⟨"SchemaDeskModel", "targetOf", "(I)I"⟩ ⟨"SchemaDeskModel", "targetOf", "(I)I"⟩ ∈ GW := gw_p5 (q := (⟨"SchemaDeskModel", "targetOf", "(I)I"⟩, 46)) (List.mem_of_getElem? (i := 1) rfl)
theorem gw1352 : (Jvm.Cond.code ({ cls := "SchemaDeskModel", name := "targetOf", desc := "(I)I" } : Jvm.MethodName) prog_12_method_43_code (4 : Nat) (Option.some Jvm.ClassFile.FieldType.int)) ∈ GW := gw_t6 (List.mem_of_getElem? (i := 152) rfl) rfl
theorem gw1353 : (Jvm.Cond.methodLink "SchemaDeskModel" (300 : Nat) ({ cls := "SchemaDeskModel", name := "needsNothing", desc := "(I)Z" } : Jvm.MethodName)) ∈ GW := gw_t6 (List.mem_of_getElem? (i := 153) rfl) rfl
theorem gw1355 : (Jvm.Cond.instanceMethod ({ cls := "SchemaDeskModel", name := "needsNothing", desc := "(I)Z" } : Jvm.MethodName)) ∈ GW := gw_t6 (List.mem_of_getElem? (i := 155) rfl) rfl
theorem gs66 : Cond.selects "SchemaDeskModel" ⟨"SchemaDeskModel", "needsNothing", "(I)Z"⟩ ⟨"SchemaDeskModel", "needsNothing", "(I)Z"⟩ ∈ GW := gw_p5 (q := (⟨"SchemaDeskModel", "needsNothing", "(I)Z"⟩, 46)) (List.mem_of_getElem? (i := 2) rfl)
theorem gw1356 : (Jvm.Cond.code ({ cls := "SchemaDeskModel", name := "needsNothing", desc := "(I)Z" } : Jvm.MethodName) prog_12_method_45_code (6 : Nat) (Option.some Jvm.ClassFile.FieldType.boolean)) ∈ GW := gw_t6 (List.mem_of_getElem? (i := 156) rfl) rfl
theorem gw1091 : (Jvm.Cond.fieldLink "SchemaDeskModel" (135 : Nat) "SchemaDeskModel" "order" "[I") ∈ GW := gw_t5 (List.mem_of_getElem? (i := 131) rfl) rfl
def wb_Md_prepared_0 (F : Nat → Int32 → Int32 → Int32 → Sg → Prop) (post : Int32 → Sg → Prop) (σ : Sg) : Prop := (wq_Md_read (1 : Int32) σ (fun σ1 => (wq_Md_read (0 : Int32) σ1 (fun σ2 => F 1 (0 : Int32) 0 0 σ2))))
def wb_Md_prepared_1 (F : Nat → Int32 → Int32 → Int32 → Sg → Prop) (post : Int32 → Sg → Prop) (x1 : Int32) (σ : Sg) : Prop := (vp_in (0 : Int32) 2 ∧ ((((22 : Int32) * (σ.1 58 ((0 : Int32) : Int32).toNatClampNeg)) ≤ x1 → F 2 (0 : Int32) 0 0 σ) ∧ (¬ ((22 : Int32) * (σ.1 58 ((0 : Int32) : Int32).toNatClampNeg)) ≤ x1 → (vp_in x1 3520 ∧ (∀ σ1, σ1 = si σ 76 x1.toNatClampNeg (-1 : Int32) → F 1 (x1 + 1) 0 0 σ1)))))
def wb_Md_prepared_2 (F : Nat → Int32 → Int32 → Int32 → Sg → Prop) (post : Int32 → Sg → Prop) (x1 : Int32) (σ : Sg) : Prop := (vp_in (0 : Int32) 2 ∧ (((σ.1 58 ((0 : Int32) : Int32).toNatClampNeg) ≤ x1 → F 3 (0 : Int32) 0 0 σ) ∧ (¬ (σ.1 58 ((0 : Int32) : Int32).toNatClampNeg) ≤ x1 → (vp_in x1 240 ∧ (((σ.1 63 x1.toNatClampNeg) < 0 → F 4 x1 (σ.1 63 x1.toNatClampNeg) 0 σ) ∧ (¬ (σ.1 63 x1.toNatClampNeg) < 0 → (vp_in (σ.1 63 x1.toNatClampNeg) 240 ∧ ((¬ (σ.1 59 ((σ.1 63 x1.toNatClampNeg) : Int32).toNatClampNeg) = (6 : Int32) → F 4 x1 (σ.1 63 x1.toNatClampNeg) 0 σ) ∧ ((σ.1 59 ((σ.1 63 x1.toNatClampNeg) : Int32).toNatClampNeg) = (6 : Int32) → (wq_Md_wordOf x1 σ (fun r1 σ1 => F 5 x1 (σ.1 63 x1.toNatClampNeg) r1 σ1)))))))))))
def wb_Md_prepared_3 (F : Nat → Int32 → Int32 → Int32 → Sg → Prop) (post : Int32 → Sg → Prop) (x1 : Int32) (σ : Sg) : Prop := (vp_in (0 : Int32) 2 ∧ (((σ.1 58 ((0 : Int32) : Int32).toNatClampNeg) ≤ x1 → (∀ σ1, σ1 = si σ 54 28 (0 : Int32) → F 6 (0 : Int32) 0 0 σ1)) ∧ (¬ (σ.1 58 ((0 : Int32) : Int32).toNatClampNeg) ≤ x1 → (wq_Md_targetOf x1 σ (fun r1 σ1 => (vp_in x1 160 ∧ (∀ σ2, σ2 = si σ1 77 x1.toNatClampNeg r1 → F 3 (x1 + 1) 0 0 σ2)))))))
def wb_Md_prepared_4 (F : Nat → Int32 → Int32 → Int32 → Sg → Prop) (post : Int32 → Sg → Prop) (x1 : Int32) (x2 : Int32) (σ : Sg) : Prop := F 5 x1 x2 (0 : Int32) σ
def wb_Md_prepared_5 (F : Nat → Int32 → Int32 → Int32 → Sg → Prop) (post : Int32 → Sg → Prop) (x1 : Int32) (x2 : Int32) (x3 : Int32) (σ : Sg) : Prop := ((x3 ≤ 0 → F 2 (x1 + 1) 0 0 σ) ∧ (¬ x3 ≤ 0 → (vp_in (((22 : Int32) * x2) + x3) 3520 ∧ ((0 ≤ (σ.1 76 ((((22 : Int32) * x2) + x3) : Int32).toNatClampNeg) → F 2 (x1 + 1) 0 0 σ) ∧ (¬ 0 ≤ (σ.1 76 ((((22 : Int32) * x2) + x3) : Int32).toNatClampNeg) → (vp_in (((22 : Int32) * x2) + x3) 3520 ∧ (∀ σ1, σ1 = si σ 76 ((((22 : Int32) * x2) + x3) : Int32).toNatClampNeg x1 → F 2 (x1 + 1) 0 0 σ1)))))))
def wb_Md_prepared_6 (F : Nat → Int32 → Int32 → Int32 → Sg → Prop) (post : Int32 → Sg → Prop) (x1 : Int32) (σ : Sg) : Prop := (vp_in (0 : Int32) 2 ∧ (((σ.1 58 ((0 : Int32) : Int32).toNatClampNeg) ≤ x1 → F 7 (0 : Int32) 0 0 σ) ∧ (¬ (σ.1 58 ((0 : Int32) : Int32).toNatClampNeg) ≤ x1 → (vp_in x1 160 ∧ (∀ σ1, σ1 = si σ 79 x1.toNatClampNeg (vp_nar .boolean (0 : Int32)) → F 6 (x1 + 1) 0 0 σ1)))))
def wb_Md_prepared_7 (F : Nat → Int32 → Int32 → Int32 → Sg → Prop) (post : Int32 → Sg → Prop) (x1 : Int32) (σ : Sg) : Prop := (vp_in (0 : Int32) 2 ∧ (((σ.1 58 ((0 : Int32) : Int32).toNatClampNeg) ≤ x1 → (vp_in (0 : Int32) 2 ∧ ((¬ (σ.1 54 28) = (σ.1 58 ((0 : Int32) : Int32).toNatClampNeg) → (narrow .boolean (.int (0 : Int32)) = .int (0 : Int32) ∧ post (0 : Int32) σ)) ∧ ((σ.1 54 28) = (σ.1 58 ((0 : Int32) : Int32).toNatClampNeg) → (narrow .boolean (.int (1 : Int32)) = .int (1 : Int32) ∧ post (1 : Int32) σ))))) ∧ (¬ (σ.1 58 ((0 : Int32) : Int32).toNatClampNeg) ≤ x1 → F 8 x1 (0 : Int32) 0 σ)))
def wb_Md_prepared_8 (F : Nat → Int32 → Int32 → Int32 → Sg → Prop) (post : Int32 → Sg → Prop) (x1 : Int32) (x2 : Int32) (σ : Sg) : Prop := (vp_in (0 : Int32) 2 ∧ (((σ.1 58 ((0 : Int32) : Int32).toNatClampNeg) ≤ x2 → F 7 (x1 + 1) 0 0 σ) ∧ (¬ (σ.1 58 ((0 : Int32) : Int32).toNatClampNeg) ≤ x2 → (vp_in x2 160 ∧ ((¬ (σ.1 79 x2.toNatClampNeg) = 0 → F 8 x1 (x2 + 1) 0 σ) ∧ ((σ.1 79 x2.toNatClampNeg) = 0 → (wq_Md_needsNothing x2 σ (fun r1 σ1 => ((r1 = 0 → F 8 x1 (x2 + 1) 0 σ1) ∧ (¬ r1 = 0 → (vp_in x2 160 ∧ (∀ σ2, σ2 = si σ1 79 x2.toNatClampNeg (vp_nar .boolean (1 : Int32)) → (vp_in (σ2.1 54 28) 160 ∧ (∀ σ3, σ3 = si σ2 78 ((σ2.1 54 28) : Int32).toNatClampNeg x2 → (∀ σ4, σ4 = si σ3 54 28 ((σ3.1 54 28) + (1 : Int32)) → F 8 x1 (x2 + 1) 0 σ4)))))))))))))))
def wp_Md_prepared (post : Int32 → Sg → Prop) : Nat → Nat → Int32 → Int32 → Int32 → Sg → Prop
  | 0, _, _, _, _, _ => False
  | n + 1, k, x1, x2, x3, σ => match k with
    | 0 => wb_Md_prepared_0 (wp_Md_prepared post n) post σ
    | 1 => wb_Md_prepared_1 (wp_Md_prepared post n) post x1 σ
    | 2 => wb_Md_prepared_2 (wp_Md_prepared post n) post x1 σ
    | 3 => wb_Md_prepared_3 (wp_Md_prepared post n) post x1 σ
    | 4 => wb_Md_prepared_4 (wp_Md_prepared post n) post x1 x2 σ
    | 5 => wb_Md_prepared_5 (wp_Md_prepared post n) post x1 x2 x3 σ
    | 6 => wb_Md_prepared_6 (wp_Md_prepared post n) post x1 σ
    | 7 => wb_Md_prepared_7 (wp_Md_prepared post n) post x1 σ
    | 8 => wb_Md_prepared_8 (wp_Md_prepared post n) post x1 x2 σ
    | _ => False
def wq_Md_prepared (σ : Sg) (post : Int32 → Sg → Prop) : Prop := ∃ n, wp_Md_prepared post n 0 0 0 0 σ
def J_Md_prepared_1 (p : Program) (l : Launch) (e : Env) (s : State) (m : MethodId) (args : Array Value) (below : List Frame) (meth : Method) (c : Code) (D : va_G) (g : Gm) (A : Nat → Prop) (post : Int32 → Sg → Prop) (F : Nat → Int32 → Int32 → Int32 → Sg → Prop) : Prop := ∀ (x1 : Int32) (σ : Sg) (H : Heap) (locs : List Loc) (ls : Array Slot), lv_has ls 4 [(0, .ref (g.1 54)), (1, .int x1)] → Wst D vwCl (WS g) A s σ H locs → F 1 x1 0 0 σ → W p l e { frames := 6, cells := 0, slots := 0, locals := 139 } s m args below meth c H locs 0 0 (MQ below (QiW D vwCl (WS g) post A) args s 0 0 A) (F0 m 12 ls [])
def J_Md_prepared_2 (p : Program) (l : Launch) (e : Env) (s : State) (m : MethodId) (args : Array Value) (below : List Frame) (meth : Method) (c : Code) (D : va_G) (g : Gm) (A : Nat → Prop) (post : Int32 → Sg → Prop) (F : Nat → Int32 → Int32 → Int32 → Sg → Prop) : Prop := ∀ (x1 : Int32) (σ : Sg) (H : Heap) (locs : List Loc) (ls : Array Slot), lv_has ls 4 [(0, .ref (g.1 54)), (1, .int x1)] → Wst D vwCl (WS g) A s σ H locs → F 2 x1 0 0 σ → W p l e { frames := 6, cells := 0, slots := 0, locals := 139 } s m args below meth c H locs 0 0 (MQ below (QiW D vwCl (WS g) post A) args s 0 0 A) (F0 m 40 ls [])
def J_Md_prepared_3 (p : Program) (l : Launch) (e : Env) (s : State) (m : MethodId) (args : Array Value) (below : List Frame) (meth : Method) (c : Code) (D : va_G) (g : Gm) (A : Nat → Prop) (post : Int32 → Sg → Prop) (F : Nat → Int32 → Int32 → Int32 → Sg → Prop) : Prop := ∀ (x1 : Int32) (σ : Sg) (H : Heap) (locs : List Loc) (ls : Array Slot), lv_has ls 4 [(0, .ref (g.1 54)), (1, .int x1)] → Wst D vwCl (WS g) A s σ H locs → F 3 x1 0 0 σ → W p l e { frames := 6, cells := 0, slots := 0, locals := 139 } s m args below meth c H locs 0 0 (MQ below (QiW D vwCl (WS g) post A) args s 0 0 A) (F0 m 120 ls [])
def J_Md_prepared_4 (p : Program) (l : Launch) (e : Env) (s : State) (m : MethodId) (args : Array Value) (below : List Frame) (meth : Method) (c : Code) (D : va_G) (g : Gm) (A : Nat → Prop) (post : Int32 → Sg → Prop) (F : Nat → Int32 → Int32 → Int32 → Sg → Prop) : Prop := ∀ (x1 : Int32) (x2 : Int32) (σ : Sg) (H : Heap) (locs : List Loc) (ls : Array Slot), lv_has ls 4 [(0, .ref (g.1 54)), (1, .int x1), (2, .int x2)] → Wst D vwCl (WS g) A s σ H locs → F 4 x1 x2 0 σ → W p l e { frames := 6, cells := 0, slots := 0, locals := 139 } s m args below meth c H locs 0 0 (MQ below (QiW D vwCl (WS g) post A) args s 0 0 A) (F0 m 80 ls [])
def J_Md_prepared_5 (p : Program) (l : Launch) (e : Env) (s : State) (m : MethodId) (args : Array Value) (below : List Frame) (meth : Method) (c : Code) (D : va_G) (g : Gm) (A : Nat → Prop) (post : Int32 → Sg → Prop) (F : Nat → Int32 → Int32 → Int32 → Sg → Prop) : Prop := ∀ (x1 : Int32) (x2 : Int32) (x3 : Int32) (σ : Sg) (H : Heap) (locs : List Loc) (ls : Array Slot), lv_has ls 4 [(0, .ref (g.1 54)), (1, .int x1), (2, .int x2), (3, .int x3)] → Wst D vwCl (WS g) A s σ H locs → F 5 x1 x2 x3 σ → W p l e { frames := 6, cells := 0, slots := 0, locals := 139 } s m args below meth c H locs 0 0 (MQ below (QiW D vwCl (WS g) post A) args s 0 0 A) (F0 m 82 ls [])
def J_Md_prepared_6 (p : Program) (l : Launch) (e : Env) (s : State) (m : MethodId) (args : Array Value) (below : List Frame) (meth : Method) (c : Code) (D : va_G) (g : Gm) (A : Nat → Prop) (post : Int32 → Sg → Prop) (F : Nat → Int32 → Int32 → Int32 → Sg → Prop) : Prop := ∀ (x1 : Int32) (σ : Sg) (H : Heap) (locs : List Loc) (ls : Array Slot), lv_has ls 4 [(0, .ref (g.1 54)), (1, .int x1)] → Wst D vwCl (WS g) A s σ H locs → F 6 x1 0 0 σ → W p l e { frames := 6, cells := 0, slots := 0, locals := 139 } s m args below meth c H locs 0 0 (MQ below (QiW D vwCl (WS g) post A) args s 0 0 A) (F0 m 154 ls [])
def J_Md_prepared_7 (p : Program) (l : Launch) (e : Env) (s : State) (m : MethodId) (args : Array Value) (below : List Frame) (meth : Method) (c : Code) (D : va_G) (g : Gm) (A : Nat → Prop) (post : Int32 → Sg → Prop) (F : Nat → Int32 → Int32 → Int32 → Sg → Prop) : Prop := ∀ (x1 : Int32) (σ : Sg) (H : Heap) (locs : List Loc) (ls : Array Slot), lv_has ls 4 [(0, .ref (g.1 54)), (1, .int x1)] → Wst D vwCl (WS g) A s σ H locs → F 7 x1 0 0 σ → W p l e { frames := 6, cells := 0, slots := 0, locals := 139 } s m args below meth c H locs 0 0 (MQ below (QiW D vwCl (WS g) post A) args s 0 0 A) (F0 m 179 ls [])
def J_Md_prepared_8 (p : Program) (l : Launch) (e : Env) (s : State) (m : MethodId) (args : Array Value) (below : List Frame) (meth : Method) (c : Code) (D : va_G) (g : Gm) (A : Nat → Prop) (post : Int32 → Sg → Prop) (F : Nat → Int32 → Int32 → Int32 → Sg → Prop) : Prop := ∀ (x1 : Int32) (x2 : Int32) (σ : Sg) (H : Heap) (locs : List Loc) (ls : Array Slot), lv_has ls 4 [(0, .ref (g.1 54)), (1, .int x1), (2, .int x2)] → Wst D vwCl (WS g) A s σ H locs → F 8 x1 x2 0 σ → W p l e { frames := 6, cells := 0, slots := 0, locals := 139 } s m args below meth c H locs 0 0 (MQ below (QiW D vwCl (WS g) post A) args s 0 0 A) (F0 m 191 ls [])
set_option maxRecDepth 100000 in
set_option maxHeartbeats 4000000 in
theorem b_Md_prepared_0 {p : Program} {l : Launch} {e : Env} {s : State} {m : MethodId} {args : Array Value} {below : List Frame} {meth : Method} {c : Code} {D : va_G} {g : Gm} {A : Nat → Prop} {post : Int32 → Sg → Prop} {F : Nat → Int32 → Int32 → Int32 → Sg → Prop} (C : kC p s m args meth c k_Md_prepared 4 (some .boolean) GW R_Md D vwCl g (Zk g) A) (j1 : J_Md_prepared_1 p l e s m args below meth c D g A post F) (σ : Sg) (H : Heap) (locs : List Loc) (ls : Array Slot) (hl : lv_has ls 4 [(0, .ref (g.1 54))]) (hst : Wst D vwCl (WS g) A s σ H locs) (h : wb_Md_prepared_0 F post σ) : W p l e { frames := 6, cells := 0, slots := 0, locals := 139 } s m args below meth c H locs 0 0 (MQ below (QiW D vwCl (WS g) post A) args s 0 0 A) (F0 m 0 ls []) := by
  obtain ⟨hx, hb, hr, hml, hown, hts, hlocks, hK, hZ, hA⟩ := C
  unfold wb_Md_prepared_0 at h
  refine lv_aload_n hx hb d_Md_prepared_0 rfl (lv_at hl 0 rfl) ?_
  refine lv_iconst (v := (1 : Int32)) hx hb d_Md_prepared_1 (by decide) ?_
  refine kw_callv (va_runV (As := [.int (1 : Int32)]) (rest := []) (b := g.1 54) ⟨hx, hb, hml, hown, hts⟩ (c_Md_read l (1 : Int32) h) (cwV 1 hts (gd_v gw1252 gw1254 gs47 gw15 gw1255) rfl rfl rfl (by decide +kernel) ⟨Nat.le_of_ble_eq_true rfl, Nat.le_of_ble_eq_true rfl⟩) ⟨kw_blind (Zk_ok g), va_recv hK hst.1 rfl (WS_o54 g σ), kw_pre (Zk_ok g) hK hZ hA hst⟩ rfl rfl hl.1 rfl (lv_room (Nat.le_of_ble_eq_true rfl)) d_Md_prepared_2 ⟨Nat.le_of_ble_eq_true rfl, Nat.le_of_ble_eq_true rfl⟩) hst hA (fun σ1 H locs h hst => ?_)
  refine lv_aload_n hx hb d_Md_prepared_5 rfl (lv_at hl 0 rfl) ?_
  refine lv_iconst (v := (0 : Int32)) hx hb d_Md_prepared_6 (by decide) ?_
  refine kw_callv (va_runV (As := [.int (0 : Int32)]) (rest := []) (b := g.1 54) ⟨hx, hb, hml, hown, hts⟩ (c_Md_read l (0 : Int32) h) (cwV 1 hts (gd_v gw1252 gw1254 gs47 gw15 gw1255) rfl rfl rfl (by decide +kernel) ⟨Nat.le_of_ble_eq_true rfl, Nat.le_of_ble_eq_true rfl⟩) ⟨kw_blind (Zk_ok g), va_recv hK hst.1 rfl (WS_o54 g σ1), kw_pre (Zk_ok g) hK hZ hA hst⟩ rfl rfl hl.1 rfl (lv_room (Nat.le_of_ble_eq_true rfl)) d_Md_prepared_7 ⟨Nat.le_of_ble_eq_true rfl, Nat.le_of_ble_eq_true rfl⟩) hst hA (fun σ2 H locs h hst => ?_)
  refine lv_iconst (v := (0 : Int32)) hx hb d_Md_prepared_10 (by decide) ?_
  refine lv_istore_n hx hb d_Md_prepared_11 rfl hl (by decide) rfl (fun ls hl => ?_)
  have hl : lv_has ls 4 [(1, .int (0 : Int32)), (0, .ref (g.1 54))] := hl
  exact j1 (0 : Int32) σ2 _ _ _ (lv_sub hl [1, 0] rfl) hst h
set_option maxRecDepth 100000 in
set_option maxHeartbeats 4000000 in
theorem b_Md_prepared_1 {p : Program} {l : Launch} {e : Env} {s : State} {m : MethodId} {args : Array Value} {below : List Frame} {meth : Method} {c : Code} {D : va_G} {g : Gm} {A : Nat → Prop} {post : Int32 → Sg → Prop} {F : Nat → Int32 → Int32 → Int32 → Sg → Prop} (C : kC p s m args meth c k_Md_prepared 4 (some .boolean) GW R_Md D vwCl g (Zk g) A) (j1 : J_Md_prepared_1 p l e s m args below meth c D g A post F) (j2 : J_Md_prepared_2 p l e s m args below meth c D g A post F) (x1 : Int32) (σ : Sg) (H : Heap) (locs : List Loc) (ls : Array Slot) (hl : lv_has ls 4 [(0, .ref (g.1 54)), (1, .int x1)]) (hst : Wst D vwCl (WS g) A s σ H locs) (h : wb_Md_prepared_1 F post x1 σ) : W p l e { frames := 6, cells := 0, slots := 0, locals := 139 } s m args below meth c H locs 0 0 (MQ below (QiW D vwCl (WS g) post A) args s 0 0 A) (F0 m 12 ls []) := by
  obtain ⟨hx, hb, hr, hml, hown, hts, hlocks, hK, hZ, hA⟩ := C
  unfold wb_Md_prepared_1 at h
  refine lv_iload_n hx hb d_Md_prepared_12 rfl (lv_at hl 1 rfl) ?_
  refine lv_bipush (v := (22 : Int32)) hx hb d_Md_prepared_13 (by decide) ?_
  refine lv_aload_n hx hb d_Md_prepared_15 rfl (lv_at hl 0 rfl) ?_
  refine va_get (D := D) (ci := 10) (C := R_Md) (T := T_Md) (N := 46) hx hb hts in_Md hown hK hst.1 54 (WS_o54 g σ) rfl 4 (by decide) (hts _ gw1068) (fun _ h9 => h9) rfl d_Md_prepared_16 ?_
  refine lv_iconst (v := (0 : Int32)) hx hb d_Md_prepared_19 (by decide) ?_
  obtain ⟨hi, h⟩ := h
  refine va_iald hx hb hK hst.1 58 0 (WS_a58 g σ) rfl hi d_Md_prepared_20 ?_
  refine lv_imul hx hb d_Md_prepared_21 ?_
  refine lv_icmp_ge (tgt := 38) hx hb d_Md_prepared_22 (by decide) (fun hc => ?_) (fun hc => ?_)
  · replace h := h.1 hc
    refine lv_iconst (v := (0 : Int32)) hx hb d_Md_prepared_38 (by decide) ?_
    refine lv_istore_n hx hb d_Md_prepared_39 rfl hl (by decide) rfl (fun ls hl => ?_)
    have hl : lv_has ls 4 [(1, .int (0 : Int32)), (0, .ref (g.1 54))] := hl
    exact j2 (0 : Int32) σ _ _ _ (lv_sub hl [1, 0] rfl) hst h
  · replace h := h.2 hc
    refine lv_aload_n hx hb d_Md_prepared_25 rfl (lv_at hl 0 rfl) ?_
    refine va_get (D := D) (ci := 10) (C := R_Md) (T := T_Md) (N := 46) hx hb hts in_Md hown hK hst.1 54 (WS_o54 g σ) rfl 25 (by decide) (hts _ gw1089) (fun _ h9 => h9) rfl d_Md_prepared_26 ?_
    refine lv_iload_n hx hb d_Md_prepared_29 rfl (lv_at hl 1 rfl) ?_
    refine lv_iconst (v := (-1 : Int32)) hx hb d_Md_prepared_30 (by decide) ?_
    obtain ⟨hi, h⟩ := h
    refine kw_iast hx hb hK hst 76 (WS_a76 g σ) hi (WS_s76 g σ _ _) d_Md_prepared_31 (fun σ1 H locs e1 hst => ?_)
    replace h := h σ1 e1
    refine lv_iinc (k := 1) (v := (x1 + 1)) hx hb d_Md_prepared_32 hl rfl (kw_inc _ (by decide)) (by decide) rfl (fun ls hl => ?_)
    have hl : lv_has ls 4 [(1, .int (x1 + 1)), (0, .ref (g.1 54))] := hl
    refine lv_goto (tgt := 12) hx hb d_Md_prepared_35 (by decide) ?_
    exact j1 (x1 + 1) σ1 _ _ _ (lv_sub hl [1, 0] rfl) hst h
set_option maxRecDepth 100000 in
set_option maxHeartbeats 4000000 in
theorem b_Md_prepared_2 {p : Program} {l : Launch} {e : Env} {s : State} {m : MethodId} {args : Array Value} {below : List Frame} {meth : Method} {c : Code} {D : va_G} {g : Gm} {A : Nat → Prop} {post : Int32 → Sg → Prop} {F : Nat → Int32 → Int32 → Int32 → Sg → Prop} (C : kC p s m args meth c k_Md_prepared 4 (some .boolean) GW R_Md D vwCl g (Zk g) A) (j3 : J_Md_prepared_3 p l e s m args below meth c D g A post F) (j4 : J_Md_prepared_4 p l e s m args below meth c D g A post F) (j5 : J_Md_prepared_5 p l e s m args below meth c D g A post F) (x1 : Int32) (σ : Sg) (H : Heap) (locs : List Loc) (ls : Array Slot) (hl : lv_has ls 4 [(0, .ref (g.1 54)), (1, .int x1)]) (hst : Wst D vwCl (WS g) A s σ H locs) (h : wb_Md_prepared_2 F post x1 σ) : W p l e { frames := 6, cells := 0, slots := 0, locals := 139 } s m args below meth c H locs 0 0 (MQ below (QiW D vwCl (WS g) post A) args s 0 0 A) (F0 m 40 ls []) := by
  obtain ⟨hx, hb, hr, hml, hown, hts, hlocks, hK, hZ, hA⟩ := C
  unfold wb_Md_prepared_2 at h
  refine lv_iload_n hx hb d_Md_prepared_40 rfl (lv_at hl 1 rfl) ?_
  refine lv_aload_n hx hb d_Md_prepared_41 rfl (lv_at hl 0 rfl) ?_
  refine va_get (D := D) (ci := 10) (C := R_Md) (T := T_Md) (N := 46) hx hb hts in_Md hown hK hst.1 54 (WS_o54 g σ) rfl 4 (by decide) (hts _ gw1068) (fun _ h9 => h9) rfl d_Md_prepared_42 ?_
  refine lv_iconst (v := (0 : Int32)) hx hb d_Md_prepared_45 (by decide) ?_
  obtain ⟨hi, h⟩ := h
  refine va_iald hx hb hK hst.1 58 0 (WS_a58 g σ) rfl hi d_Md_prepared_46 ?_
  refine lv_icmp_ge (tgt := 118) hx hb d_Md_prepared_47 (by decide) (fun hc => ?_) (fun hc => ?_)
  · replace h := h.1 hc
    refine lv_iconst (v := (0 : Int32)) hx hb d_Md_prepared_118 (by decide) ?_
    refine lv_istore_n hx hb d_Md_prepared_119 rfl hl (by decide) rfl (fun ls hl => ?_)
    have hl : lv_has ls 4 [(1, .int (0 : Int32)), (0, .ref (g.1 54))] := hl
    exact j3 (0 : Int32) σ _ _ _ (lv_sub hl [1, 0] rfl) hst h
  · replace h := h.2 hc
    refine lv_aload_n hx hb d_Md_prepared_50 rfl (lv_at hl 0 rfl) ?_
    refine va_get (D := D) (ci := 10) (C := R_Md) (T := T_Md) (N := 46) hx hb hts in_Md hown hK hst.1 54 (WS_o54 g σ) rfl 9 (by decide) (hts _ gw1073) (fun _ h9 => h9) rfl d_Md_prepared_51 ?_
    refine lv_iload_n hx hb d_Md_prepared_54 rfl (lv_at hl 1 rfl) ?_
    obtain ⟨hi, h⟩ := h
    refine va_iald hx hb hK hst.1 63 0 (WS_a63 g σ) rfl hi d_Md_prepared_55 ?_
    refine lv_istore_n hx hb d_Md_prepared_56 rfl hl (by decide) rfl (fun ls hl => ?_)
    have hl : lv_has ls 4 [(2, .int (σ.1 63 x1.toNatClampNeg)), (0, .ref (g.1 54)), (1, .int x1)] := hl
    refine lv_iload_n hx hb d_Md_prepared_57 rfl (lv_at hl 0 rfl) ?_
    refine lv_if_lt (tgt := 80) hx hb d_Md_prepared_58 (by decide) (fun hc => ?_) (fun hc => ?_)
    · replace h := h.1 hc
      exact j4 x1 (σ.1 63 x1.toNatClampNeg) σ _ _ _ (lv_sub hl [1, 2, 0] rfl) hst h
    · replace h := h.2 hc
      refine lv_aload_n hx hb d_Md_prepared_61 rfl (lv_at hl 1 rfl) ?_
      refine va_get (D := D) (ci := 10) (C := R_Md) (T := T_Md) (N := 46) hx hb hts in_Md hown hK hst.1 54 (WS_o54 g σ) rfl 5 (by decide) (hts _ gw1069) (fun _ h9 => h9) rfl d_Md_prepared_62 ?_
      refine lv_iload_n hx hb d_Md_prepared_65 rfl (lv_at hl 0 rfl) ?_
      obtain ⟨hi, h⟩ := h
      refine va_iald hx hb hK hst.1 59 0 (WS_a59 g σ) rfl hi d_Md_prepared_66 ?_
      refine lv_bipush (v := (6 : Int32)) hx hb d_Md_prepared_67 (by decide) ?_
      refine lv_icmp_ne (tgt := 80) hx hb d_Md_prepared_69 (by decide) (fun hc => ?_) (fun hc => ?_)
      · replace h := h.1 hc
        exact j4 x1 (σ.1 63 x1.toNatClampNeg) σ _ _ _ (lv_sub hl [1, 2, 0] rfl) hst h
      · replace h := h.2 hc
        refine lv_aload_n hx hb d_Md_prepared_72 rfl (lv_at hl 1 rfl) ?_
        refine lv_iload_n hx hb d_Md_prepared_73 rfl (lv_at hl 2 rfl) ?_
        refine kw_calli (va_runV (As := [.int x1]) (rest := []) (b := g.1 54) ⟨hx, hb, hml, hown, hts⟩ (c_Md_wordOf l x1 h) (cwV 1 hts (gd_v gw1345 gw1347 gs64 gw15 gw1348) rfl rfl rfl (by decide +kernel) ⟨Nat.le_of_ble_eq_true rfl, Nat.le_of_ble_eq_true rfl⟩) ⟨kw_blind (Zk_ok g), va_recv hK hst.1 rfl (WS_o54 g σ), kw_pre (Zk_ok g) hK hZ hA hst⟩ rfl rfl hl.1 rfl (lv_room (Nat.le_of_ble_eq_true rfl)) d_Md_prepared_74 ⟨Nat.le_of_ble_eq_true rfl, Nat.le_of_ble_eq_true rfl⟩) hst hA (fun r1 σ1 H locs h hst => ?_)
        refine lv_goto (tgt := 81) hx hb d_Md_prepared_77 (by decide) ?_
        refine lv_istore_n hx hb d_Md_prepared_81 rfl hl (by decide) rfl (fun ls hl => ?_)
        have hl : lv_has ls 4 [(3, .int r1), (2, .int (σ.1 63 x1.toNatClampNeg)), (0, .ref (g.1 54)), (1, .int x1)] := hl
        exact j5 x1 (σ.1 63 x1.toNatClampNeg) r1 σ1 _ _ _ (lv_sub hl [2, 3, 1, 0] rfl) hst h
set_option maxRecDepth 100000 in
set_option maxHeartbeats 4000000 in
theorem b_Md_prepared_3 {p : Program} {l : Launch} {e : Env} {s : State} {m : MethodId} {args : Array Value} {below : List Frame} {meth : Method} {c : Code} {D : va_G} {g : Gm} {A : Nat → Prop} {post : Int32 → Sg → Prop} {F : Nat → Int32 → Int32 → Int32 → Sg → Prop} (C : kC p s m args meth c k_Md_prepared 4 (some .boolean) GW R_Md D vwCl g (Zk g) A) (j3 : J_Md_prepared_3 p l e s m args below meth c D g A post F) (j6 : J_Md_prepared_6 p l e s m args below meth c D g A post F) (x1 : Int32) (σ : Sg) (H : Heap) (locs : List Loc) (ls : Array Slot) (hl : lv_has ls 4 [(0, .ref (g.1 54)), (1, .int x1)]) (hst : Wst D vwCl (WS g) A s σ H locs) (h : wb_Md_prepared_3 F post x1 σ) : W p l e { frames := 6, cells := 0, slots := 0, locals := 139 } s m args below meth c H locs 0 0 (MQ below (QiW D vwCl (WS g) post A) args s 0 0 A) (F0 m 120 ls []) := by
  obtain ⟨hx, hb, hr, hml, hown, hts, hlocks, hK, hZ, hA⟩ := C
  unfold wb_Md_prepared_3 at h
  refine lv_iload_n hx hb d_Md_prepared_120 rfl (lv_at hl 1 rfl) ?_
  refine lv_aload_n hx hb d_Md_prepared_121 rfl (lv_at hl 0 rfl) ?_
  refine va_get (D := D) (ci := 10) (C := R_Md) (T := T_Md) (N := 46) hx hb hts in_Md hown hK hst.1 54 (WS_o54 g σ) rfl 4 (by decide) (hts _ gw1068) (fun _ h9 => h9) rfl d_Md_prepared_122 ?_
  refine lv_iconst (v := (0 : Int32)) hx hb d_Md_prepared_125 (by decide) ?_
  obtain ⟨hi, h⟩ := h
  refine va_iald hx hb hK hst.1 58 0 (WS_a58 g σ) rfl hi d_Md_prepared_126 ?_
  refine lv_icmp_ge (tgt := 147) hx hb d_Md_prepared_127 (by decide) (fun hc => ?_) (fun hc => ?_)
  · replace h := h.1 hc
    refine lv_aload_n hx hb d_Md_prepared_147 rfl (lv_at hl 0 rfl) ?_
    refine lv_iconst (v := (0 : Int32)) hx hb d_Md_prepared_148 (by decide) ?_
    refine kw_put (D := D) (ci := 10) (ty := .int) (C := R_Md) (T := T_Md) (N := 46) hx hb hts in_Md ty_Md ty_Md_ok nm_Md hown hK hst 54 (WS_o54 g σ) rfl 28 (by decide) (hts _ gw1092) (fun _ h9 => h9) rfl (by decide +kernel) rfl rfl (Nat.le_of_ble_eq_true rfl) (WS_p54_28 g σ _) d_Md_prepared_149 (fun σ1 H locs e1 hst => ?_)
    replace h := h σ1 e1
    refine lv_iconst (v := (0 : Int32)) hx hb d_Md_prepared_152 (by decide) ?_
    refine lv_istore_n hx hb d_Md_prepared_153 rfl hl (by decide) rfl (fun ls hl => ?_)
    have hl : lv_has ls 4 [(1, .int (0 : Int32)), (0, .ref (g.1 54))] := hl
    exact j6 (0 : Int32) σ1 _ _ _ (lv_sub hl [1, 0] rfl) hst h
  · replace h := h.2 hc
    refine lv_aload_n hx hb d_Md_prepared_130 rfl (lv_at hl 0 rfl) ?_
    refine va_get (D := D) (ci := 10) (C := R_Md) (T := T_Md) (N := 46) hx hb hts in_Md hown hK hst.1 54 (WS_o54 g σ) rfl 26 (by decide) (hts _ gw1090) (fun _ h9 => h9) rfl d_Md_prepared_131 ?_
    refine lv_iload_n hx hb d_Md_prepared_134 rfl (lv_at hl 1 rfl) ?_
    refine lv_aload_n hx hb d_Md_prepared_135 rfl (lv_at hl 0 rfl) ?_
    refine lv_iload_n hx hb d_Md_prepared_136 rfl (lv_at hl 1 rfl) ?_
    refine kw_calli (va_runV (As := [.int x1]) (rest := [.int x1, .ref (g.1 77)]) (b := g.1 54) ⟨hx, hb, hml, hown, hts⟩ (c_Md_targetOf l x1 h) (cwV 1 hts (gd_v gw1349 gw1351 gs65 gw15 gw1352) rfl rfl rfl (by decide +kernel) ⟨Nat.le_of_ble_eq_true rfl, Nat.le_of_ble_eq_true rfl⟩) ⟨kw_blind (Zk_ok g), va_recv hK hst.1 rfl (WS_o54 g σ), kw_pre (Zk_ok g) hK hZ hA hst⟩ rfl rfl hl.1 rfl (lv_room (Nat.le_of_ble_eq_true rfl)) d_Md_prepared_137 ⟨Nat.le_of_ble_eq_true rfl, Nat.le_of_ble_eq_true rfl⟩) hst hA (fun r1 σ1 H locs h hst => ?_)
    obtain ⟨hi, h⟩ := h
    refine kw_iast hx hb hK hst 77 (WS_a77 g σ1) hi (WS_s77 g σ1 _ _) d_Md_prepared_140 (fun σ2 H locs e2 hst => ?_)
    replace h := h σ2 e2
    refine lv_iinc (k := 1) (v := (x1 + 1)) hx hb d_Md_prepared_141 hl rfl (kw_inc _ (by decide)) (by decide) rfl (fun ls hl => ?_)
    have hl : lv_has ls 4 [(1, .int (x1 + 1)), (0, .ref (g.1 54))] := hl
    refine lv_goto (tgt := 120) hx hb d_Md_prepared_144 (by decide) ?_
    exact j3 (x1 + 1) σ2 _ _ _ (lv_sub hl [1, 0] rfl) hst h
set_option maxRecDepth 100000 in
set_option maxHeartbeats 4000000 in
theorem b_Md_prepared_4 {p : Program} {l : Launch} {e : Env} {s : State} {m : MethodId} {args : Array Value} {below : List Frame} {meth : Method} {c : Code} {D : va_G} {g : Gm} {A : Nat → Prop} {post : Int32 → Sg → Prop} {F : Nat → Int32 → Int32 → Int32 → Sg → Prop} (C : kC p s m args meth c k_Md_prepared 4 (some .boolean) GW R_Md D vwCl g (Zk g) A) (j5 : J_Md_prepared_5 p l e s m args below meth c D g A post F) (x1 : Int32) (x2 : Int32) (σ : Sg) (H : Heap) (locs : List Loc) (ls : Array Slot) (hl : lv_has ls 4 [(0, .ref (g.1 54)), (1, .int x1), (2, .int x2)]) (hst : Wst D vwCl (WS g) A s σ H locs) (h : wb_Md_prepared_4 F post x1 x2 σ) : W p l e { frames := 6, cells := 0, slots := 0, locals := 139 } s m args below meth c H locs 0 0 (MQ below (QiW D vwCl (WS g) post A) args s 0 0 A) (F0 m 80 ls []) := by
  obtain ⟨hx, hb, hr, hml, hown, hts, hlocks, hK, hZ, hA⟩ := C
  unfold wb_Md_prepared_4 at h
  refine lv_iconst (v := (0 : Int32)) hx hb d_Md_prepared_80 (by decide) ?_
  refine lv_istore_n hx hb d_Md_prepared_81 rfl hl (by decide) rfl (fun ls hl => ?_)
  have hl : lv_has ls 4 [(3, .int (0 : Int32)), (0, .ref (g.1 54)), (1, .int x1), (2, .int x2)] := hl
  exact j5 x1 x2 (0 : Int32) σ _ _ _ (lv_sub hl [1, 2, 3, 0] rfl) hst h
set_option maxRecDepth 100000 in
set_option maxHeartbeats 4000000 in
theorem b_Md_prepared_5 {p : Program} {l : Launch} {e : Env} {s : State} {m : MethodId} {args : Array Value} {below : List Frame} {meth : Method} {c : Code} {D : va_G} {g : Gm} {A : Nat → Prop} {post : Int32 → Sg → Prop} {F : Nat → Int32 → Int32 → Int32 → Sg → Prop} (C : kC p s m args meth c k_Md_prepared 4 (some .boolean) GW R_Md D vwCl g (Zk g) A) (j2 : J_Md_prepared_2 p l e s m args below meth c D g A post F) (x1 : Int32) (x2 : Int32) (x3 : Int32) (σ : Sg) (H : Heap) (locs : List Loc) (ls : Array Slot) (hl : lv_has ls 4 [(0, .ref (g.1 54)), (1, .int x1), (2, .int x2), (3, .int x3)]) (hst : Wst D vwCl (WS g) A s σ H locs) (h : wb_Md_prepared_5 F post x1 x2 x3 σ) : W p l e { frames := 6, cells := 0, slots := 0, locals := 139 } s m args below meth c H locs 0 0 (MQ below (QiW D vwCl (WS g) post A) args s 0 0 A) (F0 m 82 ls []) := by
  obtain ⟨hx, hb, hr, hml, hown, hts, hlocks, hK, hZ, hA⟩ := C
  unfold wb_Md_prepared_5 at h
  refine lv_iload_n hx hb d_Md_prepared_82 rfl (lv_at hl 3 rfl) ?_
  refine lv_if_le (tgt := 112) hx hb d_Md_prepared_83 (by decide) (fun hc => ?_) (fun hc => ?_)
  · replace h := h.1 hc
    refine lv_iinc (k := 1) (v := (x1 + 1)) hx hb d_Md_prepared_112 hl rfl (kw_inc _ (by decide)) (by decide) rfl (fun ls hl => ?_)
    have hl : lv_has ls 4 [(1, .int (x1 + 1)), (0, .ref (g.1 54)), (2, .int x2), (3, .int x3)] := hl
    refine lv_goto (tgt := 40) hx hb d_Md_prepared_115 (by decide) ?_
    exact j2 (x1 + 1) σ _ _ _ (lv_sub hl [1, 0] rfl) hst h
  · replace h := h.2 hc
    refine lv_aload_n hx hb d_Md_prepared_86 rfl (lv_at hl 0 rfl) ?_
    refine va_get (D := D) (ci := 10) (C := R_Md) (T := T_Md) (N := 46) hx hb hts in_Md hown hK hst.1 54 (WS_o54 g σ) rfl 25 (by decide) (hts _ gw1089) (fun _ h9 => h9) rfl d_Md_prepared_87 ?_
    refine lv_bipush (v := (22 : Int32)) hx hb d_Md_prepared_90 (by decide) ?_
    refine lv_iload_n hx hb d_Md_prepared_92 rfl (lv_at hl 2 rfl) ?_
    refine lv_imul hx hb d_Md_prepared_93 ?_
    refine lv_iload_n hx hb d_Md_prepared_94 rfl (lv_at hl 3 rfl) ?_
    refine lv_iadd hx hb d_Md_prepared_95 ?_
    obtain ⟨hi, h⟩ := h
    refine va_iald hx hb hK hst.1 76 0 (WS_a76 g σ) rfl hi d_Md_prepared_96 ?_
    refine lv_if_ge (tgt := 112) hx hb d_Md_prepared_97 (by decide) (fun hc => ?_) (fun hc => ?_)
    · replace h := h.1 hc
      refine lv_iinc (k := 1) (v := (x1 + 1)) hx hb d_Md_prepared_112 hl rfl (kw_inc _ (by decide)) (by decide) rfl (fun ls hl => ?_)
      have hl : lv_has ls 4 [(1, .int (x1 + 1)), (0, .ref (g.1 54)), (2, .int x2), (3, .int x3)] := hl
      refine lv_goto (tgt := 40) hx hb d_Md_prepared_115 (by decide) ?_
      exact j2 (x1 + 1) σ _ _ _ (lv_sub hl [1, 0] rfl) hst h
    · replace h := h.2 hc
      refine lv_aload_n hx hb d_Md_prepared_100 rfl (lv_at hl 0 rfl) ?_
      refine va_get (D := D) (ci := 10) (C := R_Md) (T := T_Md) (N := 46) hx hb hts in_Md hown hK hst.1 54 (WS_o54 g σ) rfl 25 (by decide) (hts _ gw1089) (fun _ h9 => h9) rfl d_Md_prepared_101 ?_
      refine lv_bipush (v := (22 : Int32)) hx hb d_Md_prepared_104 (by decide) ?_
      refine lv_iload_n hx hb d_Md_prepared_106 rfl (lv_at hl 2 rfl) ?_
      refine lv_imul hx hb d_Md_prepared_107 ?_
      refine lv_iload_n hx hb d_Md_prepared_108 rfl (lv_at hl 3 rfl) ?_
      refine lv_iadd hx hb d_Md_prepared_109 ?_
      refine lv_iload_n hx hb d_Md_prepared_110 rfl (lv_at hl 1 rfl) ?_
      obtain ⟨hi, h⟩ := h
      refine kw_iast hx hb hK hst 76 (WS_a76 g σ) hi (WS_s76 g σ _ _) d_Md_prepared_111 (fun σ1 H locs e1 hst => ?_)
      replace h := h σ1 e1
      refine lv_iinc (k := 1) (v := (x1 + 1)) hx hb d_Md_prepared_112 hl rfl (kw_inc _ (by decide)) (by decide) rfl (fun ls hl => ?_)
      have hl : lv_has ls 4 [(1, .int (x1 + 1)), (0, .ref (g.1 54)), (2, .int x2), (3, .int x3)] := hl
      refine lv_goto (tgt := 40) hx hb d_Md_prepared_115 (by decide) ?_
      exact j2 (x1 + 1) σ1 _ _ _ (lv_sub hl [1, 0] rfl) hst h
set_option maxRecDepth 100000 in
set_option maxHeartbeats 4000000 in
theorem b_Md_prepared_6 {p : Program} {l : Launch} {e : Env} {s : State} {m : MethodId} {args : Array Value} {below : List Frame} {meth : Method} {c : Code} {D : va_G} {g : Gm} {A : Nat → Prop} {post : Int32 → Sg → Prop} {F : Nat → Int32 → Int32 → Int32 → Sg → Prop} (C : kC p s m args meth c k_Md_prepared 4 (some .boolean) GW R_Md D vwCl g (Zk g) A) (j6 : J_Md_prepared_6 p l e s m args below meth c D g A post F) (j7 : J_Md_prepared_7 p l e s m args below meth c D g A post F) (x1 : Int32) (σ : Sg) (H : Heap) (locs : List Loc) (ls : Array Slot) (hl : lv_has ls 4 [(0, .ref (g.1 54)), (1, .int x1)]) (hst : Wst D vwCl (WS g) A s σ H locs) (h : wb_Md_prepared_6 F post x1 σ) : W p l e { frames := 6, cells := 0, slots := 0, locals := 139 } s m args below meth c H locs 0 0 (MQ below (QiW D vwCl (WS g) post A) args s 0 0 A) (F0 m 154 ls []) := by
  obtain ⟨hx, hb, hr, hml, hown, hts, hlocks, hK, hZ, hA⟩ := C
  unfold wb_Md_prepared_6 at h
  refine lv_iload_n hx hb d_Md_prepared_154 rfl (lv_at hl 1 rfl) ?_
  refine lv_aload_n hx hb d_Md_prepared_155 rfl (lv_at hl 0 rfl) ?_
  refine va_get (D := D) (ci := 10) (C := R_Md) (T := T_Md) (N := 46) hx hb hts in_Md hown hK hst.1 54 (WS_o54 g σ) rfl 4 (by decide) (hts _ gw1068) (fun _ h9 => h9) rfl d_Md_prepared_156 ?_
  refine lv_iconst (v := (0 : Int32)) hx hb d_Md_prepared_159 (by decide) ?_
  obtain ⟨hi, h⟩ := h
  refine va_iald hx hb hK hst.1 58 0 (WS_a58 g σ) rfl hi d_Md_prepared_160 ?_
  refine lv_icmp_ge (tgt := 177) hx hb d_Md_prepared_161 (by decide) (fun hc => ?_) (fun hc => ?_)
  · replace h := h.1 hc
    refine lv_iconst (v := (0 : Int32)) hx hb d_Md_prepared_177 (by decide) ?_
    refine lv_istore_n hx hb d_Md_prepared_178 rfl hl (by decide) rfl (fun ls hl => ?_)
    have hl : lv_has ls 4 [(1, .int (0 : Int32)), (0, .ref (g.1 54))] := hl
    exact j7 (0 : Int32) σ _ _ _ (lv_sub hl [1, 0] rfl) hst h
  · replace h := h.2 hc
    refine lv_aload_n hx hb d_Md_prepared_164 rfl (lv_at hl 0 rfl) ?_
    refine va_get (D := D) (ci := 10) (C := R_Md) (T := T_Md) (N := 46) hx hb hts in_Md hown hK hst.1 54 (WS_o54 g σ) rfl 29 (by decide) (hts _ gw1093) (fun _ h9 => h9) rfl d_Md_prepared_165 ?_
    refine lv_iload_n hx hb d_Md_prepared_168 rfl (lv_at hl 1 rfl) ?_
    refine lv_iconst (v := (0 : Int32)) hx hb d_Md_prepared_169 (by decide) ?_
    obtain ⟨hi, h⟩ := h
    refine kw_zast hx hb hK hst 79 (WS_a79 g σ) hi (WS_s79 g σ _ _) d_Md_prepared_170 (fun σ1 H locs e1 hst => ?_)
    replace h := h σ1 e1
    refine lv_iinc (k := 1) (v := (x1 + 1)) hx hb d_Md_prepared_171 hl rfl (kw_inc _ (by decide)) (by decide) rfl (fun ls hl => ?_)
    have hl : lv_has ls 4 [(1, .int (x1 + 1)), (0, .ref (g.1 54))] := hl
    refine lv_goto (tgt := 154) hx hb d_Md_prepared_174 (by decide) ?_
    exact j6 (x1 + 1) σ1 _ _ _ (lv_sub hl [1, 0] rfl) hst h
set_option maxRecDepth 100000 in
set_option maxHeartbeats 4000000 in
theorem b_Md_prepared_7 {p : Program} {l : Launch} {e : Env} {s : State} {m : MethodId} {args : Array Value} {below : List Frame} {meth : Method} {c : Code} {D : va_G} {g : Gm} {A : Nat → Prop} {post : Int32 → Sg → Prop} {F : Nat → Int32 → Int32 → Int32 → Sg → Prop} (C : kC p s m args meth c k_Md_prepared 4 (some .boolean) GW R_Md D vwCl g (Zk g) A) (j8 : J_Md_prepared_8 p l e s m args below meth c D g A post F) (x1 : Int32) (σ : Sg) (H : Heap) (locs : List Loc) (ls : Array Slot) (hl : lv_has ls 4 [(0, .ref (g.1 54)), (1, .int x1)]) (hst : Wst D vwCl (WS g) A s σ H locs) (h : wb_Md_prepared_7 F post x1 σ) : W p l e { frames := 6, cells := 0, slots := 0, locals := 139 } s m args below meth c H locs 0 0 (MQ below (QiW D vwCl (WS g) post A) args s 0 0 A) (F0 m 179 ls []) := by
  obtain ⟨hx, hb, hr, hml, hown, hts, hlocks, hK, hZ, hA⟩ := C
  unfold wb_Md_prepared_7 at h
  refine lv_iload_n hx hb d_Md_prepared_179 rfl (lv_at hl 1 rfl) ?_
  refine lv_aload_n hx hb d_Md_prepared_180 rfl (lv_at hl 0 rfl) ?_
  refine va_get (D := D) (ci := 10) (C := R_Md) (T := T_Md) (N := 46) hx hb hts in_Md hown hK hst.1 54 (WS_o54 g σ) rfl 4 (by decide) (hts _ gw1068) (fun _ h9 => h9) rfl d_Md_prepared_181 ?_
  refine lv_iconst (v := (0 : Int32)) hx hb d_Md_prepared_184 (by decide) ?_
  obtain ⟨hi, h⟩ := h
  refine va_iald hx hb hK hst.1 58 0 (WS_a58 g σ) rfl hi d_Md_prepared_185 ?_
  refine lv_icmp_ge (tgt := 257) hx hb d_Md_prepared_186 (by decide) (fun hc => ?_) (fun hc => ?_)
  · replace h := h.1 hc
    refine lv_aload_n hx hb d_Md_prepared_257 rfl (lv_at hl 0 rfl) ?_
    refine va_get (D := D) (ci := 10) (C := R_Md) (T := T_Md) (N := 46) hx hb hts in_Md hown hK hst.1 54 (WS_o54 g σ) rfl 28 (by decide) (hts _ gw1092) (fun _ h9 => h9) rfl d_Md_prepared_258 ?_
    refine lv_aload_n hx hb d_Md_prepared_261 rfl (lv_at hl 0 rfl) ?_
    refine va_get (D := D) (ci := 10) (C := R_Md) (T := T_Md) (N := 46) hx hb hts in_Md hown hK hst.1 54 (WS_o54 g σ) rfl 4 (by decide) (hts _ gw1068) (fun _ h9 => h9) rfl d_Md_prepared_262 ?_
    refine lv_iconst (v := (0 : Int32)) hx hb d_Md_prepared_265 (by decide) ?_
    obtain ⟨hi, h⟩ := h
    refine va_iald hx hb hK hst.1 58 0 (WS_a58 g σ) rfl hi d_Md_prepared_266 ?_
    refine lv_icmp_ne (tgt := 274) hx hb d_Md_prepared_267 (by decide) (fun hc => ?_) (fun hc => ?_)
    · replace h := h.1 hc
      refine lv_iconst (v := (0 : Int32)) hx hb d_Md_prepared_274 (by decide) ?_
      exact kw_zret hx hb hr hlocks hst h d_Md_prepared_275
    · replace h := h.2 hc
      refine lv_iconst (v := (1 : Int32)) hx hb d_Md_prepared_270 (by decide) ?_
      refine lv_goto (tgt := 275) hx hb d_Md_prepared_271 (by decide) ?_
      exact kw_zret hx hb hr hlocks hst h d_Md_prepared_275
  · replace h := h.2 hc
    refine lv_iconst (v := (0 : Int32)) hx hb d_Md_prepared_189 (by decide) ?_
    refine lv_istore_n hx hb d_Md_prepared_190 rfl hl (by decide) rfl (fun ls hl => ?_)
    have hl : lv_has ls 4 [(2, .int (0 : Int32)), (0, .ref (g.1 54)), (1, .int x1)] := hl
    exact j8 x1 (0 : Int32) σ _ _ _ (lv_sub hl [1, 2, 0] rfl) hst h
set_option maxRecDepth 100000 in
set_option maxHeartbeats 4000000 in
theorem b_Md_prepared_8 {p : Program} {l : Launch} {e : Env} {s : State} {m : MethodId} {args : Array Value} {below : List Frame} {meth : Method} {c : Code} {D : va_G} {g : Gm} {A : Nat → Prop} {post : Int32 → Sg → Prop} {F : Nat → Int32 → Int32 → Int32 → Sg → Prop} (C : kC p s m args meth c k_Md_prepared 4 (some .boolean) GW R_Md D vwCl g (Zk g) A) (j7 : J_Md_prepared_7 p l e s m args below meth c D g A post F) (j8 : J_Md_prepared_8 p l e s m args below meth c D g A post F) (x1 : Int32) (x2 : Int32) (σ : Sg) (H : Heap) (locs : List Loc) (ls : Array Slot) (hl : lv_has ls 4 [(0, .ref (g.1 54)), (1, .int x1), (2, .int x2)]) (hst : Wst D vwCl (WS g) A s σ H locs) (h : wb_Md_prepared_8 F post x1 x2 σ) : W p l e { frames := 6, cells := 0, slots := 0, locals := 139 } s m args below meth c H locs 0 0 (MQ below (QiW D vwCl (WS g) post A) args s 0 0 A) (F0 m 191 ls []) := by
  obtain ⟨hx, hb, hr, hml, hown, hts, hlocks, hK, hZ, hA⟩ := C
  unfold wb_Md_prepared_8 at h
  refine lv_iload_n hx hb d_Md_prepared_191 rfl (lv_at hl 2 rfl) ?_
  refine lv_aload_n hx hb d_Md_prepared_192 rfl (lv_at hl 0 rfl) ?_
  refine va_get (D := D) (ci := 10) (C := R_Md) (T := T_Md) (N := 46) hx hb hts in_Md hown hK hst.1 54 (WS_o54 g σ) rfl 4 (by decide) (hts _ gw1068) (fun _ h9 => h9) rfl d_Md_prepared_193 ?_
  refine lv_iconst (v := (0 : Int32)) hx hb d_Md_prepared_196 (by decide) ?_
  obtain ⟨hi, h⟩ := h
  refine va_iald hx hb hK hst.1 58 0 (WS_a58 g σ) rfl hi d_Md_prepared_197 ?_
  refine lv_icmp_ge (tgt := 251) hx hb d_Md_prepared_198 (by decide) (fun hc => ?_) (fun hc => ?_)
  · replace h := h.1 hc
    refine lv_iinc (k := 1) (v := (x1 + 1)) hx hb d_Md_prepared_251 hl rfl (kw_inc _ (by decide)) (by decide) rfl (fun ls hl => ?_)
    have hl : lv_has ls 4 [(1, .int (x1 + 1)), (0, .ref (g.1 54)), (2, .int x2)] := hl
    refine lv_goto (tgt := 179) hx hb d_Md_prepared_254 (by decide) ?_
    exact j7 (x1 + 1) σ _ _ _ (lv_sub hl [1, 0] rfl) hst h
  · replace h := h.2 hc
    refine lv_aload_n hx hb d_Md_prepared_201 rfl (lv_at hl 0 rfl) ?_
    refine va_get (D := D) (ci := 10) (C := R_Md) (T := T_Md) (N := 46) hx hb hts in_Md hown hK hst.1 54 (WS_o54 g σ) rfl 29 (by decide) (hts _ gw1093) (fun _ h9 => h9) rfl d_Md_prepared_202 ?_
    refine lv_iload_n hx hb d_Md_prepared_205 rfl (lv_at hl 2 rfl) ?_
    obtain ⟨hi, h⟩ := h
    refine va_zald hx hb hK hst.1 79 2 (WS_a79 g σ) rfl hi d_Md_prepared_206 ?_
    refine lv_if_ne (tgt := 245) hx hb d_Md_prepared_207 (by decide) (fun hc => ?_) (fun hc => ?_)
    · replace h := h.1 hc
      refine lv_iinc (k := 2) (v := (x2 + 1)) hx hb d_Md_prepared_245 hl rfl (kw_inc _ (by decide)) (by decide) rfl (fun ls hl => ?_)
      have hl : lv_has ls 4 [(2, .int (x2 + 1)), (0, .ref (g.1 54)), (1, .int x1)] := hl
      refine lv_goto (tgt := 191) hx hb d_Md_prepared_248 (by decide) ?_
      exact j8 x1 (x2 + 1) σ _ _ _ (lv_sub hl [1, 2, 0] rfl) hst h
    · replace h := h.2 hc
      refine lv_aload_n hx hb d_Md_prepared_210 rfl (lv_at hl 0 rfl) ?_
      refine lv_iload_n hx hb d_Md_prepared_211 rfl (lv_at hl 2 rfl) ?_
      refine kw_calli (va_runV (As := [.int x2]) (rest := []) (b := g.1 54) ⟨hx, hb, hml, hown, hts⟩ (c_Md_needsNothing l x2 h) (cwV 1 hts (gd_v gw1353 gw1355 gs66 gw15 gw1356) rfl rfl rfl (by decide +kernel) ⟨Nat.le_of_ble_eq_true rfl, Nat.le_of_ble_eq_true rfl⟩) ⟨kw_blind (Zk_ok g), va_recv hK hst.1 rfl (WS_o54 g σ), kw_pre (Zk_ok g) hK hZ hA hst⟩ rfl rfl hl.1 rfl (lv_room (Nat.le_of_ble_eq_true rfl)) d_Md_prepared_212 ⟨Nat.le_of_ble_eq_true rfl, Nat.le_of_ble_eq_true rfl⟩) hst hA (fun r1 σ1 H locs h hst => ?_)
      refine lv_if_eq (tgt := 245) hx hb d_Md_prepared_215 (by decide) (fun hc => ?_) (fun hc => ?_)
      · replace h := h.1 hc
        refine lv_iinc (k := 2) (v := (x2 + 1)) hx hb d_Md_prepared_245 hl rfl (kw_inc _ (by decide)) (by decide) rfl (fun ls hl => ?_)
        have hl : lv_has ls 4 [(2, .int (x2 + 1)), (0, .ref (g.1 54)), (1, .int x1)] := hl
        refine lv_goto (tgt := 191) hx hb d_Md_prepared_248 (by decide) ?_
        exact j8 x1 (x2 + 1) σ1 _ _ _ (lv_sub hl [1, 2, 0] rfl) hst h
      · replace h := h.2 hc
        refine lv_aload_n hx hb d_Md_prepared_218 rfl (lv_at hl 0 rfl) ?_
        refine va_get (D := D) (ci := 10) (C := R_Md) (T := T_Md) (N := 46) hx hb hts in_Md hown hK hst.1 54 (WS_o54 g σ1) rfl 29 (by decide) (hts _ gw1093) (fun _ h9 => h9) rfl d_Md_prepared_219 ?_
        refine lv_iload_n hx hb d_Md_prepared_222 rfl (lv_at hl 2 rfl) ?_
        refine lv_iconst (v := (1 : Int32)) hx hb d_Md_prepared_223 (by decide) ?_
        obtain ⟨hi, h⟩ := h
        refine kw_zast hx hb hK hst 79 (WS_a79 g σ1) hi (WS_s79 g σ1 _ _) d_Md_prepared_224 (fun σ2 H locs e2 hst => ?_)
        replace h := h σ2 e2
        refine lv_aload_n hx hb d_Md_prepared_225 rfl (lv_at hl 0 rfl) ?_
        refine va_get (D := D) (ci := 10) (C := R_Md) (T := T_Md) (N := 46) hx hb hts in_Md hown hK hst.1 54 (WS_o54 g σ2) rfl 27 (by decide) (hts _ gw1091) (fun _ h9 => h9) rfl d_Md_prepared_226 ?_
        refine lv_aload_n hx hb d_Md_prepared_229 rfl (lv_at hl 0 rfl) ?_
        refine va_get (D := D) (ci := 10) (C := R_Md) (T := T_Md) (N := 46) hx hb hts in_Md hown hK hst.1 54 (WS_o54 g σ2) rfl 28 (by decide) (hts _ gw1092) (fun _ h9 => h9) rfl d_Md_prepared_230 ?_
        refine lv_iload_n hx hb d_Md_prepared_233 rfl (lv_at hl 2 rfl) ?_
        obtain ⟨hi, h⟩ := h
        refine kw_iast hx hb hK hst 78 (WS_a78 g σ2) hi (WS_s78 g σ2 _ _) d_Md_prepared_234 (fun σ3 H locs e3 hst => ?_)
        replace h := h σ3 e3
        refine lv_aload_n hx hb d_Md_prepared_235 rfl (lv_at hl 0 rfl) ?_
        refine lv_dup hx hb d_Md_prepared_236 rfl ?_
        refine va_get (D := D) (ci := 10) (C := R_Md) (T := T_Md) (N := 46) hx hb hts in_Md hown hK hst.1 54 (WS_o54 g σ3) rfl 28 (by decide) (hts _ gw1092) (fun _ h9 => h9) rfl d_Md_prepared_237 ?_
        refine lv_iconst (v := (1 : Int32)) hx hb d_Md_prepared_240 (by decide) ?_
        refine lv_iadd hx hb d_Md_prepared_241 ?_
        refine kw_put (D := D) (ci := 10) (ty := .int) (C := R_Md) (T := T_Md) (N := 46) hx hb hts in_Md ty_Md ty_Md_ok nm_Md hown hK hst 54 (WS_o54 g σ3) rfl 28 (by decide) (hts _ gw1092) (fun _ h9 => h9) rfl (by decide +kernel) rfl rfl (Nat.le_of_ble_eq_true rfl) (WS_p54_28 g σ3 _) d_Md_prepared_242 (fun σ4 H locs e4 hst => ?_)
        replace h := h σ4 e4
        refine lv_iinc (k := 2) (v := (x2 + 1)) hx hb d_Md_prepared_245 hl rfl (kw_inc _ (by decide)) (by decide) rfl (fun ls hl => ?_)
        have hl : lv_has ls 4 [(2, .int (x2 + 1)), (0, .ref (g.1 54)), (1, .int x1)] := hl
        refine lv_goto (tgt := 191) hx hb d_Md_prepared_248 (by decide) ?_
        exact j8 x1 (x2 + 1) σ4 _ _ _ (lv_sub hl [1, 2, 0] rfl) hst h
set_option maxRecDepth 100000 in
set_option maxHeartbeats 4000000 in
theorem a_Md_prepared {p : Program} {l : Launch} {e : Env} {s : State} {m : MethodId} {args : Array Value} {below : List Frame} {meth : Method} {c : Code} {D : va_G} {g : Gm} {A : Nat → Prop} {post : Int32 → Sg → Prop} (C : kC p s m args meth c k_Md_prepared 4 (some .boolean) GW R_Md D vwCl g (Zk g) A) : ∀ n : Nat, J_Md_prepared_1 p l e s m args below meth c D g A post (wp_Md_prepared post n) ∧ J_Md_prepared_2 p l e s m args below meth c D g A post (wp_Md_prepared post n) ∧ J_Md_prepared_3 p l e s m args below meth c D g A post (wp_Md_prepared post n) ∧ J_Md_prepared_4 p l e s m args below meth c D g A post (wp_Md_prepared post n) ∧ J_Md_prepared_5 p l e s m args below meth c D g A post (wp_Md_prepared post n) ∧ J_Md_prepared_6 p l e s m args below meth c D g A post (wp_Md_prepared post n) ∧ J_Md_prepared_7 p l e s m args below meth c D g A post (wp_Md_prepared post n) ∧ J_Md_prepared_8 p l e s m args below meth c D g A post (wp_Md_prepared post n) := by
  intro n
  induction n with
  | zero => exact ⟨fun _ _ _ _ _ _ _ h => h.elim, fun _ _ _ _ _ _ _ h => h.elim, fun _ _ _ _ _ _ _ h => h.elim, fun _ _ _ _ _ _ _ _ h => h.elim, fun _ _ _ _ _ _ _ _ _ h => h.elim, fun _ _ _ _ _ _ _ h => h.elim, fun _ _ _ _ _ _ _ h => h.elim, fun _ _ _ _ _ _ _ _ h => h.elim⟩
  | succ n ih => exact ⟨fun x1 σ H locs ls hl hst h => b_Md_prepared_1 (F := wp_Md_prepared post n) C (ih.1) (ih.2.1) x1 σ H locs ls hl hst h, fun x1 σ H locs ls hl hst h => b_Md_prepared_2 (F := wp_Md_prepared post n) C (ih.2.2.1) (ih.2.2.2.1) (ih.2.2.2.2.1) x1 σ H locs ls hl hst h, fun x1 σ H locs ls hl hst h => b_Md_prepared_3 (F := wp_Md_prepared post n) C (ih.2.2.1) (ih.2.2.2.2.2.1) x1 σ H locs ls hl hst h, fun x1 x2 σ H locs ls hl hst h => b_Md_prepared_4 (F := wp_Md_prepared post n) C (ih.2.2.2.2.1) x1 x2 σ H locs ls hl hst h, fun x1 x2 x3 σ H locs ls hl hst h => b_Md_prepared_5 (F := wp_Md_prepared post n) C (ih.2.1) x1 x2 x3 σ H locs ls hl hst h, fun x1 σ H locs ls hl hst h => b_Md_prepared_6 (F := wp_Md_prepared post n) C (ih.2.2.2.2.2.1) (ih.2.2.2.2.2.2.1) x1 σ H locs ls hl hst h, fun x1 σ H locs ls hl hst h => b_Md_prepared_7 (F := wp_Md_prepared post n) C (ih.2.2.2.2.2.2.2) x1 σ H locs ls hl hst h, fun x1 x2 σ H locs ls hl hst h => b_Md_prepared_8 (F := wp_Md_prepared post n) C (ih.2.2.2.2.2.2.1) (ih.2.2.2.2.2.2.2) x1 x2 σ H locs ls hl hst h⟩
set_option maxRecDepth 100000 in
set_option maxHeartbeats 4000000 in
theorem c_Md_prepared (l : Launch) {D : va_G} {g : Gm} {sz : Nat} {σ : Sg} {post : Int32 → Sg → Prop} (h : wq_Md_prepared σ post) : Met l y_Md_prepared (.code y_Md_prepared k_Md_prepared 4 (some .boolean) :: GW) { frames := 6, cells := 0, slots := 0, locals := 139 } (PcW D vwCl (WS g) g (Zk g) σ sz [.ref (g.1 54)]) (QiW D vwCl (WS g) post (va_A (WS g σ) sz)) 0 0 (va_A (WS g σ) sz) := by
  refine kw_entry (own := R_Md) (by decide) rfl rfl (Nat.le_of_ble_eq_true rfl) ?_
  intro p e s m below meth c ls hsz C hin hl hst
  obtain ⟨n, h⟩ := h
  cases n with
  | zero => exact h.elim
  | succ n =>
    have ih := a_Md_prepared (l := l) (e := e) (below := below) (post := post) C n
    exact b_Md_prepared_0 (F := wp_Md_prepared post n) C (ih.1) σ _ _ ls hl hst h
