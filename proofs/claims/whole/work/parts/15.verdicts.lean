/-! SchemaDesk$Verdicts.isHeld (II)Z -/
abbrev k_Vd_isHeld : ByteArray := prog_9_method_3_code
abbrev y_Vd_isHeld : MethodName := ⟨"SchemaDesk$Verdicts", "isHeld", "(II)Z"⟩
theorem d_Vd_isHeld_0 : decode k_Vd_isHeld 0 = .ok (.aload_n 0, 1) := by decide +kernel
theorem d_Vd_isHeld_1 : decode k_Vd_isHeld 1 = .ok (.getfield 31, 3) := by decide +kernel
theorem d_Vd_isHeld_4 : decode k_Vd_isHeld 4 = .ok (.getfield 59, 3) := by decide +kernel
theorem d_Vd_isHeld_7 : decode k_Vd_isHeld 7 = .ok (.iload_n 1, 1) := by decide +kernel
theorem d_Vd_isHeld_8 : decode k_Vd_isHeld 8 = .ok (.iaload, 1) := by decide +kernel
theorem d_Vd_isHeld_9 : decode k_Vd_isHeld 9 = .ok (.bipush 6, 2) := by decide +kernel
theorem d_Vd_isHeld_11 : decode k_Vd_isHeld 11 = .ok (.if_icmp .ne 15, 3) := by decide +kernel
theorem d_Vd_isHeld_14 : decode k_Vd_isHeld 14 = .ok (.aload_n 0, 1) := by decide +kernel
theorem d_Vd_isHeld_15 : decode k_Vd_isHeld 15 = .ok (.getfield 12, 3) := by decide +kernel
theorem d_Vd_isHeld_18 : decode k_Vd_isHeld 18 = .ok (.iload_n 1, 1) := by decide +kernel
theorem d_Vd_isHeld_19 : decode k_Vd_isHeld 19 = .ok (.iload_n 2, 1) := by decide +kernel
theorem d_Vd_isHeld_20 : decode k_Vd_isHeld 20 = .ok (.invokevirtual 62, 3) := by decide +kernel
theorem d_Vd_isHeld_23 : decode k_Vd_isHeld 23 = .ok (.goto 21, 3) := by decide +kernel
theorem d_Vd_isHeld_26 : decode k_Vd_isHeld 26 = .ok (.aload_n 0, 1) := by decide +kernel
theorem d_Vd_isHeld_27 : decode k_Vd_isHeld 27 = .ok (.getfield 31, 3) := by decide +kernel
theorem d_Vd_isHeld_30 : decode k_Vd_isHeld 30 = .ok (.getfield 59, 3) := by decide +kernel
theorem d_Vd_isHeld_33 : decode k_Vd_isHeld 33 = .ok (.iload_n 1, 1) := by decide +kernel
theorem d_Vd_isHeld_34 : decode k_Vd_isHeld 34 = .ok (.iaload, 1) := by decide +kernel
theorem d_Vd_isHeld_35 : decode k_Vd_isHeld 35 = .ok (.iconst 1, 1) := by decide +kernel
theorem d_Vd_isHeld_36 : decode k_Vd_isHeld 36 = .ok (.if_icmp .eq 7, 3) := by decide +kernel
theorem d_Vd_isHeld_39 : decode k_Vd_isHeld 39 = .ok (.iconst 1, 1) := by decide +kernel
theorem d_Vd_isHeld_40 : decode k_Vd_isHeld 40 = .ok (.goto 4, 3) := by decide +kernel
theorem d_Vd_isHeld_43 : decode k_Vd_isHeld 43 = .ok (.iconst 0, 1) := by decide +kernel
theorem d_Vd_isHeld_44 : decode k_Vd_isHeld 44 = .ok (.ireturn, 1) := by decide +kernel
theorem gw302 : (Jvm.Cond.fieldLink "SchemaDesk$Verdicts" (31 : Nat) "SchemaDesk$Verdicts" "schema" "LSchemaDesk$Tree;") ∈ GW := gw_t2 (List.mem_of_getElem? (i := 62) rfl) rfl
theorem gw133 : (Jvm.Cond.fieldLink "SchemaDesk$Verdicts" (59 : Nat) "SchemaDesk$Tree" "kind" "[I") ∈ GW := gw_t1 (List.mem_of_getElem? (i := 133) rfl) rfl
theorem gw310 : (Jvm.Cond.fieldLink "SchemaDesk$Verdicts" (12 : Nat) "SchemaDesk$Verdicts" "held" "LSchemaDesk$Marks;") ∈ GW := gw_t2 (List.mem_of_getElem? (i := 70) rfl) rfl
theorem gw823 : (Jvm.Cond.methodLink "SchemaDesk$Verdicts" (62 : Nat) ({ cls := "SchemaDesk$Marks", name := "has", desc := "(II)Z" } : Jvm.MethodName)) ∈ GW := gw_t4 (List.mem_of_getElem? (i := 103) rfl) rfl
theorem gw824 : (Jvm.Cond.instanceMethod ({ cls := "SchemaDesk$Marks", name := "has", desc := "(II)Z" } : Jvm.MethodName)) ∈ GW := gw_t4 (List.mem_of_getElem? (i := 104) rfl) rfl
theorem gw825 : (Jvm.Cond.selects "SchemaDesk$Marks" ({ cls := "SchemaDesk$Marks", name := "has", desc := "(II)Z" } : Jvm.MethodName) ({ cls := "SchemaDesk$Marks", name := "has", desc := "(II)Z" } : Jvm.MethodName)) ∈ GW := gw_t4 (List.mem_of_getElem? (i := 105) rfl) rfl
theorem gw12 : (Jvm.Cond.initialized "SchemaDesk$Marks") ∈ GW := gw_t1 (List.mem_of_getElem? (i := 12) rfl) rfl
theorem gw826 : (Jvm.Cond.code ({ cls := "SchemaDesk$Marks", name := "has", desc := "(II)Z" } : Jvm.MethodName) prog_2_method_3_code (3 : Nat) (Option.some Jvm.ClassFile.FieldType.boolean)) ∈ GW := gw_t4 (List.mem_of_getElem? (i := 106) rfl) rfl
def wq_Vd_isHeld (x1 : Int32) (x2 : Int32) (σ : Sg) (post : Int32 → Sg → Prop) : Prop := (vp_in x1 160 ∧ ((¬ (σ.1 1 x1.toNatClampNeg) = (6 : Int32) → (vp_in x1 160 ∧ (((σ.1 1 x1.toNatClampNeg) = (1 : Int32) → (narrow .boolean (.int (0 : Int32)) = .int (0 : Int32) ∧ post (0 : Int32) σ)) ∧ (¬ (σ.1 1 x1.toNatClampNeg) = (1 : Int32) → (narrow .boolean (.int (1 : Int32)) = .int (1 : Int32) ∧ post (1 : Int32) σ))))) ∧ ((σ.1 1 x1.toNatClampNeg) = (6 : Int32) → (wq_Mk_has 36 x1 x2 σ (fun r1 σ1 => (narrow .boolean (.int r1) = .int r1 ∧ post r1 σ1))))))
set_option maxRecDepth 100000 in
set_option maxHeartbeats 4000000 in
theorem b_Vd_isHeld_0 {p : Program} {l : Launch} {e : Env} {s : State} {m : MethodId} {args : Array Value} {below : List Frame} {meth : Method} {c : Code} {D : va_G} {g : Gm} {A : Nat → Prop} {post : Int32 → Sg → Prop} (C : kC p s m args meth c k_Vd_isHeld 3 (some .boolean) GW R_Vd D vwCl g (Zk g) A) (x1 : Int32) (x2 : Int32) (σ : Sg) (H : Heap) (locs : List Loc) (ls : Array Slot) (hl : lv_has ls 3 [(0, .ref (g.1 35)), (1, .int x1), (2, .int x2)]) (hst : Wst D vwCl (WS g) A s σ H locs) (h : wq_Vd_isHeld x1 x2 σ post) : W p l e { frames := 1, cells := 0, slots := 0, locals := 22 } s m args below meth c H locs 0 0 (MQ below (QiW D vwCl (WS g) post A) args s 0 0 A) (F0 m 0 ls []) := by
  obtain ⟨hx, hb, hr, hml, hown, hts, hlocks, hK, hZ, hA⟩ := C
  unfold wq_Vd_isHeld at h
  refine lv_aload_n hx hb d_Vd_isHeld_0 rfl (lv_at hl 0 rfl) ?_
  refine va_get (D := D) (ci := 6) (C := R_Vd) (T := T_Vd) (N := 6) hx hb hts in_Vd hown hK hst.1 35 (WS_o35 g σ) rfl 1 (by decide) (hts _ gw302) (fun _ h9 => h9) rfl d_Vd_isHeld_1 ?_
  refine va_get (D := D) (ci := 0) (C := R_Tr) (T := T_Tr) (N := 12) hx hb hts in_Tr hown hK hst.1 0 (WS_o0 g σ) rfl 1 (by decide) (hts _ gw133) (fun _ h9 => h9) rfl d_Vd_isHeld_4 ?_
  refine lv_iload_n hx hb d_Vd_isHeld_7 rfl (lv_at hl 1 rfl) ?_
  obtain ⟨hi, h⟩ := h
  refine va_iald hx hb hK hst.1 1 0 (WS_a1 g σ) rfl hi d_Vd_isHeld_8 ?_
  refine lv_bipush (v := (6 : Int32)) hx hb d_Vd_isHeld_9 (by decide) ?_
  refine lv_icmp_ne (tgt := 26) hx hb d_Vd_isHeld_11 (by decide) (fun hc => ?_) (fun hc => ?_)
  · replace h := h.1 hc
    refine lv_aload_n hx hb d_Vd_isHeld_26 rfl (lv_at hl 0 rfl) ?_
    refine va_get (D := D) (ci := 6) (C := R_Vd) (T := T_Vd) (N := 6) hx hb hts in_Vd hown hK hst.1 35 (WS_o35 g σ) rfl 1 (by decide) (hts _ gw302) (fun _ h9 => h9) rfl d_Vd_isHeld_27 ?_
    refine va_get (D := D) (ci := 0) (C := R_Tr) (T := T_Tr) (N := 12) hx hb hts in_Tr hown hK hst.1 0 (WS_o0 g σ) rfl 1 (by decide) (hts _ gw133) (fun _ h9 => h9) rfl d_Vd_isHeld_30 ?_
    refine lv_iload_n hx hb d_Vd_isHeld_33 rfl (lv_at hl 1 rfl) ?_
    obtain ⟨hi, h⟩ := h
    refine va_iald hx hb hK hst.1 1 0 (WS_a1 g σ) rfl hi d_Vd_isHeld_34 ?_
    refine lv_iconst (v := (1 : Int32)) hx hb d_Vd_isHeld_35 (by decide) ?_
    refine lv_icmp_eq (tgt := 43) hx hb d_Vd_isHeld_36 (by decide) (fun hc => ?_) (fun hc => ?_)
    · replace h := h.1 hc
      refine lv_iconst (v := (0 : Int32)) hx hb d_Vd_isHeld_43 (by decide) ?_
      exact kw_zret hx hb hr hlocks hst h d_Vd_isHeld_44
    · replace h := h.2 hc
      refine lv_iconst (v := (1 : Int32)) hx hb d_Vd_isHeld_39 (by decide) ?_
      refine lv_goto (tgt := 44) hx hb d_Vd_isHeld_40 (by decide) ?_
      exact kw_zret hx hb hr hlocks hst h d_Vd_isHeld_44
  · replace h := h.2 hc
    refine lv_aload_n hx hb d_Vd_isHeld_14 rfl (lv_at hl 0 rfl) ?_
    refine va_get (D := D) (ci := 6) (C := R_Vd) (T := T_Vd) (N := 6) hx hb hts in_Vd hown hK hst.1 35 (WS_o35 g σ) rfl 4 (by decide) (hts _ gw310) (fun _ h9 => h9) rfl d_Vd_isHeld_15 ?_
    refine lv_iload_n hx hb d_Vd_isHeld_18 rfl (lv_at hl 1 rfl) ?_
    refine lv_iload_n hx hb d_Vd_isHeld_19 rfl (lv_at hl 2 rfl) ?_
    refine kw_calli (va_runV (As := [.int x1, .int x2]) (rest := []) (b := g.1 36) ⟨hx, hb, hml, hown, hts⟩ (c_Mk_has_36 l x1 x2 h) (cwV 2 hts (gd_v gw823 gw824 gw825 gw12 gw826) rfl rfl rfl (by decide +kernel) ⟨Nat.le_of_ble_eq_true rfl, Nat.le_of_ble_eq_true rfl⟩) ⟨kw_blind (Zk_ok g), va_recv hK hst.1 rfl (WS_o36 g σ), kw_pre (Zk_ok g) hK hZ hA hst⟩ rfl rfl hl.1 rfl (lv_room (Nat.le_of_ble_eq_true rfl)) d_Vd_isHeld_20 ⟨Nat.le_of_ble_eq_true rfl, Nat.le_of_ble_eq_true rfl⟩) hst hA (fun r1 σ1 H locs h hst => ?_)
    refine lv_goto (tgt := 44) hx hb d_Vd_isHeld_23 (by decide) ?_
    exact kw_zret hx hb hr hlocks hst h d_Vd_isHeld_44
set_option maxRecDepth 100000 in
set_option maxHeartbeats 4000000 in
theorem c_Vd_isHeld (l : Launch) {D : va_G} {g : Gm} {sz : Nat} (x1 : Int32) (x2 : Int32) {σ : Sg} {post : Int32 → Sg → Prop} (h : wq_Vd_isHeld x1 x2 σ post) : Met l y_Vd_isHeld (.code y_Vd_isHeld k_Vd_isHeld 3 (some .boolean) :: GW) { frames := 1, cells := 0, slots := 0, locals := 22 } (PcW D vwCl (WS g) g (Zk g) σ sz [.ref (g.1 35), .int x1, .int x2]) (QiW D vwCl (WS g) post (va_A (WS g σ) sz)) 0 0 (va_A (WS g σ) sz) := by
  refine kw_entry (own := R_Vd) (by decide) rfl rfl (Nat.le_of_ble_eq_true rfl) ?_
  intro p e s m below meth c ls hsz C hin hl hst
  exact b_Vd_isHeld_0 C x1 x2 σ _ _ ls hl hst h
/-! SchemaDesk$Verdicts.holdsAndEvaluates (III)Z -/
abbrev k_Vd_holdsAndEvaluates : ByteArray := prog_9_method_8_code
abbrev y_Vd_holdsAndEvaluates : MethodName := ⟨"SchemaDesk$Verdicts", "holdsAndEvaluates", "(III)Z"⟩
theorem d_Vd_holdsAndEvaluates_0 : decode k_Vd_holdsAndEvaluates 0 = .ok (.aload_n 0, 1) := by decide +kernel
theorem d_Vd_holdsAndEvaluates_1 : decode k_Vd_holdsAndEvaluates 1 = .ok (.getfield 31, 3) := by decide +kernel
theorem d_Vd_holdsAndEvaluates_4 : decode k_Vd_holdsAndEvaluates 4 = .ok (.getfield 59, 3) := by decide +kernel
theorem d_Vd_holdsAndEvaluates_7 : decode k_Vd_holdsAndEvaluates 7 = .ok (.iload_n 1, 1) := by decide +kernel
theorem d_Vd_holdsAndEvaluates_8 : decode k_Vd_holdsAndEvaluates 8 = .ok (.iaload, 1) := by decide +kernel
theorem d_Vd_holdsAndEvaluates_9 : decode k_Vd_holdsAndEvaluates 9 = .ok (.bipush 6, 2) := by decide +kernel
theorem d_Vd_holdsAndEvaluates_11 : decode k_Vd_holdsAndEvaluates 11 = .ok (.if_icmp .ne 15, 3) := by decide +kernel
theorem d_Vd_holdsAndEvaluates_14 : decode k_Vd_holdsAndEvaluates 14 = .ok (.aload_n 0, 1) := by decide +kernel
theorem d_Vd_holdsAndEvaluates_15 : decode k_Vd_holdsAndEvaluates 15 = .ok (.getfield 12, 3) := by decide +kernel
theorem d_Vd_holdsAndEvaluates_18 : decode k_Vd_holdsAndEvaluates 18 = .ok (.iload_n 1, 1) := by decide +kernel
theorem d_Vd_holdsAndEvaluates_19 : decode k_Vd_holdsAndEvaluates 19 = .ok (.iload_n 2, 1) := by decide +kernel
theorem d_Vd_holdsAndEvaluates_20 : decode k_Vd_holdsAndEvaluates 20 = .ok (.invokevirtual 62, 3) := by decide +kernel
theorem d_Vd_holdsAndEvaluates_23 : decode k_Vd_holdsAndEvaluates 23 = .ok (.ifCond .ne 5, 3) := by decide +kernel
theorem d_Vd_holdsAndEvaluates_26 : decode k_Vd_holdsAndEvaluates 26 = .ok (.iconst 0, 1) := by decide +kernel
theorem d_Vd_holdsAndEvaluates_27 : decode k_Vd_holdsAndEvaluates 27 = .ok (.ireturn, 1) := by decide +kernel
theorem d_Vd_holdsAndEvaluates_28 : decode k_Vd_holdsAndEvaluates 28 = .ok (.aload_n 0, 1) := by decide +kernel
theorem d_Vd_holdsAndEvaluates_29 : decode k_Vd_holdsAndEvaluates 29 = .ok (.getfield 18, 3) := by decide +kernel
theorem d_Vd_holdsAndEvaluates_32 : decode k_Vd_holdsAndEvaluates 32 = .ok (.iload_n 1, 1) := by decide +kernel
theorem d_Vd_holdsAndEvaluates_33 : decode k_Vd_holdsAndEvaluates 33 = .ok (.iload_n 3, 1) := by decide +kernel
theorem d_Vd_holdsAndEvaluates_34 : decode k_Vd_holdsAndEvaluates 34 = .ok (.invokevirtual 62, 3) := by decide +kernel
theorem d_Vd_holdsAndEvaluates_37 : decode k_Vd_holdsAndEvaluates 37 = .ok (.ifCond .ne 17, 3) := by decide +kernel
theorem d_Vd_holdsAndEvaluates_40 : decode k_Vd_holdsAndEvaluates 40 = .ok (.aload_n 0, 1) := by decide +kernel
theorem d_Vd_holdsAndEvaluates_41 : decode k_Vd_holdsAndEvaluates 41 = .ok (.getfield 21, 3) := by decide +kernel
theorem d_Vd_holdsAndEvaluates_44 : decode k_Vd_holdsAndEvaluates 44 = .ok (.iload_n 1, 1) := by decide +kernel
theorem d_Vd_holdsAndEvaluates_45 : decode k_Vd_holdsAndEvaluates 45 = .ok (.bipush 20, 2) := by decide +kernel
theorem d_Vd_holdsAndEvaluates_47 : decode k_Vd_holdsAndEvaluates 47 = .ok (.invokevirtual 102, 3) := by decide +kernel
theorem d_Vd_holdsAndEvaluates_50 : decode k_Vd_holdsAndEvaluates 50 = .ok (.iconst (-1), 1) := by decide +kernel
theorem d_Vd_holdsAndEvaluates_51 : decode k_Vd_holdsAndEvaluates 51 = .ok (.if_icmp .eq 7, 3) := by decide +kernel
theorem d_Vd_holdsAndEvaluates_54 : decode k_Vd_holdsAndEvaluates 54 = .ok (.iconst 1, 1) := by decide +kernel
theorem d_Vd_holdsAndEvaluates_55 : decode k_Vd_holdsAndEvaluates 55 = .ok (.goto 4, 3) := by decide +kernel
theorem d_Vd_holdsAndEvaluates_58 : decode k_Vd_holdsAndEvaluates 58 = .ok (.iconst 0, 1) := by decide +kernel
theorem d_Vd_holdsAndEvaluates_59 : decode k_Vd_holdsAndEvaluates 59 = .ok (.ireturn, 1) := by decide +kernel
theorem gw311 : (Jvm.Cond.fieldLink "SchemaDesk$Verdicts" (18 : Nat) "SchemaDesk$Verdicts" "evaluated" "LSchemaDesk$Marks;") ∈ GW := gw_t2 (List.mem_of_getElem? (i := 71) rfl) rfl
theorem gw299 : (Jvm.Cond.fieldLink "SchemaDesk$Verdicts" (21 : Nat) "SchemaDesk$Verdicts" "plan" "LSchemaDesk$Plan;") ∈ GW := gw_t2 (List.mem_of_getElem? (i := 59) rfl) rfl
theorem gw836 : (Jvm.Cond.methodLink "SchemaDesk$Verdicts" (102 : Nat) ({ cls := "SchemaDesk$Plan", name := "childBy", desc := "(II)I" } : Jvm.MethodName)) ∈ GW := gw_t4 (List.mem_of_getElem? (i := 116) rfl) rfl
def wq_Vd_holdsAndEvaluates (x1 : Int32) (x2 : Int32) (x3 : Int32) (σ : Sg) (post : Int32 → Sg → Prop) : Prop := (vp_in x1 160 ∧ ((¬ (σ.1 1 x1.toNatClampNeg) = (6 : Int32) → (narrow .boolean (.int (0 : Int32)) = .int (0 : Int32) ∧ post (0 : Int32) σ)) ∧ ((σ.1 1 x1.toNatClampNeg) = (6 : Int32) → (wq_Mk_has 36 x1 x2 σ (fun r1 σ1 => ((¬ r1 = 0 → (wq_Mk_has 38 x1 x3 σ1 (fun r2 σ2 => ((¬ r2 = 0 → (narrow .boolean (.int (1 : Int32)) = .int (1 : Int32) ∧ post (1 : Int32) σ2)) ∧ (r2 = 0 → (wq_Pl_childBy x1 (20 : Int32) σ2 (fun r3 σ3 => ((r3 = (-1 : Int32) → (narrow .boolean (.int (0 : Int32)) = .int (0 : Int32) ∧ post (0 : Int32) σ3)) ∧ (¬ r3 = (-1 : Int32) → (narrow .boolean (.int (1 : Int32)) = .int (1 : Int32) ∧ post (1 : Int32) σ3)))))))))) ∧ (r1 = 0 → (narrow .boolean (.int (0 : Int32)) = .int (0 : Int32) ∧ post (0 : Int32) σ1))))))))
set_option maxRecDepth 100000 in
set_option maxHeartbeats 4000000 in
theorem b_Vd_holdsAndEvaluates_0 {p : Program} {l : Launch} {e : Env} {s : State} {m : MethodId} {args : Array Value} {below : List Frame} {meth : Method} {c : Code} {D : va_G} {g : Gm} {A : Nat → Prop} {post : Int32 → Sg → Prop} (C : kC p s m args meth c k_Vd_holdsAndEvaluates 4 (some .boolean) GW R_Vd D vwCl g (Zk g) A) (x1 : Int32) (x2 : Int32) (x3 : Int32) (σ : Sg) (H : Heap) (locs : List Loc) (ls : Array Slot) (hl : lv_has ls 4 [(0, .ref (g.1 35)), (1, .int x1), (2, .int x2), (3, .int x3)]) (hst : Wst D vwCl (WS g) A s σ H locs) (h : wq_Vd_holdsAndEvaluates x1 x2 x3 σ post) : W p l e { frames := 1, cells := 0, slots := 0, locals := 24 } s m args below meth c H locs 0 0 (MQ below (QiW D vwCl (WS g) post A) args s 0 0 A) (F0 m 0 ls []) := by
  obtain ⟨hx, hb, hr, hml, hown, hts, hlocks, hK, hZ, hA⟩ := C
  unfold wq_Vd_holdsAndEvaluates at h
  refine lv_aload_n hx hb d_Vd_holdsAndEvaluates_0 rfl (lv_at hl 0 rfl) ?_
  refine va_get (D := D) (ci := 6) (C := R_Vd) (T := T_Vd) (N := 6) hx hb hts in_Vd hown hK hst.1 35 (WS_o35 g σ) rfl 1 (by decide) (hts _ gw302) (fun _ h9 => h9) rfl d_Vd_holdsAndEvaluates_1 ?_
  refine va_get (D := D) (ci := 0) (C := R_Tr) (T := T_Tr) (N := 12) hx hb hts in_Tr hown hK hst.1 0 (WS_o0 g σ) rfl 1 (by decide) (hts _ gw133) (fun _ h9 => h9) rfl d_Vd_holdsAndEvaluates_4 ?_
  refine lv_iload_n hx hb d_Vd_holdsAndEvaluates_7 rfl (lv_at hl 1 rfl) ?_
  obtain ⟨hi, h⟩ := h
  refine va_iald hx hb hK hst.1 1 0 (WS_a1 g σ) rfl hi d_Vd_holdsAndEvaluates_8 ?_
  refine lv_bipush (v := (6 : Int32)) hx hb d_Vd_holdsAndEvaluates_9 (by decide) ?_
  refine lv_icmp_ne (tgt := 26) hx hb d_Vd_holdsAndEvaluates_11 (by decide) (fun hc => ?_) (fun hc => ?_)
  · replace h := h.1 hc
    refine lv_iconst (v := (0 : Int32)) hx hb d_Vd_holdsAndEvaluates_26 (by decide) ?_
    exact kw_zret hx hb hr hlocks hst h d_Vd_holdsAndEvaluates_27
  · replace h := h.2 hc
    refine lv_aload_n hx hb d_Vd_holdsAndEvaluates_14 rfl (lv_at hl 0 rfl) ?_
    refine va_get (D := D) (ci := 6) (C := R_Vd) (T := T_Vd) (N := 6) hx hb hts in_Vd hown hK hst.1 35 (WS_o35 g σ) rfl 4 (by decide) (hts _ gw310) (fun _ h9 => h9) rfl d_Vd_holdsAndEvaluates_15 ?_
    refine lv_iload_n hx hb d_Vd_holdsAndEvaluates_18 rfl (lv_at hl 1 rfl) ?_
    refine lv_iload_n hx hb d_Vd_holdsAndEvaluates_19 rfl (lv_at hl 2 rfl) ?_
    refine kw_calli (va_runV (As := [.int x1, .int x2]) (rest := []) (b := g.1 36) ⟨hx, hb, hml, hown, hts⟩ (c_Mk_has_36 l x1 x2 h) (cwV 2 hts (gd_v gw823 gw824 gw825 gw12 gw826) rfl rfl rfl (by decide +kernel) ⟨Nat.le_of_ble_eq_true rfl, Nat.le_of_ble_eq_true rfl⟩) ⟨kw_blind (Zk_ok g), va_recv hK hst.1 rfl (WS_o36 g σ), kw_pre (Zk_ok g) hK hZ hA hst⟩ rfl rfl hl.1 rfl (lv_room (Nat.le_of_ble_eq_true rfl)) d_Vd_holdsAndEvaluates_20 ⟨Nat.le_of_ble_eq_true rfl, Nat.le_of_ble_eq_true rfl⟩) hst hA (fun r1 σ1 H locs h hst => ?_)
    refine lv_if_ne (tgt := 28) hx hb d_Vd_holdsAndEvaluates_23 (by decide) (fun hc => ?_) (fun hc => ?_)
    · replace h := h.1 hc
      refine lv_aload_n hx hb d_Vd_holdsAndEvaluates_28 rfl (lv_at hl 0 rfl) ?_
      refine va_get (D := D) (ci := 6) (C := R_Vd) (T := T_Vd) (N := 6) hx hb hts in_Vd hown hK hst.1 35 (WS_o35 g σ1) rfl 5 (by decide) (hts _ gw311) (fun _ h9 => h9) rfl d_Vd_holdsAndEvaluates_29 ?_
      refine lv_iload_n hx hb d_Vd_holdsAndEvaluates_32 rfl (lv_at hl 1 rfl) ?_
      refine lv_iload_n hx hb d_Vd_holdsAndEvaluates_33 rfl (lv_at hl 3 rfl) ?_
      refine kw_calli (va_runV (As := [.int x1, .int x3]) (rest := []) (b := g.1 38) ⟨hx, hb, hml, hown, hts⟩ (c_Mk_has_38 l x1 x3 h) (cwV 2 hts (gd_v gw823 gw824 gw825 gw12 gw826) rfl rfl rfl (by decide +kernel) ⟨Nat.le_of_ble_eq_true rfl, Nat.le_of_ble_eq_true rfl⟩) ⟨kw_blind (Zk_ok g), va_recv hK hst.1 rfl (WS_o38 g σ1), kw_pre (Zk_ok g) hK hZ hA hst⟩ rfl rfl hl.1 rfl (lv_room (Nat.le_of_ble_eq_true rfl)) d_Vd_holdsAndEvaluates_34 ⟨Nat.le_of_ble_eq_true rfl, Nat.le_of_ble_eq_true rfl⟩) hst hA (fun r2 σ2 H locs h hst => ?_)
      refine lv_if_ne (tgt := 54) hx hb d_Vd_holdsAndEvaluates_37 (by decide) (fun hc => ?_) (fun hc => ?_)
      · replace h := h.1 hc
        refine lv_iconst (v := (1 : Int32)) hx hb d_Vd_holdsAndEvaluates_54 (by decide) ?_
        refine lv_goto (tgt := 59) hx hb d_Vd_holdsAndEvaluates_55 (by decide) ?_
        exact kw_zret hx hb hr hlocks hst h d_Vd_holdsAndEvaluates_59
      · replace h := h.2 hc
        refine lv_aload_n hx hb d_Vd_holdsAndEvaluates_40 rfl (lv_at hl 0 rfl) ?_
        refine va_get (D := D) (ci := 6) (C := R_Vd) (T := T_Vd) (N := 6) hx hb hts in_Vd hown hK hst.1 35 (WS_o35 g σ2) rfl 0 (by decide) (hts _ gw299) (fun _ h9 => h9) rfl d_Vd_holdsAndEvaluates_41 ?_
        refine lv_iload_n hx hb d_Vd_holdsAndEvaluates_44 rfl (lv_at hl 1 rfl) ?_
        refine lv_bipush (v := (20 : Int32)) hx hb d_Vd_holdsAndEvaluates_45 (by decide) ?_
        refine kw_calli (va_runV (As := [.int x1, .int (20 : Int32)]) (rest := []) (b := g.1 29) ⟨hx, hb, hml, hown, hts⟩ (c_Pl_childBy l x1 (20 : Int32) h) (cwV 2 hts (gd_v gw836 gw758 gw759 gw10 gw760) rfl rfl rfl (by decide +kernel) ⟨Nat.le_of_ble_eq_true rfl, Nat.le_of_ble_eq_true rfl⟩) ⟨kw_blind (Zk_ok g), va_recv hK hst.1 rfl (WS_o29 g σ2), kw_pre (Zk_ok g) hK hZ hA hst⟩ rfl rfl hl.1 rfl (lv_room (Nat.le_of_ble_eq_true rfl)) d_Vd_holdsAndEvaluates_47 ⟨Nat.le_of_ble_eq_true rfl, Nat.le_of_ble_eq_true rfl⟩) hst hA (fun r3 σ3 H locs h hst => ?_)
        refine lv_iconst (v := (-1 : Int32)) hx hb d_Vd_holdsAndEvaluates_50 (by decide) ?_
        refine lv_icmp_eq (tgt := 58) hx hb d_Vd_holdsAndEvaluates_51 (by decide) (fun hc => ?_) (fun hc => ?_)
        · replace h := h.1 hc
          refine lv_iconst (v := (0 : Int32)) hx hb d_Vd_holdsAndEvaluates_58 (by decide) ?_
          exact kw_zret hx hb hr hlocks hst h d_Vd_holdsAndEvaluates_59
        · replace h := h.2 hc
          refine lv_iconst (v := (1 : Int32)) hx hb d_Vd_holdsAndEvaluates_54 (by decide) ?_
          refine lv_goto (tgt := 59) hx hb d_Vd_holdsAndEvaluates_55 (by decide) ?_
          exact kw_zret hx hb hr hlocks hst h d_Vd_holdsAndEvaluates_59
    · replace h := h.2 hc
      refine lv_iconst (v := (0 : Int32)) hx hb d_Vd_holdsAndEvaluates_26 (by decide) ?_
      exact kw_zret hx hb hr hlocks hst h d_Vd_holdsAndEvaluates_27
set_option maxRecDepth 100000 in
set_option maxHeartbeats 4000000 in
theorem c_Vd_holdsAndEvaluates (l : Launch) {D : va_G} {g : Gm} {sz : Nat} (x1 : Int32) (x2 : Int32) (x3 : Int32) {σ : Sg} {post : Int32 → Sg → Prop} (h : wq_Vd_holdsAndEvaluates x1 x2 x3 σ post) : Met l y_Vd_holdsAndEvaluates (.code y_Vd_holdsAndEvaluates k_Vd_holdsAndEvaluates 4 (some .boolean) :: GW) { frames := 1, cells := 0, slots := 0, locals := 24 } (PcW D vwCl (WS g) g (Zk g) σ sz [.ref (g.1 35), .int x1, .int x2, .int x3]) (QiW D vwCl (WS g) post (va_A (WS g σ) sz)) 0 0 (va_A (WS g σ) sz) := by
  refine kw_entry (own := R_Vd) (by decide) rfl rfl (Nat.le_of_ble_eq_true rfl) ?_
  intro p e s m below meth c ls hsz C hin hl hst
  exact b_Vd_holdsAndEvaluates_0 C x1 x2 x3 σ _ _ ls hl hst h
/-! SchemaDesk$Verdicts.nodeFor (IIII)I -/
abbrev k_Vd_nodeFor : ByteArray := prog_9_method_9_code
abbrev y_Vd_nodeFor : MethodName := ⟨"SchemaDesk$Verdicts", "nodeFor", "(IIII)I"⟩
theorem d_Vd_nodeFor_0 : decode k_Vd_nodeFor 0 = .ok (.aload_n 0, 1) := by decide +kernel
theorem d_Vd_nodeFor_1 : decode k_Vd_nodeFor 1 = .ok (.getfield 21, 3) := by decide +kernel
theorem d_Vd_nodeFor_4 : decode k_Vd_nodeFor 4 = .ok (.getfield 86, 3) := by decide +kernel
theorem d_Vd_nodeFor_7 : decode k_Vd_nodeFor 7 = .ok (.iload_n 2, 1) := by decide +kernel
theorem d_Vd_nodeFor_8 : decode k_Vd_nodeFor 8 = .ok (.iaload, 1) := by decide +kernel
theorem d_Vd_nodeFor_9 : decode k_Vd_nodeFor 9 = .ok (.istore 5, 2) := by decide +kernel
theorem d_Vd_nodeFor_11 : decode k_Vd_nodeFor 11 = .ok (.aload_n 0, 1) := by decide +kernel
theorem d_Vd_nodeFor_12 : decode k_Vd_nodeFor 12 = .ok (.getfield 32, 3) := by decide +kernel
theorem d_Vd_nodeFor_15 : decode k_Vd_nodeFor 15 = .ok (.getfield 59, 3) := by decide +kernel
theorem d_Vd_nodeFor_18 : decode k_Vd_nodeFor 18 = .ok (.iload_n 3, 1) := by decide +kernel
theorem d_Vd_nodeFor_19 : decode k_Vd_nodeFor 19 = .ok (.iaload, 1) := by decide +kernel
theorem d_Vd_nodeFor_20 : decode k_Vd_nodeFor 20 = .ok (.iconst 5, 1) := by decide +kernel
theorem d_Vd_nodeFor_21 : decode k_Vd_nodeFor 21 = .ok (.if_icmp .ne 16, 3) := by decide +kernel
theorem d_Vd_nodeFor_24 : decode k_Vd_nodeFor 24 = .ok (.iload 5, 2) := by decide +kernel
theorem d_Vd_nodeFor_26 : decode k_Vd_nodeFor 26 = .ok (.bipush 14, 2) := by decide +kernel
theorem d_Vd_nodeFor_28 : decode k_Vd_nodeFor 28 = .ok (.if_icmp .ne 7, 3) := by decide +kernel
theorem d_Vd_nodeFor_31 : decode k_Vd_nodeFor 31 = .ok (.iload_n 2, 1) := by decide +kernel
theorem d_Vd_nodeFor_32 : decode k_Vd_nodeFor 32 = .ok (.goto 4, 3) := by decide +kernel
theorem d_Vd_nodeFor_35 : decode k_Vd_nodeFor 35 = .ok (.iconst (-1), 1) := by decide +kernel
theorem d_Vd_nodeFor_36 : decode k_Vd_nodeFor 36 = .ok (.ireturn, 1) := by decide +kernel
theorem d_Vd_nodeFor_37 : decode k_Vd_nodeFor 37 = .ok (.aload_n 0, 1) := by decide +kernel
theorem d_Vd_nodeFor_38 : decode k_Vd_nodeFor 38 = .ok (.getfield 32, 3) := by decide +kernel
theorem d_Vd_nodeFor_41 : decode k_Vd_nodeFor 41 = .ok (.getfield 59, 3) := by decide +kernel
theorem d_Vd_nodeFor_44 : decode k_Vd_nodeFor 44 = .ok (.iload_n 3, 1) := by decide +kernel
theorem d_Vd_nodeFor_45 : decode k_Vd_nodeFor 45 = .ok (.iaload, 1) := by decide +kernel
theorem d_Vd_nodeFor_46 : decode k_Vd_nodeFor 46 = .ok (.bipush 6, 2) := by decide +kernel
theorem d_Vd_nodeFor_48 : decode k_Vd_nodeFor 48 = .ok (.if_icmp .eq 5, 3) := by decide +kernel
theorem d_Vd_nodeFor_51 : decode k_Vd_nodeFor 51 = .ok (.iconst (-1), 1) := by decide +kernel
theorem d_Vd_nodeFor_52 : decode k_Vd_nodeFor 52 = .ok (.ireturn, 1) := by decide +kernel
theorem d_Vd_nodeFor_53 : decode k_Vd_nodeFor 53 = .ok (.iload 5, 2) := by decide +kernel
theorem d_Vd_nodeFor_55 : decode k_Vd_nodeFor 55 = .ok (.bipush 20, 2) := by decide +kernel
theorem d_Vd_nodeFor_57 : decode k_Vd_nodeFor 57 = .ok (.if_icmp .ne 22, 3) := by decide +kernel
theorem d_Vd_nodeFor_60 : decode k_Vd_nodeFor 60 = .ok (.aload_n 0, 1) := by decide +kernel
theorem d_Vd_nodeFor_61 : decode k_Vd_nodeFor 61 = .ok (.getfield 18, 3) := by decide +kernel
theorem d_Vd_nodeFor_64 : decode k_Vd_nodeFor 64 = .ok (.iload_n 1, 1) := by decide +kernel
theorem d_Vd_nodeFor_65 : decode k_Vd_nodeFor 65 = .ok (.iload 4, 2) := by decide +kernel
theorem d_Vd_nodeFor_67 : decode k_Vd_nodeFor 67 = .ok (.invokevirtual 62, 3) := by decide +kernel
theorem d_Vd_nodeFor_70 : decode k_Vd_nodeFor 70 = .ok (.ifCond .eq 7, 3) := by decide +kernel
theorem d_Vd_nodeFor_73 : decode k_Vd_nodeFor 73 = .ok (.iconst (-1), 1) := by decide +kernel
theorem d_Vd_nodeFor_74 : decode k_Vd_nodeFor 74 = .ok (.goto 4, 3) := by decide +kernel
theorem d_Vd_nodeFor_77 : decode k_Vd_nodeFor 77 = .ok (.iload_n 2, 1) := by decide +kernel
theorem d_Vd_nodeFor_78 : decode k_Vd_nodeFor 78 = .ok (.ireturn, 1) := by decide +kernel
theorem d_Vd_nodeFor_79 : decode k_Vd_nodeFor 79 = .ok (.iload 5, 2) := by decide +kernel
theorem d_Vd_nodeFor_81 : decode k_Vd_nodeFor 81 = .ok (.bipush 12, 2) := by decide +kernel
theorem d_Vd_nodeFor_83 : decode k_Vd_nodeFor 83 = .ok (.if_icmp .eq 12, 3) := by decide +kernel
theorem d_Vd_nodeFor_86 : decode k_Vd_nodeFor 86 = .ok (.iload 5, 2) := by decide +kernel
theorem d_Vd_nodeFor_88 : decode k_Vd_nodeFor 88 = .ok (.bipush 13, 2) := by decide +kernel
theorem d_Vd_nodeFor_90 : decode k_Vd_nodeFor 90 = .ok (.if_icmp .eq 5, 3) := by decide +kernel
theorem d_Vd_nodeFor_93 : decode k_Vd_nodeFor 93 = .ok (.iconst (-1), 1) := by decide +kernel
theorem d_Vd_nodeFor_94 : decode k_Vd_nodeFor 94 = .ok (.ireturn, 1) := by decide +kernel
theorem d_Vd_nodeFor_95 : decode k_Vd_nodeFor 95 = .ok (.aload_n 0, 1) := by decide +kernel
theorem d_Vd_nodeFor_96 : decode k_Vd_nodeFor 96 = .ok (.getfield 21, 3) := by decide +kernel
theorem d_Vd_nodeFor_99 : decode k_Vd_nodeFor 99 = .ok (.getfield 106, 3) := by decide +kernel
theorem d_Vd_nodeFor_102 : decode k_Vd_nodeFor 102 = .ok (.iload_n 1, 1) := by decide +kernel
theorem d_Vd_nodeFor_103 : decode k_Vd_nodeFor 103 = .ok (.iaload, 1) := by decide +kernel
theorem d_Vd_nodeFor_104 : decode k_Vd_nodeFor 104 = .ok (.istore 6, 2) := by decide +kernel
theorem d_Vd_nodeFor_106 : decode k_Vd_nodeFor 106 = .ok (.iload 6, 2) := by decide +kernel
theorem d_Vd_nodeFor_108 : decode k_Vd_nodeFor 108 = .ok (.iconst (-1), 1) := by decide +kernel
theorem d_Vd_nodeFor_109 : decode k_Vd_nodeFor 109 = .ok (.if_icmp .ne 7, 3) := by decide +kernel
theorem d_Vd_nodeFor_112 : decode k_Vd_nodeFor 112 = .ok (.iconst (-1), 1) := by decide +kernel
theorem d_Vd_nodeFor_113 : decode k_Vd_nodeFor 113 = .ok (.goto 31, 3) := by decide +kernel
theorem d_Vd_nodeFor_116 : decode k_Vd_nodeFor 116 = .ok (.aload_n 0, 1) := by decide +kernel
theorem d_Vd_nodeFor_117 : decode k_Vd_nodeFor 117 = .ok (.getfield 31, 3) := by decide +kernel
theorem d_Vd_nodeFor_120 : decode k_Vd_nodeFor 120 = .ok (.iload 6, 2) := by decide +kernel
theorem d_Vd_nodeFor_122 : decode k_Vd_nodeFor 122 = .ok (.aload_n 0, 1) := by decide +kernel
theorem d_Vd_nodeFor_123 : decode k_Vd_nodeFor 123 = .ok (.getfield 32, 3) := by decide +kernel
theorem d_Vd_nodeFor_126 : decode k_Vd_nodeFor 126 = .ok (.getfield 109, 3) := by decide +kernel
theorem d_Vd_nodeFor_129 : decode k_Vd_nodeFor 129 = .ok (.aload_n 0, 1) := by decide +kernel
theorem d_Vd_nodeFor_130 : decode k_Vd_nodeFor 130 = .ok (.getfield 32, 3) := by decide +kernel
theorem d_Vd_nodeFor_133 : decode k_Vd_nodeFor 133 = .ok (.getfield 113, 3) := by decide +kernel
theorem d_Vd_nodeFor_136 : decode k_Vd_nodeFor 136 = .ok (.iload 4, 2) := by decide +kernel
theorem d_Vd_nodeFor_138 : decode k_Vd_nodeFor 138 = .ok (.iaload, 1) := by decide +kernel
theorem d_Vd_nodeFor_139 : decode k_Vd_nodeFor 139 = .ok (.iconst 1, 1) := by decide +kernel
theorem d_Vd_nodeFor_140 : decode k_Vd_nodeFor 140 = .ok (.iadd, 1) := by decide +kernel
theorem d_Vd_nodeFor_141 : decode k_Vd_nodeFor 141 = .ok (.invokevirtual 116, 3) := by decide +kernel
theorem d_Vd_nodeFor_144 : decode k_Vd_nodeFor 144 = .ok (.istore 7, 2) := by decide +kernel
theorem d_Vd_nodeFor_146 : decode k_Vd_nodeFor 146 = .ok (.iload 5, 2) := by decide +kernel
theorem d_Vd_nodeFor_148 : decode k_Vd_nodeFor 148 = .ok (.bipush 12, 2) := by decide +kernel
theorem d_Vd_nodeFor_150 : decode k_Vd_nodeFor 150 = .ok (.if_icmp .ne 6, 3) := by decide +kernel
theorem d_Vd_nodeFor_153 : decode k_Vd_nodeFor 153 = .ok (.iload 7, 2) := by decide +kernel
theorem d_Vd_nodeFor_155 : decode k_Vd_nodeFor 155 = .ok (.ireturn, 1) := by decide +kernel
theorem d_Vd_nodeFor_156 : decode k_Vd_nodeFor 156 = .ok (.iload 7, 2) := by decide +kernel
theorem d_Vd_nodeFor_158 : decode k_Vd_nodeFor 158 = .ok (.iconst (-1), 1) := by decide +kernel
theorem d_Vd_nodeFor_159 : decode k_Vd_nodeFor 159 = .ok (.if_icmp .ne 7, 3) := by decide +kernel
theorem d_Vd_nodeFor_162 : decode k_Vd_nodeFor 162 = .ok (.iload_n 2, 1) := by decide +kernel
theorem d_Vd_nodeFor_163 : decode k_Vd_nodeFor 163 = .ok (.goto 4, 3) := by decide +kernel
theorem d_Vd_nodeFor_166 : decode k_Vd_nodeFor 166 = .ok (.iconst (-1), 1) := by decide +kernel
theorem d_Vd_nodeFor_167 : decode k_Vd_nodeFor 167 = .ok (.ireturn, 1) := by decide +kernel
theorem gw238 : (Jvm.Cond.fieldLink "SchemaDesk$Verdicts" (86 : Nat) "SchemaDesk$Plan" "word" "[I") ∈ GW := gw_t1 (List.mem_of_getElem? (i := 238) rfl) rfl
theorem gw305 : (Jvm.Cond.fieldLink "SchemaDesk$Verdicts" (32 : Nat) "SchemaDesk$Verdicts" "document" "LSchemaDesk$Tree;") ∈ GW := gw_t2 (List.mem_of_getElem? (i := 65) rfl) rfl
theorem gw246 : (Jvm.Cond.fieldLink "SchemaDesk$Verdicts" (106 : Nat) "SchemaDesk$Plan" "properties" "[I") ∈ GW := gw_t2 (List.mem_of_getElem? (i := 6) rfl) rfl
theorem gw129 : (Jvm.Cond.fieldLink "SchemaDesk$Verdicts" (109 : Nat) "SchemaDesk$Tree" "text" "LSchemaDesk$Text;") ∈ GW := gw_t1 (List.mem_of_getElem? (i := 129) rfl) rfl
theorem gw158 : (Jvm.Cond.fieldLink "SchemaDesk$Verdicts" (113 : Nat) "SchemaDesk$Tree" "name" "[I") ∈ GW := gw_t1 (List.mem_of_getElem? (i := 158) rfl) rfl
theorem gw827 : (Jvm.Cond.methodLink "SchemaDesk$Verdicts" (116 : Nat) ({ cls := "SchemaDesk$Tree", name := "childNamed", desc := "(ILSchemaDesk$Text;I)I" } : Jvm.MethodName)) ∈ GW := gw_t4 (List.mem_of_getElem? (i := 107) rfl) rfl
def wb_Vd_nodeFor_0 (F : Nat → Int32 → Int32 → Int32 → Int32 → Int32 → Int32 → Sg → Prop) (post : Int32 → Sg → Prop) (x1 : Int32) (x2 : Int32) (x3 : Int32) (x4 : Int32) (σ : Sg) : Prop := (vp_in x2 160 ∧ (vp_in x3 80 ∧ ((¬ (σ.1 14 x3.toNatClampNeg) = (5 : Int32) → (vp_in x3 80 ∧ (((σ.1 14 x3.toNatClampNeg) = (6 : Int32) → ((¬ (σ.1 30 x2.toNatClampNeg) = (20 : Int32) → (((σ.1 30 x2.toNatClampNeg) = (12 : Int32) → F 1 x1 x2 0 x4 (σ.1 30 x2.toNatClampNeg) 0 σ) ∧ (¬ (σ.1 30 x2.toNatClampNeg) = (12 : Int32) → (((σ.1 30 x2.toNatClampNeg) = (13 : Int32) → F 1 x1 x2 0 x4 (σ.1 30 x2.toNatClampNeg) 0 σ) ∧ (¬ (σ.1 30 x2.toNatClampNeg) = (13 : Int32) → post (-1 : Int32) σ))))) ∧ ((σ.1 30 x2.toNatClampNeg) = (20 : Int32) → (wq_Mk_has 38 x1 x4 σ (fun r1 σ1 => ((r1 = 0 → post x2 σ1) ∧ (¬ r1 = 0 → post (-1 : Int32) σ1))))))) ∧ (¬ (σ.1 14 x3.toNatClampNeg) = (6 : Int32) → post (-1 : Int32) σ)))) ∧ ((σ.1 14 x3.toNatClampNeg) = (5 : Int32) → ((¬ (σ.1 30 x2.toNatClampNeg) = (14 : Int32) → post (-1 : Int32) σ) ∧ ((σ.1 30 x2.toNatClampNeg) = (14 : Int32) → post x2 σ))))))
def wb_Vd_nodeFor_1 (F : Nat → Int32 → Int32 → Int32 → Int32 → Int32 → Int32 → Sg → Prop) (post : Int32 → Sg → Prop) (x1 : Int32) (x2 : Int32) (x4 : Int32) (x5 : Int32) (σ : Sg) : Prop := (vp_in x1 160 ∧ ((¬ (σ.1 32 x1.toNatClampNeg) = (-1 : Int32) → (vp_in x4 80 ∧ (wq_Tr_childNamed 0 13 (σ.1 32 x1.toNatClampNeg) ((σ.1 19 x4.toNatClampNeg) + (1 : Int32)) σ (fun r1 σ1 => F 2 0 x2 0 0 x5 r1 σ1)))) ∧ ((σ.1 32 x1.toNatClampNeg) = (-1 : Int32) → F 2 0 x2 0 0 x5 (-1 : Int32) σ)))
def wb_Vd_nodeFor_2 (F : Nat → Int32 → Int32 → Int32 → Int32 → Int32 → Int32 → Sg → Prop) (post : Int32 → Sg → Prop) (x2 : Int32) (x5 : Int32) (x7 : Int32) (σ : Sg) : Prop := ((¬ x5 = (12 : Int32) → ((¬ x7 = (-1 : Int32) → post (-1 : Int32) σ) ∧ (x7 = (-1 : Int32) → post x2 σ))) ∧ (x5 = (12 : Int32) → post x7 σ))
def wp_Vd_nodeFor (post : Int32 → Sg → Prop) : Nat → Nat → Int32 → Int32 → Int32 → Int32 → Int32 → Int32 → Sg → Prop
  | 0, _, _, _, _, _, _, _, _ => False
  | n + 1, k, x1, x2, x3, x4, x5, x7, σ => match k with
    | 0 => wb_Vd_nodeFor_0 (wp_Vd_nodeFor post n) post x1 x2 x3 x4 σ
    | 1 => wb_Vd_nodeFor_1 (wp_Vd_nodeFor post n) post x1 x2 x4 x5 σ
    | 2 => wb_Vd_nodeFor_2 (wp_Vd_nodeFor post n) post x2 x5 x7 σ
    | _ => False
def wq_Vd_nodeFor (x1 : Int32) (x2 : Int32) (x3 : Int32) (x4 : Int32) (σ : Sg) (post : Int32 → Sg → Prop) : Prop := ∃ n, wp_Vd_nodeFor post n 0 x1 x2 x3 x4 0 0 σ
def J_Vd_nodeFor_1 (p : Program) (l : Launch) (e : Env) (s : State) (m : MethodId) (args : Array Value) (below : List Frame) (meth : Method) (c : Code) (D : va_G) (g : Gm) (A : Nat → Prop) (post : Int32 → Sg → Prop) (F : Nat → Int32 → Int32 → Int32 → Int32 → Int32 → Int32 → Sg → Prop) : Prop := ∀ (x1 : Int32) (x2 : Int32) (x4 : Int32) (x5 : Int32) (σ : Sg) (H : Heap) (locs : List Loc) (ls : Array Slot), lv_has ls 8 [(0, .ref (g.1 35)), (1, .int x1), (2, .int x2), (4, .int x4), (5, .int x5)] → Wst D vwCl (WS g) A s σ H locs → F 1 x1 x2 0 x4 x5 0 σ → W p l e { frames := 2, cells := 0, slots := 0, locals := 51 } s m args below meth c H locs 0 0 (MQ below (QiW D vwCl (WS g) post A) args s 0 0 A) (F0 m 95 ls [])
def J_Vd_nodeFor_2 (p : Program) (l : Launch) (e : Env) (s : State) (m : MethodId) (args : Array Value) (below : List Frame) (meth : Method) (c : Code) (D : va_G) (g : Gm) (A : Nat → Prop) (post : Int32 → Sg → Prop) (F : Nat → Int32 → Int32 → Int32 → Int32 → Int32 → Int32 → Sg → Prop) : Prop := ∀ (x2 : Int32) (x5 : Int32) (x7 : Int32) (σ : Sg) (H : Heap) (locs : List Loc) (ls : Array Slot), lv_has ls 8 [(2, .int x2), (5, .int x5), (7, .int x7)] → Wst D vwCl (WS g) A s σ H locs → F 2 0 x2 0 0 x5 x7 σ → W p l e { frames := 2, cells := 0, slots := 0, locals := 51 } s m args below meth c H locs 0 0 (MQ below (QiW D vwCl (WS g) post A) args s 0 0 A) (F0 m 146 ls [])
set_option maxRecDepth 100000 in
set_option maxHeartbeats 4000000 in
theorem b_Vd_nodeFor_0 {p : Program} {l : Launch} {e : Env} {s : State} {m : MethodId} {args : Array Value} {below : List Frame} {meth : Method} {c : Code} {D : va_G} {g : Gm} {A : Nat → Prop} {post : Int32 → Sg → Prop} {F : Nat → Int32 → Int32 → Int32 → Int32 → Int32 → Int32 → Sg → Prop} (C : kC p s m args meth c k_Vd_nodeFor 8 (some .int) GW R_Vd D vwCl g (Zk g) A) (j1 : J_Vd_nodeFor_1 p l e s m args below meth c D g A post F) (x1 : Int32) (x2 : Int32) (x3 : Int32) (x4 : Int32) (σ : Sg) (H : Heap) (locs : List Loc) (ls : Array Slot) (hl : lv_has ls 8 [(0, .ref (g.1 35)), (1, .int x1), (2, .int x2), (3, .int x3), (4, .int x4)]) (hst : Wst D vwCl (WS g) A s σ H locs) (h : wb_Vd_nodeFor_0 F post x1 x2 x3 x4 σ) : W p l e { frames := 2, cells := 0, slots := 0, locals := 51 } s m args below meth c H locs 0 0 (MQ below (QiW D vwCl (WS g) post A) args s 0 0 A) (F0 m 0 ls []) := by
  obtain ⟨hx, hb, hr, hml, hown, hts, hlocks, hK, hZ, hA⟩ := C
  unfold wb_Vd_nodeFor_0 at h
  refine lv_aload_n hx hb d_Vd_nodeFor_0 rfl (lv_at hl 0 rfl) ?_
  refine va_get (D := D) (ci := 6) (C := R_Vd) (T := T_Vd) (N := 6) hx hb hts in_Vd hown hK hst.1 35 (WS_o35 g σ) rfl 0 (by decide) (hts _ gw299) (fun _ h9 => h9) rfl d_Vd_nodeFor_1 ?_
  refine va_get (D := D) (ci := 5) (C := R_Pl) (T := T_Pl) (N := 10) hx hb hts in_Pl hown hK hst.1 29 (WS_o29 g σ) rfl 2 (by decide) (hts _ gw238) (fun _ h9 => h9) rfl d_Vd_nodeFor_4 ?_
  refine lv_iload_n hx hb d_Vd_nodeFor_7 rfl (lv_at hl 2 rfl) ?_
  obtain ⟨hi, h⟩ := h
  refine va_iald hx hb hK hst.1 30 0 (WS_a30 g σ) rfl hi d_Vd_nodeFor_8 ?_
  refine lv_istore hx hb d_Vd_nodeFor_9 hl (by decide) rfl (fun ls hl => ?_)
  have hl : lv_has ls 8 [(5, .int (σ.1 30 x2.toNatClampNeg)), (0, .ref (g.1 35)), (1, .int x1), (2, .int x2), (3, .int x3), (4, .int x4)] := hl
  refine lv_aload_n hx hb d_Vd_nodeFor_11 rfl (lv_at hl 1 rfl) ?_
  refine va_get (D := D) (ci := 6) (C := R_Vd) (T := T_Vd) (N := 6) hx hb hts in_Vd hown hK hst.1 35 (WS_o35 g σ) rfl 2 (by decide) (hts _ gw305) (fun _ h9 => h9) rfl d_Vd_nodeFor_12 ?_
  refine va_get (D := D) (ci := 0) (C := R_Tr) (T := T_Tr) (N := 12) hx hb hts in_Tr hown hK hst.1 13 (WS_o13 g σ) rfl 1 (by decide) (hts _ gw133) (fun _ h9 => h9) rfl d_Vd_nodeFor_15 ?_
  refine lv_iload_n hx hb d_Vd_nodeFor_18 rfl (lv_at hl 4 rfl) ?_
  obtain ⟨hi, h⟩ := h
  refine va_iald hx hb hK hst.1 14 0 (WS_a14 g σ) rfl hi d_Vd_nodeFor_19 ?_
  refine lv_iconst (v := (5 : Int32)) hx hb d_Vd_nodeFor_20 (by decide) ?_
  refine lv_icmp_ne (tgt := 37) hx hb d_Vd_nodeFor_21 (by decide) (fun hc => ?_) (fun hc => ?_)
  · replace h := h.1 hc
    refine lv_aload_n hx hb d_Vd_nodeFor_37 rfl (lv_at hl 1 rfl) ?_
    refine va_get (D := D) (ci := 6) (C := R_Vd) (T := T_Vd) (N := 6) hx hb hts in_Vd hown hK hst.1 35 (WS_o35 g σ) rfl 2 (by decide) (hts _ gw305) (fun _ h9 => h9) rfl d_Vd_nodeFor_38 ?_
    refine va_get (D := D) (ci := 0) (C := R_Tr) (T := T_Tr) (N := 12) hx hb hts in_Tr hown hK hst.1 13 (WS_o13 g σ) rfl 1 (by decide) (hts _ gw133) (fun _ h9 => h9) rfl d_Vd_nodeFor_41 ?_
    refine lv_iload_n hx hb d_Vd_nodeFor_44 rfl (lv_at hl 4 rfl) ?_
    obtain ⟨hi, h⟩ := h
    refine va_iald hx hb hK hst.1 14 0 (WS_a14 g σ) rfl hi d_Vd_nodeFor_45 ?_
    refine lv_bipush (v := (6 : Int32)) hx hb d_Vd_nodeFor_46 (by decide) ?_
    refine lv_icmp_eq (tgt := 53) hx hb d_Vd_nodeFor_48 (by decide) (fun hc => ?_) (fun hc => ?_)
    · replace h := h.1 hc
      refine lv_iload hx hb d_Vd_nodeFor_53 (lv_at hl 0 rfl) ?_
      refine lv_bipush (v := (20 : Int32)) hx hb d_Vd_nodeFor_55 (by decide) ?_
      refine lv_icmp_ne (tgt := 79) hx hb d_Vd_nodeFor_57 (by decide) (fun hc => ?_) (fun hc => ?_)
      · replace h := h.1 hc
        refine lv_iload hx hb d_Vd_nodeFor_79 (lv_at hl 0 rfl) ?_
        refine lv_bipush (v := (12 : Int32)) hx hb d_Vd_nodeFor_81 (by decide) ?_
        refine lv_icmp_eq (tgt := 95) hx hb d_Vd_nodeFor_83 (by decide) (fun hc => ?_) (fun hc => ?_)
        · replace h := h.1 hc
          exact j1 x1 x2 x4 (σ.1 30 x2.toNatClampNeg) σ _ _ _ (lv_sub hl [1, 2, 3, 5, 0] rfl) hst h
        · replace h := h.2 hc
          refine lv_iload hx hb d_Vd_nodeFor_86 (lv_at hl 0 rfl) ?_
          refine lv_bipush (v := (13 : Int32)) hx hb d_Vd_nodeFor_88 (by decide) ?_
          refine lv_icmp_eq (tgt := 95) hx hb d_Vd_nodeFor_90 (by decide) (fun hc => ?_) (fun hc => ?_)
          · replace h := h.1 hc
            exact j1 x1 x2 x4 (σ.1 30 x2.toNatClampNeg) σ _ _ _ (lv_sub hl [1, 2, 3, 5, 0] rfl) hst h
          · replace h := h.2 hc
            refine lv_iconst (v := (-1 : Int32)) hx hb d_Vd_nodeFor_93 (by decide) ?_
            exact kw_iret hx hb hr hlocks hst h d_Vd_nodeFor_94
      · replace h := h.2 hc
        refine lv_aload_n hx hb d_Vd_nodeFor_60 rfl (lv_at hl 1 rfl) ?_
        refine va_get (D := D) (ci := 6) (C := R_Vd) (T := T_Vd) (N := 6) hx hb hts in_Vd hown hK hst.1 35 (WS_o35 g σ) rfl 5 (by decide) (hts _ gw311) (fun _ h9 => h9) rfl d_Vd_nodeFor_61 ?_
        refine lv_iload_n hx hb d_Vd_nodeFor_64 rfl (lv_at hl 2 rfl) ?_
        refine lv_iload hx hb d_Vd_nodeFor_65 (lv_at hl 5 rfl) ?_
        refine kw_calli (va_runV (As := [.int x1, .int x4]) (rest := []) (b := g.1 38) ⟨hx, hb, hml, hown, hts⟩ (c_Mk_has_38 l x1 x4 h) (cwV 2 hts (gd_v gw823 gw824 gw825 gw12 gw826) rfl rfl rfl (by decide +kernel) ⟨Nat.le_of_ble_eq_true rfl, Nat.le_of_ble_eq_true rfl⟩) ⟨kw_blind (Zk_ok g), va_recv hK hst.1 rfl (WS_o38 g σ), kw_pre (Zk_ok g) hK hZ hA hst⟩ rfl rfl hl.1 rfl (lv_room (Nat.le_of_ble_eq_true rfl)) d_Vd_nodeFor_67 ⟨Nat.le_of_ble_eq_true rfl, Nat.le_of_ble_eq_true rfl⟩) hst hA (fun r1 σ1 H locs h hst => ?_)
        refine lv_if_eq (tgt := 77) hx hb d_Vd_nodeFor_70 (by decide) (fun hc => ?_) (fun hc => ?_)
        · replace h := h.1 hc
          refine lv_iload_n hx hb d_Vd_nodeFor_77 rfl (lv_at hl 3 rfl) ?_
          exact kw_iret hx hb hr hlocks hst h d_Vd_nodeFor_78
        · replace h := h.2 hc
          refine lv_iconst (v := (-1 : Int32)) hx hb d_Vd_nodeFor_73 (by decide) ?_
          refine lv_goto (tgt := 78) hx hb d_Vd_nodeFor_74 (by decide) ?_
          exact kw_iret hx hb hr hlocks hst h d_Vd_nodeFor_78
    · replace h := h.2 hc
      refine lv_iconst (v := (-1 : Int32)) hx hb d_Vd_nodeFor_51 (by decide) ?_
      exact kw_iret hx hb hr hlocks hst h d_Vd_nodeFor_52
  · replace h := h.2 hc
    refine lv_iload hx hb d_Vd_nodeFor_24 (lv_at hl 0 rfl) ?_
    refine lv_bipush (v := (14 : Int32)) hx hb d_Vd_nodeFor_26 (by decide) ?_
    refine lv_icmp_ne (tgt := 35) hx hb d_Vd_nodeFor_28 (by decide) (fun hc => ?_) (fun hc => ?_)
    · replace h := h.1 hc
      refine lv_iconst (v := (-1 : Int32)) hx hb d_Vd_nodeFor_35 (by decide) ?_
      exact kw_iret hx hb hr hlocks hst h d_Vd_nodeFor_36
    · replace h := h.2 hc
      refine lv_iload_n hx hb d_Vd_nodeFor_31 rfl (lv_at hl 3 rfl) ?_
      refine lv_goto (tgt := 36) hx hb d_Vd_nodeFor_32 (by decide) ?_
      exact kw_iret hx hb hr hlocks hst h d_Vd_nodeFor_36
set_option maxRecDepth 100000 in
set_option maxHeartbeats 4000000 in
theorem b_Vd_nodeFor_1 {p : Program} {l : Launch} {e : Env} {s : State} {m : MethodId} {args : Array Value} {below : List Frame} {meth : Method} {c : Code} {D : va_G} {g : Gm} {A : Nat → Prop} {post : Int32 → Sg → Prop} {F : Nat → Int32 → Int32 → Int32 → Int32 → Int32 → Int32 → Sg → Prop} (C : kC p s m args meth c k_Vd_nodeFor 8 (some .int) GW R_Vd D vwCl g (Zk g) A) (j2 : J_Vd_nodeFor_2 p l e s m args below meth c D g A post F) (x1 : Int32) (x2 : Int32) (x4 : Int32) (x5 : Int32) (σ : Sg) (H : Heap) (locs : List Loc) (ls : Array Slot) (hl : lv_has ls 8 [(0, .ref (g.1 35)), (1, .int x1), (2, .int x2), (4, .int x4), (5, .int x5)]) (hst : Wst D vwCl (WS g) A s σ H locs) (h : wb_Vd_nodeFor_1 F post x1 x2 x4 x5 σ) : W p l e { frames := 2, cells := 0, slots := 0, locals := 51 } s m args below meth c H locs 0 0 (MQ below (QiW D vwCl (WS g) post A) args s 0 0 A) (F0 m 95 ls []) := by
  obtain ⟨hx, hb, hr, hml, hown, hts, hlocks, hK, hZ, hA⟩ := C
  unfold wb_Vd_nodeFor_1 at h
  refine lv_aload_n hx hb d_Vd_nodeFor_95 rfl (lv_at hl 0 rfl) ?_
  refine va_get (D := D) (ci := 6) (C := R_Vd) (T := T_Vd) (N := 6) hx hb hts in_Vd hown hK hst.1 35 (WS_o35 g σ) rfl 0 (by decide) (hts _ gw299) (fun _ h9 => h9) rfl d_Vd_nodeFor_96 ?_
  refine va_get (D := D) (ci := 5) (C := R_Pl) (T := T_Pl) (N := 10) hx hb hts in_Pl hown hK hst.1 29 (WS_o29 g σ) rfl 4 (by decide) (hts _ gw246) (fun _ h9 => h9) rfl d_Vd_nodeFor_99 ?_
  refine lv_iload_n hx hb d_Vd_nodeFor_102 rfl (lv_at hl 1 rfl) ?_
  obtain ⟨hi, h⟩ := h
  refine va_iald hx hb hK hst.1 32 0 (WS_a32 g σ) rfl hi d_Vd_nodeFor_103 ?_
  refine lv_istore hx hb d_Vd_nodeFor_104 hl (by decide) rfl (fun ls hl => ?_)
  have hl : lv_has ls 8 [(6, .int (σ.1 32 x1.toNatClampNeg)), (0, .ref (g.1 35)), (1, .int x1), (2, .int x2), (4, .int x4), (5, .int x5)] := hl
  refine lv_iload hx hb d_Vd_nodeFor_106 (lv_at hl 0 rfl) ?_
  refine lv_iconst (v := (-1 : Int32)) hx hb d_Vd_nodeFor_108 (by decide) ?_
  refine lv_icmp_ne (tgt := 116) hx hb d_Vd_nodeFor_109 (by decide) (fun hc => ?_) (fun hc => ?_)
  · replace h := h.1 hc
    refine lv_aload_n hx hb d_Vd_nodeFor_116 rfl (lv_at hl 1 rfl) ?_
    refine va_get (D := D) (ci := 6) (C := R_Vd) (T := T_Vd) (N := 6) hx hb hts in_Vd hown hK hst.1 35 (WS_o35 g σ) rfl 1 (by decide) (hts _ gw302) (fun _ h9 => h9) rfl d_Vd_nodeFor_117 ?_
    refine lv_iload hx hb d_Vd_nodeFor_120 (lv_at hl 0 rfl) ?_
    refine lv_aload_n hx hb d_Vd_nodeFor_122 rfl (lv_at hl 1 rfl) ?_
    refine va_get (D := D) (ci := 6) (C := R_Vd) (T := T_Vd) (N := 6) hx hb hts in_Vd hown hK hst.1 35 (WS_o35 g σ) rfl 2 (by decide) (hts _ gw305) (fun _ h9 => h9) rfl d_Vd_nodeFor_123 ?_
    refine va_get (D := D) (ci := 0) (C := R_Tr) (T := T_Tr) (N := 12) hx hb hts in_Tr hown hK hst.1 13 (WS_o13 g σ) rfl 0 (by decide) (hts _ gw129) (fun _ h9 => h9) rfl d_Vd_nodeFor_126 ?_
    refine lv_aload_n hx hb d_Vd_nodeFor_129 rfl (lv_at hl 1 rfl) ?_
    refine va_get (D := D) (ci := 6) (C := R_Vd) (T := T_Vd) (N := 6) hx hb hts in_Vd hown hK hst.1 35 (WS_o35 g σ) rfl 2 (by decide) (hts _ gw305) (fun _ h9 => h9) rfl d_Vd_nodeFor_130 ?_
    refine va_get (D := D) (ci := 0) (C := R_Tr) (T := T_Tr) (N := 12) hx hb hts in_Tr hown hK hst.1 13 (WS_o13 g σ) rfl 6 (by decide) (hts _ gw158) (fun _ h9 => h9) rfl d_Vd_nodeFor_133 ?_
    refine lv_iload hx hb d_Vd_nodeFor_136 (lv_at hl 4 rfl) ?_
    obtain ⟨hi, h⟩ := h
    refine va_iald hx hb hK hst.1 19 0 (WS_a19 g σ) rfl hi d_Vd_nodeFor_138 ?_
    refine lv_iconst (v := (1 : Int32)) hx hb d_Vd_nodeFor_139 (by decide) ?_
    refine lv_iadd hx hb d_Vd_nodeFor_140 ?_
    refine kw_calli (va_runV (As := [.int (σ.1 32 x1.toNatClampNeg), .ref (g.1 23), .int ((σ.1 19 x4.toNatClampNeg) + (1 : Int32))]) (rest := []) (b := g.1 0) ⟨hx, hb, hml, hown, hts⟩ (c_Tr_childNamed_0_13 l (σ.1 32 x1.toNatClampNeg) ((σ.1 19 x4.toNatClampNeg) + (1 : Int32)) h) (cwV 3 hts (gd_v gw827 gw670 gw671 gw7 gw672) rfl rfl rfl (by decide +kernel) ⟨Nat.le_of_ble_eq_true rfl, Nat.le_of_ble_eq_true rfl⟩) ⟨kw_blind (Zk_ok g), va_recv hK hst.1 rfl (WS_o0 g σ), kw_pre (Zk_ok g) hK hZ hA hst⟩ rfl rfl hl.1 rfl (lv_room (Nat.le_of_ble_eq_true rfl)) d_Vd_nodeFor_141 ⟨Nat.le_of_ble_eq_true rfl, Nat.le_of_ble_eq_true rfl⟩) hst hA (fun r1 σ1 H locs h hst => ?_)
    refine lv_istore hx hb d_Vd_nodeFor_144 hl (by decide) rfl (fun ls hl => ?_)
    have hl : lv_has ls 8 [(7, .int r1), (6, .int (σ.1 32 x1.toNatClampNeg)), (0, .ref (g.1 35)), (1, .int x1), (2, .int x2), (4, .int x4), (5, .int x5)] := hl
    exact j2 x2 x5 r1 σ1 _ _ _ (lv_sub hl [4, 6, 0] rfl) hst h
  · replace h := h.2 hc
    refine lv_iconst (v := (-1 : Int32)) hx hb d_Vd_nodeFor_112 (by decide) ?_
    refine lv_goto (tgt := 144) hx hb d_Vd_nodeFor_113 (by decide) ?_
    refine lv_istore hx hb d_Vd_nodeFor_144 hl (by decide) rfl (fun ls hl => ?_)
    have hl : lv_has ls 8 [(7, .int (-1 : Int32)), (6, .int (σ.1 32 x1.toNatClampNeg)), (0, .ref (g.1 35)), (1, .int x1), (2, .int x2), (4, .int x4), (5, .int x5)] := hl
    exact j2 x2 x5 (-1 : Int32) σ _ _ _ (lv_sub hl [4, 6, 0] rfl) hst h
set_option maxRecDepth 100000 in
set_option maxHeartbeats 4000000 in
theorem b_Vd_nodeFor_2 {p : Program} {l : Launch} {e : Env} {s : State} {m : MethodId} {args : Array Value} {below : List Frame} {meth : Method} {c : Code} {D : va_G} {g : Gm} {A : Nat → Prop} {post : Int32 → Sg → Prop} {F : Nat → Int32 → Int32 → Int32 → Int32 → Int32 → Int32 → Sg → Prop} (C : kC p s m args meth c k_Vd_nodeFor 8 (some .int) GW R_Vd D vwCl g (Zk g) A) (x2 : Int32) (x5 : Int32) (x7 : Int32) (σ : Sg) (H : Heap) (locs : List Loc) (ls : Array Slot) (hl : lv_has ls 8 [(2, .int x2), (5, .int x5), (7, .int x7)]) (hst : Wst D vwCl (WS g) A s σ H locs) (h : wb_Vd_nodeFor_2 F post x2 x5 x7 σ) : W p l e { frames := 2, cells := 0, slots := 0, locals := 51 } s m args below meth c H locs 0 0 (MQ below (QiW D vwCl (WS g) post A) args s 0 0 A) (F0 m 146 ls []) := by
  obtain ⟨hx, hb, hr, hml, hown, hts, hlocks, hK, hZ, hA⟩ := C
  unfold wb_Vd_nodeFor_2 at h
  refine lv_iload hx hb d_Vd_nodeFor_146 (lv_at hl 1 rfl) ?_
  refine lv_bipush (v := (12 : Int32)) hx hb d_Vd_nodeFor_148 (by decide) ?_
  refine lv_icmp_ne (tgt := 156) hx hb d_Vd_nodeFor_150 (by decide) (fun hc => ?_) (fun hc => ?_)
  · replace h := h.1 hc
    refine lv_iload hx hb d_Vd_nodeFor_156 (lv_at hl 2 rfl) ?_
    refine lv_iconst (v := (-1 : Int32)) hx hb d_Vd_nodeFor_158 (by decide) ?_
    refine lv_icmp_ne (tgt := 166) hx hb d_Vd_nodeFor_159 (by decide) (fun hc => ?_) (fun hc => ?_)
    · replace h := h.1 hc
      refine lv_iconst (v := (-1 : Int32)) hx hb d_Vd_nodeFor_166 (by decide) ?_
      exact kw_iret hx hb hr hlocks hst h d_Vd_nodeFor_167
    · replace h := h.2 hc
      refine lv_iload_n hx hb d_Vd_nodeFor_162 rfl (lv_at hl 0 rfl) ?_
      refine lv_goto (tgt := 167) hx hb d_Vd_nodeFor_163 (by decide) ?_
      exact kw_iret hx hb hr hlocks hst h d_Vd_nodeFor_167
  · replace h := h.2 hc
    refine lv_iload hx hb d_Vd_nodeFor_153 (lv_at hl 2 rfl) ?_
    exact kw_iret hx hb hr hlocks hst h d_Vd_nodeFor_155
set_option maxRecDepth 100000 in
set_option maxHeartbeats 4000000 in
theorem a_Vd_nodeFor {p : Program} {l : Launch} {e : Env} {s : State} {m : MethodId} {args : Array Value} {below : List Frame} {meth : Method} {c : Code} {D : va_G} {g : Gm} {A : Nat → Prop} {post : Int32 → Sg → Prop} (C : kC p s m args meth c k_Vd_nodeFor 8 (some .int) GW R_Vd D vwCl g (Zk g) A) : ∀ n : Nat, J_Vd_nodeFor_1 p l e s m args below meth c D g A post (wp_Vd_nodeFor post n) ∧ J_Vd_nodeFor_2 p l e s m args below meth c D g A post (wp_Vd_nodeFor post n) := by
  intro n
  induction n with
  | zero => exact ⟨fun _ _ _ _ _ _ _ _ _ _ h => h.elim, fun _ _ _ _ _ _ _ _ _ h => h.elim⟩
  | succ n ih => exact ⟨fun x1 x2 x4 x5 σ H locs ls hl hst h => b_Vd_nodeFor_1 (F := wp_Vd_nodeFor post n) C (ih.2) x1 x2 x4 x5 σ H locs ls hl hst h, fun x2 x5 x7 σ H locs ls hl hst h => b_Vd_nodeFor_2 (F := wp_Vd_nodeFor post n) C x2 x5 x7 σ H locs ls hl hst h⟩
set_option maxRecDepth 100000 in
set_option maxHeartbeats 4000000 in
theorem c_Vd_nodeFor (l : Launch) {D : va_G} {g : Gm} {sz : Nat} (x1 : Int32) (x2 : Int32) (x3 : Int32) (x4 : Int32) {σ : Sg} {post : Int32 → Sg → Prop} (h : wq_Vd_nodeFor x1 x2 x3 x4 σ post) : Met l y_Vd_nodeFor (.code y_Vd_nodeFor k_Vd_nodeFor 8 (some .int) :: GW) { frames := 2, cells := 0, slots := 0, locals := 51 } (PcW D vwCl (WS g) g (Zk g) σ sz [.ref (g.1 35), .int x1, .int x2, .int x3, .int x4]) (QiW D vwCl (WS g) post (va_A (WS g σ) sz)) 0 0 (va_A (WS g σ) sz) := by
  refine kw_entry (own := R_Vd) (by decide) rfl rfl (Nat.le_of_ble_eq_true rfl) ?_
  intro p e s m below meth c ls hsz C hin hl hst
  obtain ⟨n, h⟩ := h
  cases n with
  | zero => exact h.elim
  | succ n =>
    have ih := a_Vd_nodeFor (l := l) (e := e) (below := below) (post := post) C n
    exact b_Vd_nodeFor_0 (F := wp_Vd_nodeFor post n) C (ih.1) x1 x2 x3 x4 σ _ _ ls hl hst h
/-! SchemaDesk$Verdicts.isNumberSo (III)Z -/
abbrev k_Vd_isNumberSo : ByteArray := prog_9_method_13_code
abbrev y_Vd_isNumberSo : MethodName := ⟨"SchemaDesk$Verdicts", "isNumberSo", "(III)Z"⟩
theorem d_Vd_isNumberSo_0 : decode k_Vd_isNumberSo 0 = .ok (.iload_n 0, 1) := by decide +kernel
theorem d_Vd_isNumberSo_1 : decode k_Vd_isNumberSo 1 = .ok (.tableswitch 66 4 9 #[39, 66, 50, 39, 66, 39], 39) := by decide +kernel
theorem d_Vd_isNumberSo_40 : decode k_Vd_isNumberSo 40 = .ok (.iload_n 1, 1) := by decide +kernel
theorem d_Vd_isNumberSo_41 : decode k_Vd_isNumberSo 41 = .ok (.iload_n 2, 1) := by decide +kernel
theorem d_Vd_isNumberSo_42 : decode k_Vd_isNumberSo 42 = .ok (.if_icmp .lt 7, 3) := by decide +kernel
theorem d_Vd_isNumberSo_45 : decode k_Vd_isNumberSo 45 = .ok (.iconst 1, 1) := by decide +kernel
theorem d_Vd_isNumberSo_46 : decode k_Vd_isNumberSo 46 = .ok (.goto 4, 3) := by decide +kernel
theorem d_Vd_isNumberSo_49 : decode k_Vd_isNumberSo 49 = .ok (.iconst 0, 1) := by decide +kernel
theorem d_Vd_isNumberSo_50 : decode k_Vd_isNumberSo 50 = .ok (.ireturn, 1) := by decide +kernel
theorem d_Vd_isNumberSo_51 : decode k_Vd_isNumberSo 51 = .ok (.iload_n 2, 1) := by decide +kernel
theorem d_Vd_isNumberSo_52 : decode k_Vd_isNumberSo 52 = .ok (.ifCond .le 9, 3) := by decide +kernel
theorem d_Vd_isNumberSo_55 : decode k_Vd_isNumberSo 55 = .ok (.iload_n 1, 1) := by decide +kernel
theorem d_Vd_isNumberSo_56 : decode k_Vd_isNumberSo 56 = .ok (.iload_n 2, 1) := by decide +kernel
theorem d_Vd_isNumberSo_57 : decode k_Vd_isNumberSo 57 = .ok (.irem, 1) := by decide +kernel
theorem d_Vd_isNumberSo_58 : decode k_Vd_isNumberSo 58 = .ok (.ifCond .ne 7, 3) := by decide +kernel
theorem d_Vd_isNumberSo_61 : decode k_Vd_isNumberSo 61 = .ok (.iconst 1, 1) := by decide +kernel
theorem d_Vd_isNumberSo_62 : decode k_Vd_isNumberSo 62 = .ok (.goto 4, 3) := by decide +kernel
theorem d_Vd_isNumberSo_65 : decode k_Vd_isNumberSo 65 = .ok (.iconst 0, 1) := by decide +kernel
theorem d_Vd_isNumberSo_66 : decode k_Vd_isNumberSo 66 = .ok (.ireturn, 1) := by decide +kernel
theorem d_Vd_isNumberSo_67 : decode k_Vd_isNumberSo 67 = .ok (.iload_n 1, 1) := by decide +kernel
theorem d_Vd_isNumberSo_68 : decode k_Vd_isNumberSo 68 = .ok (.iload_n 2, 1) := by decide +kernel
theorem d_Vd_isNumberSo_69 : decode k_Vd_isNumberSo 69 = .ok (.if_icmp .gt 7, 3) := by decide +kernel
theorem d_Vd_isNumberSo_72 : decode k_Vd_isNumberSo 72 = .ok (.iconst 1, 1) := by decide +kernel
theorem d_Vd_isNumberSo_73 : decode k_Vd_isNumberSo 73 = .ok (.goto 4, 3) := by decide +kernel
theorem d_Vd_isNumberSo_76 : decode k_Vd_isNumberSo 76 = .ok (.iconst 0, 1) := by decide +kernel
theorem d_Vd_isNumberSo_77 : decode k_Vd_isNumberSo 77 = .ok (.ireturn, 1) := by decide +kernel
def wq_Vd_isNumberSo (x0 : Int32) (x1 : Int32) (x2 : Int32) (σ : Sg) (post : Int32 → Sg → Prop) : Prop := ((x0 = 4 → ((x1 < x2 → (narrow .boolean (.int (0 : Int32)) = .int (0 : Int32) ∧ post (0 : Int32) σ)) ∧ (¬ x1 < x2 → (narrow .boolean (.int (1 : Int32)) = .int (1 : Int32) ∧ post (1 : Int32) σ)))) ∧ (x0 = 5 → ((x2 < x1 → (narrow .boolean (.int (0 : Int32)) = .int (0 : Int32) ∧ post (0 : Int32) σ)) ∧ (¬ x2 < x1 → (narrow .boolean (.int (1 : Int32)) = .int (1 : Int32) ∧ post (1 : Int32) σ)))) ∧ (x0 = 6 → ((x2 ≤ 0 → (narrow .boolean (.int (1 : Int32)) = .int (1 : Int32) ∧ post (1 : Int32) σ)) ∧ (¬ x2 ≤ 0 → (¬ x2 = 0 ∧ ((¬ (x1 - x1 / x2 * x2) = 0 → (narrow .boolean (.int (0 : Int32)) = .int (0 : Int32) ∧ post (0 : Int32) σ)) ∧ ((x1 - x1 / x2 * x2) = 0 → (narrow .boolean (.int (1 : Int32)) = .int (1 : Int32) ∧ post (1 : Int32) σ))))))) ∧ (x0 = 7 → ((x1 < x2 → (narrow .boolean (.int (0 : Int32)) = .int (0 : Int32) ∧ post (0 : Int32) σ)) ∧ (¬ x1 < x2 → (narrow .boolean (.int (1 : Int32)) = .int (1 : Int32) ∧ post (1 : Int32) σ)))) ∧ (x0 = 8 → ((x2 < x1 → (narrow .boolean (.int (0 : Int32)) = .int (0 : Int32) ∧ post (0 : Int32) σ)) ∧ (¬ x2 < x1 → (narrow .boolean (.int (1 : Int32)) = .int (1 : Int32) ∧ post (1 : Int32) σ)))) ∧ (x0 = 9 → ((x1 < x2 → (narrow .boolean (.int (0 : Int32)) = .int (0 : Int32) ∧ post (0 : Int32) σ)) ∧ (¬ x1 < x2 → (narrow .boolean (.int (1 : Int32)) = .int (1 : Int32) ∧ post (1 : Int32) σ)))) ∧ ((¬ x0 = 4 ∧ ¬ x0 = 5 ∧ ¬ x0 = 6 ∧ ¬ x0 = 7 ∧ ¬ x0 = 8 ∧ ¬ x0 = 9) → ((x2 < x1 → (narrow .boolean (.int (0 : Int32)) = .int (0 : Int32) ∧ post (0 : Int32) σ)) ∧ (¬ x2 < x1 → (narrow .boolean (.int (1 : Int32)) = .int (1 : Int32) ∧ post (1 : Int32) σ)))))
set_option maxRecDepth 100000 in
set_option maxHeartbeats 4000000 in
theorem b_Vd_isNumberSo_0 {p : Program} {l : Launch} {e : Env} {s : State} {m : MethodId} {args : Array Value} {below : List Frame} {meth : Method} {c : Code} {D : va_G} {g : Gm} {A : Nat → Prop} {post : Int32 → Sg → Prop} (C : kC p s m args meth c k_Vd_isNumberSo 3 (some .boolean) GW R_Vd D vwCl g (Zk g) A) (x0 : Int32) (x1 : Int32) (x2 : Int32) (σ : Sg) (H : Heap) (locs : List Loc) (ls : Array Slot) (hl : lv_has ls 3 [(0, .int x0), (1, .int x1), (2, .int x2)]) (hst : Wst D vwCl (WS g) A s σ H locs) (h : wq_Vd_isNumberSo x0 x1 x2 σ post) : W p l e { frames := 0, cells := 0, slots := 0, locals := 0 } s m args below meth c H locs 0 0 (MQ below (QiW D vwCl (WS g) post A) args s 0 0 A) (F0 m 0 ls []) := by
  obtain ⟨hx, hb, hr, hml, hown, hts, hlocks, hK, hZ, hA⟩ := C
  unfold wq_Vd_isNumberSo at h
  refine lv_iload_n hx hb d_Vd_isNumberSo_0 rfl (lv_at hl 0 rfl) ?_
  by_cases hc0 : x0 = 4
  · refine kw_tin (k := 4) (tgt := 40) hx hb d_Vd_isNumberSo_1 hc0 (by decide) (by decide) rfl (by decide) ?_
    replace h := h.1 hc0
    refine lv_iload_n hx hb d_Vd_isNumberSo_40 rfl (lv_at hl 1 rfl) ?_
    refine lv_iload_n hx hb d_Vd_isNumberSo_41 rfl (lv_at hl 2 rfl) ?_
    refine lv_icmp_lt (tgt := 49) hx hb d_Vd_isNumberSo_42 (by decide) (fun hc => ?_) (fun hc => ?_)
    · replace h := h.1 hc
      refine lv_iconst (v := (0 : Int32)) hx hb d_Vd_isNumberSo_49 (by decide) ?_
      exact kw_zret hx hb hr hlocks hst h d_Vd_isNumberSo_50
    · replace h := h.2 hc
      refine lv_iconst (v := (1 : Int32)) hx hb d_Vd_isNumberSo_45 (by decide) ?_
      refine lv_goto (tgt := 50) hx hb d_Vd_isNumberSo_46 (by decide) ?_
      exact kw_zret hx hb hr hlocks hst h d_Vd_isNumberSo_50
  by_cases hc1 : x0 = 5
  · refine kw_tin (k := 5) (tgt := 67) hx hb d_Vd_isNumberSo_1 hc1 (by decide) (by decide) rfl (by decide) ?_
    replace h := h.2.1 hc1
    refine lv_iload_n hx hb d_Vd_isNumberSo_67 rfl (lv_at hl 1 rfl) ?_
    refine lv_iload_n hx hb d_Vd_isNumberSo_68 rfl (lv_at hl 2 rfl) ?_
    refine lv_icmp_gt (tgt := 76) hx hb d_Vd_isNumberSo_69 (by decide) (fun hc => ?_) (fun hc => ?_)
    · replace h := h.1 hc
      refine lv_iconst (v := (0 : Int32)) hx hb d_Vd_isNumberSo_76 (by decide) ?_
      exact kw_zret hx hb hr hlocks hst h d_Vd_isNumberSo_77
    · replace h := h.2 hc
      refine lv_iconst (v := (1 : Int32)) hx hb d_Vd_isNumberSo_72 (by decide) ?_
      refine lv_goto (tgt := 77) hx hb d_Vd_isNumberSo_73 (by decide) ?_
      exact kw_zret hx hb hr hlocks hst h d_Vd_isNumberSo_77
  by_cases hc2 : x0 = 6
  · refine kw_tin (k := 6) (tgt := 51) hx hb d_Vd_isNumberSo_1 hc2 (by decide) (by decide) rfl (by decide) ?_
    replace h := h.2.2.1 hc2
    refine lv_iload_n hx hb d_Vd_isNumberSo_51 rfl (lv_at hl 2 rfl) ?_
    refine lv_if_le (tgt := 61) hx hb d_Vd_isNumberSo_52 (by decide) (fun hc => ?_) (fun hc => ?_)
    · replace h := h.1 hc
      refine lv_iconst (v := (1 : Int32)) hx hb d_Vd_isNumberSo_61 (by decide) ?_
      refine lv_goto (tgt := 66) hx hb d_Vd_isNumberSo_62 (by decide) ?_
      exact kw_zret hx hb hr hlocks hst h d_Vd_isNumberSo_66
    · replace h := h.2 hc
      refine lv_iload_n hx hb d_Vd_isNumberSo_55 rfl (lv_at hl 1 rfl) ?_
      refine lv_iload_n hx hb d_Vd_isNumberSo_56 rfl (lv_at hl 2 rfl) ?_
      obtain ⟨hi, h⟩ := h
      refine lv_irem hx hb d_Vd_isNumberSo_57 hi ?_
      refine lv_if_ne (tgt := 65) hx hb d_Vd_isNumberSo_58 (by decide) (fun hc => ?_) (fun hc => ?_)
      · replace h := h.1 hc
        refine lv_iconst (v := (0 : Int32)) hx hb d_Vd_isNumberSo_65 (by decide) ?_
        exact kw_zret hx hb hr hlocks hst h d_Vd_isNumberSo_66
      · replace h := h.2 hc
        refine lv_iconst (v := (1 : Int32)) hx hb d_Vd_isNumberSo_61 (by decide) ?_
        refine lv_goto (tgt := 66) hx hb d_Vd_isNumberSo_62 (by decide) ?_
        exact kw_zret hx hb hr hlocks hst h d_Vd_isNumberSo_66
  by_cases hc3 : x0 = 7
  · refine kw_tin (k := 7) (tgt := 40) hx hb d_Vd_isNumberSo_1 hc3 (by decide) (by decide) rfl (by decide) ?_
    replace h := h.2.2.2.1 hc3
    refine lv_iload_n hx hb d_Vd_isNumberSo_40 rfl (lv_at hl 1 rfl) ?_
    refine lv_iload_n hx hb d_Vd_isNumberSo_41 rfl (lv_at hl 2 rfl) ?_
    refine lv_icmp_lt (tgt := 49) hx hb d_Vd_isNumberSo_42 (by decide) (fun hc => ?_) (fun hc => ?_)
    · replace h := h.1 hc
      refine lv_iconst (v := (0 : Int32)) hx hb d_Vd_isNumberSo_49 (by decide) ?_
      exact kw_zret hx hb hr hlocks hst h d_Vd_isNumberSo_50
    · replace h := h.2 hc
      refine lv_iconst (v := (1 : Int32)) hx hb d_Vd_isNumberSo_45 (by decide) ?_
      refine lv_goto (tgt := 50) hx hb d_Vd_isNumberSo_46 (by decide) ?_
      exact kw_zret hx hb hr hlocks hst h d_Vd_isNumberSo_50
  by_cases hc4 : x0 = 8
  · refine kw_tin (k := 8) (tgt := 67) hx hb d_Vd_isNumberSo_1 hc4 (by decide) (by decide) rfl (by decide) ?_
    replace h := h.2.2.2.2.1 hc4
    refine lv_iload_n hx hb d_Vd_isNumberSo_67 rfl (lv_at hl 1 rfl) ?_
    refine lv_iload_n hx hb d_Vd_isNumberSo_68 rfl (lv_at hl 2 rfl) ?_
    refine lv_icmp_gt (tgt := 76) hx hb d_Vd_isNumberSo_69 (by decide) (fun hc => ?_) (fun hc => ?_)
    · replace h := h.1 hc
      refine lv_iconst (v := (0 : Int32)) hx hb d_Vd_isNumberSo_76 (by decide) ?_
      exact kw_zret hx hb hr hlocks hst h d_Vd_isNumberSo_77
    · replace h := h.2 hc
      refine lv_iconst (v := (1 : Int32)) hx hb d_Vd_isNumberSo_72 (by decide) ?_
      refine lv_goto (tgt := 77) hx hb d_Vd_isNumberSo_73 (by decide) ?_
      exact kw_zret hx hb hr hlocks hst h d_Vd_isNumberSo_77
  by_cases hc5 : x0 = 9
  · refine kw_tin (k := 9) (tgt := 40) hx hb d_Vd_isNumberSo_1 hc5 (by decide) (by decide) rfl (by decide) ?_
    replace h := h.2.2.2.2.2.1 hc5
    refine lv_iload_n hx hb d_Vd_isNumberSo_40 rfl (lv_at hl 1 rfl) ?_
    refine lv_iload_n hx hb d_Vd_isNumberSo_41 rfl (lv_at hl 2 rfl) ?_
    refine lv_icmp_lt (tgt := 49) hx hb d_Vd_isNumberSo_42 (by decide) (fun hc => ?_) (fun hc => ?_)
    · replace h := h.1 hc
      refine lv_iconst (v := (0 : Int32)) hx hb d_Vd_isNumberSo_49 (by decide) ?_
      exact kw_zret hx hb hr hlocks hst h d_Vd_isNumberSo_50
    · replace h := h.2 hc
      refine lv_iconst (v := (1 : Int32)) hx hb d_Vd_isNumberSo_45 (by decide) ?_
      refine lv_goto (tgt := 50) hx hb d_Vd_isNumberSo_46 (by decide) ?_
      exact kw_zret hx hb hr hlocks hst h d_Vd_isNumberSo_50
  refine lv_tableOut (tgt := 67) hx hb d_Vd_isNumberSo_1 (by have q0 := lv_neT (a := 4) hc0 (by decide); have q1 := lv_neT (a := 5) hc1 (by decide); have q2 := lv_neT (a := 6) hc2 (by decide); have q3 := lv_neT (a := 7) hc3 (by decide); have q4 := lv_neT (a := 8) hc4 (by decide); have q5 := lv_neT (a := 9) hc5 (by decide); omega) (by decide) ?_
  replace h := h.2.2.2.2.2.2 ⟨hc0, hc1, hc2, hc3, hc4, hc5⟩
  refine lv_iload_n hx hb d_Vd_isNumberSo_67 rfl (lv_at hl 1 rfl) ?_
  refine lv_iload_n hx hb d_Vd_isNumberSo_68 rfl (lv_at hl 2 rfl) ?_
  refine lv_icmp_gt (tgt := 76) hx hb d_Vd_isNumberSo_69 (by decide) (fun hc => ?_) (fun hc => ?_)
  · replace h := h.1 hc
    refine lv_iconst (v := (0 : Int32)) hx hb d_Vd_isNumberSo_76 (by decide) ?_
    exact kw_zret hx hb hr hlocks hst h d_Vd_isNumberSo_77
  · replace h := h.2 hc
    refine lv_iconst (v := (1 : Int32)) hx hb d_Vd_isNumberSo_72 (by decide) ?_
    refine lv_goto (tgt := 77) hx hb d_Vd_isNumberSo_73 (by decide) ?_
    exact kw_zret hx hb hr hlocks hst h d_Vd_isNumberSo_77
set_option maxRecDepth 100000 in
set_option maxHeartbeats 4000000 in
theorem c_Vd_isNumberSo (l : Launch) {D : va_G} {g : Gm} {sz : Nat} (x0 : Int32) (x1 : Int32) (x2 : Int32) {σ : Sg} {post : Int32 → Sg → Prop} (h : wq_Vd_isNumberSo x0 x1 x2 σ post) : Met l y_Vd_isNumberSo (.code y_Vd_isNumberSo k_Vd_isNumberSo 3 (some .boolean) :: GW) { frames := 0, cells := 0, slots := 0, locals := 0 } (PcW D vwCl (WS g) g (Zk g) σ sz [.int x0, .int x1, .int x2]) (QiW D vwCl (WS g) post (va_A (WS g σ) sz)) 0 0 (va_A (WS g σ) sz) := by
  refine kw_entry (own := R_Vd) (by decide) rfl rfl (Nat.le_of_ble_eq_true rfl) ?_
  intro p e s m below meth c ls hsz C hin hl hst
  exact b_Vd_isNumberSo_0 C x0 x1 x2 σ _ _ ls hl hst h
/-! SchemaDesk$Verdicts.hasAllNames (II)Z -/
abbrev k_Vd_hasAllNames : ByteArray := prog_9_method_16_code
abbrev y_Vd_hasAllNames : MethodName := ⟨"SchemaDesk$Verdicts", "hasAllNames", "(II)Z"⟩
theorem d_Vd_hasAllNames_0 : decode k_Vd_hasAllNames 0 = .ok (.iconst 0, 1) := by decide +kernel
theorem d_Vd_hasAllNames_1 : decode k_Vd_hasAllNames 1 = .ok (.istore_n 3, 1) := by decide +kernel
theorem d_Vd_hasAllNames_2 : decode k_Vd_hasAllNames 2 = .ok (.iload_n 1, 1) := by decide +kernel
theorem d_Vd_hasAllNames_3 : decode k_Vd_hasAllNames 3 = .ok (.iconst 1, 1) := by decide +kernel
theorem d_Vd_hasAllNames_4 : decode k_Vd_hasAllNames 4 = .ok (.iadd, 1) := by decide +kernel
theorem d_Vd_hasAllNames_5 : decode k_Vd_hasAllNames 5 = .ok (.istore 4, 2) := by decide +kernel
theorem d_Vd_hasAllNames_7 : decode k_Vd_hasAllNames 7 = .ok (.iload_n 3, 1) := by decide +kernel
theorem d_Vd_hasAllNames_8 : decode k_Vd_hasAllNames 8 = .ok (.aload_n 0, 1) := by decide +kernel
theorem d_Vd_hasAllNames_9 : decode k_Vd_hasAllNames 9 = .ok (.getfield 31, 3) := by decide +kernel
theorem d_Vd_hasAllNames_12 : decode k_Vd_hasAllNames 12 = .ok (.getfield 69, 3) := by decide +kernel
theorem d_Vd_hasAllNames_15 : decode k_Vd_hasAllNames 15 = .ok (.iload_n 1, 1) := by decide +kernel
theorem d_Vd_hasAllNames_16 : decode k_Vd_hasAllNames 16 = .ok (.iaload, 1) := by decide +kernel
theorem d_Vd_hasAllNames_17 : decode k_Vd_hasAllNames 17 = .ok (.if_icmp .ge 68, 3) := by decide +kernel
theorem d_Vd_hasAllNames_20 : decode k_Vd_hasAllNames 20 = .ok (.aload_n 0, 1) := by decide +kernel
theorem d_Vd_hasAllNames_21 : decode k_Vd_hasAllNames 21 = .ok (.getfield 31, 3) := by decide +kernel
theorem d_Vd_hasAllNames_24 : decode k_Vd_hasAllNames 24 = .ok (.getfield 59, 3) := by decide +kernel
theorem d_Vd_hasAllNames_27 : decode k_Vd_hasAllNames 27 = .ok (.iload 4, 2) := by decide +kernel
theorem d_Vd_hasAllNames_29 : decode k_Vd_hasAllNames 29 = .ok (.iaload, 1) := by decide +kernel
theorem d_Vd_hasAllNames_30 : decode k_Vd_hasAllNames 30 = .ok (.iconst 4, 1) := by decide +kernel
theorem d_Vd_hasAllNames_31 : decode k_Vd_hasAllNames 31 = .ok (.if_icmp .ne 36, 3) := by decide +kernel
theorem d_Vd_hasAllNames_34 : decode k_Vd_hasAllNames 34 = .ok (.aload_n 0, 1) := by decide +kernel
theorem d_Vd_hasAllNames_35 : decode k_Vd_hasAllNames 35 = .ok (.getfield 32, 3) := by decide +kernel
theorem d_Vd_hasAllNames_38 : decode k_Vd_hasAllNames 38 = .ok (.iload_n 2, 1) := by decide +kernel
theorem d_Vd_hasAllNames_39 : decode k_Vd_hasAllNames 39 = .ok (.aload_n 0, 1) := by decide +kernel
theorem d_Vd_hasAllNames_40 : decode k_Vd_hasAllNames 40 = .ok (.getfield 31, 3) := by decide +kernel
theorem d_Vd_hasAllNames_43 : decode k_Vd_hasAllNames 43 = .ok (.getfield 109, 3) := by decide +kernel
theorem d_Vd_hasAllNames_46 : decode k_Vd_hasAllNames 46 = .ok (.aload_n 0, 1) := by decide +kernel
theorem d_Vd_hasAllNames_47 : decode k_Vd_hasAllNames 47 = .ok (.getfield 31, 3) := by decide +kernel
theorem d_Vd_hasAllNames_50 : decode k_Vd_hasAllNames 50 = .ok (.getfield 154, 3) := by decide +kernel
theorem d_Vd_hasAllNames_53 : decode k_Vd_hasAllNames 53 = .ok (.iload 4, 2) := by decide +kernel
theorem d_Vd_hasAllNames_55 : decode k_Vd_hasAllNames 55 = .ok (.iaload, 1) := by decide +kernel
theorem d_Vd_hasAllNames_56 : decode k_Vd_hasAllNames 56 = .ok (.iconst 1, 1) := by decide +kernel
theorem d_Vd_hasAllNames_57 : decode k_Vd_hasAllNames 57 = .ok (.iadd, 1) := by decide +kernel
theorem d_Vd_hasAllNames_58 : decode k_Vd_hasAllNames 58 = .ok (.invokevirtual 116, 3) := by decide +kernel
theorem d_Vd_hasAllNames_61 : decode k_Vd_hasAllNames 61 = .ok (.iconst (-1), 1) := by decide +kernel
theorem d_Vd_hasAllNames_62 : decode k_Vd_hasAllNames 62 = .ok (.if_icmp .ne 5, 3) := by decide +kernel
theorem d_Vd_hasAllNames_65 : decode k_Vd_hasAllNames 65 = .ok (.iconst 0, 1) := by decide +kernel
theorem d_Vd_hasAllNames_66 : decode k_Vd_hasAllNames 66 = .ok (.ireturn, 1) := by decide +kernel
theorem d_Vd_hasAllNames_67 : decode k_Vd_hasAllNames 67 = .ok (.iinc 3 1, 3) := by decide +kernel
theorem d_Vd_hasAllNames_70 : decode k_Vd_hasAllNames 70 = .ok (.aload_n 0, 1) := by decide +kernel
theorem d_Vd_hasAllNames_71 : decode k_Vd_hasAllNames 71 = .ok (.getfield 31, 3) := by decide +kernel
theorem d_Vd_hasAllNames_74 : decode k_Vd_hasAllNames 74 = .ok (.getfield 76, 3) := by decide +kernel
theorem d_Vd_hasAllNames_77 : decode k_Vd_hasAllNames 77 = .ok (.iload 4, 2) := by decide +kernel
theorem d_Vd_hasAllNames_79 : decode k_Vd_hasAllNames 79 = .ok (.iaload, 1) := by decide +kernel
theorem d_Vd_hasAllNames_80 : decode k_Vd_hasAllNames 80 = .ok (.istore 4, 2) := by decide +kernel
theorem d_Vd_hasAllNames_82 : decode k_Vd_hasAllNames 82 = .ok (.goto (-75), 3) := by decide +kernel
theorem d_Vd_hasAllNames_85 : decode k_Vd_hasAllNames 85 = .ok (.iconst 1, 1) := by decide +kernel
theorem d_Vd_hasAllNames_86 : decode k_Vd_hasAllNames 86 = .ok (.ireturn, 1) := by decide +kernel
theorem gw150 : (Jvm.Cond.fieldLink "SchemaDesk$Verdicts" (69 : Nat) "SchemaDesk$Tree" "children" "[I") ∈ GW := gw_t1 (List.mem_of_getElem? (i := 150) rfl) rfl
theorem gw165 : (Jvm.Cond.fieldLink "SchemaDesk$Verdicts" (76 : Nat) "SchemaDesk$Tree" "behind" "[I") ∈ GW := gw_t1 (List.mem_of_getElem? (i := 165) rfl) rfl
theorem gw142 : (Jvm.Cond.fieldLink "SchemaDesk$Verdicts" (154 : Nat) "SchemaDesk$Tree" "from" "[I") ∈ GW := gw_t1 (List.mem_of_getElem? (i := 142) rfl) rfl
def wb_Vd_hasAllNames_0 (F : Nat → Int32 → Int32 → Int32 → Int32 → Sg → Prop) (post : Int32 → Sg → Prop) (x1 : Int32) (x2 : Int32) (σ : Sg) : Prop := F 1 x1 x2 (0 : Int32) (x1 + (1 : Int32)) σ
def wb_Vd_hasAllNames_1 (F : Nat → Int32 → Int32 → Int32 → Int32 → Sg → Prop) (post : Int32 → Sg → Prop) (x1 : Int32) (x2 : Int32) (x3 : Int32) (x4 : Int32) (σ : Sg) : Prop := (vp_in x1 160 ∧ (((σ.1 5 x1.toNatClampNeg) ≤ x3 → (narrow .boolean (.int (1 : Int32)) = .int (1 : Int32) ∧ post (1 : Int32) σ)) ∧ (¬ (σ.1 5 x1.toNatClampNeg) ≤ x3 → (vp_in x4 160 ∧ ((¬ (σ.1 1 x4.toNatClampNeg) = (4 : Int32) → (vp_in x4 160 ∧ F 1 x1 x2 (x3 + 1) (σ.1 8 x4.toNatClampNeg) σ)) ∧ ((σ.1 1 x4.toNatClampNeg) = (4 : Int32) → (vp_in x4 160 ∧ (wq_Tr_childNamed 13 0 x2 ((σ.1 2 x4.toNatClampNeg) + (1 : Int32)) σ (fun r1 σ1 => ((¬ r1 = (-1 : Int32) → (vp_in x4 160 ∧ F 1 x1 x2 (x3 + 1) (σ1.1 8 x4.toNatClampNeg) σ1)) ∧ (r1 = (-1 : Int32) → (narrow .boolean (.int (0 : Int32)) = .int (0 : Int32) ∧ post (0 : Int32) σ1))))))))))))
def wp_Vd_hasAllNames (post : Int32 → Sg → Prop) : Nat → Nat → Int32 → Int32 → Int32 → Int32 → Sg → Prop
  | 0, _, _, _, _, _, _ => False
  | n + 1, k, x1, x2, x3, x4, σ => match k with
    | 0 => wb_Vd_hasAllNames_0 (wp_Vd_hasAllNames post n) post x1 x2 σ
    | 1 => wb_Vd_hasAllNames_1 (wp_Vd_hasAllNames post n) post x1 x2 x3 x4 σ
    | _ => False
def wq_Vd_hasAllNames (x1 : Int32) (x2 : Int32) (σ : Sg) (post : Int32 → Sg → Prop) : Prop := ∃ n, wp_Vd_hasAllNames post n 0 x1 x2 0 0 σ
def J_Vd_hasAllNames_1 (p : Program) (l : Launch) (e : Env) (s : State) (m : MethodId) (args : Array Value) (below : List Frame) (meth : Method) (c : Code) (D : va_G) (g : Gm) (A : Nat → Prop) (post : Int32 → Sg → Prop) (F : Nat → Int32 → Int32 → Int32 → Int32 → Sg → Prop) : Prop := ∀ (x1 : Int32) (x2 : Int32) (x3 : Int32) (x4 : Int32) (σ : Sg) (H : Heap) (locs : List Loc) (ls : Array Slot), lv_has ls 5 [(0, .ref (g.1 35)), (1, .int x1), (2, .int x2), (3, .int x3), (4, .int x4)] → Wst D vwCl (WS g) A s σ H locs → F 1 x1 x2 x3 x4 σ → W p l e { frames := 2, cells := 0, slots := 0, locals := 51 } s m args below meth c H locs 0 0 (MQ below (QiW D vwCl (WS g) post A) args s 0 0 A) (F0 m 7 ls [])
set_option maxRecDepth 100000 in
set_option maxHeartbeats 4000000 in
theorem b_Vd_hasAllNames_0 {p : Program} {l : Launch} {e : Env} {s : State} {m : MethodId} {args : Array Value} {below : List Frame} {meth : Method} {c : Code} {D : va_G} {g : Gm} {A : Nat → Prop} {post : Int32 → Sg → Prop} {F : Nat → Int32 → Int32 → Int32 → Int32 → Sg → Prop} (C : kC p s m args meth c k_Vd_hasAllNames 5 (some .boolean) GW R_Vd D vwCl g (Zk g) A) (j1 : J_Vd_hasAllNames_1 p l e s m args below meth c D g A post F) (x1 : Int32) (x2 : Int32) (σ : Sg) (H : Heap) (locs : List Loc) (ls : Array Slot) (hl : lv_has ls 5 [(0, .ref (g.1 35)), (1, .int x1), (2, .int x2)]) (hst : Wst D vwCl (WS g) A s σ H locs) (h : wb_Vd_hasAllNames_0 F post x1 x2 σ) : W p l e { frames := 2, cells := 0, slots := 0, locals := 51 } s m args below meth c H locs 0 0 (MQ below (QiW D vwCl (WS g) post A) args s 0 0 A) (F0 m 0 ls []) := by
  obtain ⟨hx, hb, hr, hml, hown, hts, hlocks, hK, hZ, hA⟩ := C
  unfold wb_Vd_hasAllNames_0 at h
  refine lv_iconst (v := (0 : Int32)) hx hb d_Vd_hasAllNames_0 (by decide) ?_
  refine lv_istore_n hx hb d_Vd_hasAllNames_1 rfl hl (by decide) rfl (fun ls hl => ?_)
  have hl : lv_has ls 5 [(3, .int (0 : Int32)), (0, .ref (g.1 35)), (1, .int x1), (2, .int x2)] := hl
  refine lv_iload_n hx hb d_Vd_hasAllNames_2 rfl (lv_at hl 2 rfl) ?_
  refine lv_iconst (v := (1 : Int32)) hx hb d_Vd_hasAllNames_3 (by decide) ?_
  refine lv_iadd hx hb d_Vd_hasAllNames_4 ?_
  refine lv_istore hx hb d_Vd_hasAllNames_5 hl (by decide) rfl (fun ls hl => ?_)
  have hl : lv_has ls 5 [(4, .int (x1 + (1 : Int32))), (3, .int (0 : Int32)), (0, .ref (g.1 35)), (1, .int x1), (2, .int x2)] := hl
  exact j1 x1 x2 (0 : Int32) (x1 + (1 : Int32)) σ _ _ _ (lv_sub hl [2, 3, 4, 1, 0] rfl) hst h
set_option maxRecDepth 100000 in
set_option maxHeartbeats 4000000 in
theorem b_Vd_hasAllNames_1 {p : Program} {l : Launch} {e : Env} {s : State} {m : MethodId} {args : Array Value} {below : List Frame} {meth : Method} {c : Code} {D : va_G} {g : Gm} {A : Nat → Prop} {post : Int32 → Sg → Prop} {F : Nat → Int32 → Int32 → Int32 → Int32 → Sg → Prop} (C : kC p s m args meth c k_Vd_hasAllNames 5 (some .boolean) GW R_Vd D vwCl g (Zk g) A) (j1 : J_Vd_hasAllNames_1 p l e s m args below meth c D g A post F) (x1 : Int32) (x2 : Int32) (x3 : Int32) (x4 : Int32) (σ : Sg) (H : Heap) (locs : List Loc) (ls : Array Slot) (hl : lv_has ls 5 [(0, .ref (g.1 35)), (1, .int x1), (2, .int x2), (3, .int x3), (4, .int x4)]) (hst : Wst D vwCl (WS g) A s σ H locs) (h : wb_Vd_hasAllNames_1 F post x1 x2 x3 x4 σ) : W p l e { frames := 2, cells := 0, slots := 0, locals := 51 } s m args below meth c H locs 0 0 (MQ below (QiW D vwCl (WS g) post A) args s 0 0 A) (F0 m 7 ls []) := by
  obtain ⟨hx, hb, hr, hml, hown, hts, hlocks, hK, hZ, hA⟩ := C
  unfold wb_Vd_hasAllNames_1 at h
  refine lv_iload_n hx hb d_Vd_hasAllNames_7 rfl (lv_at hl 3 rfl) ?_
  refine lv_aload_n hx hb d_Vd_hasAllNames_8 rfl (lv_at hl 0 rfl) ?_
  refine va_get (D := D) (ci := 6) (C := R_Vd) (T := T_Vd) (N := 6) hx hb hts in_Vd hown hK hst.1 35 (WS_o35 g σ) rfl 1 (by decide) (hts _ gw302) (fun _ h9 => h9) rfl d_Vd_hasAllNames_9 ?_
  refine va_get (D := D) (ci := 0) (C := R_Tr) (T := T_Tr) (N := 12) hx hb hts in_Tr hown hK hst.1 0 (WS_o0 g σ) rfl 5 (by decide) (hts _ gw150) (fun _ h9 => h9) rfl d_Vd_hasAllNames_12 ?_
  refine lv_iload_n hx hb d_Vd_hasAllNames_15 rfl (lv_at hl 1 rfl) ?_
  obtain ⟨hi, h⟩ := h
  refine va_iald hx hb hK hst.1 5 0 (WS_a5 g σ) rfl hi d_Vd_hasAllNames_16 ?_
  refine lv_icmp_ge (tgt := 85) hx hb d_Vd_hasAllNames_17 (by decide) (fun hc => ?_) (fun hc => ?_)
  · replace h := h.1 hc
    refine lv_iconst (v := (1 : Int32)) hx hb d_Vd_hasAllNames_85 (by decide) ?_
    exact kw_zret hx hb hr hlocks hst h d_Vd_hasAllNames_86
  · replace h := h.2 hc
    refine lv_aload_n hx hb d_Vd_hasAllNames_20 rfl (lv_at hl 0 rfl) ?_
    refine va_get (D := D) (ci := 6) (C := R_Vd) (T := T_Vd) (N := 6) hx hb hts in_Vd hown hK hst.1 35 (WS_o35 g σ) rfl 1 (by decide) (hts _ gw302) (fun _ h9 => h9) rfl d_Vd_hasAllNames_21 ?_
    refine va_get (D := D) (ci := 0) (C := R_Tr) (T := T_Tr) (N := 12) hx hb hts in_Tr hown hK hst.1 0 (WS_o0 g σ) rfl 1 (by decide) (hts _ gw133) (fun _ h9 => h9) rfl d_Vd_hasAllNames_24 ?_
    refine lv_iload hx hb d_Vd_hasAllNames_27 (lv_at hl 4 rfl) ?_
    obtain ⟨hi, h⟩ := h
    refine va_iald hx hb hK hst.1 1 0 (WS_a1 g σ) rfl hi d_Vd_hasAllNames_29 ?_
    refine lv_iconst (v := (4 : Int32)) hx hb d_Vd_hasAllNames_30 (by decide) ?_
    refine lv_icmp_ne (tgt := 67) hx hb d_Vd_hasAllNames_31 (by decide) (fun hc => ?_) (fun hc => ?_)
    · replace h := h.1 hc
      refine lv_iinc (k := 3) (v := (x3 + 1)) hx hb d_Vd_hasAllNames_67 hl rfl (kw_inc _ (by decide)) (by decide) rfl (fun ls hl => ?_)
      have hl : lv_has ls 5 [(3, .int (x3 + 1)), (0, .ref (g.1 35)), (1, .int x1), (2, .int x2), (4, .int x4)] := hl
      refine lv_aload_n hx hb d_Vd_hasAllNames_70 rfl (lv_at hl 1 rfl) ?_
      refine va_get (D := D) (ci := 6) (C := R_Vd) (T := T_Vd) (N := 6) hx hb hts in_Vd hown hK hst.1 35 (WS_o35 g σ) rfl 1 (by decide) (hts _ gw302) (fun _ h9 => h9) rfl d_Vd_hasAllNames_71 ?_
      refine va_get (D := D) (ci := 0) (C := R_Tr) (T := T_Tr) (N := 12) hx hb hts in_Tr hown hK hst.1 0 (WS_o0 g σ) rfl 8 (by decide) (hts _ gw165) (fun _ h9 => h9) rfl d_Vd_hasAllNames_74 ?_
      refine lv_iload hx hb d_Vd_hasAllNames_77 (lv_at hl 4 rfl) ?_
      obtain ⟨hi, h⟩ := h
      refine va_iald hx hb hK hst.1 8 0 (WS_a8 g σ) rfl hi d_Vd_hasAllNames_79 ?_
      refine lv_istore hx hb d_Vd_hasAllNames_80 hl (by decide) rfl (fun ls hl => ?_)
      have hl : lv_has ls 5 [(4, .int (σ.1 8 x4.toNatClampNeg)), (3, .int (x3 + 1)), (0, .ref (g.1 35)), (1, .int x1), (2, .int x2)] := hl
      refine lv_goto (tgt := 7) hx hb d_Vd_hasAllNames_82 (by decide) ?_
      exact j1 x1 x2 (x3 + 1) (σ.1 8 x4.toNatClampNeg) σ _ _ _ (lv_sub hl [2, 3, 4, 1, 0] rfl) hst h
    · replace h := h.2 hc
      refine lv_aload_n hx hb d_Vd_hasAllNames_34 rfl (lv_at hl 0 rfl) ?_
      refine va_get (D := D) (ci := 6) (C := R_Vd) (T := T_Vd) (N := 6) hx hb hts in_Vd hown hK hst.1 35 (WS_o35 g σ) rfl 2 (by decide) (hts _ gw305) (fun _ h9 => h9) rfl d_Vd_hasAllNames_35 ?_
      refine lv_iload_n hx hb d_Vd_hasAllNames_38 rfl (lv_at hl 2 rfl) ?_
      refine lv_aload_n hx hb d_Vd_hasAllNames_39 rfl (lv_at hl 0 rfl) ?_
      refine va_get (D := D) (ci := 6) (C := R_Vd) (T := T_Vd) (N := 6) hx hb hts in_Vd hown hK hst.1 35 (WS_o35 g σ) rfl 1 (by decide) (hts _ gw302) (fun _ h9 => h9) rfl d_Vd_hasAllNames_40 ?_
      refine va_get (D := D) (ci := 0) (C := R_Tr) (T := T_Tr) (N := 12) hx hb hts in_Tr hown hK hst.1 0 (WS_o0 g σ) rfl 0 (by decide) (hts _ gw129) (fun _ h9 => h9) rfl d_Vd_hasAllNames_43 ?_
      refine lv_aload_n hx hb d_Vd_hasAllNames_46 rfl (lv_at hl 0 rfl) ?_
      refine va_get (D := D) (ci := 6) (C := R_Vd) (T := T_Vd) (N := 6) hx hb hts in_Vd hown hK hst.1 35 (WS_o35 g σ) rfl 1 (by decide) (hts _ gw302) (fun _ h9 => h9) rfl d_Vd_hasAllNames_47 ?_
      refine va_get (D := D) (ci := 0) (C := R_Tr) (T := T_Tr) (N := 12) hx hb hts in_Tr hown hK hst.1 0 (WS_o0 g σ) rfl 2 (by decide) (hts _ gw142) (fun _ h9 => h9) rfl d_Vd_hasAllNames_50 ?_
      refine lv_iload hx hb d_Vd_hasAllNames_53 (lv_at hl 4 rfl) ?_
      obtain ⟨hi, h⟩ := h
      refine va_iald hx hb hK hst.1 2 0 (WS_a2 g σ) rfl hi d_Vd_hasAllNames_55 ?_
      refine lv_iconst (v := (1 : Int32)) hx hb d_Vd_hasAllNames_56 (by decide) ?_
      refine lv_iadd hx hb d_Vd_hasAllNames_57 ?_
      refine kw_calli (va_runV (As := [.int x2, .ref (g.1 10), .int ((σ.1 2 x4.toNatClampNeg) + (1 : Int32))]) (rest := []) (b := g.1 13) ⟨hx, hb, hml, hown, hts⟩ (c_Tr_childNamed_13_0 l x2 ((σ.1 2 x4.toNatClampNeg) + (1 : Int32)) h) (cwV 3 hts (gd_v gw827 gw670 gw671 gw7 gw672) rfl rfl rfl (by decide +kernel) ⟨Nat.le_of_ble_eq_true rfl, Nat.le_of_ble_eq_true rfl⟩) ⟨kw_blind (Zk_ok g), va_recv hK hst.1 rfl (WS_o13 g σ), kw_pre (Zk_ok g) hK hZ hA hst⟩ rfl rfl hl.1 rfl (lv_room (Nat.le_of_ble_eq_true rfl)) d_Vd_hasAllNames_58 ⟨Nat.le_of_ble_eq_true rfl, Nat.le_of_ble_eq_true rfl⟩) hst hA (fun r1 σ1 H locs h hst => ?_)
      refine lv_iconst (v := (-1 : Int32)) hx hb d_Vd_hasAllNames_61 (by decide) ?_
      refine lv_icmp_ne (tgt := 67) hx hb d_Vd_hasAllNames_62 (by decide) (fun hc => ?_) (fun hc => ?_)
      · replace h := h.1 hc
        refine lv_iinc (k := 3) (v := (x3 + 1)) hx hb d_Vd_hasAllNames_67 hl rfl (kw_inc _ (by decide)) (by decide) rfl (fun ls hl => ?_)
        have hl : lv_has ls 5 [(3, .int (x3 + 1)), (0, .ref (g.1 35)), (1, .int x1), (2, .int x2), (4, .int x4)] := hl
        refine lv_aload_n hx hb d_Vd_hasAllNames_70 rfl (lv_at hl 1 rfl) ?_
        refine va_get (D := D) (ci := 6) (C := R_Vd) (T := T_Vd) (N := 6) hx hb hts in_Vd hown hK hst.1 35 (WS_o35 g σ1) rfl 1 (by decide) (hts _ gw302) (fun _ h9 => h9) rfl d_Vd_hasAllNames_71 ?_
        refine va_get (D := D) (ci := 0) (C := R_Tr) (T := T_Tr) (N := 12) hx hb hts in_Tr hown hK hst.1 0 (WS_o0 g σ1) rfl 8 (by decide) (hts _ gw165) (fun _ h9 => h9) rfl d_Vd_hasAllNames_74 ?_
        refine lv_iload hx hb d_Vd_hasAllNames_77 (lv_at hl 4 rfl) ?_
        obtain ⟨hi, h⟩ := h
        refine va_iald hx hb hK hst.1 8 0 (WS_a8 g σ1) rfl hi d_Vd_hasAllNames_79 ?_
        refine lv_istore hx hb d_Vd_hasAllNames_80 hl (by decide) rfl (fun ls hl => ?_)
        have hl : lv_has ls 5 [(4, .int (σ1.1 8 x4.toNatClampNeg)), (3, .int (x3 + 1)), (0, .ref (g.1 35)), (1, .int x1), (2, .int x2)] := hl
        refine lv_goto (tgt := 7) hx hb d_Vd_hasAllNames_82 (by decide) ?_
        exact j1 x1 x2 (x3 + 1) (σ1.1 8 x4.toNatClampNeg) σ1 _ _ _ (lv_sub hl [2, 3, 4, 1, 0] rfl) hst h
      · replace h := h.2 hc
        refine lv_iconst (v := (0 : Int32)) hx hb d_Vd_hasAllNames_65 (by decide) ?_
        exact kw_zret hx hb hr hlocks hst h d_Vd_hasAllNames_66
set_option maxRecDepth 100000 in
set_option maxHeartbeats 4000000 in
theorem a_Vd_hasAllNames {p : Program} {l : Launch} {e : Env} {s : State} {m : MethodId} {args : Array Value} {below : List Frame} {meth : Method} {c : Code} {D : va_G} {g : Gm} {A : Nat → Prop} {post : Int32 → Sg → Prop} (C : kC p s m args meth c k_Vd_hasAllNames 5 (some .boolean) GW R_Vd D vwCl g (Zk g) A) : ∀ n : Nat, J_Vd_hasAllNames_1 p l e s m args below meth c D g A post (wp_Vd_hasAllNames post n) := by
  intro n
  induction n with
  | zero => exact fun _ _ _ _ _ _ _ _ _ _ h => h.elim
  | succ n ih => exact fun x1 x2 x3 x4 σ H locs ls hl hst h => b_Vd_hasAllNames_1 (F := wp_Vd_hasAllNames post n) C (ih) x1 x2 x3 x4 σ H locs ls hl hst h
set_option maxRecDepth 100000 in
set_option maxHeartbeats 4000000 in
theorem c_Vd_hasAllNames (l : Launch) {D : va_G} {g : Gm} {sz : Nat} (x1 : Int32) (x2 : Int32) {σ : Sg} {post : Int32 → Sg → Prop} (h : wq_Vd_hasAllNames x1 x2 σ post) : Met l y_Vd_hasAllNames (.code y_Vd_hasAllNames k_Vd_hasAllNames 5 (some .boolean) :: GW) { frames := 2, cells := 0, slots := 0, locals := 51 } (PcW D vwCl (WS g) g (Zk g) σ sz [.ref (g.1 35), .int x1, .int x2]) (QiW D vwCl (WS g) post (va_A (WS g σ) sz)) 0 0 (va_A (WS g σ) sz) := by
  refine kw_entry (own := R_Vd) (by decide) rfl rfl (Nat.le_of_ble_eq_true rfl) ?_
  intro p e s m below meth c ls hsz C hin hl hst
  obtain ⟨n, h⟩ := h
  cases n with
  | zero => exact h.elim
  | succ n =>
    have ih := a_Vd_hasAllNames (l := l) (e := e) (below := below) (post := post) C n
    exact b_Vd_hasAllNames_0 (F := wp_Vd_hasAllNames post n) C (ih) x1 x2 σ _ _ ls hl hst h
/-! SchemaDesk$Verdicts.holdForChildren (III)Z -/
abbrev k_Vd_holdForChildren : ByteArray := prog_9_method_17_code
abbrev y_Vd_holdForChildren : MethodName := ⟨"SchemaDesk$Verdicts", "holdForChildren", "(III)Z"⟩
theorem d_Vd_holdForChildren_0 : decode k_Vd_holdForChildren 0 = .ok (.iconst 0, 1) := by decide +kernel
theorem d_Vd_holdForChildren_1 : decode k_Vd_holdForChildren 1 = .ok (.istore 4, 2) := by decide +kernel
theorem d_Vd_holdForChildren_3 : decode k_Vd_holdForChildren 3 = .ok (.iload_n 3, 1) := by decide +kernel
theorem d_Vd_holdForChildren_4 : decode k_Vd_holdForChildren 4 = .ok (.iconst 1, 1) := by decide +kernel
theorem d_Vd_holdForChildren_5 : decode k_Vd_holdForChildren 5 = .ok (.iadd, 1) := by decide +kernel
theorem d_Vd_holdForChildren_6 : decode k_Vd_holdForChildren 6 = .ok (.istore 5, 2) := by decide +kernel
theorem d_Vd_holdForChildren_8 : decode k_Vd_holdForChildren 8 = .ok (.iload 4, 2) := by decide +kernel
theorem d_Vd_holdForChildren_10 : decode k_Vd_holdForChildren 10 = .ok (.aload_n 0, 1) := by decide +kernel
theorem d_Vd_holdForChildren_11 : decode k_Vd_holdForChildren 11 = .ok (.getfield 32, 3) := by decide +kernel
theorem d_Vd_holdForChildren_14 : decode k_Vd_holdForChildren 14 = .ok (.getfield 69, 3) := by decide +kernel
theorem d_Vd_holdForChildren_17 : decode k_Vd_holdForChildren 17 = .ok (.iload_n 3, 1) := by decide +kernel
theorem d_Vd_holdForChildren_18 : decode k_Vd_holdForChildren 18 = .ok (.iaload, 1) := by decide +kernel
theorem d_Vd_holdForChildren_19 : decode k_Vd_holdForChildren 19 = .ok (.if_icmp .ge 51, 3) := by decide +kernel
theorem d_Vd_holdForChildren_22 : decode k_Vd_holdForChildren 22 = .ok (.aload_n 0, 1) := by decide +kernel
theorem d_Vd_holdForChildren_23 : decode k_Vd_holdForChildren 23 = .ok (.iload_n 1, 1) := by decide +kernel
theorem d_Vd_holdForChildren_24 : decode k_Vd_holdForChildren 24 = .ok (.iload_n 2, 1) := by decide +kernel
theorem d_Vd_holdForChildren_25 : decode k_Vd_holdForChildren 25 = .ok (.iload_n 3, 1) := by decide +kernel
theorem d_Vd_holdForChildren_26 : decode k_Vd_holdForChildren 26 = .ok (.iload 5, 2) := by decide +kernel
theorem d_Vd_holdForChildren_28 : decode k_Vd_holdForChildren 28 = .ok (.invokevirtual 89, 3) := by decide +kernel
theorem d_Vd_holdForChildren_31 : decode k_Vd_holdForChildren 31 = .ok (.istore 6, 2) := by decide +kernel
theorem d_Vd_holdForChildren_33 : decode k_Vd_holdForChildren 33 = .ok (.iload 6, 2) := by decide +kernel
theorem d_Vd_holdForChildren_35 : decode k_Vd_holdForChildren 35 = .ok (.iconst (-1), 1) := by decide +kernel
theorem d_Vd_holdForChildren_36 : decode k_Vd_holdForChildren 36 = .ok (.if_icmp .eq 16, 3) := by decide +kernel
theorem d_Vd_holdForChildren_39 : decode k_Vd_holdForChildren 39 = .ok (.aload_n 0, 1) := by decide +kernel
theorem d_Vd_holdForChildren_40 : decode k_Vd_holdForChildren 40 = .ok (.iload 6, 2) := by decide +kernel
theorem d_Vd_holdForChildren_42 : decode k_Vd_holdForChildren 42 = .ok (.iload 5, 2) := by decide +kernel
theorem d_Vd_holdForChildren_44 : decode k_Vd_holdForChildren 44 = .ok (.invokevirtual 148, 3) := by decide +kernel
theorem d_Vd_holdForChildren_47 : decode k_Vd_holdForChildren 47 = .ok (.ifCond .ne 5, 3) := by decide +kernel
theorem d_Vd_holdForChildren_50 : decode k_Vd_holdForChildren 50 = .ok (.iconst 0, 1) := by decide +kernel
theorem d_Vd_holdForChildren_51 : decode k_Vd_holdForChildren 51 = .ok (.ireturn, 1) := by decide +kernel
theorem d_Vd_holdForChildren_52 : decode k_Vd_holdForChildren 52 = .ok (.iinc 4 1, 3) := by decide +kernel
theorem d_Vd_holdForChildren_55 : decode k_Vd_holdForChildren 55 = .ok (.aload_n 0, 1) := by decide +kernel
theorem d_Vd_holdForChildren_56 : decode k_Vd_holdForChildren 56 = .ok (.getfield 32, 3) := by decide +kernel
theorem d_Vd_holdForChildren_59 : decode k_Vd_holdForChildren 59 = .ok (.getfield 76, 3) := by decide +kernel
theorem d_Vd_holdForChildren_62 : decode k_Vd_holdForChildren 62 = .ok (.iload 5, 2) := by decide +kernel
theorem d_Vd_holdForChildren_64 : decode k_Vd_holdForChildren 64 = .ok (.iaload, 1) := by decide +kernel
theorem d_Vd_holdForChildren_65 : decode k_Vd_holdForChildren 65 = .ok (.istore 5, 2) := by decide +kernel
theorem d_Vd_holdForChildren_67 : decode k_Vd_holdForChildren 67 = .ok (.goto (-59), 3) := by decide +kernel
theorem d_Vd_holdForChildren_70 : decode k_Vd_holdForChildren 70 = .ok (.iconst 1, 1) := by decide +kernel
theorem d_Vd_holdForChildren_71 : decode k_Vd_holdForChildren 71 = .ok (.ireturn, 1) := by decide +kernel
theorem gw819 : (Jvm.Cond.methodLink "SchemaDesk$Verdicts" (89 : Nat) ({ cls := "SchemaDesk$Verdicts", name := "nodeFor", desc := "(IIII)I" } : Jvm.MethodName)) ∈ GW := gw_t4 (List.mem_of_getElem? (i := 99) rfl) rfl
theorem gw820 : (Jvm.Cond.instanceMethod ({ cls := "SchemaDesk$Verdicts", name := "nodeFor", desc := "(IIII)I" } : Jvm.MethodName)) ∈ GW := gw_t4 (List.mem_of_getElem? (i := 100) rfl) rfl
theorem gw821 : (Jvm.Cond.selects "SchemaDesk$Verdicts" ({ cls := "SchemaDesk$Verdicts", name := "nodeFor", desc := "(IIII)I" } : Jvm.MethodName) ({ cls := "SchemaDesk$Verdicts", name := "nodeFor", desc := "(IIII)I" } : Jvm.MethodName)) ∈ GW := gw_t4 (List.mem_of_getElem? (i := 101) rfl) rfl
theorem gw11 : (Jvm.Cond.initialized "SchemaDesk$Verdicts") ∈ GW := gw_t1 (List.mem_of_getElem? (i := 11) rfl) rfl
theorem gw822 : (Jvm.Cond.code ({ cls := "SchemaDesk$Verdicts", name := "nodeFor", desc := "(IIII)I" } : Jvm.MethodName) prog_9_method_9_code (8 : Nat) (Option.some Jvm.ClassFile.FieldType.int)) ∈ GW := gw_t4 (List.mem_of_getElem? (i := 102) rfl) rfl
theorem gw882 : (Jvm.Cond.methodLink "SchemaDesk$Verdicts" (148 : Nat) ({ cls := "SchemaDesk$Verdicts", name := "isHeld", desc := "(II)Z" } : Jvm.MethodName)) ∈ GW := gw_t4 (List.mem_of_getElem? (i := 162) rfl) rfl
theorem gw883 : (Jvm.Cond.instanceMethod ({ cls := "SchemaDesk$Verdicts", name := "isHeld", desc := "(II)Z" } : Jvm.MethodName)) ∈ GW := gw_t4 (List.mem_of_getElem? (i := 163) rfl) rfl
theorem gw884 : (Jvm.Cond.selects "SchemaDesk$Verdicts" ({ cls := "SchemaDesk$Verdicts", name := "isHeld", desc := "(II)Z" } : Jvm.MethodName) ({ cls := "SchemaDesk$Verdicts", name := "isHeld", desc := "(II)Z" } : Jvm.MethodName)) ∈ GW := gw_t4 (List.mem_of_getElem? (i := 164) rfl) rfl
theorem gw885 : (Jvm.Cond.code ({ cls := "SchemaDesk$Verdicts", name := "isHeld", desc := "(II)Z" } : Jvm.MethodName) prog_9_method_3_code (3 : Nat) (Option.some Jvm.ClassFile.FieldType.boolean)) ∈ GW := gw_t4 (List.mem_of_getElem? (i := 165) rfl) rfl
def wb_Vd_holdForChildren_0 (F : Nat → Int32 → Int32 → Int32 → Int32 → Int32 → Sg → Prop) (post : Int32 → Sg → Prop) (x1 : Int32) (x2 : Int32) (x3 : Int32) (σ : Sg) : Prop := F 1 x1 x2 x3 (0 : Int32) (x3 + (1 : Int32)) σ
def wb_Vd_holdForChildren_1 (F : Nat → Int32 → Int32 → Int32 → Int32 → Int32 → Sg → Prop) (post : Int32 → Sg → Prop) (x1 : Int32) (x2 : Int32) (x3 : Int32) (x4 : Int32) (x5 : Int32) (σ : Sg) : Prop := (vp_in x3 80 ∧ (((σ.1 18 x3.toNatClampNeg) ≤ x4 → (narrow .boolean (.int (1 : Int32)) = .int (1 : Int32) ∧ post (1 : Int32) σ)) ∧ (¬ (σ.1 18 x3.toNatClampNeg) ≤ x4 → (wq_Vd_nodeFor x1 x2 x3 x5 σ (fun r1 σ1 => ((r1 = (-1 : Int32) → (vp_in x5 80 ∧ F 1 x1 x2 x3 (x4 + 1) (σ1.1 21 x5.toNatClampNeg) σ1)) ∧ (¬ r1 = (-1 : Int32) → (wq_Vd_isHeld r1 x5 σ1 (fun r2 σ2 => ((¬ r2 = 0 → (vp_in x5 80 ∧ F 1 x1 x2 x3 (x4 + 1) (σ2.1 21 x5.toNatClampNeg) σ2)) ∧ (r2 = 0 → (narrow .boolean (.int (0 : Int32)) = .int (0 : Int32) ∧ post (0 : Int32) σ2))))))))))))
def wp_Vd_holdForChildren (post : Int32 → Sg → Prop) : Nat → Nat → Int32 → Int32 → Int32 → Int32 → Int32 → Sg → Prop
  | 0, _, _, _, _, _, _, _ => False
  | n + 1, k, x1, x2, x3, x4, x5, σ => match k with
    | 0 => wb_Vd_holdForChildren_0 (wp_Vd_holdForChildren post n) post x1 x2 x3 σ
    | 1 => wb_Vd_holdForChildren_1 (wp_Vd_holdForChildren post n) post x1 x2 x3 x4 x5 σ
    | _ => False
def wq_Vd_holdForChildren (x1 : Int32) (x2 : Int32) (x3 : Int32) (σ : Sg) (post : Int32 → Sg → Prop) : Prop := ∃ n, wp_Vd_holdForChildren post n 0 x1 x2 x3 0 0 σ
def J_Vd_holdForChildren_1 (p : Program) (l : Launch) (e : Env) (s : State) (m : MethodId) (args : Array Value) (below : List Frame) (meth : Method) (c : Code) (D : va_G) (g : Gm) (A : Nat → Prop) (post : Int32 → Sg → Prop) (F : Nat → Int32 → Int32 → Int32 → Int32 → Int32 → Sg → Prop) : Prop := ∀ (x1 : Int32) (x2 : Int32) (x3 : Int32) (x4 : Int32) (x5 : Int32) (σ : Sg) (H : Heap) (locs : List Loc) (ls : Array Slot), lv_has ls 7 [(0, .ref (g.1 35)), (1, .int x1), (2, .int x2), (3, .int x3), (4, .int x4), (5, .int x5)] → Wst D vwCl (WS g) A s σ H locs → F 1 x1 x2 x3 x4 x5 σ → W p l e { frames := 3, cells := 0, slots := 0, locals := 78 } s m args below meth c H locs 0 0 (MQ below (QiW D vwCl (WS g) post A) args s 0 0 A) (F0 m 8 ls [])
set_option maxRecDepth 100000 in
set_option maxHeartbeats 4000000 in
theorem b_Vd_holdForChildren_0 {p : Program} {l : Launch} {e : Env} {s : State} {m : MethodId} {args : Array Value} {below : List Frame} {meth : Method} {c : Code} {D : va_G} {g : Gm} {A : Nat → Prop} {post : Int32 → Sg → Prop} {F : Nat → Int32 → Int32 → Int32 → Int32 → Int32 → Sg → Prop} (C : kC p s m args meth c k_Vd_holdForChildren 7 (some .boolean) GW R_Vd D vwCl g (Zk g) A) (j1 : J_Vd_holdForChildren_1 p l e s m args below meth c D g A post F) (x1 : Int32) (x2 : Int32) (x3 : Int32) (σ : Sg) (H : Heap) (locs : List Loc) (ls : Array Slot) (hl : lv_has ls 7 [(0, .ref (g.1 35)), (1, .int x1), (2, .int x2), (3, .int x3)]) (hst : Wst D vwCl (WS g) A s σ H locs) (h : wb_Vd_holdForChildren_0 F post x1 x2 x3 σ) : W p l e { frames := 3, cells := 0, slots := 0, locals := 78 } s m args below meth c H locs 0 0 (MQ below (QiW D vwCl (WS g) post A) args s 0 0 A) (F0 m 0 ls []) := by
  obtain ⟨hx, hb, hr, hml, hown, hts, hlocks, hK, hZ, hA⟩ := C
  unfold wb_Vd_holdForChildren_0 at h
  refine lv_iconst (v := (0 : Int32)) hx hb d_Vd_holdForChildren_0 (by decide) ?_
  refine lv_istore hx hb d_Vd_holdForChildren_1 hl (by decide) rfl (fun ls hl => ?_)
  have hl : lv_has ls 7 [(4, .int (0 : Int32)), (0, .ref (g.1 35)), (1, .int x1), (2, .int x2), (3, .int x3)] := hl
  refine lv_iload_n hx hb d_Vd_holdForChildren_3 rfl (lv_at hl 4 rfl) ?_
  refine lv_iconst (v := (1 : Int32)) hx hb d_Vd_holdForChildren_4 (by decide) ?_
  refine lv_iadd hx hb d_Vd_holdForChildren_5 ?_
  refine lv_istore hx hb d_Vd_holdForChildren_6 hl (by decide) rfl (fun ls hl => ?_)
  have hl : lv_has ls 7 [(5, .int (x3 + (1 : Int32))), (4, .int (0 : Int32)), (0, .ref (g.1 35)), (1, .int x1), (2, .int x2), (3, .int x3)] := hl
  exact j1 x1 x2 x3 (0 : Int32) (x3 + (1 : Int32)) σ _ _ _ (lv_sub hl [2, 3, 4, 5, 1, 0] rfl) hst h
set_option maxRecDepth 100000 in
set_option maxHeartbeats 4000000 in
theorem b_Vd_holdForChildren_1 {p : Program} {l : Launch} {e : Env} {s : State} {m : MethodId} {args : Array Value} {below : List Frame} {meth : Method} {c : Code} {D : va_G} {g : Gm} {A : Nat → Prop} {post : Int32 → Sg → Prop} {F : Nat → Int32 → Int32 → Int32 → Int32 → Int32 → Sg → Prop} (C : kC p s m args meth c k_Vd_holdForChildren 7 (some .boolean) GW R_Vd D vwCl g (Zk g) A) (j1 : J_Vd_holdForChildren_1 p l e s m args below meth c D g A post F) (x1 : Int32) (x2 : Int32) (x3 : Int32) (x4 : Int32) (x5 : Int32) (σ : Sg) (H : Heap) (locs : List Loc) (ls : Array Slot) (hl : lv_has ls 7 [(0, .ref (g.1 35)), (1, .int x1), (2, .int x2), (3, .int x3), (4, .int x4), (5, .int x5)]) (hst : Wst D vwCl (WS g) A s σ H locs) (h : wb_Vd_holdForChildren_1 F post x1 x2 x3 x4 x5 σ) : W p l e { frames := 3, cells := 0, slots := 0, locals := 78 } s m args below meth c H locs 0 0 (MQ below (QiW D vwCl (WS g) post A) args s 0 0 A) (F0 m 8 ls []) := by
  obtain ⟨hx, hb, hr, hml, hown, hts, hlocks, hK, hZ, hA⟩ := C
  unfold wb_Vd_holdForChildren_1 at h
  refine lv_iload hx hb d_Vd_holdForChildren_8 (lv_at hl 4 rfl) ?_
  refine lv_aload_n hx hb d_Vd_holdForChildren_10 rfl (lv_at hl 0 rfl) ?_
  refine va_get (D := D) (ci := 6) (C := R_Vd) (T := T_Vd) (N := 6) hx hb hts in_Vd hown hK hst.1 35 (WS_o35 g σ) rfl 2 (by decide) (hts _ gw305) (fun _ h9 => h9) rfl d_Vd_holdForChildren_11 ?_
  refine va_get (D := D) (ci := 0) (C := R_Tr) (T := T_Tr) (N := 12) hx hb hts in_Tr hown hK hst.1 13 (WS_o13 g σ) rfl 5 (by decide) (hts _ gw150) (fun _ h9 => h9) rfl d_Vd_holdForChildren_14 ?_
  refine lv_iload_n hx hb d_Vd_holdForChildren_17 rfl (lv_at hl 3 rfl) ?_
  obtain ⟨hi, h⟩ := h
  refine va_iald hx hb hK hst.1 18 0 (WS_a18 g σ) rfl hi d_Vd_holdForChildren_18 ?_
  refine lv_icmp_ge (tgt := 70) hx hb d_Vd_holdForChildren_19 (by decide) (fun hc => ?_) (fun hc => ?_)
  · replace h := h.1 hc
    refine lv_iconst (v := (1 : Int32)) hx hb d_Vd_holdForChildren_70 (by decide) ?_
    exact kw_zret hx hb hr hlocks hst h d_Vd_holdForChildren_71
  · replace h := h.2 hc
    refine lv_aload_n hx hb d_Vd_holdForChildren_22 rfl (lv_at hl 0 rfl) ?_
    refine lv_iload_n hx hb d_Vd_holdForChildren_23 rfl (lv_at hl 1 rfl) ?_
    refine lv_iload_n hx hb d_Vd_holdForChildren_24 rfl (lv_at hl 2 rfl) ?_
    refine lv_iload_n hx hb d_Vd_holdForChildren_25 rfl (lv_at hl 3 rfl) ?_
    refine lv_iload hx hb d_Vd_holdForChildren_26 (lv_at hl 5 rfl) ?_
    refine kw_calli (va_runV (As := [.int x1, .int x2, .int x3, .int x5]) (rest := []) (b := g.1 35) ⟨hx, hb, hml, hown, hts⟩ (c_Vd_nodeFor l x1 x2 x3 x5 h) (cwV 4 hts (gd_v gw819 gw820 gw821 gw11 gw822) rfl rfl rfl (by decide +kernel) ⟨Nat.le_of_ble_eq_true rfl, Nat.le_of_ble_eq_true rfl⟩) ⟨kw_blind (Zk_ok g), va_recv hK hst.1 rfl (WS_o35 g σ), kw_pre (Zk_ok g) hK hZ hA hst⟩ rfl rfl hl.1 rfl (lv_room (Nat.le_of_ble_eq_true rfl)) d_Vd_holdForChildren_28 ⟨Nat.le_of_ble_eq_true rfl, Nat.le_of_ble_eq_true rfl⟩) hst hA (fun r1 σ1 H locs h hst => ?_)
    refine lv_istore hx hb d_Vd_holdForChildren_31 hl (by decide) rfl (fun ls hl => ?_)
    have hl : lv_has ls 7 [(6, .int r1), (0, .ref (g.1 35)), (1, .int x1), (2, .int x2), (3, .int x3), (4, .int x4), (5, .int x5)] := hl
    refine lv_iload hx hb d_Vd_holdForChildren_33 (lv_at hl 0 rfl) ?_
    refine lv_iconst (v := (-1 : Int32)) hx hb d_Vd_holdForChildren_35 (by decide) ?_
    refine lv_icmp_eq (tgt := 52) hx hb d_Vd_holdForChildren_36 (by decide) (fun hc => ?_) (fun hc => ?_)
    · replace h := h.1 hc
      refine lv_iinc (k := 5) (v := (x4 + 1)) hx hb d_Vd_holdForChildren_52 hl rfl (kw_inc _ (by decide)) (by decide) rfl (fun ls hl => ?_)
      have hl : lv_has ls 7 [(4, .int (x4 + 1)), (6, .int r1), (0, .ref (g.1 35)), (1, .int x1), (2, .int x2), (3, .int x3), (5, .int x5)] := hl
      refine lv_aload_n hx hb d_Vd_holdForChildren_55 rfl (lv_at hl 2 rfl) ?_
      refine va_get (D := D) (ci := 6) (C := R_Vd) (T := T_Vd) (N := 6) hx hb hts in_Vd hown hK hst.1 35 (WS_o35 g σ1) rfl 2 (by decide) (hts _ gw305) (fun _ h9 => h9) rfl d_Vd_holdForChildren_56 ?_
      refine va_get (D := D) (ci := 0) (C := R_Tr) (T := T_Tr) (N := 12) hx hb hts in_Tr hown hK hst.1 13 (WS_o13 g σ1) rfl 8 (by decide) (hts _ gw165) (fun _ h9 => h9) rfl d_Vd_holdForChildren_59 ?_
      refine lv_iload hx hb d_Vd_holdForChildren_62 (lv_at hl 6 rfl) ?_
      obtain ⟨hi, h⟩ := h
      refine va_iald hx hb hK hst.1 21 0 (WS_a21 g σ1) rfl hi d_Vd_holdForChildren_64 ?_
      refine lv_istore hx hb d_Vd_holdForChildren_65 hl (by decide) rfl (fun ls hl => ?_)
      have hl : lv_has ls 7 [(5, .int (σ1.1 21 x5.toNatClampNeg)), (4, .int (x4 + 1)), (6, .int r1), (0, .ref (g.1 35)), (1, .int x1), (2, .int x2), (3, .int x3)] := hl
      refine lv_goto (tgt := 8) hx hb d_Vd_holdForChildren_67 (by decide) ?_
      exact j1 x1 x2 x3 (x4 + 1) (σ1.1 21 x5.toNatClampNeg) σ1 _ _ _ (lv_sub hl [3, 4, 5, 6, 1, 0] rfl) hst h
    · replace h := h.2 hc
      refine lv_aload_n hx hb d_Vd_holdForChildren_39 rfl (lv_at hl 1 rfl) ?_
      refine lv_iload hx hb d_Vd_holdForChildren_40 (lv_at hl 0 rfl) ?_
      refine lv_iload hx hb d_Vd_holdForChildren_42 (lv_at hl 6 rfl) ?_
      refine kw_calli (va_runV (As := [.int r1, .int x5]) (rest := []) (b := g.1 35) ⟨hx, hb, hml, hown, hts⟩ (c_Vd_isHeld l r1 x5 h) (cwV 2 hts (gd_v gw882 gw883 gw884 gw11 gw885) rfl rfl rfl (by decide +kernel) ⟨Nat.le_of_ble_eq_true rfl, Nat.le_of_ble_eq_true rfl⟩) ⟨kw_blind (Zk_ok g), va_recv hK hst.1 rfl (WS_o35 g σ1), kw_pre (Zk_ok g) hK hZ hA hst⟩ rfl rfl hl.1 rfl (lv_room (Nat.le_of_ble_eq_true rfl)) d_Vd_holdForChildren_44 ⟨Nat.le_of_ble_eq_true rfl, Nat.le_of_ble_eq_true rfl⟩) hst hA (fun r2 σ2 H locs h hst => ?_)
      refine lv_if_ne (tgt := 52) hx hb d_Vd_holdForChildren_47 (by decide) (fun hc => ?_) (fun hc => ?_)
      · replace h := h.1 hc
        refine lv_iinc (k := 5) (v := (x4 + 1)) hx hb d_Vd_holdForChildren_52 hl rfl (kw_inc _ (by decide)) (by decide) rfl (fun ls hl => ?_)
        have hl : lv_has ls 7 [(4, .int (x4 + 1)), (6, .int r1), (0, .ref (g.1 35)), (1, .int x1), (2, .int x2), (3, .int x3), (5, .int x5)] := hl
        refine lv_aload_n hx hb d_Vd_holdForChildren_55 rfl (lv_at hl 2 rfl) ?_
        refine va_get (D := D) (ci := 6) (C := R_Vd) (T := T_Vd) (N := 6) hx hb hts in_Vd hown hK hst.1 35 (WS_o35 g σ2) rfl 2 (by decide) (hts _ gw305) (fun _ h9 => h9) rfl d_Vd_holdForChildren_56 ?_
        refine va_get (D := D) (ci := 0) (C := R_Tr) (T := T_Tr) (N := 12) hx hb hts in_Tr hown hK hst.1 13 (WS_o13 g σ2) rfl 8 (by decide) (hts _ gw165) (fun _ h9 => h9) rfl d_Vd_holdForChildren_59 ?_
        refine lv_iload hx hb d_Vd_holdForChildren_62 (lv_at hl 6 rfl) ?_
        obtain ⟨hi, h⟩ := h
        refine va_iald hx hb hK hst.1 21 0 (WS_a21 g σ2) rfl hi d_Vd_holdForChildren_64 ?_
        refine lv_istore hx hb d_Vd_holdForChildren_65 hl (by decide) rfl (fun ls hl => ?_)
        have hl : lv_has ls 7 [(5, .int (σ2.1 21 x5.toNatClampNeg)), (4, .int (x4 + 1)), (6, .int r1), (0, .ref (g.1 35)), (1, .int x1), (2, .int x2), (3, .int x3)] := hl
        refine lv_goto (tgt := 8) hx hb d_Vd_holdForChildren_67 (by decide) ?_
        exact j1 x1 x2 x3 (x4 + 1) (σ2.1 21 x5.toNatClampNeg) σ2 _ _ _ (lv_sub hl [3, 4, 5, 6, 1, 0] rfl) hst h
      · replace h := h.2 hc
        refine lv_iconst (v := (0 : Int32)) hx hb d_Vd_holdForChildren_50 (by decide) ?_
        exact kw_zret hx hb hr hlocks hst h d_Vd_holdForChildren_51
set_option maxRecDepth 100000 in
set_option maxHeartbeats 4000000 in
theorem a_Vd_holdForChildren {p : Program} {l : Launch} {e : Env} {s : State} {m : MethodId} {args : Array Value} {below : List Frame} {meth : Method} {c : Code} {D : va_G} {g : Gm} {A : Nat → Prop} {post : Int32 → Sg → Prop} (C : kC p s m args meth c k_Vd_holdForChildren 7 (some .boolean) GW R_Vd D vwCl g (Zk g) A) : ∀ n : Nat, J_Vd_holdForChildren_1 p l e s m args below meth c D g A post (wp_Vd_holdForChildren post n) := by
  intro n
  induction n with
  | zero => exact fun _ _ _ _ _ _ _ _ _ _ _ h => h.elim
  | succ n ih => exact fun x1 x2 x3 x4 x5 σ H locs ls hl hst h => b_Vd_holdForChildren_1 (F := wp_Vd_holdForChildren post n) C (ih) x1 x2 x3 x4 x5 σ H locs ls hl hst h
set_option maxRecDepth 100000 in
set_option maxHeartbeats 4000000 in
theorem c_Vd_holdForChildren (l : Launch) {D : va_G} {g : Gm} {sz : Nat} (x1 : Int32) (x2 : Int32) (x3 : Int32) {σ : Sg} {post : Int32 → Sg → Prop} (h : wq_Vd_holdForChildren x1 x2 x3 σ post) : Met l y_Vd_holdForChildren (.code y_Vd_holdForChildren k_Vd_holdForChildren 7 (some .boolean) :: GW) { frames := 3, cells := 0, slots := 0, locals := 78 } (PcW D vwCl (WS g) g (Zk g) σ sz [.ref (g.1 35), .int x1, .int x2, .int x3]) (QiW D vwCl (WS g) post (va_A (WS g σ) sz)) 0 0 (va_A (WS g σ) sz) := by
  refine kw_entry (own := R_Vd) (by decide) rfl rfl (Nat.le_of_ble_eq_true rfl) ?_
  intro p e s m below meth c ls hsz C hin hl hst
  obtain ⟨n, h⟩ := h
  cases n with
  | zero => exact h.elim
  | succ n =>
    have ih := a_Vd_holdForChildren (l := l) (e := e) (below := below) (post := post) C n
    exact b_Vd_holdForChildren_0 (F := wp_Vd_holdForChildren post n) C (ih) x1 x2 x3 σ _ _ ls hl hst h
/-! SchemaDesk$Verdicts.countHeld (II)I -/
abbrev k_Vd_countHeld : ByteArray := prog_9_method_18_code
abbrev y_Vd_countHeld : MethodName := ⟨"SchemaDesk$Verdicts", "countHeld", "(II)I"⟩
theorem d_Vd_countHeld_0 : decode k_Vd_countHeld 0 = .ok (.iconst 0, 1) := by decide +kernel
theorem d_Vd_countHeld_1 : decode k_Vd_countHeld 1 = .ok (.istore_n 3, 1) := by decide +kernel
theorem d_Vd_countHeld_2 : decode k_Vd_countHeld 2 = .ok (.iconst 0, 1) := by decide +kernel
theorem d_Vd_countHeld_3 : decode k_Vd_countHeld 3 = .ok (.istore 4, 2) := by decide +kernel
theorem d_Vd_countHeld_5 : decode k_Vd_countHeld 5 = .ok (.iload_n 1, 1) := by decide +kernel
theorem d_Vd_countHeld_6 : decode k_Vd_countHeld 6 = .ok (.iconst 1, 1) := by decide +kernel
theorem d_Vd_countHeld_7 : decode k_Vd_countHeld 7 = .ok (.iadd, 1) := by decide +kernel
theorem d_Vd_countHeld_8 : decode k_Vd_countHeld 8 = .ok (.istore 5, 2) := by decide +kernel
theorem d_Vd_countHeld_10 : decode k_Vd_countHeld 10 = .ok (.iload 4, 2) := by decide +kernel
theorem d_Vd_countHeld_12 : decode k_Vd_countHeld 12 = .ok (.aload_n 0, 1) := by decide +kernel
theorem d_Vd_countHeld_13 : decode k_Vd_countHeld 13 = .ok (.getfield 31, 3) := by decide +kernel
theorem d_Vd_countHeld_16 : decode k_Vd_countHeld 16 = .ok (.getfield 69, 3) := by decide +kernel
theorem d_Vd_countHeld_19 : decode k_Vd_countHeld 19 = .ok (.iload_n 1, 1) := by decide +kernel
theorem d_Vd_countHeld_20 : decode k_Vd_countHeld 20 = .ok (.iaload, 1) := by decide +kernel
theorem d_Vd_countHeld_21 : decode k_Vd_countHeld 21 = .ok (.if_icmp .ge 39, 3) := by decide +kernel
theorem d_Vd_countHeld_24 : decode k_Vd_countHeld 24 = .ok (.iload_n 3, 1) := by decide +kernel
theorem d_Vd_countHeld_25 : decode k_Vd_countHeld 25 = .ok (.aload_n 0, 1) := by decide +kernel
theorem d_Vd_countHeld_26 : decode k_Vd_countHeld 26 = .ok (.iload 5, 2) := by decide +kernel
theorem d_Vd_countHeld_28 : decode k_Vd_countHeld 28 = .ok (.iload_n 2, 1) := by decide +kernel
theorem d_Vd_countHeld_29 : decode k_Vd_countHeld 29 = .ok (.invokevirtual 148, 3) := by decide +kernel
theorem d_Vd_countHeld_32 : decode k_Vd_countHeld 32 = .ok (.ifCond .eq 7, 3) := by decide +kernel
theorem d_Vd_countHeld_35 : decode k_Vd_countHeld 35 = .ok (.iconst 1, 1) := by decide +kernel
theorem d_Vd_countHeld_36 : decode k_Vd_countHeld 36 = .ok (.goto 4, 3) := by decide +kernel
theorem d_Vd_countHeld_39 : decode k_Vd_countHeld 39 = .ok (.iconst 0, 1) := by decide +kernel
theorem d_Vd_countHeld_40 : decode k_Vd_countHeld 40 = .ok (.iadd, 1) := by decide +kernel
theorem d_Vd_countHeld_41 : decode k_Vd_countHeld 41 = .ok (.istore_n 3, 1) := by decide +kernel
theorem d_Vd_countHeld_42 : decode k_Vd_countHeld 42 = .ok (.iinc 4 1, 3) := by decide +kernel
theorem d_Vd_countHeld_45 : decode k_Vd_countHeld 45 = .ok (.aload_n 0, 1) := by decide +kernel
theorem d_Vd_countHeld_46 : decode k_Vd_countHeld 46 = .ok (.getfield 31, 3) := by decide +kernel
theorem d_Vd_countHeld_49 : decode k_Vd_countHeld 49 = .ok (.getfield 76, 3) := by decide +kernel
theorem d_Vd_countHeld_52 : decode k_Vd_countHeld 52 = .ok (.iload 5, 2) := by decide +kernel
theorem d_Vd_countHeld_54 : decode k_Vd_countHeld 54 = .ok (.iaload, 1) := by decide +kernel
theorem d_Vd_countHeld_55 : decode k_Vd_countHeld 55 = .ok (.istore 5, 2) := by decide +kernel
theorem d_Vd_countHeld_57 : decode k_Vd_countHeld 57 = .ok (.goto (-47), 3) := by decide +kernel
theorem d_Vd_countHeld_60 : decode k_Vd_countHeld 60 = .ok (.iload_n 3, 1) := by decide +kernel
theorem d_Vd_countHeld_61 : decode k_Vd_countHeld 61 = .ok (.ireturn, 1) := by decide +kernel
def wb_Vd_countHeld_0 (F : Nat → Int32 → Int32 → Int32 → Int32 → Int32 → Sg → Prop) (post : Int32 → Sg → Prop) (x1 : Int32) (x2 : Int32) (σ : Sg) : Prop := F 1 x1 x2 (0 : Int32) (0 : Int32) (x1 + (1 : Int32)) σ
def wb_Vd_countHeld_1 (F : Nat → Int32 → Int32 → Int32 → Int32 → Int32 → Sg → Prop) (post : Int32 → Sg → Prop) (x1 : Int32) (x2 : Int32) (x3 : Int32) (x4 : Int32) (x5 : Int32) (σ : Sg) : Prop := (vp_in x1 160 ∧ (((σ.1 5 x1.toNatClampNeg) ≤ x4 → post x3 σ) ∧ (¬ (σ.1 5 x1.toNatClampNeg) ≤ x4 → (wq_Vd_isHeld x5 x2 σ (fun r1 σ1 => ((r1 = 0 → (vp_in x5 160 ∧ F 1 x1 x2 (x3 + (0 : Int32)) (x4 + 1) (σ1.1 8 x5.toNatClampNeg) σ1)) ∧ (¬ r1 = 0 → (vp_in x5 160 ∧ F 1 x1 x2 (x3 + (1 : Int32)) (x4 + 1) (σ1.1 8 x5.toNatClampNeg) σ1))))))))
def wp_Vd_countHeld (post : Int32 → Sg → Prop) : Nat → Nat → Int32 → Int32 → Int32 → Int32 → Int32 → Sg → Prop
  | 0, _, _, _, _, _, _, _ => False
  | n + 1, k, x1, x2, x3, x4, x5, σ => match k with
    | 0 => wb_Vd_countHeld_0 (wp_Vd_countHeld post n) post x1 x2 σ
    | 1 => wb_Vd_countHeld_1 (wp_Vd_countHeld post n) post x1 x2 x3 x4 x5 σ
    | _ => False
def wq_Vd_countHeld (x1 : Int32) (x2 : Int32) (σ : Sg) (post : Int32 → Sg → Prop) : Prop := ∃ n, wp_Vd_countHeld post n 0 x1 x2 0 0 0 σ
def J_Vd_countHeld_1 (p : Program) (l : Launch) (e : Env) (s : State) (m : MethodId) (args : Array Value) (below : List Frame) (meth : Method) (c : Code) (D : va_G) (g : Gm) (A : Nat → Prop) (post : Int32 → Sg → Prop) (F : Nat → Int32 → Int32 → Int32 → Int32 → Int32 → Sg → Prop) : Prop := ∀ (x1 : Int32) (x2 : Int32) (x3 : Int32) (x4 : Int32) (x5 : Int32) (σ : Sg) (H : Heap) (locs : List Loc) (ls : Array Slot), lv_has ls 6 [(0, .ref (g.1 35)), (1, .int x1), (2, .int x2), (3, .int x3), (4, .int x4), (5, .int x5)] → Wst D vwCl (WS g) A s σ H locs → F 1 x1 x2 x3 x4 x5 σ → W p l e { frames := 2, cells := 0, slots := 0, locals := 44 } s m args below meth c H locs 0 0 (MQ below (QiW D vwCl (WS g) post A) args s 0 0 A) (F0 m 10 ls [])
set_option maxRecDepth 100000 in
set_option maxHeartbeats 4000000 in
theorem b_Vd_countHeld_0 {p : Program} {l : Launch} {e : Env} {s : State} {m : MethodId} {args : Array Value} {below : List Frame} {meth : Method} {c : Code} {D : va_G} {g : Gm} {A : Nat → Prop} {post : Int32 → Sg → Prop} {F : Nat → Int32 → Int32 → Int32 → Int32 → Int32 → Sg → Prop} (C : kC p s m args meth c k_Vd_countHeld 6 (some .int) GW R_Vd D vwCl g (Zk g) A) (j1 : J_Vd_countHeld_1 p l e s m args below meth c D g A post F) (x1 : Int32) (x2 : Int32) (σ : Sg) (H : Heap) (locs : List Loc) (ls : Array Slot) (hl : lv_has ls 6 [(0, .ref (g.1 35)), (1, .int x1), (2, .int x2)]) (hst : Wst D vwCl (WS g) A s σ H locs) (h : wb_Vd_countHeld_0 F post x1 x2 σ) : W p l e { frames := 2, cells := 0, slots := 0, locals := 44 } s m args below meth c H locs 0 0 (MQ below (QiW D vwCl (WS g) post A) args s 0 0 A) (F0 m 0 ls []) := by
  obtain ⟨hx, hb, hr, hml, hown, hts, hlocks, hK, hZ, hA⟩ := C
  unfold wb_Vd_countHeld_0 at h
  refine lv_iconst (v := (0 : Int32)) hx hb d_Vd_countHeld_0 (by decide) ?_
  refine lv_istore_n hx hb d_Vd_countHeld_1 rfl hl (by decide) rfl (fun ls hl => ?_)
  have hl : lv_has ls 6 [(3, .int (0 : Int32)), (0, .ref (g.1 35)), (1, .int x1), (2, .int x2)] := hl
  refine lv_iconst (v := (0 : Int32)) hx hb d_Vd_countHeld_2 (by decide) ?_
  refine lv_istore hx hb d_Vd_countHeld_3 hl (by decide) rfl (fun ls hl => ?_)
  have hl : lv_has ls 6 [(4, .int (0 : Int32)), (3, .int (0 : Int32)), (0, .ref (g.1 35)), (1, .int x1), (2, .int x2)] := hl
  refine lv_iload_n hx hb d_Vd_countHeld_5 rfl (lv_at hl 3 rfl) ?_
  refine lv_iconst (v := (1 : Int32)) hx hb d_Vd_countHeld_6 (by decide) ?_
  refine lv_iadd hx hb d_Vd_countHeld_7 ?_
  refine lv_istore hx hb d_Vd_countHeld_8 hl (by decide) rfl (fun ls hl => ?_)
  have hl : lv_has ls 6 [(5, .int (x1 + (1 : Int32))), (4, .int (0 : Int32)), (3, .int (0 : Int32)), (0, .ref (g.1 35)), (1, .int x1), (2, .int x2)] := hl
  exact j1 x1 x2 (0 : Int32) (0 : Int32) (x1 + (1 : Int32)) σ _ _ _ (lv_sub hl [3, 4, 5, 2, 1, 0] rfl) hst h
set_option maxRecDepth 100000 in
set_option maxHeartbeats 4000000 in
theorem b_Vd_countHeld_1 {p : Program} {l : Launch} {e : Env} {s : State} {m : MethodId} {args : Array Value} {below : List Frame} {meth : Method} {c : Code} {D : va_G} {g : Gm} {A : Nat → Prop} {post : Int32 → Sg → Prop} {F : Nat → Int32 → Int32 → Int32 → Int32 → Int32 → Sg → Prop} (C : kC p s m args meth c k_Vd_countHeld 6 (some .int) GW R_Vd D vwCl g (Zk g) A) (j1 : J_Vd_countHeld_1 p l e s m args below meth c D g A post F) (x1 : Int32) (x2 : Int32) (x3 : Int32) (x4 : Int32) (x5 : Int32) (σ : Sg) (H : Heap) (locs : List Loc) (ls : Array Slot) (hl : lv_has ls 6 [(0, .ref (g.1 35)), (1, .int x1), (2, .int x2), (3, .int x3), (4, .int x4), (5, .int x5)]) (hst : Wst D vwCl (WS g) A s σ H locs) (h : wb_Vd_countHeld_1 F post x1 x2 x3 x4 x5 σ) : W p l e { frames := 2, cells := 0, slots := 0, locals := 44 } s m args below meth c H locs 0 0 (MQ below (QiW D vwCl (WS g) post A) args s 0 0 A) (F0 m 10 ls []) := by
  obtain ⟨hx, hb, hr, hml, hown, hts, hlocks, hK, hZ, hA⟩ := C
  unfold wb_Vd_countHeld_1 at h
  refine lv_iload hx hb d_Vd_countHeld_10 (lv_at hl 4 rfl) ?_
  refine lv_aload_n hx hb d_Vd_countHeld_12 rfl (lv_at hl 0 rfl) ?_
  refine va_get (D := D) (ci := 6) (C := R_Vd) (T := T_Vd) (N := 6) hx hb hts in_Vd hown hK hst.1 35 (WS_o35 g σ) rfl 1 (by decide) (hts _ gw302) (fun _ h9 => h9) rfl d_Vd_countHeld_13 ?_
  refine va_get (D := D) (ci := 0) (C := R_Tr) (T := T_Tr) (N := 12) hx hb hts in_Tr hown hK hst.1 0 (WS_o0 g σ) rfl 5 (by decide) (hts _ gw150) (fun _ h9 => h9) rfl d_Vd_countHeld_16 ?_
  refine lv_iload_n hx hb d_Vd_countHeld_19 rfl (lv_at hl 1 rfl) ?_
  obtain ⟨hi, h⟩ := h
  refine va_iald hx hb hK hst.1 5 0 (WS_a5 g σ) rfl hi d_Vd_countHeld_20 ?_
  refine lv_icmp_ge (tgt := 60) hx hb d_Vd_countHeld_21 (by decide) (fun hc => ?_) (fun hc => ?_)
  · replace h := h.1 hc
    refine lv_iload_n hx hb d_Vd_countHeld_60 rfl (lv_at hl 3 rfl) ?_
    exact kw_iret hx hb hr hlocks hst h d_Vd_countHeld_61
  · replace h := h.2 hc
    refine lv_iload_n hx hb d_Vd_countHeld_24 rfl (lv_at hl 3 rfl) ?_
    refine lv_aload_n hx hb d_Vd_countHeld_25 rfl (lv_at hl 0 rfl) ?_
    refine lv_iload hx hb d_Vd_countHeld_26 (lv_at hl 5 rfl) ?_
    refine lv_iload_n hx hb d_Vd_countHeld_28 rfl (lv_at hl 2 rfl) ?_
    refine kw_calli (va_runV (As := [.int x5, .int x2]) (rest := [.int x3]) (b := g.1 35) ⟨hx, hb, hml, hown, hts⟩ (c_Vd_isHeld l x5 x2 h) (cwV 2 hts (gd_v gw882 gw883 gw884 gw11 gw885) rfl rfl rfl (by decide +kernel) ⟨Nat.le_of_ble_eq_true rfl, Nat.le_of_ble_eq_true rfl⟩) ⟨kw_blind (Zk_ok g), va_recv hK hst.1 rfl (WS_o35 g σ), kw_pre (Zk_ok g) hK hZ hA hst⟩ rfl rfl hl.1 rfl (lv_room (Nat.le_of_ble_eq_true rfl)) d_Vd_countHeld_29 ⟨Nat.le_of_ble_eq_true rfl, Nat.le_of_ble_eq_true rfl⟩) hst hA (fun r1 σ1 H locs h hst => ?_)
    refine lv_if_eq (tgt := 39) hx hb d_Vd_countHeld_32 (by decide) (fun hc => ?_) (fun hc => ?_)
    · replace h := h.1 hc
      refine lv_iconst (v := (0 : Int32)) hx hb d_Vd_countHeld_39 (by decide) ?_
      refine lv_iadd hx hb d_Vd_countHeld_40 ?_
      refine lv_istore_n hx hb d_Vd_countHeld_41 rfl hl (by decide) rfl (fun ls hl => ?_)
      have hl : lv_has ls 6 [(3, .int (x3 + (0 : Int32))), (0, .ref (g.1 35)), (1, .int x1), (2, .int x2), (4, .int x4), (5, .int x5)] := hl
      refine lv_iinc (k := 4) (v := (x4 + 1)) hx hb d_Vd_countHeld_42 hl rfl (kw_inc _ (by decide)) (by decide) rfl (fun ls hl => ?_)
      have hl : lv_has ls 6 [(4, .int (x4 + 1)), (3, .int (x3 + (0 : Int32))), (0, .ref (g.1 35)), (1, .int x1), (2, .int x2), (5, .int x5)] := hl
      refine lv_aload_n hx hb d_Vd_countHeld_45 rfl (lv_at hl 2 rfl) ?_
      refine va_get (D := D) (ci := 6) (C := R_Vd) (T := T_Vd) (N := 6) hx hb hts in_Vd hown hK hst.1 35 (WS_o35 g σ1) rfl 1 (by decide) (hts _ gw302) (fun _ h9 => h9) rfl d_Vd_countHeld_46 ?_
      refine va_get (D := D) (ci := 0) (C := R_Tr) (T := T_Tr) (N := 12) hx hb hts in_Tr hown hK hst.1 0 (WS_o0 g σ1) rfl 8 (by decide) (hts _ gw165) (fun _ h9 => h9) rfl d_Vd_countHeld_49 ?_
      refine lv_iload hx hb d_Vd_countHeld_52 (lv_at hl 5 rfl) ?_
      obtain ⟨hi, h⟩ := h
      refine va_iald hx hb hK hst.1 8 0 (WS_a8 g σ1) rfl hi d_Vd_countHeld_54 ?_
      refine lv_istore hx hb d_Vd_countHeld_55 hl (by decide) rfl (fun ls hl => ?_)
      have hl : lv_has ls 6 [(5, .int (σ1.1 8 x5.toNatClampNeg)), (4, .int (x4 + 1)), (3, .int (x3 + (0 : Int32))), (0, .ref (g.1 35)), (1, .int x1), (2, .int x2)] := hl
      refine lv_goto (tgt := 10) hx hb d_Vd_countHeld_57 (by decide) ?_
      exact j1 x1 x2 (x3 + (0 : Int32)) (x4 + 1) (σ1.1 8 x5.toNatClampNeg) σ1 _ _ _ (lv_sub hl [3, 4, 5, 2, 1, 0] rfl) hst h
    · replace h := h.2 hc
      refine lv_iconst (v := (1 : Int32)) hx hb d_Vd_countHeld_35 (by decide) ?_
      refine lv_goto (tgt := 40) hx hb d_Vd_countHeld_36 (by decide) ?_
      refine lv_iadd hx hb d_Vd_countHeld_40 ?_
      refine lv_istore_n hx hb d_Vd_countHeld_41 rfl hl (by decide) rfl (fun ls hl => ?_)
      have hl : lv_has ls 6 [(3, .int (x3 + (1 : Int32))), (0, .ref (g.1 35)), (1, .int x1), (2, .int x2), (4, .int x4), (5, .int x5)] := hl
      refine lv_iinc (k := 4) (v := (x4 + 1)) hx hb d_Vd_countHeld_42 hl rfl (kw_inc _ (by decide)) (by decide) rfl (fun ls hl => ?_)
      have hl : lv_has ls 6 [(4, .int (x4 + 1)), (3, .int (x3 + (1 : Int32))), (0, .ref (g.1 35)), (1, .int x1), (2, .int x2), (5, .int x5)] := hl
      refine lv_aload_n hx hb d_Vd_countHeld_45 rfl (lv_at hl 2 rfl) ?_
      refine va_get (D := D) (ci := 6) (C := R_Vd) (T := T_Vd) (N := 6) hx hb hts in_Vd hown hK hst.1 35 (WS_o35 g σ1) rfl 1 (by decide) (hts _ gw302) (fun _ h9 => h9) rfl d_Vd_countHeld_46 ?_
      refine va_get (D := D) (ci := 0) (C := R_Tr) (T := T_Tr) (N := 12) hx hb hts in_Tr hown hK hst.1 0 (WS_o0 g σ1) rfl 8 (by decide) (hts _ gw165) (fun _ h9 => h9) rfl d_Vd_countHeld_49 ?_
      refine lv_iload hx hb d_Vd_countHeld_52 (lv_at hl 5 rfl) ?_
      obtain ⟨hi, h⟩ := h
      refine va_iald hx hb hK hst.1 8 0 (WS_a8 g σ1) rfl hi d_Vd_countHeld_54 ?_
      refine lv_istore hx hb d_Vd_countHeld_55 hl (by decide) rfl (fun ls hl => ?_)
      have hl : lv_has ls 6 [(5, .int (σ1.1 8 x5.toNatClampNeg)), (4, .int (x4 + 1)), (3, .int (x3 + (1 : Int32))), (0, .ref (g.1 35)), (1, .int x1), (2, .int x2)] := hl
      refine lv_goto (tgt := 10) hx hb d_Vd_countHeld_57 (by decide) ?_
      exact j1 x1 x2 (x3 + (1 : Int32)) (x4 + 1) (σ1.1 8 x5.toNatClampNeg) σ1 _ _ _ (lv_sub hl [3, 4, 5, 2, 1, 0] rfl) hst h
set_option maxRecDepth 100000 in
set_option maxHeartbeats 4000000 in
theorem a_Vd_countHeld {p : Program} {l : Launch} {e : Env} {s : State} {m : MethodId} {args : Array Value} {below : List Frame} {meth : Method} {c : Code} {D : va_G} {g : Gm} {A : Nat → Prop} {post : Int32 → Sg → Prop} (C : kC p s m args meth c k_Vd_countHeld 6 (some .int) GW R_Vd D vwCl g (Zk g) A) : ∀ n : Nat, J_Vd_countHeld_1 p l e s m args below meth c D g A post (wp_Vd_countHeld post n) := by
  intro n
  induction n with
  | zero => exact fun _ _ _ _ _ _ _ _ _ _ _ h => h.elim
  | succ n ih => exact fun x1 x2 x3 x4 x5 σ H locs ls hl hst h => b_Vd_countHeld_1 (F := wp_Vd_countHeld post n) C (ih) x1 x2 x3 x4 x5 σ H locs ls hl hst h
set_option maxRecDepth 100000 in
set_option maxHeartbeats 4000000 in
theorem c_Vd_countHeld (l : Launch) {D : va_G} {g : Gm} {sz : Nat} (x1 : Int32) (x2 : Int32) {σ : Sg} {post : Int32 → Sg → Prop} (h : wq_Vd_countHeld x1 x2 σ post) : Met l y_Vd_countHeld (.code y_Vd_countHeld k_Vd_countHeld 6 (some .int) :: GW) { frames := 2, cells := 0, slots := 0, locals := 44 } (PcW D vwCl (WS g) g (Zk g) σ sz [.ref (g.1 35), .int x1, .int x2]) (QiW D vwCl (WS g) post (va_A (WS g σ) sz)) 0 0 (va_A (WS g σ) sz) := by
  refine kw_entry (own := R_Vd) (by decide) rfl rfl (Nat.le_of_ble_eq_true rfl) ?_
  intro p e s m below meth c ls hsz C hin hl hst
  obtain ⟨n, h⟩ := h
  cases n with
  | zero => exact h.elim
  | succ n =>
    have ih := a_Vd_countHeld (l := l) (e := e) (below := below) (post := post) C n
    exact b_Vd_countHeld_0 (F := wp_Vd_countHeld post n) C (ih) x1 x2 σ _ _ ls hl hst h
/-! SchemaDesk$Verdicts.isEvaluatedInside (III)Z -/
abbrev k_Vd_isEvaluatedInside : ByteArray := prog_9_method_7_code
abbrev y_Vd_isEvaluatedInside : MethodName := ⟨"SchemaDesk$Verdicts", "isEvaluatedInside", "(III)Z"⟩
theorem d_Vd_isEvaluatedInside_0 : decode k_Vd_isEvaluatedInside 0 = .ok (.iconst 0, 1) := by decide +kernel
theorem d_Vd_isEvaluatedInside_1 : decode k_Vd_isEvaluatedInside 1 = .ok (.istore 4, 2) := by decide +kernel
theorem d_Vd_isEvaluatedInside_3 : decode k_Vd_isEvaluatedInside 3 = .ok (.iload_n 1, 1) := by decide +kernel
theorem d_Vd_isEvaluatedInside_4 : decode k_Vd_isEvaluatedInside 4 = .ok (.iconst 1, 1) := by decide +kernel
theorem d_Vd_isEvaluatedInside_5 : decode k_Vd_isEvaluatedInside 5 = .ok (.iadd, 1) := by decide +kernel
theorem d_Vd_isEvaluatedInside_6 : decode k_Vd_isEvaluatedInside 6 = .ok (.istore 5, 2) := by decide +kernel
theorem d_Vd_isEvaluatedInside_8 : decode k_Vd_isEvaluatedInside 8 = .ok (.iload 4, 2) := by decide +kernel
theorem d_Vd_isEvaluatedInside_10 : decode k_Vd_isEvaluatedInside 10 = .ok (.aload_n 0, 1) := by decide +kernel
theorem d_Vd_isEvaluatedInside_11 : decode k_Vd_isEvaluatedInside 11 = .ok (.getfield 31, 3) := by decide +kernel
theorem d_Vd_isEvaluatedInside_14 : decode k_Vd_isEvaluatedInside 14 = .ok (.getfield 69, 3) := by decide +kernel
theorem d_Vd_isEvaluatedInside_17 : decode k_Vd_isEvaluatedInside 17 = .ok (.iload_n 1, 1) := by decide +kernel
theorem d_Vd_isEvaluatedInside_18 : decode k_Vd_isEvaluatedInside 18 = .ok (.iaload, 1) := by decide +kernel
theorem d_Vd_isEvaluatedInside_19 : decode k_Vd_isEvaluatedInside 19 = .ok (.if_icmp .ge 34, 3) := by decide +kernel
theorem d_Vd_isEvaluatedInside_22 : decode k_Vd_isEvaluatedInside 22 = .ok (.aload_n 0, 1) := by decide +kernel
theorem d_Vd_isEvaluatedInside_23 : decode k_Vd_isEvaluatedInside 23 = .ok (.iload 5, 2) := by decide +kernel
theorem d_Vd_isEvaluatedInside_25 : decode k_Vd_isEvaluatedInside 25 = .ok (.iload_n 2, 1) := by decide +kernel
theorem d_Vd_isEvaluatedInside_26 : decode k_Vd_isEvaluatedInside 26 = .ok (.iload_n 3, 1) := by decide +kernel
theorem d_Vd_isEvaluatedInside_27 : decode k_Vd_isEvaluatedInside 27 = .ok (.invokevirtual 99, 3) := by decide +kernel
theorem d_Vd_isEvaluatedInside_30 : decode k_Vd_isEvaluatedInside 30 = .ok (.ifCond .eq 5, 3) := by decide +kernel
theorem d_Vd_isEvaluatedInside_33 : decode k_Vd_isEvaluatedInside 33 = .ok (.iconst 1, 1) := by decide +kernel
theorem d_Vd_isEvaluatedInside_34 : decode k_Vd_isEvaluatedInside 34 = .ok (.ireturn, 1) := by decide +kernel
theorem d_Vd_isEvaluatedInside_35 : decode k_Vd_isEvaluatedInside 35 = .ok (.iinc 4 1, 3) := by decide +kernel
theorem d_Vd_isEvaluatedInside_38 : decode k_Vd_isEvaluatedInside 38 = .ok (.aload_n 0, 1) := by decide +kernel
theorem d_Vd_isEvaluatedInside_39 : decode k_Vd_isEvaluatedInside 39 = .ok (.getfield 31, 3) := by decide +kernel
theorem d_Vd_isEvaluatedInside_42 : decode k_Vd_isEvaluatedInside 42 = .ok (.getfield 76, 3) := by decide +kernel
theorem d_Vd_isEvaluatedInside_45 : decode k_Vd_isEvaluatedInside 45 = .ok (.iload 5, 2) := by decide +kernel
theorem d_Vd_isEvaluatedInside_47 : decode k_Vd_isEvaluatedInside 47 = .ok (.iaload, 1) := by decide +kernel
theorem d_Vd_isEvaluatedInside_48 : decode k_Vd_isEvaluatedInside 48 = .ok (.istore 5, 2) := by decide +kernel
theorem d_Vd_isEvaluatedInside_50 : decode k_Vd_isEvaluatedInside 50 = .ok (.goto (-42), 3) := by decide +kernel
theorem d_Vd_isEvaluatedInside_53 : decode k_Vd_isEvaluatedInside 53 = .ok (.iconst 0, 1) := by decide +kernel
theorem d_Vd_isEvaluatedInside_54 : decode k_Vd_isEvaluatedInside 54 = .ok (.ireturn, 1) := by decide +kernel
theorem gw832 : (Jvm.Cond.methodLink "SchemaDesk$Verdicts" (99 : Nat) ({ cls := "SchemaDesk$Verdicts", name := "holdsAndEvaluates", desc := "(III)Z" } : Jvm.MethodName)) ∈ GW := gw_t4 (List.mem_of_getElem? (i := 112) rfl) rfl
theorem gw834 : (Jvm.Cond.instanceMethod ({ cls := "SchemaDesk$Verdicts", name := "holdsAndEvaluates", desc := "(III)Z" } : Jvm.MethodName)) ∈ GW := gw_t4 (List.mem_of_getElem? (i := 114) rfl) rfl
theorem gs24 : Cond.selects "SchemaDesk$Verdicts" ⟨"SchemaDesk$Verdicts", "holdsAndEvaluates", "(III)Z"⟩ ⟨"SchemaDesk$Verdicts", "holdsAndEvaluates", "(III)Z"⟩ ∈ GW := gw_p2 (q := (⟨"SchemaDesk$Verdicts", "holdsAndEvaluates", "(III)Z"⟩, 6)) (List.mem_of_getElem? (i := 8) rfl)
theorem gw835 : (Jvm.Cond.code ({ cls := "SchemaDesk$Verdicts", name := "holdsAndEvaluates", desc := "(III)Z" } : Jvm.MethodName) prog_9_method_8_code (4 : Nat) (Option.some Jvm.ClassFile.FieldType.boolean)) ∈ GW := gw_t4 (List.mem_of_getElem? (i := 115) rfl) rfl
def wb_Vd_isEvaluatedInside_0 (F : Nat → Int32 → Int32 → Int32 → Int32 → Int32 → Sg → Prop) (post : Int32 → Sg → Prop) (x1 : Int32) (x2 : Int32) (x3 : Int32) (σ : Sg) : Prop := F 1 x1 x2 x3 (0 : Int32) (x1 + (1 : Int32)) σ
def wb_Vd_isEvaluatedInside_1 (F : Nat → Int32 → Int32 → Int32 → Int32 → Int32 → Sg → Prop) (post : Int32 → Sg → Prop) (x1 : Int32) (x2 : Int32) (x3 : Int32) (x4 : Int32) (x5 : Int32) (σ : Sg) : Prop := (vp_in x1 160 ∧ (((σ.1 5 x1.toNatClampNeg) ≤ x4 → (narrow .boolean (.int (0 : Int32)) = .int (0 : Int32) ∧ post (0 : Int32) σ)) ∧ (¬ (σ.1 5 x1.toNatClampNeg) ≤ x4 → (wq_Vd_holdsAndEvaluates x5 x2 x3 σ (fun r1 σ1 => ((r1 = 0 → (vp_in x5 160 ∧ F 1 x1 x2 x3 (x4 + 1) (σ1.1 8 x5.toNatClampNeg) σ1)) ∧ (¬ r1 = 0 → (narrow .boolean (.int (1 : Int32)) = .int (1 : Int32) ∧ post (1 : Int32) σ1))))))))
def wp_Vd_isEvaluatedInside (post : Int32 → Sg → Prop) : Nat → Nat → Int32 → Int32 → Int32 → Int32 → Int32 → Sg → Prop
  | 0, _, _, _, _, _, _, _ => False
  | n + 1, k, x1, x2, x3, x4, x5, σ => match k with
    | 0 => wb_Vd_isEvaluatedInside_0 (wp_Vd_isEvaluatedInside post n) post x1 x2 x3 σ
    | 1 => wb_Vd_isEvaluatedInside_1 (wp_Vd_isEvaluatedInside post n) post x1 x2 x3 x4 x5 σ
    | _ => False
def wq_Vd_isEvaluatedInside (x1 : Int32) (x2 : Int32) (x3 : Int32) (σ : Sg) (post : Int32 → Sg → Prop) : Prop := ∃ n, wp_Vd_isEvaluatedInside post n 0 x1 x2 x3 0 0 σ
def J_Vd_isEvaluatedInside_1 (p : Program) (l : Launch) (e : Env) (s : State) (m : MethodId) (args : Array Value) (below : List Frame) (meth : Method) (c : Code) (D : va_G) (g : Gm) (A : Nat → Prop) (post : Int32 → Sg → Prop) (F : Nat → Int32 → Int32 → Int32 → Int32 → Int32 → Sg → Prop) : Prop := ∀ (x1 : Int32) (x2 : Int32) (x3 : Int32) (x4 : Int32) (x5 : Int32) (σ : Sg) (H : Heap) (locs : List Loc) (ls : Array Slot), lv_has ls 6 [(0, .ref (g.1 35)), (1, .int x1), (2, .int x2), (3, .int x3), (4, .int x4), (5, .int x5)] → Wst D vwCl (WS g) A s σ H locs → F 1 x1 x2 x3 x4 x5 σ → W p l e { frames := 2, cells := 0, slots := 0, locals := 47 } s m args below meth c H locs 0 0 (MQ below (QiW D vwCl (WS g) post A) args s 0 0 A) (F0 m 8 ls [])
set_option maxRecDepth 100000 in
set_option maxHeartbeats 4000000 in
theorem b_Vd_isEvaluatedInside_0 {p : Program} {l : Launch} {e : Env} {s : State} {m : MethodId} {args : Array Value} {below : List Frame} {meth : Method} {c : Code} {D : va_G} {g : Gm} {A : Nat → Prop} {post : Int32 → Sg → Prop} {F : Nat → Int32 → Int32 → Int32 → Int32 → Int32 → Sg → Prop} (C : kC p s m args meth c k_Vd_isEvaluatedInside 6 (some .boolean) GW R_Vd D vwCl g (Zk g) A) (j1 : J_Vd_isEvaluatedInside_1 p l e s m args below meth c D g A post F) (x1 : Int32) (x2 : Int32) (x3 : Int32) (σ : Sg) (H : Heap) (locs : List Loc) (ls : Array Slot) (hl : lv_has ls 6 [(0, .ref (g.1 35)), (1, .int x1), (2, .int x2), (3, .int x3)]) (hst : Wst D vwCl (WS g) A s σ H locs) (h : wb_Vd_isEvaluatedInside_0 F post x1 x2 x3 σ) : W p l e { frames := 2, cells := 0, slots := 0, locals := 47 } s m args below meth c H locs 0 0 (MQ below (QiW D vwCl (WS g) post A) args s 0 0 A) (F0 m 0 ls []) := by
  obtain ⟨hx, hb, hr, hml, hown, hts, hlocks, hK, hZ, hA⟩ := C
  unfold wb_Vd_isEvaluatedInside_0 at h
  refine lv_iconst (v := (0 : Int32)) hx hb d_Vd_isEvaluatedInside_0 (by decide) ?_
  refine lv_istore hx hb d_Vd_isEvaluatedInside_1 hl (by decide) rfl (fun ls hl => ?_)
  have hl : lv_has ls 6 [(4, .int (0 : Int32)), (0, .ref (g.1 35)), (1, .int x1), (2, .int x2), (3, .int x3)] := hl
  refine lv_iload_n hx hb d_Vd_isEvaluatedInside_3 rfl (lv_at hl 2 rfl) ?_
  refine lv_iconst (v := (1 : Int32)) hx hb d_Vd_isEvaluatedInside_4 (by decide) ?_
  refine lv_iadd hx hb d_Vd_isEvaluatedInside_5 ?_
  refine lv_istore hx hb d_Vd_isEvaluatedInside_6 hl (by decide) rfl (fun ls hl => ?_)
  have hl : lv_has ls 6 [(5, .int (x1 + (1 : Int32))), (4, .int (0 : Int32)), (0, .ref (g.1 35)), (1, .int x1), (2, .int x2), (3, .int x3)] := hl
  exact j1 x1 x2 x3 (0 : Int32) (x1 + (1 : Int32)) σ _ _ _ (lv_sub hl [2, 3, 4, 5, 1, 0] rfl) hst h
set_option maxRecDepth 100000 in
set_option maxHeartbeats 4000000 in
theorem b_Vd_isEvaluatedInside_1 {p : Program} {l : Launch} {e : Env} {s : State} {m : MethodId} {args : Array Value} {below : List Frame} {meth : Method} {c : Code} {D : va_G} {g : Gm} {A : Nat → Prop} {post : Int32 → Sg → Prop} {F : Nat → Int32 → Int32 → Int32 → Int32 → Int32 → Sg → Prop} (C : kC p s m args meth c k_Vd_isEvaluatedInside 6 (some .boolean) GW R_Vd D vwCl g (Zk g) A) (j1 : J_Vd_isEvaluatedInside_1 p l e s m args below meth c D g A post F) (x1 : Int32) (x2 : Int32) (x3 : Int32) (x4 : Int32) (x5 : Int32) (σ : Sg) (H : Heap) (locs : List Loc) (ls : Array Slot) (hl : lv_has ls 6 [(0, .ref (g.1 35)), (1, .int x1), (2, .int x2), (3, .int x3), (4, .int x4), (5, .int x5)]) (hst : Wst D vwCl (WS g) A s σ H locs) (h : wb_Vd_isEvaluatedInside_1 F post x1 x2 x3 x4 x5 σ) : W p l e { frames := 2, cells := 0, slots := 0, locals := 47 } s m args below meth c H locs 0 0 (MQ below (QiW D vwCl (WS g) post A) args s 0 0 A) (F0 m 8 ls []) := by
  obtain ⟨hx, hb, hr, hml, hown, hts, hlocks, hK, hZ, hA⟩ := C
  unfold wb_Vd_isEvaluatedInside_1 at h
  refine lv_iload hx hb d_Vd_isEvaluatedInside_8 (lv_at hl 4 rfl) ?_
  refine lv_aload_n hx hb d_Vd_isEvaluatedInside_10 rfl (lv_at hl 0 rfl) ?_
  refine va_get (D := D) (ci := 6) (C := R_Vd) (T := T_Vd) (N := 6) hx hb hts in_Vd hown hK hst.1 35 (WS_o35 g σ) rfl 1 (by decide) (hts _ gw302) (fun _ h9 => h9) rfl d_Vd_isEvaluatedInside_11 ?_
  refine va_get (D := D) (ci := 0) (C := R_Tr) (T := T_Tr) (N := 12) hx hb hts in_Tr hown hK hst.1 0 (WS_o0 g σ) rfl 5 (by decide) (hts _ gw150) (fun _ h9 => h9) rfl d_Vd_isEvaluatedInside_14 ?_
  refine lv_iload_n hx hb d_Vd_isEvaluatedInside_17 rfl (lv_at hl 1 rfl) ?_
  obtain ⟨hi, h⟩ := h
  refine va_iald hx hb hK hst.1 5 0 (WS_a5 g σ) rfl hi d_Vd_isEvaluatedInside_18 ?_
  refine lv_icmp_ge (tgt := 53) hx hb d_Vd_isEvaluatedInside_19 (by decide) (fun hc => ?_) (fun hc => ?_)
  · replace h := h.1 hc
    refine lv_iconst (v := (0 : Int32)) hx hb d_Vd_isEvaluatedInside_53 (by decide) ?_
    exact kw_zret hx hb hr hlocks hst h d_Vd_isEvaluatedInside_54
  · replace h := h.2 hc
    refine lv_aload_n hx hb d_Vd_isEvaluatedInside_22 rfl (lv_at hl 0 rfl) ?_
    refine lv_iload hx hb d_Vd_isEvaluatedInside_23 (lv_at hl 5 rfl) ?_
    refine lv_iload_n hx hb d_Vd_isEvaluatedInside_25 rfl (lv_at hl 2 rfl) ?_
    refine lv_iload_n hx hb d_Vd_isEvaluatedInside_26 rfl (lv_at hl 3 rfl) ?_
    refine kw_calli (va_runV (As := [.int x5, .int x2, .int x3]) (rest := []) (b := g.1 35) ⟨hx, hb, hml, hown, hts⟩ (c_Vd_holdsAndEvaluates l x5 x2 x3 h) (cwV 3 hts (gd_v gw832 gw834 gs24 gw11 gw835) rfl rfl rfl (by decide +kernel) ⟨Nat.le_of_ble_eq_true rfl, Nat.le_of_ble_eq_true rfl⟩) ⟨kw_blind (Zk_ok g), va_recv hK hst.1 rfl (WS_o35 g σ), kw_pre (Zk_ok g) hK hZ hA hst⟩ rfl rfl hl.1 rfl (lv_room (Nat.le_of_ble_eq_true rfl)) d_Vd_isEvaluatedInside_27 ⟨Nat.le_of_ble_eq_true rfl, Nat.le_of_ble_eq_true rfl⟩) hst hA (fun r1 σ1 H locs h hst => ?_)
    refine lv_if_eq (tgt := 35) hx hb d_Vd_isEvaluatedInside_30 (by decide) (fun hc => ?_) (fun hc => ?_)
    · replace h := h.1 hc
      refine lv_iinc (k := 4) (v := (x4 + 1)) hx hb d_Vd_isEvaluatedInside_35 hl rfl (kw_inc _ (by decide)) (by decide) rfl (fun ls hl => ?_)
      have hl : lv_has ls 6 [(4, .int (x4 + 1)), (0, .ref (g.1 35)), (1, .int x1), (2, .int x2), (3, .int x3), (5, .int x5)] := hl
      refine lv_aload_n hx hb d_Vd_isEvaluatedInside_38 rfl (lv_at hl 1 rfl) ?_
      refine va_get (D := D) (ci := 6) (C := R_Vd) (T := T_Vd) (N := 6) hx hb hts in_Vd hown hK hst.1 35 (WS_o35 g σ1) rfl 1 (by decide) (hts _ gw302) (fun _ h9 => h9) rfl d_Vd_isEvaluatedInside_39 ?_
      refine va_get (D := D) (ci := 0) (C := R_Tr) (T := T_Tr) (N := 12) hx hb hts in_Tr hown hK hst.1 0 (WS_o0 g σ1) rfl 8 (by decide) (hts _ gw165) (fun _ h9 => h9) rfl d_Vd_isEvaluatedInside_42 ?_
      refine lv_iload hx hb d_Vd_isEvaluatedInside_45 (lv_at hl 5 rfl) ?_
      obtain ⟨hi, h⟩ := h
      refine va_iald hx hb hK hst.1 8 0 (WS_a8 g σ1) rfl hi d_Vd_isEvaluatedInside_47 ?_
      refine lv_istore hx hb d_Vd_isEvaluatedInside_48 hl (by decide) rfl (fun ls hl => ?_)
      have hl : lv_has ls 6 [(5, .int (σ1.1 8 x5.toNatClampNeg)), (4, .int (x4 + 1)), (0, .ref (g.1 35)), (1, .int x1), (2, .int x2), (3, .int x3)] := hl
      refine lv_goto (tgt := 8) hx hb d_Vd_isEvaluatedInside_50 (by decide) ?_
      exact j1 x1 x2 x3 (x4 + 1) (σ1.1 8 x5.toNatClampNeg) σ1 _ _ _ (lv_sub hl [2, 3, 4, 5, 1, 0] rfl) hst h
    · replace h := h.2 hc
      refine lv_iconst (v := (1 : Int32)) hx hb d_Vd_isEvaluatedInside_33 (by decide) ?_
      exact kw_zret hx hb hr hlocks hst h d_Vd_isEvaluatedInside_34
set_option maxRecDepth 100000 in
set_option maxHeartbeats 4000000 in
theorem a_Vd_isEvaluatedInside {p : Program} {l : Launch} {e : Env} {s : State} {m : MethodId} {args : Array Value} {below : List Frame} {meth : Method} {c : Code} {D : va_G} {g : Gm} {A : Nat → Prop} {post : Int32 → Sg → Prop} (C : kC p s m args meth c k_Vd_isEvaluatedInside 6 (some .boolean) GW R_Vd D vwCl g (Zk g) A) : ∀ n : Nat, J_Vd_isEvaluatedInside_1 p l e s m args below meth c D g A post (wp_Vd_isEvaluatedInside post n) := by
  intro n
  induction n with
  | zero => exact fun _ _ _ _ _ _ _ _ _ _ _ h => h.elim
  | succ n ih => exact fun x1 x2 x3 x4 x5 σ H locs ls hl hst h => b_Vd_isEvaluatedInside_1 (F := wp_Vd_isEvaluatedInside post n) C (ih) x1 x2 x3 x4 x5 σ H locs ls hl hst h
set_option maxRecDepth 100000 in
set_option maxHeartbeats 4000000 in
theorem c_Vd_isEvaluatedInside (l : Launch) {D : va_G} {g : Gm} {sz : Nat} (x1 : Int32) (x2 : Int32) (x3 : Int32) {σ : Sg} {post : Int32 → Sg → Prop} (h : wq_Vd_isEvaluatedInside x1 x2 x3 σ post) : Met l y_Vd_isEvaluatedInside (.code y_Vd_isEvaluatedInside k_Vd_isEvaluatedInside 6 (some .boolean) :: GW) { frames := 2, cells := 0, slots := 0, locals := 47 } (PcW D vwCl (WS g) g (Zk g) σ sz [.ref (g.1 35), .int x1, .int x2, .int x3]) (QiW D vwCl (WS g) post (va_A (WS g σ) sz)) 0 0 (va_A (WS g σ) sz) := by
  refine kw_entry (own := R_Vd) (by decide) rfl rfl (Nat.le_of_ble_eq_true rfl) ?_
  intro p e s m below meth c ls hsz C hin hl hst
  obtain ⟨n, h⟩ := h
  cases n with
  | zero => exact h.elim
  | succ n =>
    have ih := a_Vd_isEvaluatedInside (l := l) (e := e) (below := below) (post := post) C n
    exact b_Vd_isEvaluatedInside_0 (F := wp_Vd_isEvaluatedInside post n) C (ih) x1 x2 x3 σ _ _ ls hl hst h
/-! SchemaDesk$Verdicts.saysKindOf (II)Z -/
abbrev k_Vd_saysKindOf : ByteArray := prog_9_method_12_code
abbrev y_Vd_saysKindOf : MethodName := ⟨"SchemaDesk$Verdicts", "saysKindOf", "(II)Z"⟩
theorem d_Vd_saysKindOf_0 : decode k_Vd_saysKindOf 0 = .ok (.aload_n 0, 1) := by decide +kernel
theorem d_Vd_saysKindOf_1 : decode k_Vd_saysKindOf 1 = .ok (.getfield 31, 3) := by decide +kernel
theorem d_Vd_saysKindOf_4 : decode k_Vd_saysKindOf 4 = .ok (.getfield 154, 3) := by decide +kernel
theorem d_Vd_saysKindOf_7 : decode k_Vd_saysKindOf 7 = .ok (.iload_n 1, 1) := by decide +kernel
theorem d_Vd_saysKindOf_8 : decode k_Vd_saysKindOf 8 = .ok (.iaload, 1) := by decide +kernel
theorem d_Vd_saysKindOf_9 : decode k_Vd_saysKindOf 9 = .ok (.iconst 1, 1) := by decide +kernel
theorem d_Vd_saysKindOf_10 : decode k_Vd_saysKindOf 10 = .ok (.iadd, 1) := by decide +kernel
theorem d_Vd_saysKindOf_11 : decode k_Vd_saysKindOf 11 = .ok (.istore_n 3, 1) := by decide +kernel
theorem d_Vd_saysKindOf_12 : decode k_Vd_saysKindOf 12 = .ok (.aload_n 0, 1) := by decide +kernel
theorem d_Vd_saysKindOf_13 : decode k_Vd_saysKindOf 13 = .ok (.getfield 31, 3) := by decide +kernel
theorem d_Vd_saysKindOf_16 : decode k_Vd_saysKindOf 16 = .ok (.getfield 109, 3) := by decide +kernel
theorem d_Vd_saysKindOf_19 : decode k_Vd_saysKindOf 19 = .ok (.iload_n 3, 1) := by decide +kernel
theorem d_Vd_saysKindOf_20 : decode k_Vd_saysKindOf 20 = .ok (.invokevirtual 157, 3) := by decide +kernel
theorem d_Vd_saysKindOf_23 : decode k_Vd_saysKindOf 23 = .ok (.istore 4, 2) := by decide +kernel
theorem d_Vd_saysKindOf_25 : decode k_Vd_saysKindOf 25 = .ok (.aload_n 0, 1) := by decide +kernel
theorem d_Vd_saysKindOf_26 : decode k_Vd_saysKindOf 26 = .ok (.getfield 21, 3) := by decide +kernel
theorem d_Vd_saysKindOf_29 : decode k_Vd_saysKindOf 29 = .ok (.getfield 162, 3) := by decide +kernel
theorem d_Vd_saysKindOf_32 : decode k_Vd_saysKindOf 32 = .ok (.getstatic 166, 3) := by decide +kernel
theorem d_Vd_saysKindOf_35 : decode k_Vd_saysKindOf 35 = .ok (.aload_n 0, 1) := by decide +kernel
theorem d_Vd_saysKindOf_36 : decode k_Vd_saysKindOf 36 = .ok (.getfield 32, 3) := by decide +kernel
theorem d_Vd_saysKindOf_39 : decode k_Vd_saysKindOf 39 = .ok (.getfield 59, 3) := by decide +kernel
theorem d_Vd_saysKindOf_42 : decode k_Vd_saysKindOf 42 = .ok (.iload_n 2, 1) := by decide +kernel
theorem d_Vd_saysKindOf_43 : decode k_Vd_saysKindOf 43 = .ok (.iaload, 1) := by decide +kernel
theorem d_Vd_saysKindOf_44 : decode k_Vd_saysKindOf 44 = .ok (.iaload, 1) := by decide +kernel
theorem d_Vd_saysKindOf_45 : decode k_Vd_saysKindOf 45 = .ok (.aload_n 0, 1) := by decide +kernel
theorem d_Vd_saysKindOf_46 : decode k_Vd_saysKindOf 46 = .ok (.getfield 31, 3) := by decide +kernel
theorem d_Vd_saysKindOf_49 : decode k_Vd_saysKindOf 49 = .ok (.getfield 109, 3) := by decide +kernel
theorem d_Vd_saysKindOf_52 : decode k_Vd_saysKindOf 52 = .ok (.iload_n 3, 1) := by decide +kernel
theorem d_Vd_saysKindOf_53 : decode k_Vd_saysKindOf 53 = .ok (.iload 4, 2) := by decide +kernel
theorem d_Vd_saysKindOf_55 : decode k_Vd_saysKindOf 55 = .ok (.invokevirtual 169, 3) := by decide +kernel
theorem d_Vd_saysKindOf_58 : decode k_Vd_saysKindOf 58 = .ok (.ireturn, 1) := by decide +kernel
theorem gw853 : (Jvm.Cond.methodLink "SchemaDesk$Verdicts" (157 : Nat) ({ cls := "SchemaDesk$Text", name := "quotedEnd", desc := "(I)I" } : Jvm.MethodName)) ∈ GW := gw_t4 (List.mem_of_getElem? (i := 133) rfl) rfl
theorem gw258 : (Jvm.Cond.fieldLink "SchemaDesk$Verdicts" (162 : Nat) "SchemaDesk$Plan" "words" "LSchemaDesk$WordBook;") ∈ GW := gw_t2 (List.mem_of_getElem? (i := 18) rfl) rfl
theorem gw856 : (Jvm.Cond.methodLink "SchemaDesk$Verdicts" (169 : Nat) ({ cls := "SchemaDesk$WordBook", name := "isWord", desc := "(ILSchemaDesk$Text;II)Z" } : Jvm.MethodName)) ∈ GW := gw_t4 (List.mem_of_getElem? (i := 136) rfl) rfl
def wq_Vd_saysKindOf (x1 : Int32) (x2 : Int32) (σ : Sg) (post : Int32 → Sg → Prop) : Prop := (vp_in x1 160 ∧ (wq_Tx_quotedEnd 0 ((σ.1 2 x1.toNatClampNeg) + (1 : Int32)) σ (fun r1 σ1 => (vp_in x2 80 ∧ (vp_in (σ1.1 14 x2.toNatClampNeg) 7 ∧ (wq_Wb_isWord 0 (kwd ((σ1.1 14 x2.toNatClampNeg) : Int32).toNatClampNeg) ((σ.1 2 x1.toNatClampNeg) + (1 : Int32)) r1 σ1 (fun r2 σ2 => (narrow .boolean (.int r2) = .int r2 ∧ post r2 σ2))))))))
set_option maxRecDepth 100000 in
set_option maxHeartbeats 4000000 in
theorem b_Vd_saysKindOf_0 {p : Program} {l : Launch} {e : Env} {s : State} {m : MethodId} {args : Array Value} {below : List Frame} {meth : Method} {c : Code} {D : va_G} {g : Gm} {A : Nat → Prop} {post : Int32 → Sg → Prop} (C : kC p s m args meth c k_Vd_saysKindOf 5 (some .boolean) GW R_Vd D vwCl g (Zk g) A) (x1 : Int32) (x2 : Int32) (σ : Sg) (H : Heap) (locs : List Loc) (ls : Array Slot) (hl : lv_has ls 5 [(0, .ref (g.1 35)), (1, .int x1), (2, .int x2)]) (hst : Wst D vwCl (WS g) A s σ H locs) (h : wq_Vd_saysKindOf x1 x2 σ post) : W p l e { frames := 1, cells := 0, slots := 0, locals := 26 } s m args below meth c H locs 0 0 (MQ below (QiW D vwCl (WS g) post A) args s 0 0 A) (F0 m 0 ls []) := by
  obtain ⟨hx, hb, hr, hml, hown, hts, hlocks, hK, hZ, hA⟩ := C
  unfold wq_Vd_saysKindOf at h
  refine lv_aload_n hx hb d_Vd_saysKindOf_0 rfl (lv_at hl 0 rfl) ?_
  refine va_get (D := D) (ci := 6) (C := R_Vd) (T := T_Vd) (N := 6) hx hb hts in_Vd hown hK hst.1 35 (WS_o35 g σ) rfl 1 (by decide) (hts _ gw302) (fun _ h9 => h9) rfl d_Vd_saysKindOf_1 ?_
  refine va_get (D := D) (ci := 0) (C := R_Tr) (T := T_Tr) (N := 12) hx hb hts in_Tr hown hK hst.1 0 (WS_o0 g σ) rfl 2 (by decide) (hts _ gw142) (fun _ h9 => h9) rfl d_Vd_saysKindOf_4 ?_
  refine lv_iload_n hx hb d_Vd_saysKindOf_7 rfl (lv_at hl 1 rfl) ?_
  obtain ⟨hi, h⟩ := h
  refine va_iald hx hb hK hst.1 2 0 (WS_a2 g σ) rfl hi d_Vd_saysKindOf_8 ?_
  refine lv_iconst (v := (1 : Int32)) hx hb d_Vd_saysKindOf_9 (by decide) ?_
  refine lv_iadd hx hb d_Vd_saysKindOf_10 ?_
  refine lv_istore_n hx hb d_Vd_saysKindOf_11 rfl hl (by decide) rfl (fun ls hl => ?_)
  have hl : lv_has ls 5 [(3, .int ((σ.1 2 x1.toNatClampNeg) + (1 : Int32))), (0, .ref (g.1 35)), (1, .int x1), (2, .int x2)] := hl
  refine lv_aload_n hx hb d_Vd_saysKindOf_12 rfl (lv_at hl 1 rfl) ?_
  refine va_get (D := D) (ci := 6) (C := R_Vd) (T := T_Vd) (N := 6) hx hb hts in_Vd hown hK hst.1 35 (WS_o35 g σ) rfl 1 (by decide) (hts _ gw302) (fun _ h9 => h9) rfl d_Vd_saysKindOf_13 ?_
  refine va_get (D := D) (ci := 0) (C := R_Tr) (T := T_Tr) (N := 12) hx hb hts in_Tr hown hK hst.1 0 (WS_o0 g σ) rfl 0 (by decide) (hts _ gw129) (fun _ h9 => h9) rfl d_Vd_saysKindOf_16 ?_
  refine lv_iload_n hx hb d_Vd_saysKindOf_19 rfl (lv_at hl 0 rfl) ?_
  refine kw_calli (va_runV (As := [.int ((σ.1 2 x1.toNatClampNeg) + (1 : Int32))]) (rest := []) (b := g.1 10) ⟨hx, hb, hml, hown, hts⟩ (c_Tx_quotedEnd_0 l ((σ.1 2 x1.toNatClampNeg) + (1 : Int32)) h) (cwV 1 hts (gd_v gw853 gw666 gw667 gw8 gw668) rfl rfl rfl (by decide +kernel) ⟨Nat.le_of_ble_eq_true rfl, Nat.le_of_ble_eq_true rfl⟩) ⟨kw_blind (Zk_ok g), va_recv hK hst.1 rfl (WS_o10 g σ), kw_pre (Zk_ok g) hK hZ hA hst⟩ rfl rfl hl.1 rfl (lv_room (Nat.le_of_ble_eq_true rfl)) d_Vd_saysKindOf_20 ⟨Nat.le_of_ble_eq_true rfl, Nat.le_of_ble_eq_true rfl⟩) hst hA (fun r1 σ1 H locs h hst => ?_)
  refine lv_istore hx hb d_Vd_saysKindOf_23 hl (by decide) rfl (fun ls hl => ?_)
  have hl : lv_has ls 5 [(4, .int r1), (3, .int ((σ.1 2 x1.toNatClampNeg) + (1 : Int32))), (0, .ref (g.1 35)), (1, .int x1), (2, .int x2)] := hl
  refine lv_aload_n hx hb d_Vd_saysKindOf_25 rfl (lv_at hl 2 rfl) ?_
  refine va_get (D := D) (ci := 6) (C := R_Vd) (T := T_Vd) (N := 6) hx hb hts in_Vd hown hK hst.1 35 (WS_o35 g σ1) rfl 0 (by decide) (hts _ gw299) (fun _ h9 => h9) rfl d_Vd_saysKindOf_26 ?_
  refine va_get (D := D) (ci := 5) (C := R_Pl) (T := T_Pl) (N := 10) hx hb hts in_Pl hown hK hst.1 29 (WS_o29 g σ1) rfl 8 (by decide) (hts _ gw258) (fun _ h9 => h9) rfl d_Vd_saysKindOf_29 ?_
  refine va_getsN hx hb hZ.1 hst.2.2 hown (va_Nw.use rfl hZ.2.2.1) (fun _ h9 => h9) d_Vd_saysKindOf_32 ?_
  refine lv_aload_n hx hb d_Vd_saysKindOf_35 rfl (lv_at hl 2 rfl) ?_
  refine va_get (D := D) (ci := 6) (C := R_Vd) (T := T_Vd) (N := 6) hx hb hts in_Vd hown hK hst.1 35 (WS_o35 g σ1) rfl 2 (by decide) (hts _ gw305) (fun _ h9 => h9) rfl d_Vd_saysKindOf_36 ?_
  refine va_get (D := D) (ci := 0) (C := R_Tr) (T := T_Tr) (N := 12) hx hb hts in_Tr hown hK hst.1 13 (WS_o13 g σ1) rfl 1 (by decide) (hts _ gw133) (fun _ h9 => h9) rfl d_Vd_saysKindOf_39 ?_
  refine lv_iload_n hx hb d_Vd_saysKindOf_42 rfl (lv_at hl 4 rfl) ?_
  obtain ⟨hi, h⟩ := h
  refine va_iald hx hb hK hst.1 14 0 (WS_a14 g σ1) rfl hi d_Vd_saysKindOf_43 ?_
  obtain ⟨hi, h⟩ := h
  refine va_ti (v := .int (kwd ((σ1.1 14 x2.toNatClampNeg) : Int32).toNatClampNeg)) hx hb hZ.2.1 hst.2.2 hi rfl d_Vd_saysKindOf_44 ?_
  refine lv_aload_n hx hb d_Vd_saysKindOf_45 rfl (lv_at hl 2 rfl) ?_
  refine va_get (D := D) (ci := 6) (C := R_Vd) (T := T_Vd) (N := 6) hx hb hts in_Vd hown hK hst.1 35 (WS_o35 g σ1) rfl 1 (by decide) (hts _ gw302) (fun _ h9 => h9) rfl d_Vd_saysKindOf_46 ?_
  refine va_get (D := D) (ci := 0) (C := R_Tr) (T := T_Tr) (N := 12) hx hb hts in_Tr hown hK hst.1 0 (WS_o0 g σ1) rfl 0 (by decide) (hts _ gw129) (fun _ h9 => h9) rfl d_Vd_saysKindOf_49 ?_
  refine lv_iload_n hx hb d_Vd_saysKindOf_52 rfl (lv_at hl 1 rfl) ?_
  refine lv_iload hx hb d_Vd_saysKindOf_53 (lv_at hl 0 rfl) ?_
  refine kw_calli (va_runV (As := [.int (kwd ((σ1.1 14 x2.toNatClampNeg) : Int32).toNatClampNeg), .ref (g.1 10), .int ((σ.1 2 x1.toNatClampNeg) + (1 : Int32)), .int r1]) (rest := []) (b := g.1 26) ⟨hx, hb, hml, hown, hts⟩ (c_Wb_isWord_0 l (kwd ((σ1.1 14 x2.toNatClampNeg) : Int32).toNatClampNeg) ((σ.1 2 x1.toNatClampNeg) + (1 : Int32)) r1 h) (cwV 4 hts (gd_v gw856 gw682 gw683 gw2 gw684) rfl rfl rfl (by decide +kernel) ⟨Nat.le_of_ble_eq_true rfl, Nat.le_of_ble_eq_true rfl⟩) ⟨kw_blind (Zk_ok g), va_recv hK hst.1 rfl (WS_o26 g σ1), kw_pre (Zk_ok g) hK hZ hA hst⟩ rfl rfl hl.1 rfl (lv_room (Nat.le_of_ble_eq_true rfl)) d_Vd_saysKindOf_55 ⟨Nat.le_of_ble_eq_true rfl, Nat.le_of_ble_eq_true rfl⟩) hst hA (fun r2 σ2 H locs h hst => ?_)
  exact kw_zret hx hb hr hlocks hst h d_Vd_saysKindOf_58
set_option maxRecDepth 100000 in
set_option maxHeartbeats 4000000 in
theorem c_Vd_saysKindOf (l : Launch) {D : va_G} {g : Gm} {sz : Nat} (x1 : Int32) (x2 : Int32) {σ : Sg} {post : Int32 → Sg → Prop} (h : wq_Vd_saysKindOf x1 x2 σ post) : Met l y_Vd_saysKindOf (.code y_Vd_saysKindOf k_Vd_saysKindOf 5 (some .boolean) :: GW) { frames := 1, cells := 0, slots := 0, locals := 26 } (PcW D vwCl (WS g) g (Zk g) σ sz [.ref (g.1 35), .int x1, .int x2]) (QiW D vwCl (WS g) post (va_A (WS g σ) sz)) 0 0 (va_A (WS g σ) sz) := by
  refine kw_entry (own := R_Vd) (by decide) rfl rfl (Nat.le_of_ble_eq_true rfl) ?_
  intro p e s m below meth c ls hsz C hin hl hst
  exact b_Vd_saysKindOf_0 C x1 x2 σ _ _ ls hl hst h
/-! SchemaDesk$Verdicts.evaluatesBy (IIII)Z -/
abbrev k_Vd_evaluatesBy : ByteArray := prog_9_method_6_code
abbrev y_Vd_evaluatesBy : MethodName := ⟨"SchemaDesk$Verdicts", "evaluatesBy", "(IIII)Z"⟩
theorem d_Vd_evaluatesBy_0 : decode k_Vd_evaluatesBy 0 = .ok (.aload_n 0, 1) := by decide +kernel
theorem d_Vd_evaluatesBy_1 : decode k_Vd_evaluatesBy 1 = .ok (.getfield 21, 3) := by decide +kernel
theorem d_Vd_evaluatesBy_4 : decode k_Vd_evaluatesBy 4 = .ok (.getfield 86, 3) := by decide +kernel
theorem d_Vd_evaluatesBy_7 : decode k_Vd_evaluatesBy 7 = .ok (.iload_n 2, 1) := by decide +kernel
theorem d_Vd_evaluatesBy_8 : decode k_Vd_evaluatesBy 8 = .ok (.iaload, 1) := by decide +kernel
theorem d_Vd_evaluatesBy_9 : decode k_Vd_evaluatesBy 9 = .ok (.tableswitch 134 12 19 #[47, 47, 134, 66, 66, 66, 134, 96], 47) := by decide +kernel
theorem d_Vd_evaluatesBy_56 : decode k_Vd_evaluatesBy 56 = .ok (.aload_n 0, 1) := by decide +kernel
theorem d_Vd_evaluatesBy_57 : decode k_Vd_evaluatesBy 57 = .ok (.iload_n 1, 1) := by decide +kernel
theorem d_Vd_evaluatesBy_58 : decode k_Vd_evaluatesBy 58 = .ok (.iload_n 2, 1) := by decide +kernel
theorem d_Vd_evaluatesBy_59 : decode k_Vd_evaluatesBy 59 = .ok (.iload_n 3, 1) := by decide +kernel
theorem d_Vd_evaluatesBy_60 : decode k_Vd_evaluatesBy 60 = .ok (.iload 4, 2) := by decide +kernel
theorem d_Vd_evaluatesBy_62 : decode k_Vd_evaluatesBy 62 = .ok (.invokevirtual 89, 3) := by decide +kernel
theorem d_Vd_evaluatesBy_65 : decode k_Vd_evaluatesBy 65 = .ok (.iconst (-1), 1) := by decide +kernel
theorem d_Vd_evaluatesBy_66 : decode k_Vd_evaluatesBy 66 = .ok (.if_icmp .eq 7, 3) := by decide +kernel
theorem d_Vd_evaluatesBy_69 : decode k_Vd_evaluatesBy 69 = .ok (.iconst 1, 1) := by decide +kernel
theorem d_Vd_evaluatesBy_70 : decode k_Vd_evaluatesBy 70 = .ok (.goto 4, 3) := by decide +kernel
theorem d_Vd_evaluatesBy_73 : decode k_Vd_evaluatesBy 73 = .ok (.iconst 0, 1) := by decide +kernel
theorem d_Vd_evaluatesBy_74 : decode k_Vd_evaluatesBy 74 = .ok (.ireturn, 1) := by decide +kernel
theorem d_Vd_evaluatesBy_75 : decode k_Vd_evaluatesBy 75 = .ok (.aload_n 0, 1) := by decide +kernel
theorem d_Vd_evaluatesBy_76 : decode k_Vd_evaluatesBy 76 = .ok (.getfield 31, 3) := by decide +kernel
theorem d_Vd_evaluatesBy_79 : decode k_Vd_evaluatesBy 79 = .ok (.getfield 59, 3) := by decide +kernel
theorem d_Vd_evaluatesBy_82 : decode k_Vd_evaluatesBy 82 = .ok (.iload_n 2, 1) := by decide +kernel
theorem d_Vd_evaluatesBy_83 : decode k_Vd_evaluatesBy 83 = .ok (.iaload, 1) := by decide +kernel
theorem d_Vd_evaluatesBy_84 : decode k_Vd_evaluatesBy 84 = .ok (.iconst 5, 1) := by decide +kernel
theorem d_Vd_evaluatesBy_85 : decode k_Vd_evaluatesBy 85 = .ok (.if_icmp .ne 18, 3) := by decide +kernel
theorem d_Vd_evaluatesBy_88 : decode k_Vd_evaluatesBy 88 = .ok (.aload_n 0, 1) := by decide +kernel
theorem d_Vd_evaluatesBy_89 : decode k_Vd_evaluatesBy 89 = .ok (.iload_n 2, 1) := by decide +kernel
theorem d_Vd_evaluatesBy_90 : decode k_Vd_evaluatesBy 90 = .ok (.iload_n 3, 1) := by decide +kernel
theorem d_Vd_evaluatesBy_91 : decode k_Vd_evaluatesBy 91 = .ok (.iload 4, 2) := by decide +kernel
theorem d_Vd_evaluatesBy_93 : decode k_Vd_evaluatesBy 93 = .ok (.invokevirtual 93, 3) := by decide +kernel
theorem d_Vd_evaluatesBy_96 : decode k_Vd_evaluatesBy 96 = .ok (.ifCond .eq 7, 3) := by decide +kernel
theorem d_Vd_evaluatesBy_99 : decode k_Vd_evaluatesBy 99 = .ok (.iconst 1, 1) := by decide +kernel
theorem d_Vd_evaluatesBy_100 : decode k_Vd_evaluatesBy 100 = .ok (.goto 4, 3) := by decide +kernel
theorem d_Vd_evaluatesBy_103 : decode k_Vd_evaluatesBy 103 = .ok (.iconst 0, 1) := by decide +kernel
theorem d_Vd_evaluatesBy_104 : decode k_Vd_evaluatesBy 104 = .ok (.ireturn, 1) := by decide +kernel
theorem d_Vd_evaluatesBy_105 : decode k_Vd_evaluatesBy 105 = .ok (.aload_n 0, 1) := by decide +kernel
theorem d_Vd_evaluatesBy_106 : decode k_Vd_evaluatesBy 106 = .ok (.getfield 21, 3) := by decide +kernel
theorem d_Vd_evaluatesBy_109 : decode k_Vd_evaluatesBy 109 = .ok (.getfield 96, 3) := by decide +kernel
theorem d_Vd_evaluatesBy_112 : decode k_Vd_evaluatesBy 112 = .ok (.iload_n 2, 1) := by decide +kernel
theorem d_Vd_evaluatesBy_113 : decode k_Vd_evaluatesBy 113 = .ok (.iaload, 1) := by decide +kernel
theorem d_Vd_evaluatesBy_114 : decode k_Vd_evaluatesBy 114 = .ok (.iconst (-1), 1) := by decide +kernel
theorem d_Vd_evaluatesBy_115 : decode k_Vd_evaluatesBy 115 = .ok (.if_icmp .eq 26, 3) := by decide +kernel
theorem d_Vd_evaluatesBy_118 : decode k_Vd_evaluatesBy 118 = .ok (.aload_n 0, 1) := by decide +kernel
theorem d_Vd_evaluatesBy_119 : decode k_Vd_evaluatesBy 119 = .ok (.aload_n 0, 1) := by decide +kernel
theorem d_Vd_evaluatesBy_120 : decode k_Vd_evaluatesBy 120 = .ok (.getfield 21, 3) := by decide +kernel
theorem d_Vd_evaluatesBy_123 : decode k_Vd_evaluatesBy 123 = .ok (.getfield 96, 3) := by decide +kernel
theorem d_Vd_evaluatesBy_126 : decode k_Vd_evaluatesBy 126 = .ok (.iload_n 2, 1) := by decide +kernel
theorem d_Vd_evaluatesBy_127 : decode k_Vd_evaluatesBy 127 = .ok (.iaload, 1) := by decide +kernel
theorem d_Vd_evaluatesBy_128 : decode k_Vd_evaluatesBy 128 = .ok (.iload_n 3, 1) := by decide +kernel
theorem d_Vd_evaluatesBy_129 : decode k_Vd_evaluatesBy 129 = .ok (.iload 4, 2) := by decide +kernel
theorem d_Vd_evaluatesBy_131 : decode k_Vd_evaluatesBy 131 = .ok (.invokevirtual 99, 3) := by decide +kernel
theorem d_Vd_evaluatesBy_134 : decode k_Vd_evaluatesBy 134 = .ok (.ifCond .eq 7, 3) := by decide +kernel
theorem d_Vd_evaluatesBy_137 : decode k_Vd_evaluatesBy 137 = .ok (.iconst 1, 1) := by decide +kernel
theorem d_Vd_evaluatesBy_138 : decode k_Vd_evaluatesBy 138 = .ok (.goto 4, 3) := by decide +kernel
theorem d_Vd_evaluatesBy_141 : decode k_Vd_evaluatesBy 141 = .ok (.iconst 0, 1) := by decide +kernel
theorem d_Vd_evaluatesBy_142 : decode k_Vd_evaluatesBy 142 = .ok (.ireturn, 1) := by decide +kernel
theorem d_Vd_evaluatesBy_143 : decode k_Vd_evaluatesBy 143 = .ok (.iconst 0, 1) := by decide +kernel
theorem d_Vd_evaluatesBy_144 : decode k_Vd_evaluatesBy 144 = .ok (.ireturn, 1) := by decide +kernel
theorem gw828 : (Jvm.Cond.methodLink "SchemaDesk$Verdicts" (93 : Nat) ({ cls := "SchemaDesk$Verdicts", name := "isEvaluatedInside", desc := "(III)Z" } : Jvm.MethodName)) ∈ GW := gw_t4 (List.mem_of_getElem? (i := 108) rfl) rfl
theorem gw830 : (Jvm.Cond.instanceMethod ({ cls := "SchemaDesk$Verdicts", name := "isEvaluatedInside", desc := "(III)Z" } : Jvm.MethodName)) ∈ GW := gw_t4 (List.mem_of_getElem? (i := 110) rfl) rfl
theorem gs23 : Cond.selects "SchemaDesk$Verdicts" ⟨"SchemaDesk$Verdicts", "isEvaluatedInside", "(III)Z"⟩ ⟨"SchemaDesk$Verdicts", "isEvaluatedInside", "(III)Z"⟩ ∈ GW := gw_p2 (q := (⟨"SchemaDesk$Verdicts", "isEvaluatedInside", "(III)Z"⟩, 6)) (List.mem_of_getElem? (i := 7) rfl)
theorem gw831 : (Jvm.Cond.code ({ cls := "SchemaDesk$Verdicts", name := "isEvaluatedInside", desc := "(III)Z" } : Jvm.MethodName) prog_9_method_7_code (6 : Nat) (Option.some Jvm.ClassFile.FieldType.boolean)) ∈ GW := gw_t4 (List.mem_of_getElem? (i := 111) rfl) rfl
theorem gw242 : (Jvm.Cond.fieldLink "SchemaDesk$Verdicts" (96 : Nat) "SchemaDesk$Plan" "target" "[I") ∈ GW := gw_t2 (List.mem_of_getElem? (i := 2) rfl) rfl
def wq_Vd_evaluatesBy (x1 : Int32) (x2 : Int32) (x3 : Int32) (x4 : Int32) (σ : Sg) (post : Int32 → Sg → Prop) : Prop := (vp_in x2 160 ∧ (((σ.1 30 x2.toNatClampNeg) = 12 → (wq_Vd_nodeFor x1 x2 x3 x4 σ (fun r1 σ1 => ((r1 = (-1 : Int32) → (narrow .boolean (.int (0 : Int32)) = .int (0 : Int32) ∧ post (0 : Int32) σ1)) ∧ (¬ r1 = (-1 : Int32) → (narrow .boolean (.int (1 : Int32)) = .int (1 : Int32) ∧ post (1 : Int32) σ1)))))) ∧ ((σ.1 30 x2.toNatClampNeg) = 13 → (wq_Vd_nodeFor x1 x2 x3 x4 σ (fun r1 σ1 => ((r1 = (-1 : Int32) → (narrow .boolean (.int (0 : Int32)) = .int (0 : Int32) ∧ post (0 : Int32) σ1)) ∧ (¬ r1 = (-1 : Int32) → (narrow .boolean (.int (1 : Int32)) = .int (1 : Int32) ∧ post (1 : Int32) σ1)))))) ∧ ((σ.1 30 x2.toNatClampNeg) = 14 → (narrow .boolean (.int (0 : Int32)) = .int (0 : Int32) ∧ post (0 : Int32) σ)) ∧ ((σ.1 30 x2.toNatClampNeg) = 15 → (vp_in x2 160 ∧ ((¬ (σ.1 1 x2.toNatClampNeg) = (5 : Int32) → (narrow .boolean (.int (0 : Int32)) = .int (0 : Int32) ∧ post (0 : Int32) σ)) ∧ ((σ.1 1 x2.toNatClampNeg) = (5 : Int32) → (wq_Vd_isEvaluatedInside x2 x3 x4 σ (fun r1 σ1 => ((r1 = 0 → (narrow .boolean (.int (0 : Int32)) = .int (0 : Int32) ∧ post (0 : Int32) σ1)) ∧ (¬ r1 = 0 → (narrow .boolean (.int (1 : Int32)) = .int (1 : Int32) ∧ post (1 : Int32) σ1))))))))) ∧ ((σ.1 30 x2.toNatClampNeg) = 16 → (vp_in x2 160 ∧ ((¬ (σ.1 1 x2.toNatClampNeg) = (5 : Int32) → (narrow .boolean (.int (0 : Int32)) = .int (0 : Int32) ∧ post (0 : Int32) σ)) ∧ ((σ.1 1 x2.toNatClampNeg) = (5 : Int32) → (wq_Vd_isEvaluatedInside x2 x3 x4 σ (fun r1 σ1 => ((r1 = 0 → (narrow .boolean (.int (0 : Int32)) = .int (0 : Int32) ∧ post (0 : Int32) σ1)) ∧ (¬ r1 = 0 → (narrow .boolean (.int (1 : Int32)) = .int (1 : Int32) ∧ post (1 : Int32) σ1))))))))) ∧ ((σ.1 30 x2.toNatClampNeg) = 17 → (vp_in x2 160 ∧ ((¬ (σ.1 1 x2.toNatClampNeg) = (5 : Int32) → (narrow .boolean (.int (0 : Int32)) = .int (0 : Int32) ∧ post (0 : Int32) σ)) ∧ ((σ.1 1 x2.toNatClampNeg) = (5 : Int32) → (wq_Vd_isEvaluatedInside x2 x3 x4 σ (fun r1 σ1 => ((r1 = 0 → (narrow .boolean (.int (0 : Int32)) = .int (0 : Int32) ∧ post (0 : Int32) σ1)) ∧ (¬ r1 = 0 → (narrow .boolean (.int (1 : Int32)) = .int (1 : Int32) ∧ post (1 : Int32) σ1))))))))) ∧ ((σ.1 30 x2.toNatClampNeg) = 18 → (narrow .boolean (.int (0 : Int32)) = .int (0 : Int32) ∧ post (0 : Int32) σ)) ∧ ((σ.1 30 x2.toNatClampNeg) = 19 → (vp_in x2 160 ∧ (((σ.1 31 x2.toNatClampNeg) = (-1 : Int32) → (narrow .boolean (.int (0 : Int32)) = .int (0 : Int32) ∧ post (0 : Int32) σ)) ∧ (¬ (σ.1 31 x2.toNatClampNeg) = (-1 : Int32) → (vp_in x2 160 ∧ (wq_Vd_holdsAndEvaluates (σ.1 31 x2.toNatClampNeg) x3 x4 σ (fun r1 σ1 => ((r1 = 0 → (narrow .boolean (.int (0 : Int32)) = .int (0 : Int32) ∧ post (0 : Int32) σ1)) ∧ (¬ r1 = 0 → (narrow .boolean (.int (1 : Int32)) = .int (1 : Int32) ∧ post (1 : Int32) σ1)))))))))) ∧ ((¬ (σ.1 30 x2.toNatClampNeg) = 12 ∧ ¬ (σ.1 30 x2.toNatClampNeg) = 13 ∧ ¬ (σ.1 30 x2.toNatClampNeg) = 14 ∧ ¬ (σ.1 30 x2.toNatClampNeg) = 15 ∧ ¬ (σ.1 30 x2.toNatClampNeg) = 16 ∧ ¬ (σ.1 30 x2.toNatClampNeg) = 17 ∧ ¬ (σ.1 30 x2.toNatClampNeg) = 18 ∧ ¬ (σ.1 30 x2.toNatClampNeg) = 19) → (narrow .boolean (.int (0 : Int32)) = .int (0 : Int32) ∧ post (0 : Int32) σ))))
set_option maxRecDepth 100000 in
set_option maxHeartbeats 4000000 in
theorem b_Vd_evaluatesBy_0 {p : Program} {l : Launch} {e : Env} {s : State} {m : MethodId} {args : Array Value} {below : List Frame} {meth : Method} {c : Code} {D : va_G} {g : Gm} {A : Nat → Prop} {post : Int32 → Sg → Prop} (C : kC p s m args meth c k_Vd_evaluatesBy 5 (some .boolean) GW R_Vd D vwCl g (Zk g) A) (x1 : Int32) (x2 : Int32) (x3 : Int32) (x4 : Int32) (σ : Sg) (H : Heap) (locs : List Loc) (ls : Array Slot) (hl : lv_has ls 5 [(0, .ref (g.1 35)), (1, .int x1), (2, .int x2), (3, .int x3), (4, .int x4)]) (hst : Wst D vwCl (WS g) A s σ H locs) (h : wq_Vd_evaluatesBy x1 x2 x3 x4 σ post) : W p l e { frames := 3, cells := 0, slots := 0, locals := 78 } s m args below meth c H locs 0 0 (MQ below (QiW D vwCl (WS g) post A) args s 0 0 A) (F0 m 0 ls []) := by
  obtain ⟨hx, hb, hr, hml, hown, hts, hlocks, hK, hZ, hA⟩ := C
  unfold wq_Vd_evaluatesBy at h
  refine lv_aload_n hx hb d_Vd_evaluatesBy_0 rfl (lv_at hl 0 rfl) ?_
  refine va_get (D := D) (ci := 6) (C := R_Vd) (T := T_Vd) (N := 6) hx hb hts in_Vd hown hK hst.1 35 (WS_o35 g σ) rfl 0 (by decide) (hts _ gw299) (fun _ h9 => h9) rfl d_Vd_evaluatesBy_1 ?_
  refine va_get (D := D) (ci := 5) (C := R_Pl) (T := T_Pl) (N := 10) hx hb hts in_Pl hown hK hst.1 29 (WS_o29 g σ) rfl 2 (by decide) (hts _ gw238) (fun _ h9 => h9) rfl d_Vd_evaluatesBy_4 ?_
  refine lv_iload_n hx hb d_Vd_evaluatesBy_7 rfl (lv_at hl 2 rfl) ?_
  obtain ⟨hi, h⟩ := h
  refine va_iald hx hb hK hst.1 30 0 (WS_a30 g σ) rfl hi d_Vd_evaluatesBy_8 ?_
  by_cases hc0 : (σ.1 30 x2.toNatClampNeg) = 12
  · refine kw_tin (k := 12) (tgt := 56) hx hb d_Vd_evaluatesBy_9 hc0 (by decide) (by decide) rfl (by decide) ?_
    replace h := h.1 hc0
    refine lv_aload_n hx hb d_Vd_evaluatesBy_56 rfl (lv_at hl 0 rfl) ?_
    refine lv_iload_n hx hb d_Vd_evaluatesBy_57 rfl (lv_at hl 1 rfl) ?_
    refine lv_iload_n hx hb d_Vd_evaluatesBy_58 rfl (lv_at hl 2 rfl) ?_
    refine lv_iload_n hx hb d_Vd_evaluatesBy_59 rfl (lv_at hl 3 rfl) ?_
    refine lv_iload hx hb d_Vd_evaluatesBy_60 (lv_at hl 4 rfl) ?_
    refine kw_calli (va_runV (As := [.int x1, .int x2, .int x3, .int x4]) (rest := []) (b := g.1 35) ⟨hx, hb, hml, hown, hts⟩ (c_Vd_nodeFor l x1 x2 x3 x4 h) (cwV 4 hts (gd_v gw819 gw820 gw821 gw11 gw822) rfl rfl rfl (by decide +kernel) ⟨Nat.le_of_ble_eq_true rfl, Nat.le_of_ble_eq_true rfl⟩) ⟨kw_blind (Zk_ok g), va_recv hK hst.1 rfl (WS_o35 g σ), kw_pre (Zk_ok g) hK hZ hA hst⟩ rfl rfl hl.1 rfl (lv_room (Nat.le_of_ble_eq_true rfl)) d_Vd_evaluatesBy_62 ⟨Nat.le_of_ble_eq_true rfl, Nat.le_of_ble_eq_true rfl⟩) hst hA (fun r1 σ1 H locs h hst => ?_)
    refine lv_iconst (v := (-1 : Int32)) hx hb d_Vd_evaluatesBy_65 (by decide) ?_
    refine lv_icmp_eq (tgt := 73) hx hb d_Vd_evaluatesBy_66 (by decide) (fun hc => ?_) (fun hc => ?_)
    · replace h := h.1 hc
      refine lv_iconst (v := (0 : Int32)) hx hb d_Vd_evaluatesBy_73 (by decide) ?_
      exact kw_zret hx hb hr hlocks hst h d_Vd_evaluatesBy_74
    · replace h := h.2 hc
      refine lv_iconst (v := (1 : Int32)) hx hb d_Vd_evaluatesBy_69 (by decide) ?_
      refine lv_goto (tgt := 74) hx hb d_Vd_evaluatesBy_70 (by decide) ?_
      exact kw_zret hx hb hr hlocks hst h d_Vd_evaluatesBy_74
  by_cases hc1 : (σ.1 30 x2.toNatClampNeg) = 13
  · refine kw_tin (k := 13) (tgt := 56) hx hb d_Vd_evaluatesBy_9 hc1 (by decide) (by decide) rfl (by decide) ?_
    replace h := h.2.1 hc1
    refine lv_aload_n hx hb d_Vd_evaluatesBy_56 rfl (lv_at hl 0 rfl) ?_
    refine lv_iload_n hx hb d_Vd_evaluatesBy_57 rfl (lv_at hl 1 rfl) ?_
    refine lv_iload_n hx hb d_Vd_evaluatesBy_58 rfl (lv_at hl 2 rfl) ?_
    refine lv_iload_n hx hb d_Vd_evaluatesBy_59 rfl (lv_at hl 3 rfl) ?_
    refine lv_iload hx hb d_Vd_evaluatesBy_60 (lv_at hl 4 rfl) ?_
    refine kw_calli (va_runV (As := [.int x1, .int x2, .int x3, .int x4]) (rest := []) (b := g.1 35) ⟨hx, hb, hml, hown, hts⟩ (c_Vd_nodeFor l x1 x2 x3 x4 h) (cwV 4 hts (gd_v gw819 gw820 gw821 gw11 gw822) rfl rfl rfl (by decide +kernel) ⟨Nat.le_of_ble_eq_true rfl, Nat.le_of_ble_eq_true rfl⟩) ⟨kw_blind (Zk_ok g), va_recv hK hst.1 rfl (WS_o35 g σ), kw_pre (Zk_ok g) hK hZ hA hst⟩ rfl rfl hl.1 rfl (lv_room (Nat.le_of_ble_eq_true rfl)) d_Vd_evaluatesBy_62 ⟨Nat.le_of_ble_eq_true rfl, Nat.le_of_ble_eq_true rfl⟩) hst hA (fun r1 σ1 H locs h hst => ?_)
    refine lv_iconst (v := (-1 : Int32)) hx hb d_Vd_evaluatesBy_65 (by decide) ?_
    refine lv_icmp_eq (tgt := 73) hx hb d_Vd_evaluatesBy_66 (by decide) (fun hc => ?_) (fun hc => ?_)
    · replace h := h.1 hc
      refine lv_iconst (v := (0 : Int32)) hx hb d_Vd_evaluatesBy_73 (by decide) ?_
      exact kw_zret hx hb hr hlocks hst h d_Vd_evaluatesBy_74
    · replace h := h.2 hc
      refine lv_iconst (v := (1 : Int32)) hx hb d_Vd_evaluatesBy_69 (by decide) ?_
      refine lv_goto (tgt := 74) hx hb d_Vd_evaluatesBy_70 (by decide) ?_
      exact kw_zret hx hb hr hlocks hst h d_Vd_evaluatesBy_74
  by_cases hc2 : (σ.1 30 x2.toNatClampNeg) = 14
  · refine kw_tin (k := 14) (tgt := 143) hx hb d_Vd_evaluatesBy_9 hc2 (by decide) (by decide) rfl (by decide) ?_
    replace h := h.2.2.1 hc2
    refine lv_iconst (v := (0 : Int32)) hx hb d_Vd_evaluatesBy_143 (by decide) ?_
    exact kw_zret hx hb hr hlocks hst h d_Vd_evaluatesBy_144
  by_cases hc3 : (σ.1 30 x2.toNatClampNeg) = 15
  · refine kw_tin (k := 15) (tgt := 75) hx hb d_Vd_evaluatesBy_9 hc3 (by decide) (by decide) rfl (by decide) ?_
    replace h := h.2.2.2.1 hc3
    refine lv_aload_n hx hb d_Vd_evaluatesBy_75 rfl (lv_at hl 0 rfl) ?_
    refine va_get (D := D) (ci := 6) (C := R_Vd) (T := T_Vd) (N := 6) hx hb hts in_Vd hown hK hst.1 35 (WS_o35 g σ) rfl 1 (by decide) (hts _ gw302) (fun _ h9 => h9) rfl d_Vd_evaluatesBy_76 ?_
    refine va_get (D := D) (ci := 0) (C := R_Tr) (T := T_Tr) (N := 12) hx hb hts in_Tr hown hK hst.1 0 (WS_o0 g σ) rfl 1 (by decide) (hts _ gw133) (fun _ h9 => h9) rfl d_Vd_evaluatesBy_79 ?_
    refine lv_iload_n hx hb d_Vd_evaluatesBy_82 rfl (lv_at hl 2 rfl) ?_
    obtain ⟨hi, h⟩ := h
    refine va_iald hx hb hK hst.1 1 0 (WS_a1 g σ) rfl hi d_Vd_evaluatesBy_83 ?_
    refine lv_iconst (v := (5 : Int32)) hx hb d_Vd_evaluatesBy_84 (by decide) ?_
    refine lv_icmp_ne (tgt := 103) hx hb d_Vd_evaluatesBy_85 (by decide) (fun hc => ?_) (fun hc => ?_)
    · replace h := h.1 hc
      refine lv_iconst (v := (0 : Int32)) hx hb d_Vd_evaluatesBy_103 (by decide) ?_
      exact kw_zret hx hb hr hlocks hst h d_Vd_evaluatesBy_104
    · replace h := h.2 hc
      refine lv_aload_n hx hb d_Vd_evaluatesBy_88 rfl (lv_at hl 0 rfl) ?_
      refine lv_iload_n hx hb d_Vd_evaluatesBy_89 rfl (lv_at hl 2 rfl) ?_
      refine lv_iload_n hx hb d_Vd_evaluatesBy_90 rfl (lv_at hl 3 rfl) ?_
      refine lv_iload hx hb d_Vd_evaluatesBy_91 (lv_at hl 4 rfl) ?_
      refine kw_calli (va_runV (As := [.int x2, .int x3, .int x4]) (rest := []) (b := g.1 35) ⟨hx, hb, hml, hown, hts⟩ (c_Vd_isEvaluatedInside l x2 x3 x4 h) (cwV 3 hts (gd_v gw828 gw830 gs23 gw11 gw831) rfl rfl rfl (by decide +kernel) ⟨Nat.le_of_ble_eq_true rfl, Nat.le_of_ble_eq_true rfl⟩) ⟨kw_blind (Zk_ok g), va_recv hK hst.1 rfl (WS_o35 g σ), kw_pre (Zk_ok g) hK hZ hA hst⟩ rfl rfl hl.1 rfl (lv_room (Nat.le_of_ble_eq_true rfl)) d_Vd_evaluatesBy_93 ⟨Nat.le_of_ble_eq_true rfl, Nat.le_of_ble_eq_true rfl⟩) hst hA (fun r1 σ1 H locs h hst => ?_)
      refine lv_if_eq (tgt := 103) hx hb d_Vd_evaluatesBy_96 (by decide) (fun hc => ?_) (fun hc => ?_)
      · replace h := h.1 hc
        refine lv_iconst (v := (0 : Int32)) hx hb d_Vd_evaluatesBy_103 (by decide) ?_
        exact kw_zret hx hb hr hlocks hst h d_Vd_evaluatesBy_104
      · replace h := h.2 hc
        refine lv_iconst (v := (1 : Int32)) hx hb d_Vd_evaluatesBy_99 (by decide) ?_
        refine lv_goto (tgt := 104) hx hb d_Vd_evaluatesBy_100 (by decide) ?_
        exact kw_zret hx hb hr hlocks hst h d_Vd_evaluatesBy_104
  by_cases hc4 : (σ.1 30 x2.toNatClampNeg) = 16
  · refine kw_tin (k := 16) (tgt := 75) hx hb d_Vd_evaluatesBy_9 hc4 (by decide) (by decide) rfl (by decide) ?_
    replace h := h.2.2.2.2.1 hc4
    refine lv_aload_n hx hb d_Vd_evaluatesBy_75 rfl (lv_at hl 0 rfl) ?_
    refine va_get (D := D) (ci := 6) (C := R_Vd) (T := T_Vd) (N := 6) hx hb hts in_Vd hown hK hst.1 35 (WS_o35 g σ) rfl 1 (by decide) (hts _ gw302) (fun _ h9 => h9) rfl d_Vd_evaluatesBy_76 ?_
    refine va_get (D := D) (ci := 0) (C := R_Tr) (T := T_Tr) (N := 12) hx hb hts in_Tr hown hK hst.1 0 (WS_o0 g σ) rfl 1 (by decide) (hts _ gw133) (fun _ h9 => h9) rfl d_Vd_evaluatesBy_79 ?_
    refine lv_iload_n hx hb d_Vd_evaluatesBy_82 rfl (lv_at hl 2 rfl) ?_
    obtain ⟨hi, h⟩ := h
    refine va_iald hx hb hK hst.1 1 0 (WS_a1 g σ) rfl hi d_Vd_evaluatesBy_83 ?_
    refine lv_iconst (v := (5 : Int32)) hx hb d_Vd_evaluatesBy_84 (by decide) ?_
    refine lv_icmp_ne (tgt := 103) hx hb d_Vd_evaluatesBy_85 (by decide) (fun hc => ?_) (fun hc => ?_)
    · replace h := h.1 hc
      refine lv_iconst (v := (0 : Int32)) hx hb d_Vd_evaluatesBy_103 (by decide) ?_
      exact kw_zret hx hb hr hlocks hst h d_Vd_evaluatesBy_104
    · replace h := h.2 hc
      refine lv_aload_n hx hb d_Vd_evaluatesBy_88 rfl (lv_at hl 0 rfl) ?_
      refine lv_iload_n hx hb d_Vd_evaluatesBy_89 rfl (lv_at hl 2 rfl) ?_
      refine lv_iload_n hx hb d_Vd_evaluatesBy_90 rfl (lv_at hl 3 rfl) ?_
      refine lv_iload hx hb d_Vd_evaluatesBy_91 (lv_at hl 4 rfl) ?_
      refine kw_calli (va_runV (As := [.int x2, .int x3, .int x4]) (rest := []) (b := g.1 35) ⟨hx, hb, hml, hown, hts⟩ (c_Vd_isEvaluatedInside l x2 x3 x4 h) (cwV 3 hts (gd_v gw828 gw830 gs23 gw11 gw831) rfl rfl rfl (by decide +kernel) ⟨Nat.le_of_ble_eq_true rfl, Nat.le_of_ble_eq_true rfl⟩) ⟨kw_blind (Zk_ok g), va_recv hK hst.1 rfl (WS_o35 g σ), kw_pre (Zk_ok g) hK hZ hA hst⟩ rfl rfl hl.1 rfl (lv_room (Nat.le_of_ble_eq_true rfl)) d_Vd_evaluatesBy_93 ⟨Nat.le_of_ble_eq_true rfl, Nat.le_of_ble_eq_true rfl⟩) hst hA (fun r1 σ1 H locs h hst => ?_)
      refine lv_if_eq (tgt := 103) hx hb d_Vd_evaluatesBy_96 (by decide) (fun hc => ?_) (fun hc => ?_)
      · replace h := h.1 hc
        refine lv_iconst (v := (0 : Int32)) hx hb d_Vd_evaluatesBy_103 (by decide) ?_
        exact kw_zret hx hb hr hlocks hst h d_Vd_evaluatesBy_104
      · replace h := h.2 hc
        refine lv_iconst (v := (1 : Int32)) hx hb d_Vd_evaluatesBy_99 (by decide) ?_
        refine lv_goto (tgt := 104) hx hb d_Vd_evaluatesBy_100 (by decide) ?_
        exact kw_zret hx hb hr hlocks hst h d_Vd_evaluatesBy_104
  by_cases hc5 : (σ.1 30 x2.toNatClampNeg) = 17
  · refine kw_tin (k := 17) (tgt := 75) hx hb d_Vd_evaluatesBy_9 hc5 (by decide) (by decide) rfl (by decide) ?_
    replace h := h.2.2.2.2.2.1 hc5
    refine lv_aload_n hx hb d_Vd_evaluatesBy_75 rfl (lv_at hl 0 rfl) ?_
    refine va_get (D := D) (ci := 6) (C := R_Vd) (T := T_Vd) (N := 6) hx hb hts in_Vd hown hK hst.1 35 (WS_o35 g σ) rfl 1 (by decide) (hts _ gw302) (fun _ h9 => h9) rfl d_Vd_evaluatesBy_76 ?_
    refine va_get (D := D) (ci := 0) (C := R_Tr) (T := T_Tr) (N := 12) hx hb hts in_Tr hown hK hst.1 0 (WS_o0 g σ) rfl 1 (by decide) (hts _ gw133) (fun _ h9 => h9) rfl d_Vd_evaluatesBy_79 ?_
    refine lv_iload_n hx hb d_Vd_evaluatesBy_82 rfl (lv_at hl 2 rfl) ?_
    obtain ⟨hi, h⟩ := h
    refine va_iald hx hb hK hst.1 1 0 (WS_a1 g σ) rfl hi d_Vd_evaluatesBy_83 ?_
    refine lv_iconst (v := (5 : Int32)) hx hb d_Vd_evaluatesBy_84 (by decide) ?_
    refine lv_icmp_ne (tgt := 103) hx hb d_Vd_evaluatesBy_85 (by decide) (fun hc => ?_) (fun hc => ?_)
    · replace h := h.1 hc
      refine lv_iconst (v := (0 : Int32)) hx hb d_Vd_evaluatesBy_103 (by decide) ?_
      exact kw_zret hx hb hr hlocks hst h d_Vd_evaluatesBy_104
    · replace h := h.2 hc
      refine lv_aload_n hx hb d_Vd_evaluatesBy_88 rfl (lv_at hl 0 rfl) ?_
      refine lv_iload_n hx hb d_Vd_evaluatesBy_89 rfl (lv_at hl 2 rfl) ?_
      refine lv_iload_n hx hb d_Vd_evaluatesBy_90 rfl (lv_at hl 3 rfl) ?_
      refine lv_iload hx hb d_Vd_evaluatesBy_91 (lv_at hl 4 rfl) ?_
      refine kw_calli (va_runV (As := [.int x2, .int x3, .int x4]) (rest := []) (b := g.1 35) ⟨hx, hb, hml, hown, hts⟩ (c_Vd_isEvaluatedInside l x2 x3 x4 h) (cwV 3 hts (gd_v gw828 gw830 gs23 gw11 gw831) rfl rfl rfl (by decide +kernel) ⟨Nat.le_of_ble_eq_true rfl, Nat.le_of_ble_eq_true rfl⟩) ⟨kw_blind (Zk_ok g), va_recv hK hst.1 rfl (WS_o35 g σ), kw_pre (Zk_ok g) hK hZ hA hst⟩ rfl rfl hl.1 rfl (lv_room (Nat.le_of_ble_eq_true rfl)) d_Vd_evaluatesBy_93 ⟨Nat.le_of_ble_eq_true rfl, Nat.le_of_ble_eq_true rfl⟩) hst hA (fun r1 σ1 H locs h hst => ?_)
      refine lv_if_eq (tgt := 103) hx hb d_Vd_evaluatesBy_96 (by decide) (fun hc => ?_) (fun hc => ?_)
      · replace h := h.1 hc
        refine lv_iconst (v := (0 : Int32)) hx hb d_Vd_evaluatesBy_103 (by decide) ?_
        exact kw_zret hx hb hr hlocks hst h d_Vd_evaluatesBy_104
      · replace h := h.2 hc
        refine lv_iconst (v := (1 : Int32)) hx hb d_Vd_evaluatesBy_99 (by decide) ?_
        refine lv_goto (tgt := 104) hx hb d_Vd_evaluatesBy_100 (by decide) ?_
        exact kw_zret hx hb hr hlocks hst h d_Vd_evaluatesBy_104
  by_cases hc6 : (σ.1 30 x2.toNatClampNeg) = 18
  · refine kw_tin (k := 18) (tgt := 143) hx hb d_Vd_evaluatesBy_9 hc6 (by decide) (by decide) rfl (by decide) ?_
    replace h := h.2.2.2.2.2.2.1 hc6
    refine lv_iconst (v := (0 : Int32)) hx hb d_Vd_evaluatesBy_143 (by decide) ?_
    exact kw_zret hx hb hr hlocks hst h d_Vd_evaluatesBy_144
  by_cases hc7 : (σ.1 30 x2.toNatClampNeg) = 19
  · refine kw_tin (k := 19) (tgt := 105) hx hb d_Vd_evaluatesBy_9 hc7 (by decide) (by decide) rfl (by decide) ?_
    replace h := h.2.2.2.2.2.2.2.1 hc7
    refine lv_aload_n hx hb d_Vd_evaluatesBy_105 rfl (lv_at hl 0 rfl) ?_
    refine va_get (D := D) (ci := 6) (C := R_Vd) (T := T_Vd) (N := 6) hx hb hts in_Vd hown hK hst.1 35 (WS_o35 g σ) rfl 0 (by decide) (hts _ gw299) (fun _ h9 => h9) rfl d_Vd_evaluatesBy_106 ?_
    refine va_get (D := D) (ci := 5) (C := R_Pl) (T := T_Pl) (N := 10) hx hb hts in_Pl hown hK hst.1 29 (WS_o29 g σ) rfl 3 (by decide) (hts _ gw242) (fun _ h9 => h9) rfl d_Vd_evaluatesBy_109 ?_
    refine lv_iload_n hx hb d_Vd_evaluatesBy_112 rfl (lv_at hl 2 rfl) ?_
    obtain ⟨hi, h⟩ := h
    refine va_iald hx hb hK hst.1 31 0 (WS_a31 g σ) rfl hi d_Vd_evaluatesBy_113 ?_
    refine lv_iconst (v := (-1 : Int32)) hx hb d_Vd_evaluatesBy_114 (by decide) ?_
    refine lv_icmp_eq (tgt := 141) hx hb d_Vd_evaluatesBy_115 (by decide) (fun hc => ?_) (fun hc => ?_)
    · replace h := h.1 hc
      refine lv_iconst (v := (0 : Int32)) hx hb d_Vd_evaluatesBy_141 (by decide) ?_
      exact kw_zret hx hb hr hlocks hst h d_Vd_evaluatesBy_142
    · replace h := h.2 hc
      refine lv_aload_n hx hb d_Vd_evaluatesBy_118 rfl (lv_at hl 0 rfl) ?_
      refine lv_aload_n hx hb d_Vd_evaluatesBy_119 rfl (lv_at hl 0 rfl) ?_
      refine va_get (D := D) (ci := 6) (C := R_Vd) (T := T_Vd) (N := 6) hx hb hts in_Vd hown hK hst.1 35 (WS_o35 g σ) rfl 0 (by decide) (hts _ gw299) (fun _ h9 => h9) rfl d_Vd_evaluatesBy_120 ?_
      refine va_get (D := D) (ci := 5) (C := R_Pl) (T := T_Pl) (N := 10) hx hb hts in_Pl hown hK hst.1 29 (WS_o29 g σ) rfl 3 (by decide) (hts _ gw242) (fun _ h9 => h9) rfl d_Vd_evaluatesBy_123 ?_
      refine lv_iload_n hx hb d_Vd_evaluatesBy_126 rfl (lv_at hl 2 rfl) ?_
      obtain ⟨hi, h⟩ := h
      refine va_iald hx hb hK hst.1 31 0 (WS_a31 g σ) rfl hi d_Vd_evaluatesBy_127 ?_
      refine lv_iload_n hx hb d_Vd_evaluatesBy_128 rfl (lv_at hl 3 rfl) ?_
      refine lv_iload hx hb d_Vd_evaluatesBy_129 (lv_at hl 4 rfl) ?_
      refine kw_calli (va_runV (As := [.int (σ.1 31 x2.toNatClampNeg), .int x3, .int x4]) (rest := []) (b := g.1 35) ⟨hx, hb, hml, hown, hts⟩ (c_Vd_holdsAndEvaluates l (σ.1 31 x2.toNatClampNeg) x3 x4 h) (cwV 3 hts (gd_v gw832 gw834 gs24 gw11 gw835) rfl rfl rfl (by decide +kernel) ⟨Nat.le_of_ble_eq_true rfl, Nat.le_of_ble_eq_true rfl⟩) ⟨kw_blind (Zk_ok g), va_recv hK hst.1 rfl (WS_o35 g σ), kw_pre (Zk_ok g) hK hZ hA hst⟩ rfl rfl hl.1 rfl (lv_room (Nat.le_of_ble_eq_true rfl)) d_Vd_evaluatesBy_131 ⟨Nat.le_of_ble_eq_true rfl, Nat.le_of_ble_eq_true rfl⟩) hst hA (fun r1 σ1 H locs h hst => ?_)
      refine lv_if_eq (tgt := 141) hx hb d_Vd_evaluatesBy_134 (by decide) (fun hc => ?_) (fun hc => ?_)
      · replace h := h.1 hc
        refine lv_iconst (v := (0 : Int32)) hx hb d_Vd_evaluatesBy_141 (by decide) ?_
        exact kw_zret hx hb hr hlocks hst h d_Vd_evaluatesBy_142
      · replace h := h.2 hc
        refine lv_iconst (v := (1 : Int32)) hx hb d_Vd_evaluatesBy_137 (by decide) ?_
        refine lv_goto (tgt := 142) hx hb d_Vd_evaluatesBy_138 (by decide) ?_
        exact kw_zret hx hb hr hlocks hst h d_Vd_evaluatesBy_142
  refine lv_tableOut (tgt := 143) hx hb d_Vd_evaluatesBy_9 (by have q0 := lv_neT (a := 12) hc0 (by decide); have q1 := lv_neT (a := 13) hc1 (by decide); have q2 := lv_neT (a := 14) hc2 (by decide); have q3 := lv_neT (a := 15) hc3 (by decide); have q4 := lv_neT (a := 16) hc4 (by decide); have q5 := lv_neT (a := 17) hc5 (by decide); have q6 := lv_neT (a := 18) hc6 (by decide); have q7 := lv_neT (a := 19) hc7 (by decide); omega) (by decide) ?_
  replace h := h.2.2.2.2.2.2.2.2 ⟨hc0, hc1, hc2, hc3, hc4, hc5, hc6, hc7⟩
  refine lv_iconst (v := (0 : Int32)) hx hb d_Vd_evaluatesBy_143 (by decide) ?_
  exact kw_zret hx hb hr hlocks hst h d_Vd_evaluatesBy_144
set_option maxRecDepth 100000 in
set_option maxHeartbeats 4000000 in
theorem c_Vd_evaluatesBy (l : Launch) {D : va_G} {g : Gm} {sz : Nat} (x1 : Int32) (x2 : Int32) (x3 : Int32) (x4 : Int32) {σ : Sg} {post : Int32 → Sg → Prop} (h : wq_Vd_evaluatesBy x1 x2 x3 x4 σ post) : Met l y_Vd_evaluatesBy (.code y_Vd_evaluatesBy k_Vd_evaluatesBy 5 (some .boolean) :: GW) { frames := 3, cells := 0, slots := 0, locals := 78 } (PcW D vwCl (WS g) g (Zk g) σ sz [.ref (g.1 35), .int x1, .int x2, .int x3, .int x4]) (QiW D vwCl (WS g) post (va_A (WS g σ) sz)) 0 0 (va_A (WS g σ) sz) := by
  refine kw_entry (own := R_Vd) (by decide) rfl rfl (Nat.le_of_ble_eq_true rfl) ?_
  intro p e s m below meth c ls hsz C hin hl hst
  exact b_Vd_evaluatesBy_0 C x1 x2 x3 x4 σ _ _ ls hl hst h
/-! SchemaDesk$Verdicts.isTypeSo (II)Z -/
abbrev k_Vd_isTypeSo : ByteArray := prog_9_method_11_code
abbrev y_Vd_isTypeSo : MethodName := ⟨"SchemaDesk$Verdicts", "isTypeSo", "(II)Z"⟩
theorem d_Vd_isTypeSo_0 : decode k_Vd_isTypeSo 0 = .ok (.aload_n 0, 1) := by decide +kernel
theorem d_Vd_isTypeSo_1 : decode k_Vd_isTypeSo 1 = .ok (.getfield 31, 3) := by decide +kernel
theorem d_Vd_isTypeSo_4 : decode k_Vd_isTypeSo 4 = .ok (.getfield 59, 3) := by decide +kernel
theorem d_Vd_isTypeSo_7 : decode k_Vd_isTypeSo 7 = .ok (.iload_n 1, 1) := by decide +kernel
theorem d_Vd_isTypeSo_8 : decode k_Vd_isTypeSo 8 = .ok (.iaload, 1) := by decide +kernel
theorem d_Vd_isTypeSo_9 : decode k_Vd_isTypeSo 9 = .ok (.iconst 4, 1) := by decide +kernel
theorem d_Vd_isTypeSo_10 : decode k_Vd_isTypeSo 10 = .ok (.if_icmp .ne 10, 3) := by decide +kernel
theorem d_Vd_isTypeSo_13 : decode k_Vd_isTypeSo 13 = .ok (.aload_n 0, 1) := by decide +kernel
theorem d_Vd_isTypeSo_14 : decode k_Vd_isTypeSo 14 = .ok (.iload_n 1, 1) := by decide +kernel
theorem d_Vd_isTypeSo_15 : decode k_Vd_isTypeSo 15 = .ok (.iload_n 2, 1) := by decide +kernel
theorem d_Vd_isTypeSo_16 : decode k_Vd_isTypeSo 16 = .ok (.invokevirtual 151, 3) := by decide +kernel
theorem d_Vd_isTypeSo_19 : decode k_Vd_isTypeSo 19 = .ok (.ireturn, 1) := by decide +kernel
theorem d_Vd_isTypeSo_20 : decode k_Vd_isTypeSo 20 = .ok (.aload_n 0, 1) := by decide +kernel
theorem d_Vd_isTypeSo_21 : decode k_Vd_isTypeSo 21 = .ok (.getfield 31, 3) := by decide +kernel
theorem d_Vd_isTypeSo_24 : decode k_Vd_isTypeSo 24 = .ok (.getfield 59, 3) := by decide +kernel
theorem d_Vd_isTypeSo_27 : decode k_Vd_isTypeSo 27 = .ok (.iload_n 1, 1) := by decide +kernel
theorem d_Vd_isTypeSo_28 : decode k_Vd_isTypeSo 28 = .ok (.iaload, 1) := by decide +kernel
theorem d_Vd_isTypeSo_29 : decode k_Vd_isTypeSo 29 = .ok (.iconst 5, 1) := by decide +kernel
theorem d_Vd_isTypeSo_30 : decode k_Vd_isTypeSo 30 = .ok (.if_icmp .eq 5, 3) := by decide +kernel
theorem d_Vd_isTypeSo_33 : decode k_Vd_isTypeSo 33 = .ok (.iconst 1, 1) := by decide +kernel
theorem d_Vd_isTypeSo_34 : decode k_Vd_isTypeSo 34 = .ok (.ireturn, 1) := by decide +kernel
theorem d_Vd_isTypeSo_35 : decode k_Vd_isTypeSo 35 = .ok (.iconst 0, 1) := by decide +kernel
theorem d_Vd_isTypeSo_36 : decode k_Vd_isTypeSo 36 = .ok (.istore_n 3, 1) := by decide +kernel
theorem d_Vd_isTypeSo_37 : decode k_Vd_isTypeSo 37 = .ok (.iload_n 1, 1) := by decide +kernel
theorem d_Vd_isTypeSo_38 : decode k_Vd_isTypeSo 38 = .ok (.iconst 1, 1) := by decide +kernel
theorem d_Vd_isTypeSo_39 : decode k_Vd_isTypeSo 39 = .ok (.iadd, 1) := by decide +kernel
theorem d_Vd_isTypeSo_40 : decode k_Vd_isTypeSo 40 = .ok (.istore 4, 2) := by decide +kernel
theorem d_Vd_isTypeSo_42 : decode k_Vd_isTypeSo 42 = .ok (.iload_n 3, 1) := by decide +kernel
theorem d_Vd_isTypeSo_43 : decode k_Vd_isTypeSo 43 = .ok (.aload_n 0, 1) := by decide +kernel
theorem d_Vd_isTypeSo_44 : decode k_Vd_isTypeSo 44 = .ok (.getfield 31, 3) := by decide +kernel
theorem d_Vd_isTypeSo_47 : decode k_Vd_isTypeSo 47 = .ok (.getfield 69, 3) := by decide +kernel
theorem d_Vd_isTypeSo_50 : decode k_Vd_isTypeSo 50 = .ok (.iload_n 1, 1) := by decide +kernel
theorem d_Vd_isTypeSo_51 : decode k_Vd_isTypeSo 51 = .ok (.iaload, 1) := by decide +kernel
theorem d_Vd_isTypeSo_52 : decode k_Vd_isTypeSo 52 = .ok (.if_icmp .ge 47, 3) := by decide +kernel
theorem d_Vd_isTypeSo_55 : decode k_Vd_isTypeSo 55 = .ok (.aload_n 0, 1) := by decide +kernel
theorem d_Vd_isTypeSo_56 : decode k_Vd_isTypeSo 56 = .ok (.getfield 31, 3) := by decide +kernel
theorem d_Vd_isTypeSo_59 : decode k_Vd_isTypeSo 59 = .ok (.getfield 59, 3) := by decide +kernel
theorem d_Vd_isTypeSo_62 : decode k_Vd_isTypeSo 62 = .ok (.iload 4, 2) := by decide +kernel
theorem d_Vd_isTypeSo_64 : decode k_Vd_isTypeSo 64 = .ok (.iaload, 1) := by decide +kernel
theorem d_Vd_isTypeSo_65 : decode k_Vd_isTypeSo 65 = .ok (.iconst 4, 1) := by decide +kernel
theorem d_Vd_isTypeSo_66 : decode k_Vd_isTypeSo 66 = .ok (.if_icmp .ne 15, 3) := by decide +kernel
theorem d_Vd_isTypeSo_69 : decode k_Vd_isTypeSo 69 = .ok (.aload_n 0, 1) := by decide +kernel
theorem d_Vd_isTypeSo_70 : decode k_Vd_isTypeSo 70 = .ok (.iload 4, 2) := by decide +kernel
theorem d_Vd_isTypeSo_72 : decode k_Vd_isTypeSo 72 = .ok (.iload_n 2, 1) := by decide +kernel
theorem d_Vd_isTypeSo_73 : decode k_Vd_isTypeSo 73 = .ok (.invokevirtual 151, 3) := by decide +kernel
theorem d_Vd_isTypeSo_76 : decode k_Vd_isTypeSo 76 = .ok (.ifCond .eq 5, 3) := by decide +kernel
theorem d_Vd_isTypeSo_79 : decode k_Vd_isTypeSo 79 = .ok (.iconst 1, 1) := by decide +kernel
theorem d_Vd_isTypeSo_80 : decode k_Vd_isTypeSo 80 = .ok (.ireturn, 1) := by decide +kernel
theorem d_Vd_isTypeSo_81 : decode k_Vd_isTypeSo 81 = .ok (.iinc 3 1, 3) := by decide +kernel
theorem d_Vd_isTypeSo_84 : decode k_Vd_isTypeSo 84 = .ok (.aload_n 0, 1) := by decide +kernel
theorem d_Vd_isTypeSo_85 : decode k_Vd_isTypeSo 85 = .ok (.getfield 31, 3) := by decide +kernel
theorem d_Vd_isTypeSo_88 : decode k_Vd_isTypeSo 88 = .ok (.getfield 76, 3) := by decide +kernel
theorem d_Vd_isTypeSo_91 : decode k_Vd_isTypeSo 91 = .ok (.iload 4, 2) := by decide +kernel
theorem d_Vd_isTypeSo_93 : decode k_Vd_isTypeSo 93 = .ok (.iaload, 1) := by decide +kernel
theorem d_Vd_isTypeSo_94 : decode k_Vd_isTypeSo 94 = .ok (.istore 4, 2) := by decide +kernel
theorem d_Vd_isTypeSo_96 : decode k_Vd_isTypeSo 96 = .ok (.goto (-54), 3) := by decide +kernel
theorem d_Vd_isTypeSo_99 : decode k_Vd_isTypeSo 99 = .ok (.iconst 0, 1) := by decide +kernel
theorem d_Vd_isTypeSo_100 : decode k_Vd_isTypeSo 100 = .ok (.ireturn, 1) := by decide +kernel
theorem gw849 : (Jvm.Cond.methodLink "SchemaDesk$Verdicts" (151 : Nat) ({ cls := "SchemaDesk$Verdicts", name := "saysKindOf", desc := "(II)Z" } : Jvm.MethodName)) ∈ GW := gw_t4 (List.mem_of_getElem? (i := 129) rfl) rfl
theorem gw851 : (Jvm.Cond.instanceMethod ({ cls := "SchemaDesk$Verdicts", name := "saysKindOf", desc := "(II)Z" } : Jvm.MethodName)) ∈ GW := gw_t4 (List.mem_of_getElem? (i := 131) rfl) rfl
theorem gs26 : Cond.selects "SchemaDesk$Verdicts" ⟨"SchemaDesk$Verdicts", "saysKindOf", "(II)Z"⟩ ⟨"SchemaDesk$Verdicts", "saysKindOf", "(II)Z"⟩ ∈ GW := gw_p2 (q := (⟨"SchemaDesk$Verdicts", "saysKindOf", "(II)Z"⟩, 6)) (List.mem_of_getElem? (i := 10) rfl)
theorem gw852 : (Jvm.Cond.code ({ cls := "SchemaDesk$Verdicts", name := "saysKindOf", desc := "(II)Z" } : Jvm.MethodName) prog_9_method_12_code (5 : Nat) (Option.some Jvm.ClassFile.FieldType.boolean)) ∈ GW := gw_t4 (List.mem_of_getElem? (i := 132) rfl) rfl
def wb_Vd_isTypeSo_0 (F : Nat → Int32 → Int32 → Int32 → Int32 → Sg → Prop) (post : Int32 → Sg → Prop) (x1 : Int32) (x2 : Int32) (σ : Sg) : Prop := (vp_in x1 160 ∧ ((¬ (σ.1 1 x1.toNatClampNeg) = (4 : Int32) → (vp_in x1 160 ∧ (((σ.1 1 x1.toNatClampNeg) = (5 : Int32) → F 1 x1 x2 (0 : Int32) (x1 + (1 : Int32)) σ) ∧ (¬ (σ.1 1 x1.toNatClampNeg) = (5 : Int32) → (narrow .boolean (.int (1 : Int32)) = .int (1 : Int32) ∧ post (1 : Int32) σ))))) ∧ ((σ.1 1 x1.toNatClampNeg) = (4 : Int32) → (wq_Vd_saysKindOf x1 x2 σ (fun r1 σ1 => (narrow .boolean (.int r1) = .int r1 ∧ post r1 σ1))))))
def wb_Vd_isTypeSo_1 (F : Nat → Int32 → Int32 → Int32 → Int32 → Sg → Prop) (post : Int32 → Sg → Prop) (x1 : Int32) (x2 : Int32) (x3 : Int32) (x4 : Int32) (σ : Sg) : Prop := (vp_in x1 160 ∧ (((σ.1 5 x1.toNatClampNeg) ≤ x3 → (narrow .boolean (.int (0 : Int32)) = .int (0 : Int32) ∧ post (0 : Int32) σ)) ∧ (¬ (σ.1 5 x1.toNatClampNeg) ≤ x3 → (vp_in x4 160 ∧ ((¬ (σ.1 1 x4.toNatClampNeg) = (4 : Int32) → (vp_in x4 160 ∧ F 1 x1 x2 (x3 + 1) (σ.1 8 x4.toNatClampNeg) σ)) ∧ ((σ.1 1 x4.toNatClampNeg) = (4 : Int32) → (wq_Vd_saysKindOf x4 x2 σ (fun r1 σ1 => ((r1 = 0 → (vp_in x4 160 ∧ F 1 x1 x2 (x3 + 1) (σ1.1 8 x4.toNatClampNeg) σ1)) ∧ (¬ r1 = 0 → (narrow .boolean (.int (1 : Int32)) = .int (1 : Int32) ∧ post (1 : Int32) σ1)))))))))))
def wp_Vd_isTypeSo (post : Int32 → Sg → Prop) : Nat → Nat → Int32 → Int32 → Int32 → Int32 → Sg → Prop
  | 0, _, _, _, _, _, _ => False
  | n + 1, k, x1, x2, x3, x4, σ => match k with
    | 0 => wb_Vd_isTypeSo_0 (wp_Vd_isTypeSo post n) post x1 x2 σ
    | 1 => wb_Vd_isTypeSo_1 (wp_Vd_isTypeSo post n) post x1 x2 x3 x4 σ
    | _ => False
def wq_Vd_isTypeSo (x1 : Int32) (x2 : Int32) (σ : Sg) (post : Int32 → Sg → Prop) : Prop := ∃ n, wp_Vd_isTypeSo post n 0 x1 x2 0 0 σ
def J_Vd_isTypeSo_1 (p : Program) (l : Launch) (e : Env) (s : State) (m : MethodId) (args : Array Value) (below : List Frame) (meth : Method) (c : Code) (D : va_G) (g : Gm) (A : Nat → Prop) (post : Int32 → Sg → Prop) (F : Nat → Int32 → Int32 → Int32 → Int32 → Sg → Prop) : Prop := ∀ (x1 : Int32) (x2 : Int32) (x3 : Int32) (x4 : Int32) (σ : Sg) (H : Heap) (locs : List Loc) (ls : Array Slot), lv_has ls 5 [(0, .ref (g.1 35)), (1, .int x1), (2, .int x2), (3, .int x3), (4, .int x4)] → Wst D vwCl (WS g) A s σ H locs → F 1 x1 x2 x3 x4 σ → W p l e { frames := 2, cells := 0, slots := 0, locals := 50 } s m args below meth c H locs 0 0 (MQ below (QiW D vwCl (WS g) post A) args s 0 0 A) (F0 m 42 ls [])
set_option maxRecDepth 100000 in
set_option maxHeartbeats 4000000 in
theorem b_Vd_isTypeSo_0 {p : Program} {l : Launch} {e : Env} {s : State} {m : MethodId} {args : Array Value} {below : List Frame} {meth : Method} {c : Code} {D : va_G} {g : Gm} {A : Nat → Prop} {post : Int32 → Sg → Prop} {F : Nat → Int32 → Int32 → Int32 → Int32 → Sg → Prop} (C : kC p s m args meth c k_Vd_isTypeSo 5 (some .boolean) GW R_Vd D vwCl g (Zk g) A) (j1 : J_Vd_isTypeSo_1 p l e s m args below meth c D g A post F) (x1 : Int32) (x2 : Int32) (σ : Sg) (H : Heap) (locs : List Loc) (ls : Array Slot) (hl : lv_has ls 5 [(0, .ref (g.1 35)), (1, .int x1), (2, .int x2)]) (hst : Wst D vwCl (WS g) A s σ H locs) (h : wb_Vd_isTypeSo_0 F post x1 x2 σ) : W p l e { frames := 2, cells := 0, slots := 0, locals := 50 } s m args below meth c H locs 0 0 (MQ below (QiW D vwCl (WS g) post A) args s 0 0 A) (F0 m 0 ls []) := by
  obtain ⟨hx, hb, hr, hml, hown, hts, hlocks, hK, hZ, hA⟩ := C
  unfold wb_Vd_isTypeSo_0 at h
  refine lv_aload_n hx hb d_Vd_isTypeSo_0 rfl (lv_at hl 0 rfl) ?_
  refine va_get (D := D) (ci := 6) (C := R_Vd) (T := T_Vd) (N := 6) hx hb hts in_Vd hown hK hst.1 35 (WS_o35 g σ) rfl 1 (by decide) (hts _ gw302) (fun _ h9 => h9) rfl d_Vd_isTypeSo_1 ?_
  refine va_get (D := D) (ci := 0) (C := R_Tr) (T := T_Tr) (N := 12) hx hb hts in_Tr hown hK hst.1 0 (WS_o0 g σ) rfl 1 (by decide) (hts _ gw133) (fun _ h9 => h9) rfl d_Vd_isTypeSo_4 ?_
  refine lv_iload_n hx hb d_Vd_isTypeSo_7 rfl (lv_at hl 1 rfl) ?_
  obtain ⟨hi, h⟩ := h
  refine va_iald hx hb hK hst.1 1 0 (WS_a1 g σ) rfl hi d_Vd_isTypeSo_8 ?_
  refine lv_iconst (v := (4 : Int32)) hx hb d_Vd_isTypeSo_9 (by decide) ?_
  refine lv_icmp_ne (tgt := 20) hx hb d_Vd_isTypeSo_10 (by decide) (fun hc => ?_) (fun hc => ?_)
  · replace h := h.1 hc
    refine lv_aload_n hx hb d_Vd_isTypeSo_20 rfl (lv_at hl 0 rfl) ?_
    refine va_get (D := D) (ci := 6) (C := R_Vd) (T := T_Vd) (N := 6) hx hb hts in_Vd hown hK hst.1 35 (WS_o35 g σ) rfl 1 (by decide) (hts _ gw302) (fun _ h9 => h9) rfl d_Vd_isTypeSo_21 ?_
    refine va_get (D := D) (ci := 0) (C := R_Tr) (T := T_Tr) (N := 12) hx hb hts in_Tr hown hK hst.1 0 (WS_o0 g σ) rfl 1 (by decide) (hts _ gw133) (fun _ h9 => h9) rfl d_Vd_isTypeSo_24 ?_
    refine lv_iload_n hx hb d_Vd_isTypeSo_27 rfl (lv_at hl 1 rfl) ?_
    obtain ⟨hi, h⟩ := h
    refine va_iald hx hb hK hst.1 1 0 (WS_a1 g σ) rfl hi d_Vd_isTypeSo_28 ?_
    refine lv_iconst (v := (5 : Int32)) hx hb d_Vd_isTypeSo_29 (by decide) ?_
    refine lv_icmp_eq (tgt := 35) hx hb d_Vd_isTypeSo_30 (by decide) (fun hc => ?_) (fun hc => ?_)
    · replace h := h.1 hc
      refine lv_iconst (v := (0 : Int32)) hx hb d_Vd_isTypeSo_35 (by decide) ?_
      refine lv_istore_n hx hb d_Vd_isTypeSo_36 rfl hl (by decide) rfl (fun ls hl => ?_)
      have hl : lv_has ls 5 [(3, .int (0 : Int32)), (0, .ref (g.1 35)), (1, .int x1), (2, .int x2)] := hl
      refine lv_iload_n hx hb d_Vd_isTypeSo_37 rfl (lv_at hl 2 rfl) ?_
      refine lv_iconst (v := (1 : Int32)) hx hb d_Vd_isTypeSo_38 (by decide) ?_
      refine lv_iadd hx hb d_Vd_isTypeSo_39 ?_
      refine lv_istore hx hb d_Vd_isTypeSo_40 hl (by decide) rfl (fun ls hl => ?_)
      have hl : lv_has ls 5 [(4, .int (x1 + (1 : Int32))), (3, .int (0 : Int32)), (0, .ref (g.1 35)), (1, .int x1), (2, .int x2)] := hl
      exact j1 x1 x2 (0 : Int32) (x1 + (1 : Int32)) σ _ _ _ (lv_sub hl [2, 3, 4, 1, 0] rfl) hst h
    · replace h := h.2 hc
      refine lv_iconst (v := (1 : Int32)) hx hb d_Vd_isTypeSo_33 (by decide) ?_
      exact kw_zret hx hb hr hlocks hst h d_Vd_isTypeSo_34
  · replace h := h.2 hc
    refine lv_aload_n hx hb d_Vd_isTypeSo_13 rfl (lv_at hl 0 rfl) ?_
    refine lv_iload_n hx hb d_Vd_isTypeSo_14 rfl (lv_at hl 1 rfl) ?_
    refine lv_iload_n hx hb d_Vd_isTypeSo_15 rfl (lv_at hl 2 rfl) ?_
    refine kw_calli (va_runV (As := [.int x1, .int x2]) (rest := []) (b := g.1 35) ⟨hx, hb, hml, hown, hts⟩ (c_Vd_saysKindOf l x1 x2 h) (cwV 2 hts (gd_v gw849 gw851 gs26 gw11 gw852) rfl rfl rfl (by decide +kernel) ⟨Nat.le_of_ble_eq_true rfl, Nat.le_of_ble_eq_true rfl⟩) ⟨kw_blind (Zk_ok g), va_recv hK hst.1 rfl (WS_o35 g σ), kw_pre (Zk_ok g) hK hZ hA hst⟩ rfl rfl hl.1 rfl (lv_room (Nat.le_of_ble_eq_true rfl)) d_Vd_isTypeSo_16 ⟨Nat.le_of_ble_eq_true rfl, Nat.le_of_ble_eq_true rfl⟩) hst hA (fun r1 σ1 H locs h hst => ?_)
    exact kw_zret hx hb hr hlocks hst h d_Vd_isTypeSo_19
set_option maxRecDepth 100000 in
set_option maxHeartbeats 4000000 in
theorem b_Vd_isTypeSo_1 {p : Program} {l : Launch} {e : Env} {s : State} {m : MethodId} {args : Array Value} {below : List Frame} {meth : Method} {c : Code} {D : va_G} {g : Gm} {A : Nat → Prop} {post : Int32 → Sg → Prop} {F : Nat → Int32 → Int32 → Int32 → Int32 → Sg → Prop} (C : kC p s m args meth c k_Vd_isTypeSo 5 (some .boolean) GW R_Vd D vwCl g (Zk g) A) (j1 : J_Vd_isTypeSo_1 p l e s m args below meth c D g A post F) (x1 : Int32) (x2 : Int32) (x3 : Int32) (x4 : Int32) (σ : Sg) (H : Heap) (locs : List Loc) (ls : Array Slot) (hl : lv_has ls 5 [(0, .ref (g.1 35)), (1, .int x1), (2, .int x2), (3, .int x3), (4, .int x4)]) (hst : Wst D vwCl (WS g) A s σ H locs) (h : wb_Vd_isTypeSo_1 F post x1 x2 x3 x4 σ) : W p l e { frames := 2, cells := 0, slots := 0, locals := 50 } s m args below meth c H locs 0 0 (MQ below (QiW D vwCl (WS g) post A) args s 0 0 A) (F0 m 42 ls []) := by
  obtain ⟨hx, hb, hr, hml, hown, hts, hlocks, hK, hZ, hA⟩ := C
  unfold wb_Vd_isTypeSo_1 at h
  refine lv_iload_n hx hb d_Vd_isTypeSo_42 rfl (lv_at hl 3 rfl) ?_
  refine lv_aload_n hx hb d_Vd_isTypeSo_43 rfl (lv_at hl 0 rfl) ?_
  refine va_get (D := D) (ci := 6) (C := R_Vd) (T := T_Vd) (N := 6) hx hb hts in_Vd hown hK hst.1 35 (WS_o35 g σ) rfl 1 (by decide) (hts _ gw302) (fun _ h9 => h9) rfl d_Vd_isTypeSo_44 ?_
  refine va_get (D := D) (ci := 0) (C := R_Tr) (T := T_Tr) (N := 12) hx hb hts in_Tr hown hK hst.1 0 (WS_o0 g σ) rfl 5 (by decide) (hts _ gw150) (fun _ h9 => h9) rfl d_Vd_isTypeSo_47 ?_
  refine lv_iload_n hx hb d_Vd_isTypeSo_50 rfl (lv_at hl 1 rfl) ?_
  obtain ⟨hi, h⟩ := h
  refine va_iald hx hb hK hst.1 5 0 (WS_a5 g σ) rfl hi d_Vd_isTypeSo_51 ?_
  refine lv_icmp_ge (tgt := 99) hx hb d_Vd_isTypeSo_52 (by decide) (fun hc => ?_) (fun hc => ?_)
  · replace h := h.1 hc
    refine lv_iconst (v := (0 : Int32)) hx hb d_Vd_isTypeSo_99 (by decide) ?_
    exact kw_zret hx hb hr hlocks hst h d_Vd_isTypeSo_100
  · replace h := h.2 hc
    refine lv_aload_n hx hb d_Vd_isTypeSo_55 rfl (lv_at hl 0 rfl) ?_
    refine va_get (D := D) (ci := 6) (C := R_Vd) (T := T_Vd) (N := 6) hx hb hts in_Vd hown hK hst.1 35 (WS_o35 g σ) rfl 1 (by decide) (hts _ gw302) (fun _ h9 => h9) rfl d_Vd_isTypeSo_56 ?_
    refine va_get (D := D) (ci := 0) (C := R_Tr) (T := T_Tr) (N := 12) hx hb hts in_Tr hown hK hst.1 0 (WS_o0 g σ) rfl 1 (by decide) (hts _ gw133) (fun _ h9 => h9) rfl d_Vd_isTypeSo_59 ?_
    refine lv_iload hx hb d_Vd_isTypeSo_62 (lv_at hl 4 rfl) ?_
    obtain ⟨hi, h⟩ := h
    refine va_iald hx hb hK hst.1 1 0 (WS_a1 g σ) rfl hi d_Vd_isTypeSo_64 ?_
    refine lv_iconst (v := (4 : Int32)) hx hb d_Vd_isTypeSo_65 (by decide) ?_
    refine lv_icmp_ne (tgt := 81) hx hb d_Vd_isTypeSo_66 (by decide) (fun hc => ?_) (fun hc => ?_)
    · replace h := h.1 hc
      refine lv_iinc (k := 3) (v := (x3 + 1)) hx hb d_Vd_isTypeSo_81 hl rfl (kw_inc _ (by decide)) (by decide) rfl (fun ls hl => ?_)
      have hl : lv_has ls 5 [(3, .int (x3 + 1)), (0, .ref (g.1 35)), (1, .int x1), (2, .int x2), (4, .int x4)] := hl
      refine lv_aload_n hx hb d_Vd_isTypeSo_84 rfl (lv_at hl 1 rfl) ?_
      refine va_get (D := D) (ci := 6) (C := R_Vd) (T := T_Vd) (N := 6) hx hb hts in_Vd hown hK hst.1 35 (WS_o35 g σ) rfl 1 (by decide) (hts _ gw302) (fun _ h9 => h9) rfl d_Vd_isTypeSo_85 ?_
      refine va_get (D := D) (ci := 0) (C := R_Tr) (T := T_Tr) (N := 12) hx hb hts in_Tr hown hK hst.1 0 (WS_o0 g σ) rfl 8 (by decide) (hts _ gw165) (fun _ h9 => h9) rfl d_Vd_isTypeSo_88 ?_
      refine lv_iload hx hb d_Vd_isTypeSo_91 (lv_at hl 4 rfl) ?_
      obtain ⟨hi, h⟩ := h
      refine va_iald hx hb hK hst.1 8 0 (WS_a8 g σ) rfl hi d_Vd_isTypeSo_93 ?_
      refine lv_istore hx hb d_Vd_isTypeSo_94 hl (by decide) rfl (fun ls hl => ?_)
      have hl : lv_has ls 5 [(4, .int (σ.1 8 x4.toNatClampNeg)), (3, .int (x3 + 1)), (0, .ref (g.1 35)), (1, .int x1), (2, .int x2)] := hl
      refine lv_goto (tgt := 42) hx hb d_Vd_isTypeSo_96 (by decide) ?_
      exact j1 x1 x2 (x3 + 1) (σ.1 8 x4.toNatClampNeg) σ _ _ _ (lv_sub hl [2, 3, 4, 1, 0] rfl) hst h
    · replace h := h.2 hc
      refine lv_aload_n hx hb d_Vd_isTypeSo_69 rfl (lv_at hl 0 rfl) ?_
      refine lv_iload hx hb d_Vd_isTypeSo_70 (lv_at hl 4 rfl) ?_
      refine lv_iload_n hx hb d_Vd_isTypeSo_72 rfl (lv_at hl 2 rfl) ?_
      refine kw_calli (va_runV (As := [.int x4, .int x2]) (rest := []) (b := g.1 35) ⟨hx, hb, hml, hown, hts⟩ (c_Vd_saysKindOf l x4 x2 h) (cwV 2 hts (gd_v gw849 gw851 gs26 gw11 gw852) rfl rfl rfl (by decide +kernel) ⟨Nat.le_of_ble_eq_true rfl, Nat.le_of_ble_eq_true rfl⟩) ⟨kw_blind (Zk_ok g), va_recv hK hst.1 rfl (WS_o35 g σ), kw_pre (Zk_ok g) hK hZ hA hst⟩ rfl rfl hl.1 rfl (lv_room (Nat.le_of_ble_eq_true rfl)) d_Vd_isTypeSo_73 ⟨Nat.le_of_ble_eq_true rfl, Nat.le_of_ble_eq_true rfl⟩) hst hA (fun r1 σ1 H locs h hst => ?_)
      refine lv_if_eq (tgt := 81) hx hb d_Vd_isTypeSo_76 (by decide) (fun hc => ?_) (fun hc => ?_)
      · replace h := h.1 hc
        refine lv_iinc (k := 3) (v := (x3 + 1)) hx hb d_Vd_isTypeSo_81 hl rfl (kw_inc _ (by decide)) (by decide) rfl (fun ls hl => ?_)
        have hl : lv_has ls 5 [(3, .int (x3 + 1)), (0, .ref (g.1 35)), (1, .int x1), (2, .int x2), (4, .int x4)] := hl
        refine lv_aload_n hx hb d_Vd_isTypeSo_84 rfl (lv_at hl 1 rfl) ?_
        refine va_get (D := D) (ci := 6) (C := R_Vd) (T := T_Vd) (N := 6) hx hb hts in_Vd hown hK hst.1 35 (WS_o35 g σ1) rfl 1 (by decide) (hts _ gw302) (fun _ h9 => h9) rfl d_Vd_isTypeSo_85 ?_
        refine va_get (D := D) (ci := 0) (C := R_Tr) (T := T_Tr) (N := 12) hx hb hts in_Tr hown hK hst.1 0 (WS_o0 g σ1) rfl 8 (by decide) (hts _ gw165) (fun _ h9 => h9) rfl d_Vd_isTypeSo_88 ?_
        refine lv_iload hx hb d_Vd_isTypeSo_91 (lv_at hl 4 rfl) ?_
        obtain ⟨hi, h⟩ := h
        refine va_iald hx hb hK hst.1 8 0 (WS_a8 g σ1) rfl hi d_Vd_isTypeSo_93 ?_
        refine lv_istore hx hb d_Vd_isTypeSo_94 hl (by decide) rfl (fun ls hl => ?_)
        have hl : lv_has ls 5 [(4, .int (σ1.1 8 x4.toNatClampNeg)), (3, .int (x3 + 1)), (0, .ref (g.1 35)), (1, .int x1), (2, .int x2)] := hl
        refine lv_goto (tgt := 42) hx hb d_Vd_isTypeSo_96 (by decide) ?_
        exact j1 x1 x2 (x3 + 1) (σ1.1 8 x4.toNatClampNeg) σ1 _ _ _ (lv_sub hl [2, 3, 4, 1, 0] rfl) hst h
      · replace h := h.2 hc
        refine lv_iconst (v := (1 : Int32)) hx hb d_Vd_isTypeSo_79 (by decide) ?_
        exact kw_zret hx hb hr hlocks hst h d_Vd_isTypeSo_80
set_option maxRecDepth 100000 in
set_option maxHeartbeats 4000000 in
theorem a_Vd_isTypeSo {p : Program} {l : Launch} {e : Env} {s : State} {m : MethodId} {args : Array Value} {below : List Frame} {meth : Method} {c : Code} {D : va_G} {g : Gm} {A : Nat → Prop} {post : Int32 → Sg → Prop} (C : kC p s m args meth c k_Vd_isTypeSo 5 (some .boolean) GW R_Vd D vwCl g (Zk g) A) : ∀ n : Nat, J_Vd_isTypeSo_1 p l e s m args below meth c D g A post (wp_Vd_isTypeSo post n) := by
  intro n
  induction n with
  | zero => exact fun _ _ _ _ _ _ _ _ _ _ h => h.elim
  | succ n ih => exact fun x1 x2 x3 x4 σ H locs ls hl hst h => b_Vd_isTypeSo_1 (F := wp_Vd_isTypeSo post n) C (ih) x1 x2 x3 x4 σ H locs ls hl hst h
set_option maxRecDepth 100000 in
set_option maxHeartbeats 4000000 in
theorem c_Vd_isTypeSo (l : Launch) {D : va_G} {g : Gm} {sz : Nat} (x1 : Int32) (x2 : Int32) {σ : Sg} {post : Int32 → Sg → Prop} (h : wq_Vd_isTypeSo x1 x2 σ post) : Met l y_Vd_isTypeSo (.code y_Vd_isTypeSo k_Vd_isTypeSo 5 (some .boolean) :: GW) { frames := 2, cells := 0, slots := 0, locals := 50 } (PcW D vwCl (WS g) g (Zk g) σ sz [.ref (g.1 35), .int x1, .int x2]) (QiW D vwCl (WS g) post (va_A (WS g σ) sz)) 0 0 (va_A (WS g σ) sz) := by
  refine kw_entry (own := R_Vd) (by decide) rfl rfl (Nat.le_of_ble_eq_true rfl) ?_
  intro p e s m below meth c ls hsz C hin hl hst
  obtain ⟨n, h⟩ := h
  cases n with
  | zero => exact h.elim
  | succ n =>
    have ih := a_Vd_isTypeSo (l := l) (e := e) (below := below) (post := post) C n
    exact b_Vd_isTypeSo_0 (F := wp_Vd_isTypeSo post n) C (ih) x1 x2 σ _ _ ls hl hst h
/-! SchemaDesk$Verdicts.markEvaluated (II)V -/
abbrev k_Vd_markEvaluated : ByteArray := prog_9_method_5_code
abbrev y_Vd_markEvaluated : MethodName := ⟨"SchemaDesk$Verdicts", "markEvaluated", "(II)V"⟩
theorem d_Vd_markEvaluated_0 : decode k_Vd_markEvaluated 0 = .ok (.iconst 0, 1) := by decide +kernel
theorem d_Vd_markEvaluated_1 : decode k_Vd_markEvaluated 1 = .ok (.istore_n 3, 1) := by decide +kernel
theorem d_Vd_markEvaluated_2 : decode k_Vd_markEvaluated 2 = .ok (.iload_n 1, 1) := by decide +kernel
theorem d_Vd_markEvaluated_3 : decode k_Vd_markEvaluated 3 = .ok (.iconst 1, 1) := by decide +kernel
theorem d_Vd_markEvaluated_4 : decode k_Vd_markEvaluated 4 = .ok (.iadd, 1) := by decide +kernel
theorem d_Vd_markEvaluated_5 : decode k_Vd_markEvaluated 5 = .ok (.istore 4, 2) := by decide +kernel
theorem d_Vd_markEvaluated_7 : decode k_Vd_markEvaluated 7 = .ok (.iload_n 3, 1) := by decide +kernel
theorem d_Vd_markEvaluated_8 : decode k_Vd_markEvaluated 8 = .ok (.aload_n 0, 1) := by decide +kernel
theorem d_Vd_markEvaluated_9 : decode k_Vd_markEvaluated 9 = .ok (.getfield 31, 3) := by decide +kernel
theorem d_Vd_markEvaluated_12 : decode k_Vd_markEvaluated 12 = .ok (.getfield 69, 3) := by decide +kernel
theorem d_Vd_markEvaluated_15 : decode k_Vd_markEvaluated 15 = .ok (.iload_n 1, 1) := by decide +kernel
theorem d_Vd_markEvaluated_16 : decode k_Vd_markEvaluated 16 = .ok (.iaload, 1) := by decide +kernel
theorem d_Vd_markEvaluated_17 : decode k_Vd_markEvaluated 17 = .ok (.if_icmp .ge 84, 3) := by decide +kernel
theorem d_Vd_markEvaluated_20 : decode k_Vd_markEvaluated 20 = .ok (.iconst 0, 1) := by decide +kernel
theorem d_Vd_markEvaluated_21 : decode k_Vd_markEvaluated 21 = .ok (.istore 5, 2) := by decide +kernel
theorem d_Vd_markEvaluated_23 : decode k_Vd_markEvaluated 23 = .ok (.iload_n 2, 1) := by decide +kernel
theorem d_Vd_markEvaluated_24 : decode k_Vd_markEvaluated 24 = .ok (.iconst 1, 1) := by decide +kernel
theorem d_Vd_markEvaluated_25 : decode k_Vd_markEvaluated 25 = .ok (.iadd, 1) := by decide +kernel
theorem d_Vd_markEvaluated_26 : decode k_Vd_markEvaluated 26 = .ok (.istore 6, 2) := by decide +kernel
theorem d_Vd_markEvaluated_28 : decode k_Vd_markEvaluated 28 = .ok (.iload 5, 2) := by decide +kernel
theorem d_Vd_markEvaluated_30 : decode k_Vd_markEvaluated 30 = .ok (.aload_n 0, 1) := by decide +kernel
theorem d_Vd_markEvaluated_31 : decode k_Vd_markEvaluated 31 = .ok (.getfield 32, 3) := by decide +kernel
theorem d_Vd_markEvaluated_34 : decode k_Vd_markEvaluated 34 = .ok (.getfield 69, 3) := by decide +kernel
theorem d_Vd_markEvaluated_37 : decode k_Vd_markEvaluated 37 = .ok (.iload_n 2, 1) := by decide +kernel
theorem d_Vd_markEvaluated_38 : decode k_Vd_markEvaluated 38 = .ok (.iaload, 1) := by decide +kernel
theorem d_Vd_markEvaluated_39 : decode k_Vd_markEvaluated 39 = .ok (.if_icmp .ge 44, 3) := by decide +kernel
theorem d_Vd_markEvaluated_42 : decode k_Vd_markEvaluated 42 = .ok (.aload_n 0, 1) := by decide +kernel
theorem d_Vd_markEvaluated_43 : decode k_Vd_markEvaluated 43 = .ok (.iload_n 1, 1) := by decide +kernel
theorem d_Vd_markEvaluated_44 : decode k_Vd_markEvaluated 44 = .ok (.iload 4, 2) := by decide +kernel
theorem d_Vd_markEvaluated_46 : decode k_Vd_markEvaluated 46 = .ok (.iload_n 2, 1) := by decide +kernel
theorem d_Vd_markEvaluated_47 : decode k_Vd_markEvaluated 47 = .ok (.iload 6, 2) := by decide +kernel
theorem d_Vd_markEvaluated_49 : decode k_Vd_markEvaluated 49 = .ok (.invokevirtual 82, 3) := by decide +kernel
theorem d_Vd_markEvaluated_52 : decode k_Vd_markEvaluated 52 = .ok (.ifCond .eq 13, 3) := by decide +kernel
theorem d_Vd_markEvaluated_55 : decode k_Vd_markEvaluated 55 = .ok (.aload_n 0, 1) := by decide +kernel
theorem d_Vd_markEvaluated_56 : decode k_Vd_markEvaluated 56 = .ok (.getfield 18, 3) := by decide +kernel
theorem d_Vd_markEvaluated_59 : decode k_Vd_markEvaluated 59 = .ok (.iload_n 1, 1) := by decide +kernel
theorem d_Vd_markEvaluated_60 : decode k_Vd_markEvaluated 60 = .ok (.iload 6, 2) := by decide +kernel
theorem d_Vd_markEvaluated_62 : decode k_Vd_markEvaluated 62 = .ok (.invokevirtual 79, 3) := by decide +kernel
theorem d_Vd_markEvaluated_65 : decode k_Vd_markEvaluated 65 = .ok (.iinc 5 1, 3) := by decide +kernel
theorem d_Vd_markEvaluated_68 : decode k_Vd_markEvaluated 68 = .ok (.aload_n 0, 1) := by decide +kernel
theorem d_Vd_markEvaluated_69 : decode k_Vd_markEvaluated 69 = .ok (.getfield 32, 3) := by decide +kernel
theorem d_Vd_markEvaluated_72 : decode k_Vd_markEvaluated 72 = .ok (.getfield 76, 3) := by decide +kernel
theorem d_Vd_markEvaluated_75 : decode k_Vd_markEvaluated 75 = .ok (.iload 6, 2) := by decide +kernel
theorem d_Vd_markEvaluated_77 : decode k_Vd_markEvaluated 77 = .ok (.iaload, 1) := by decide +kernel
theorem d_Vd_markEvaluated_78 : decode k_Vd_markEvaluated 78 = .ok (.istore 6, 2) := by decide +kernel
theorem d_Vd_markEvaluated_80 : decode k_Vd_markEvaluated 80 = .ok (.goto (-52), 3) := by decide +kernel
theorem d_Vd_markEvaluated_83 : decode k_Vd_markEvaluated 83 = .ok (.iinc 3 1, 3) := by decide +kernel
theorem d_Vd_markEvaluated_86 : decode k_Vd_markEvaluated 86 = .ok (.aload_n 0, 1) := by decide +kernel
theorem d_Vd_markEvaluated_87 : decode k_Vd_markEvaluated 87 = .ok (.getfield 31, 3) := by decide +kernel
theorem d_Vd_markEvaluated_90 : decode k_Vd_markEvaluated 90 = .ok (.getfield 76, 3) := by decide +kernel
theorem d_Vd_markEvaluated_93 : decode k_Vd_markEvaluated 93 = .ok (.iload 4, 2) := by decide +kernel
theorem d_Vd_markEvaluated_95 : decode k_Vd_markEvaluated 95 = .ok (.iaload, 1) := by decide +kernel
theorem d_Vd_markEvaluated_96 : decode k_Vd_markEvaluated 96 = .ok (.istore 4, 2) := by decide +kernel
theorem d_Vd_markEvaluated_98 : decode k_Vd_markEvaluated 98 = .ok (.goto (-91), 3) := by decide +kernel
theorem d_Vd_markEvaluated_101 : decode k_Vd_markEvaluated 101 = .ok (.return_, 1) := by decide +kernel
theorem gw815 : (Jvm.Cond.methodLink "SchemaDesk$Verdicts" (82 : Nat) ({ cls := "SchemaDesk$Verdicts", name := "evaluatesBy", desc := "(IIII)Z" } : Jvm.MethodName)) ∈ GW := gw_t4 (List.mem_of_getElem? (i := 95) rfl) rfl
theorem gw817 : (Jvm.Cond.instanceMethod ({ cls := "SchemaDesk$Verdicts", name := "evaluatesBy", desc := "(IIII)Z" } : Jvm.MethodName)) ∈ GW := gw_t4 (List.mem_of_getElem? (i := 97) rfl) rfl
theorem gs22 : Cond.selects "SchemaDesk$Verdicts" ⟨"SchemaDesk$Verdicts", "evaluatesBy", "(IIII)Z"⟩ ⟨"SchemaDesk$Verdicts", "evaluatesBy", "(IIII)Z"⟩ ∈ GW := gw_p2 (q := (⟨"SchemaDesk$Verdicts", "evaluatesBy", "(IIII)Z"⟩, 6)) (List.mem_of_getElem? (i := 6) rfl)
theorem gw818 : (Jvm.Cond.code ({ cls := "SchemaDesk$Verdicts", name := "evaluatesBy", desc := "(IIII)Z" } : Jvm.MethodName) prog_9_method_6_code (5 : Nat) (Option.some Jvm.ClassFile.FieldType.boolean)) ∈ GW := gw_t4 (List.mem_of_getElem? (i := 98) rfl) rfl
theorem gw837 : (Jvm.Cond.methodLink "SchemaDesk$Verdicts" (79 : Nat) ({ cls := "SchemaDesk$Marks", name := "put", desc := "(II)V" } : Jvm.MethodName)) ∈ GW := gw_t4 (List.mem_of_getElem? (i := 117) rfl) rfl
theorem gw838 : (Jvm.Cond.instanceMethod ({ cls := "SchemaDesk$Marks", name := "put", desc := "(II)V" } : Jvm.MethodName)) ∈ GW := gw_t4 (List.mem_of_getElem? (i := 118) rfl) rfl
theorem gw839 : (Jvm.Cond.selects "SchemaDesk$Marks" ({ cls := "SchemaDesk$Marks", name := "put", desc := "(II)V" } : Jvm.MethodName) ({ cls := "SchemaDesk$Marks", name := "put", desc := "(II)V" } : Jvm.MethodName)) ∈ GW := gw_t4 (List.mem_of_getElem? (i := 119) rfl) rfl
theorem gw840 : (Jvm.Cond.code ({ cls := "SchemaDesk$Marks", name := "put", desc := "(II)V" } : Jvm.MethodName) prog_2_method_4_code (3 : Nat) (Option.none : Option Jvm.ClassFile.FieldType)) ∈ GW := gw_t4 (List.mem_of_getElem? (i := 120) rfl) rfl
def wb_Vd_markEvaluated_0 (F : Nat → Int32 → Int32 → Int32 → Int32 → Int32 → Int32 → Sg → Prop) (post : Sg → Prop) (x1 : Int32) (x2 : Int32) (σ : Sg) : Prop := F 1 x1 x2 (0 : Int32) (x1 + (1 : Int32)) 0 0 σ
def wb_Vd_markEvaluated_1 (F : Nat → Int32 → Int32 → Int32 → Int32 → Int32 → Int32 → Sg → Prop) (post : Sg → Prop) (x1 : Int32) (x2 : Int32) (x3 : Int32) (x4 : Int32) (σ : Sg) : Prop := (vp_in x1 160 ∧ (((σ.1 5 x1.toNatClampNeg) ≤ x3 → post σ) ∧ (¬ (σ.1 5 x1.toNatClampNeg) ≤ x3 → F 2 x1 x2 x3 x4 (0 : Int32) (x2 + (1 : Int32)) σ)))
def wb_Vd_markEvaluated_2 (F : Nat → Int32 → Int32 → Int32 → Int32 → Int32 → Int32 → Sg → Prop) (post : Sg → Prop) (x1 : Int32) (x2 : Int32) (x3 : Int32) (x4 : Int32) (x5 : Int32) (x6 : Int32) (σ : Sg) : Prop := (vp_in x2 80 ∧ (((σ.1 18 x2.toNatClampNeg) ≤ x5 → (vp_in x4 160 ∧ F 1 x1 x2 (x3 + 1) (σ.1 8 x4.toNatClampNeg) 0 0 σ)) ∧ (¬ (σ.1 18 x2.toNatClampNeg) ≤ x5 → (wq_Vd_evaluatesBy x1 x4 x2 x6 σ (fun r1 σ1 => ((r1 = 0 → (vp_in x6 80 ∧ F 2 x1 x2 x3 x4 (x5 + 1) (σ1.1 21 x6.toNatClampNeg) σ1)) ∧ (¬ r1 = 0 → (wq_Mk_put 38 x1 x6 σ1 (fun σ2 => (vp_in x6 80 ∧ F 2 x1 x2 x3 x4 (x5 + 1) (σ2.1 21 x6.toNatClampNeg) σ2))))))))))
def wp_Vd_markEvaluated (post : Sg → Prop) : Nat → Nat → Int32 → Int32 → Int32 → Int32 → Int32 → Int32 → Sg → Prop
  | 0, _, _, _, _, _, _, _, _ => False
  | n + 1, k, x1, x2, x3, x4, x5, x6, σ => match k with
    | 0 => wb_Vd_markEvaluated_0 (wp_Vd_markEvaluated post n) post x1 x2 σ
    | 1 => wb_Vd_markEvaluated_1 (wp_Vd_markEvaluated post n) post x1 x2 x3 x4 σ
    | 2 => wb_Vd_markEvaluated_2 (wp_Vd_markEvaluated post n) post x1 x2 x3 x4 x5 x6 σ
    | _ => False
def wq_Vd_markEvaluated (x1 : Int32) (x2 : Int32) (σ : Sg) (post : Sg → Prop) : Prop := ∃ n, wp_Vd_markEvaluated post n 0 x1 x2 0 0 0 0 σ
def J_Vd_markEvaluated_1 (p : Program) (l : Launch) (e : Env) (s : State) (m : MethodId) (args : Array Value) (below : List Frame) (meth : Method) (c : Code) (D : va_G) (g : Gm) (A : Nat → Prop) (post : Sg → Prop) (F : Nat → Int32 → Int32 → Int32 → Int32 → Int32 → Int32 → Sg → Prop) : Prop := ∀ (x1 : Int32) (x2 : Int32) (x3 : Int32) (x4 : Int32) (σ : Sg) (H : Heap) (locs : List Loc) (ls : Array Slot), lv_has ls 7 [(0, .ref (g.1 35)), (1, .int x1), (2, .int x2), (3, .int x3), (4, .int x4)] → Wst D vwCl (WS g) A s σ H locs → F 1 x1 x2 x3 x4 0 0 σ → W p l e { frames := 4, cells := 0, slots := 0, locals := 102 } s m args below meth c H locs 0 0 (MQ below (QvW D vwCl (WS g) post A) args s 0 0 A) (F0 m 7 ls [])
def J_Vd_markEvaluated_2 (p : Program) (l : Launch) (e : Env) (s : State) (m : MethodId) (args : Array Value) (below : List Frame) (meth : Method) (c : Code) (D : va_G) (g : Gm) (A : Nat → Prop) (post : Sg → Prop) (F : Nat → Int32 → Int32 → Int32 → Int32 → Int32 → Int32 → Sg → Prop) : Prop := ∀ (x1 : Int32) (x2 : Int32) (x3 : Int32) (x4 : Int32) (x5 : Int32) (x6 : Int32) (σ : Sg) (H : Heap) (locs : List Loc) (ls : Array Slot), lv_has ls 7 [(0, .ref (g.1 35)), (1, .int x1), (2, .int x2), (3, .int x3), (4, .int x4), (5, .int x5), (6, .int x6)] → Wst D vwCl (WS g) A s σ H locs → F 2 x1 x2 x3 x4 x5 x6 σ → W p l e { frames := 4, cells := 0, slots := 0, locals := 102 } s m args below meth c H locs 0 0 (MQ below (QvW D vwCl (WS g) post A) args s 0 0 A) (F0 m 28 ls [])
set_option maxRecDepth 100000 in
set_option maxHeartbeats 4000000 in
theorem b_Vd_markEvaluated_0 {p : Program} {l : Launch} {e : Env} {s : State} {m : MethodId} {args : Array Value} {below : List Frame} {meth : Method} {c : Code} {D : va_G} {g : Gm} {A : Nat → Prop} {post : Sg → Prop} {F : Nat → Int32 → Int32 → Int32 → Int32 → Int32 → Int32 → Sg → Prop} (C : kC p s m args meth c k_Vd_markEvaluated 7 (none) GW R_Vd D vwCl g (Zk g) A) (j1 : J_Vd_markEvaluated_1 p l e s m args below meth c D g A post F) (x1 : Int32) (x2 : Int32) (σ : Sg) (H : Heap) (locs : List Loc) (ls : Array Slot) (hl : lv_has ls 7 [(0, .ref (g.1 35)), (1, .int x1), (2, .int x2)]) (hst : Wst D vwCl (WS g) A s σ H locs) (h : wb_Vd_markEvaluated_0 F post x1 x2 σ) : W p l e { frames := 4, cells := 0, slots := 0, locals := 102 } s m args below meth c H locs 0 0 (MQ below (QvW D vwCl (WS g) post A) args s 0 0 A) (F0 m 0 ls []) := by
  obtain ⟨hx, hb, hr, hml, hown, hts, hlocks, hK, hZ, hA⟩ := C
  unfold wb_Vd_markEvaluated_0 at h
  refine lv_iconst (v := (0 : Int32)) hx hb d_Vd_markEvaluated_0 (by decide) ?_
  refine lv_istore_n hx hb d_Vd_markEvaluated_1 rfl hl (by decide) rfl (fun ls hl => ?_)
  have hl : lv_has ls 7 [(3, .int (0 : Int32)), (0, .ref (g.1 35)), (1, .int x1), (2, .int x2)] := hl
  refine lv_iload_n hx hb d_Vd_markEvaluated_2 rfl (lv_at hl 2 rfl) ?_
  refine lv_iconst (v := (1 : Int32)) hx hb d_Vd_markEvaluated_3 (by decide) ?_
  refine lv_iadd hx hb d_Vd_markEvaluated_4 ?_
  refine lv_istore hx hb d_Vd_markEvaluated_5 hl (by decide) rfl (fun ls hl => ?_)
  have hl : lv_has ls 7 [(4, .int (x1 + (1 : Int32))), (3, .int (0 : Int32)), (0, .ref (g.1 35)), (1, .int x1), (2, .int x2)] := hl
  exact j1 x1 x2 (0 : Int32) (x1 + (1 : Int32)) σ _ _ _ (lv_sub hl [2, 3, 4, 1, 0] rfl) hst h
set_option maxRecDepth 100000 in
set_option maxHeartbeats 4000000 in
theorem b_Vd_markEvaluated_1 {p : Program} {l : Launch} {e : Env} {s : State} {m : MethodId} {args : Array Value} {below : List Frame} {meth : Method} {c : Code} {D : va_G} {g : Gm} {A : Nat → Prop} {post : Sg → Prop} {F : Nat → Int32 → Int32 → Int32 → Int32 → Int32 → Int32 → Sg → Prop} (C : kC p s m args meth c k_Vd_markEvaluated 7 (none) GW R_Vd D vwCl g (Zk g) A) (j2 : J_Vd_markEvaluated_2 p l e s m args below meth c D g A post F) (x1 : Int32) (x2 : Int32) (x3 : Int32) (x4 : Int32) (σ : Sg) (H : Heap) (locs : List Loc) (ls : Array Slot) (hl : lv_has ls 7 [(0, .ref (g.1 35)), (1, .int x1), (2, .int x2), (3, .int x3), (4, .int x4)]) (hst : Wst D vwCl (WS g) A s σ H locs) (h : wb_Vd_markEvaluated_1 F post x1 x2 x3 x4 σ) : W p l e { frames := 4, cells := 0, slots := 0, locals := 102 } s m args below meth c H locs 0 0 (MQ below (QvW D vwCl (WS g) post A) args s 0 0 A) (F0 m 7 ls []) := by
  obtain ⟨hx, hb, hr, hml, hown, hts, hlocks, hK, hZ, hA⟩ := C
  unfold wb_Vd_markEvaluated_1 at h
  refine lv_iload_n hx hb d_Vd_markEvaluated_7 rfl (lv_at hl 3 rfl) ?_
  refine lv_aload_n hx hb d_Vd_markEvaluated_8 rfl (lv_at hl 0 rfl) ?_
  refine va_get (D := D) (ci := 6) (C := R_Vd) (T := T_Vd) (N := 6) hx hb hts in_Vd hown hK hst.1 35 (WS_o35 g σ) rfl 1 (by decide) (hts _ gw302) (fun _ h9 => h9) rfl d_Vd_markEvaluated_9 ?_
  refine va_get (D := D) (ci := 0) (C := R_Tr) (T := T_Tr) (N := 12) hx hb hts in_Tr hown hK hst.1 0 (WS_o0 g σ) rfl 5 (by decide) (hts _ gw150) (fun _ h9 => h9) rfl d_Vd_markEvaluated_12 ?_
  refine lv_iload_n hx hb d_Vd_markEvaluated_15 rfl (lv_at hl 1 rfl) ?_
  obtain ⟨hi, h⟩ := h
  refine va_iald hx hb hK hst.1 5 0 (WS_a5 g σ) rfl hi d_Vd_markEvaluated_16 ?_
  refine lv_icmp_ge (tgt := 101) hx hb d_Vd_markEvaluated_17 (by decide) (fun hc => ?_) (fun hc => ?_)
  · replace h := h.1 hc
    exact kw_vret hx hb hr hlocks hst h d_Vd_markEvaluated_101
  · replace h := h.2 hc
    refine lv_iconst (v := (0 : Int32)) hx hb d_Vd_markEvaluated_20 (by decide) ?_
    refine lv_istore hx hb d_Vd_markEvaluated_21 hl (by decide) rfl (fun ls hl => ?_)
    have hl : lv_has ls 7 [(5, .int (0 : Int32)), (0, .ref (g.1 35)), (1, .int x1), (2, .int x2), (3, .int x3), (4, .int x4)] := hl
    refine lv_iload_n hx hb d_Vd_markEvaluated_23 rfl (lv_at hl 3 rfl) ?_
    refine lv_iconst (v := (1 : Int32)) hx hb d_Vd_markEvaluated_24 (by decide) ?_
    refine lv_iadd hx hb d_Vd_markEvaluated_25 ?_
    refine lv_istore hx hb d_Vd_markEvaluated_26 hl (by decide) rfl (fun ls hl => ?_)
    have hl : lv_has ls 7 [(6, .int (x2 + (1 : Int32))), (5, .int (0 : Int32)), (0, .ref (g.1 35)), (1, .int x1), (2, .int x2), (3, .int x3), (4, .int x4)] := hl
    exact j2 x1 x2 x3 x4 (0 : Int32) (x2 + (1 : Int32)) σ _ _ _ (lv_sub hl [2, 3, 4, 5, 6, 1, 0] rfl) hst h
set_option maxRecDepth 100000 in
set_option maxHeartbeats 4000000 in
theorem b_Vd_markEvaluated_2 {p : Program} {l : Launch} {e : Env} {s : State} {m : MethodId} {args : Array Value} {below : List Frame} {meth : Method} {c : Code} {D : va_G} {g : Gm} {A : Nat → Prop} {post : Sg → Prop} {F : Nat → Int32 → Int32 → Int32 → Int32 → Int32 → Int32 → Sg → Prop} (C : kC p s m args meth c k_Vd_markEvaluated 7 (none) GW R_Vd D vwCl g (Zk g) A) (j1 : J_Vd_markEvaluated_1 p l e s m args below meth c D g A post F) (j2 : J_Vd_markEvaluated_2 p l e s m args below meth c D g A post F) (x1 : Int32) (x2 : Int32) (x3 : Int32) (x4 : Int32) (x5 : Int32) (x6 : Int32) (σ : Sg) (H : Heap) (locs : List Loc) (ls : Array Slot) (hl : lv_has ls 7 [(0, .ref (g.1 35)), (1, .int x1), (2, .int x2), (3, .int x3), (4, .int x4), (5, .int x5), (6, .int x6)]) (hst : Wst D vwCl (WS g) A s σ H locs) (h : wb_Vd_markEvaluated_2 F post x1 x2 x3 x4 x5 x6 σ) : W p l e { frames := 4, cells := 0, slots := 0, locals := 102 } s m args below meth c H locs 0 0 (MQ below (QvW D vwCl (WS g) post A) args s 0 0 A) (F0 m 28 ls []) := by
  obtain ⟨hx, hb, hr, hml, hown, hts, hlocks, hK, hZ, hA⟩ := C
  unfold wb_Vd_markEvaluated_2 at h
  refine lv_iload hx hb d_Vd_markEvaluated_28 (lv_at hl 5 rfl) ?_
  refine lv_aload_n hx hb d_Vd_markEvaluated_30 rfl (lv_at hl 0 rfl) ?_
  refine va_get (D := D) (ci := 6) (C := R_Vd) (T := T_Vd) (N := 6) hx hb hts in_Vd hown hK hst.1 35 (WS_o35 g σ) rfl 2 (by decide) (hts _ gw305) (fun _ h9 => h9) rfl d_Vd_markEvaluated_31 ?_
  refine va_get (D := D) (ci := 0) (C := R_Tr) (T := T_Tr) (N := 12) hx hb hts in_Tr hown hK hst.1 13 (WS_o13 g σ) rfl 5 (by decide) (hts _ gw150) (fun _ h9 => h9) rfl d_Vd_markEvaluated_34 ?_
  refine lv_iload_n hx hb d_Vd_markEvaluated_37 rfl (lv_at hl 2 rfl) ?_
  obtain ⟨hi, h⟩ := h
  refine va_iald hx hb hK hst.1 18 0 (WS_a18 g σ) rfl hi d_Vd_markEvaluated_38 ?_
  refine lv_icmp_ge (tgt := 83) hx hb d_Vd_markEvaluated_39 (by decide) (fun hc => ?_) (fun hc => ?_)
  · replace h := h.1 hc
    refine lv_iinc (k := 3) (v := (x3 + 1)) hx hb d_Vd_markEvaluated_83 hl rfl (kw_inc _ (by decide)) (by decide) rfl (fun ls hl => ?_)
    have hl : lv_has ls 7 [(3, .int (x3 + 1)), (0, .ref (g.1 35)), (1, .int x1), (2, .int x2), (4, .int x4), (5, .int x5), (6, .int x6)] := hl
    refine lv_aload_n hx hb d_Vd_markEvaluated_86 rfl (lv_at hl 1 rfl) ?_
    refine va_get (D := D) (ci := 6) (C := R_Vd) (T := T_Vd) (N := 6) hx hb hts in_Vd hown hK hst.1 35 (WS_o35 g σ) rfl 1 (by decide) (hts _ gw302) (fun _ h9 => h9) rfl d_Vd_markEvaluated_87 ?_
    refine va_get (D := D) (ci := 0) (C := R_Tr) (T := T_Tr) (N := 12) hx hb hts in_Tr hown hK hst.1 0 (WS_o0 g σ) rfl 8 (by decide) (hts _ gw165) (fun _ h9 => h9) rfl d_Vd_markEvaluated_90 ?_
    refine lv_iload hx hb d_Vd_markEvaluated_93 (lv_at hl 4 rfl) ?_
    obtain ⟨hi, h⟩ := h
    refine va_iald hx hb hK hst.1 8 0 (WS_a8 g σ) rfl hi d_Vd_markEvaluated_95 ?_
    refine lv_istore hx hb d_Vd_markEvaluated_96 hl (by decide) rfl (fun ls hl => ?_)
    have hl : lv_has ls 7 [(4, .int (σ.1 8 x4.toNatClampNeg)), (3, .int (x3 + 1)), (0, .ref (g.1 35)), (1, .int x1), (2, .int x2), (5, .int x5), (6, .int x6)] := hl
    refine lv_goto (tgt := 7) hx hb d_Vd_markEvaluated_98 (by decide) ?_
    exact j1 x1 x2 (x3 + 1) (σ.1 8 x4.toNatClampNeg) σ _ _ _ (lv_sub hl [2, 3, 4, 1, 0] rfl) hst h
  · replace h := h.2 hc
    refine lv_aload_n hx hb d_Vd_markEvaluated_42 rfl (lv_at hl 0 rfl) ?_
    refine lv_iload_n hx hb d_Vd_markEvaluated_43 rfl (lv_at hl 1 rfl) ?_
    refine lv_iload hx hb d_Vd_markEvaluated_44 (lv_at hl 4 rfl) ?_
    refine lv_iload_n hx hb d_Vd_markEvaluated_46 rfl (lv_at hl 2 rfl) ?_
    refine lv_iload hx hb d_Vd_markEvaluated_47 (lv_at hl 6 rfl) ?_
    refine kw_calli (va_runV (As := [.int x1, .int x4, .int x2, .int x6]) (rest := []) (b := g.1 35) ⟨hx, hb, hml, hown, hts⟩ (c_Vd_evaluatesBy l x1 x4 x2 x6 h) (cwV 4 hts (gd_v gw815 gw817 gs22 gw11 gw818) rfl rfl rfl (by decide +kernel) ⟨Nat.le_of_ble_eq_true rfl, Nat.le_of_ble_eq_true rfl⟩) ⟨kw_blind (Zk_ok g), va_recv hK hst.1 rfl (WS_o35 g σ), kw_pre (Zk_ok g) hK hZ hA hst⟩ rfl rfl hl.1 rfl (lv_room (Nat.le_of_ble_eq_true rfl)) d_Vd_markEvaluated_49 ⟨Nat.le_of_ble_eq_true rfl, Nat.le_of_ble_eq_true rfl⟩) hst hA (fun r1 σ1 H locs h hst => ?_)
    refine lv_if_eq (tgt := 65) hx hb d_Vd_markEvaluated_52 (by decide) (fun hc => ?_) (fun hc => ?_)
    · replace h := h.1 hc
      refine lv_iinc (k := 5) (v := (x5 + 1)) hx hb d_Vd_markEvaluated_65 hl rfl (kw_inc _ (by decide)) (by decide) rfl (fun ls hl => ?_)
      have hl : lv_has ls 7 [(5, .int (x5 + 1)), (0, .ref (g.1 35)), (1, .int x1), (2, .int x2), (3, .int x3), (4, .int x4), (6, .int x6)] := hl
      refine lv_aload_n hx hb d_Vd_markEvaluated_68 rfl (lv_at hl 1 rfl) ?_
      refine va_get (D := D) (ci := 6) (C := R_Vd) (T := T_Vd) (N := 6) hx hb hts in_Vd hown hK hst.1 35 (WS_o35 g σ1) rfl 2 (by decide) (hts _ gw305) (fun _ h9 => h9) rfl d_Vd_markEvaluated_69 ?_
      refine va_get (D := D) (ci := 0) (C := R_Tr) (T := T_Tr) (N := 12) hx hb hts in_Tr hown hK hst.1 13 (WS_o13 g σ1) rfl 8 (by decide) (hts _ gw165) (fun _ h9 => h9) rfl d_Vd_markEvaluated_72 ?_
      refine lv_iload hx hb d_Vd_markEvaluated_75 (lv_at hl 6 rfl) ?_
      obtain ⟨hi, h⟩ := h
      refine va_iald hx hb hK hst.1 21 0 (WS_a21 g σ1) rfl hi d_Vd_markEvaluated_77 ?_
      refine lv_istore hx hb d_Vd_markEvaluated_78 hl (by decide) rfl (fun ls hl => ?_)
      have hl : lv_has ls 7 [(6, .int (σ1.1 21 x6.toNatClampNeg)), (5, .int (x5 + 1)), (0, .ref (g.1 35)), (1, .int x1), (2, .int x2), (3, .int x3), (4, .int x4)] := hl
      refine lv_goto (tgt := 28) hx hb d_Vd_markEvaluated_80 (by decide) ?_
      exact j2 x1 x2 x3 x4 (x5 + 1) (σ1.1 21 x6.toNatClampNeg) σ1 _ _ _ (lv_sub hl [2, 3, 4, 5, 6, 1, 0] rfl) hst h
    · replace h := h.2 hc
      refine lv_aload_n hx hb d_Vd_markEvaluated_55 rfl (lv_at hl 0 rfl) ?_
      refine va_get (D := D) (ci := 6) (C := R_Vd) (T := T_Vd) (N := 6) hx hb hts in_Vd hown hK hst.1 35 (WS_o35 g σ1) rfl 5 (by decide) (hts _ gw311) (fun _ h9 => h9) rfl d_Vd_markEvaluated_56 ?_
      refine lv_iload_n hx hb d_Vd_markEvaluated_59 rfl (lv_at hl 1 rfl) ?_
      refine lv_iload hx hb d_Vd_markEvaluated_60 (lv_at hl 6 rfl) ?_
      refine kw_callv (va_runV (As := [.int x1, .int x6]) (rest := []) (b := g.1 38) ⟨hx, hb, hml, hown, hts⟩ (c_Mk_put_38 l x1 x6 h) (cwV 2 hts (gd_v gw837 gw838 gw839 gw12 gw840) rfl rfl rfl (by decide +kernel) ⟨Nat.le_of_ble_eq_true rfl, Nat.le_of_ble_eq_true rfl⟩) ⟨kw_blind (Zk_ok g), va_recv hK hst.1 rfl (WS_o38 g σ1), kw_pre (Zk_ok g) hK hZ hA hst⟩ rfl rfl hl.1 rfl (lv_room (Nat.le_of_ble_eq_true rfl)) d_Vd_markEvaluated_62 ⟨Nat.le_of_ble_eq_true rfl, Nat.le_of_ble_eq_true rfl⟩) hst hA (fun σ2 H locs h hst => ?_)
      refine lv_iinc (k := 5) (v := (x5 + 1)) hx hb d_Vd_markEvaluated_65 hl rfl (kw_inc _ (by decide)) (by decide) rfl (fun ls hl => ?_)
      have hl : lv_has ls 7 [(5, .int (x5 + 1)), (0, .ref (g.1 35)), (1, .int x1), (2, .int x2), (3, .int x3), (4, .int x4), (6, .int x6)] := hl
      refine lv_aload_n hx hb d_Vd_markEvaluated_68 rfl (lv_at hl 1 rfl) ?_
      refine va_get (D := D) (ci := 6) (C := R_Vd) (T := T_Vd) (N := 6) hx hb hts in_Vd hown hK hst.1 35 (WS_o35 g σ2) rfl 2 (by decide) (hts _ gw305) (fun _ h9 => h9) rfl d_Vd_markEvaluated_69 ?_
      refine va_get (D := D) (ci := 0) (C := R_Tr) (T := T_Tr) (N := 12) hx hb hts in_Tr hown hK hst.1 13 (WS_o13 g σ2) rfl 8 (by decide) (hts _ gw165) (fun _ h9 => h9) rfl d_Vd_markEvaluated_72 ?_
      refine lv_iload hx hb d_Vd_markEvaluated_75 (lv_at hl 6 rfl) ?_
      obtain ⟨hi, h⟩ := h
      refine va_iald hx hb hK hst.1 21 0 (WS_a21 g σ2) rfl hi d_Vd_markEvaluated_77 ?_
      refine lv_istore hx hb d_Vd_markEvaluated_78 hl (by decide) rfl (fun ls hl => ?_)
      have hl : lv_has ls 7 [(6, .int (σ2.1 21 x6.toNatClampNeg)), (5, .int (x5 + 1)), (0, .ref (g.1 35)), (1, .int x1), (2, .int x2), (3, .int x3), (4, .int x4)] := hl
      refine lv_goto (tgt := 28) hx hb d_Vd_markEvaluated_80 (by decide) ?_
      exact j2 x1 x2 x3 x4 (x5 + 1) (σ2.1 21 x6.toNatClampNeg) σ2 _ _ _ (lv_sub hl [2, 3, 4, 5, 6, 1, 0] rfl) hst h
set_option maxRecDepth 100000 in
set_option maxHeartbeats 4000000 in
theorem a_Vd_markEvaluated {p : Program} {l : Launch} {e : Env} {s : State} {m : MethodId} {args : Array Value} {below : List Frame} {meth : Method} {c : Code} {D : va_G} {g : Gm} {A : Nat → Prop} {post : Sg → Prop} (C : kC p s m args meth c k_Vd_markEvaluated 7 (none) GW R_Vd D vwCl g (Zk g) A) : ∀ n : Nat, J_Vd_markEvaluated_1 p l e s m args below meth c D g A post (wp_Vd_markEvaluated post n) ∧ J_Vd_markEvaluated_2 p l e s m args below meth c D g A post (wp_Vd_markEvaluated post n) := by
  intro n
  induction n with
  | zero => exact ⟨fun _ _ _ _ _ _ _ _ _ _ h => h.elim, fun _ _ _ _ _ _ _ _ _ _ _ _ h => h.elim⟩
  | succ n ih => exact ⟨fun x1 x2 x3 x4 σ H locs ls hl hst h => b_Vd_markEvaluated_1 (F := wp_Vd_markEvaluated post n) C (ih.2) x1 x2 x3 x4 σ H locs ls hl hst h, fun x1 x2 x3 x4 x5 x6 σ H locs ls hl hst h => b_Vd_markEvaluated_2 (F := wp_Vd_markEvaluated post n) C (ih.1) (ih.2) x1 x2 x3 x4 x5 x6 σ H locs ls hl hst h⟩
set_option maxRecDepth 100000 in
set_option maxHeartbeats 4000000 in
theorem c_Vd_markEvaluated (l : Launch) {D : va_G} {g : Gm} {sz : Nat} (x1 : Int32) (x2 : Int32) {σ : Sg} {post : Sg → Prop} (h : wq_Vd_markEvaluated x1 x2 σ post) : Met l y_Vd_markEvaluated (.code y_Vd_markEvaluated k_Vd_markEvaluated 7 (none) :: GW) { frames := 4, cells := 0, slots := 0, locals := 102 } (PcW D vwCl (WS g) g (Zk g) σ sz [.ref (g.1 35), .int x1, .int x2]) (QvW D vwCl (WS g) post (va_A (WS g σ) sz)) 0 0 (va_A (WS g σ) sz) := by
  refine kw_entry (own := R_Vd) (by decide) rfl rfl (Nat.le_of_ble_eq_true rfl) ?_
  intro p e s m below meth c ls hsz C hin hl hst
  obtain ⟨n, h⟩ := h
  cases n with
  | zero => exact h.elim
  | succ n =>
    have ih := a_Vd_markEvaluated (l := l) (e := e) (below := below) (post := post) C n
    exact b_Vd_markEvaluated_0 (F := wp_Vd_markEvaluated post n) C (ih.1) x1 x2 σ _ _ ls hl hst h
