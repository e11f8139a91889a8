/-! SchemaDeskModel.stray ()V -/
abbrev k_Md_stray : ByteArray := prog_12_method_21_code
abbrev y_Md_stray : MethodName := ⟨"SchemaDeskModel", "stray", "()V"⟩
theorem d_Md_stray_0 : decode k_Md_stray 0 = .ok (.aload_n 0, 1) := by decide +kernel
theorem d_Md_stray_1 : decode k_Md_stray 1 = .ok (.invokevirtual 208, 3) := by decide +kernel
theorem d_Md_stray_4 : decode k_Md_stray 4 = .ok (.istore_n 1, 1) := by decide +kernel
theorem d_Md_stray_5 : decode k_Md_stray 5 = .ok (.aload_n 0, 1) := by decide +kernel
theorem d_Md_stray_6 : decode k_Md_stray 6 = .ok (.iload_n 1, 1) := by decide +kernel
theorem d_Md_stray_7 : decode k_Md_stray 7 = .ok (.bipush 123, 2) := by decide +kernel
theorem d_Md_stray_9 : decode k_Md_stray 9 = .ok (.if_icmp .eq 9, 3) := by decide +kernel
theorem d_Md_stray_12 : decode k_Md_stray 12 = .ok (.iload_n 1, 1) := by decide +kernel
theorem d_Md_stray_13 : decode k_Md_stray 13 = .ok (.bipush 91, 2) := by decide +kernel
theorem d_Md_stray_15 : decode k_Md_stray 15 = .ok (.if_icmp .ne 17, 3) := by decide +kernel
theorem d_Md_stray_18 : decode k_Md_stray 18 = .ok (.aload_n 0, 1) := by decide +kernel
theorem d_Md_stray_19 : decode k_Md_stray 19 = .ok (.getfield 212, 3) := by decide +kernel
theorem d_Md_stray_22 : decode k_Md_stray 22 = .ok (.bipush 8, 2) := by decide +kernel
theorem d_Md_stray_24 : decode k_Md_stray 24 = .ok (.if_icmp .ne 8, 3) := by decide +kernel
theorem d_Md_stray_27 : decode k_Md_stray 27 = .ok (.bipush 14, 2) := by decide +kernel
theorem d_Md_stray_29 : decode k_Md_stray 29 = .ok (.goto 4, 3) := by decide +kernel
theorem d_Md_stray_32 : decode k_Md_stray 32 = .ok (.iconst 3, 1) := by decide +kernel
theorem d_Md_stray_33 : decode k_Md_stray 33 = .ok (.aload_n 0, 1) := by decide +kernel
theorem d_Md_stray_34 : decode k_Md_stray 34 = .ok (.getfield 202, 3) := by decide +kernel
theorem d_Md_stray_37 : decode k_Md_stray 37 = .ok (.invokevirtual 221, 3) := by decide +kernel
theorem d_Md_stray_40 : decode k_Md_stray 40 = .ok (.aload_n 0, 1) := by decide +kernel
theorem d_Md_stray_41 : decode k_Md_stray 41 = .ok (.dup, 1) := by decide +kernel
theorem d_Md_stray_42 : decode k_Md_stray 42 = .ok (.getfield 202, 3) := by decide +kernel
theorem d_Md_stray_45 : decode k_Md_stray 45 = .ok (.iconst 1, 1) := by decide +kernel
theorem d_Md_stray_46 : decode k_Md_stray 46 = .ok (.iadd, 1) := by decide +kernel
theorem d_Md_stray_47 : decode k_Md_stray 47 = .ok (.putfield 202, 3) := by decide +kernel
theorem d_Md_stray_50 : decode k_Md_stray 50 = .ok (.return_, 1) := by decide +kernel
theorem gw1278 : (Jvm.Cond.methodLink "SchemaDeskModel" (221 : Nat) ({ cls := "SchemaDeskModel", name := "note", desc := "(II)V" } : Jvm.MethodName)) ∈ GW := gw_t6 (List.mem_of_getElem? (i := 78) rfl) rfl
theorem gw1280 : (Jvm.Cond.instanceMethod ({ cls := "SchemaDeskModel", name := "note", desc := "(II)V" } : Jvm.MethodName)) ∈ GW := gw_t6 (List.mem_of_getElem? (i := 80) rfl) rfl
theorem gs52 : Cond.selects "SchemaDeskModel" ⟨"SchemaDeskModel", "note", "(II)V"⟩ ⟨"SchemaDeskModel", "note", "(II)V"⟩ ∈ GW := gw_p4 (q := (⟨"SchemaDeskModel", "note", "(II)V"⟩, 46)) (List.mem_of_getElem? (i := 4) rfl)
theorem gw1281 : (Jvm.Cond.code ({ cls := "SchemaDeskModel", name := "note", desc := "(II)V" } : Jvm.MethodName) prog_12_method_16_code (3 : Nat) (Option.none : Option Jvm.ClassFile.FieldType)) ∈ GW := gw_t6 (List.mem_of_getElem? (i := 81) rfl) rfl
def wq_Md_stray (σ : Sg) (post : Sg → Prop) : Prop := (wq_Md_here  σ (fun r1 σ1 => ((r1 = (123 : Int32) → ((¬ (σ1.1 54 20) = (8 : Int32) → (wq_Md_note (3 : Int32) (σ1.1 54 19) σ1 (fun σ2 => (∀ σ3, σ3 = si σ2 54 19 ((σ2.1 54 19) + (1 : Int32)) → post σ3)))) ∧ ((σ1.1 54 20) = (8 : Int32) → (wq_Md_note (14 : Int32) (σ1.1 54 19) σ1 (fun σ2 => (∀ σ3, σ3 = si σ2 54 19 ((σ2.1 54 19) + (1 : Int32)) → post σ3)))))) ∧ (¬ r1 = (123 : Int32) → ((¬ r1 = (91 : Int32) → (wq_Md_note (3 : Int32) (σ1.1 54 19) σ1 (fun σ2 => (∀ σ3, σ3 = si σ2 54 19 ((σ2.1 54 19) + (1 : Int32)) → post σ3)))) ∧ (r1 = (91 : Int32) → ((¬ (σ1.1 54 20) = (8 : Int32) → (wq_Md_note (3 : Int32) (σ1.1 54 19) σ1 (fun σ2 => (∀ σ3, σ3 = si σ2 54 19 ((σ2.1 54 19) + (1 : Int32)) → post σ3)))) ∧ ((σ1.1 54 20) = (8 : Int32) → (wq_Md_note (14 : Int32) (σ1.1 54 19) σ1 (fun σ2 => (∀ σ3, σ3 = si σ2 54 19 ((σ2.1 54 19) + (1 : Int32)) → post σ3)))))))))))
set_option maxRecDepth 100000 in
set_option maxHeartbeats 4000000 in
theorem b_Md_stray_0 {p : Program} {l : Launch} {e : Env} {s : State} {m : MethodId} {args : Array Value} {below : List Frame} {meth : Method} {c : Code} {D : va_G} {g : Gm} {A : Nat → Prop} {post : Sg → Prop} (C : kC p s m args meth c k_Md_stray 2 (none) GW R_Md D vwCl g (Zk g) A) (σ : Sg) (H : Heap) (locs : List Loc) (ls : Array Slot) (hl : lv_has ls 2 [(0, .ref (g.1 54))]) (hst : Wst D vwCl (WS g) A s σ H locs) (h : wq_Md_stray  σ post) : W p l e { frames := 1, cells := 0, slots := 0, locals := 22 } s m args below meth c H locs 0 0 (MQ below (QvW D vwCl (WS g) post A) args s 0 0 A) (F0 m 0 ls []) := by
  obtain ⟨hx, hb, hr, hml, hown, hts, hlocks, hK, hZ, hA⟩ := C
  unfold wq_Md_stray at h
  refine lv_aload_n hx hb d_Md_stray_0 rfl (lv_at hl 0 rfl) ?_
  refine kw_calli (va_runV (As := []) (rest := []) (b := g.1 54) ⟨hx, hb, hml, hown, hts⟩ (c_Md_here l h) (cwV 0 hts (gd_v gw1260 gw1262 gs49 gw15 gw1263) rfl rfl rfl (by decide +kernel) ⟨Nat.le_of_ble_eq_true rfl, Nat.le_of_ble_eq_true rfl⟩) ⟨kw_blind (Zk_ok g), va_recv hK hst.1 rfl (WS_o54 g σ), kw_pre (Zk_ok g) hK hZ hA hst⟩ rfl rfl hl.1 rfl (lv_room (Nat.le_of_ble_eq_true rfl)) d_Md_stray_1 ⟨Nat.le_of_ble_eq_true rfl, Nat.le_of_ble_eq_true rfl⟩) hst hA (fun r1 σ1 H locs h hst => ?_)
  refine lv_istore_n hx hb d_Md_stray_4 rfl hl (by decide) rfl (fun ls hl => ?_)
  have hl : lv_has ls 2 [(1, .int r1), (0, .ref (g.1 54))] := hl
  refine lv_aload_n hx hb d_Md_stray_5 rfl (lv_at hl 1 rfl) ?_
  refine lv_iload_n hx hb d_Md_stray_6 rfl (lv_at hl 0 rfl) ?_
  refine lv_bipush (v := (123 : Int32)) hx hb d_Md_stray_7 (by decide) ?_
  refine lv_icmp_eq (tgt := 18) hx hb d_Md_stray_9 (by decide) (fun hc => ?_) (fun hc => ?_)
  · replace h := h.1 hc
    refine lv_aload_n hx hb d_Md_stray_18 rfl (lv_at hl 1 rfl) ?_
    refine va_get (D := D) (ci := 10) (C := R_Md) (T := T_Md) (N := 46) hx hb hts in_Md hown hK hst.1 54 (WS_o54 g σ1) rfl 20 (by decide) (hts _ gw1084) (fun _ h9 => h9) rfl d_Md_stray_19 ?_
    refine lv_bipush (v := (8 : Int32)) hx hb d_Md_stray_22 (by decide) ?_
    refine lv_icmp_ne (tgt := 32) hx hb d_Md_stray_24 (by decide) (fun hc => ?_) (fun hc => ?_)
    · replace h := h.1 hc
      refine lv_iconst (v := (3 : Int32)) hx hb d_Md_stray_32 (by decide) ?_
      refine lv_aload_n hx hb d_Md_stray_33 rfl (lv_at hl 1 rfl) ?_
      refine va_get (D := D) (ci := 10) (C := R_Md) (T := T_Md) (N := 46) hx hb hts in_Md hown hK hst.1 54 (WS_o54 g σ1) rfl 19 (by decide) (hts _ gw1083) (fun _ h9 => h9) rfl d_Md_stray_34 ?_
      refine kw_callv (va_runV (As := [.int (3 : Int32), .int (σ1.1 54 19)]) (rest := []) (b := g.1 54) ⟨hx, hb, hml, hown, hts⟩ (c_Md_note l (3 : Int32) (σ1.1 54 19) h) (cwV 2 hts (gd_v gw1278 gw1280 gs52 gw15 gw1281) rfl rfl rfl (by decide +kernel) ⟨Nat.le_of_ble_eq_true rfl, Nat.le_of_ble_eq_true rfl⟩) ⟨kw_blind (Zk_ok g), va_recv hK hst.1 rfl (WS_o54 g σ1), kw_pre (Zk_ok g) hK hZ hA hst⟩ rfl rfl hl.1 rfl (lv_room (Nat.le_of_ble_eq_true rfl)) d_Md_stray_37 ⟨Nat.le_of_ble_eq_true rfl, Nat.le_of_ble_eq_true rfl⟩) hst hA (fun σ2 H locs h hst => ?_)
      refine lv_aload_n hx hb d_Md_stray_40 rfl (lv_at hl 1 rfl) ?_
      refine lv_dup hx hb d_Md_stray_41 rfl ?_
      refine va_get (D := D) (ci := 10) (C := R_Md) (T := T_Md) (N := 46) hx hb hts in_Md hown hK hst.1 54 (WS_o54 g σ2) rfl 19 (by decide) (hts _ gw1083) (fun _ h9 => h9) rfl d_Md_stray_42 ?_
      refine lv_iconst (v := (1 : Int32)) hx hb d_Md_stray_45 (by decide) ?_
      refine lv_iadd hx hb d_Md_stray_46 ?_
      refine kw_put (D := D) (ci := 10) (ty := .int) (C := R_Md) (T := T_Md) (N := 46) hx hb hts in_Md ty_Md ty_Md_ok nm_Md hown hK hst 54 (WS_o54 g σ2) rfl 19 (by decide) (hts _ gw1083) (fun _ h9 => h9) rfl (by decide +kernel) rfl rfl (Nat.le_of_ble_eq_true rfl) (WS_p54_19 g σ2 _) d_Md_stray_47 (fun σ3 H locs e3 hst => ?_)
      replace h := h σ3 e3
      exact kw_vret hx hb hr hlocks hst h d_Md_stray_50
    · replace h := h.2 hc
      refine lv_bipush (v := (14 : Int32)) hx hb d_Md_stray_27 (by decide) ?_
      refine lv_goto (tgt := 33) hx hb d_Md_stray_29 (by decide) ?_
      refine lv_aload_n hx hb d_Md_stray_33 rfl (lv_at hl 1 rfl) ?_
      refine va_get (D := D) (ci := 10) (C := R_Md) (T := T_Md) (N := 46) hx hb hts in_Md hown hK hst.1 54 (WS_o54 g σ1) rfl 19 (by decide) (hts _ gw1083) (fun _ h9 => h9) rfl d_Md_stray_34 ?_
      refine kw_callv (va_runV (As := [.int (14 : Int32), .int (σ1.1 54 19)]) (rest := []) (b := g.1 54) ⟨hx, hb, hml, hown, hts⟩ (c_Md_note l (14 : Int32) (σ1.1 54 19) h) (cwV 2 hts (gd_v gw1278 gw1280 gs52 gw15 gw1281) rfl rfl rfl (by decide +kernel) ⟨Nat.le_of_ble_eq_true rfl, Nat.le_of_ble_eq_true rfl⟩) ⟨kw_blind (Zk_ok g), va_recv hK hst.1 rfl (WS_o54 g σ1), kw_pre (Zk_ok g) hK hZ hA hst⟩ rfl rfl hl.1 rfl (lv_room (Nat.le_of_ble_eq_true rfl)) d_Md_stray_37 ⟨Nat.le_of_ble_eq_true rfl, Nat.le_of_ble_eq_true rfl⟩) hst hA (fun σ2 H locs h hst => ?_)
      refine lv_aload_n hx hb d_Md_stray_40 rfl (lv_at hl 1 rfl) ?_
      refine lv_dup hx hb d_Md_stray_41 rfl ?_
      refine va_get (D := D) (ci := 10) (C := R_Md) (T := T_Md) (N := 46) hx hb hts in_Md hown hK hst.1 54 (WS_o54 g σ2) rfl 19 (by decide) (hts _ gw1083) (fun _ h9 => h9) rfl d_Md_stray_42 ?_
      refine lv_iconst (v := (1 : Int32)) hx hb d_Md_stray_45 (by decide) ?_
      refine lv_iadd hx hb d_Md_stray_46 ?_
      refine kw_put (D := D) (ci := 10) (ty := .int) (C := R_Md) (T := T_Md) (N := 46) hx hb hts in_Md ty_Md ty_Md_ok nm_Md hown hK hst 54 (WS_o54 g σ2) rfl 19 (by decide) (hts _ gw1083) (fun _ h9 => h9) rfl (by decide +kernel) rfl rfl (Nat.le_of_ble_eq_true rfl) (WS_p54_19 g σ2 _) d_Md_stray_47 (fun σ3 H locs e3 hst => ?_)
      replace h := h σ3 e3
      exact kw_vret hx hb hr hlocks hst h d_Md_stray_50
  · replace h := h.2 hc
    refine lv_iload_n hx hb d_Md_stray_12 rfl (lv_at hl 0 rfl) ?_
    refine lv_bipush (v := (91 : Int32)) hx hb d_Md_stray_13 (by decide) ?_
    refine lv_icmp_ne (tgt := 32) hx hb d_Md_stray_15 (by decide) (fun hc => ?_) (fun hc => ?_)
    · replace h := h.1 hc
      refine lv_iconst (v := (3 : Int32)) hx hb d_Md_stray_32 (by decide) ?_
      refine lv_aload_n hx hb d_Md_stray_33 rfl (lv_at hl 1 rfl) ?_
      refine va_get (D := D) (ci := 10) (C := R_Md) (T := T_Md) (N := 46) hx hb hts in_Md hown hK hst.1 54 (WS_o54 g σ1) rfl 19 (by decide) (hts _ gw1083) (fun _ h9 => h9) rfl d_Md_stray_34 ?_
      refine kw_callv (va_runV (As := [.int (3 : Int32), .int (σ1.1 54 19)]) (rest := []) (b := g.1 54) ⟨hx, hb, hml, hown, hts⟩ (c_Md_note l (3 : Int32) (σ1.1 54 19) h) (cwV 2 hts (gd_v gw1278 gw1280 gs52 gw15 gw1281) rfl rfl rfl (by decide +kernel) ⟨Nat.le_of_ble_eq_true rfl, Nat.le_of_ble_eq_true rfl⟩) ⟨kw_blind (Zk_ok g), va_recv hK hst.1 rfl (WS_o54 g σ1), kw_pre (Zk_ok g) hK hZ hA hst⟩ rfl rfl hl.1 rfl (lv_room (Nat.le_of_ble_eq_true rfl)) d_Md_stray_37 ⟨Nat.le_of_ble_eq_true rfl, Nat.le_of_ble_eq_true rfl⟩) hst hA (fun σ2 H locs h hst => ?_)
      refine lv_aload_n hx hb d_Md_stray_40 rfl (lv_at hl 1 rfl) ?_
      refine lv_dup hx hb d_Md_stray_41 rfl ?_
      refine va_get (D := D) (ci := 10) (C := R_Md) (T := T_Md) (N := 46) hx hb hts in_Md hown hK hst.1 54 (WS_o54 g σ2) rfl 19 (by decide) (hts _ gw1083) (fun _ h9 => h9) rfl d_Md_stray_42 ?_
      refine lv_iconst (v := (1 : Int32)) hx hb d_Md_stray_45 (by decide) ?_
      refine lv_iadd hx hb d_Md_stray_46 ?_
      refine kw_put (D := D) (ci := 10) (ty := .int) (C := R_Md) (T := T_Md) (N := 46) hx hb hts in_Md ty_Md ty_Md_ok nm_Md hown hK hst 54 (WS_o54 g σ2) rfl 19 (by decide) (hts _ gw1083) (fun _ h9 => h9) rfl (by decide +kernel) rfl rfl (Nat.le_of_ble_eq_true rfl) (WS_p54_19 g σ2 _) d_Md_stray_47 (fun σ3 H locs e3 hst => ?_)
      replace h := h σ3 e3
      exact kw_vret hx hb hr hlocks hst h d_Md_stray_50
    · replace h := h.2 hc
      refine lv_aload_n hx hb d_Md_stray_18 rfl (lv_at hl 1 rfl) ?_
      refine va_get (D := D) (ci := 10) (C := R_Md) (T := T_Md) (N := 46) hx hb hts in_Md hown hK hst.1 54 (WS_o54 g σ1) rfl 20 (by decide) (hts _ gw1084) (fun _ h9 => h9) rfl d_Md_stray_19 ?_
      refine lv_bipush (v := (8 : Int32)) hx hb d_Md_stray_22 (by decide) ?_
      refine lv_icmp_ne (tgt := 32) hx hb d_Md_stray_24 (by decide) (fun hc => ?_) (fun hc => ?_)
      · replace h := h.1 hc
        refine lv_iconst (v := (3 : Int32)) hx hb d_Md_stray_32 (by decide) ?_
        refine lv_aload_n hx hb d_Md_stray_33 rfl (lv_at hl 1 rfl) ?_
        refine va_get (D := D) (ci := 10) (C := R_Md) (T := T_Md) (N := 46) hx hb hts in_Md hown hK hst.1 54 (WS_o54 g σ1) rfl 19 (by decide) (hts _ gw1083) (fun _ h9 => h9) rfl d_Md_stray_34 ?_
        refine kw_callv (va_runV (As := [.int (3 : Int32), .int (σ1.1 54 19)]) (rest := []) (b := g.1 54) ⟨hx, hb, hml, hown, hts⟩ (c_Md_note l (3 : Int32) (σ1.1 54 19) h) (cwV 2 hts (gd_v gw1278 gw1280 gs52 gw15 gw1281) rfl rfl rfl (by decide +kernel) ⟨Nat.le_of_ble_eq_true rfl, Nat.le_of_ble_eq_true rfl⟩) ⟨kw_blind (Zk_ok g), va_recv hK hst.1 rfl (WS_o54 g σ1), kw_pre (Zk_ok g) hK hZ hA hst⟩ rfl rfl hl.1 rfl (lv_room (Nat.le_of_ble_eq_true rfl)) d_Md_stray_37 ⟨Nat.le_of_ble_eq_true rfl, Nat.le_of_ble_eq_true rfl⟩) hst hA (fun σ2 H locs h hst => ?_)
        refine lv_aload_n hx hb d_Md_stray_40 rfl (lv_at hl 1 rfl) ?_
        refine lv_dup hx hb d_Md_stray_41 rfl ?_
        refine va_get (D := D) (ci := 10) (C := R_Md) (T := T_Md) (N := 46) hx hb hts in_Md hown hK hst.1 54 (WS_o54 g σ2) rfl 19 (by decide) (hts _ gw1083) (fun _ h9 => h9) rfl d_Md_stray_42 ?_
        refine lv_iconst (v := (1 : Int32)) hx hb d_Md_stray_45 (by decide) ?_
        refine lv_iadd hx hb d_Md_stray_46 ?_
        refine kw_put (D := D) (ci := 10) (ty := .int) (C := R_Md) (T := T_Md) (N := 46) hx hb hts in_Md ty_Md ty_Md_ok nm_Md hown hK hst 54 (WS_o54 g σ2) rfl 19 (by decide) (hts _ gw1083) (fun _ h9 => h9) rfl (by decide +kernel) rfl rfl (Nat.le_of_ble_eq_true rfl) (WS_p54_19 g σ2 _) d_Md_stray_47 (fun σ3 H locs e3 hst => ?_)
        replace h := h σ3 e3
        exact kw_vret hx hb hr hlocks hst h d_Md_stray_50
      · replace h := h.2 hc
        refine lv_bipush (v := (14 : Int32)) hx hb d_Md_stray_27 (by decide) ?_
        refine lv_goto (tgt := 33) hx hb d_Md_stray_29 (by decide) ?_
        refine lv_aload_n hx hb d_Md_stray_33 rfl (lv_at hl 1 rfl) ?_
        refine va_get (D := D) (ci := 10) (C := R_Md) (T := T_Md) (N := 46) hx hb hts in_Md hown hK hst.1 54 (WS_o54 g σ1) rfl 19 (by decide) (hts _ gw1083) (fun _ h9 => h9) rfl d_Md_stray_34 ?_
        refine kw_callv (va_runV (As := [.int (14 : Int32), .int (σ1.1 54 19)]) (rest := []) (b := g.1 54) ⟨hx, hb, hml, hown, hts⟩ (c_Md_note l (14 : Int32) (σ1.1 54 19) h) (cwV 2 hts (gd_v gw1278 gw1280 gs52 gw15 gw1281) rfl rfl rfl (by decide +kernel) ⟨Nat.le_of_ble_eq_true rfl, Nat.le_of_ble_eq_true rfl⟩) ⟨kw_blind (Zk_ok g), va_recv hK hst.1 rfl (WS_o54 g σ1), kw_pre (Zk_ok g) hK hZ hA hst⟩ rfl rfl hl.1 rfl (lv_room (Nat.le_of_ble_eq_true rfl)) d_Md_stray_37 ⟨Nat.le_of_ble_eq_true rfl, Nat.le_of_ble_eq_true rfl⟩) hst hA (fun σ2 H locs h hst => ?_)
        refine lv_aload_n hx hb d_Md_stray_40 rfl (lv_at hl 1 rfl) ?_
        refine lv_dup hx hb d_Md_stray_41 rfl ?_
        refine va_get (D := D) (ci := 10) (C := R_Md) (T := T_Md) (N := 46) hx hb hts in_Md hown hK hst.1 54 (WS_o54 g σ2) rfl 19 (by decide) (hts _ gw1083) (fun _ h9 => h9) rfl d_Md_stray_42 ?_
        refine lv_iconst (v := (1 : Int32)) hx hb d_Md_stray_45 (by decide) ?_
        refine lv_iadd hx hb d_Md_stray_46 ?_
        refine kw_put (D := D) (ci := 10) (ty := .int) (C := R_Md) (T := T_Md) (N := 46) hx hb hts in_Md ty_Md ty_Md_ok nm_Md hown hK hst 54 (WS_o54 g σ2) rfl 19 (by decide) (hts _ gw1083) (fun _ h9 => h9) rfl (by decide +kernel) rfl rfl (Nat.le_of_ble_eq_true rfl) (WS_p54_19 g σ2 _) d_Md_stray_47 (fun σ3 H locs e3 hst => ?_)
        replace h := h σ3 e3
        exact kw_vret hx hb hr hlocks hst h d_Md_stray_50
set_option maxRecDepth 100000 in
set_option maxHeartbeats 4000000 in
theorem c_Md_stray (l : Launch) {D : va_G} {g : Gm} {sz : Nat} {σ : Sg} {post : Sg → Prop} (h : wq_Md_stray σ post) : Met l y_Md_stray (.code y_Md_stray k_Md_stray 2 (none) :: GW) { frames := 1, cells := 0, slots := 0, locals := 22 } (PcW D vwCl (WS g) g (Zk g) σ sz [.ref (g.1 54)]) (QvW D vwCl (WS g) post (va_A (WS g σ) sz)) 0 0 (va_A (WS g σ) sz) := by
  refine kw_entry (own := R_Md) (by decide) rfl rfl (Nat.le_of_ble_eq_true rfl) ?_
  intro p e s m below meth c ls hsz C hin hl hst
  exact b_Md_stray_0 C σ _ _ ls hl hst h
/-! SchemaDeskModel.quoted ()I -/
abbrev k_Md_quoted : ByteArray := prog_12_method_22_code
abbrev y_Md_quoted : MethodName := ⟨"SchemaDeskModel", "quoted", "()I"⟩
theorem d_Md_quoted_0 : decode k_Md_quoted 0 = .ok (.aload_n 0, 1) := by decide +kernel
theorem d_Md_quoted_1 : decode k_Md_quoted 1 = .ok (.getfield 202, 3) := by decide +kernel
theorem d_Md_quoted_4 : decode k_Md_quoted 4 = .ok (.istore_n 1, 1) := by decide +kernel
theorem d_Md_quoted_5 : decode k_Md_quoted 5 = .ok (.aload_n 0, 1) := by decide +kernel
theorem d_Md_quoted_6 : decode k_Md_quoted 6 = .ok (.dup, 1) := by decide +kernel
theorem d_Md_quoted_7 : decode k_Md_quoted 7 = .ok (.getfield 202, 3) := by decide +kernel
theorem d_Md_quoted_10 : decode k_Md_quoted 10 = .ok (.iconst 1, 1) := by decide +kernel
theorem d_Md_quoted_11 : decode k_Md_quoted 11 = .ok (.iadd, 1) := by decide +kernel
theorem d_Md_quoted_12 : decode k_Md_quoted 12 = .ok (.putfield 202, 3) := by decide +kernel
theorem d_Md_quoted_15 : decode k_Md_quoted 15 = .ok (.aload_n 0, 1) := by decide +kernel
theorem d_Md_quoted_16 : decode k_Md_quoted 16 = .ok (.getfield 202, 3) := by decide +kernel
theorem d_Md_quoted_19 : decode k_Md_quoted 19 = .ok (.aload_n 0, 1) := by decide +kernel
theorem d_Md_quoted_20 : decode k_Md_quoted 20 = .ok (.getfield 71, 3) := by decide +kernel
theorem d_Md_quoted_23 : decode k_Md_quoted 23 = .ok (.aload_n 0, 1) := by decide +kernel
theorem d_Md_quoted_24 : decode k_Md_quoted 24 = .ok (.getfield 205, 3) := by decide +kernel
theorem d_Md_quoted_27 : decode k_Md_quoted 27 = .ok (.iaload, 1) := by decide +kernel
theorem d_Md_quoted_28 : decode k_Md_quoted 28 = .ok (.if_icmp .ge 25, 3) := by decide +kernel
theorem d_Md_quoted_31 : decode k_Md_quoted 31 = .ok (.aload_n 0, 1) := by decide +kernel
theorem d_Md_quoted_32 : decode k_Md_quoted 32 = .ok (.invokevirtual 208, 3) := by decide +kernel
theorem d_Md_quoted_35 : decode k_Md_quoted 35 = .ok (.bipush 34, 2) := by decide +kernel
theorem d_Md_quoted_37 : decode k_Md_quoted 37 = .ok (.if_icmp .eq 16, 3) := by decide +kernel
theorem d_Md_quoted_40 : decode k_Md_quoted 40 = .ok (.aload_n 0, 1) := by decide +kernel
theorem d_Md_quoted_41 : decode k_Md_quoted 41 = .ok (.dup, 1) := by decide +kernel
theorem d_Md_quoted_42 : decode k_Md_quoted 42 = .ok (.getfield 202, 3) := by decide +kernel
theorem d_Md_quoted_45 : decode k_Md_quoted 45 = .ok (.iconst 1, 1) := by decide +kernel
theorem d_Md_quoted_46 : decode k_Md_quoted 46 = .ok (.iadd, 1) := by decide +kernel
theorem d_Md_quoted_47 : decode k_Md_quoted 47 = .ok (.putfield 202, 3) := by decide +kernel
theorem d_Md_quoted_50 : decode k_Md_quoted 50 = .ok (.goto (-35), 3) := by decide +kernel
theorem d_Md_quoted_53 : decode k_Md_quoted 53 = .ok (.aload_n 0, 1) := by decide +kernel
theorem d_Md_quoted_54 : decode k_Md_quoted 54 = .ok (.getfield 202, 3) := by decide +kernel
theorem d_Md_quoted_57 : decode k_Md_quoted 57 = .ok (.istore_n 2, 1) := by decide +kernel
theorem d_Md_quoted_58 : decode k_Md_quoted 58 = .ok (.aload_n 0, 1) := by decide +kernel
theorem d_Md_quoted_59 : decode k_Md_quoted 59 = .ok (.getfield 202, 3) := by decide +kernel
theorem d_Md_quoted_62 : decode k_Md_quoted 62 = .ok (.aload_n 0, 1) := by decide +kernel
theorem d_Md_quoted_63 : decode k_Md_quoted 63 = .ok (.getfield 71, 3) := by decide +kernel
theorem d_Md_quoted_66 : decode k_Md_quoted 66 = .ok (.aload_n 0, 1) := by decide +kernel
theorem d_Md_quoted_67 : decode k_Md_quoted 67 = .ok (.getfield 205, 3) := by decide +kernel
theorem d_Md_quoted_70 : decode k_Md_quoted 70 = .ok (.iaload, 1) := by decide +kernel
theorem d_Md_quoted_71 : decode k_Md_quoted 71 = .ok (.if_icmp .ge 16, 3) := by decide +kernel
theorem d_Md_quoted_74 : decode k_Md_quoted 74 = .ok (.aload_n 0, 1) := by decide +kernel
theorem d_Md_quoted_75 : decode k_Md_quoted 75 = .ok (.dup, 1) := by decide +kernel
theorem d_Md_quoted_76 : decode k_Md_quoted 76 = .ok (.getfield 202, 3) := by decide +kernel
theorem d_Md_quoted_79 : decode k_Md_quoted 79 = .ok (.iconst 1, 1) := by decide +kernel
theorem d_Md_quoted_80 : decode k_Md_quoted 80 = .ok (.iadd, 1) := by decide +kernel
theorem d_Md_quoted_81 : decode k_Md_quoted 81 = .ok (.putfield 202, 3) := by decide +kernel
theorem d_Md_quoted_84 : decode k_Md_quoted 84 = .ok (.goto 9, 3) := by decide +kernel
theorem d_Md_quoted_87 : decode k_Md_quoted 87 = .ok (.aload_n 0, 1) := by decide +kernel
theorem d_Md_quoted_88 : decode k_Md_quoted 88 = .ok (.iconst 4, 1) := by decide +kernel
theorem d_Md_quoted_89 : decode k_Md_quoted 89 = .ok (.iload_n 1, 1) := by decide +kernel
theorem d_Md_quoted_90 : decode k_Md_quoted 90 = .ok (.invokevirtual 221, 3) := by decide +kernel
theorem d_Md_quoted_93 : decode k_Md_quoted 93 = .ok (.iload_n 2, 1) := by decide +kernel
theorem d_Md_quoted_94 : decode k_Md_quoted 94 = .ok (.ireturn, 1) := by decide +kernel
def wb_Md_quoted_0 (F : Nat → Int32 → Sg → Prop) (post : Int32 → Sg → Prop) (σ : Sg) : Prop := (∀ σ1, σ1 = si σ 54 19 ((σ.1 54 19) + (1 : Int32)) → F 1 (σ.1 54 19) σ1)
def wb_Md_quoted_1 (F : Nat → Int32 → Sg → Prop) (post : Int32 → Sg → Prop) (x1 : Int32) (σ : Sg) : Prop := (vp_in (σ.1 54 18) 2 ∧ (((σ.1 57 ((σ.1 54 18) : Int32).toNatClampNeg) ≤ (σ.1 54 19) → F 2 x1 σ) ∧ (¬ (σ.1 57 ((σ.1 54 18) : Int32).toNatClampNeg) ≤ (σ.1 54 19) → (wq_Md_here  σ (fun r1 σ1 => ((r1 = (34 : Int32) → F 2 x1 σ1) ∧ (¬ r1 = (34 : Int32) → (∀ σ2, σ2 = si σ1 54 19 ((σ1.1 54 19) + (1 : Int32)) → F 1 x1 σ2))))))))
def wb_Md_quoted_2 (F : Nat → Int32 → Sg → Prop) (post : Int32 → Sg → Prop) (x1 : Int32) (σ : Sg) : Prop := (vp_in (σ.1 54 18) 2 ∧ (((σ.1 57 ((σ.1 54 18) : Int32).toNatClampNeg) ≤ (σ.1 54 19) → (wq_Md_note (4 : Int32) x1 σ (fun σ1 => post (σ.1 54 19) σ1))) ∧ (¬ (σ.1 57 ((σ.1 54 18) : Int32).toNatClampNeg) ≤ (σ.1 54 19) → (∀ σ1, σ1 = si σ 54 19 ((σ.1 54 19) + (1 : Int32)) → post (σ.1 54 19) σ1))))
def wp_Md_quoted (post : Int32 → Sg → Prop) : Nat → Nat → Int32 → Sg → Prop
  | 0, _, _, _ => False
  | n + 1, k, x1, σ => match k with
    | 0 => wb_Md_quoted_0 (wp_Md_quoted post n) post σ
    | 1 => wb_Md_quoted_1 (wp_Md_quoted post n) post x1 σ
    | 2 => wb_Md_quoted_2 (wp_Md_quoted post n) post x1 σ
    | _ => False
def wq_Md_quoted (σ : Sg) (post : Int32 → Sg → Prop) : Prop := ∃ n, wp_Md_quoted post n 0 0 σ
def J_Md_quoted_1 (p : Program) (l : Launch) (e : Env) (s : State) (m : MethodId) (args : Array Value) (below : List Frame) (meth : Method) (c : Code) (D : va_G) (g : Gm) (A : Nat → Prop) (post : Int32 → Sg → Prop) (F : Nat → Int32 → Sg → Prop) : Prop := ∀ (x1 : Int32) (σ : Sg) (H : Heap) (locs : List Loc) (ls : Array Slot), lv_has ls 3 [(0, .ref (g.1 54)), (1, .int x1)] → Wst D vwCl (WS g) A s σ H locs → F 1 x1 σ → W p l e { frames := 1, cells := 0, slots := 0, locals := 22 } s m args below meth c H locs 0 0 (MQ below (QiW D vwCl (WS g) post A) args s 0 0 A) (F0 m 15 ls [])
def J_Md_quoted_2 (p : Program) (l : Launch) (e : Env) (s : State) (m : MethodId) (args : Array Value) (below : List Frame) (meth : Method) (c : Code) (D : va_G) (g : Gm) (A : Nat → Prop) (post : Int32 → Sg → Prop) (F : Nat → Int32 → Sg → Prop) : Prop := ∀ (x1 : Int32) (σ : Sg) (H : Heap) (locs : List Loc) (ls : Array Slot), lv_has ls 3 [(0, .ref (g.1 54)), (1, .int x1)] → Wst D vwCl (WS g) A s σ H locs → F 2 x1 σ → W p l e { frames := 1, cells := 0, slots := 0, locals := 22 } s m args below meth c H locs 0 0 (MQ below (QiW D vwCl (WS g) post A) args s 0 0 A) (F0 m 53 ls [])
set_option maxRecDepth 100000 in
set_option maxHeartbeats 4000000 in
theorem b_Md_quoted_0 {p : Program} {l : Launch} {e : Env} {s : State} {m : MethodId} {args : Array Value} {below : List Frame} {meth : Method} {c : Code} {D : va_G} {g : Gm} {A : Nat → Prop} {post : Int32 → Sg → Prop} {F : Nat → Int32 → Sg → Prop} (C : kC p s m args meth c k_Md_quoted 3 (some .int) GW R_Md D vwCl g (Zk g) A) (j1 : J_Md_quoted_1 p l e s m args below meth c D g A post F) (σ : Sg) (H : Heap) (locs : List Loc) (ls : Array Slot) (hl : lv_has ls 3 [(0, .ref (g.1 54))]) (hst : Wst D vwCl (WS g) A s σ H locs) (h : wb_Md_quoted_0 F post σ) : W p l e { frames := 1, cells := 0, slots := 0, locals := 22 } s m args below meth c H locs 0 0 (MQ below (QiW D vwCl (WS g) post A) args s 0 0 A) (F0 m 0 ls []) := by
  obtain ⟨hx, hb, hr, hml, hown, hts, hlocks, hK, hZ, hA⟩ := C
  unfold wb_Md_quoted_0 at h
  refine lv_aload_n hx hb d_Md_quoted_0 rfl (lv_at hl 0 rfl) ?_
  refine va_get (D := D) (ci := 10) (C := R_Md) (T := T_Md) (N := 46) hx hb hts in_Md hown hK hst.1 54 (WS_o54 g σ) rfl 19 (by decide) (hts _ gw1083) (fun _ h9 => h9) rfl d_Md_quoted_1 ?_
  refine lv_istore_n hx hb d_Md_quoted_4 rfl hl (by decide) rfl (fun ls hl => ?_)
  have hl : lv_has ls 3 [(1, .int (σ.1 54 19)), (0, .ref (g.1 54))] := hl
  refine lv_aload_n hx hb d_Md_quoted_5 rfl (lv_at hl 1 rfl) ?_
  refine lv_dup hx hb d_Md_quoted_6 rfl ?_
  refine va_get (D := D) (ci := 10) (C := R_Md) (T := T_Md) (N := 46) hx hb hts in_Md hown hK hst.1 54 (WS_o54 g σ) rfl 19 (by decide) (hts _ gw1083) (fun _ h9 => h9) rfl d_Md_quoted_7 ?_
  refine lv_iconst (v := (1 : Int32)) hx hb d_Md_quoted_10 (by decide) ?_
  refine lv_iadd hx hb d_Md_quoted_11 ?_
  refine kw_put (D := D) (ci := 10) (ty := .int) (C := R_Md) (T := T_Md) (N := 46) hx hb hts in_Md ty_Md ty_Md_ok nm_Md hown hK hst 54 (WS_o54 g σ) rfl 19 (by decide) (hts _ gw1083) (fun _ h9 => h9) rfl (by decide +kernel) rfl rfl (Nat.le_of_ble_eq_true rfl) (WS_p54_19 g σ _) d_Md_quoted_12 (fun σ1 H locs e1 hst => ?_)
  replace h := h σ1 e1
  exact j1 (σ.1 54 19) σ1 _ _ _ (lv_sub hl [1, 0] rfl) hst h
set_option maxRecDepth 100000 in
set_option maxHeartbeats 4000000 in
theorem b_Md_quoted_1 {p : Program} {l : Launch} {e : Env} {s : State} {m : MethodId} {args : Array Value} {below : List Frame} {meth : Method} {c : Code} {D : va_G} {g : Gm} {A : Nat → Prop} {post : Int32 → Sg → Prop} {F : Nat → Int32 → Sg → Prop} (C : kC p s m args meth c k_Md_quoted 3 (some .int) GW R_Md D vwCl g (Zk g) A) (j1 : J_Md_quoted_1 p l e s m args below meth c D g A post F) (j2 : J_Md_quoted_2 p l e s m args below meth c D g A post F) (x1 : Int32) (σ : Sg) (H : Heap) (locs : List Loc) (ls : Array Slot) (hl : lv_has ls 3 [(0, .ref (g.1 54)), (1, .int x1)]) (hst : Wst D vwCl (WS g) A s σ H locs) (h : wb_Md_quoted_1 F post x1 σ) : W p l e { frames := 1, cells := 0, slots := 0, locals := 22 } s m args below meth c H locs 0 0 (MQ below (QiW D vwCl (WS g) post A) args s 0 0 A) (F0 m 15 ls []) := by
  obtain ⟨hx, hb, hr, hml, hown, hts, hlocks, hK, hZ, hA⟩ := C
  unfold wb_Md_quoted_1 at h
  refine lv_aload_n hx hb d_Md_quoted_15 rfl (lv_at hl 0 rfl) ?_
  refine va_get (D := D) (ci := 10) (C := R_Md) (T := T_Md) (N := 46) hx hb hts in_Md hown hK hst.1 54 (WS_o54 g σ) rfl 19 (by decide) (hts _ gw1083) (fun _ h9 => h9) rfl d_Md_quoted_16 ?_
  refine lv_aload_n hx hb d_Md_quoted_19 rfl (lv_at hl 0 rfl) ?_
  refine va_get (D := D) (ci := 10) (C := R_Md) (T := T_Md) (N := 46) hx hb hts in_Md hown hK hst.1 54 (WS_o54 g σ) rfl 3 (by decide) (hts _ gw1067) (fun _ h9 => h9) rfl d_Md_quoted_20 ?_
  refine lv_aload_n hx hb d_Md_quoted_23 rfl (lv_at hl 0 rfl) ?_
  refine va_get (D := D) (ci := 10) (C := R_Md) (T := T_Md) (N := 46) hx hb hts in_Md hown hK hst.1 54 (WS_o54 g σ) rfl 18 (by decide) (hts _ gw1082) (fun _ h9 => h9) rfl d_Md_quoted_24 ?_
  obtain ⟨hi, h⟩ := h
  refine va_iald hx hb hK hst.1 57 0 (WS_a57 g σ) rfl hi d_Md_quoted_27 ?_
  refine lv_icmp_ge (tgt := 53) hx hb d_Md_quoted_28 (by decide) (fun hc => ?_) (fun hc => ?_)
  · replace h := h.1 hc
    exact j2 x1 σ _ _ _ (lv_sub hl [0, 1] rfl) hst h
  · replace h := h.2 hc
    refine lv_aload_n hx hb d_Md_quoted_31 rfl (lv_at hl 0 rfl) ?_
    refine kw_calli (va_runV (As := []) (rest := []) (b := g.1 54) ⟨hx, hb, hml, hown, hts⟩ (c_Md_here l h) (cwV 0 hts (gd_v gw1260 gw1262 gs49 gw15 gw1263) rfl rfl rfl (by decide +kernel) ⟨Nat.le_of_ble_eq_true rfl, Nat.le_of_ble_eq_true rfl⟩) ⟨kw_blind (Zk_ok g), va_recv hK hst.1 rfl (WS_o54 g σ), kw_pre (Zk_ok g) hK hZ hA hst⟩ rfl rfl hl.1 rfl (lv_room (Nat.le_of_ble_eq_true rfl)) d_Md_quoted_32 ⟨Nat.le_of_ble_eq_true rfl, Nat.le_of_ble_eq_true rfl⟩) hst hA (fun r1 σ1 H locs h hst => ?_)
    refine lv_bipush (v := (34 : Int32)) hx hb d_Md_quoted_35 (by decide) ?_
    refine lv_icmp_eq (tgt := 53) hx hb d_Md_quoted_37 (by decide) (fun hc => ?_) (fun hc => ?_)
    · replace h := h.1 hc
      exact j2 x1 σ1 _ _ _ (lv_sub hl [0, 1] rfl) hst h
    · replace h := h.2 hc
      refine lv_aload_n hx hb d_Md_quoted_40 rfl (lv_at hl 0 rfl) ?_
      refine lv_dup hx hb d_Md_quoted_41 rfl ?_
      refine va_get (D := D) (ci := 10) (C := R_Md) (T := T_Md) (N := 46) hx hb hts in_Md hown hK hst.1 54 (WS_o54 g σ1) rfl 19 (by decide) (hts _ gw1083) (fun _ h9 => h9) rfl d_Md_quoted_42 ?_
      refine lv_iconst (v := (1 : Int32)) hx hb d_Md_quoted_45 (by decide) ?_
      refine lv_iadd hx hb d_Md_quoted_46 ?_
      refine kw_put (D := D) (ci := 10) (ty := .int) (C := R_Md) (T := T_Md) (N := 46) hx hb hts in_Md ty_Md ty_Md_ok nm_Md hown hK hst 54 (WS_o54 g σ1) rfl 19 (by decide) (hts _ gw1083) (fun _ h9 => h9) rfl (by decide +kernel) rfl rfl (Nat.le_of_ble_eq_true rfl) (WS_p54_19 g σ1 _) d_Md_quoted_47 (fun σ2 H locs e2 hst => ?_)
      replace h := h σ2 e2
      refine lv_goto (tgt := 15) hx hb d_Md_quoted_50 (by decide) ?_
      exact j1 x1 σ2 _ _ _ (lv_sub hl [0, 1] rfl) hst h
set_option maxRecDepth 100000 in
set_option maxHeartbeats 4000000 in
theorem b_Md_quoted_2 {p : Program} {l : Launch} {e : Env} {s : State} {m : MethodId} {args : Array Value} {below : List Frame} {meth : Method} {c : Code} {D : va_G} {g : Gm} {A : Nat → Prop} {post : Int32 → Sg → Prop} {F : Nat → Int32 → Sg → Prop} (C : kC p s m args meth c k_Md_quoted 3 (some .int) GW R_Md D vwCl g (Zk g) A) (x1 : Int32) (σ : Sg) (H : Heap) (locs : List Loc) (ls : Array Slot) (hl : lv_has ls 3 [(0, .ref (g.1 54)), (1, .int x1)]) (hst : Wst D vwCl (WS g) A s σ H locs) (h : wb_Md_quoted_2 F post x1 σ) : W p l e { frames := 1, cells := 0, slots := 0, locals := 22 } s m args below meth c H locs 0 0 (MQ below (QiW D vwCl (WS g) post A) args s 0 0 A) (F0 m 53 ls []) := by
  obtain ⟨hx, hb, hr, hml, hown, hts, hlocks, hK, hZ, hA⟩ := C
  unfold wb_Md_quoted_2 at h
  refine lv_aload_n hx hb d_Md_quoted_53 rfl (lv_at hl 0 rfl) ?_
  refine va_get (D := D) (ci := 10) (C := R_Md) (T := T_Md) (N := 46) hx hb hts in_Md hown hK hst.1 54 (WS_o54 g σ) rfl 19 (by decide) (hts _ gw1083) (fun _ h9 => h9) rfl d_Md_quoted_54 ?_
  refine lv_istore_n hx hb d_Md_quoted_57 rfl hl (by decide) rfl (fun ls hl => ?_)
  have hl : lv_has ls 3 [(2, .int (σ.1 54 19)), (0, .ref (g.1 54)), (1, .int x1)] := hl
  refine lv_aload_n hx hb d_Md_quoted_58 rfl (lv_at hl 1 rfl) ?_
  refine va_get (D := D) (ci := 10) (C := R_Md) (T := T_Md) (N := 46) hx hb hts in_Md hown hK hst.1 54 (WS_o54 g σ) rfl 19 (by decide) (hts _ gw1083) (fun _ h9 => h9) rfl d_Md_quoted_59 ?_
  refine lv_aload_n hx hb d_Md_quoted_62 rfl (lv_at hl 1 rfl) ?_
  refine va_get (D := D) (ci := 10) (C := R_Md) (T := T_Md) (N := 46) hx hb hts in_Md hown hK hst.1 54 (WS_o54 g σ) rfl 3 (by decide) (hts _ gw1067) (fun _ h9 => h9) rfl d_Md_quoted_63 ?_
  refine lv_aload_n hx hb d_Md_quoted_66 rfl (lv_at hl 1 rfl) ?_
  refine va_get (D := D) (ci := 10) (C := R_Md) (T := T_Md) (N := 46) hx hb hts in_Md hown hK hst.1 54 (WS_o54 g σ) rfl 18 (by decide) (hts _ gw1082) (fun _ h9 => h9) rfl d_Md_quoted_67 ?_
  obtain ⟨hi, h⟩ := h
  refine va_iald hx hb hK hst.1 57 0 (WS_a57 g σ) rfl hi d_Md_quoted_70 ?_
  refine lv_icmp_ge (tgt := 87) hx hb d_Md_quoted_71 (by decide) (fun hc => ?_) (fun hc => ?_)
  · replace h := h.1 hc
    refine lv_aload_n hx hb d_Md_quoted_87 rfl (lv_at hl 1 rfl) ?_
    refine lv_iconst (v := (4 : Int32)) hx hb d_Md_quoted_88 (by decide) ?_
    refine lv_iload_n hx hb d_Md_quoted_89 rfl (lv_at hl 2 rfl) ?_
    refine kw_callv (va_runV (As := [.int (4 : Int32), .int x1]) (rest := []) (b := g.1 54) ⟨hx, hb, hml, hown, hts⟩ (c_Md_note l (4 : Int32) x1 h) (cwV 2 hts (gd_v gw1278 gw1280 gs52 gw15 gw1281) rfl rfl rfl (by decide +kernel) ⟨Nat.le_of_ble_eq_true rfl, Nat.le_of_ble_eq_true rfl⟩) ⟨kw_blind (Zk_ok g), va_recv hK hst.1 rfl (WS_o54 g σ), kw_pre (Zk_ok g) hK hZ hA hst⟩ rfl rfl hl.1 rfl (lv_room (Nat.le_of_ble_eq_true rfl)) d_Md_quoted_90 ⟨Nat.le_of_ble_eq_true rfl, Nat.le_of_ble_eq_true rfl⟩) hst hA (fun σ1 H locs h hst => ?_)
    refine lv_iload_n hx hb d_Md_quoted_93 rfl (lv_at hl 0 rfl) ?_
    exact kw_iret hx hb hr hlocks hst h d_Md_quoted_94
  · replace h := h.2 hc
    refine lv_aload_n hx hb d_Md_quoted_74 rfl (lv_at hl 1 rfl) ?_
    refine lv_dup hx hb d_Md_quoted_75 rfl ?_
    refine va_get (D := D) (ci := 10) (C := R_Md) (T := T_Md) (N := 46) hx hb hts in_Md hown hK hst.1 54 (WS_o54 g σ) rfl 19 (by decide) (hts _ gw1083) (fun _ h9 => h9) rfl d_Md_quoted_76 ?_
    refine lv_iconst (v := (1 : Int32)) hx hb d_Md_quoted_79 (by decide) ?_
    refine lv_iadd hx hb d_Md_quoted_80 ?_
    refine kw_put (D := D) (ci := 10) (ty := .int) (C := R_Md) (T := T_Md) (N := 46) hx hb hts in_Md ty_Md ty_Md_ok nm_Md hown hK hst 54 (WS_o54 g σ) rfl 19 (by decide) (hts _ gw1083) (fun _ h9 => h9) rfl (by decide +kernel) rfl rfl (Nat.le_of_ble_eq_true rfl) (WS_p54_19 g σ _) d_Md_quoted_81 (fun σ1 H locs e1 hst => ?_)
    replace h := h σ1 e1
    refine lv_goto (tgt := 93) hx hb d_Md_quoted_84 (by decide) ?_
    refine lv_iload_n hx hb d_Md_quoted_93 rfl (lv_at hl 0 rfl) ?_
    exact kw_iret hx hb hr hlocks hst h d_Md_quoted_94
set_option maxRecDepth 100000 in
set_option maxHeartbeats 4000000 in
theorem a_Md_quoted {p : Program} {l : Launch} {e : Env} {s : State} {m : MethodId} {args : Array Value} {below : List Frame} {meth : Method} {c : Code} {D : va_G} {g : Gm} {A : Nat → Prop} {post : Int32 → Sg → Prop} (C : kC p s m args meth c k_Md_quoted 3 (some .int) GW R_Md D vwCl g (Zk g) A) : ∀ n : Nat, J_Md_quoted_1 p l e s m args below meth c D g A post (wp_Md_quoted post n) ∧ J_Md_quoted_2 p l e s m args below meth c D g A post (wp_Md_quoted post n) := by
  intro n
  induction n with
  | zero => exact ⟨fun _ _ _ _ _ _ _ h => h.elim, fun _ _ _ _ _ _ _ h => h.elim⟩
  | succ n ih => exact ⟨fun x1 σ H locs ls hl hst h => b_Md_quoted_1 (F := wp_Md_quoted post n) C (ih.1) (ih.2) x1 σ H locs ls hl hst h, fun x1 σ H locs ls hl hst h => b_Md_quoted_2 (F := wp_Md_quoted post n) C x1 σ H locs ls hl hst h⟩
set_option maxRecDepth 100000 in
set_option maxHeartbeats 4000000 in
theorem c_Md_quoted (l : Launch) {D : va_G} {g : Gm} {sz : Nat} {σ : Sg} {post : Int32 → Sg → Prop} (h : wq_Md_quoted σ post) : Met l y_Md_quoted (.code y_Md_quoted k_Md_quoted 3 (some .int) :: GW) { frames := 1, cells := 0, slots := 0, locals := 22 } (PcW D vwCl (WS g) g (Zk g) σ sz [.ref (g.1 54)]) (QiW D vwCl (WS g) post (va_A (WS g σ) sz)) 0 0 (va_A (WS g σ) sz) := by
  refine kw_entry (own := R_Md) (by decide) rfl rfl (Nat.le_of_ble_eq_true rfl) ?_
  intro p e s m below meth c ls hsz C hin hl hst
  obtain ⟨n, h⟩ := h
  cases n with
  | zero => exact h.elim
  | succ n =>
    have ih := a_Md_quoted (l := l) (e := e) (below := below) (post := post) C n
    exact b_Md_quoted_0 (F := wp_Md_quoted post n) C (ih.1) σ _ _ ls hl hst h
/-! SchemaDeskModel.begin (II)I -/
abbrev k_Md_begin : ByteArray := prog_12_method_23_code
abbrev y_Md_begin : MethodName := ⟨"SchemaDeskModel", "begin", "(II)I"⟩
theorem d_Md_begin_0 : decode k_Md_begin 0 = .ok (.sipush 160, 3) := by decide +kernel
theorem d_Md_begin_3 : decode k_Md_begin 3 = .ok (.aload_n 0, 1) := by decide +kernel
theorem d_Md_begin_4 : decode k_Md_begin 4 = .ok (.getfield 205, 3) := by decide +kernel
theorem d_Md_begin_7 : decode k_Md_begin 7 = .ok (.imul, 1) := by decide +kernel
theorem d_Md_begin_8 : decode k_Md_begin 8 = .ok (.aload_n 0, 1) := by decide +kernel
theorem d_Md_begin_9 : decode k_Md_begin 9 = .ok (.getfield 74, 3) := by decide +kernel
theorem d_Md_begin_12 : decode k_Md_begin 12 = .ok (.aload_n 0, 1) := by decide +kernel
theorem d_Md_begin_13 : decode k_Md_begin 13 = .ok (.getfield 205, 3) := by decide +kernel
theorem d_Md_begin_16 : decode k_Md_begin 16 = .ok (.iaload, 1) := by decide +kernel
theorem d_Md_begin_17 : decode k_Md_begin 17 = .ok (.iadd, 1) := by decide +kernel
theorem d_Md_begin_18 : decode k_Md_begin 18 = .ok (.istore_n 3, 1) := by decide +kernel
theorem d_Md_begin_19 : decode k_Md_begin 19 = .ok (.aload_n 0, 1) := by decide +kernel
theorem d_Md_begin_20 : decode k_Md_begin 20 = .ok (.getfield 74, 3) := by decide +kernel
theorem d_Md_begin_23 : decode k_Md_begin 23 = .ok (.aload_n 0, 1) := by decide +kernel
theorem d_Md_begin_24 : decode k_Md_begin 24 = .ok (.getfield 205, 3) := by decide +kernel
theorem d_Md_begin_27 : decode k_Md_begin 27 = .ok (.dup2, 1) := by decide +kernel
theorem d_Md_begin_28 : decode k_Md_begin 28 = .ok (.iaload, 1) := by decide +kernel
theorem d_Md_begin_29 : decode k_Md_begin 29 = .ok (.iconst 1, 1) := by decide +kernel
theorem d_Md_begin_30 : decode k_Md_begin 30 = .ok (.iadd, 1) := by decide +kernel
theorem d_Md_begin_31 : decode k_Md_begin 31 = .ok (.iastore, 1) := by decide +kernel
theorem d_Md_begin_32 : decode k_Md_begin 32 = .ok (.aload_n 0, 1) := by decide +kernel
theorem d_Md_begin_33 : decode k_Md_begin 33 = .ok (.getfield 77, 3) := by decide +kernel
theorem d_Md_begin_36 : decode k_Md_begin 36 = .ok (.iload_n 3, 1) := by decide +kernel
theorem d_Md_begin_37 : decode k_Md_begin 37 = .ok (.iconst 0, 1) := by decide +kernel
theorem d_Md_begin_38 : decode k_Md_begin 38 = .ok (.iastore, 1) := by decide +kernel
theorem d_Md_begin_39 : decode k_Md_begin 39 = .ok (.aload_n 0, 1) := by decide +kernel
theorem d_Md_begin_40 : decode k_Md_begin 40 = .ok (.getfield 80, 3) := by decide +kernel
theorem d_Md_begin_43 : decode k_Md_begin 43 = .ok (.iload_n 3, 1) := by decide +kernel
theorem d_Md_begin_44 : decode k_Md_begin 44 = .ok (.aload_n 0, 1) := by decide +kernel
theorem d_Md_begin_45 : decode k_Md_begin 45 = .ok (.getfield 202, 3) := by decide +kernel
theorem d_Md_begin_48 : decode k_Md_begin 48 = .ok (.iastore, 1) := by decide +kernel
theorem d_Md_begin_49 : decode k_Md_begin 49 = .ok (.aload_n 0, 1) := by decide +kernel
theorem d_Md_begin_50 : decode k_Md_begin 50 = .ok (.getfield 107, 3) := by decide +kernel
theorem d_Md_begin_53 : decode k_Md_begin 53 = .ok (.iload_n 3, 1) := by decide +kernel
theorem d_Md_begin_54 : decode k_Md_begin 54 = .ok (.iconst 0, 1) := by decide +kernel
theorem d_Md_begin_55 : decode k_Md_begin 55 = .ok (.iastore, 1) := by decide +kernel
theorem d_Md_begin_56 : decode k_Md_begin 56 = .ok (.aload_n 0, 1) := by decide +kernel
theorem d_Md_begin_57 : decode k_Md_begin 57 = .ok (.getfield 92, 3) := by decide +kernel
theorem d_Md_begin_60 : decode k_Md_begin 60 = .ok (.iload_n 3, 1) := by decide +kernel
theorem d_Md_begin_61 : decode k_Md_begin 61 = .ok (.iconst 0, 1) := by decide +kernel
theorem d_Md_begin_62 : decode k_Md_begin 62 = .ok (.iastore, 1) := by decide +kernel
theorem d_Md_begin_63 : decode k_Md_begin 63 = .ok (.aload_n 0, 1) := by decide +kernel
theorem d_Md_begin_64 : decode k_Md_begin 64 = .ok (.getfield 95, 3) := by decide +kernel
theorem d_Md_begin_67 : decode k_Md_begin 67 = .ok (.iload_n 3, 1) := by decide +kernel
theorem d_Md_begin_68 : decode k_Md_begin 68 = .ok (.iconst (-1), 1) := by decide +kernel
theorem d_Md_begin_69 : decode k_Md_begin 69 = .ok (.iastore, 1) := by decide +kernel
theorem d_Md_begin_70 : decode k_Md_begin 70 = .ok (.aload_n 0, 1) := by decide +kernel
theorem d_Md_begin_71 : decode k_Md_begin 71 = .ok (.getfield 98, 3) := by decide +kernel
theorem d_Md_begin_74 : decode k_Md_begin 74 = .ok (.iload_n 3, 1) := by decide +kernel
theorem d_Md_begin_75 : decode k_Md_begin 75 = .ok (.iconst (-1), 1) := by decide +kernel
theorem d_Md_begin_76 : decode k_Md_begin 76 = .ok (.iastore, 1) := by decide +kernel
theorem d_Md_begin_77 : decode k_Md_begin 77 = .ok (.aload_n 0, 1) := by decide +kernel
theorem d_Md_begin_78 : decode k_Md_begin 78 = .ok (.getfield 86, 3) := by decide +kernel
theorem d_Md_begin_81 : decode k_Md_begin 81 = .ok (.iload_n 3, 1) := by decide +kernel
theorem d_Md_begin_82 : decode k_Md_begin 82 = .ok (.iconst 0, 1) := by decide +kernel
theorem d_Md_begin_83 : decode k_Md_begin 83 = .ok (.iastore, 1) := by decide +kernel
theorem d_Md_begin_84 : decode k_Md_begin 84 = .ok (.aload_n 0, 1) := by decide +kernel
theorem d_Md_begin_85 : decode k_Md_begin 85 = .ok (.getfield 101, 3) := by decide +kernel
theorem d_Md_begin_88 : decode k_Md_begin 88 = .ok (.iload_n 3, 1) := by decide +kernel
theorem d_Md_begin_89 : decode k_Md_begin 89 = .ok (.iload_n 1, 1) := by decide +kernel
theorem d_Md_begin_90 : decode k_Md_begin 90 = .ok (.iastore, 1) := by decide +kernel
theorem d_Md_begin_91 : decode k_Md_begin 91 = .ok (.aload_n 0, 1) := by decide +kernel
theorem d_Md_begin_92 : decode k_Md_begin 92 = .ok (.getfield 104, 3) := by decide +kernel
theorem d_Md_begin_95 : decode k_Md_begin 95 = .ok (.iload_n 3, 1) := by decide +kernel
theorem d_Md_begin_96 : decode k_Md_begin 96 = .ok (.iload_n 2, 1) := by decide +kernel
theorem d_Md_begin_97 : decode k_Md_begin 97 = .ok (.iastore, 1) := by decide +kernel
theorem d_Md_begin_98 : decode k_Md_begin 98 = .ok (.aload_n 0, 1) := by decide +kernel
theorem d_Md_begin_99 : decode k_Md_begin 99 = .ok (.getfield 89, 3) := by decide +kernel
theorem d_Md_begin_102 : decode k_Md_begin 102 = .ok (.iload_n 3, 1) := by decide +kernel
theorem d_Md_begin_103 : decode k_Md_begin 103 = .ok (.aload_n 0, 1) := by decide +kernel
theorem d_Md_begin_104 : decode k_Md_begin 104 = .ok (.getfield 212, 3) := by decide +kernel
theorem d_Md_begin_107 : decode k_Md_begin 107 = .ok (.ifCond .le 17, 3) := by decide +kernel
theorem d_Md_begin_110 : decode k_Md_begin 110 = .ok (.aload_n 0, 1) := by decide +kernel
theorem d_Md_begin_111 : decode k_Md_begin 111 = .ok (.getfield 116, 3) := by decide +kernel
theorem d_Md_begin_114 : decode k_Md_begin 114 = .ok (.aload_n 0, 1) := by decide +kernel
theorem d_Md_begin_115 : decode k_Md_begin 115 = .ok (.getfield 212, 3) := by decide +kernel
theorem d_Md_begin_118 : decode k_Md_begin 118 = .ok (.iconst 1, 1) := by decide +kernel
theorem d_Md_begin_119 : decode k_Md_begin 119 = .ok (.isub, 1) := by decide +kernel
theorem d_Md_begin_120 : decode k_Md_begin 120 = .ok (.iaload, 1) := by decide +kernel
theorem d_Md_begin_121 : decode k_Md_begin 121 = .ok (.goto 4, 3) := by decide +kernel
theorem d_Md_begin_124 : decode k_Md_begin 124 = .ok (.iconst (-1), 1) := by decide +kernel
theorem d_Md_begin_125 : decode k_Md_begin 125 = .ok (.iastore, 1) := by decide +kernel
theorem d_Md_begin_126 : decode k_Md_begin 126 = .ok (.aload_n 0, 1) := by decide +kernel
theorem d_Md_begin_127 : decode k_Md_begin 127 = .ok (.getfield 212, 3) := by decide +kernel
theorem d_Md_begin_130 : decode k_Md_begin 130 = .ok (.ifCond .le 72, 3) := by decide +kernel
theorem d_Md_begin_133 : decode k_Md_begin 133 = .ok (.aload_n 0, 1) := by decide +kernel
theorem d_Md_begin_134 : decode k_Md_begin 134 = .ok (.getfield 89, 3) := by decide +kernel
theorem d_Md_begin_137 : decode k_Md_begin 137 = .ok (.iload_n 3, 1) := by decide +kernel
theorem d_Md_begin_138 : decode k_Md_begin 138 = .ok (.iaload, 1) := by decide +kernel
theorem d_Md_begin_139 : decode k_Md_begin 139 = .ok (.istore 4, 2) := by decide +kernel
theorem d_Md_begin_141 : decode k_Md_begin 141 = .ok (.aload_n 0, 1) := by decide +kernel
theorem d_Md_begin_142 : decode k_Md_begin 142 = .ok (.getfield 92, 3) := by decide +kernel
theorem d_Md_begin_145 : decode k_Md_begin 145 = .ok (.iload 4, 2) := by decide +kernel
theorem d_Md_begin_147 : decode k_Md_begin 147 = .ok (.iaload, 1) := by decide +kernel
theorem d_Md_begin_148 : decode k_Md_begin 148 = .ok (.ifCond .ne 14, 3) := by decide +kernel
theorem d_Md_begin_151 : decode k_Md_begin 151 = .ok (.aload_n 0, 1) := by decide +kernel
theorem d_Md_begin_152 : decode k_Md_begin 152 = .ok (.getfield 95, 3) := by decide +kernel
theorem d_Md_begin_155 : decode k_Md_begin 155 = .ok (.iload 4, 2) := by decide +kernel
theorem d_Md_begin_157 : decode k_Md_begin 157 = .ok (.iload_n 3, 1) := by decide +kernel
theorem d_Md_begin_158 : decode k_Md_begin 158 = .ok (.iastore, 1) := by decide +kernel
theorem d_Md_begin_159 : decode k_Md_begin 159 = .ok (.goto 20, 3) := by decide +kernel
theorem d_Md_begin_162 : decode k_Md_begin 162 = .ok (.aload_n 0, 1) := by decide +kernel
theorem d_Md_begin_163 : decode k_Md_begin 163 = .ok (.getfield 98, 3) := by decide +kernel
theorem d_Md_begin_166 : decode k_Md_begin 166 = .ok (.aload_n 0, 1) := by decide +kernel
theorem d_Md_begin_167 : decode k_Md_begin 167 = .ok (.getfield 119, 3) := by decide +kernel
theorem d_Md_begin_170 : decode k_Md_begin 170 = .ok (.aload_n 0, 1) := by decide +kernel
theorem d_Md_begin_171 : decode k_Md_begin 171 = .ok (.getfield 212, 3) := by decide +kernel
theorem d_Md_begin_174 : decode k_Md_begin 174 = .ok (.iconst 1, 1) := by decide +kernel
theorem d_Md_begin_175 : decode k_Md_begin 175 = .ok (.isub, 1) := by decide +kernel
theorem d_Md_begin_176 : decode k_Md_begin 176 = .ok (.iaload, 1) := by decide +kernel
theorem d_Md_begin_177 : decode k_Md_begin 177 = .ok (.iload_n 3, 1) := by decide +kernel
theorem d_Md_begin_178 : decode k_Md_begin 178 = .ok (.iastore, 1) := by decide +kernel
theorem d_Md_begin_179 : decode k_Md_begin 179 = .ok (.aload_n 0, 1) := by decide +kernel
theorem d_Md_begin_180 : decode k_Md_begin 180 = .ok (.getfield 119, 3) := by decide +kernel
theorem d_Md_begin_183 : decode k_Md_begin 183 = .ok (.aload_n 0, 1) := by decide +kernel
theorem d_Md_begin_184 : decode k_Md_begin 184 = .ok (.getfield 212, 3) := by decide +kernel
theorem d_Md_begin_187 : decode k_Md_begin 187 = .ok (.iconst 1, 1) := by decide +kernel
theorem d_Md_begin_188 : decode k_Md_begin 188 = .ok (.isub, 1) := by decide +kernel
theorem d_Md_begin_189 : decode k_Md_begin 189 = .ok (.iload_n 3, 1) := by decide +kernel
theorem d_Md_begin_190 : decode k_Md_begin 190 = .ok (.iastore, 1) := by decide +kernel
theorem d_Md_begin_191 : decode k_Md_begin 191 = .ok (.aload_n 0, 1) := by decide +kernel
theorem d_Md_begin_192 : decode k_Md_begin 192 = .ok (.getfield 92, 3) := by decide +kernel
theorem d_Md_begin_195 : decode k_Md_begin 195 = .ok (.iload 4, 2) := by decide +kernel
theorem d_Md_begin_197 : decode k_Md_begin 197 = .ok (.dup2, 1) := by decide +kernel
theorem d_Md_begin_198 : decode k_Md_begin 198 = .ok (.iaload, 1) := by decide +kernel
theorem d_Md_begin_199 : decode k_Md_begin 199 = .ok (.iconst 1, 1) := by decide +kernel
theorem d_Md_begin_200 : decode k_Md_begin 200 = .ok (.iadd, 1) := by decide +kernel
theorem d_Md_begin_201 : decode k_Md_begin 201 = .ok (.iastore, 1) := by decide +kernel
theorem d_Md_begin_202 : decode k_Md_begin 202 = .ok (.iload_n 3, 1) := by decide +kernel
theorem d_Md_begin_203 : decode k_Md_begin 203 = .ok (.ireturn, 1) := by decide +kernel
theorem gw1068 : (Jvm.Cond.fieldLink "SchemaDeskModel" (74 : Nat) "SchemaDeskModel" "size" "[I") ∈ GW := gw_t5 (List.mem_of_getElem? (i := 108) rfl) rfl
theorem gw1069 : (Jvm.Cond.fieldLink "SchemaDeskModel" (77 : Nat) "SchemaDeskModel" "kind" "[I") ∈ GW := gw_t5 (List.mem_of_getElem? (i := 109) rfl) rfl
theorem gw1070 : (Jvm.Cond.fieldLink "SchemaDeskModel" (80 : Nat) "SchemaDeskModel" "from" "[I") ∈ GW := gw_t5 (List.mem_of_getElem? (i := 110) rfl) rfl
theorem gw1079 : (Jvm.Cond.fieldLink "SchemaDeskModel" (107 : Nat) "SchemaDeskModel" "value" "[I") ∈ GW := gw_t5 (List.mem_of_getElem? (i := 119) rfl) rfl
theorem gw1074 : (Jvm.Cond.fieldLink "SchemaDeskModel" (92 : Nat) "SchemaDeskModel" "many" "[I") ∈ GW := gw_t5 (List.mem_of_getElem? (i := 114) rfl) rfl
theorem gw1075 : (Jvm.Cond.fieldLink "SchemaDeskModel" (95 : Nat) "SchemaDeskModel" "first" "[I") ∈ GW := gw_t5 (List.mem_of_getElem? (i := 115) rfl) rfl
theorem gw1076 : (Jvm.Cond.fieldLink "SchemaDeskModel" (98 : Nat) "SchemaDeskModel" "next" "[I") ∈ GW := gw_t5 (List.mem_of_getElem? (i := 116) rfl) rfl
theorem gw1072 : (Jvm.Cond.fieldLink "SchemaDeskModel" (86 : Nat) "SchemaDeskModel" "chars" "[I") ∈ GW := gw_t5 (List.mem_of_getElem? (i := 112) rfl) rfl
theorem gw1077 : (Jvm.Cond.fieldLink "SchemaDeskModel" (101 : Nat) "SchemaDeskModel" "name" "[I") ∈ GW := gw_t5 (List.mem_of_getElem? (i := 117) rfl) rfl
theorem gw1078 : (Jvm.Cond.fieldLink "SchemaDeskModel" (104 : Nat) "SchemaDeskModel" "nameEnd" "[I") ∈ GW := gw_t5 (List.mem_of_getElem? (i := 118) rfl) rfl
theorem gw1073 : (Jvm.Cond.fieldLink "SchemaDeskModel" (89 : Nat) "SchemaDeskModel" "parent" "[I") ∈ GW := gw_t5 (List.mem_of_getElem? (i := 113) rfl) rfl
theorem gw1085 : (Jvm.Cond.fieldLink "SchemaDeskModel" (116 : Nat) "SchemaDeskModel" "holder" "[I") ∈ GW := gw_t5 (List.mem_of_getElem? (i := 125) rfl) rfl
theorem gw1086 : (Jvm.Cond.fieldLink "SchemaDeskModel" (119 : Nat) "SchemaDeskModel" "last" "[I") ∈ GW := gw_t5 (List.mem_of_getElem? (i := 126) rfl) rfl
def wb_Md_begin_0 (F : Nat → Int32 → Int32 → Int32 → Int32 → Sg → Prop) (post : Int32 → Sg → Prop) (x1 : Int32) (x2 : Int32) (σ : Sg) : Prop := (vp_in (σ.1 54 18) 2 ∧ (vp_in (σ.1 54 18) 2 ∧ (vp_in (σ.1 54 18) 2 ∧ (∀ σ1, σ1 = si σ 58 ((σ.1 54 18) : Int32).toNatClampNeg ((σ.1 58 ((σ.1 54 18) : Int32).toNatClampNeg) + (1 : Int32)) → (vp_in (((160 : Int32) * (σ.1 54 18)) + (σ.1 58 ((σ.1 54 18) : Int32).toNatClampNeg)) 240 ∧ (∀ σ2, σ2 = si σ1 59 ((((160 : Int32) * (σ.1 54 18)) + (σ.1 58 ((σ.1 54 18) : Int32).toNatClampNeg)) : Int32).toNatClampNeg (0 : Int32) → (vp_in (((160 : Int32) * (σ.1 54 18)) + (σ.1 58 ((σ.1 54 18) : Int32).toNatClampNeg)) 240 ∧ (∀ σ3, σ3 = si σ2 60 ((((160 : Int32) * (σ.1 54 18)) + (σ.1 58 ((σ.1 54 18) : Int32).toNatClampNeg)) : Int32).toNatClampNeg (σ2.1 54 19) → (vp_in (((160 : Int32) * (σ.1 54 18)) + (σ.1 58 ((σ.1 54 18) : Int32).toNatClampNeg)) 240 ∧ (∀ σ4, σ4 = si σ3 69 ((((160 : Int32) * (σ.1 54 18)) + (σ.1 58 ((σ.1 54 18) : Int32).toNatClampNeg)) : Int32).toNatClampNeg (0 : Int32) → (vp_in (((160 : Int32) * (σ.1 54 18)) + (σ.1 58 ((σ.1 54 18) : Int32).toNatClampNeg)) 240 ∧ (∀ σ5, σ5 = si σ4 64 ((((160 : Int32) * (σ.1 54 18)) + (σ.1 58 ((σ.1 54 18) : Int32).toNatClampNeg)) : Int32).toNatClampNeg (0 : Int32) → (vp_in (((160 : Int32) * (σ.1 54 18)) + (σ.1 58 ((σ.1 54 18) : Int32).toNatClampNeg)) 240 ∧ (∀ σ6, σ6 = si σ5 65 ((((160 : Int32) * (σ.1 54 18)) + (σ.1 58 ((σ.1 54 18) : Int32).toNatClampNeg)) : Int32).toNatClampNeg (-1 : Int32) → (vp_in (((160 : Int32) * (σ.1 54 18)) + (σ.1 58 ((σ.1 54 18) : Int32).toNatClampNeg)) 240 ∧ (∀ σ7, σ7 = si σ6 66 ((((160 : Int32) * (σ.1 54 18)) + (σ.1 58 ((σ.1 54 18) : Int32).toNatClampNeg)) : Int32).toNatClampNeg (-1 : Int32) → (vp_in (((160 : Int32) * (σ.1 54 18)) + (σ.1 58 ((σ.1 54 18) : Int32).toNatClampNeg)) 240 ∧ (∀ σ8, σ8 = si σ7 62 ((((160 : Int32) * (σ.1 54 18)) + (σ.1 58 ((σ.1 54 18) : Int32).toNatClampNeg)) : Int32).toNatClampNeg (0 : Int32) → (vp_in (((160 : Int32) * (σ.1 54 18)) + (σ.1 58 ((σ.1 54 18) : Int32).toNatClampNeg)) 240 ∧ (∀ σ9, σ9 = si σ8 67 ((((160 : Int32) * (σ.1 54 18)) + (σ.1 58 ((σ.1 54 18) : Int32).toNatClampNeg)) : Int32).toNatClampNeg x1 → (vp_in (((160 : Int32) * (σ.1 54 18)) + (σ.1 58 ((σ.1 54 18) : Int32).toNatClampNeg)) 240 ∧ (∀ σ10, σ10 = si σ9 68 ((((160 : Int32) * (σ.1 54 18)) + (σ.1 58 ((σ.1 54 18) : Int32).toNatClampNeg)) : Int32).toNatClampNeg x2 → (((σ10.1 54 20) ≤ 0 → (vp_in (((160 : Int32) * (σ.1 54 18)) + (σ.1 58 ((σ.1 54 18) : Int32).toNatClampNeg)) 240 ∧ (∀ σ11, σ11 = si σ10 63 ((((160 : Int32) * (σ.1 54 18)) + (σ.1 58 ((σ.1 54 18) : Int32).toNatClampNeg)) : Int32).toNatClampNeg (-1 : Int32) → F 1 0 0 (((160 : Int32) * (σ.1 54 18)) + (σ.1 58 ((σ.1 54 18) : Int32).toNatClampNeg)) 0 σ11))) ∧ (¬ (σ10.1 54 20) ≤ 0 → (vp_in ((σ10.1 54 20) - (1 : Int32)) 9 ∧ (vp_in (((160 : Int32) * (σ.1 54 18)) + (σ.1 58 ((σ.1 54 18) : Int32).toNatClampNeg)) 240 ∧ (∀ σ11, σ11 = si σ10 63 ((((160 : Int32) * (σ.1 54 18)) + (σ.1 58 ((σ.1 54 18) : Int32).toNatClampNeg)) : Int32).toNatClampNeg (σ10.1 72 (((σ10.1 54 20) - (1 : Int32)) : Int32).toNatClampNeg) → F 1 0 0 (((160 : Int32) * (σ.1 54 18)) + (σ.1 58 ((σ.1 54 18) : Int32).toNatClampNeg)) 0 σ11)))))))))))))))))))))))))))
def wb_Md_begin_1 (F : Nat → Int32 → Int32 → Int32 → Int32 → Sg → Prop) (post : Int32 → Sg → Prop) (x3 : Int32) (σ : Sg) : Prop := (((σ.1 54 20) ≤ 0 → post x3 σ) ∧ (¬ (σ.1 54 20) ≤ 0 → (vp_in x3 240 ∧ (vp_in (σ.1 63 x3.toNatClampNeg) 240 ∧ ((¬ (σ.1 64 ((σ.1 63 x3.toNatClampNeg) : Int32).toNatClampNeg) = 0 → (vp_in ((σ.1 54 20) - (1 : Int32)) 9 ∧ (vp_in (σ.1 73 (((σ.1 54 20) - (1 : Int32)) : Int32).toNatClampNeg) 240 ∧ (∀ σ1, σ1 = si σ 66 ((σ.1 73 (((σ.1 54 20) - (1 : Int32)) : Int32).toNatClampNeg) : Int32).toNatClampNeg x3 → F 2 0 0 x3 (σ.1 63 x3.toNatClampNeg) σ1)))) ∧ ((σ.1 64 ((σ.1 63 x3.toNatClampNeg) : Int32).toNatClampNeg) = 0 → (vp_in (σ.1 63 x3.toNatClampNeg) 240 ∧ (∀ σ1, σ1 = si σ 65 ((σ.1 63 x3.toNatClampNeg) : Int32).toNatClampNeg x3 → F 2 0 0 x3 (σ.1 63 x3.toNatClampNeg) σ1))))))))
def wb_Md_begin_2 (F : Nat → Int32 → Int32 → Int32 → Int32 → Sg → Prop) (post : Int32 → Sg → Prop) (x3 : Int32) (x4 : Int32) (σ : Sg) : Prop := (vp_in ((σ.1 54 20) - (1 : Int32)) 9 ∧ (∀ σ1, σ1 = si σ 73 (((σ.1 54 20) - (1 : Int32)) : Int32).toNatClampNeg x3 → (vp_in x4 240 ∧ (vp_in x4 240 ∧ (∀ σ2, σ2 = si σ1 64 x4.toNatClampNeg ((σ1.1 64 x4.toNatClampNeg) + (1 : Int32)) → post x3 σ2)))))
def wp_Md_begin (post : Int32 → Sg → Prop) : Nat → Nat → Int32 → Int32 → Int32 → Int32 → Sg → Prop
  | 0, _, _, _, _, _, _ => False
  | n + 1, k, x1, x2, x3, x4, σ => match k with
    | 0 => wb_Md_begin_0 (wp_Md_begin post n) post x1 x2 σ
    | 1 => wb_Md_begin_1 (wp_Md_begin post n) post x3 σ
    | 2 => wb_Md_begin_2 (wp_Md_begin post n) post x3 x4 σ
    | _ => False
def wq_Md_begin (x1 : Int32) (x2 : Int32) (σ : Sg) (post : Int32 → Sg → Prop) : Prop := ∃ n, wp_Md_begin post n 0 x1 x2 0 0 σ
def J_Md_begin_1 (p : Program) (l : Launch) (e : Env) (s : State) (m : MethodId) (args : Array Value) (below : List Frame) (meth : Method) (c : Code) (D : va_G) (g : Gm) (A : Nat → Prop) (post : Int32 → Sg → Prop) (F : Nat → Int32 → Int32 → Int32 → Int32 → Sg → Prop) : Prop := ∀ (x3 : Int32) (σ : Sg) (H : Heap) (locs : List Loc) (ls : Array Slot), lv_has ls 5 [(0, .ref (g.1 54)), (3, .int x3)] → Wst D vwCl (WS g) A s σ H locs → F 1 0 0 x3 0 σ → W p l e { frames := 0, cells := 0, slots := 0, locals := 0 } s m args below meth c H locs 0 0 (MQ below (QiW D vwCl (WS g) post A) args s 0 0 A) (F0 m 126 ls [])
def J_Md_begin_2 (p : Program) (l : Launch) (e : Env) (s : State) (m : MethodId) (args : Array Value) (below : List Frame) (meth : Method) (c : Code) (D : va_G) (g : Gm) (A : Nat → Prop) (post : Int32 → Sg → Prop) (F : Nat → Int32 → Int32 → Int32 → Int32 → Sg → Prop) : Prop := ∀ (x3 : Int32) (x4 : Int32) (σ : Sg) (H : Heap) (locs : List Loc) (ls : Array Slot), lv_has ls 5 [(0, .ref (g.1 54)), (3, .int x3), (4, .int x4)] → Wst D vwCl (WS g) A s σ H locs → F 2 0 0 x3 x4 σ → W p l e { frames := 0, cells := 0, slots := 0, locals := 0 } s m args below meth c H locs 0 0 (MQ below (QiW D vwCl (WS g) post A) args s 0 0 A) (F0 m 179 ls [])
set_option maxRecDepth 100000 in
set_option maxHeartbeats 4000000 in
theorem b_Md_begin_0 {p : Program} {l : Launch} {e : Env} {s : State} {m : MethodId} {args : Array Value} {below : List Frame} {meth : Method} {c : Code} {D : va_G} {g : Gm} {A : Nat → Prop} {post : Int32 → Sg → Prop} {F : Nat → Int32 → Int32 → Int32 → Int32 → Sg → Prop} (C : kC p s m args meth c k_Md_begin 5 (some .int) GW R_Md D vwCl g (Zk g) A) (j1 : J_Md_begin_1 p l e s m args below meth c D g A post F) (x1 : Int32) (x2 : Int32) (σ : Sg) (H : Heap) (locs : List Loc) (ls : Array Slot) (hl : lv_has ls 5 [(0, .ref (g.1 54)), (1, .int x1), (2, .int x2)]) (hst : Wst D vwCl (WS g) A s σ H locs) (h : wb_Md_begin_0 F post x1 x2 σ) : W p l e { frames := 0, cells := 0, slots := 0, locals := 0 } s m args below meth c H locs 0 0 (MQ below (QiW D vwCl (WS g) post A) args s 0 0 A) (F0 m 0 ls []) := by
  obtain ⟨hx, hb, hr, hml, hown, hts, hlocks, hK, hZ, hA⟩ := C
  unfold wb_Md_begin_0 at h
  refine lv_sipush (v := (160 : Int32)) hx hb d_Md_begin_0 (by decide) ?_
  refine lv_aload_n hx hb d_Md_begin_3 rfl (lv_at hl 0 rfl) ?_
  refine va_get (D := D) (ci := 10) (C := R_Md) (T := T_Md) (N := 46) hx hb hts in_Md hown hK hst.1 54 (WS_o54 g σ) rfl 18 (by decide) (hts _ gw1082) (fun _ h9 => h9) rfl d_Md_begin_4 ?_
  refine lv_imul hx hb d_Md_begin_7 ?_
  refine lv_aload_n hx hb d_Md_begin_8 rfl (lv_at hl 0 rfl) ?_
  refine va_get (D := D) (ci := 10) (C := R_Md) (T := T_Md) (N := 46) hx hb hts in_Md hown hK hst.1 54 (WS_o54 g σ) rfl 4 (by decide) (hts _ gw1068) (fun _ h9 => h9) rfl d_Md_begin_9 ?_
  refine lv_aload_n hx hb d_Md_begin_12 rfl (lv_at hl 0 rfl) ?_
  refine va_get (D := D) (ci := 10) (C := R_Md) (T := T_Md) (N := 46) hx hb hts in_Md hown hK hst.1 54 (WS_o54 g σ) rfl 18 (by decide) (hts _ gw1082) (fun _ h9 => h9) rfl d_Md_begin_13 ?_
  obtain ⟨hi, h⟩ := h
  refine va_iald hx hb hK hst.1 58 0 (WS_a58 g σ) rfl hi d_Md_begin_16 ?_
  refine lv_iadd hx hb d_Md_begin_17 ?_
  refine lv_istore_n hx hb d_Md_begin_18 rfl hl (by decide) rfl (fun ls hl => ?_)
  have hl : lv_has ls 5 [(3, .int (((160 : Int32) * (σ.1 54 18)) + (σ.1 58 ((σ.1 54 18) : Int32).toNatClampNeg))), (0, .ref (g.1 54)), (1, .int x1), (2, .int x2)] := hl
  refine lv_aload_n hx hb d_Md_begin_19 rfl (lv_at hl 1 rfl) ?_
  refine va_get (D := D) (ci := 10) (C := R_Md) (T := T_Md) (N := 46) hx hb hts in_Md hown hK hst.1 54 (WS_o54 g σ) rfl 4 (by decide) (hts _ gw1068) (fun _ h9 => h9) rfl d_Md_begin_20 ?_
  refine lv_aload_n hx hb d_Md_begin_23 rfl (lv_at hl 1 rfl) ?_
  refine va_get (D := D) (ci := 10) (C := R_Md) (T := T_Md) (N := 46) hx hb hts in_Md hown hK hst.1 54 (WS_o54 g σ) rfl 18 (by decide) (hts _ gw1082) (fun _ h9 => h9) rfl d_Md_begin_24 ?_
  refine lv_dup2_11 hx hb d_Md_begin_27 rfl rfl ?_
  obtain ⟨hi, h⟩ := h
  refine va_iald hx hb hK hst.1 58 0 (WS_a58 g σ) rfl hi d_Md_begin_28 ?_
  refine lv_iconst (v := (1 : Int32)) hx hb d_Md_begin_29 (by decide) ?_
  refine lv_iadd hx hb d_Md_begin_30 ?_
  obtain ⟨hi, h⟩ := h
  refine kw_iast hx hb hK hst 58 (WS_a58 g σ) hi (WS_s58 g σ _ _) d_Md_begin_31 (fun σ1 H locs e1 hst => ?_)
  replace h := h σ1 e1
  refine lv_aload_n hx hb d_Md_begin_32 rfl (lv_at hl 1 rfl) ?_
  refine va_get (D := D) (ci := 10) (C := R_Md) (T := T_Md) (N := 46) hx hb hts in_Md hown hK hst.1 54 (WS_o54 g σ1) rfl 5 (by decide) (hts _ gw1069) (fun _ h9 => h9) rfl d_Md_begin_33 ?_
  refine lv_iload_n hx hb d_Md_begin_36 rfl (lv_at hl 0 rfl) ?_
  refine lv_iconst (v := (0 : Int32)) hx hb d_Md_begin_37 (by decide) ?_
  obtain ⟨hi, h⟩ := h
  refine kw_iast hx hb hK hst 59 (WS_a59 g σ1) hi (WS_s59 g σ1 _ _) d_Md_begin_38 (fun σ2 H locs e2 hst => ?_)
  replace h := h σ2 e2
  refine lv_aload_n hx hb d_Md_begin_39 rfl (lv_at hl 1 rfl) ?_
  refine va_get (D := D) (ci := 10) (C := R_Md) (T := T_Md) (N := 46) hx hb hts in_Md hown hK hst.1 54 (WS_o54 g σ2) rfl 6 (by decide) (hts _ gw1070) (fun _ h9 => h9) rfl d_Md_begin_40 ?_
  refine lv_iload_n hx hb d_Md_begin_43 rfl (lv_at hl 0 rfl) ?_
  refine lv_aload_n hx hb d_Md_begin_44 rfl (lv_at hl 1 rfl) ?_
  refine va_get (D := D) (ci := 10) (C := R_Md) (T := T_Md) (N := 46) hx hb hts in_Md hown hK hst.1 54 (WS_o54 g σ2) rfl 19 (by decide) (hts _ gw1083) (fun _ h9 => h9) rfl d_Md_begin_45 ?_
  obtain ⟨hi, h⟩ := h
  refine kw_iast hx hb hK hst 60 (WS_a60 g σ2) hi (WS_s60 g σ2 _ _) d_Md_begin_48 (fun σ3 H locs e3 hst => ?_)
  replace h := h σ3 e3
  refine lv_aload_n hx hb d_Md_begin_49 rfl (lv_at hl 1 rfl) ?_
  refine va_get (D := D) (ci := 10) (C := R_Md) (T := T_Md) (N := 46) hx hb hts in_Md hown hK hst.1 54 (WS_o54 g σ3) rfl 15 (by decide) (hts _ gw1079) (fun _ h9 => h9) rfl d_Md_begin_50 ?_
  refine lv_iload_n hx hb d_Md_begin_53 rfl (lv_at hl 0 rfl) ?_
  refine lv_iconst (v := (0 : Int32)) hx hb d_Md_begin_54 (by decide) ?_
  obtain ⟨hi, h⟩ := h
  refine kw_iast hx hb hK hst 69 (WS_a69 g σ3) hi (WS_s69 g σ3 _ _) d_Md_begin_55 (fun σ4 H locs e4 hst => ?_)
  replace h := h σ4 e4
  refine lv_aload_n hx hb d_Md_begin_56 rfl (lv_at hl 1 rfl) ?_
  refine va_get (D := D) (ci := 10) (C := R_Md) (T := T_Md) (N := 46) hx hb hts in_Md hown hK hst.1 54 (WS_o54 g σ4) rfl 10 (by decide) (hts _ gw1074) (fun _ h9 => h9) rfl d_Md_begin_57 ?_
  refine lv_iload_n hx hb d_Md_begin_60 rfl (lv_at hl 0 rfl) ?_
  refine lv_iconst (v := (0 : Int32)) hx hb d_Md_begin_61 (by decide) ?_
  obtain ⟨hi, h⟩ := h
  refine kw_iast hx hb hK hst 64 (WS_a64 g σ4) hi (WS_s64 g σ4 _ _) d_Md_begin_62 (fun σ5 H locs e5 hst => ?_)
  replace h := h σ5 e5
  refine lv_aload_n hx hb d_Md_begin_63 rfl (lv_at hl 1 rfl) ?_
  refine va_get (D := D) (ci := 10) (C := R_Md) (T := T_Md) (N := 46) hx hb hts in_Md hown hK hst.1 54 (WS_o54 g σ5) rfl 11 (by decide) (hts _ gw1075) (fun _ h9 => h9) rfl d_Md_begin_64 ?_
  refine lv_iload_n hx hb d_Md_begin_67 rfl (lv_at hl 0 rfl) ?_
  refine lv_iconst (v := (-1 : Int32)) hx hb d_Md_begin_68 (by decide) ?_
  obtain ⟨hi, h⟩ := h
  refine kw_iast hx hb hK hst 65 (WS_a65 g σ5) hi (WS_s65 g σ5 _ _) d_Md_begin_69 (fun σ6 H locs e6 hst => ?_)
  replace h := h σ6 e6
  refine lv_aload_n hx hb d_Md_begin_70 rfl (lv_at hl 1 rfl) ?_
  refine va_get (D := D) (ci := 10) (C := R_Md) (T := T_Md) (N := 46) hx hb hts in_Md hown hK hst.1 54 (WS_o54 g σ6) rfl 12 (by decide) (hts _ gw1076) (fun _ h9 => h9) rfl d_Md_begin_71 ?_
  refine lv_iload_n hx hb d_Md_begin_74 rfl (lv_at hl 0 rfl) ?_
  refine lv_iconst (v := (-1 : Int32)) hx hb d_Md_begin_75 (by decide) ?_
  obtain ⟨hi, h⟩ := h
  refine kw_iast hx hb hK hst 66 (WS_a66 g σ6) hi (WS_s66 g σ6 _ _) d_Md_begin_76 (fun σ7 H locs e7 hst => ?_)
  replace h := h σ7 e7
  refine lv_aload_n hx hb d_Md_begin_77 rfl (lv_at hl 1 rfl) ?_
  refine va_get (D := D) (ci := 10) (C := R_Md) (T := T_Md) (N := 46) hx hb hts in_Md hown hK hst.1 54 (WS_o54 g σ7) rfl 8 (by decide) (hts _ gw1072) (fun _ h9 => h9) rfl d_Md_begin_78 ?_
  refine lv_iload_n hx hb d_Md_begin_81 rfl (lv_at hl 0 rfl) ?_
  refine lv_iconst (v := (0 : Int32)) hx hb d_Md_begin_82 (by decide) ?_
  obtain ⟨hi, h⟩ := h
  refine kw_iast hx hb hK hst 62 (WS_a62 g σ7) hi (WS_s62 g σ7 _ _) d_Md_begin_83 (fun σ8 H locs e8 hst => ?_)
  replace h := h σ8 e8
  refine lv_aload_n hx hb d_Md_begin_84 rfl (lv_at hl 1 rfl) ?_
  refine va_get (D := D) (ci := 10) (C := R_Md) (T := T_Md) (N := 46) hx hb hts in_Md hown hK hst.1 54 (WS_o54 g σ8) rfl 13 (by decide) (hts _ gw1077) (fun _ h9 => h9) rfl d_Md_begin_85 ?_
  refine lv_iload_n hx hb d_Md_begin_88 rfl (lv_at hl 0 rfl) ?_
  refine lv_iload_n hx hb d_Md_begin_89 rfl (lv_at hl 2 rfl) ?_
  obtain ⟨hi, h⟩ := h
  refine kw_iast hx hb hK hst 67 (WS_a67 g σ8) hi (WS_s67 g σ8 _ _) d_Md_begin_90 (fun σ9 H locs e9 hst => ?_)
  replace h := h σ9 e9
  refine lv_aload_n hx hb d_Md_begin_91 rfl (lv_at hl 1 rfl) ?_
  refine va_get (D := D) (ci := 10) (C := R_Md) (T := T_Md) (N := 46) hx hb hts in_Md hown hK hst.1 54 (WS_o54 g σ9) rfl 14 (by decide) (hts _ gw1078) (fun _ h9 => h9) rfl d_Md_begin_92 ?_
  refine lv_iload_n hx hb d_Md_begin_95 rfl (lv_at hl 0 rfl) ?_
  refine lv_iload_n hx hb d_Md_begin_96 rfl (lv_at hl 3 rfl) ?_
  obtain ⟨hi, h⟩ := h
  refine kw_iast hx hb hK hst 68 (WS_a68 g σ9) hi (WS_s68 g σ9 _ _) d_Md_begin_97 (fun σ10 H locs e10 hst => ?_)
  replace h := h σ10 e10
  refine lv_aload_n hx hb d_Md_begin_98 rfl (lv_at hl 1 rfl) ?_
  refine va_get (D := D) (ci := 10) (C := R_Md) (T := T_Md) (N := 46) hx hb hts in_Md hown hK hst.1 54 (WS_o54 g σ10) rfl 9 (by decide) (hts _ gw1073) (fun _ h9 => h9) rfl d_Md_begin_99 ?_
  refine lv_iload_n hx hb d_Md_begin_102 rfl (lv_at hl 0 rfl) ?_
  refine lv_aload_n hx hb d_Md_begin_103 rfl (lv_at hl 1 rfl) ?_
  refine va_get (D := D) (ci := 10) (C := R_Md) (T := T_Md) (N := 46) hx hb hts in_Md hown hK hst.1 54 (WS_o54 g σ10) rfl 20 (by decide) (hts _ gw1084) (fun _ h9 => h9) rfl d_Md_begin_104 ?_
  refine lv_if_le (tgt := 124) hx hb d_Md_begin_107 (by decide) (fun hc => ?_) (fun hc => ?_)
  · replace h := h.1 hc
    refine lv_iconst (v := (-1 : Int32)) hx hb d_Md_begin_124 (by decide) ?_
    obtain ⟨hi, h⟩ := h
    refine kw_iast hx hb hK hst 63 (WS_a63 g σ10) hi (WS_s63 g σ10 _ _) d_Md_begin_125 (fun σ11 H locs e11 hst => ?_)
    replace h := h σ11 e11
    exact j1 (((160 : Int32) * (σ.1 54 18)) + (σ.1 58 ((σ.1 54 18) : Int32).toNatClampNeg)) σ11 _ _ _ (lv_sub hl [1, 0] rfl) hst h
  · replace h := h.2 hc
    refine lv_aload_n hx hb d_Md_begin_110 rfl (lv_at hl 1 rfl) ?_
    refine va_get (D := D) (ci := 10) (C := R_Md) (T := T_Md) (N := 46) hx hb hts in_Md hown hK hst.1 54 (WS_o54 g σ10) rfl 21 (by decide) (hts _ gw1085) (fun _ h9 => h9) rfl d_Md_begin_111 ?_
    refine lv_aload_n hx hb d_Md_begin_114 rfl (lv_at hl 1 rfl) ?_
    refine va_get (D := D) (ci := 10) (C := R_Md) (T := T_Md) (N := 46) hx hb hts in_Md hown hK hst.1 54 (WS_o54 g σ10) rfl 20 (by decide) (hts _ gw1084) (fun _ h9 => h9) rfl d_Md_begin_115 ?_
    refine lv_iconst (v := (1 : Int32)) hx hb d_Md_begin_118 (by decide) ?_
    refine lv_isub hx hb d_Md_begin_119 ?_
    obtain ⟨hi, h⟩ := h
    refine va_iald hx hb hK hst.1 72 0 (WS_a72 g σ10) rfl hi d_Md_begin_120 ?_
    refine lv_goto (tgt := 125) hx hb d_Md_begin_121 (by decide) ?_
    obtain ⟨hi, h⟩ := h
    refine kw_iast hx hb hK hst 63 (WS_a63 g σ10) hi (WS_s63 g σ10 _ _) d_Md_begin_125 (fun σ11 H locs e11 hst => ?_)
    replace h := h σ11 e11
    exact j1 (((160 : Int32) * (σ.1 54 18)) + (σ.1 58 ((σ.1 54 18) : Int32).toNatClampNeg)) σ11 _ _ _ (lv_sub hl [1, 0] rfl) hst h
set_option maxRecDepth 100000 in
set_option maxHeartbeats 4000000 in
theorem b_Md_begin_1 {p : Program} {l : Launch} {e : Env} {s : State} {m : MethodId} {args : Array Value} {below : List Frame} {meth : Method} {c : Code} {D : va_G} {g : Gm} {A : Nat → Prop} {post : Int32 → Sg → Prop} {F : Nat → Int32 → Int32 → Int32 → Int32 → Sg → Prop} (C : kC p s m args meth c k_Md_begin 5 (some .int) GW R_Md D vwCl g (Zk g) A) (j2 : J_Md_begin_2 p l e s m args below meth c D g A post F) (x3 : Int32) (σ : Sg) (H : Heap) (locs : List Loc) (ls : Array Slot) (hl : lv_has ls 5 [(0, .ref (g.1 54)), (3, .int x3)]) (hst : Wst D vwCl (WS g) A s σ H locs) (h : wb_Md_begin_1 F post x3 σ) : W p l e { frames := 0, cells := 0, slots := 0, locals := 0 } s m args below meth c H locs 0 0 (MQ below (QiW D vwCl (WS g) post A) args s 0 0 A) (F0 m 126 ls []) := by
  obtain ⟨hx, hb, hr, hml, hown, hts, hlocks, hK, hZ, hA⟩ := C
  unfold wb_Md_begin_1 at h
  refine lv_aload_n hx hb d_Md_begin_126 rfl (lv_at hl 0 rfl) ?_
  refine va_get (D := D) (ci := 10) (C := R_Md) (T := T_Md) (N := 46) hx hb hts in_Md hown hK hst.1 54 (WS_o54 g σ) rfl 20 (by decide) (hts _ gw1084) (fun _ h9 => h9) rfl d_Md_begin_127 ?_
  refine lv_if_le (tgt := 202) hx hb d_Md_begin_130 (by decide) (fun hc => ?_) (fun hc => ?_)
  · replace h := h.1 hc
    refine lv_iload_n hx hb d_Md_begin_202 rfl (lv_at hl 1 rfl) ?_
    exact kw_iret hx hb hr hlocks hst h d_Md_begin_203
  · replace h := h.2 hc
    refine lv_aload_n hx hb d_Md_begin_133 rfl (lv_at hl 0 rfl) ?_
    refine va_get (D := D) (ci := 10) (C := R_Md) (T := T_Md) (N := 46) hx hb hts in_Md hown hK hst.1 54 (WS_o54 g σ) rfl 9 (by decide) (hts _ gw1073) (fun _ h9 => h9) rfl d_Md_begin_134 ?_
    refine lv_iload_n hx hb d_Md_begin_137 rfl (lv_at hl 1 rfl) ?_
    obtain ⟨hi, h⟩ := h
    refine va_iald hx hb hK hst.1 63 0 (WS_a63 g σ) rfl hi d_Md_begin_138 ?_
    refine lv_istore hx hb d_Md_begin_139 hl (by decide) rfl (fun ls hl => ?_)
    have hl : lv_has ls 5 [(4, .int (σ.1 63 x3.toNatClampNeg)), (0, .ref (g.1 54)), (3, .int x3)] := hl
    refine lv_aload_n hx hb d_Md_begin_141 rfl (lv_at hl 1 rfl) ?_
    refine va_get (D := D) (ci := 10) (C := R_Md) (T := T_Md) (N := 46) hx hb hts in_Md hown hK hst.1 54 (WS_o54 g σ) rfl 10 (by decide) (hts _ gw1074) (fun _ h9 => h9) rfl d_Md_begin_142 ?_
    refine lv_iload hx hb d_Md_begin_145 (lv_at hl 0 rfl) ?_
    obtain ⟨hi, h⟩ := h
    refine va_iald hx hb hK hst.1 64 0 (WS_a64 g σ) rfl hi d_Md_begin_147 ?_
    refine lv_if_ne (tgt := 162) hx hb d_Md_begin_148 (by decide) (fun hc => ?_) (fun hc => ?_)
    · replace h := h.1 hc
      refine lv_aload_n hx hb d_Md_begin_162 rfl (lv_at hl 1 rfl) ?_
      refine va_get (D := D) (ci := 10) (C := R_Md) (T := T_Md) (N := 46) hx hb hts in_Md hown hK hst.1 54 (WS_o54 g σ) rfl 12 (by decide) (hts _ gw1076) (fun _ h9 => h9) rfl d_Md_begin_163 ?_
      refine lv_aload_n hx hb d_Md_begin_166 rfl (lv_at hl 1 rfl) ?_
      refine va_get (D := D) (ci := 10) (C := R_Md) (T := T_Md) (N := 46) hx hb hts in_Md hown hK hst.1 54 (WS_o54 g σ) rfl 22 (by decide) (hts _ gw1086) (fun _ h9 => h9) rfl d_Md_begin_167 ?_
      refine lv_aload_n hx hb d_Md_begin_170 rfl (lv_at hl 1 rfl) ?_
      refine va_get (D := D) (ci := 10) (C := R_Md) (T := T_Md) (N := 46) hx hb hts in_Md hown hK hst.1 54 (WS_o54 g σ) rfl 20 (by decide) (hts _ gw1084) (fun _ h9 => h9) rfl d_Md_begin_171 ?_
      refine lv_iconst (v := (1 : Int32)) hx hb d_Md_begin_174 (by decide) ?_
      refine lv_isub hx hb d_Md_begin_175 ?_
      obtain ⟨hi, h⟩ := h
      refine va_iald hx hb hK hst.1 73 0 (WS_a73 g σ) rfl hi d_Md_begin_176 ?_
      refine lv_iload_n hx hb d_Md_begin_177 rfl (lv_at hl 2 rfl) ?_
      obtain ⟨hi, h⟩ := h
      refine kw_iast hx hb hK hst 66 (WS_a66 g σ) hi (WS_s66 g σ _ _) d_Md_begin_178 (fun σ1 H locs e1 hst => ?_)
      replace h := h σ1 e1
      exact j2 x3 (σ.1 63 x3.toNatClampNeg) σ1 _ _ _ (lv_sub hl [1, 2, 0] rfl) hst h
    · replace h := h.2 hc
      refine lv_aload_n hx hb d_Md_begin_151 rfl (lv_at hl 1 rfl) ?_
      refine va_get (D := D) (ci := 10) (C := R_Md) (T := T_Md) (N := 46) hx hb hts in_Md hown hK hst.1 54 (WS_o54 g σ) rfl 11 (by decide) (hts _ gw1075) (fun _ h9 => h9) rfl d_Md_begin_152 ?_
      refine lv_iload hx hb d_Md_begin_155 (lv_at hl 0 rfl) ?_
      refine lv_iload_n hx hb d_Md_begin_157 rfl (lv_at hl 2 rfl) ?_
      obtain ⟨hi, h⟩ := h
      refine kw_iast hx hb hK hst 65 (WS_a65 g σ) hi (WS_s65 g σ _ _) d_Md_begin_158 (fun σ1 H locs e1 hst => ?_)
      replace h := h σ1 e1
      refine lv_goto (tgt := 179) hx hb d_Md_begin_159 (by decide) ?_
      exact j2 x3 (σ.1 63 x3.toNatClampNeg) σ1 _ _ _ (lv_sub hl [1, 2, 0] rfl) hst h
set_option maxRecDepth 100000 in
set_option maxHeartbeats 4000000 in
theorem b_Md_begin_2 {p : Program} {l : Launch} {e : Env} {s : State} {m : MethodId} {args : Array Value} {below : List Frame} {meth : Method} {c : Code} {D : va_G} {g : Gm} {A : Nat → Prop} {post : Int32 → Sg → Prop} {F : Nat → Int32 → Int32 → Int32 → Int32 → Sg → Prop} (C : kC p s m args meth c k_Md_begin 5 (some .int) GW R_Md D vwCl g (Zk g) A) (x3 : Int32) (x4 : Int32) (σ : Sg) (H : Heap) (locs : List Loc) (ls : Array Slot) (hl : lv_has ls 5 [(0, .ref (g.1 54)), (3, .int x3), (4, .int x4)]) (hst : Wst D vwCl (WS g) A s σ H locs) (h : wb_Md_begin_2 F post x3 x4 σ) : W p l e { frames := 0, cells := 0, slots := 0, locals := 0 } s m args below meth c H locs 0 0 (MQ below (QiW D vwCl (WS g) post A) args s 0 0 A) (F0 m 179 ls []) := by
  obtain ⟨hx, hb, hr, hml, hown, hts, hlocks, hK, hZ, hA⟩ := C
  unfold wb_Md_begin_2 at h
  refine lv_aload_n hx hb d_Md_begin_179 rfl (lv_at hl 0 rfl) ?_
  refine va_get (D := D) (ci := 10) (C := R_Md) (T := T_Md) (N := 46) hx hb hts in_Md hown hK hst.1 54 (WS_o54 g σ) rfl 22 (by decide) (hts _ gw1086) (fun _ h9 => h9) rfl d_Md_begin_180 ?_
  refine lv_aload_n hx hb d_Md_begin_183 rfl (lv_at hl 0 rfl) ?_
  refine va_get (D := D) (ci := 10) (C := R_Md) (T := T_Md) (N := 46) hx hb hts in_Md hown hK hst.1 54 (WS_o54 g σ) rfl 20 (by decide) (hts _ gw1084) (fun _ h9 => h9) rfl d_Md_begin_184 ?_
  refine lv_iconst (v := (1 : Int32)) hx hb d_Md_begin_187 (by decide) ?_
  refine lv_isub hx hb d_Md_begin_188 ?_
  refine lv_iload_n hx hb d_Md_begin_189 rfl (lv_at hl 1 rfl) ?_
  obtain ⟨hi, h⟩ := h
  refine kw_iast hx hb hK hst 73 (WS_a73 g σ) hi (WS_s73 g σ _ _) d_Md_begin_190 (fun σ1 H locs e1 hst => ?_)
  replace h := h σ1 e1
  refine lv_aload_n hx hb d_Md_begin_191 rfl (lv_at hl 0 rfl) ?_
  refine va_get (D := D) (ci := 10) (C := R_Md) (T := T_Md) (N := 46) hx hb hts in_Md hown hK hst.1 54 (WS_o54 g σ1) rfl 10 (by decide) (hts _ gw1074) (fun _ h9 => h9) rfl d_Md_begin_192 ?_
  refine lv_iload hx hb d_Md_begin_195 (lv_at hl 2 rfl) ?_
  refine lv_dup2_11 hx hb d_Md_begin_197 rfl rfl ?_
  obtain ⟨hi, h⟩ := h
  refine va_iald hx hb hK hst.1 64 0 (WS_a64 g σ1) rfl hi d_Md_begin_198 ?_
  refine lv_iconst (v := (1 : Int32)) hx hb d_Md_begin_199 (by decide) ?_
  refine lv_iadd hx hb d_Md_begin_200 ?_
  obtain ⟨hi, h⟩ := h
  refine kw_iast hx hb hK hst 64 (WS_a64 g σ1) hi (WS_s64 g σ1 _ _) d_Md_begin_201 (fun σ2 H locs e2 hst => ?_)
  replace h := h σ2 e2
  refine lv_iload_n hx hb d_Md_begin_202 rfl (lv_at hl 1 rfl) ?_
  exact kw_iret hx hb hr hlocks hst h d_Md_begin_203
set_option maxRecDepth 100000 in
set_option maxHeartbeats 4000000 in
theorem a_Md_begin {p : Program} {l : Launch} {e : Env} {s : State} {m : MethodId} {args : Array Value} {below : List Frame} {meth : Method} {c : Code} {D : va_G} {g : Gm} {A : Nat → Prop} {post : Int32 → Sg → Prop} (C : kC p s m args meth c k_Md_begin 5 (some .int) GW R_Md D vwCl g (Zk g) A) : ∀ n : Nat, J_Md_begin_1 p l e s m args below meth c D g A post (wp_Md_begin post n) ∧ J_Md_begin_2 p l e s m args below meth c D g A post (wp_Md_begin post n) := by
  intro n
  induction n with
  | zero => exact ⟨fun _ _ _ _ _ _ _ h => h.elim, fun _ _ _ _ _ _ _ _ h => h.elim⟩
  | succ n ih => exact ⟨fun x3 σ H locs ls hl hst h => b_Md_begin_1 (F := wp_Md_begin post n) C (ih.2) x3 σ H locs ls hl hst h, fun x3 x4 σ H locs ls hl hst h => b_Md_begin_2 (F := wp_Md_begin post n) C x3 x4 σ H locs ls hl hst h⟩
set_option maxRecDepth 100000 in
set_option maxHeartbeats 4000000 in
theorem c_Md_begin (l : Launch) {D : va_G} {g : Gm} {sz : Nat} (x1 : Int32) (x2 : Int32) {σ : Sg} {post : Int32 → Sg → Prop} (h : wq_Md_begin x1 x2 σ post) : Met l y_Md_begin (.code y_Md_begin k_Md_begin 5 (some .int) :: GW) { frames := 0, cells := 0, slots := 0, locals := 0 } (PcW D vwCl (WS g) g (Zk g) σ sz [.ref (g.1 54), .int x1, .int x2]) (QiW D vwCl (WS g) post (va_A (WS g σ) sz)) 0 0 (va_A (WS g σ) sz) := by
  refine kw_entry (own := R_Md) (by decide) rfl rfl (Nat.le_of_ble_eq_true rfl) ?_
  intro p e s m below meth c ls hsz C hin hl hst
  obtain ⟨n, h⟩ := h
  cases n with
  | zero => exact h.elim
  | succ n =>
    have ih := a_Md_begin (l := l) (e := e) (below := below) (post := post) C n
    exact b_Md_begin_0 (F := wp_Md_begin post n) C (ih.1) x1 x2 σ _ _ ls hl hst h
/-! SchemaDeskModel.number (I)V -/
abbrev k_Md_number : ByteArray := prog_12_method_25_code
abbrev y_Md_number : MethodName := ⟨"SchemaDeskModel", "number", "(I)V"⟩
theorem d_Md_number_0 : decode k_Md_number 0 = .ok (.aload_n 0, 1) := by decide +kernel
theorem d_Md_number_1 : decode k_Md_number 1 = .ok (.getfield 77, 3) := by decide +kernel
theorem d_Md_number_4 : decode k_Md_number 4 = .ok (.iload_n 1, 1) := by decide +kernel
theorem d_Md_number_5 : decode k_Md_number 5 = .ok (.iconst 3, 1) := by decide +kernel
theorem d_Md_number_6 : decode k_Md_number 6 = .ok (.iastore, 1) := by decide +kernel
theorem d_Md_number_7 : decode k_Md_number 7 = .ok (.aload_n 0, 1) := by decide +kernel
theorem d_Md_number_8 : decode k_Md_number 8 = .ok (.invokevirtual 208, 3) := by decide +kernel
theorem d_Md_number_11 : decode k_Md_number 11 = .ok (.bipush 45, 2) := by decide +kernel
theorem d_Md_number_13 : decode k_Md_number 13 = .ok (.if_icmp .ne 7, 3) := by decide +kernel
theorem d_Md_number_16 : decode k_Md_number 16 = .ok (.iconst 1, 1) := by decide +kernel
theorem d_Md_number_17 : decode k_Md_number 17 = .ok (.goto 4, 3) := by decide +kernel
theorem d_Md_number_20 : decode k_Md_number 20 = .ok (.iconst 0, 1) := by decide +kernel
theorem d_Md_number_21 : decode k_Md_number 21 = .ok (.istore_n 2, 1) := by decide +kernel
theorem d_Md_number_22 : decode k_Md_number 22 = .ok (.iload_n 2, 1) := by decide +kernel
theorem d_Md_number_23 : decode k_Md_number 23 = .ok (.ifCond .eq 13, 3) := by decide +kernel
theorem d_Md_number_26 : decode k_Md_number 26 = .ok (.aload_n 0, 1) := by decide +kernel
theorem d_Md_number_27 : decode k_Md_number 27 = .ok (.dup, 1) := by decide +kernel
theorem d_Md_number_28 : decode k_Md_number 28 = .ok (.getfield 202, 3) := by decide +kernel
theorem d_Md_number_31 : decode k_Md_number 31 = .ok (.iconst 1, 1) := by decide +kernel
theorem d_Md_number_32 : decode k_Md_number 32 = .ok (.iadd, 1) := by decide +kernel
theorem d_Md_number_33 : decode k_Md_number 33 = .ok (.putfield 202, 3) := by decide +kernel
theorem d_Md_number_36 : decode k_Md_number 36 = .ok (.aload_n 0, 1) := by decide +kernel
theorem d_Md_number_37 : decode k_Md_number 37 = .ok (.getfield 202, 3) := by decide +kernel
theorem d_Md_number_40 : decode k_Md_number 40 = .ok (.istore_n 3, 1) := by decide +kernel
theorem d_Md_number_41 : decode k_Md_number 41 = .ok (.iconst 0, 1) := by decide +kernel
theorem d_Md_number_42 : decode k_Md_number 42 = .ok (.istore 4, 2) := by decide +kernel
theorem d_Md_number_44 : decode k_Md_number 44 = .ok (.aload_n 0, 1) := by decide +kernel
theorem d_Md_number_45 : decode k_Md_number 45 = .ok (.invokevirtual 208, 3) := by decide +kernel
theorem d_Md_number_48 : decode k_Md_number 48 = .ok (.invokestatic 215, 3) := by decide +kernel
theorem d_Md_number_51 : decode k_Md_number 51 = .ok (.ifCond .eq 42, 3) := by decide +kernel
theorem d_Md_number_54 : decode k_Md_number 54 = .ok (.aload_n 0, 1) := by decide +kernel
theorem d_Md_number_55 : decode k_Md_number 55 = .ok (.getfield 202, 3) := by decide +kernel
theorem d_Md_number_58 : decode k_Md_number 58 = .ok (.iload_n 3, 1) := by decide +kernel
theorem d_Md_number_59 : decode k_Md_number 59 = .ok (.isub, 1) := by decide +kernel
theorem d_Md_number_60 : decode k_Md_number 60 = .ok (.bipush 6, 2) := by decide +kernel
theorem d_Md_number_62 : decode k_Md_number 62 = .ok (.if_icmp .ge 18, 3) := by decide +kernel
theorem d_Md_number_65 : decode k_Md_number 65 = .ok (.bipush 10, 2) := by decide +kernel
theorem d_Md_number_67 : decode k_Md_number 67 = .ok (.iload 4, 2) := by decide +kernel
theorem d_Md_number_69 : decode k_Md_number 69 = .ok (.imul, 1) := by decide +kernel
theorem d_Md_number_70 : decode k_Md_number 70 = .ok (.aload_n 0, 1) := by decide +kernel
theorem d_Md_number_71 : decode k_Md_number 71 = .ok (.invokevirtual 208, 3) := by decide +kernel
theorem d_Md_number_74 : decode k_Md_number 74 = .ok (.iadd, 1) := by decide +kernel
theorem d_Md_number_75 : decode k_Md_number 75 = .ok (.bipush 48, 2) := by decide +kernel
theorem d_Md_number_77 : decode k_Md_number 77 = .ok (.isub, 1) := by decide +kernel
theorem d_Md_number_78 : decode k_Md_number 78 = .ok (.istore 4, 2) := by decide +kernel
theorem d_Md_number_80 : decode k_Md_number 80 = .ok (.aload_n 0, 1) := by decide +kernel
theorem d_Md_number_81 : decode k_Md_number 81 = .ok (.dup, 1) := by decide +kernel
theorem d_Md_number_82 : decode k_Md_number 82 = .ok (.getfield 202, 3) := by decide +kernel
theorem d_Md_number_85 : decode k_Md_number 85 = .ok (.iconst 1, 1) := by decide +kernel
theorem d_Md_number_86 : decode k_Md_number 86 = .ok (.iadd, 1) := by decide +kernel
theorem d_Md_number_87 : decode k_Md_number 87 = .ok (.putfield 202, 3) := by decide +kernel
theorem d_Md_number_90 : decode k_Md_number 90 = .ok (.goto (-46), 3) := by decide +kernel
theorem d_Md_number_93 : decode k_Md_number 93 = .ok (.aload_n 0, 1) := by decide +kernel
theorem d_Md_number_94 : decode k_Md_number 94 = .ok (.getfield 107, 3) := by decide +kernel
theorem d_Md_number_97 : decode k_Md_number 97 = .ok (.iload_n 1, 1) := by decide +kernel
theorem d_Md_number_98 : decode k_Md_number 98 = .ok (.iload_n 2, 1) := by decide +kernel
theorem d_Md_number_99 : decode k_Md_number 99 = .ok (.ifCond .eq 9, 3) := by decide +kernel
theorem d_Md_number_102 : decode k_Md_number 102 = .ok (.iload 4, 2) := by decide +kernel
theorem d_Md_number_104 : decode k_Md_number 104 = .ok (.ineg, 1) := by decide +kernel
theorem d_Md_number_105 : decode k_Md_number 105 = .ok (.goto 5, 3) := by decide +kernel
theorem d_Md_number_108 : decode k_Md_number 108 = .ok (.iload 4, 2) := by decide +kernel
theorem d_Md_number_110 : decode k_Md_number 110 = .ok (.iastore, 1) := by decide +kernel
theorem d_Md_number_111 : decode k_Md_number 111 = .ok (.aload_n 0, 1) := by decide +kernel
theorem d_Md_number_112 : decode k_Md_number 112 = .ok (.getfield 202, 3) := by decide +kernel
theorem d_Md_number_115 : decode k_Md_number 115 = .ok (.iload_n 3, 1) := by decide +kernel
theorem d_Md_number_116 : decode k_Md_number 116 = .ok (.if_icmp .ne 14, 3) := by decide +kernel
theorem d_Md_number_119 : decode k_Md_number 119 = .ok (.aload_n 0, 1) := by decide +kernel
theorem d_Md_number_120 : decode k_Md_number 120 = .ok (.iconst 5, 1) := by decide +kernel
theorem d_Md_number_121 : decode k_Md_number 121 = .ok (.aload_n 0, 1) := by decide +kernel
theorem d_Md_number_122 : decode k_Md_number 122 = .ok (.getfield 80, 3) := by decide +kernel
theorem d_Md_number_125 : decode k_Md_number 125 = .ok (.iload_n 1, 1) := by decide +kernel
theorem d_Md_number_126 : decode k_Md_number 126 = .ok (.iaload, 1) := by decide +kernel
theorem d_Md_number_127 : decode k_Md_number 127 = .ok (.invokevirtual 221, 3) := by decide +kernel
theorem d_Md_number_130 : decode k_Md_number 130 = .ok (.aload_n 0, 1) := by decide +kernel
theorem d_Md_number_131 : decode k_Md_number 131 = .ok (.getfield 202, 3) := by decide +kernel
theorem d_Md_number_134 : decode k_Md_number 134 = .ok (.iload_n 3, 1) := by decide +kernel
theorem d_Md_number_135 : decode k_Md_number 135 = .ok (.isub, 1) := by decide +kernel
theorem d_Md_number_136 : decode k_Md_number 136 = .ok (.bipush 6, 2) := by decide +kernel
theorem d_Md_number_138 : decode k_Md_number 138 = .ok (.if_icmp .le 15, 3) := by decide +kernel
theorem d_Md_number_141 : decode k_Md_number 141 = .ok (.aload_n 0, 1) := by decide +kernel
theorem d_Md_number_142 : decode k_Md_number 142 = .ok (.bipush 6, 2) := by decide +kernel
theorem d_Md_number_144 : decode k_Md_number 144 = .ok (.aload_n 0, 1) := by decide +kernel
theorem d_Md_number_145 : decode k_Md_number 145 = .ok (.getfield 80, 3) := by decide +kernel
theorem d_Md_number_148 : decode k_Md_number 148 = .ok (.iload_n 1, 1) := by decide +kernel
theorem d_Md_number_149 : decode k_Md_number 149 = .ok (.iaload, 1) := by decide +kernel
theorem d_Md_number_150 : decode k_Md_number 150 = .ok (.invokevirtual 221, 3) := by decide +kernel
theorem d_Md_number_153 : decode k_Md_number 153 = .ok (.return_, 1) := by decide +kernel
def wb_Md_number_0 (F : Nat → Int32 → Int32 → Int32 → Int32 → Sg → Prop) (post : Sg → Prop) (x1 : Int32) (σ : Sg) : Prop := (vp_in x1 240 ∧ (∀ σ1, σ1 = si σ 59 x1.toNatClampNeg (3 : Int32) → (wq_Md_here  σ1 (fun r2 σ2 => ((¬ r2 = (45 : Int32) → F 1 x1 (0 : Int32) 0 0 σ2) ∧ (r2 = (45 : Int32) → F 1 x1 (1 : Int32) 0 0 σ2))))))
def wb_Md_number_1 (F : Nat → Int32 → Int32 → Int32 → Int32 → Sg → Prop) (post : Sg → Prop) (x1 : Int32) (x2 : Int32) (σ : Sg) : Prop := ((x2 = 0 → F 2 x1 x2 (σ.1 54 19) (0 : Int32) σ) ∧ (¬ x2 = 0 → (∀ σ1, σ1 = si σ 54 19 ((σ.1 54 19) + (1 : Int32)) → F 2 x1 x2 (σ1.1 54 19) (0 : Int32) σ1)))
def wb_Md_number_2 (F : Nat → Int32 → Int32 → Int32 → Int32 → Sg → Prop) (post : Sg → Prop) (x1 : Int32) (x2 : Int32) (x3 : Int32) (x4 : Int32) (σ : Sg) : Prop := (wq_Md_here  σ (fun r1 σ1 => (wq_Md_isDigit r1 σ1 (fun r2 σ2 => ((r2 = 0 → ((x2 = 0 → (vp_in x1 240 ∧ (∀ σ3, σ3 = si σ2 69 x1.toNatClampNeg x4 → F 3 x1 0 x3 0 σ3))) ∧ (¬ x2 = 0 → (vp_in x1 240 ∧ (∀ σ3, σ3 = si σ2 69 x1.toNatClampNeg (-x4) → F 3 x1 0 x3 0 σ3))))) ∧ (¬ r2 = 0 → (((6 : Int32) ≤ ((σ2.1 54 19) - x3) → (∀ σ3, σ3 = si σ2 54 19 ((σ2.1 54 19) + (1 : Int32)) → F 2 x1 x2 x3 x4 σ3)) ∧ (¬ (6 : Int32) ≤ ((σ2.1 54 19) - x3) → (wq_Md_here  σ2 (fun r3 σ3 => (∀ σ4, σ4 = si σ3 54 19 ((σ3.1 54 19) + (1 : Int32)) → F 2 x1 x2 x3 ((((10 : Int32) * x4) + r3) - (48 : Int32)) σ4)))))))))))
def wb_Md_number_3 (F : Nat → Int32 → Int32 → Int32 → Int32 → Sg → Prop) (post : Sg → Prop) (x1 : Int32) (x3 : Int32) (σ : Sg) : Prop := ((¬ (σ.1 54 19) = x3 → F 4 x1 0 x3 0 σ) ∧ ((σ.1 54 19) = x3 → (vp_in x1 240 ∧ (wq_Md_note (5 : Int32) (σ.1 60 x1.toNatClampNeg) σ (fun σ1 => F 4 x1 0 x3 0 σ1)))))
def wb_Md_number_4 (F : Nat → Int32 → Int32 → Int32 → Int32 → Sg → Prop) (post : Sg → Prop) (x1 : Int32) (x3 : Int32) (σ : Sg) : Prop := ((((σ.1 54 19) - x3) ≤ (6 : Int32) → post σ) ∧ (¬ ((σ.1 54 19) - x3) ≤ (6 : Int32) → (vp_in x1 240 ∧ (wq_Md_note (6 : Int32) (σ.1 60 x1.toNatClampNeg) σ (fun σ1 => post σ1)))))
def wp_Md_number (post : Sg → Prop) : Nat → Nat → Int32 → Int32 → Int32 → Int32 → Sg → Prop
  | 0, _, _, _, _, _, _ => False
  | n + 1, k, x1, x2, x3, x4, σ => match k with
    | 0 => wb_Md_number_0 (wp_Md_number post n) post x1 σ
    | 1 => wb_Md_number_1 (wp_Md_number post n) post x1 x2 σ
    | 2 => wb_Md_number_2 (wp_Md_number post n) post x1 x2 x3 x4 σ
    | 3 => wb_Md_number_3 (wp_Md_number post n) post x1 x3 σ
    | 4 => wb_Md_number_4 (wp_Md_number post n) post x1 x3 σ
    | _ => False
def wq_Md_number (x1 : Int32) (σ : Sg) (post : Sg → Prop) : Prop := ∃ n, wp_Md_number post n 0 x1 0 0 0 σ
def J_Md_number_1 (p : Program) (l : Launch) (e : Env) (s : State) (m : MethodId) (args : Array Value) (below : List Frame) (meth : Method) (c : Code) (D : va_G) (g : Gm) (A : Nat → Prop) (post : Sg → Prop) (F : Nat → Int32 → Int32 → Int32 → Int32 → Sg → Prop) : Prop := ∀ (x1 : Int32) (x2 : Int32) (σ : Sg) (H : Heap) (locs : List Loc) (ls : Array Slot), lv_has ls 5 [(0, .ref (g.1 54)), (1, .int x1), (2, .int x2)] → Wst D vwCl (WS g) A s σ H locs → F 1 x1 x2 0 0 σ → W p l e { frames := 1, cells := 0, slots := 0, locals := 22 } s m args below meth c H locs 0 0 (MQ below (QvW D vwCl (WS g) post A) args s 0 0 A) (F0 m 22 ls [])
def J_Md_number_2 (p : Program) (l : Launch) (e : Env) (s : State) (m : MethodId) (args : Array Value) (below : List Frame) (meth : Method) (c : Code) (D : va_G) (g : Gm) (A : Nat → Prop) (post : Sg → Prop) (F : Nat → Int32 → Int32 → Int32 → Int32 → Sg → Prop) : Prop := ∀ (x1 : Int32) (x2 : Int32) (x3 : Int32) (x4 : Int32) (σ : Sg) (H : Heap) (locs : List Loc) (ls : Array Slot), lv_has ls 5 [(0, .ref (g.1 54)), (1, .int x1), (2, .int x2), (3, .int x3), (4, .int x4)] → Wst D vwCl (WS g) A s σ H locs → F 2 x1 x2 x3 x4 σ → W p l e { frames := 1, cells := 0, slots := 0, locals := 22 } s m args below meth c H locs 0 0 (MQ below (QvW D vwCl (WS g) post A) args s 0 0 A) (F0 m 44 ls [])
def J_Md_number_3 (p : Program) (l : Launch) (e : Env) (s : State) (m : MethodId) (args : Array Value) (below : List Frame) (meth : Method) (c : Code) (D : va_G) (g : Gm) (A : Nat → Prop) (post : Sg → Prop) (F : Nat → Int32 → Int32 → Int32 → Int32 → Sg → Prop) : Prop := ∀ (x1 : Int32) (x3 : Int32) (σ : Sg) (H : Heap) (locs : List Loc) (ls : Array Slot), lv_has ls 5 [(0, .ref (g.1 54)), (1, .int x1), (3, .int x3)] → Wst D vwCl (WS g) A s σ H locs → F 3 x1 0 x3 0 σ → W p l e { frames := 1, cells := 0, slots := 0, locals := 22 } s m args below meth c H locs 0 0 (MQ below (QvW D vwCl (WS g) post A) args s 0 0 A) (F0 m 111 ls [])
def J_Md_number_4 (p : Program) (l : Launch) (e : Env) (s : State) (m : MethodId) (args : Array Value) (below : List Frame) (meth : Method) (c : Code) (D : va_G) (g : Gm) (A : Nat → Prop) (post : Sg → Prop) (F : Nat → Int32 → Int32 → Int32 → Int32 → Sg → Prop) : Prop := ∀ (x1 : Int32) (x3 : Int32) (σ : Sg) (H : Heap) (locs : List Loc) (ls : Array Slot), lv_has ls 5 [(0, .ref (g.1 54)), (1, .int x1), (3, .int x3)] → Wst D vwCl (WS g) A s σ H locs → F 4 x1 0 x3 0 σ → W p l e { frames := 1, cells := 0, slots := 0, locals := 22 } s m args below meth c H locs 0 0 (MQ below (QvW D vwCl (WS g) post A) args s 0 0 A) (F0 m 130 ls [])
set_option maxRecDepth 100000 in
set_option maxHeartbeats 4000000 in
theorem b_Md_number_0 {p : Program} {l : Launch} {e : Env} {s : State} {m : MethodId} {args : Array Value} {below : List Frame} {meth : Method} {c : Code} {D : va_G} {g : Gm} {A : Nat → Prop} {post : Sg → Prop} {F : Nat → Int32 → Int32 → Int32 → Int32 → Sg → Prop} (C : kC p s m args meth c k_Md_number 5 (none) GW R_Md D vwCl g (Zk g) A) (j1 : J_Md_number_1 p l e s m args below meth c D g A post F) (x1 : Int32) (σ : Sg) (H : Heap) (locs : List Loc) (ls : Array Slot) (hl : lv_has ls 5 [(0, .ref (g.1 54)), (1, .int x1)]) (hst : Wst D vwCl (WS g) A s σ H locs) (h : wb_Md_number_0 F post x1 σ) : W p l e { frames := 1, cells := 0, slots := 0, locals := 22 } s m args below meth c H locs 0 0 (MQ below (QvW D vwCl (WS g) post A) args s 0 0 A) (F0 m 0 ls []) := by
  obtain ⟨hx, hb, hr, hml, hown, hts, hlocks, hK, hZ, hA⟩ := C
  unfold wb_Md_number_0 at h
  refine lv_aload_n hx hb d_Md_number_0 rfl (lv_at hl 0 rfl) ?_
  refine va_get (D := D) (ci := 10) (C := R_Md) (T := T_Md) (N := 46) hx hb hts in_Md hown hK hst.1 54 (WS_o54 g σ) rfl 5 (by decide) (hts _ gw1069) (fun _ h9 => h9) rfl d_Md_number_1 ?_
  refine lv_iload_n hx hb d_Md_number_4 rfl (lv_at hl 1 rfl) ?_
  refine lv_iconst (v := (3 : Int32)) hx hb d_Md_number_5 (by decide) ?_
  obtain ⟨hi, h⟩ := h
  refine kw_iast hx hb hK hst 59 (WS_a59 g σ) hi (WS_s59 g σ _ _) d_Md_number_6 (fun σ1 H locs e1 hst => ?_)
  replace h := h σ1 e1
  refine lv_aload_n hx hb d_Md_number_7 rfl (lv_at hl 0 rfl) ?_
  refine kw_calli (va_runV (As := []) (rest := []) (b := g.1 54) ⟨hx, hb, hml, hown, hts⟩ (c_Md_here l h) (cwV 0 hts (gd_v gw1260 gw1262 gs49 gw15 gw1263) rfl rfl rfl (by decide +kernel) ⟨Nat.le_of_ble_eq_true rfl, Nat.le_of_ble_eq_true rfl⟩) ⟨kw_blind (Zk_ok g), va_recv hK hst.1 rfl (WS_o54 g σ1), kw_pre (Zk_ok g) hK hZ hA hst⟩ rfl rfl hl.1 rfl (lv_room (Nat.le_of_ble_eq_true rfl)) d_Md_number_8 ⟨Nat.le_of_ble_eq_true rfl, Nat.le_of_ble_eq_true rfl⟩) hst hA (fun r2 σ2 H locs h hst => ?_)
  refine lv_bipush (v := (45 : Int32)) hx hb d_Md_number_11 (by decide) ?_
  refine lv_icmp_ne (tgt := 20) hx hb d_Md_number_13 (by decide) (fun hc => ?_) (fun hc => ?_)
  · replace h := h.1 hc
    refine lv_iconst (v := (0 : Int32)) hx hb d_Md_number_20 (by decide) ?_
    refine lv_istore_n hx hb d_Md_number_21 rfl hl (by decide) rfl (fun ls hl => ?_)
    have hl : lv_has ls 5 [(2, .int (0 : Int32)), (0, .ref (g.1 54)), (1, .int x1)] := hl
    exact j1 x1 (0 : Int32) σ2 _ _ _ (lv_sub hl [1, 2, 0] rfl) hst h
  · replace h := h.2 hc
    refine lv_iconst (v := (1 : Int32)) hx hb d_Md_number_16 (by decide) ?_
    refine lv_goto (tgt := 21) hx hb d_Md_number_17 (by decide) ?_
    refine lv_istore_n hx hb d_Md_number_21 rfl hl (by decide) rfl (fun ls hl => ?_)
    have hl : lv_has ls 5 [(2, .int (1 : Int32)), (0, .ref (g.1 54)), (1, .int x1)] := hl
    exact j1 x1 (1 : Int32) σ2 _ _ _ (lv_sub hl [1, 2, 0] rfl) hst h
set_option maxRecDepth 100000 in
set_option maxHeartbeats 4000000 in
theorem b_Md_number_1 {p : Program} {l : Launch} {e : Env} {s : State} {m : MethodId} {args : Array Value} {below : List Frame} {meth : Method} {c : Code} {D : va_G} {g : Gm} {A : Nat → Prop} {post : Sg → Prop} {F : Nat → Int32 → Int32 → Int32 → Int32 → Sg → Prop} (C : kC p s m args meth c k_Md_number 5 (none) GW R_Md D vwCl g (Zk g) A) (j2 : J_Md_number_2 p l e s m args below meth c D g A post F) (x1 : Int32) (x2 : Int32) (σ : Sg) (H : Heap) (locs : List Loc) (ls : Array Slot) (hl : lv_has ls 5 [(0, .ref (g.1 54)), (1, .int x1), (2, .int x2)]) (hst : Wst D vwCl (WS g) A s σ H locs) (h : wb_Md_number_1 F post x1 x2 σ) : W p l e { frames := 1, cells := 0, slots := 0, locals := 22 } s m args below meth c H locs 0 0 (MQ below (QvW D vwCl (WS g) post A) args s 0 0 A) (F0 m 22 ls []) := by
  obtain ⟨hx, hb, hr, hml, hown, hts, hlocks, hK, hZ, hA⟩ := C
  unfold wb_Md_number_1 at h
  refine lv_iload_n hx hb d_Md_number_22 rfl (lv_at hl 2 rfl) ?_
  refine lv_if_eq (tgt := 36) hx hb d_Md_number_23 (by decide) (fun hc => ?_) (fun hc => ?_)
  · replace h := h.1 hc
    refine lv_aload_n hx hb d_Md_number_36 rfl (lv_at hl 0 rfl) ?_
    refine va_get (D := D) (ci := 10) (C := R_Md) (T := T_Md) (N := 46) hx hb hts in_Md hown hK hst.1 54 (WS_o54 g σ) rfl 19 (by decide) (hts _ gw1083) (fun _ h9 => h9) rfl d_Md_number_37 ?_
    refine lv_istore_n hx hb d_Md_number_40 rfl hl (by decide) rfl (fun ls hl => ?_)
    have hl : lv_has ls 5 [(3, .int (σ.1 54 19)), (0, .ref (g.1 54)), (1, .int x1), (2, .int x2)] := hl
    refine lv_iconst (v := (0 : Int32)) hx hb d_Md_number_41 (by decide) ?_
    refine lv_istore hx hb d_Md_number_42 hl (by decide) rfl (fun ls hl => ?_)
    have hl : lv_has ls 5 [(4, .int (0 : Int32)), (3, .int (σ.1 54 19)), (0, .ref (g.1 54)), (1, .int x1), (2, .int x2)] := hl
    exact j2 x1 x2 (σ.1 54 19) (0 : Int32) σ _ _ _ (lv_sub hl [2, 3, 4, 1, 0] rfl) hst h
  · replace h := h.2 hc
    refine lv_aload_n hx hb d_Md_number_26 rfl (lv_at hl 0 rfl) ?_
    refine lv_dup hx hb d_Md_number_27 rfl ?_
    refine va_get (D := D) (ci := 10) (C := R_Md) (T := T_Md) (N := 46) hx hb hts in_Md hown hK hst.1 54 (WS_o54 g σ) rfl 19 (by decide) (hts _ gw1083) (fun _ h9 => h9) rfl d_Md_number_28 ?_
    refine lv_iconst (v := (1 : Int32)) hx hb d_Md_number_31 (by decide) ?_
    refine lv_iadd hx hb d_Md_number_32 ?_
    refine kw_put (D := D) (ci := 10) (ty := .int) (C := R_Md) (T := T_Md) (N := 46) hx hb hts in_Md ty_Md ty_Md_ok nm_Md hown hK hst 54 (WS_o54 g σ) rfl 19 (by decide) (hts _ gw1083) (fun _ h9 => h9) rfl (by decide +kernel) rfl rfl (Nat.le_of_ble_eq_true rfl) (WS_p54_19 g σ _) d_Md_number_33 (fun σ1 H locs e1 hst => ?_)
    replace h := h σ1 e1
    refine lv_aload_n hx hb d_Md_number_36 rfl (lv_at hl 0 rfl) ?_
    refine va_get (D := D) (ci := 10) (C := R_Md) (T := T_Md) (N := 46) hx hb hts in_Md hown hK hst.1 54 (WS_o54 g σ1) rfl 19 (by decide) (hts _ gw1083) (fun _ h9 => h9) rfl d_Md_number_37 ?_
    refine lv_istore_n hx hb d_Md_number_40 rfl hl (by decide) rfl (fun ls hl => ?_)
    have hl : lv_has ls 5 [(3, .int (σ1.1 54 19)), (0, .ref (g.1 54)), (1, .int x1), (2, .int x2)] := hl
    refine lv_iconst (v := (0 : Int32)) hx hb d_Md_number_41 (by decide) ?_
    refine lv_istore hx hb d_Md_number_42 hl (by decide) rfl (fun ls hl => ?_)
    have hl : lv_has ls 5 [(4, .int (0 : Int32)), (3, .int (σ1.1 54 19)), (0, .ref (g.1 54)), (1, .int x1), (2, .int x2)] := hl
    exact j2 x1 x2 (σ1.1 54 19) (0 : Int32) σ1 _ _ _ (lv_sub hl [2, 3, 4, 1, 0] rfl) hst h
set_option maxRecDepth 100000 in
set_option maxHeartbeats 4000000 in
theorem b_Md_number_2 {p : Program} {l : Launch} {e : Env} {s : State} {m : MethodId} {args : Array Value} {below : List Frame} {meth : Method} {c : Code} {D : va_G} {g : Gm} {A : Nat → Prop} {post : Sg → Prop} {F : Nat → Int32 → Int32 → Int32 → Int32 → Sg → Prop} (C : kC p s m args meth c k_Md_number 5 (none) GW R_Md D vwCl g (Zk g) A) (j2 : J_Md_number_2 p l e s m args below meth c D g A post F) (j3 : J_Md_number_3 p l e s m args below meth c D g A post F) (x1 : Int32) (x2 : Int32) (x3 : Int32) (x4 : Int32) (σ : Sg) (H : Heap) (locs : List Loc) (ls : Array Slot) (hl : lv_has ls 5 [(0, .ref (g.1 54)), (1, .int x1), (2, .int x2), (3, .int x3), (4, .int x4)]) (hst : Wst D vwCl (WS g) A s σ H locs) (h : wb_Md_number_2 F post x1 x2 x3 x4 σ) : W p l e { frames := 1, cells := 0, slots := 0, locals := 22 } s m args below meth c H locs 0 0 (MQ below (QvW D vwCl (WS g) post A) args s 0 0 A) (F0 m 44 ls []) := by
  obtain ⟨hx, hb, hr, hml, hown, hts, hlocks, hK, hZ, hA⟩ := C
  unfold wb_Md_number_2 at h
  refine lv_aload_n hx hb d_Md_number_44 rfl (lv_at hl 0 rfl) ?_
  refine kw_calli (va_runV (As := []) (rest := []) (b := g.1 54) ⟨hx, hb, hml, hown, hts⟩ (c_Md_here l h) (cwV 0 hts (gd_v gw1260 gw1262 gs49 gw15 gw1263) rfl rfl rfl (by decide +kernel) ⟨Nat.le_of_ble_eq_true rfl, Nat.le_of_ble_eq_true rfl⟩) ⟨kw_blind (Zk_ok g), va_recv hK hst.1 rfl (WS_o54 g σ), kw_pre (Zk_ok g) hK hZ hA hst⟩ rfl rfl hl.1 rfl (lv_room (Nat.le_of_ble_eq_true rfl)) d_Md_number_45 ⟨Nat.le_of_ble_eq_true rfl, Nat.le_of_ble_eq_true rfl⟩) hst hA (fun r1 σ1 H locs h hst => ?_)
  refine kw_calli (va_runS (As := [.int r1]) (rest := []) ⟨hx, hb, hml, hown, hts⟩ (c_Md_isDigit l r1 h) (cwS 1 hts (gd_s gw1268 gw1269 gw15 gw1270) rfl rfl rfl (by decide +kernel) ⟨Nat.le_of_ble_eq_true rfl, Nat.le_of_ble_eq_true rfl⟩) ⟨kw_blind (Zk_ok g), kw_pre (Zk_ok g) hK hZ hA hst⟩ rfl rfl hl.1 rfl (lv_room (Nat.le_of_ble_eq_true rfl)) d_Md_number_48 ⟨Nat.le_of_ble_eq_true rfl, Nat.le_of_ble_eq_true rfl⟩) hst hA (fun r2 σ2 H locs h hst => ?_)
  refine lv_if_eq (tgt := 93) hx hb d_Md_number_51 (by decide) (fun hc => ?_) (fun hc => ?_)
  · replace h := h.1 hc
    refine lv_aload_n hx hb d_Md_number_93 rfl (lv_at hl 0 rfl) ?_
    refine va_get (D := D) (ci := 10) (C := R_Md) (T := T_Md) (N := 46) hx hb hts in_Md hown hK hst.1 54 (WS_o54 g σ2) rfl 15 (by decide) (hts _ gw1079) (fun _ h9 => h9) rfl d_Md_number_94 ?_
    refine lv_iload_n hx hb d_Md_number_97 rfl (lv_at hl 1 rfl) ?_
    refine lv_iload_n hx hb d_Md_number_98 rfl (lv_at hl 2 rfl) ?_
    refine lv_if_eq (tgt := 108) hx hb d_Md_number_99 (by decide) (fun hc => ?_) (fun hc => ?_)
    · replace h := h.1 hc
      refine lv_iload hx hb d_Md_number_108 (lv_at hl 4 rfl) ?_
      obtain ⟨hi, h⟩ := h
      refine kw_iast hx hb hK hst 69 (WS_a69 g σ2) hi (WS_s69 g σ2 _ _) d_Md_number_110 (fun σ3 H locs e3 hst => ?_)
      replace h := h σ3 e3
      exact j3 x1 x3 σ3 _ _ _ (lv_sub hl [0, 1, 3] rfl) hst h
    · replace h := h.2 hc
      refine lv_iload hx hb d_Md_number_102 (lv_at hl 4 rfl) ?_
      refine lv_ineg hx hb d_Md_number_104 ?_
      refine lv_goto (tgt := 110) hx hb d_Md_number_105 (by decide) ?_
      obtain ⟨hi, h⟩ := h
      refine kw_iast hx hb hK hst 69 (WS_a69 g σ2) hi (WS_s69 g σ2 _ _) d_Md_number_110 (fun σ3 H locs e3 hst => ?_)
      replace h := h σ3 e3
      exact j3 x1 x3 σ3 _ _ _ (lv_sub hl [0, 1, 3] rfl) hst h
  · replace h := h.2 hc
    refine lv_aload_n hx hb d_Md_number_54 rfl (lv_at hl 0 rfl) ?_
    refine va_get (D := D) (ci := 10) (C := R_Md) (T := T_Md) (N := 46) hx hb hts in_Md hown hK hst.1 54 (WS_o54 g σ2) rfl 19 (by decide) (hts _ gw1083) (fun _ h9 => h9) rfl d_Md_number_55 ?_
    refine lv_iload_n hx hb d_Md_number_58 rfl (lv_at hl 3 rfl) ?_
    refine lv_isub hx hb d_Md_number_59 ?_
    refine lv_bipush (v := (6 : Int32)) hx hb d_Md_number_60 (by decide) ?_
    refine lv_icmp_ge (tgt := 80) hx hb d_Md_number_62 (by decide) (fun hc => ?_) (fun hc => ?_)
    · replace h := h.1 hc
      refine lv_aload_n hx hb d_Md_number_80 rfl (lv_at hl 0 rfl) ?_
      refine lv_dup hx hb d_Md_number_81 rfl ?_
      refine va_get (D := D) (ci := 10) (C := R_Md) (T := T_Md) (N := 46) hx hb hts in_Md hown hK hst.1 54 (WS_o54 g σ2) rfl 19 (by decide) (hts _ gw1083) (fun _ h9 => h9) rfl d_Md_number_82 ?_
      refine lv_iconst (v := (1 : Int32)) hx hb d_Md_number_85 (by decide) ?_
      refine lv_iadd hx hb d_Md_number_86 ?_
      refine kw_put (D := D) (ci := 10) (ty := .int) (C := R_Md) (T := T_Md) (N := 46) hx hb hts in_Md ty_Md ty_Md_ok nm_Md hown hK hst 54 (WS_o54 g σ2) rfl 19 (by decide) (hts _ gw1083) (fun _ h9 => h9) rfl (by decide +kernel) rfl rfl (Nat.le_of_ble_eq_true rfl) (WS_p54_19 g σ2 _) d_Md_number_87 (fun σ3 H locs e3 hst => ?_)
      replace h := h σ3 e3
      refine lv_goto (tgt := 44) hx hb d_Md_number_90 (by decide) ?_
      exact j2 x1 x2 x3 x4 σ3 _ _ _ (lv_sub hl [0, 1, 2, 3, 4] rfl) hst h
    · replace h := h.2 hc
      refine lv_bipush (v := (10 : Int32)) hx hb d_Md_number_65 (by decide) ?_
      refine lv_iload hx hb d_Md_number_67 (lv_at hl 4 rfl) ?_
      refine lv_imul hx hb d_Md_number_69 ?_
      refine lv_aload_n hx hb d_Md_number_70 rfl (lv_at hl 0 rfl) ?_
      refine kw_calli (va_runV (As := []) (rest := [.int ((10 : Int32) * x4)]) (b := g.1 54) ⟨hx, hb, hml, hown, hts⟩ (c_Md_here l h) (cwV 0 hts (gd_v gw1260 gw1262 gs49 gw15 gw1263) rfl rfl rfl (by decide +kernel) ⟨Nat.le_of_ble_eq_true rfl, Nat.le_of_ble_eq_true rfl⟩) ⟨kw_blind (Zk_ok g), va_recv hK hst.1 rfl (WS_o54 g σ2), kw_pre (Zk_ok g) hK hZ hA hst⟩ rfl rfl hl.1 rfl (lv_room (Nat.le_of_ble_eq_true rfl)) d_Md_number_71 ⟨Nat.le_of_ble_eq_true rfl, Nat.le_of_ble_eq_true rfl⟩) hst hA (fun r3 σ3 H locs h hst => ?_)
      refine lv_iadd hx hb d_Md_number_74 ?_
      refine lv_bipush (v := (48 : Int32)) hx hb d_Md_number_75 (by decide) ?_
      refine lv_isub hx hb d_Md_number_77 ?_
      refine lv_istore hx hb d_Md_number_78 hl (by decide) rfl (fun ls hl => ?_)
      have hl : lv_has ls 5 [(4, .int ((((10 : Int32) * x4) + r3) - (48 : Int32))), (0, .ref (g.1 54)), (1, .int x1), (2, .int x2), (3, .int x3)] := hl
      refine lv_aload_n hx hb d_Md_number_80 rfl (lv_at hl 1 rfl) ?_
      refine lv_dup hx hb d_Md_number_81 rfl ?_
      refine va_get (D := D) (ci := 10) (C := R_Md) (T := T_Md) (N := 46) hx hb hts in_Md hown hK hst.1 54 (WS_o54 g σ3) rfl 19 (by decide) (hts _ gw1083) (fun _ h9 => h9) rfl d_Md_number_82 ?_
      refine lv_iconst (v := (1 : Int32)) hx hb d_Md_number_85 (by decide) ?_
      refine lv_iadd hx hb d_Md_number_86 ?_
      refine kw_put (D := D) (ci := 10) (ty := .int) (C := R_Md) (T := T_Md) (N := 46) hx hb hts in_Md ty_Md ty_Md_ok nm_Md hown hK hst 54 (WS_o54 g σ3) rfl 19 (by decide) (hts _ gw1083) (fun _ h9 => h9) rfl (by decide +kernel) rfl rfl (Nat.le_of_ble_eq_true rfl) (WS_p54_19 g σ3 _) d_Md_number_87 (fun σ4 H locs e4 hst => ?_)
      replace h := h σ4 e4
      refine lv_goto (tgt := 44) hx hb d_Md_number_90 (by decide) ?_
      exact j2 x1 x2 x3 ((((10 : Int32) * x4) + r3) - (48 : Int32)) σ4 _ _ _ (lv_sub hl [1, 2, 3, 4, 0] rfl) hst h
set_option maxRecDepth 100000 in
set_option maxHeartbeats 4000000 in
theorem b_Md_number_3 {p : Program} {l : Launch} {e : Env} {s : State} {m : MethodId} {args : Array Value} {below : List Frame} {meth : Method} {c : Code} {D : va_G} {g : Gm} {A : Nat → Prop} {post : Sg → Prop} {F : Nat → Int32 → Int32 → Int32 → Int32 → Sg → Prop} (C : kC p s m args meth c k_Md_number 5 (none) GW R_Md D vwCl g (Zk g) A) (j4 : J_Md_number_4 p l e s m args below meth c D g A post F) (x1 : Int32) (x3 : Int32) (σ : Sg) (H : Heap) (locs : List Loc) (ls : Array Slot) (hl : lv_has ls 5 [(0, .ref (g.1 54)), (1, .int x1), (3, .int x3)]) (hst : Wst D vwCl (WS g) A s σ H locs) (h : wb_Md_number_3 F post x1 x3 σ) : W p l e { frames := 1, cells := 0, slots := 0, locals := 22 } s m args below meth c H locs 0 0 (MQ below (QvW D vwCl (WS g) post A) args s 0 0 A) (F0 m 111 ls []) := by
  obtain ⟨hx, hb, hr, hml, hown, hts, hlocks, hK, hZ, hA⟩ := C
  unfold wb_Md_number_3 at h
  refine lv_aload_n hx hb d_Md_number_111 rfl (lv_at hl 0 rfl) ?_
  refine va_get (D := D) (ci := 10) (C := R_Md) (T := T_Md) (N := 46) hx hb hts in_Md hown hK hst.1 54 (WS_o54 g σ) rfl 19 (by decide) (hts _ gw1083) (fun _ h9 => h9) rfl d_Md_number_112 ?_
  refine lv_iload_n hx hb d_Md_number_115 rfl (lv_at hl 2 rfl) ?_
  refine lv_icmp_ne (tgt := 130) hx hb d_Md_number_116 (by decide) (fun hc => ?_) (fun hc => ?_)
  · replace h := h.1 hc
    exact j4 x1 x3 σ _ _ _ (lv_sub hl [0, 1, 2] rfl) hst h
  · replace h := h.2 hc
    refine lv_aload_n hx hb d_Md_number_119 rfl (lv_at hl 0 rfl) ?_
    refine lv_iconst (v := (5 : Int32)) hx hb d_Md_number_120 (by decide) ?_
    refine lv_aload_n hx hb d_Md_number_121 rfl (lv_at hl 0 rfl) ?_
    refine va_get (D := D) (ci := 10) (C := R_Md) (T := T_Md) (N := 46) hx hb hts in_Md hown hK hst.1 54 (WS_o54 g σ) rfl 6 (by decide) (hts _ gw1070) (fun _ h9 => h9) rfl d_Md_number_122 ?_
    refine lv_iload_n hx hb d_Md_number_125 rfl (lv_at hl 1 rfl) ?_
    obtain ⟨hi, h⟩ := h
    refine va_iald hx hb hK hst.1 60 0 (WS_a60 g σ) rfl hi d_Md_number_126 ?_
    refine kw_callv (va_runV (As := [.int (5 : Int32), .int (σ.1 60 x1.toNatClampNeg)]) (rest := []) (b := g.1 54) ⟨hx, hb, hml, hown, hts⟩ (c_Md_note l (5 : Int32) (σ.1 60 x1.toNatClampNeg) h) (cwV 2 hts (gd_v gw1278 gw1280 gs52 gw15 gw1281) rfl rfl rfl (by decide +kernel) ⟨Nat.le_of_ble_eq_true rfl, Nat.le_of_ble_eq_true rfl⟩) ⟨kw_blind (Zk_ok g), va_recv hK hst.1 rfl (WS_o54 g σ), kw_pre (Zk_ok g) hK hZ hA hst⟩ rfl rfl hl.1 rfl (lv_room (Nat.le_of_ble_eq_true rfl)) d_Md_number_127 ⟨Nat.le_of_ble_eq_true rfl, Nat.le_of_ble_eq_true rfl⟩) hst hA (fun σ1 H locs h hst => ?_)
    exact j4 x1 x3 σ1 _ _ _ (lv_sub hl [0, 1, 2] rfl) hst h
set_option maxRecDepth 100000 in
set_option maxHeartbeats 4000000 in
theorem b_Md_number_4 {p : Program} {l : Launch} {e : Env} {s : State} {m : MethodId} {args : Array Value} {below : List Frame} {meth : Method} {c : Code} {D : va_G} {g : Gm} {A : Nat → Prop} {post : Sg → Prop} {F : Nat → Int32 → Int32 → Int32 → Int32 → Sg → Prop} (C : kC p s m args meth c k_Md_number 5 (none) GW R_Md D vwCl g (Zk g) A) (x1 : Int32) (x3 : Int32) (σ : Sg) (H : Heap) (locs : List Loc) (ls : Array Slot) (hl : lv_has ls 5 [(0, .ref (g.1 54)), (1, .int x1), (3, .int x3)]) (hst : Wst D vwCl (WS g) A s σ H locs) (h : wb_Md_number_4 F post x1 x3 σ) : W p l e { frames := 1, cells := 0, slots := 0, locals := 22 } s m args below meth c H locs 0 0 (MQ below (QvW D vwCl (WS g) post A) args s 0 0 A) (F0 m 130 ls []) := by
  obtain ⟨hx, hb, hr, hml, hown, hts, hlocks, hK, hZ, hA⟩ := C
  unfold wb_Md_number_4 at h
  refine lv_aload_n hx hb d_Md_number_130 rfl (lv_at hl 0 rfl) ?_
  refine va_get (D := D) (ci := 10) (C := R_Md) (T := T_Md) (N := 46) hx hb hts in_Md hown hK hst.1 54 (WS_o54 g σ) rfl 19 (by decide) (hts _ gw1083) (fun _ h9 => h9) rfl d_Md_number_131 ?_
  refine lv_iload_n hx hb d_Md_number_134 rfl (lv_at hl 2 rfl) ?_
  refine lv_isub hx hb d_Md_number_135 ?_
  refine lv_bipush (v := (6 : Int32)) hx hb d_Md_number_136 (by decide) ?_
  refine lv_icmp_le (tgt := 153) hx hb d_Md_number_138 (by decide) (fun hc => ?_) (fun hc => ?_)
  · replace h := h.1 hc
    exact kw_vret hx hb hr hlocks hst h d_Md_number_153
  · replace h := h.2 hc
    refine lv_aload_n hx hb d_Md_number_141 rfl (lv_at hl 0 rfl) ?_
    refine lv_bipush (v := (6 : Int32)) hx hb d_Md_number_142 (by decide) ?_
    refine lv_aload_n hx hb d_Md_number_144 rfl (lv_at hl 0 rfl) ?_
    refine va_get (D := D) (ci := 10) (C := R_Md) (T := T_Md) (N := 46) hx hb hts in_Md hown hK hst.1 54 (WS_o54 g σ) rfl 6 (by decide) (hts _ gw1070) (fun _ h9 => h9) rfl d_Md_number_145 ?_
    refine lv_iload_n hx hb d_Md_number_148 rfl (lv_at hl 1 rfl) ?_
    obtain ⟨hi, h⟩ := h
    refine va_iald hx hb hK hst.1 60 0 (WS_a60 g σ) rfl hi d_Md_number_149 ?_
    refine kw_callv (va_runV (As := [.int (6 : Int32), .int (σ.1 60 x1.toNatClampNeg)]) (rest := []) (b := g.1 54) ⟨hx, hb, hml, hown, hts⟩ (c_Md_note l (6 : Int32) (σ.1 60 x1.toNatClampNeg) h) (cwV 2 hts (gd_v gw1278 gw1280 gs52 gw15 gw1281) rfl rfl rfl (by decide +kernel) ⟨Nat.le_of_ble_eq_true rfl, Nat.le_of_ble_eq_true rfl⟩) ⟨kw_blind (Zk_ok g), va_recv hK hst.1 rfl (WS_o54 g σ), kw_pre (Zk_ok g) hK hZ hA hst⟩ rfl rfl hl.1 rfl (lv_room (Nat.le_of_ble_eq_true rfl)) d_Md_number_150 ⟨Nat.le_of_ble_eq_true rfl, Nat.le_of_ble_eq_true rfl⟩) hst hA (fun σ1 H locs h hst => ?_)
    exact kw_vret hx hb hr hlocks hst h d_Md_number_153
set_option maxRecDepth 100000 in
set_option maxHeartbeats 4000000 in
theorem a_Md_number {p : Program} {l : Launch} {e : Env} {s : State} {m : MethodId} {args : Array Value} {below : List Frame} {meth : Method} {c : Code} {D : va_G} {g : Gm} {A : Nat → Prop} {post : Sg → Prop} (C : kC p s m args meth c k_Md_number 5 (none) GW R_Md D vwCl g (Zk g) A) : ∀ n : Nat, J_Md_number_1 p l e s m args below meth c D g A post (wp_Md_number post n) ∧ J_Md_number_2 p l e s m args below meth c D g A post (wp_Md_number post n) ∧ J_Md_number_3 p l e s m args below meth c D g A post (wp_Md_number post n) ∧ J_Md_number_4 p l e s m args below meth c D g A post (wp_Md_number post n) := by
  intro n
  induction n with
  | zero => exact ⟨fun _ _ _ _ _ _ _ _ h => h.elim, fun _ _ _ _ _ _ _ _ _ _ h => h.elim, fun _ _ _ _ _ _ _ _ h => h.elim, fun _ _ _ _ _ _ _ _ h => h.elim⟩
  | succ n ih => exact ⟨fun x1 x2 σ H locs ls hl hst h => b_Md_number_1 (F := wp_Md_number post n) C (ih.2.1) x1 x2 σ H locs ls hl hst h, fun x1 x2 x3 x4 σ H locs ls hl hst h => b_Md_number_2 (F := wp_Md_number post n) C (ih.2.1) (ih.2.2.1) x1 x2 x3 x4 σ H locs ls hl hst h, fun x1 x3 σ H locs ls hl hst h => b_Md_number_3 (F := wp_Md_number post n) C (ih.2.2.2) x1 x3 σ H locs ls hl hst h, fun x1 x3 σ H locs ls hl hst h => b_Md_number_4 (F := wp_Md_number post n) C x1 x3 σ H locs ls hl hst h⟩
set_option maxRecDepth 100000 in
set_option maxHeartbeats 4000000 in
theorem c_Md_number (l : Launch) {D : va_G} {g : Gm} {sz : Nat} (x1 : Int32) {σ : Sg} {post : Sg → Prop} (h : wq_Md_number x1 σ post) : Met l y_Md_number (.code y_Md_number k_Md_number 5 (none) :: GW) { frames := 1, cells := 0, slots := 0, locals := 22 } (PcW D vwCl (WS g) g (Zk g) σ sz [.ref (g.1 54), .int x1]) (QvW D vwCl (WS g) post (va_A (WS g σ) sz)) 0 0 (va_A (WS g σ) sz) := by
  refine kw_entry (own := R_Md) (by decide) rfl rfl (Nat.le_of_ble_eq_true rfl) ?_
  intro p e s m below meth c ls hsz C hin hl hst
  obtain ⟨n, h⟩ := h
  cases n with
  | zero => exact h.elim
  | succ n =>
    have ih := a_Md_number (l := l) (e := e) (below := below) (post := post) C n
    exact b_Md_number_0 (F := wp_Md_number post n) C (ih.1) x1 σ _ _ ls hl hst h
/-! SchemaDeskModel.packed (II)J -/
abbrev k_Md_packed : ByteArray := prog_12_method_26_code
abbrev y_Md_packed : MethodName := ⟨"SchemaDeskModel", "packed", "(II)J"⟩
theorem d_Md_packed_0 : decode k_Md_packed 0 = .ok (.iload_n 2, 1) := by decide +kernel
theorem d_Md_packed_1 : decode k_Md_packed 1 = .ok (.iload_n 1, 1) := by decide +kernel
theorem d_Md_packed_2 : decode k_Md_packed 2 = .ok (.isub, 1) := by decide +kernel
theorem d_Md_packed_3 : decode k_Md_packed 3 = .ok (.bipush 12, 2) := by decide +kernel
theorem d_Md_packed_5 : decode k_Md_packed 5 = .ok (.if_icmp .le 9, 3) := by decide +kernel
theorem d_Md_packed_8 : decode k_Md_packed 8 = .ok (.ldc2_w 243, 3) := by decide +kernel
theorem d_Md_packed_11 : decode k_Md_packed 11 = .ok (.goto 4, 3) := by decide +kernel
theorem d_Md_packed_14 : decode k_Md_packed 14 = .ok (.lconst 0, 1) := by decide +kernel
theorem d_Md_packed_15 : decode k_Md_packed 15 = .ok (.lstore_n 3, 1) := by decide +kernel
theorem d_Md_packed_16 : decode k_Md_packed 16 = .ok (.iload_n 1, 1) := by decide +kernel
theorem d_Md_packed_17 : decode k_Md_packed 17 = .ok (.istore 5, 2) := by decide +kernel
theorem d_Md_packed_19 : decode k_Md_packed 19 = .ok (.iload 5, 2) := by decide +kernel
theorem d_Md_packed_21 : decode k_Md_packed 21 = .ok (.iload_n 2, 1) := by decide +kernel
theorem d_Md_packed_22 : decode k_Md_packed 22 = .ok (.if_icmp .ge 63, 3) := by decide +kernel
theorem d_Md_packed_25 : decode k_Md_packed 25 = .ok (.lload_n 3, 1) := by decide +kernel
theorem d_Md_packed_26 : decode k_Md_packed 26 = .ok (.lconst 0, 1) := by decide +kernel
theorem d_Md_packed_27 : decode k_Md_packed 27 = .ok (.lcmp, 1) := by decide +kernel
theorem d_Md_packed_28 : decode k_Md_packed 28 = .ok (.ifCond .lt 57, 3) := by decide +kernel
theorem d_Md_packed_31 : decode k_Md_packed 31 = .ok (.aload_n 0, 1) := by decide +kernel
theorem d_Md_packed_32 : decode k_Md_packed 32 = .ok (.getfield 67, 3) := by decide +kernel
theorem d_Md_packed_35 : decode k_Md_packed 35 = .ok (.sipush 160, 3) := by decide +kernel
theorem d_Md_packed_38 : decode k_Md_packed 38 = .ok (.aload_n 0, 1) := by decide +kernel
theorem d_Md_packed_39 : decode k_Md_packed 39 = .ok (.getfield 205, 3) := by decide +kernel
theorem d_Md_packed_42 : decode k_Md_packed 42 = .ok (.imul, 1) := by decide +kernel
theorem d_Md_packed_43 : decode k_Md_packed 43 = .ok (.iload 5, 2) := by decide +kernel
theorem d_Md_packed_45 : decode k_Md_packed 45 = .ok (.iadd, 1) := by decide +kernel
theorem d_Md_packed_46 : decode k_Md_packed 46 = .ok (.iaload, 1) := by decide +kernel
theorem d_Md_packed_47 : decode k_Md_packed 47 = .ok (.istore 6, 2) := by decide +kernel
theorem d_Md_packed_49 : decode k_Md_packed 49 = .ok (.iload 6, 2) := by decide +kernel
theorem d_Md_packed_51 : decode k_Md_packed 51 = .ok (.invokestatic 218, 3) := by decide +kernel
theorem d_Md_packed_54 : decode k_Md_packed 54 = .ok (.ifCond .eq 21, 3) := by decide +kernel
theorem d_Md_packed_57 : decode k_Md_packed 57 = .ok (.lload_n 3, 1) := by decide +kernel
theorem d_Md_packed_58 : decode k_Md_packed 58 = .ok (.iload 6, 2) := by decide +kernel
theorem d_Md_packed_60 : decode k_Md_packed 60 = .ok (.bipush 96, 2) := by decide +kernel
theorem d_Md_packed_62 : decode k_Md_packed 62 = .ok (.isub, 1) := by decide +kernel
theorem d_Md_packed_63 : decode k_Md_packed 63 = .ok (.i2l, 1) := by decide +kernel
theorem d_Md_packed_64 : decode k_Md_packed 64 = .ok (.iconst 5, 1) := by decide +kernel
theorem d_Md_packed_65 : decode k_Md_packed 65 = .ok (.iload 5, 2) := by decide +kernel
theorem d_Md_packed_67 : decode k_Md_packed 67 = .ok (.iload_n 1, 1) := by decide +kernel
theorem d_Md_packed_68 : decode k_Md_packed 68 = .ok (.isub, 1) := by decide +kernel
theorem d_Md_packed_69 : decode k_Md_packed 69 = .ok (.imul, 1) := by decide +kernel
theorem d_Md_packed_70 : decode k_Md_packed 70 = .ok (.lshl, 1) := by decide +kernel
theorem d_Md_packed_71 : decode k_Md_packed 71 = .ok (.lor, 1) := by decide +kernel
theorem d_Md_packed_72 : decode k_Md_packed 72 = .ok (.goto 6, 3) := by decide +kernel
theorem d_Md_packed_75 : decode k_Md_packed 75 = .ok (.ldc2_w 243, 3) := by decide +kernel
theorem d_Md_packed_78 : decode k_Md_packed 78 = .ok (.lstore_n 3, 1) := by decide +kernel
theorem d_Md_packed_79 : decode k_Md_packed 79 = .ok (.iinc 5 1, 3) := by decide +kernel
theorem d_Md_packed_82 : decode k_Md_packed 82 = .ok (.goto (-63), 3) := by decide +kernel
theorem d_Md_packed_85 : decode k_Md_packed 85 = .ok (.lload_n 3, 1) := by decide +kernel
theorem d_Md_packed_86 : decode k_Md_packed 86 = .ok (.lreturn, 1) := by decide +kernel
theorem gw1298 : (Jvm.Cond.constantLong "SchemaDeskModel" (243 : Nat) (-1 : Int64)) ∈ GW := gw_t6 (List.mem_of_getElem? (i := 98) rfl) rfl
def wb_Md_packed_0 (F : Nat → Int32 → Int32 → Int32 → Int64 → Sg → Prop) (post : Int64 → Sg → Prop) (x1 : Int32) (x2 : Int32) (σ : Sg) : Prop := (((x2 - x1) ≤ (12 : Int32) → F 1 x1 x2 x1 (0 : Int64) σ) ∧ (¬ (x2 - x1) ≤ (12 : Int32) → F 1 x1 x2 x1 (-1 : Int64) σ))
def wb_Md_packed_1 (F : Nat → Int32 → Int32 → Int32 → Int64 → Sg → Prop) (post : Int64 → Sg → Prop) (x1 : Int32) (x2 : Int32) (y3 : Int64) (x5 : Int32) (σ : Sg) : Prop := ((x2 ≤ x5 → post y3 σ) ∧ (¬ x2 ≤ x5 → (((lg_cmp y3 (0 : Int64)) < 0 → post y3 σ) ∧ (¬ (lg_cmp y3 (0 : Int64)) < 0 → (vp_in (((160 : Int32) * (σ.1 54 18)) + x5) 240 ∧ (wq_Md_isLetter (σ.1 56 ((((160 : Int32) * (σ.1 54 18)) + x5) : Int32).toNatClampNeg) σ (fun r1 σ1 => ((r1 = 0 → F 1 x1 x2 (x5 + 1) (-1 : Int64) σ1) ∧ (¬ r1 = 0 → F 1 x1 x2 (x5 + 1) (y3 ||| (((((σ.1 56 ((((160 : Int32) * (σ.1 54 18)) + x5) : Int32).toNatClampNeg) - (96 : Int32)) : Int32).toInt64) <<< ((((5 : Int32) * (x5 - x1)) : Int32).toInt64 &&& 63))) σ1)))))))))
def wp_Md_packed (post : Int64 → Sg → Prop) : Nat → Nat → Int32 → Int32 → Int32 → Int64 → Sg → Prop
  | 0, _, _, _, _, _, _ => False
  | n + 1, k, x1, x2, x5, y3, σ => match k with
    | 0 => wb_Md_packed_0 (wp_Md_packed post n) post x1 x2 σ
    | 1 => wb_Md_packed_1 (wp_Md_packed post n) post x1 x2 y3 x5 σ
    | _ => False
def wq_Md_packed (x1 : Int32) (x2 : Int32) (σ : Sg) (post : Int64 → Sg → Prop) : Prop := ∃ n, wp_Md_packed post n 0 x1 x2 0 0 σ
def J_Md_packed_1 (p : Program) (l : Launch) (e : Env) (s : State) (m : MethodId) (args : Array Value) (below : List Frame) (meth : Method) (c : Code) (D : va_G) (g : Gm) (A : Nat → Prop) (post : Int64 → Sg → Prop) (F : Nat → Int32 → Int32 → Int32 → Int64 → Sg → Prop) : Prop := ∀ (x1 : Int32) (x2 : Int32) (y3 : Int64) (x5 : Int32) (σ : Sg) (H : Heap) (locs : List Loc) (ls : Array Slot), lv_has ls 7 [(0, .ref (g.1 54)), (1, .int x1), (2, .int x2), (3, .long y3), (5, .int x5)] → Wst D vwCl (WS g) A s σ H locs → F 1 x1 x2 x5 y3 σ → W p l e { frames := 1, cells := 0, slots := 0, locals := 20 } s m args below meth c H locs 0 0 (MQ below (QlW D vwCl (WS g) post A) args s 0 0 A) (F0 m 19 ls [])
set_option maxRecDepth 100000 in
set_option maxHeartbeats 4000000 in
theorem b_Md_packed_0 {p : Program} {l : Launch} {e : Env} {s : State} {m : MethodId} {args : Array Value} {below : List Frame} {meth : Method} {c : Code} {D : va_G} {g : Gm} {A : Nat → Prop} {post : Int64 → Sg → Prop} {F : Nat → Int32 → Int32 → Int32 → Int64 → Sg → Prop} (C : kC p s m args meth c k_Md_packed 7 (some .long) GW R_Md D vwCl g (Zk g) A) (j1 : J_Md_packed_1 p l e s m args below meth c D g A post F) (x1 : Int32) (x2 : Int32) (σ : Sg) (H : Heap) (locs : List Loc) (ls : Array Slot) (hl : lv_has ls 7 [(0, .ref (g.1 54)), (1, .int x1), (2, .int x2)]) (hst : Wst D vwCl (WS g) A s σ H locs) (h : wb_Md_packed_0 F post x1 x2 σ) : W p l e { frames := 1, cells := 0, slots := 0, locals := 20 } s m args below meth c H locs 0 0 (MQ below (QlW D vwCl (WS g) post A) args s 0 0 A) (F0 m 0 ls []) := by
  obtain ⟨hx, hb, hr, hml, hown, hts, hlocks, hK, hZ, hA⟩ := C
  unfold wb_Md_packed_0 at h
  refine lv_iload_n hx hb d_Md_packed_0 rfl (lv_at hl 2 rfl) ?_
  refine lv_iload_n hx hb d_Md_packed_1 rfl (lv_at hl 1 rfl) ?_
  refine lv_isub hx hb d_Md_packed_2 ?_
  refine lv_bipush (v := (12 : Int32)) hx hb d_Md_packed_3 (by decide) ?_
  refine lv_icmp_le (tgt := 14) hx hb d_Md_packed_5 (by decide) (fun hc => ?_) (fun hc => ?_)
  · replace h := h.1 hc
    refine lv_lconst (v := (0 : Int64)) hx hb d_Md_packed_14 (by decide) ?_
    refine lv_lstore_n hx hb d_Md_packed_15 rfl hl (by decide) rfl (fun ls hl => ?_)
    have hl : lv_has ls 7 [(3, .long (0 : Int64)), (0, .ref (g.1 54)), (1, .int x1), (2, .int x2)] := hl
    refine lv_iload_n hx hb d_Md_packed_16 rfl (lv_at hl 2 rfl) ?_
    refine lv_istore hx hb d_Md_packed_17 hl (by decide) rfl (fun ls hl => ?_)
    have hl : lv_has ls 7 [(5, .int x1), (3, .long (0 : Int64)), (0, .ref (g.1 54)), (1, .int x1), (2, .int x2)] := hl
    exact j1 x1 x2 (0 : Int64) x1 σ _ _ _ (lv_sub hl [2, 3, 4, 1, 0] rfl) hst h
  · replace h := h.2 hc
    refine lv_ldc2 (v := (-1 : Int64)) hx hb hown (hts _ gw1298) d_Md_packed_8 ?_
    refine lv_goto (tgt := 15) hx hb d_Md_packed_11 (by decide) ?_
    refine lv_lstore_n hx hb d_Md_packed_15 rfl hl (by decide) rfl (fun ls hl => ?_)
    have hl : lv_has ls 7 [(3, .long (-1 : Int64)), (0, .ref (g.1 54)), (1, .int x1), (2, .int x2)] := hl
    refine lv_iload_n hx hb d_Md_packed_16 rfl (lv_at hl 2 rfl) ?_
    refine lv_istore hx hb d_Md_packed_17 hl (by decide) rfl (fun ls hl => ?_)
    have hl : lv_has ls 7 [(5, .int x1), (3, .long (-1 : Int64)), (0, .ref (g.1 54)), (1, .int x1), (2, .int x2)] := hl
    exact j1 x1 x2 (-1 : Int64) x1 σ _ _ _ (lv_sub hl [2, 3, 4, 1, 0] rfl) hst h
set_option maxRecDepth 100000 in
set_option maxHeartbeats 4000000 in
theorem b_Md_packed_1 {p : Program} {l : Launch} {e : Env} {s : State} {m : MethodId} {args : Array Value} {below : List Frame} {meth : Method} {c : Code} {D : va_G} {g : Gm} {A : Nat → Prop} {post : Int64 → Sg → Prop} {F : Nat → Int32 → Int32 → Int32 → Int64 → Sg → Prop} (C : kC p s m args meth c k_Md_packed 7 (some .long) GW R_Md D vwCl g (Zk g) A) (j1 : J_Md_packed_1 p l e s m args below meth c D g A post F) (x1 : Int32) (x2 : Int32) (y3 : Int64) (x5 : Int32) (σ : Sg) (H : Heap) (locs : List Loc) (ls : Array Slot) (hl : lv_has ls 7 [(0, .ref (g.1 54)), (1, .int x1), (2, .int x2), (3, .long y3), (5, .int x5)]) (hst : Wst D vwCl (WS g) A s σ H locs) (h : wb_Md_packed_1 F post x1 x2 y3 x5 σ) : W p l e { frames := 1, cells := 0, slots := 0, locals := 20 } s m args below meth c H locs 0 0 (MQ below (QlW D vwCl (WS g) post A) args s 0 0 A) (F0 m 19 ls []) := by
  obtain ⟨hx, hb, hr, hml, hown, hts, hlocks, hK, hZ, hA⟩ := C
  unfold wb_Md_packed_1 at h
  refine lv_iload hx hb d_Md_packed_19 (lv_at hl 4 rfl) ?_
  refine lv_iload_n hx hb d_Md_packed_21 rfl (lv_at hl 2 rfl) ?_
  refine lv_icmp_ge (tgt := 85) hx hb d_Md_packed_22 (by decide) (fun hc => ?_) (fun hc => ?_)
  · replace h := h.1 hc
    refine lv_lload_n hx hb d_Md_packed_85 rfl (lv_at hl 3 rfl) ?_
    exact kw_lret hx hb hr hlocks hst h d_Md_packed_86
  · replace h := h.2 hc
    refine lv_lload_n hx hb d_Md_packed_25 rfl (lv_at hl 3 rfl) ?_
    refine lv_lconst (v := (0 : Int64)) hx hb d_Md_packed_26 (by decide) ?_
    refine W.lcmp hx hb d_Md_packed_27 ?_
    refine lv_if_lt (tgt := 85) hx hb d_Md_packed_28 (by decide) (fun hc => ?_) (fun hc => ?_)
    · replace h := h.1 hc
      refine lv_lload_n hx hb d_Md_packed_85 rfl (lv_at hl 3 rfl) ?_
      exact kw_lret hx hb hr hlocks hst h d_Md_packed_86
    · replace h := h.2 hc
      refine lv_aload_n hx hb d_Md_packed_31 rfl (lv_at hl 0 rfl) ?_
      refine va_get (D := D) (ci := 10) (C := R_Md) (T := T_Md) (N := 46) hx hb hts in_Md hown hK hst.1 54 (WS_o54 g σ) rfl 2 (by decide) (hts _ gw1066) (fun _ h9 => h9) rfl d_Md_packed_32 ?_
      refine lv_sipush (v := (160 : Int32)) hx hb d_Md_packed_35 (by decide) ?_
      refine lv_aload_n hx hb d_Md_packed_38 rfl (lv_at hl 0 rfl) ?_
      refine va_get (D := D) (ci := 10) (C := R_Md) (T := T_Md) (N := 46) hx hb hts in_Md hown hK hst.1 54 (WS_o54 g σ) rfl 18 (by decide) (hts _ gw1082) (fun _ h9 => h9) rfl d_Md_packed_39 ?_
      refine lv_imul hx hb d_Md_packed_42 ?_
      refine lv_iload hx hb d_Md_packed_43 (lv_at hl 4 rfl) ?_
      refine lv_iadd hx hb d_Md_packed_45 ?_
      obtain ⟨hi, h⟩ := h
      refine va_iald hx hb hK hst.1 56 0 (WS_a56 g σ) rfl hi d_Md_packed_46 ?_
      refine lv_istore hx hb d_Md_packed_47 hl (by decide) rfl (fun ls hl => ?_)
      have hl : lv_has ls 7 [(6, .int (σ.1 56 ((((160 : Int32) * (σ.1 54 18)) + x5) : Int32).toNatClampNeg)), (0, .ref (g.1 54)), (1, .int x1), (2, .int x2), (3, .long y3), (5, .int x5)] := hl
      refine lv_iload hx hb d_Md_packed_49 (lv_at hl 0 rfl) ?_
      refine kw_calli (va_runS (As := [.int (σ.1 56 ((((160 : Int32) * (σ.1 54 18)) + x5) : Int32).toNatClampNeg)]) (rest := []) ⟨hx, hb, hml, hown, hts⟩ (c_Md_isLetter l (σ.1 56 ((((160 : Int32) * (σ.1 54 18)) + x5) : Int32).toNatClampNeg) h) (cwS 1 hts (gd_s gw1271 gw1272 gw15 gw1273) rfl rfl rfl (by decide +kernel) ⟨Nat.le_of_ble_eq_true rfl, Nat.le_of_ble_eq_true rfl⟩) ⟨kw_blind (Zk_ok g), kw_pre (Zk_ok g) hK hZ hA hst⟩ rfl rfl hl.1 rfl (lv_room (Nat.le_of_ble_eq_true rfl)) d_Md_packed_51 ⟨Nat.le_of_ble_eq_true rfl, Nat.le_of_ble_eq_true rfl⟩) hst hA (fun r1 σ1 H locs h hst => ?_)
      refine lv_if_eq (tgt := 75) hx hb d_Md_packed_54 (by decide) (fun hc => ?_) (fun hc => ?_)
      · replace h := h.1 hc
        refine lv_ldc2 (v := (-1 : Int64)) hx hb hown (hts _ gw1298) d_Md_packed_75 ?_
        refine lv_lstore_n hx hb d_Md_packed_78 rfl hl (by decide) rfl (fun ls hl => ?_)
        have hl : lv_has ls 7 [(3, .long (-1 : Int64)), (6, .int (σ.1 56 ((((160 : Int32) * (σ.1 54 18)) + x5) : Int32).toNatClampNeg)), (0, .ref (g.1 54)), (1, .int x1), (2, .int x2), (5, .int x5)] := hl
        refine lv_iinc (k := 5) (v := (x5 + 1)) hx hb d_Md_packed_79 hl rfl (kw_inc _ (by decide)) (by decide) rfl (fun ls hl => ?_)
        have hl : lv_has ls 7 [(5, .int (x5 + 1)), (3, .long (-1 : Int64)), (6, .int (σ.1 56 ((((160 : Int32) * (σ.1 54 18)) + x5) : Int32).toNatClampNeg)), (0, .ref (g.1 54)), (1, .int x1), (2, .int x2)] := hl
        refine lv_goto (tgt := 19) hx hb d_Md_packed_82 (by decide) ?_
        exact j1 x1 x2 (-1 : Int64) (x5 + 1) σ1 _ _ _ (lv_sub hl [3, 4, 5, 1, 0] rfl) hst h
      · replace h := h.2 hc
        refine lv_lload_n hx hb d_Md_packed_57 rfl (lv_at hl 4 rfl) ?_
        refine lv_iload hx hb d_Md_packed_58 (lv_at hl 0 rfl) ?_
        refine lv_bipush (v := (96 : Int32)) hx hb d_Md_packed_60 (by decide) ?_
        refine lv_isub hx hb d_Md_packed_62 ?_
        refine lv_i2l hx hb d_Md_packed_63 rfl ?_
        refine lv_iconst (v := (5 : Int32)) hx hb d_Md_packed_64 (by decide) ?_
        refine lv_iload hx hb d_Md_packed_65 (lv_at hl 5 rfl) ?_
        refine lv_iload_n hx hb d_Md_packed_67 rfl (lv_at hl 2 rfl) ?_
        refine lv_isub hx hb d_Md_packed_68 ?_
        refine lv_imul hx hb d_Md_packed_69 ?_
        refine lv_lshl hx hb d_Md_packed_70 rfl ?_
        refine lv_lor hx hb d_Md_packed_71 ?_
        refine lv_goto (tgt := 78) hx hb d_Md_packed_72 (by decide) ?_
        refine lv_lstore_n hx hb d_Md_packed_78 rfl hl (by decide) rfl (fun ls hl => ?_)
        have hl : lv_has ls 7 [(3, .long (y3 ||| (((((σ.1 56 ((((160 : Int32) * (σ.1 54 18)) + x5) : Int32).toNatClampNeg) - (96 : Int32)) : Int32).toInt64) <<< ((((5 : Int32) * (x5 - x1)) : Int32).toInt64 &&& 63)))), (6, .int (σ.1 56 ((((160 : Int32) * (σ.1 54 18)) + x5) : Int32).toNatClampNeg)), (0, .ref (g.1 54)), (1, .int x1), (2, .int x2), (5, .int x5)] := hl
        refine lv_iinc (k := 5) (v := (x5 + 1)) hx hb d_Md_packed_79 hl rfl (kw_inc _ (by decide)) (by decide) rfl (fun ls hl => ?_)
        have hl : lv_has ls 7 [(5, .int (x5 + 1)), (3, .long (y3 ||| (((((σ.1 56 ((((160 : Int32) * (σ.1 54 18)) + x5) : Int32).toNatClampNeg) - (96 : Int32)) : Int32).toInt64) <<< ((((5 : Int32) * (x5 - x1)) : Int32).toInt64 &&& 63)))), (6, .int (σ.1 56 ((((160 : Int32) * (σ.1 54 18)) + x5) : Int32).toNatClampNeg)), (0, .ref (g.1 54)), (1, .int x1), (2, .int x2)] := hl
        refine lv_goto (tgt := 19) hx hb d_Md_packed_82 (by decide) ?_
        exact j1 x1 x2 (y3 ||| (((((σ.1 56 ((((160 : Int32) * (σ.1 54 18)) + x5) : Int32).toNatClampNeg) - (96 : Int32)) : Int32).toInt64) <<< ((((5 : Int32) * (x5 - x1)) : Int32).toInt64 &&& 63))) (x5 + 1) σ1 _ _ _ (lv_sub hl [3, 4, 5, 1, 0] rfl) hst h
set_option maxRecDepth 100000 in
set_option maxHeartbeats 4000000 in
theorem a_Md_packed {p : Program} {l : Launch} {e : Env} {s : State} {m : MethodId} {args : Array Value} {below : List Frame} {meth : Method} {c : Code} {D : va_G} {g : Gm} {A : Nat → Prop} {post : Int64 → Sg → Prop} (C : kC p s m args meth c k_Md_packed 7 (some .long) GW R_Md D vwCl g (Zk g) A) : ∀ n : Nat, J_Md_packed_1 p l e s m args below meth c D g A post (wp_Md_packed post n) := by
  intro n
  induction n with
  | zero => exact fun _ _ _ _ _ _ _ _ _ _ h => h.elim
  | succ n ih => exact fun x1 x2 y3 x5 σ H locs ls hl hst h => b_Md_packed_1 (F := wp_Md_packed post n) C (ih) x1 x2 y3 x5 σ H locs ls hl hst h
set_option maxRecDepth 100000 in
set_option maxHeartbeats 4000000 in
theorem c_Md_packed (l : Launch) {D : va_G} {g : Gm} {sz : Nat} (x1 : Int32) (x2 : Int32) {σ : Sg} {post : Int64 → Sg → Prop} (h : wq_Md_packed x1 x2 σ post) : Met l y_Md_packed (.code y_Md_packed k_Md_packed 7 (some .long) :: GW) { frames := 1, cells := 0, slots := 0, locals := 20 } (PcW D vwCl (WS g) g (Zk g) σ sz [.ref (g.1 54), .int x1, .int x2]) (QlW D vwCl (WS g) post (va_A (WS g σ) sz)) 0 0 (va_A (WS g σ) sz) := by
  refine kw_entry (own := R_Md) (by decide) rfl rfl (Nat.le_of_ble_eq_true rfl) ?_
  intro p e s m below meth c ls hsz C hin hl hst
  obtain ⟨n, h⟩ := h
  cases n with
  | zero => exact h.elim
  | succ n =>
    have ih := a_Md_packed (l := l) (e := e) (below := below) (post := post) C n
    exact b_Md_packed_0 (F := wp_Md_packed post n) C (ih) x1 x2 σ _ _ ls hl hst h
/-! SchemaDeskModel.same (IIII)Z -/
abbrev k_Md_same : ByteArray := prog_12_method_27_code
abbrev y_Md_same : MethodName := ⟨"SchemaDeskModel", "same", "(IIII)Z"⟩
theorem d_Md_same_0 : decode k_Md_same 0 = .ok (.iload_n 2, 1) := by decide +kernel
theorem d_Md_same_1 : decode k_Md_same 1 = .ok (.iload_n 1, 1) := by decide +kernel
theorem d_Md_same_2 : decode k_Md_same 2 = .ok (.isub, 1) := by decide +kernel
theorem d_Md_same_3 : decode k_Md_same 3 = .ok (.iload 4, 2) := by decide +kernel
theorem d_Md_same_5 : decode k_Md_same 5 = .ok (.iload_n 3, 1) := by decide +kernel
theorem d_Md_same_6 : decode k_Md_same 6 = .ok (.isub, 1) := by decide +kernel
theorem d_Md_same_7 : decode k_Md_same 7 = .ok (.if_icmp .ne 7, 3) := by decide +kernel
theorem d_Md_same_10 : decode k_Md_same 10 = .ok (.iconst 1, 1) := by decide +kernel
theorem d_Md_same_11 : decode k_Md_same 11 = .ok (.goto 4, 3) := by decide +kernel
theorem d_Md_same_14 : decode k_Md_same 14 = .ok (.iconst 0, 1) := by decide +kernel
theorem d_Md_same_15 : decode k_Md_same 15 = .ok (.istore 5, 2) := by decide +kernel
theorem d_Md_same_17 : decode k_Md_same 17 = .ok (.iconst 0, 1) := by decide +kernel
theorem d_Md_same_18 : decode k_Md_same 18 = .ok (.istore 6, 2) := by decide +kernel
theorem d_Md_same_20 : decode k_Md_same 20 = .ok (.iload 6, 2) := by decide +kernel
theorem d_Md_same_22 : decode k_Md_same 22 = .ok (.iload_n 2, 1) := by decide +kernel
theorem d_Md_same_23 : decode k_Md_same 23 = .ok (.iload_n 1, 1) := by decide +kernel
theorem d_Md_same_24 : decode k_Md_same 24 = .ok (.isub, 1) := by decide +kernel
theorem d_Md_same_25 : decode k_Md_same 25 = .ok (.if_icmp .ge 42, 3) := by decide +kernel
theorem d_Md_same_28 : decode k_Md_same 28 = .ok (.iload 5, 2) := by decide +kernel
theorem d_Md_same_30 : decode k_Md_same 30 = .ok (.ifCond .eq 37, 3) := by decide +kernel
theorem d_Md_same_33 : decode k_Md_same 33 = .ok (.aload_n 0, 1) := by decide +kernel
theorem d_Md_same_34 : decode k_Md_same 34 = .ok (.getfield 67, 3) := by decide +kernel
theorem d_Md_same_37 : decode k_Md_same 37 = .ok (.iload_n 1, 1) := by decide +kernel
theorem d_Md_same_38 : decode k_Md_same 38 = .ok (.iload 6, 2) := by decide +kernel
theorem d_Md_same_40 : decode k_Md_same 40 = .ok (.iadd, 1) := by decide +kernel
theorem d_Md_same_41 : decode k_Md_same 41 = .ok (.iaload, 1) := by decide +kernel
theorem d_Md_same_42 : decode k_Md_same 42 = .ok (.aload_n 0, 1) := by decide +kernel
theorem d_Md_same_43 : decode k_Md_same 43 = .ok (.getfield 67, 3) := by decide +kernel
theorem d_Md_same_46 : decode k_Md_same 46 = .ok (.iload_n 3, 1) := by decide +kernel
theorem d_Md_same_47 : decode k_Md_same 47 = .ok (.iload 6, 2) := by decide +kernel
theorem d_Md_same_49 : decode k_Md_same 49 = .ok (.iadd, 1) := by decide +kernel
theorem d_Md_same_50 : decode k_Md_same 50 = .ok (.iaload, 1) := by decide +kernel
theorem d_Md_same_51 : decode k_Md_same 51 = .ok (.if_icmp .ne 7, 3) := by decide +kernel
theorem d_Md_same_54 : decode k_Md_same 54 = .ok (.iconst 1, 1) := by decide +kernel
theorem d_Md_same_55 : decode k_Md_same 55 = .ok (.goto 4, 3) := by decide +kernel
theorem d_Md_same_58 : decode k_Md_same 58 = .ok (.iconst 0, 1) := by decide +kernel
theorem d_Md_same_59 : decode k_Md_same 59 = .ok (.istore 5, 2) := by decide +kernel
theorem d_Md_same_61 : decode k_Md_same 61 = .ok (.iinc 6 1, 3) := by decide +kernel
theorem d_Md_same_64 : decode k_Md_same 64 = .ok (.goto (-44), 3) := by decide +kernel
theorem d_Md_same_67 : decode k_Md_same 67 = .ok (.iload 5, 2) := by decide +kernel
theorem d_Md_same_69 : decode k_Md_same 69 = .ok (.ireturn, 1) := by decide +kernel
def wb_Md_same_0 (F : Nat → Int32 → Int32 → Int32 → Int32 → Int32 → Int32 → Sg → Prop) (post : Int32 → Sg → Prop) (x1 : Int32) (x2 : Int32) (x3 : Int32) (x4 : Int32) (σ : Sg) : Prop := ((¬ (x2 - x1) = (x4 - x3) → F 1 x1 x2 x3 0 (0 : Int32) (0 : Int32) σ) ∧ ((x2 - x1) = (x4 - x3) → F 1 x1 x2 x3 0 (1 : Int32) (0 : Int32) σ))
def wb_Md_same_1 (F : Nat → Int32 → Int32 → Int32 → Int32 → Int32 → Int32 → Sg → Prop) (post : Int32 → Sg → Prop) (x1 : Int32) (x2 : Int32) (x3 : Int32) (x5 : Int32) (x6 : Int32) (σ : Sg) : Prop := (((x2 - x1) ≤ x6 → (narrow .boolean (.int x5) = .int x5 ∧ post x5 σ)) ∧ (¬ (x2 - x1) ≤ x6 → ((x5 = 0 → (narrow .boolean (.int x5) = .int x5 ∧ post x5 σ)) ∧ (¬ x5 = 0 → (vp_in (x1 + x6) 240 ∧ (vp_in (x3 + x6) 240 ∧ ((¬ (σ.1 56 ((x1 + x6) : Int32).toNatClampNeg) = (σ.1 56 ((x3 + x6) : Int32).toNatClampNeg) → F 1 x1 x2 x3 0 (0 : Int32) (x6 + 1) σ) ∧ ((σ.1 56 ((x1 + x6) : Int32).toNatClampNeg) = (σ.1 56 ((x3 + x6) : Int32).toNatClampNeg) → F 1 x1 x2 x3 0 (1 : Int32) (x6 + 1) σ))))))))
def wp_Md_same (post : Int32 → Sg → Prop) : Nat → Nat → Int32 → Int32 → Int32 → Int32 → Int32 → Int32 → Sg → Prop
  | 0, _, _, _, _, _, _, _, _ => False
  | n + 1, k, x1, x2, x3, x4, x5, x6, σ => match k with
    | 0 => wb_Md_same_0 (wp_Md_same post n) post x1 x2 x3 x4 σ
    | 1 => wb_Md_same_1 (wp_Md_same post n) post x1 x2 x3 x5 x6 σ
    | _ => False
def wq_Md_same (x1 : Int32) (x2 : Int32) (x3 : Int32) (x4 : Int32) (σ : Sg) (post : Int32 → Sg → Prop) : Prop := ∃ n, wp_Md_same post n 0 x1 x2 x3 x4 0 0 σ
def J_Md_same_1 (p : Program) (l : Launch) (e : Env) (s : State) (m : MethodId) (args : Array Value) (below : List Frame) (meth : Method) (c : Code) (D : va_G) (g : Gm) (A : Nat → Prop) (post : Int32 → Sg → Prop) (F : Nat → Int32 → Int32 → Int32 → Int32 → Int32 → Int32 → Sg → Prop) : Prop := ∀ (x1 : Int32) (x2 : Int32) (x3 : Int32) (x5 : Int32) (x6 : Int32) (σ : Sg) (H : Heap) (locs : List Loc) (ls : Array Slot), lv_has ls 7 [(0, .ref (g.1 54)), (1, .int x1), (2, .int x2), (3, .int x3), (5, .int x5), (6, .int x6)] → Wst D vwCl (WS g) A s σ H locs → F 1 x1 x2 x3 0 x5 x6 σ → W p l e { frames := 0, cells := 0, slots := 0, locals := 0 } s m args below meth c H locs 0 0 (MQ below (QiW D vwCl (WS g) post A) args s 0 0 A) (F0 m 20 ls [])
set_option maxRecDepth 100000 in
set_option maxHeartbeats 4000000 in
theorem b_Md_same_0 {p : Program} {l : Launch} {e : Env} {s : State} {m : MethodId} {args : Array Value} {below : List Frame} {meth : Method} {c : Code} {D : va_G} {g : Gm} {A : Nat → Prop} {post : Int32 → Sg → Prop} {F : Nat → Int32 → Int32 → Int32 → Int32 → Int32 → Int32 → Sg → Prop} (C : kC p s m args meth c k_Md_same 7 (some .boolean) GW R_Md D vwCl g (Zk g) A) (j1 : J_Md_same_1 p l e s m args below meth c D g A post F) (x1 : Int32) (x2 : Int32) (x3 : Int32) (x4 : Int32) (σ : Sg) (H : Heap) (locs : List Loc) (ls : Array Slot) (hl : lv_has ls 7 [(0, .ref (g.1 54)), (1, .int x1), (2, .int x2), (3, .int x3), (4, .int x4)]) (hst : Wst D vwCl (WS g) A s σ H locs) (h : wb_Md_same_0 F post x1 x2 x3 x4 σ) : W p l e { frames := 0, cells := 0, slots := 0, locals := 0 } s m args below meth c H locs 0 0 (MQ below (QiW D vwCl (WS g) post A) args s 0 0 A) (F0 m 0 ls []) := by
  obtain ⟨hx, hb, hr, hml, hown, hts, hlocks, hK, hZ, hA⟩ := C
  unfold wb_Md_same_0 at h
  refine lv_iload_n hx hb d_Md_same_0 rfl (lv_at hl 2 rfl) ?_
  refine lv_iload_n hx hb d_Md_same_1 rfl (lv_at hl 1 rfl) ?_
  refine lv_isub hx hb d_Md_same_2 ?_
  refine lv_iload hx hb d_Md_same_3 (lv_at hl 4 rfl) ?_
  refine lv_iload_n hx hb d_Md_same_5 rfl (lv_at hl 3 rfl) ?_
  refine lv_isub hx hb d_Md_same_6 ?_
  refine lv_icmp_ne (tgt := 14) hx hb d_Md_same_7 (by decide) (fun hc => ?_) (fun hc => ?_)
  · replace h := h.1 hc
    refine lv_iconst (v := (0 : Int32)) hx hb d_Md_same_14 (by decide) ?_
    refine lv_istore hx hb d_Md_same_15 hl (by decide) rfl (fun ls hl => ?_)
    have hl : lv_has ls 7 [(5, .int (0 : Int32)), (0, .ref (g.1 54)), (1, .int x1), (2, .int x2), (3, .int x3), (4, .int x4)] := hl
    refine lv_iconst (v := (0 : Int32)) hx hb d_Md_same_17 (by decide) ?_
    refine lv_istore hx hb d_Md_same_18 hl (by decide) rfl (fun ls hl => ?_)
    have hl : lv_has ls 7 [(6, .int (0 : Int32)), (5, .int (0 : Int32)), (0, .ref (g.1 54)), (1, .int x1), (2, .int x2), (3, .int x3), (4, .int x4)] := hl
    exact j1 x1 x2 x3 (0 : Int32) (0 : Int32) σ _ _ _ (lv_sub hl [2, 3, 4, 5, 1, 0] rfl) hst h
  · replace h := h.2 hc
    refine lv_iconst (v := (1 : Int32)) hx hb d_Md_same_10 (by decide) ?_
    refine lv_goto (tgt := 15) hx hb d_Md_same_11 (by decide) ?_
    refine lv_istore hx hb d_Md_same_15 hl (by decide) rfl (fun ls hl => ?_)
    have hl : lv_has ls 7 [(5, .int (1 : Int32)), (0, .ref (g.1 54)), (1, .int x1), (2, .int x2), (3, .int x3), (4, .int x4)] := hl
    refine lv_iconst (v := (0 : Int32)) hx hb d_Md_same_17 (by decide) ?_
    refine lv_istore hx hb d_Md_same_18 hl (by decide) rfl (fun ls hl => ?_)
    have hl : lv_has ls 7 [(6, .int (0 : Int32)), (5, .int (1 : Int32)), (0, .ref (g.1 54)), (1, .int x1), (2, .int x2), (3, .int x3), (4, .int x4)] := hl
    exact j1 x1 x2 x3 (1 : Int32) (0 : Int32) σ _ _ _ (lv_sub hl [2, 3, 4, 5, 1, 0] rfl) hst h
set_option maxRecDepth 100000 in
set_option maxHeartbeats 4000000 in
theorem b_Md_same_1 {p : Program} {l : Launch} {e : Env} {s : State} {m : MethodId} {args : Array Value} {below : List Frame} {meth : Method} {c : Code} {D : va_G} {g : Gm} {A : Nat → Prop} {post : Int32 → Sg → Prop} {F : Nat → Int32 → Int32 → Int32 → Int32 → Int32 → Int32 → Sg → Prop} (C : kC p s m args meth c k_Md_same 7 (some .boolean) GW R_Md D vwCl g (Zk g) A) (j1 : J_Md_same_1 p l e s m args below meth c D g A post F) (x1 : Int32) (x2 : Int32) (x3 : Int32) (x5 : Int32) (x6 : Int32) (σ : Sg) (H : Heap) (locs : List Loc) (ls : Array Slot) (hl : lv_has ls 7 [(0, .ref (g.1 54)), (1, .int x1), (2, .int x2), (3, .int x3), (5, .int x5), (6, .int x6)]) (hst : Wst D vwCl (WS g) A s σ H locs) (h : wb_Md_same_1 F post x1 x2 x3 x5 x6 σ) : W p l e { frames := 0, cells := 0, slots := 0, locals := 0 } s m args below meth c H locs 0 0 (MQ below (QiW D vwCl (WS g) post A) args s 0 0 A) (F0 m 20 ls []) := by
  obtain ⟨hx, hb, hr, hml, hown, hts, hlocks, hK, hZ, hA⟩ := C
  unfold wb_Md_same_1 at h
  refine lv_iload hx hb d_Md_same_20 (lv_at hl 5 rfl) ?_
  refine lv_iload_n hx hb d_Md_same_22 rfl (lv_at hl 2 rfl) ?_
  refine lv_iload_n hx hb d_Md_same_23 rfl (lv_at hl 1 rfl) ?_
  refine lv_isub hx hb d_Md_same_24 ?_
  refine lv_icmp_ge (tgt := 67) hx hb d_Md_same_25 (by decide) (fun hc => ?_) (fun hc => ?_)
  · replace h := h.1 hc
    refine lv_iload hx hb d_Md_same_67 (lv_at hl 4 rfl) ?_
    exact kw_zret hx hb hr hlocks hst h d_Md_same_69
  · replace h := h.2 hc
    refine lv_iload hx hb d_Md_same_28 (lv_at hl 4 rfl) ?_
    refine lv_if_eq (tgt := 67) hx hb d_Md_same_30 (by decide) (fun hc => ?_) (fun hc => ?_)
    · replace h := h.1 hc
      refine lv_iload hx hb d_Md_same_67 (lv_at hl 4 rfl) ?_
      exact kw_zret hx hb hr hlocks hst h d_Md_same_69
    · replace h := h.2 hc
      refine lv_aload_n hx hb d_Md_same_33 rfl (lv_at hl 0 rfl) ?_
      refine va_get (D := D) (ci := 10) (C := R_Md) (T := T_Md) (N := 46) hx hb hts in_Md hown hK hst.1 54 (WS_o54 g σ) rfl 2 (by decide) (hts _ gw1066) (fun _ h9 => h9) rfl d_Md_same_34 ?_
      refine lv_iload_n hx hb d_Md_same_37 rfl (lv_at hl 1 rfl) ?_
      refine lv_iload hx hb d_Md_same_38 (lv_at hl 5 rfl) ?_
      refine lv_iadd hx hb d_Md_same_40 ?_
      obtain ⟨hi, h⟩ := h
      refine va_iald hx hb hK hst.1 56 0 (WS_a56 g σ) rfl hi d_Md_same_41 ?_
      refine lv_aload_n hx hb d_Md_same_42 rfl (lv_at hl 0 rfl) ?_
      refine va_get (D := D) (ci := 10) (C := R_Md) (T := T_Md) (N := 46) hx hb hts in_Md hown hK hst.1 54 (WS_o54 g σ) rfl 2 (by decide) (hts _ gw1066) (fun _ h9 => h9) rfl d_Md_same_43 ?_
      refine lv_iload_n hx hb d_Md_same_46 rfl (lv_at hl 3 rfl) ?_
      refine lv_iload hx hb d_Md_same_47 (lv_at hl 5 rfl) ?_
      refine lv_iadd hx hb d_Md_same_49 ?_
      obtain ⟨hi, h⟩ := h
      refine va_iald hx hb hK hst.1 56 0 (WS_a56 g σ) rfl hi d_Md_same_50 ?_
      refine lv_icmp_ne (tgt := 58) hx hb d_Md_same_51 (by decide) (fun hc => ?_) (fun hc => ?_)
      · replace h := h.1 hc
        refine lv_iconst (v := (0 : Int32)) hx hb d_Md_same_58 (by decide) ?_
        refine lv_istore hx hb d_Md_same_59 hl (by decide) rfl (fun ls hl => ?_)
        have hl : lv_has ls 7 [(5, .int (0 : Int32)), (0, .ref (g.1 54)), (1, .int x1), (2, .int x2), (3, .int x3), (6, .int x6)] := hl
        refine lv_iinc (k := 5) (v := (x6 + 1)) hx hb d_Md_same_61 hl rfl (kw_inc _ (by decide)) (by decide) rfl (fun ls hl => ?_)
        have hl : lv_has ls 7 [(6, .int (x6 + 1)), (5, .int (0 : Int32)), (0, .ref (g.1 54)), (1, .int x1), (2, .int x2), (3, .int x3)] := hl
        refine lv_goto (tgt := 20) hx hb d_Md_same_64 (by decide) ?_
        exact j1 x1 x2 x3 (0 : Int32) (x6 + 1) σ _ _ _ (lv_sub hl [2, 3, 4, 5, 1, 0] rfl) hst h
      · replace h := h.2 hc
        refine lv_iconst (v := (1 : Int32)) hx hb d_Md_same_54 (by decide) ?_
        refine lv_goto (tgt := 59) hx hb d_Md_same_55 (by decide) ?_
        refine lv_istore hx hb d_Md_same_59 hl (by decide) rfl (fun ls hl => ?_)
        have hl : lv_has ls 7 [(5, .int (1 : Int32)), (0, .ref (g.1 54)), (1, .int x1), (2, .int x2), (3, .int x3), (6, .int x6)] := hl
        refine lv_iinc (k := 5) (v := (x6 + 1)) hx hb d_Md_same_61 hl rfl (kw_inc _ (by decide)) (by decide) rfl (fun ls hl => ?_)
        have hl : lv_has ls 7 [(6, .int (x6 + 1)), (5, .int (1 : Int32)), (0, .ref (g.1 54)), (1, .int x1), (2, .int x2), (3, .int x3)] := hl
        refine lv_goto (tgt := 20) hx hb d_Md_same_64 (by decide) ?_
        exact j1 x1 x2 x3 (1 : Int32) (x6 + 1) σ _ _ _ (lv_sub hl [2, 3, 4, 5, 1, 0] rfl) hst h
set_option maxRecDepth 100000 in
set_option maxHeartbeats 4000000 in
theorem a_Md_same {p : Program} {l : Launch} {e : Env} {s : State} {m : MethodId} {args : Array Value} {below : List Frame} {meth : Method} {c : Code} {D : va_G} {g : Gm} {A : Nat → Prop} {post : Int32 → Sg → Prop} (C : kC p s m args meth c k_Md_same 7 (some .boolean) GW R_Md D vwCl g (Zk g) A) : ∀ n : Nat, J_Md_same_1 p l e s m args below meth c D g A post (wp_Md_same post n) := by
  intro n
  induction n with
  | zero => exact fun _ _ _ _ _ _ _ _ _ _ _ h => h.elim
  | succ n ih => exact fun x1 x2 x3 x5 x6 σ H locs ls hl hst h => b_Md_same_1 (F := wp_Md_same post n) C (ih) x1 x2 x3 x5 x6 σ H locs ls hl hst h
set_option maxRecDepth 100000 in
set_option maxHeartbeats 4000000 in
theorem c_Md_same (l : Launch) {D : va_G} {g : Gm} {sz : Nat} (x1 : Int32) (x2 : Int32) (x3 : Int32) (x4 : Int32) {σ : Sg} {post : Int32 → Sg → Prop} (h : wq_Md_same x1 x2 x3 x4 σ post) : Met l y_Md_same (.code y_Md_same k_Md_same 7 (some .boolean) :: GW) { frames := 0, cells := 0, slots := 0, locals := 0 } (PcW D vwCl (WS g) g (Zk g) σ sz [.ref (g.1 54), .int x1, .int x2, .int x3, .int x4]) (QiW D vwCl (WS g) post (va_A (WS g σ) sz)) 0 0 (va_A (WS g σ) sz) := by
  refine kw_entry (own := R_Md) (by decide) rfl rfl (Nat.le_of_ble_eq_true rfl) ?_
  intro p e s m below meth c ls hsz C hin hl hst
  obtain ⟨n, h⟩ := h
  cases n with
  | zero => exact h.elim
  | succ n =>
    have ih := a_Md_same (l := l) (e := e) (below := below) (post := post) C n
    exact b_Md_same_0 (F := wp_Md_same post n) C (ih) x1 x2 x3 x4 σ _ _ ls hl hst h
/-! SchemaDeskModel.childNamed (III)I -/
abbrev k_Md_childNamed : ByteArray := prog_12_method_28_code
abbrev y_Md_childNamed : MethodName := ⟨"SchemaDeskModel", "childNamed", "(III)I"⟩
theorem d_Md_childNamed_0 : decode k_Md_childNamed 0 = .ok (.iload_n 1, 1) := by decide +kernel
theorem d_Md_childNamed_1 : decode k_Md_childNamed 1 = .ok (.sipush 160, 3) := by decide +kernel
theorem d_Md_childNamed_4 : decode k_Md_childNamed 4 = .ok (.if_icmp .ge 7, 3) := by decide +kernel
theorem d_Md_childNamed_7 : decode k_Md_childNamed 7 = .ok (.iconst 0, 1) := by decide +kernel
theorem d_Md_childNamed_8 : decode k_Md_childNamed 8 = .ok (.goto 6, 3) := by decide +kernel
theorem d_Md_childNamed_11 : decode k_Md_childNamed 11 = .ok (.sipush 160, 3) := by decide +kernel
theorem d_Md_childNamed_14 : decode k_Md_childNamed 14 = .ok (.istore 4, 2) := by decide +kernel
theorem d_Md_childNamed_16 : decode k_Md_childNamed 16 = .ok (.aload_n 0, 1) := by decide +kernel
theorem d_Md_childNamed_17 : decode k_Md_childNamed 17 = .ok (.getfield 95, 3) := by decide +kernel
theorem d_Md_childNamed_20 : decode k_Md_childNamed 20 = .ok (.iload_n 1, 1) := by decide +kernel
theorem d_Md_childNamed_21 : decode k_Md_childNamed 21 = .ok (.iaload, 1) := by decide +kernel
theorem d_Md_childNamed_22 : decode k_Md_childNamed 22 = .ok (.istore 5, 2) := by decide +kernel
theorem d_Md_childNamed_24 : decode k_Md_childNamed 24 = .ok (.iload 5, 2) := by decide +kernel
theorem d_Md_childNamed_26 : decode k_Md_childNamed 26 = .ok (.ifCond .lt 49, 3) := by decide +kernel
theorem d_Md_childNamed_29 : decode k_Md_childNamed 29 = .ok (.aload_n 0, 1) := by decide +kernel
theorem d_Md_childNamed_30 : decode k_Md_childNamed 30 = .ok (.iload 4, 2) := by decide +kernel
theorem d_Md_childNamed_32 : decode k_Md_childNamed 32 = .ok (.aload_n 0, 1) := by decide +kernel
theorem d_Md_childNamed_33 : decode k_Md_childNamed 33 = .ok (.getfield 101, 3) := by decide +kernel
theorem d_Md_childNamed_36 : decode k_Md_childNamed 36 = .ok (.iload 5, 2) := by decide +kernel
theorem d_Md_childNamed_38 : decode k_Md_childNamed 38 = .ok (.iaload, 1) := by decide +kernel
theorem d_Md_childNamed_39 : decode k_Md_childNamed 39 = .ok (.iadd, 1) := by decide +kernel
theorem d_Md_childNamed_40 : decode k_Md_childNamed 40 = .ok (.iconst 1, 1) := by decide +kernel
theorem d_Md_childNamed_41 : decode k_Md_childNamed 41 = .ok (.iadd, 1) := by decide +kernel
theorem d_Md_childNamed_42 : decode k_Md_childNamed 42 = .ok (.iload 4, 2) := by decide +kernel
theorem d_Md_childNamed_44 : decode k_Md_childNamed 44 = .ok (.aload_n 0, 1) := by decide +kernel
theorem d_Md_childNamed_45 : decode k_Md_childNamed 45 = .ok (.getfield 104, 3) := by decide +kernel
theorem d_Md_childNamed_48 : decode k_Md_childNamed 48 = .ok (.iload 5, 2) := by decide +kernel
theorem d_Md_childNamed_50 : decode k_Md_childNamed 50 = .ok (.iaload, 1) := by decide +kernel
theorem d_Md_childNamed_51 : decode k_Md_childNamed 51 = .ok (.iadd, 1) := by decide +kernel
theorem d_Md_childNamed_52 : decode k_Md_childNamed 52 = .ok (.iload_n 2, 1) := by decide +kernel
theorem d_Md_childNamed_53 : decode k_Md_childNamed 53 = .ok (.iload_n 3, 1) := by decide +kernel
theorem d_Md_childNamed_54 : decode k_Md_childNamed 54 = .ok (.invokevirtual 245, 3) := by decide +kernel
theorem d_Md_childNamed_57 : decode k_Md_childNamed 57 = .ok (.ifCond .eq 6, 3) := by decide +kernel
theorem d_Md_childNamed_60 : decode k_Md_childNamed 60 = .ok (.iload 5, 2) := by decide +kernel
theorem d_Md_childNamed_62 : decode k_Md_childNamed 62 = .ok (.ireturn, 1) := by decide +kernel
theorem d_Md_childNamed_63 : decode k_Md_childNamed 63 = .ok (.aload_n 0, 1) := by decide +kernel
theorem d_Md_childNamed_64 : decode k_Md_childNamed 64 = .ok (.getfield 98, 3) := by decide +kernel
theorem d_Md_childNamed_67 : decode k_Md_childNamed 67 = .ok (.iload 5, 2) := by decide +kernel
theorem d_Md_childNamed_69 : decode k_Md_childNamed 69 = .ok (.iaload, 1) := by decide +kernel
theorem d_Md_childNamed_70 : decode k_Md_childNamed 70 = .ok (.istore 5, 2) := by decide +kernel
theorem d_Md_childNamed_72 : decode k_Md_childNamed 72 = .ok (.goto (-48), 3) := by decide +kernel
theorem d_Md_childNamed_75 : decode k_Md_childNamed 75 = .ok (.iconst (-1), 1) := by decide +kernel
theorem d_Md_childNamed_76 : decode k_Md_childNamed 76 = .ok (.ireturn, 1) := by decide +kernel
theorem gw1317 : (Jvm.Cond.methodLink "SchemaDeskModel" (245 : Nat) ({ cls := "SchemaDeskModel", name := "same", desc := "(IIII)Z" } : Jvm.MethodName)) ∈ GW := gw_t6 (List.mem_of_getElem? (i := 117) rfl) rfl
theorem gw1319 : (Jvm.Cond.instanceMethod ({ cls := "SchemaDeskModel", name := "same", desc := "(IIII)Z" } : Jvm.MethodName)) ∈ GW := gw_t6 (List.mem_of_getElem? (i := 119) rfl) rfl
theorem gs61 : Cond.selects "SchemaDeskModel" ⟨"SchemaDeskModel", "same", "(IIII)Z"⟩ ⟨"SchemaDeskModel", "same", "(IIII)Z"⟩ ∈ GW := gw_p4 (q := (⟨"SchemaDeskModel", "same", "(IIII)Z"⟩, 46)) (List.mem_of_getElem? (i := 13) rfl)
theorem gw1320 : (Jvm.Cond.code ({ cls := "SchemaDeskModel", name := "same", desc := "(IIII)Z" } : Jvm.MethodName) prog_12_method_27_code (7 : Nat) (Option.some Jvm.ClassFile.FieldType.boolean)) ∈ GW := gw_t6 (List.mem_of_getElem? (i := 120) rfl) rfl
def wb_Md_childNamed_0 (F : Nat → Int32 → Int32 → Int32 → Int32 → Int32 → Sg → Prop) (post : Int32 → Sg → Prop) (x1 : Int32) (x2 : Int32) (x3 : Int32) (σ : Sg) : Prop := (((160 : Int32) ≤ x1 → (vp_in x1 240 ∧ F 1 0 x2 x3 (160 : Int32) (σ.1 65 x1.toNatClampNeg) σ)) ∧ (¬ (160 : Int32) ≤ x1 → (vp_in x1 240 ∧ F 1 0 x2 x3 (0 : Int32) (σ.1 65 x1.toNatClampNeg) σ)))
def wb_Md_childNamed_1 (F : Nat → Int32 → Int32 → Int32 → Int32 → Int32 → Sg → Prop) (post : Int32 → Sg → Prop) (x2 : Int32) (x3 : Int32) (x4 : Int32) (x5 : Int32) (σ : Sg) : Prop := ((x5 < 0 → post (-1 : Int32) σ) ∧ (¬ x5 < 0 → (vp_in x5 240 ∧ (vp_in x5 240 ∧ (wq_Md_same ((x4 + (σ.1 67 x5.toNatClampNeg)) + (1 : Int32)) (x4 + (σ.1 68 x5.toNatClampNeg)) x2 x3 σ (fun r1 σ1 => ((r1 = 0 → (vp_in x5 240 ∧ F 1 0 x2 x3 x4 (σ1.1 66 x5.toNatClampNeg) σ1)) ∧ (¬ r1 = 0 → post x5 σ1))))))))
def wp_Md_childNamed (post : Int32 → Sg → Prop) : Nat → Nat → Int32 → Int32 → Int32 → Int32 → Int32 → Sg → Prop
  | 0, _, _, _, _, _, _, _ => False
  | n + 1, k, x1, x2, x3, x4, x5, σ => match k with
    | 0 => wb_Md_childNamed_0 (wp_Md_childNamed post n) post x1 x2 x3 σ
    | 1 => wb_Md_childNamed_1 (wp_Md_childNamed post n) post x2 x3 x4 x5 σ
    | _ => False
def wq_Md_childNamed (x1 : Int32) (x2 : Int32) (x3 : Int32) (σ : Sg) (post : Int32 → Sg → Prop) : Prop := ∃ n, wp_Md_childNamed post n 0 x1 x2 x3 0 0 σ
def J_Md_childNamed_1 (p : Program) (l : Launch) (e : Env) (s : State) (m : MethodId) (args : Array Value) (below : List Frame) (meth : Method) (c : Code) (D : va_G) (g : Gm) (A : Nat → Prop) (post : Int32 → Sg → Prop) (F : Nat → Int32 → Int32 → Int32 → Int32 → Int32 → Sg → Prop) : Prop := ∀ (x2 : Int32) (x3 : Int32) (x4 : Int32) (x5 : Int32) (σ : Sg) (H : Heap) (locs : List Loc) (ls : Array Slot), lv_has ls 6 [(0, .ref (g.1 54)), (2, .int x2), (3, .int x3), (4, .int x4), (5, .int x5)] → Wst D vwCl (WS g) A s σ H locs → F 1 0 x2 x3 x4 x5 σ → W p l e { frames := 1, cells := 0, slots := 0, locals := 26 } s m args below meth c H locs 0 0 (MQ below (QiW D vwCl (WS g) post A) args s 0 0 A) (F0 m 24 ls [])
set_option maxRecDepth 100000 in
set_option maxHeartbeats 4000000 in
theorem b_Md_childNamed_0 {p : Program} {l : Launch} {e : Env} {s : State} {m : MethodId} {args : Array Value} {below : List Frame} {meth : Method} {c : Code} {D : va_G} {g : Gm} {A : Nat → Prop} {post : Int32 → Sg → Prop} {F : Nat → Int32 → Int32 → Int32 → Int32 → Int32 → Sg → Prop} (C : kC p s m args meth c k_Md_childNamed 6 (some .int) GW R_Md D vwCl g (Zk g) A) (j1 : J_Md_childNamed_1 p l e s m args below meth c D g A post F) (x1 : Int32) (x2 : Int32) (x3 : Int32) (σ : Sg) (H : Heap) (locs : List Loc) (ls : Array Slot) (hl : lv_has ls 6 [(0, .ref (g.1 54)), (1, .int x1), (2, .int x2), (3, .int x3)]) (hst : Wst D vwCl (WS g) A s σ H locs) (h : wb_Md_childNamed_0 F post x1 x2 x3 σ) : W p l e { frames := 1, cells := 0, slots := 0, locals := 26 } s m args below meth c H locs 0 0 (MQ below (QiW D vwCl (WS g) post A) args s 0 0 A) (F0 m 0 ls []) := by
  obtain ⟨hx, hb, hr, hml, hown, hts, hlocks, hK, hZ, hA⟩ := C
  unfold wb_Md_childNamed_0 at h
  refine lv_iload_n hx hb d_Md_childNamed_0 rfl (lv_at hl 1 rfl) ?_
  refine lv_sipush (v := (160 : Int32)) hx hb d_Md_childNamed_1 (by decide) ?_
  refine lv_icmp_ge (tgt := 11) hx hb d_Md_childNamed_4 (by decide) (fun hc => ?_) (fun hc => ?_)
  · replace h := h.1 hc
    refine lv_sipush (v := (160 : Int32)) hx hb d_Md_childNamed_11 (by decide) ?_
    refine lv_istore hx hb d_Md_childNamed_14 hl (by decide) rfl (fun ls hl => ?_)
    have hl : lv_has ls 6 [(4, .int (160 : Int32)), (0, .ref (g.1 54)), (1, .int x1), (2, .int x2), (3, .int x3)] := hl
    refine lv_aload_n hx hb d_Md_childNamed_16 rfl (lv_at hl 1 rfl) ?_
    refine va_get (D := D) (ci := 10) (C := R_Md) (T := T_Md) (N := 46) hx hb hts in_Md hown hK hst.1 54 (WS_o54 g σ) rfl 11 (by decide) (hts _ gw1075) (fun _ h9 => h9) rfl d_Md_childNamed_17 ?_
    refine lv_iload_n hx hb d_Md_childNamed_20 rfl (lv_at hl 2 rfl) ?_
    obtain ⟨hi, h⟩ := h
    refine va_iald hx hb hK hst.1 65 0 (WS_a65 g σ) rfl hi d_Md_childNamed_21 ?_
    refine lv_istore hx hb d_Md_childNamed_22 hl (by decide) rfl (fun ls hl => ?_)
    have hl : lv_has ls 6 [(5, .int (σ.1 65 x1.toNatClampNeg)), (4, .int (160 : Int32)), (0, .ref (g.1 54)), (1, .int x1), (2, .int x2), (3, .int x3)] := hl
    exact j1 x2 x3 (160 : Int32) (σ.1 65 x1.toNatClampNeg) σ _ _ _ (lv_sub hl [2, 4, 5, 1, 0] rfl) hst h
  · replace h := h.2 hc
    refine lv_iconst (v := (0 : Int32)) hx hb d_Md_childNamed_7 (by decide) ?_
    refine lv_goto (tgt := 14) hx hb d_Md_childNamed_8 (by decide) ?_
    refine lv_istore hx hb d_Md_childNamed_14 hl (by decide) rfl (fun ls hl => ?_)
    have hl : lv_has ls 6 [(4, .int (0 : Int32)), (0, .ref (g.1 54)), (1, .int x1), (2, .int x2), (3, .int x3)] := hl
    refine lv_aload_n hx hb d_Md_childNamed_16 rfl (lv_at hl 1 rfl) ?_
    refine va_get (D := D) (ci := 10) (C := R_Md) (T := T_Md) (N := 46) hx hb hts in_Md hown hK hst.1 54 (WS_o54 g σ) rfl 11 (by decide) (hts _ gw1075) (fun _ h9 => h9) rfl d_Md_childNamed_17 ?_
    refine lv_iload_n hx hb d_Md_childNamed_20 rfl (lv_at hl 2 rfl) ?_
    obtain ⟨hi, h⟩ := h
    refine va_iald hx hb hK hst.1 65 0 (WS_a65 g σ) rfl hi d_Md_childNamed_21 ?_
    refine lv_istore hx hb d_Md_childNamed_22 hl (by decide) rfl (fun ls hl => ?_)
    have hl : lv_has ls 6 [(5, .int (σ.1 65 x1.toNatClampNeg)), (4, .int (0 : Int32)), (0, .ref (g.1 54)), (1, .int x1), (2, .int x2), (3, .int x3)] := hl
    exact j1 x2 x3 (0 : Int32) (σ.1 65 x1.toNatClampNeg) σ _ _ _ (lv_sub hl [2, 4, 5, 1, 0] rfl) hst h
set_option maxRecDepth 100000 in
set_option maxHeartbeats 4000000 in
theorem b_Md_childNamed_1 {p : Program} {l : Launch} {e : Env} {s : State} {m : MethodId} {args : Array Value} {below : List Frame} {meth : Method} {c : Code} {D : va_G} {g : Gm} {A : Nat → Prop} {post : Int32 → Sg → Prop} {F : Nat → Int32 → Int32 → Int32 → Int32 → Int32 → Sg → Prop} (C : kC p s m args meth c k_Md_childNamed 6 (some .int) GW R_Md D vwCl g (Zk g) A) (j1 : J_Md_childNamed_1 p l e s m args below meth c D g A post F) (x2 : Int32) (x3 : Int32) (x4 : Int32) (x5 : Int32) (σ : Sg) (H : Heap) (locs : List Loc) (ls : Array Slot) (hl : lv_has ls 6 [(0, .ref (g.1 54)), (2, .int x2), (3, .int x3), (4, .int x4), (5, .int x5)]) (hst : Wst D vwCl (WS g) A s σ H locs) (h : wb_Md_childNamed_1 F post x2 x3 x4 x5 σ) : W p l e { frames := 1, cells := 0, slots := 0, locals := 26 } s m args below meth c H locs 0 0 (MQ below (QiW D vwCl (WS g) post A) args s 0 0 A) (F0 m 24 ls []) := by
  obtain ⟨hx, hb, hr, hml, hown, hts, hlocks, hK, hZ, hA⟩ := C
  unfold wb_Md_childNamed_1 at h
  refine lv_iload hx hb d_Md_childNamed_24 (lv_at hl 4 rfl) ?_
  refine lv_if_lt (tgt := 75) hx hb d_Md_childNamed_26 (by decide) (fun hc => ?_) (fun hc => ?_)
  · replace h := h.1 hc
    refine lv_iconst (v := (-1 : Int32)) hx hb d_Md_childNamed_75 (by decide) ?_
    exact kw_iret hx hb hr hlocks hst h d_Md_childNamed_76
  · replace h := h.2 hc
    refine lv_aload_n hx hb d_Md_childNamed_29 rfl (lv_at hl 0 rfl) ?_
    refine lv_iload hx hb d_Md_childNamed_30 (lv_at hl 3 rfl) ?_
    refine lv_aload_n hx hb d_Md_childNamed_32 rfl (lv_at hl 0 rfl) ?_
    refine va_get (D := D) (ci := 10) (C := R_Md) (T := T_Md) (N := 46) hx hb hts in_Md hown hK hst.1 54 (WS_o54 g σ) rfl 13 (by decide) (hts _ gw1077) (fun _ h9 => h9) rfl d_Md_childNamed_33 ?_
    refine lv_iload hx hb d_Md_childNamed_36 (lv_at hl 4 rfl) ?_
    obtain ⟨hi, h⟩ := h
    refine va_iald hx hb hK hst.1 67 0 (WS_a67 g σ) rfl hi d_Md_childNamed_38 ?_
    refine lv_iadd hx hb d_Md_childNamed_39 ?_
    refine lv_iconst (v := (1 : Int32)) hx hb d_Md_childNamed_40 (by decide) ?_
    refine lv_iadd hx hb d_Md_childNamed_41 ?_
    refine lv_iload hx hb d_Md_childNamed_42 (lv_at hl 3 rfl) ?_
    refine lv_aload_n hx hb d_Md_childNamed_44 rfl (lv_at hl 0 rfl) ?_
    refine va_get (D := D) (ci := 10) (C := R_Md) (T := T_Md) (N := 46) hx hb hts in_Md hown hK hst.1 54 (WS_o54 g σ) rfl 14 (by decide) (hts _ gw1078) (fun _ h9 => h9) rfl d_Md_childNamed_45 ?_
    refine lv_iload hx hb d_Md_childNamed_48 (lv_at hl 4 rfl) ?_
    obtain ⟨hi, h⟩ := h
    refine va_iald hx hb hK hst.1 68 0 (WS_a68 g σ) rfl hi d_Md_childNamed_50 ?_
    refine lv_iadd hx hb d_Md_childNamed_51 ?_
    refine lv_iload_n hx hb d_Md_childNamed_52 rfl (lv_at hl 1 rfl) ?_
    refine lv_iload_n hx hb d_Md_childNamed_53 rfl (lv_at hl 2 rfl) ?_
    refine kw_calli (va_runV (As := [.int ((x4 + (σ.1 67 x5.toNatClampNeg)) + (1 : Int32)), .int (x4 + (σ.1 68 x5.toNatClampNeg)), .int x2, .int x3]) (rest := []) (b := g.1 54) ⟨hx, hb, hml, hown, hts⟩ (c_Md_same l ((x4 + (σ.1 67 x5.toNatClampNeg)) + (1 : Int32)) (x4 + (σ.1 68 x5.toNatClampNeg)) x2 x3 h) (cwV 4 hts (gd_v gw1317 gw1319 gs61 gw15 gw1320) rfl rfl rfl (by decide +kernel) ⟨Nat.le_of_ble_eq_true rfl, Nat.le_of_ble_eq_true rfl⟩) ⟨kw_blind (Zk_ok g), va_recv hK hst.1 rfl (WS_o54 g σ), kw_pre (Zk_ok g) hK hZ hA hst⟩ rfl rfl hl.1 rfl (lv_room (Nat.le_of_ble_eq_true rfl)) d_Md_childNamed_54 ⟨Nat.le_of_ble_eq_true rfl, Nat.le_of_ble_eq_true rfl⟩) hst hA (fun r1 σ1 H locs h hst => ?_)
    refine lv_if_eq (tgt := 63) hx hb d_Md_childNamed_57 (by decide) (fun hc => ?_) (fun hc => ?_)
    · replace h := h.1 hc
      refine lv_aload_n hx hb d_Md_childNamed_63 rfl (lv_at hl 0 rfl) ?_
      refine va_get (D := D) (ci := 10) (C := R_Md) (T := T_Md) (N := 46) hx hb hts in_Md hown hK hst.1 54 (WS_o54 g σ1) rfl 12 (by decide) (hts _ gw1076) (fun _ h9 => h9) rfl d_Md_childNamed_64 ?_
      refine lv_iload hx hb d_Md_childNamed_67 (lv_at hl 4 rfl) ?_
      obtain ⟨hi, h⟩ := h
      refine va_iald hx hb hK hst.1 66 0 (WS_a66 g σ1) rfl hi d_Md_childNamed_69 ?_
      refine lv_istore hx hb d_Md_childNamed_70 hl (by decide) rfl (fun ls hl => ?_)
      have hl : lv_has ls 6 [(5, .int (σ1.1 66 x5.toNatClampNeg)), (0, .ref (g.1 54)), (2, .int x2), (3, .int x3), (4, .int x4)] := hl
      refine lv_goto (tgt := 24) hx hb d_Md_childNamed_72 (by decide) ?_
      exact j1 x2 x3 x4 (σ1.1 66 x5.toNatClampNeg) σ1 _ _ _ (lv_sub hl [1, 2, 3, 4, 0] rfl) hst h
    · replace h := h.2 hc
      refine lv_iload hx hb d_Md_childNamed_60 (lv_at hl 4 rfl) ?_
      exact kw_iret hx hb hr hlocks hst h d_Md_childNamed_62
set_option maxRecDepth 100000 in
set_option maxHeartbeats 4000000 in
theorem a_Md_childNamed {p : Program} {l : Launch} {e : Env} {s : State} {m : MethodId} {args : Array Value} {below : List Frame} {meth : Method} {c : Code} {D : va_G} {g : Gm} {A : Nat → Prop} {post : Int32 → Sg → Prop} (C : kC p s m args meth c k_Md_childNamed 6 (some .int) GW R_Md D vwCl g (Zk g) A) : ∀ n : Nat, J_Md_childNamed_1 p l e s m args below meth c D g A post (wp_Md_childNamed post n) := by
  intro n
  induction n with
  | zero => exact fun _ _ _ _ _ _ _ _ _ _ h => h.elim
  | succ n ih => exact fun x2 x3 x4 x5 σ H locs ls hl hst h => b_Md_childNamed_1 (F := wp_Md_childNamed post n) C (ih) x2 x3 x4 x5 σ H locs ls hl hst h
set_option maxRecDepth 100000 in
set_option maxHeartbeats 4000000 in
theorem c_Md_childNamed (l : Launch) {D : va_G} {g : Gm} {sz : Nat} (x1 : Int32) (x2 : Int32) (x3 : Int32) {σ : Sg} {post : Int32 → Sg → Prop} (h : wq_Md_childNamed x1 x2 x3 σ post) : Met l y_Md_childNamed (.code y_Md_childNamed k_Md_childNamed 6 (some .int) :: GW) { frames := 1, cells := 0, slots := 0, locals := 26 } (PcW D vwCl (WS g) g (Zk g) σ sz [.ref (g.1 54), .int x1, .int x2, .int x3]) (QiW D vwCl (WS g) post (va_A (WS g σ) sz)) 0 0 (va_A (WS g σ) sz) := by
  refine kw_entry (own := R_Md) (by decide) rfl rfl (Nat.le_of_ble_eq_true rfl) ?_
  intro p e s m below meth c ls hsz C hin hl hst
  obtain ⟨n, h⟩ := h
  cases n with
  | zero => exact h.elim
  | succ n =>
    have ih := a_Md_childNamed (l := l) (e := e) (below := below) (post := post) C n
    exact b_Md_childNamed_0 (F := wp_Md_childNamed post n) C (ih) x1 x2 x3 σ _ _ ls hl hst h
/-! SchemaDeskModel.bit (JJI)Z -/
abbrev k_Md_bit : ByteArray := prog_12_method_36_code
abbrev y_Md_bit : MethodName := ⟨"SchemaDeskModel", "bit", "(JJI)Z"⟩
theorem d_Md_bit_0 : decode k_Md_bit 0 = .ok (.iload 4, 2) := by decide +kernel
theorem d_Md_bit_2 : decode k_Md_bit 2 = .ok (.bipush 64, 2) := by decide +kernel
theorem d_Md_bit_4 : decode k_Md_bit 4 = .ok (.if_icmp .ge 22, 3) := by decide +kernel
theorem d_Md_bit_7 : decode k_Md_bit 7 = .ok (.lload_n 0, 1) := by decide +kernel
theorem d_Md_bit_8 : decode k_Md_bit 8 = .ok (.iload 4, 2) := by decide +kernel
theorem d_Md_bit_10 : decode k_Md_bit 10 = .ok (.lshr, 1) := by decide +kernel
theorem d_Md_bit_11 : decode k_Md_bit 11 = .ok (.lconst 1, 1) := by decide +kernel
theorem d_Md_bit_12 : decode k_Md_bit 12 = .ok (.land, 1) := by decide +kernel
theorem d_Md_bit_13 : decode k_Md_bit 13 = .ok (.lconst 1, 1) := by decide +kernel
theorem d_Md_bit_14 : decode k_Md_bit 14 = .ok (.lcmp, 1) := by decide +kernel
theorem d_Md_bit_15 : decode k_Md_bit 15 = .ok (.ifCond .ne 7, 3) := by decide +kernel
theorem d_Md_bit_18 : decode k_Md_bit 18 = .ok (.iconst 1, 1) := by decide +kernel
theorem d_Md_bit_19 : decode k_Md_bit 19 = .ok (.goto 26, 3) := by decide +kernel
theorem d_Md_bit_22 : decode k_Md_bit 22 = .ok (.iconst 0, 1) := by decide +kernel
theorem d_Md_bit_23 : decode k_Md_bit 23 = .ok (.goto 22, 3) := by decide +kernel
theorem d_Md_bit_26 : decode k_Md_bit 26 = .ok (.lload_n 2, 1) := by decide +kernel
theorem d_Md_bit_27 : decode k_Md_bit 27 = .ok (.iload 4, 2) := by decide +kernel
theorem d_Md_bit_29 : decode k_Md_bit 29 = .ok (.bipush 64, 2) := by decide +kernel
theorem d_Md_bit_31 : decode k_Md_bit 31 = .ok (.isub, 1) := by decide +kernel
theorem d_Md_bit_32 : decode k_Md_bit 32 = .ok (.lshr, 1) := by decide +kernel
theorem d_Md_bit_33 : decode k_Md_bit 33 = .ok (.lconst 1, 1) := by decide +kernel
theorem d_Md_bit_34 : decode k_Md_bit 34 = .ok (.land, 1) := by decide +kernel
theorem d_Md_bit_35 : decode k_Md_bit 35 = .ok (.lconst 1, 1) := by decide +kernel
theorem d_Md_bit_36 : decode k_Md_bit 36 = .ok (.lcmp, 1) := by decide +kernel
theorem d_Md_bit_37 : decode k_Md_bit 37 = .ok (.ifCond .ne 7, 3) := by decide +kernel
theorem d_Md_bit_40 : decode k_Md_bit 40 = .ok (.iconst 1, 1) := by decide +kernel
theorem d_Md_bit_41 : decode k_Md_bit 41 = .ok (.goto 4, 3) := by decide +kernel
theorem d_Md_bit_44 : decode k_Md_bit 44 = .ok (.iconst 0, 1) := by decide +kernel
theorem d_Md_bit_45 : decode k_Md_bit 45 = .ok (.ireturn, 1) := by decide +kernel
def wq_Md_bit (y0 : Int64) (y2 : Int64) (x4 : Int32) (σ : Sg) (post : Int32 → Sg → Prop) : Prop := (((64 : Int32) ≤ x4 → ((¬ (lg_cmp ((y2 >>> (((x4 - (64 : Int32)) : Int32).toInt64 &&& 63)) &&& (1 : Int64)) (1 : Int64)) = 0 → (narrow .boolean (.int (0 : Int32)) = .int (0 : Int32) ∧ post (0 : Int32) σ)) ∧ ((lg_cmp ((y2 >>> (((x4 - (64 : Int32)) : Int32).toInt64 &&& 63)) &&& (1 : Int64)) (1 : Int64)) = 0 → (narrow .boolean (.int (1 : Int32)) = .int (1 : Int32) ∧ post (1 : Int32) σ)))) ∧ (¬ (64 : Int32) ≤ x4 → ((¬ (lg_cmp ((y0 >>> ((x4 : Int32).toInt64 &&& 63)) &&& (1 : Int64)) (1 : Int64)) = 0 → (narrow .boolean (.int (0 : Int32)) = .int (0 : Int32) ∧ post (0 : Int32) σ)) ∧ ((lg_cmp ((y0 >>> ((x4 : Int32).toInt64 &&& 63)) &&& (1 : Int64)) (1 : Int64)) = 0 → (narrow .boolean (.int (1 : Int32)) = .int (1 : Int32) ∧ post (1 : Int32) σ)))))
set_option maxRecDepth 100000 in
set_option maxHeartbeats 4000000 in
theorem b_Md_bit_0 {p : Program} {l : Launch} {e : Env} {s : State} {m : MethodId} {args : Array Value} {below : List Frame} {meth : Method} {c : Code} {D : va_G} {g : Gm} {A : Nat → Prop} {post : Int32 → Sg → Prop} (C : kC p s m args meth c k_Md_bit 5 (some .boolean) GW R_Md D vwCl g (Zk g) A) (y0 : Int64) (y2 : Int64) (x4 : Int32) (σ : Sg) (H : Heap) (locs : List Loc) (ls : Array Slot) (hl : lv_has ls 5 [(0, .long y0), (2, .long y2), (4, .int x4)]) (hst : Wst D vwCl (WS g) A s σ H locs) (h : wq_Md_bit y0 y2 x4 σ post) : W p l e { frames := 0, cells := 0, slots := 0, locals := 0 } s m args below meth c H locs 0 0 (MQ below (QiW D vwCl (WS g) post A) args s 0 0 A) (F0 m 0 ls []) := by
  obtain ⟨hx, hb, hr, hml, hown, hts, hlocks, hK, hZ, hA⟩ := C
  unfold wq_Md_bit at h
  refine lv_iload hx hb d_Md_bit_0 (lv_at hl 2 rfl) ?_
  refine lv_bipush (v := (64 : Int32)) hx hb d_Md_bit_2 (by decide) ?_
  refine lv_icmp_ge (tgt := 26) hx hb d_Md_bit_4 (by decide) (fun hc => ?_) (fun hc => ?_)
  · replace h := h.1 hc
    refine lv_lload_n hx hb d_Md_bit_26 rfl (lv_at hl 1 rfl) ?_
    refine lv_iload hx hb d_Md_bit_27 (lv_at hl 2 rfl) ?_
    refine lv_bipush (v := (64 : Int32)) hx hb d_Md_bit_29 (by decide) ?_
    refine lv_isub hx hb d_Md_bit_31 ?_
    refine lv_lshr hx hb d_Md_bit_32 rfl ?_
    refine lv_lconst (v := (1 : Int64)) hx hb d_Md_bit_33 (by decide) ?_
    refine lv_land hx hb d_Md_bit_34 ?_
    refine lv_lconst (v := (1 : Int64)) hx hb d_Md_bit_35 (by decide) ?_
    refine W.lcmp hx hb d_Md_bit_36 ?_
    refine lv_if_ne (tgt := 44) hx hb d_Md_bit_37 (by decide) (fun hc => ?_) (fun hc => ?_)
    · replace h := h.1 hc
      refine lv_iconst (v := (0 : Int32)) hx hb d_Md_bit_44 (by decide) ?_
      exact kw_zret hx hb hr hlocks hst h d_Md_bit_45
    · replace h := h.2 hc
      refine lv_iconst (v := (1 : Int32)) hx hb d_Md_bit_40 (by decide) ?_
      refine lv_goto (tgt := 45) hx hb d_Md_bit_41 (by decide) ?_
      exact kw_zret hx hb hr hlocks hst h d_Md_bit_45
  · replace h := h.2 hc
    refine lv_lload_n hx hb d_Md_bit_7 rfl (lv_at hl 0 rfl) ?_
    refine lv_iload hx hb d_Md_bit_8 (lv_at hl 2 rfl) ?_
    refine lv_lshr hx hb d_Md_bit_10 rfl ?_
    refine lv_lconst (v := (1 : Int64)) hx hb d_Md_bit_11 (by decide) ?_
    refine lv_land hx hb d_Md_bit_12 ?_
    refine lv_lconst (v := (1 : Int64)) hx hb d_Md_bit_13 (by decide) ?_
    refine W.lcmp hx hb d_Md_bit_14 ?_
    refine lv_if_ne (tgt := 22) hx hb d_Md_bit_15 (by decide) (fun hc => ?_) (fun hc => ?_)
    · replace h := h.1 hc
      refine lv_iconst (v := (0 : Int32)) hx hb d_Md_bit_22 (by decide) ?_
      refine lv_goto (tgt := 45) hx hb d_Md_bit_23 (by decide) ?_
      exact kw_zret hx hb hr hlocks hst h d_Md_bit_45
    · replace h := h.2 hc
      refine lv_iconst (v := (1 : Int32)) hx hb d_Md_bit_18 (by decide) ?_
      refine lv_goto (tgt := 45) hx hb d_Md_bit_19 (by decide) ?_
      exact kw_zret hx hb hr hlocks hst h d_Md_bit_45
set_option maxRecDepth 100000 in
set_option maxHeartbeats 4000000 in
theorem c_Md_bit (l : Launch) {D : va_G} {g : Gm} {sz : Nat} (y0 : Int64) (y2 : Int64) (x4 : Int32) {σ : Sg} {post : Int32 → Sg → Prop} (h : wq_Md_bit y0 y2 x4 σ post) : Met l y_Md_bit (.code y_Md_bit k_Md_bit 5 (some .boolean) :: GW) { frames := 0, cells := 0, slots := 0, locals := 0 } (PcW D vwCl (WS g) g (Zk g) σ sz [.long y0, .long y2, .int x4]) (QiW D vwCl (WS g) post (va_A (WS g σ) sz)) 0 0 (va_A (WS g σ) sz) := by
  refine kw_entry (own := R_Md) (by decide) rfl rfl (Nat.le_of_ble_eq_true rfl) ?_
  intro p e s m below meth c ls hsz C hin hl hst
  exact b_Md_bit_0 C y0 y2 x4 σ _ _ ls hl hst h
/-! SchemaDeskModel.add (I)V -/
abbrev k_Md_add : ByteArray := prog_12_method_37_code
abbrev y_Md_add : MethodName := ⟨"SchemaDeskModel", "add", "(I)V"⟩
theorem d_Md_add_0 : decode k_Md_add 0 = .ok (.iload_n 1, 1) := by decide +kernel
theorem d_Md_add_1 : decode k_Md_add 1 = .ok (.bipush 64, 2) := by decide +kernel
theorem d_Md_add_3 : decode k_Md_add 3 = .ok (.if_icmp .ge 18, 3) := by decide +kernel
theorem d_Md_add_6 : decode k_Md_add 6 = .ok (.aload_n 0, 1) := by decide +kernel
theorem d_Md_add_7 : decode k_Md_add 7 = .ok (.aload_n 0, 1) := by decide +kernel
theorem d_Md_add_8 : decode k_Md_add 8 = .ok (.getfield 277, 3) := by decide +kernel
theorem d_Md_add_11 : decode k_Md_add 11 = .ok (.lconst 1, 1) := by decide +kernel
theorem d_Md_add_12 : decode k_Md_add 12 = .ok (.iload_n 1, 1) := by decide +kernel
theorem d_Md_add_13 : decode k_Md_add 13 = .ok (.lshl, 1) := by decide +kernel
theorem d_Md_add_14 : decode k_Md_add 14 = .ok (.lor, 1) := by decide +kernel
theorem d_Md_add_15 : decode k_Md_add 15 = .ok (.putfield 277, 3) := by decide +kernel
theorem d_Md_add_18 : decode k_Md_add 18 = .ok (.goto 18, 3) := by decide +kernel
theorem d_Md_add_21 : decode k_Md_add 21 = .ok (.aload_n 0, 1) := by decide +kernel
theorem d_Md_add_22 : decode k_Md_add 22 = .ok (.aload_n 0, 1) := by decide +kernel
theorem d_Md_add_23 : decode k_Md_add 23 = .ok (.getfield 281, 3) := by decide +kernel
theorem d_Md_add_26 : decode k_Md_add 26 = .ok (.lconst 1, 1) := by decide +kernel
theorem d_Md_add_27 : decode k_Md_add 27 = .ok (.iload_n 1, 1) := by decide +kernel
theorem d_Md_add_28 : decode k_Md_add 28 = .ok (.bipush 64, 2) := by decide +kernel
theorem d_Md_add_30 : decode k_Md_add 30 = .ok (.isub, 1) := by decide +kernel
theorem d_Md_add_31 : decode k_Md_add 31 = .ok (.lshl, 1) := by decide +kernel
theorem d_Md_add_32 : decode k_Md_add 32 = .ok (.lor, 1) := by decide +kernel
theorem d_Md_add_33 : decode k_Md_add 33 = .ok (.putfield 281, 3) := by decide +kernel
theorem d_Md_add_36 : decode k_Md_add 36 = .ok (.return_, 1) := by decide +kernel
theorem gw1103 : (Jvm.Cond.fieldLink "SchemaDeskModel" (281 : Nat) "SchemaDeskModel" "set1" "J") ∈ GW := gw_t5 (List.mem_of_getElem? (i := 143) rfl) rfl
theorem gw1102 : (Jvm.Cond.fieldLink "SchemaDeskModel" (277 : Nat) "SchemaDeskModel" "set0" "J") ∈ GW := gw_t5 (List.mem_of_getElem? (i := 142) rfl) rfl
def wq_Md_add (x1 : Int32) (σ : Sg) (post : Sg → Prop) : Prop := (((64 : Int32) ≤ x1 → (∀ σ1, σ1 = sl σ 54 39 ((σ.2.1 54 39) ||| ((1 : Int64) <<< (((x1 - (64 : Int32)) : Int32).toInt64 &&& 63))) → post σ1)) ∧ (¬ (64 : Int32) ≤ x1 → (∀ σ1, σ1 = sl σ 54 38 ((σ.2.1 54 38) ||| ((1 : Int64) <<< ((x1 : Int32).toInt64 &&& 63))) → post σ1)))
set_option maxRecDepth 100000 in
set_option maxHeartbeats 4000000 in
theorem b_Md_add_0 {p : Program} {l : Launch} {e : Env} {s : State} {m : MethodId} {args : Array Value} {below : List Frame} {meth : Method} {c : Code} {D : va_G} {g : Gm} {A : Nat → Prop} {post : Sg → Prop} (C : kC p s m args meth c k_Md_add 2 (none) GW R_Md D vwCl g (Zk g) A) (x1 : Int32) (σ : Sg) (H : Heap) (locs : List Loc) (ls : Array Slot) (hl : lv_has ls 2 [(0, .ref (g.1 54)), (1, .int x1)]) (hst : Wst D vwCl (WS g) A s σ H locs) (h : wq_Md_add x1 σ post) : W p l e { frames := 0, cells := 0, slots := 0, locals := 0 } s m args below meth c H locs 0 0 (MQ below (QvW D vwCl (WS g) post A) args s 0 0 A) (F0 m 0 ls []) := by
  obtain ⟨hx, hb, hr, hml, hown, hts, hlocks, hK, hZ, hA⟩ := C
  unfold wq_Md_add at h
  refine lv_iload_n hx hb d_Md_add_0 rfl (lv_at hl 1 rfl) ?_
  refine lv_bipush (v := (64 : Int32)) hx hb d_Md_add_1 (by decide) ?_
  refine lv_icmp_ge (tgt := 21) hx hb d_Md_add_3 (by decide) (fun hc => ?_) (fun hc => ?_)
  · replace h := h.1 hc
    refine lv_aload_n hx hb d_Md_add_21 rfl (lv_at hl 0 rfl) ?_
    refine lv_aload_n hx hb d_Md_add_22 rfl (lv_at hl 0 rfl) ?_
    refine va_get (D := D) (ci := 10) (C := R_Md) (T := T_Md) (N := 46) hx hb hts in_Md hown hK hst.1 54 (WS_o54 g σ) rfl 39 (by decide) (hts _ gw1103) (fun _ h9 => h9) rfl d_Md_add_23 ?_
    refine lv_lconst (v := (1 : Int64)) hx hb d_Md_add_26 (by decide) ?_
    refine lv_iload_n hx hb d_Md_add_27 rfl (lv_at hl 1 rfl) ?_
    refine lv_bipush (v := (64 : Int32)) hx hb d_Md_add_28 (by decide) ?_
    refine lv_isub hx hb d_Md_add_30 ?_
    refine lv_lshl hx hb d_Md_add_31 rfl ?_
    refine lv_lor hx hb d_Md_add_32 ?_
    refine kw_putl (D := D) (ci := 10) (ty := .long) (C := R_Md) (T := T_Md) (N := 46) hx hb hts in_Md ty_Md ty_Md_ok nm_Md hown hK hst 54 (WS_o54 g σ) rfl 39 (by decide) (hts _ gw1103) (fun _ h9 => h9) rfl (by decide +kernel) rfl rfl (Nat.le_of_ble_eq_true rfl) (WS_p54_39 g σ _) d_Md_add_33 (fun σ1 H locs e1 hst => ?_)
    replace h := h σ1 e1
    exact kw_vret hx hb hr hlocks hst h d_Md_add_36
  · replace h := h.2 hc
    refine lv_aload_n hx hb d_Md_add_6 rfl (lv_at hl 0 rfl) ?_
    refine lv_aload_n hx hb d_Md_add_7 rfl (lv_at hl 0 rfl) ?_
    refine va_get (D := D) (ci := 10) (C := R_Md) (T := T_Md) (N := 46) hx hb hts in_Md hown hK hst.1 54 (WS_o54 g σ) rfl 38 (by decide) (hts _ gw1102) (fun _ h9 => h9) rfl d_Md_add_8 ?_
    refine lv_lconst (v := (1 : Int64)) hx hb d_Md_add_11 (by decide) ?_
    refine lv_iload_n hx hb d_Md_add_12 rfl (lv_at hl 1 rfl) ?_
    refine lv_lshl hx hb d_Md_add_13 rfl ?_
    refine lv_lor hx hb d_Md_add_14 ?_
    refine kw_putl (D := D) (ci := 10) (ty := .long) (C := R_Md) (T := T_Md) (N := 46) hx hb hts in_Md ty_Md ty_Md_ok nm_Md hown hK hst 54 (WS_o54 g σ) rfl 38 (by decide) (hts _ gw1102) (fun _ h9 => h9) rfl (by decide +kernel) rfl rfl (Nat.le_of_ble_eq_true rfl) (WS_p54_38 g σ _) d_Md_add_15 (fun σ1 H locs e1 hst => ?_)
    replace h := h σ1 e1
    refine lv_goto (tgt := 36) hx hb d_Md_add_18 (by decide) ?_
    exact kw_vret hx hb hr hlocks hst h d_Md_add_36
set_option maxRecDepth 100000 in
set_option maxHeartbeats 4000000 in
theorem c_Md_add (l : Launch) {D : va_G} {g : Gm} {sz : Nat} (x1 : Int32) {σ : Sg} {post : Sg → Prop} (h : wq_Md_add x1 σ post) : Met l y_Md_add (.code y_Md_add k_Md_add 2 (none) :: GW) { frames := 0, cells := 0, slots := 0, locals := 0 } (PcW D vwCl (WS g) g (Zk g) σ sz [.ref (g.1 54), .int x1]) (QvW D vwCl (WS g) post (va_A (WS g σ) sz)) 0 0 (va_A (WS g σ) sz) := by
  refine kw_entry (own := R_Md) (by decide) rfl rfl (Nat.le_of_ble_eq_true rfl) ?_
  intro p e s m below meth c ls hsz C hin hl hst
  exact b_Md_add_0 C x1 σ _ _ ls hl hst h
