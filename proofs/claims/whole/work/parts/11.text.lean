/-! SchemaDesk$Text.room ()I -/
abbrev k_Tx_room : ByteArray := prog_7_method_2_code
abbrev y_Tx_room : MethodName := ⟨"SchemaDesk$Text", "room", "()I"⟩
theorem d_Tx_room_0 : decode k_Tx_room 0 = .ok (.aload_n 0, 1) := by decide +kernel
theorem d_Tx_room_1 : decode k_Tx_room 1 = .ok (.getfield 9, 3) := by decide +kernel
theorem d_Tx_room_4 : decode k_Tx_room 4 = .ok (.arraylength, 1) := by decide +kernel
theorem d_Tx_room_5 : decode k_Tx_room 5 = .ok (.aload_n 0, 1) := by decide +kernel
theorem d_Tx_room_6 : decode k_Tx_room 6 = .ok (.getfield 15, 3) := by decide +kernel
theorem d_Tx_room_9 : decode k_Tx_room 9 = .ok (.isub, 1) := by decide +kernel
theorem d_Tx_room_10 : decode k_Tx_room 10 = .ok (.ireturn, 1) := by decide +kernel
theorem gw106 : (Jvm.Cond.fieldLink "SchemaDesk$Text" (9 : Nat) "SchemaDesk$Text" "letters" "[C") ∈ GW := gw_t1 (List.mem_of_getElem? (i := 106) rfl) rfl
theorem gw112 : (Jvm.Cond.fieldLink "SchemaDesk$Text" (15 : Nat) "SchemaDesk$Text" "size" "I") ∈ GW := gw_t1 (List.mem_of_getElem? (i := 112) rfl) rfl
def wq_Tx_room (b : Nat) (σ : Sg) (post : Int32 → Sg → Prop) : Prop := post ((nI (tl b)) - (σ.1 (b + 10) 1)) σ
set_option maxRecDepth 100000 in
set_option maxHeartbeats 4000000 in
theorem b_Tx_room_0_0 {p : Program} {l : Launch} {e : Env} {s : State} {m : MethodId} {args : Array Value} {below : List Frame} {meth : Method} {c : Code} {D : va_G} {g : Gm} {A : Nat → Prop} {post : Int32 → Sg → Prop} (C : kC p s m args meth c k_Tx_room 1 (some .int) GW R_Tx D vwCl g (Zk g) A) (σ : Sg) (H : Heap) (locs : List Loc) (ls : Array Slot) (hl : lv_has ls 1 [(0, .ref (g.1 10))]) (hst : Wst D vwCl (WS g) A s σ H locs) (h : wq_Tx_room 0  σ post) : W p l e { frames := 0, cells := 0, slots := 0, locals := 0 } s m args below meth c H locs 0 0 (MQ below (QiW D vwCl (WS g) post A) args s 0 0 A) (F0 m 0 ls []) := by
  obtain ⟨hx, hb, hr, hml, hown, hts, hlocks, hK, hZ, hA⟩ := C
  unfold wq_Tx_room at h
  refine lv_aload_n hx hb d_Tx_room_0 rfl (lv_at hl 0 rfl) ?_
  refine va_get (D := D) (ci := 1) (C := R_Tx) (T := T_Tx) (N := 2) hx hb hts in_Tx hown hK hst.1 10 (WS_o10 g σ) rfl 0 (by decide) (hts _ gw106) (fun _ h9 => h9) rfl d_Tx_room_1 ?_
  refine va_alen (v := (160 : Int32)) hx hb hK hst.1 11 1 (WS_a11 g σ) rfl rfl d_Tx_room_4 ?_
  refine lv_aload_n hx hb d_Tx_room_5 rfl (lv_at hl 0 rfl) ?_
  refine va_get (D := D) (ci := 1) (C := R_Tx) (T := T_Tx) (N := 2) hx hb hts in_Tx hown hK hst.1 10 (WS_o10 g σ) rfl 1 (by decide) (hts _ gw112) (fun _ h9 => h9) rfl d_Tx_room_6 ?_
  refine lv_isub hx hb d_Tx_room_9 ?_
  exact kw_iret hx hb hr hlocks hst h d_Tx_room_10
set_option maxRecDepth 100000 in
set_option maxHeartbeats 4000000 in
theorem c_Tx_room_0 (l : Launch) {D : va_G} {g : Gm} {sz : Nat} {σ : Sg} {post : Int32 → Sg → Prop} (h : wq_Tx_room 0 σ post) : Met l y_Tx_room (.code y_Tx_room k_Tx_room 1 (some .int) :: GW) { frames := 0, cells := 0, slots := 0, locals := 0 } (PcW D vwCl (WS g) g (Zk g) σ sz [.ref (g.1 10)]) (QiW D vwCl (WS g) post (va_A (WS g σ) sz)) 0 0 (va_A (WS g σ) sz) := by
  refine kw_entry (own := R_Tx) (by decide) rfl rfl (Nat.le_of_ble_eq_true rfl) ?_
  intro p e s m below meth c ls hsz C hin hl hst
  exact b_Tx_room_0_0 C σ _ _ ls hl hst h
set_option maxRecDepth 100000 in
set_option maxHeartbeats 4000000 in
theorem b_Tx_room_13_0 {p : Program} {l : Launch} {e : Env} {s : State} {m : MethodId} {args : Array Value} {below : List Frame} {meth : Method} {c : Code} {D : va_G} {g : Gm} {A : Nat → Prop} {post : Int32 → Sg → Prop} (C : kC p s m args meth c k_Tx_room 1 (some .int) GW R_Tx D vwCl g (Zk g) A) (σ : Sg) (H : Heap) (locs : List Loc) (ls : Array Slot) (hl : lv_has ls 1 [(0, .ref (g.1 23))]) (hst : Wst D vwCl (WS g) A s σ H locs) (h : wq_Tx_room 13  σ post) : W p l e { frames := 0, cells := 0, slots := 0, locals := 0 } s m args below meth c H locs 0 0 (MQ below (QiW D vwCl (WS g) post A) args s 0 0 A) (F0 m 0 ls []) := by
  obtain ⟨hx, hb, hr, hml, hown, hts, hlocks, hK, hZ, hA⟩ := C
  unfold wq_Tx_room at h
  refine lv_aload_n hx hb d_Tx_room_0 rfl (lv_at hl 0 rfl) ?_
  refine va_get (D := D) (ci := 1) (C := R_Tx) (T := T_Tx) (N := 2) hx hb hts in_Tx hown hK hst.1 23 (WS_o23 g σ) rfl 0 (by decide) (hts _ gw106) (fun _ h9 => h9) rfl d_Tx_room_1 ?_
  refine va_alen (v := (80 : Int32)) hx hb hK hst.1 24 1 (WS_a24 g σ) rfl rfl d_Tx_room_4 ?_
  refine lv_aload_n hx hb d_Tx_room_5 rfl (lv_at hl 0 rfl) ?_
  refine va_get (D := D) (ci := 1) (C := R_Tx) (T := T_Tx) (N := 2) hx hb hts in_Tx hown hK hst.1 23 (WS_o23 g σ) rfl 1 (by decide) (hts _ gw112) (fun _ h9 => h9) rfl d_Tx_room_6 ?_
  refine lv_isub hx hb d_Tx_room_9 ?_
  exact kw_iret hx hb hr hlocks hst h d_Tx_room_10
set_option maxRecDepth 100000 in
set_option maxHeartbeats 4000000 in
theorem c_Tx_room_13 (l : Launch) {D : va_G} {g : Gm} {sz : Nat} {σ : Sg} {post : Int32 → Sg → Prop} (h : wq_Tx_room 13 σ post) : Met l y_Tx_room (.code y_Tx_room k_Tx_room 1 (some .int) :: GW) { frames := 0, cells := 0, slots := 0, locals := 0 } (PcW D vwCl (WS g) g (Zk g) σ sz [.ref (g.1 23)]) (QiW D vwCl (WS g) post (va_A (WS g σ) sz)) 0 0 (va_A (WS g σ) sz) := by
  refine kw_entry (own := R_Tx) (by decide) rfl rfl (Nat.le_of_ble_eq_true rfl) ?_
  intro p e s m below meth c ls hsz C hin hl hst
  exact b_Tx_room_13_0 C σ _ _ ls hl hst h
/-! SchemaDesk$Text.put (IC)V -/
abbrev k_Tx_put : ByteArray := prog_7_method_3_code
abbrev y_Tx_put : MethodName := ⟨"SchemaDesk$Text", "put", "(IC)V"⟩
theorem d_Tx_put_0 : decode k_Tx_put 0 = .ok (.aload_n 0, 1) := by decide +kernel
theorem d_Tx_put_1 : decode k_Tx_put 1 = .ok (.getfield 9, 3) := by decide +kernel
theorem d_Tx_put_4 : decode k_Tx_put 4 = .ok (.iload_n 1, 1) := by decide +kernel
theorem d_Tx_put_5 : decode k_Tx_put 5 = .ok (.aload_n 0, 1) := by decide +kernel
theorem d_Tx_put_6 : decode k_Tx_put 6 = .ok (.getfield 9, 3) := by decide +kernel
theorem d_Tx_put_9 : decode k_Tx_put 9 = .ok (.iload_n 1, 1) := by decide +kernel
theorem d_Tx_put_10 : decode k_Tx_put 10 = .ok (.iconst 1, 1) := by decide +kernel
theorem d_Tx_put_11 : decode k_Tx_put 11 = .ok (.iadd, 1) := by decide +kernel
theorem d_Tx_put_12 : decode k_Tx_put 12 = .ok (.aload_n 0, 1) := by decide +kernel
theorem d_Tx_put_13 : decode k_Tx_put 13 = .ok (.getfield 15, 3) := by decide +kernel
theorem d_Tx_put_16 : decode k_Tx_put 16 = .ok (.iload_n 1, 1) := by decide +kernel
theorem d_Tx_put_17 : decode k_Tx_put 17 = .ok (.isub, 1) := by decide +kernel
theorem d_Tx_put_18 : decode k_Tx_put 18 = .ok (.invokestatic 19, 3) := by decide +kernel
theorem d_Tx_put_21 : decode k_Tx_put 21 = .ok (.aload_n 0, 1) := by decide +kernel
theorem d_Tx_put_22 : decode k_Tx_put 22 = .ok (.getfield 9, 3) := by decide +kernel
theorem d_Tx_put_25 : decode k_Tx_put 25 = .ok (.iload_n 1, 1) := by decide +kernel
theorem d_Tx_put_26 : decode k_Tx_put 26 = .ok (.iload_n 2, 1) := by decide +kernel
theorem d_Tx_put_27 : decode k_Tx_put 27 = .ok (.castore, 1) := by decide +kernel
theorem d_Tx_put_28 : decode k_Tx_put 28 = .ok (.aload_n 0, 1) := by decide +kernel
theorem d_Tx_put_29 : decode k_Tx_put 29 = .ok (.dup, 1) := by decide +kernel
theorem d_Tx_put_30 : decode k_Tx_put 30 = .ok (.getfield 15, 3) := by decide +kernel
theorem d_Tx_put_33 : decode k_Tx_put 33 = .ok (.iconst 1, 1) := by decide +kernel
theorem d_Tx_put_34 : decode k_Tx_put 34 = .ok (.iadd, 1) := by decide +kernel
theorem d_Tx_put_35 : decode k_Tx_put 35 = .ok (.putfield 15, 3) := by decide +kernel
theorem d_Tx_put_38 : decode k_Tx_put 38 = .ok (.return_, 1) := by decide +kernel
theorem gw449 : (Jvm.Cond.methodLink "SchemaDesk$Text" (19 : Nat) ({ cls := "java/lang/System", name := "arraycopy", desc := "(Ljava/lang/Object;ILjava/lang/Object;II)V" } : Jvm.MethodName)) ∈ GW := gw_t2 (List.mem_of_getElem? (i := 209) rfl) rfl
theorem gw451 : (Jvm.Cond.native ({ cls := "java/lang/System", name := "arraycopy", desc := "(Ljava/lang/Object;ILjava/lang/Object;II)V" } : Jvm.MethodName)) ∈ GW := gw_t2 (List.mem_of_getElem? (i := 211) rfl) rfl
theorem gw450 : (Jvm.Cond.static ({ cls := "java/lang/System", name := "arraycopy", desc := "(Ljava/lang/Object;ILjava/lang/Object;II)V" } : Jvm.MethodName)) ∈ GW := gw_t2 (List.mem_of_getElem? (i := 210) rfl) rfl
theorem gw16 : (Jvm.Cond.initialized "java/lang/System") ∈ GW := gw_t1 (List.mem_of_getElem? (i := 16) rfl) rfl
def wq_Tx_put (b : Nat) (x1 : Int32) (x2 : Int32) (σ : Sg) (post : Sg → Prop) : Prop := (¬ x1 < 0 ∧ ¬ (x1 + (1 : Int32)) < 0 ∧ ¬ ((σ.1 (b + 10) 1) - x1) < 0 ∧ (x1 : Int32).toNatClampNeg + (((σ.1 (b + 10) 1) - x1) : Int32).toNatClampNeg ≤ (tl b) ∧ ((x1 + (1 : Int32)) : Int32).toNatClampNeg + (((σ.1 (b + 10) 1) - x1) : Int32).toNatClampNeg ≤ (tl b) ∧ (∀ i, i < (((σ.1 (b + 10) 1) - x1) : Int32).toNatClampNeg → fits .char (.int (σ.1 (b + 11) ((x1 : Int32).toNatClampNeg + i))) = true) ∧ (∀ σ1, σ1 = sw σ (b + 11) (va_cpy (σ.1 (b + 11)) (σ.1 (b + 11)) (x1 : Int32).toNatClampNeg ((x1 + (1 : Int32)) : Int32).toNatClampNeg (((σ.1 (b + 10) 1) - x1) : Int32).toNatClampNeg) → (vp_in x1 (tl b) ∧ (∀ σ2, σ2 = si σ1 (b + 11) x1.toNatClampNeg (vp_nar .char x2) → (∀ σ3, σ3 = si σ2 (b + 10) 1 ((σ2.1 (b + 10) 1) + (1 : Int32)) → post σ3)))))
set_option maxRecDepth 100000 in
set_option maxHeartbeats 4000000 in
theorem b_Tx_put_0_0 {p : Program} {l : Launch} {e : Env} {s : State} {m : MethodId} {args : Array Value} {below : List Frame} {meth : Method} {c : Code} {D : va_G} {g : Gm} {A : Nat → Prop} {post : Sg → Prop} (C : kC p s m args meth c k_Tx_put 3 (none) GW R_Tx D vwCl g (Zk g) A) (x1 : Int32) (x2 : Int32) (σ : Sg) (H : Heap) (locs : List Loc) (ls : Array Slot) (hl : lv_has ls 3 [(0, .ref (g.1 10)), (1, .int x1), (2, .int x2)]) (hst : Wst D vwCl (WS g) A s σ H locs) (h : wq_Tx_put 0 x1 x2 σ post) : W p l e { frames := 1, cells := 0, slots := 0, locals := 60 } s m args below meth c H locs 0 0 (MQ below (QvW D vwCl (WS g) post A) args s 0 0 A) (F0 m 0 ls []) := by
  obtain ⟨hx, hb, hr, hml, hown, hts, hlocks, hK, hZ, hA⟩ := C
  unfold wq_Tx_put at h
  refine lv_aload_n hx hb d_Tx_put_0 rfl (lv_at hl 0 rfl) ?_
  refine va_get (D := D) (ci := 1) (C := R_Tx) (T := T_Tx) (N := 2) hx hb hts in_Tx hown hK hst.1 10 (WS_o10 g σ) rfl 0 (by decide) (hts _ gw106) (fun _ h9 => h9) rfl d_Tx_put_1 ?_
  refine lv_iload_n hx hb d_Tx_put_4 rfl (lv_at hl 1 rfl) ?_
  refine lv_aload_n hx hb d_Tx_put_5 rfl (lv_at hl 0 rfl) ?_
  refine va_get (D := D) (ci := 1) (C := R_Tx) (T := T_Tx) (N := 2) hx hb hts in_Tx hown hK hst.1 10 (WS_o10 g σ) rfl 0 (by decide) (hts _ gw106) (fun _ h9 => h9) rfl d_Tx_put_6 ?_
  refine lv_iload_n hx hb d_Tx_put_9 rfl (lv_at hl 1 rfl) ?_
  refine lv_iconst (v := (1 : Int32)) hx hb d_Tx_put_10 (by decide) ?_
  refine lv_iadd hx hb d_Tx_put_11 ?_
  refine lv_aload_n hx hb d_Tx_put_12 rfl (lv_at hl 0 rfl) ?_
  refine va_get (D := D) (ci := 1) (C := R_Tx) (T := T_Tx) (N := 2) hx hb hts in_Tx hown hK hst.1 10 (WS_o10 g σ) rfl 1 (by decide) (hts _ gw112) (fun _ h9 => h9) rfl d_Tx_put_13 ?_
  refine lv_iload_n hx hb d_Tx_put_16 rfl (lv_at hl 1 rfl) ?_
  refine lv_isub hx hb d_Tx_put_17 ?_
  obtain ⟨hi1, hi2, hi3, hi4, hi5, hi6, h⟩ := h
  refine kw_copy hx hb (hml.trans hl.1.symm) hown (hts _ gw449) (hts _ gw451) (hts _ gw450) (hts _ gw16) hK hst 11 11 1 (WS_a11 g σ) (WS_a11 g σ) rfl rfl hi1 hi2 hi3 hi4 hi5 hi6 (Nat.le_of_ble_eq_true rfl) (Nat.le_of_ble_eq_true rfl) (WS_w11 g σ _) d_Tx_put_18 (fun σ1 H locs e1 hst => ?_)
  replace h := h σ1 e1
  refine lv_aload_n hx hb d_Tx_put_21 rfl (lv_at hl 0 rfl) ?_
  refine va_get (D := D) (ci := 1) (C := R_Tx) (T := T_Tx) (N := 2) hx hb hts in_Tx hown hK hst.1 10 (WS_o10 g σ1) rfl 0 (by decide) (hts _ gw106) (fun _ h9 => h9) rfl d_Tx_put_22 ?_
  refine lv_iload_n hx hb d_Tx_put_25 rfl (lv_at hl 1 rfl) ?_
  refine lv_iload_n hx hb d_Tx_put_26 rfl (lv_at hl 2 rfl) ?_
  obtain ⟨hi, h⟩ := h
  refine kw_cast hx hb hK hst 11 (WS_a11 g σ1) hi (WS_s11 g σ1 _ _) d_Tx_put_27 (fun σ2 H locs e2 hst => ?_)
  replace h := h σ2 e2
  refine lv_aload_n hx hb d_Tx_put_28 rfl (lv_at hl 0 rfl) ?_
  refine lv_dup hx hb d_Tx_put_29 rfl ?_
  refine va_get (D := D) (ci := 1) (C := R_Tx) (T := T_Tx) (N := 2) hx hb hts in_Tx hown hK hst.1 10 (WS_o10 g σ2) rfl 1 (by decide) (hts _ gw112) (fun _ h9 => h9) rfl d_Tx_put_30 ?_
  refine lv_iconst (v := (1 : Int32)) hx hb d_Tx_put_33 (by decide) ?_
  refine lv_iadd hx hb d_Tx_put_34 ?_
  refine kw_put (D := D) (ci := 1) (ty := .int) (C := R_Tx) (T := T_Tx) (N := 2) hx hb hts in_Tx ty_Tx ty_Tx_ok nm_Tx hown hK hst 10 (WS_o10 g σ2) rfl 1 (by decide) (hts _ gw112) (fun _ h9 => h9) rfl (by decide +kernel) rfl rfl (Nat.le_of_ble_eq_true rfl) (WS_p10_1 g σ2 _) d_Tx_put_35 (fun σ3 H locs e3 hst => ?_)
  replace h := h σ3 e3
  exact kw_vret hx hb hr hlocks hst h d_Tx_put_38
set_option maxRecDepth 100000 in
set_option maxHeartbeats 4000000 in
theorem c_Tx_put_0 (l : Launch) {D : va_G} {g : Gm} {sz : Nat} (x1 : Int32) (x2 : Int32) {σ : Sg} {post : Sg → Prop} (h : wq_Tx_put 0 x1 x2 σ post) : Met l y_Tx_put (.code y_Tx_put k_Tx_put 3 (none) :: GW) { frames := 1, cells := 0, slots := 0, locals := 60 } (PcW D vwCl (WS g) g (Zk g) σ sz [.ref (g.1 10), .int x1, .int x2]) (QvW D vwCl (WS g) post (va_A (WS g σ) sz)) 0 0 (va_A (WS g σ) sz) := by
  refine kw_entry (own := R_Tx) (by decide) rfl rfl (Nat.le_of_ble_eq_true rfl) ?_
  intro p e s m below meth c ls hsz C hin hl hst
  exact b_Tx_put_0_0 C x1 x2 σ _ _ ls hl hst h
set_option maxRecDepth 100000 in
set_option maxHeartbeats 4000000 in
theorem b_Tx_put_13_0 {p : Program} {l : Launch} {e : Env} {s : State} {m : MethodId} {args : Array Value} {below : List Frame} {meth : Method} {c : Code} {D : va_G} {g : Gm} {A : Nat → Prop} {post : Sg → Prop} (C : kC p s m args meth c k_Tx_put 3 (none) GW R_Tx D vwCl g (Zk g) A) (x1 : Int32) (x2 : Int32) (σ : Sg) (H : Heap) (locs : List Loc) (ls : Array Slot) (hl : lv_has ls 3 [(0, .ref (g.1 23)), (1, .int x1), (2, .int x2)]) (hst : Wst D vwCl (WS g) A s σ H locs) (h : wq_Tx_put 13 x1 x2 σ post) : W p l e { frames := 1, cells := 0, slots := 0, locals := 60 } s m args below meth c H locs 0 0 (MQ below (QvW D vwCl (WS g) post A) args s 0 0 A) (F0 m 0 ls []) := by
  obtain ⟨hx, hb, hr, hml, hown, hts, hlocks, hK, hZ, hA⟩ := C
  unfold wq_Tx_put at h
  refine lv_aload_n hx hb d_Tx_put_0 rfl (lv_at hl 0 rfl) ?_
  refine va_get (D := D) (ci := 1) (C := R_Tx) (T := T_Tx) (N := 2) hx hb hts in_Tx hown hK hst.1 23 (WS_o23 g σ) rfl 0 (by decide) (hts _ gw106) (fun _ h9 => h9) rfl d_Tx_put_1 ?_
  refine lv_iload_n hx hb d_Tx_put_4 rfl (lv_at hl 1 rfl) ?_
  refine lv_aload_n hx hb d_Tx_put_5 rfl (lv_at hl 0 rfl) ?_
  refine va_get (D := D) (ci := 1) (C := R_Tx) (T := T_Tx) (N := 2) hx hb hts in_Tx hown hK hst.1 23 (WS_o23 g σ) rfl 0 (by decide) (hts _ gw106) (fun _ h9 => h9) rfl d_Tx_put_6 ?_
  refine lv_iload_n hx hb d_Tx_put_9 rfl (lv_at hl 1 rfl) ?_
  refine lv_iconst (v := (1 : Int32)) hx hb d_Tx_put_10 (by decide) ?_
  refine lv_iadd hx hb d_Tx_put_11 ?_
  refine lv_aload_n hx hb d_Tx_put_12 rfl (lv_at hl 0 rfl) ?_
  refine va_get (D := D) (ci := 1) (C := R_Tx) (T := T_Tx) (N := 2) hx hb hts in_Tx hown hK hst.1 23 (WS_o23 g σ) rfl 1 (by decide) (hts _ gw112) (fun _ h9 => h9) rfl d_Tx_put_13 ?_
  refine lv_iload_n hx hb d_Tx_put_16 rfl (lv_at hl 1 rfl) ?_
  refine lv_isub hx hb d_Tx_put_17 ?_
  obtain ⟨hi1, hi2, hi3, hi4, hi5, hi6, h⟩ := h
  refine kw_copy hx hb (hml.trans hl.1.symm) hown (hts _ gw449) (hts _ gw451) (hts _ gw450) (hts _ gw16) hK hst 24 24 1 (WS_a24 g σ) (WS_a24 g σ) rfl rfl hi1 hi2 hi3 hi4 hi5 hi6 (Nat.le_of_ble_eq_true rfl) (Nat.le_of_ble_eq_true rfl) (WS_w24 g σ _) d_Tx_put_18 (fun σ1 H locs e1 hst => ?_)
  replace h := h σ1 e1
  refine lv_aload_n hx hb d_Tx_put_21 rfl (lv_at hl 0 rfl) ?_
  refine va_get (D := D) (ci := 1) (C := R_Tx) (T := T_Tx) (N := 2) hx hb hts in_Tx hown hK hst.1 23 (WS_o23 g σ1) rfl 0 (by decide) (hts _ gw106) (fun _ h9 => h9) rfl d_Tx_put_22 ?_
  refine lv_iload_n hx hb d_Tx_put_25 rfl (lv_at hl 1 rfl) ?_
  refine lv_iload_n hx hb d_Tx_put_26 rfl (lv_at hl 2 rfl) ?_
  obtain ⟨hi, h⟩ := h
  refine kw_cast hx hb hK hst 24 (WS_a24 g σ1) hi (WS_s24 g σ1 _ _) d_Tx_put_27 (fun σ2 H locs e2 hst => ?_)
  replace h := h σ2 e2
  refine lv_aload_n hx hb d_Tx_put_28 rfl (lv_at hl 0 rfl) ?_
  refine lv_dup hx hb d_Tx_put_29 rfl ?_
  refine va_get (D := D) (ci := 1) (C := R_Tx) (T := T_Tx) (N := 2) hx hb hts in_Tx hown hK hst.1 23 (WS_o23 g σ2) rfl 1 (by decide) (hts _ gw112) (fun _ h9 => h9) rfl d_Tx_put_30 ?_
  refine lv_iconst (v := (1 : Int32)) hx hb d_Tx_put_33 (by decide) ?_
  refine lv_iadd hx hb d_Tx_put_34 ?_
  refine kw_put (D := D) (ci := 1) (ty := .int) (C := R_Tx) (T := T_Tx) (N := 2) hx hb hts in_Tx ty_Tx ty_Tx_ok nm_Tx hown hK hst 23 (WS_o23 g σ2) rfl 1 (by decide) (hts _ gw112) (fun _ h9 => h9) rfl (by decide +kernel) rfl rfl (Nat.le_of_ble_eq_true rfl) (WS_p23_1 g σ2 _) d_Tx_put_35 (fun σ3 H locs e3 hst => ?_)
  replace h := h σ3 e3
  exact kw_vret hx hb hr hlocks hst h d_Tx_put_38
set_option maxRecDepth 100000 in
set_option maxHeartbeats 4000000 in
theorem c_Tx_put_13 (l : Launch) {D : va_G} {g : Gm} {sz : Nat} (x1 : Int32) (x2 : Int32) {σ : Sg} {post : Sg → Prop} (h : wq_Tx_put 13 x1 x2 σ post) : Met l y_Tx_put (.code y_Tx_put k_Tx_put 3 (none) :: GW) { frames := 1, cells := 0, slots := 0, locals := 60 } (PcW D vwCl (WS g) g (Zk g) σ sz [.ref (g.1 23), .int x1, .int x2]) (QvW D vwCl (WS g) post (va_A (WS g σ) sz)) 0 0 (va_A (WS g σ) sz) := by
  refine kw_entry (own := R_Tx) (by decide) rfl rfl (Nat.le_of_ble_eq_true rfl) ?_
  intro p e s m below meth c ls hsz C hin hl hst
  exact b_Tx_put_13_0 C x1 x2 σ _ _ ls hl hst h
/-! SchemaDesk$Text.take (II)V -/
abbrev k_Tx_take : ByteArray := prog_7_method_4_code
abbrev y_Tx_take : MethodName := ⟨"SchemaDesk$Text", "take", "(II)V"⟩
theorem d_Tx_take_0 : decode k_Tx_take 0 = .ok (.aload_n 0, 1) := by decide +kernel
theorem d_Tx_take_1 : decode k_Tx_take 1 = .ok (.getfield 9, 3) := by decide +kernel
theorem d_Tx_take_4 : decode k_Tx_take 4 = .ok (.iload_n 1, 1) := by decide +kernel
theorem d_Tx_take_5 : decode k_Tx_take 5 = .ok (.iload_n 2, 1) := by decide +kernel
theorem d_Tx_take_6 : decode k_Tx_take 6 = .ok (.iadd, 1) := by decide +kernel
theorem d_Tx_take_7 : decode k_Tx_take 7 = .ok (.aload_n 0, 1) := by decide +kernel
theorem d_Tx_take_8 : decode k_Tx_take 8 = .ok (.getfield 9, 3) := by decide +kernel
theorem d_Tx_take_11 : decode k_Tx_take 11 = .ok (.iload_n 1, 1) := by decide +kernel
theorem d_Tx_take_12 : decode k_Tx_take 12 = .ok (.aload_n 0, 1) := by decide +kernel
theorem d_Tx_take_13 : decode k_Tx_take 13 = .ok (.getfield 15, 3) := by decide +kernel
theorem d_Tx_take_16 : decode k_Tx_take 16 = .ok (.iload_n 1, 1) := by decide +kernel
theorem d_Tx_take_17 : decode k_Tx_take 17 = .ok (.isub, 1) := by decide +kernel
theorem d_Tx_take_18 : decode k_Tx_take 18 = .ok (.iload_n 2, 1) := by decide +kernel
theorem d_Tx_take_19 : decode k_Tx_take 19 = .ok (.isub, 1) := by decide +kernel
theorem d_Tx_take_20 : decode k_Tx_take 20 = .ok (.invokestatic 19, 3) := by decide +kernel
theorem d_Tx_take_23 : decode k_Tx_take 23 = .ok (.aload_n 0, 1) := by decide +kernel
theorem d_Tx_take_24 : decode k_Tx_take 24 = .ok (.dup, 1) := by decide +kernel
theorem d_Tx_take_25 : decode k_Tx_take 25 = .ok (.getfield 15, 3) := by decide +kernel
theorem d_Tx_take_28 : decode k_Tx_take 28 = .ok (.iload_n 2, 1) := by decide +kernel
theorem d_Tx_take_29 : decode k_Tx_take 29 = .ok (.isub, 1) := by decide +kernel
theorem d_Tx_take_30 : decode k_Tx_take 30 = .ok (.putfield 15, 3) := by decide +kernel
theorem d_Tx_take_33 : decode k_Tx_take 33 = .ok (.return_, 1) := by decide +kernel
def wq_Tx_take (b : Nat) (x1 : Int32) (x2 : Int32) (σ : Sg) (post : Sg → Prop) : Prop := (¬ (x1 + x2) < 0 ∧ ¬ x1 < 0 ∧ ¬ (((σ.1 (b + 10) 1) - x1) - x2) < 0 ∧ ((x1 + x2) : Int32).toNatClampNeg + ((((σ.1 (b + 10) 1) - x1) - x2) : Int32).toNatClampNeg ≤ (tl b) ∧ (x1 : Int32).toNatClampNeg + ((((σ.1 (b + 10) 1) - x1) - x2) : Int32).toNatClampNeg ≤ (tl b) ∧ (∀ i, i < ((((σ.1 (b + 10) 1) - x1) - x2) : Int32).toNatClampNeg → fits .char (.int (σ.1 (b + 11) (((x1 + x2) : Int32).toNatClampNeg + i))) = true) ∧ (∀ σ1, σ1 = sw σ (b + 11) (va_cpy (σ.1 (b + 11)) (σ.1 (b + 11)) ((x1 + x2) : Int32).toNatClampNeg (x1 : Int32).toNatClampNeg ((((σ.1 (b + 10) 1) - x1) - x2) : Int32).toNatClampNeg) → (∀ σ2, σ2 = si σ1 (b + 10) 1 ((σ1.1 (b + 10) 1) - x2) → post σ2)))
set_option maxRecDepth 100000 in
set_option maxHeartbeats 4000000 in
theorem b_Tx_take_0_0 {p : Program} {l : Launch} {e : Env} {s : State} {m : MethodId} {args : Array Value} {below : List Frame} {meth : Method} {c : Code} {D : va_G} {g : Gm} {A : Nat → Prop} {post : Sg → Prop} (C : kC p s m args meth c k_Tx_take 3 (none) GW R_Tx D vwCl g (Zk g) A) (x1 : Int32) (x2 : Int32) (σ : Sg) (H : Heap) (locs : List Loc) (ls : Array Slot) (hl : lv_has ls 3 [(0, .ref (g.1 10)), (1, .int x1), (2, .int x2)]) (hst : Wst D vwCl (WS g) A s σ H locs) (h : wq_Tx_take 0 x1 x2 σ post) : W p l e { frames := 1, cells := 0, slots := 0, locals := 60 } s m args below meth c H locs 0 0 (MQ below (QvW D vwCl (WS g) post A) args s 0 0 A) (F0 m 0 ls []) := by
  obtain ⟨hx, hb, hr, hml, hown, hts, hlocks, hK, hZ, hA⟩ := C
  unfold wq_Tx_take at h
  refine lv_aload_n hx hb d_Tx_take_0 rfl (lv_at hl 0 rfl) ?_
  refine va_get (D := D) (ci := 1) (C := R_Tx) (T := T_Tx) (N := 2) hx hb hts in_Tx hown hK hst.1 10 (WS_o10 g σ) rfl 0 (by decide) (hts _ gw106) (fun _ h9 => h9) rfl d_Tx_take_1 ?_
  refine lv_iload_n hx hb d_Tx_take_4 rfl (lv_at hl 1 rfl) ?_
  refine lv_iload_n hx hb d_Tx_take_5 rfl (lv_at hl 2 rfl) ?_
  refine lv_iadd hx hb d_Tx_take_6 ?_
  refine lv_aload_n hx hb d_Tx_take_7 rfl (lv_at hl 0 rfl) ?_
  refine va_get (D := D) (ci := 1) (C := R_Tx) (T := T_Tx) (N := 2) hx hb hts in_Tx hown hK hst.1 10 (WS_o10 g σ) rfl 0 (by decide) (hts _ gw106) (fun _ h9 => h9) rfl d_Tx_take_8 ?_
  refine lv_iload_n hx hb d_Tx_take_11 rfl (lv_at hl 1 rfl) ?_
  refine lv_aload_n hx hb d_Tx_take_12 rfl (lv_at hl 0 rfl) ?_
  refine va_get (D := D) (ci := 1) (C := R_Tx) (T := T_Tx) (N := 2) hx hb hts in_Tx hown hK hst.1 10 (WS_o10 g σ) rfl 1 (by decide) (hts _ gw112) (fun _ h9 => h9) rfl d_Tx_take_13 ?_
  refine lv_iload_n hx hb d_Tx_take_16 rfl (lv_at hl 1 rfl) ?_
  refine lv_isub hx hb d_Tx_take_17 ?_
  refine lv_iload_n hx hb d_Tx_take_18 rfl (lv_at hl 2 rfl) ?_
  refine lv_isub hx hb d_Tx_take_19 ?_
  obtain ⟨hi1, hi2, hi3, hi4, hi5, hi6, h⟩ := h
  refine kw_copy hx hb (hml.trans hl.1.symm) hown (hts _ gw449) (hts _ gw451) (hts _ gw450) (hts _ gw16) hK hst 11 11 1 (WS_a11 g σ) (WS_a11 g σ) rfl rfl hi1 hi2 hi3 hi4 hi5 hi6 (Nat.le_of_ble_eq_true rfl) (Nat.le_of_ble_eq_true rfl) (WS_w11 g σ _) d_Tx_take_20 (fun σ1 H locs e1 hst => ?_)
  replace h := h σ1 e1
  refine lv_aload_n hx hb d_Tx_take_23 rfl (lv_at hl 0 rfl) ?_
  refine lv_dup hx hb d_Tx_take_24 rfl ?_
  refine va_get (D := D) (ci := 1) (C := R_Tx) (T := T_Tx) (N := 2) hx hb hts in_Tx hown hK hst.1 10 (WS_o10 g σ1) rfl 1 (by decide) (hts _ gw112) (fun _ h9 => h9) rfl d_Tx_take_25 ?_
  refine lv_iload_n hx hb d_Tx_take_28 rfl (lv_at hl 2 rfl) ?_
  refine lv_isub hx hb d_Tx_take_29 ?_
  refine kw_put (D := D) (ci := 1) (ty := .int) (C := R_Tx) (T := T_Tx) (N := 2) hx hb hts in_Tx ty_Tx ty_Tx_ok nm_Tx hown hK hst 10 (WS_o10 g σ1) rfl 1 (by decide) (hts _ gw112) (fun _ h9 => h9) rfl (by decide +kernel) rfl rfl (Nat.le_of_ble_eq_true rfl) (WS_p10_1 g σ1 _) d_Tx_take_30 (fun σ2 H locs e2 hst => ?_)
  replace h := h σ2 e2
  exact kw_vret hx hb hr hlocks hst h d_Tx_take_33
set_option maxRecDepth 100000 in
set_option maxHeartbeats 4000000 in
theorem c_Tx_take_0 (l : Launch) {D : va_G} {g : Gm} {sz : Nat} (x1 : Int32) (x2 : Int32) {σ : Sg} {post : Sg → Prop} (h : wq_Tx_take 0 x1 x2 σ post) : Met l y_Tx_take (.code y_Tx_take k_Tx_take 3 (none) :: GW) { frames := 1, cells := 0, slots := 0, locals := 60 } (PcW D vwCl (WS g) g (Zk g) σ sz [.ref (g.1 10), .int x1, .int x2]) (QvW D vwCl (WS g) post (va_A (WS g σ) sz)) 0 0 (va_A (WS g σ) sz) := by
  refine kw_entry (own := R_Tx) (by decide) rfl rfl (Nat.le_of_ble_eq_true rfl) ?_
  intro p e s m below meth c ls hsz C hin hl hst
  exact b_Tx_take_0_0 C x1 x2 σ _ _ ls hl hst h
set_option maxRecDepth 100000 in
set_option maxHeartbeats 4000000 in
theorem b_Tx_take_13_0 {p : Program} {l : Launch} {e : Env} {s : State} {m : MethodId} {args : Array Value} {below : List Frame} {meth : Method} {c : Code} {D : va_G} {g : Gm} {A : Nat → Prop} {post : Sg → Prop} (C : kC p s m args meth c k_Tx_take 3 (none) GW R_Tx D vwCl g (Zk g) A) (x1 : Int32) (x2 : Int32) (σ : Sg) (H : Heap) (locs : List Loc) (ls : Array Slot) (hl : lv_has ls 3 [(0, .ref (g.1 23)), (1, .int x1), (2, .int x2)]) (hst : Wst D vwCl (WS g) A s σ H locs) (h : wq_Tx_take 13 x1 x2 σ post) : W p l e { frames := 1, cells := 0, slots := 0, locals := 60 } s m args below meth c H locs 0 0 (MQ below (QvW D vwCl (WS g) post A) args s 0 0 A) (F0 m 0 ls []) := by
  obtain ⟨hx, hb, hr, hml, hown, hts, hlocks, hK, hZ, hA⟩ := C
  unfold wq_Tx_take at h
  refine lv_aload_n hx hb d_Tx_take_0 rfl (lv_at hl 0 rfl) ?_
  refine va_get (D := D) (ci := 1) (C := R_Tx) (T := T_Tx) (N := 2) hx hb hts in_Tx hown hK hst.1 23 (WS_o23 g σ) rfl 0 (by decide) (hts _ gw106) (fun _ h9 => h9) rfl d_Tx_take_1 ?_
  refine lv_iload_n hx hb d_Tx_take_4 rfl (lv_at hl 1 rfl) ?_
  refine lv_iload_n hx hb d_Tx_take_5 rfl (lv_at hl 2 rfl) ?_
  refine lv_iadd hx hb d_Tx_take_6 ?_
  refine lv_aload_n hx hb d_Tx_take_7 rfl (lv_at hl 0 rfl) ?_
  refine va_get (D := D) (ci := 1) (C := R_Tx) (T := T_Tx) (N := 2) hx hb hts in_Tx hown hK hst.1 23 (WS_o23 g σ) rfl 0 (by decide) (hts _ gw106) (fun _ h9 => h9) rfl d_Tx_take_8 ?_
  refine lv_iload_n hx hb d_Tx_take_11 rfl (lv_at hl 1 rfl) ?_
  refine lv_aload_n hx hb d_Tx_take_12 rfl (lv_at hl 0 rfl) ?_
  refine va_get (D := D) (ci := 1) (C := R_Tx) (T := T_Tx) (N := 2) hx hb hts in_Tx hown hK hst.1 23 (WS_o23 g σ) rfl 1 (by decide) (hts _ gw112) (fun _ h9 => h9) rfl d_Tx_take_13 ?_
  refine lv_iload_n hx hb d_Tx_take_16 rfl (lv_at hl 1 rfl) ?_
  refine lv_isub hx hb d_Tx_take_17 ?_
  refine lv_iload_n hx hb d_Tx_take_18 rfl (lv_at hl 2 rfl) ?_
  refine lv_isub hx hb d_Tx_take_19 ?_
  obtain ⟨hi1, hi2, hi3, hi4, hi5, hi6, h⟩ := h
  refine kw_copy hx hb (hml.trans hl.1.symm) hown (hts _ gw449) (hts _ gw451) (hts _ gw450) (hts _ gw16) hK hst 24 24 1 (WS_a24 g σ) (WS_a24 g σ) rfl rfl hi1 hi2 hi3 hi4 hi5 hi6 (Nat.le_of_ble_eq_true rfl) (Nat.le_of_ble_eq_true rfl) (WS_w24 g σ _) d_Tx_take_20 (fun σ1 H locs e1 hst => ?_)
  replace h := h σ1 e1
  refine lv_aload_n hx hb d_Tx_take_23 rfl (lv_at hl 0 rfl) ?_
  refine lv_dup hx hb d_Tx_take_24 rfl ?_
  refine va_get (D := D) (ci := 1) (C := R_Tx) (T := T_Tx) (N := 2) hx hb hts in_Tx hown hK hst.1 23 (WS_o23 g σ1) rfl 1 (by decide) (hts _ gw112) (fun _ h9 => h9) rfl d_Tx_take_25 ?_
  refine lv_iload_n hx hb d_Tx_take_28 rfl (lv_at hl 2 rfl) ?_
  refine lv_isub hx hb d_Tx_take_29 ?_
  refine kw_put (D := D) (ci := 1) (ty := .int) (C := R_Tx) (T := T_Tx) (N := 2) hx hb hts in_Tx ty_Tx ty_Tx_ok nm_Tx hown hK hst 23 (WS_o23 g σ1) rfl 1 (by decide) (hts _ gw112) (fun _ h9 => h9) rfl (by decide +kernel) rfl rfl (Nat.le_of_ble_eq_true rfl) (WS_p23_1 g σ1 _) d_Tx_take_30 (fun σ2 H locs e2 hst => ?_)
  replace h := h σ2 e2
  exact kw_vret hx hb hr hlocks hst h d_Tx_take_33
set_option maxRecDepth 100000 in
set_option maxHeartbeats 4000000 in
theorem c_Tx_take_13 (l : Launch) {D : va_G} {g : Gm} {sz : Nat} (x1 : Int32) (x2 : Int32) {σ : Sg} {post : Sg → Prop} (h : wq_Tx_take 13 x1 x2 σ post) : Met l y_Tx_take (.code y_Tx_take k_Tx_take 3 (none) :: GW) { frames := 1, cells := 0, slots := 0, locals := 60 } (PcW D vwCl (WS g) g (Zk g) σ sz [.ref (g.1 23), .int x1, .int x2]) (QvW D vwCl (WS g) post (va_A (WS g σ) sz)) 0 0 (va_A (WS g σ) sz) := by
  refine kw_entry (own := R_Tx) (by decide) rfl rfl (Nat.le_of_ble_eq_true rfl) ?_
  intro p e s m below meth c ls hsz C hin hl hst
  exact b_Tx_take_13_0 C x1 x2 σ _ _ ls hl hst h
/-! SchemaDesk$Text.quotedEnd (I)I -/
abbrev k_Tx_quotedEnd : ByteArray := prog_7_method_5_code
abbrev y_Tx_quotedEnd : MethodName := ⟨"SchemaDesk$Text", "quotedEnd", "(I)I"⟩
theorem d_Tx_quotedEnd_0 : decode k_Tx_quotedEnd 0 = .ok (.iload_n 1, 1) := by decide +kernel
theorem d_Tx_quotedEnd_1 : decode k_Tx_quotedEnd 1 = .ok (.istore_n 2, 1) := by decide +kernel
theorem d_Tx_quotedEnd_2 : decode k_Tx_quotedEnd 2 = .ok (.iload_n 2, 1) := by decide +kernel
theorem d_Tx_quotedEnd_3 : decode k_Tx_quotedEnd 3 = .ok (.aload_n 0, 1) := by decide +kernel
theorem d_Tx_quotedEnd_4 : decode k_Tx_quotedEnd 4 = .ok (.getfield 15, 3) := by decide +kernel
theorem d_Tx_quotedEnd_7 : decode k_Tx_quotedEnd 7 = .ok (.if_icmp .ge 20, 3) := by decide +kernel
theorem d_Tx_quotedEnd_10 : decode k_Tx_quotedEnd 10 = .ok (.aload_n 0, 1) := by decide +kernel
theorem d_Tx_quotedEnd_11 : decode k_Tx_quotedEnd 11 = .ok (.getfield 9, 3) := by decide +kernel
theorem d_Tx_quotedEnd_14 : decode k_Tx_quotedEnd 14 = .ok (.iload_n 2, 1) := by decide +kernel
theorem d_Tx_quotedEnd_15 : decode k_Tx_quotedEnd 15 = .ok (.caload, 1) := by decide +kernel
theorem d_Tx_quotedEnd_16 : decode k_Tx_quotedEnd 16 = .ok (.bipush 34, 2) := by decide +kernel
theorem d_Tx_quotedEnd_18 : decode k_Tx_quotedEnd 18 = .ok (.if_icmp .eq 9, 3) := by decide +kernel
theorem d_Tx_quotedEnd_21 : decode k_Tx_quotedEnd 21 = .ok (.iinc 2 1, 3) := by decide +kernel
theorem d_Tx_quotedEnd_24 : decode k_Tx_quotedEnd 24 = .ok (.goto (-22), 3) := by decide +kernel
theorem d_Tx_quotedEnd_27 : decode k_Tx_quotedEnd 27 = .ok (.iload_n 2, 1) := by decide +kernel
theorem d_Tx_quotedEnd_28 : decode k_Tx_quotedEnd 28 = .ok (.ireturn, 1) := by decide +kernel
def wb_Tx_quotedEnd_0 (b : Nat) (F : Nat → Int32 → Int32 → Sg → Prop) (post : Int32 → Sg → Prop) (x1 : Int32) (σ : Sg) : Prop := F 1 0 x1 σ
def wb_Tx_quotedEnd_1 (b : Nat) (F : Nat → Int32 → Int32 → Sg → Prop) (post : Int32 → Sg → Prop) (x2 : Int32) (σ : Sg) : Prop := (((σ.1 (b + 10) 1) ≤ x2 → post x2 σ) ∧ (¬ (σ.1 (b + 10) 1) ≤ x2 → (vp_in x2 (tl b) ∧ (((σ.1 (b + 11) x2.toNatClampNeg) = (34 : Int32) → post x2 σ) ∧ (¬ (σ.1 (b + 11) x2.toNatClampNeg) = (34 : Int32) → F 1 0 (x2 + 1) σ)))))
def wp_Tx_quotedEnd (b : Nat) (post : Int32 → Sg → Prop) : Nat → Nat → Int32 → Int32 → Sg → Prop
  | 0, _, _, _, _ => False
  | n + 1, k, x1, x2, σ => match k with
    | 0 => wb_Tx_quotedEnd_0 b (wp_Tx_quotedEnd b post n) post x1 σ
    | 1 => wb_Tx_quotedEnd_1 b (wp_Tx_quotedEnd b post n) post x2 σ
    | _ => False
def wq_Tx_quotedEnd (b : Nat) (x1 : Int32) (σ : Sg) (post : Int32 → Sg → Prop) : Prop := ∃ n, wp_Tx_quotedEnd b post n 0 x1 0 σ
def J_Tx_quotedEnd_0_1 (p : Program) (l : Launch) (e : Env) (s : State) (m : MethodId) (args : Array Value) (below : List Frame) (meth : Method) (c : Code) (D : va_G) (g : Gm) (A : Nat → Prop) (post : Int32 → Sg → Prop) (F : Nat → Int32 → Int32 → Sg → Prop) : Prop := ∀ (x2 : Int32) (σ : Sg) (H : Heap) (locs : List Loc) (ls : Array Slot), lv_has ls 3 [(0, .ref (g.1 10)), (2, .int x2)] → Wst D vwCl (WS g) A s σ H locs → F 1 0 x2 σ → W p l e { frames := 0, cells := 0, slots := 0, locals := 0 } s m args below meth c H locs 0 0 (MQ below (QiW D vwCl (WS g) post A) args s 0 0 A) (F0 m 2 ls [])
set_option maxRecDepth 100000 in
set_option maxHeartbeats 4000000 in
theorem b_Tx_quotedEnd_0_0 {p : Program} {l : Launch} {e : Env} {s : State} {m : MethodId} {args : Array Value} {below : List Frame} {meth : Method} {c : Code} {D : va_G} {g : Gm} {A : Nat → Prop} {post : Int32 → Sg → Prop} {F : Nat → Int32 → Int32 → Sg → Prop} (C : kC p s m args meth c k_Tx_quotedEnd 3 (some .int) GW R_Tx D vwCl g (Zk g) A) (j1 : J_Tx_quotedEnd_0_1 p l e s m args below meth c D g A post F) (x1 : Int32) (σ : Sg) (H : Heap) (locs : List Loc) (ls : Array Slot) (hl : lv_has ls 3 [(0, .ref (g.1 10)), (1, .int x1)]) (hst : Wst D vwCl (WS g) A s σ H locs) (h : wb_Tx_quotedEnd_0 0 F post x1 σ) : W p l e { frames := 0, cells := 0, slots := 0, locals := 0 } s m args below meth c H locs 0 0 (MQ below (QiW D vwCl (WS g) post A) args s 0 0 A) (F0 m 0 ls []) := by
  obtain ⟨hx, hb, hr, hml, hown, hts, hlocks, hK, hZ, hA⟩ := C
  unfold wb_Tx_quotedEnd_0 at h
  refine lv_iload_n hx hb d_Tx_quotedEnd_0 rfl (lv_at hl 1 rfl) ?_
  refine lv_istore_n hx hb d_Tx_quotedEnd_1 rfl hl (by decide) rfl (fun ls hl => ?_)
  have hl : lv_has ls 3 [(2, .int x1), (0, .ref (g.1 10)), (1, .int x1)] := hl
  exact j1 x1 σ _ _ _ (lv_sub hl [1, 0] rfl) hst h
set_option maxRecDepth 100000 in
set_option maxHeartbeats 4000000 in
theorem b_Tx_quotedEnd_0_1 {p : Program} {l : Launch} {e : Env} {s : State} {m : MethodId} {args : Array Value} {below : List Frame} {meth : Method} {c : Code} {D : va_G} {g : Gm} {A : Nat → Prop} {post : Int32 → Sg → Prop} {F : Nat → Int32 → Int32 → Sg → Prop} (C : kC p s m args meth c k_Tx_quotedEnd 3 (some .int) GW R_Tx D vwCl g (Zk g) A) (j1 : J_Tx_quotedEnd_0_1 p l e s m args below meth c D g A post F) (x2 : Int32) (σ : Sg) (H : Heap) (locs : List Loc) (ls : Array Slot) (hl : lv_has ls 3 [(0, .ref (g.1 10)), (2, .int x2)]) (hst : Wst D vwCl (WS g) A s σ H locs) (h : wb_Tx_quotedEnd_1 0 F post x2 σ) : W p l e { frames := 0, cells := 0, slots := 0, locals := 0 } s m args below meth c H locs 0 0 (MQ below (QiW D vwCl (WS g) post A) args s 0 0 A) (F0 m 2 ls []) := by
  obtain ⟨hx, hb, hr, hml, hown, hts, hlocks, hK, hZ, hA⟩ := C
  unfold wb_Tx_quotedEnd_1 at h
  refine lv_iload_n hx hb d_Tx_quotedEnd_2 rfl (lv_at hl 1 rfl) ?_
  refine lv_aload_n hx hb d_Tx_quotedEnd_3 rfl (lv_at hl 0 rfl) ?_
  refine va_get (D := D) (ci := 1) (C := R_Tx) (T := T_Tx) (N := 2) hx hb hts in_Tx hown hK hst.1 10 (WS_o10 g σ) rfl 1 (by decide) (hts _ gw112) (fun _ h9 => h9) rfl d_Tx_quotedEnd_4 ?_
  refine lv_icmp_ge (tgt := 27) hx hb d_Tx_quotedEnd_7 (by decide) (fun hc => ?_) (fun hc => ?_)
  · replace h := h.1 hc
    refine lv_iload_n hx hb d_Tx_quotedEnd_27 rfl (lv_at hl 1 rfl) ?_
    exact kw_iret hx hb hr hlocks hst h d_Tx_quotedEnd_28
  · replace h := h.2 hc
    refine lv_aload_n hx hb d_Tx_quotedEnd_10 rfl (lv_at hl 0 rfl) ?_
    refine va_get (D := D) (ci := 1) (C := R_Tx) (T := T_Tx) (N := 2) hx hb hts in_Tx hown hK hst.1 10 (WS_o10 g σ) rfl 0 (by decide) (hts _ gw106) (fun _ h9 => h9) rfl d_Tx_quotedEnd_11 ?_
    refine lv_iload_n hx hb d_Tx_quotedEnd_14 rfl (lv_at hl 1 rfl) ?_
    obtain ⟨hi, h⟩ := h
    refine va_cald hx hb hK hst.1 11 1 (WS_a11 g σ) rfl hi d_Tx_quotedEnd_15 ?_
    refine lv_bipush (v := (34 : Int32)) hx hb d_Tx_quotedEnd_16 (by decide) ?_
    refine lv_icmp_eq (tgt := 27) hx hb d_Tx_quotedEnd_18 (by decide) (fun hc => ?_) (fun hc => ?_)
    · replace h := h.1 hc
      refine lv_iload_n hx hb d_Tx_quotedEnd_27 rfl (lv_at hl 1 rfl) ?_
      exact kw_iret hx hb hr hlocks hst h d_Tx_quotedEnd_28
    · replace h := h.2 hc
      refine lv_iinc (k := 1) (v := (x2 + 1)) hx hb d_Tx_quotedEnd_21 hl rfl (kw_inc _ (by decide)) (by decide) rfl (fun ls hl => ?_)
      have hl : lv_has ls 3 [(2, .int (x2 + 1)), (0, .ref (g.1 10))] := hl
      refine lv_goto (tgt := 2) hx hb d_Tx_quotedEnd_24 (by decide) ?_
      exact j1 (x2 + 1) σ _ _ _ (lv_sub hl [1, 0] rfl) hst h
set_option maxRecDepth 100000 in
set_option maxHeartbeats 4000000 in
theorem a_Tx_quotedEnd_0 {p : Program} {l : Launch} {e : Env} {s : State} {m : MethodId} {args : Array Value} {below : List Frame} {meth : Method} {c : Code} {D : va_G} {g : Gm} {A : Nat → Prop} {post : Int32 → Sg → Prop} (C : kC p s m args meth c k_Tx_quotedEnd 3 (some .int) GW R_Tx D vwCl g (Zk g) A) : ∀ n : Nat, J_Tx_quotedEnd_0_1 p l e s m args below meth c D g A post (wp_Tx_quotedEnd 0 post n) := by
  intro n
  induction n with
  | zero => exact fun _ _ _ _ _ _ _ h => h.elim
  | succ n ih => exact fun x2 σ H locs ls hl hst h => b_Tx_quotedEnd_0_1 (F := wp_Tx_quotedEnd 0 post n) C (ih) x2 σ H locs ls hl hst h
set_option maxRecDepth 100000 in
set_option maxHeartbeats 4000000 in
theorem c_Tx_quotedEnd_0 (l : Launch) {D : va_G} {g : Gm} {sz : Nat} (x1 : Int32) {σ : Sg} {post : Int32 → Sg → Prop} (h : wq_Tx_quotedEnd 0 x1 σ post) : Met l y_Tx_quotedEnd (.code y_Tx_quotedEnd k_Tx_quotedEnd 3 (some .int) :: GW) { frames := 0, cells := 0, slots := 0, locals := 0 } (PcW D vwCl (WS g) g (Zk g) σ sz [.ref (g.1 10), .int x1]) (QiW D vwCl (WS g) post (va_A (WS g σ) sz)) 0 0 (va_A (WS g σ) sz) := by
  refine kw_entry (own := R_Tx) (by decide) rfl rfl (Nat.le_of_ble_eq_true rfl) ?_
  intro p e s m below meth c ls hsz C hin hl hst
  obtain ⟨n, h⟩ := h
  cases n with
  | zero => exact h.elim
  | succ n =>
    have ih := a_Tx_quotedEnd_0 (l := l) (e := e) (below := below) (post := post) C n
    exact b_Tx_quotedEnd_0_0 (F := wp_Tx_quotedEnd 0 post n) C (ih) x1 σ _ _ ls hl hst h
def J_Tx_quotedEnd_13_1 (p : Program) (l : Launch) (e : Env) (s : State) (m : MethodId) (args : Array Value) (below : List Frame) (meth : Method) (c : Code) (D : va_G) (g : Gm) (A : Nat → Prop) (post : Int32 → Sg → Prop) (F : Nat → Int32 → Int32 → Sg → Prop) : Prop := ∀ (x2 : Int32) (σ : Sg) (H : Heap) (locs : List Loc) (ls : Array Slot), lv_has ls 3 [(0, .ref (g.1 23)), (2, .int x2)] → Wst D vwCl (WS g) A s σ H locs → F 1 0 x2 σ → W p l e { frames := 0, cells := 0, slots := 0, locals := 0 } s m args below meth c H locs 0 0 (MQ below (QiW D vwCl (WS g) post A) args s 0 0 A) (F0 m 2 ls [])
set_option maxRecDepth 100000 in
set_option maxHeartbeats 4000000 in
theorem b_Tx_quotedEnd_13_0 {p : Program} {l : Launch} {e : Env} {s : State} {m : MethodId} {args : Array Value} {below : List Frame} {meth : Method} {c : Code} {D : va_G} {g : Gm} {A : Nat → Prop} {post : Int32 → Sg → Prop} {F : Nat → Int32 → Int32 → Sg → Prop} (C : kC p s m args meth c k_Tx_quotedEnd 3 (some .int) GW R_Tx D vwCl g (Zk g) A) (j1 : J_Tx_quotedEnd_13_1 p l e s m args below meth c D g A post F) (x1 : Int32) (σ : Sg) (H : Heap) (locs : List Loc) (ls : Array Slot) (hl : lv_has ls 3 [(0, .ref (g.1 23)), (1, .int x1)]) (hst : Wst D vwCl (WS g) A s σ H locs) (h : wb_Tx_quotedEnd_0 13 F post x1 σ) : W p l e { frames := 0, cells := 0, slots := 0, locals := 0 } s m args below meth c H locs 0 0 (MQ below (QiW D vwCl (WS g) post A) args s 0 0 A) (F0 m 0 ls []) := by
  obtain ⟨hx, hb, hr, hml, hown, hts, hlocks, hK, hZ, hA⟩ := C
  unfold wb_Tx_quotedEnd_0 at h
  refine lv_iload_n hx hb d_Tx_quotedEnd_0 rfl (lv_at hl 1 rfl) ?_
  refine lv_istore_n hx hb d_Tx_quotedEnd_1 rfl hl (by decide) rfl (fun ls hl => ?_)
  have hl : lv_has ls 3 [(2, .int x1), (0, .ref (g.1 23)), (1, .int x1)] := hl
  exact j1 x1 σ _ _ _ (lv_sub hl [1, 0] rfl) hst h
set_option maxRecDepth 100000 in
set_option maxHeartbeats 4000000 in
theorem b_Tx_quotedEnd_13_1 {p : Program} {l : Launch} {e : Env} {s : State} {m : MethodId} {args : Array Value} {below : List Frame} {meth : Method} {c : Code} {D : va_G} {g : Gm} {A : Nat → Prop} {post : Int32 → Sg → Prop} {F : Nat → Int32 → Int32 → Sg → Prop} (C : kC p s m args meth c k_Tx_quotedEnd 3 (some .int) GW R_Tx D vwCl g (Zk g) A) (j1 : J_Tx_quotedEnd_13_1 p l e s m args below meth c D g A post F) (x2 : Int32) (σ : Sg) (H : Heap) (locs : List Loc) (ls : Array Slot) (hl : lv_has ls 3 [(0, .ref (g.1 23)), (2, .int x2)]) (hst : Wst D vwCl (WS g) A s σ H locs) (h : wb_Tx_quotedEnd_1 13 F post x2 σ) : W p l e { frames := 0, cells := 0, slots := 0, locals := 0 } s m args below meth c H locs 0 0 (MQ below (QiW D vwCl (WS g) post A) args s 0 0 A) (F0 m 2 ls []) := by
  obtain ⟨hx, hb, hr, hml, hown, hts, hlocks, hK, hZ, hA⟩ := C
  unfold wb_Tx_quotedEnd_1 at h
  refine lv_iload_n hx hb d_Tx_quotedEnd_2 rfl (lv_at hl 1 rfl) ?_
  refine lv_aload_n hx hb d_Tx_quotedEnd_3 rfl (lv_at hl 0 rfl) ?_
  refine va_get (D := D) (ci := 1) (C := R_Tx) (T := T_Tx) (N := 2) hx hb hts in_Tx hown hK hst.1 23 (WS_o23 g σ) rfl 1 (by decide) (hts _ gw112) (fun _ h9 => h9) rfl d_Tx_quotedEnd_4 ?_
  refine lv_icmp_ge (tgt := 27) hx hb d_Tx_quotedEnd_7 (by decide) (fun hc => ?_) (fun hc => ?_)
  · replace h := h.1 hc
    refine lv_iload_n hx hb d_Tx_quotedEnd_27 rfl (lv_at hl 1 rfl) ?_
    exact kw_iret hx hb hr hlocks hst h d_Tx_quotedEnd_28
  · replace h := h.2 hc
    refine lv_aload_n hx hb d_Tx_quotedEnd_10 rfl (lv_at hl 0 rfl) ?_
    refine va_get (D := D) (ci := 1) (C := R_Tx) (T := T_Tx) (N := 2) hx hb hts in_Tx hown hK hst.1 23 (WS_o23 g σ) rfl 0 (by decide) (hts _ gw106) (fun _ h9 => h9) rfl d_Tx_quotedEnd_11 ?_
    refine lv_iload_n hx hb d_Tx_quotedEnd_14 rfl (lv_at hl 1 rfl) ?_
    obtain ⟨hi, h⟩ := h
    refine va_cald hx hb hK hst.1 24 1 (WS_a24 g σ) rfl hi d_Tx_quotedEnd_15 ?_
    refine lv_bipush (v := (34 : Int32)) hx hb d_Tx_quotedEnd_16 (by decide) ?_
    refine lv_icmp_eq (tgt := 27) hx hb d_Tx_quotedEnd_18 (by decide) (fun hc => ?_) (fun hc => ?_)
    · replace h := h.1 hc
      refine lv_iload_n hx hb d_Tx_quotedEnd_27 rfl (lv_at hl 1 rfl) ?_
      exact kw_iret hx hb hr hlocks hst h d_Tx_quotedEnd_28
    · replace h := h.2 hc
      refine lv_iinc (k := 1) (v := (x2 + 1)) hx hb d_Tx_quotedEnd_21 hl rfl (kw_inc _ (by decide)) (by decide) rfl (fun ls hl => ?_)
      have hl : lv_has ls 3 [(2, .int (x2 + 1)), (0, .ref (g.1 23))] := hl
      refine lv_goto (tgt := 2) hx hb d_Tx_quotedEnd_24 (by decide) ?_
      exact j1 (x2 + 1) σ _ _ _ (lv_sub hl [1, 0] rfl) hst h
set_option maxRecDepth 100000 in
set_option maxHeartbeats 4000000 in
theorem a_Tx_quotedEnd_13 {p : Program} {l : Launch} {e : Env} {s : State} {m : MethodId} {args : Array Value} {below : List Frame} {meth : Method} {c : Code} {D : va_G} {g : Gm} {A : Nat → Prop} {post : Int32 → Sg → Prop} (C : kC p s m args meth c k_Tx_quotedEnd 3 (some .int) GW R_Tx D vwCl g (Zk g) A) : ∀ n : Nat, J_Tx_quotedEnd_13_1 p l e s m args below meth c D g A post (wp_Tx_quotedEnd 13 post n) := by
  intro n
  induction n with
  | zero => exact fun _ _ _ _ _ _ _ h => h.elim
  | succ n ih => exact fun x2 σ H locs ls hl hst h => b_Tx_quotedEnd_13_1 (F := wp_Tx_quotedEnd 13 post n) C (ih) x2 σ H locs ls hl hst h
set_option maxRecDepth 100000 in
set_option maxHeartbeats 4000000 in
theorem c_Tx_quotedEnd_13 (l : Launch) {D : va_G} {g : Gm} {sz : Nat} (x1 : Int32) {σ : Sg} {post : Int32 → Sg → Prop} (h : wq_Tx_quotedEnd 13 x1 σ post) : Met l y_Tx_quotedEnd (.code y_Tx_quotedEnd k_Tx_quotedEnd 3 (some .int) :: GW) { frames := 0, cells := 0, slots := 0, locals := 0 } (PcW D vwCl (WS g) g (Zk g) σ sz [.ref (g.1 23), .int x1]) (QiW D vwCl (WS g) post (va_A (WS g σ) sz)) 0 0 (va_A (WS g σ) sz) := by
  refine kw_entry (own := R_Tx) (by decide) rfl rfl (Nat.le_of_ble_eq_true rfl) ?_
  intro p e s m below meth c ls hsz C hin hl hst
  obtain ⟨n, h⟩ := h
  cases n with
  | zero => exact h.elim
  | succ n =>
    have ih := a_Tx_quotedEnd_13 (l := l) (e := e) (below := below) (post := post) C n
    exact b_Tx_quotedEnd_13_0 (F := wp_Tx_quotedEnd 13 post n) C (ih) x1 σ _ _ ls hl hst h
/-! SchemaDesk$Text.sameQuoted (ILSchemaDesk$Text;I)Z -/
abbrev k_Tx_sameQuoted : ByteArray := prog_7_method_6_code
abbrev y_Tx_sameQuoted : MethodName := ⟨"SchemaDesk$Text", "sameQuoted", "(ILSchemaDesk$Text;I)Z"⟩
theorem d_Tx_sameQuoted_0 : decode k_Tx_sameQuoted 0 = .ok (.iconst 0, 1) := by decide +kernel
theorem d_Tx_sameQuoted_1 : decode k_Tx_sameQuoted 1 = .ok (.istore 4, 2) := by decide +kernel
theorem d_Tx_sameQuoted_3 : decode k_Tx_sameQuoted 3 = .ok (.iload 4, 2) := by decide +kernel
theorem d_Tx_sameQuoted_5 : decode k_Tx_sameQuoted 5 = .ok (.aload_n 0, 1) := by decide +kernel
theorem d_Tx_sameQuoted_6 : decode k_Tx_sameQuoted 6 = .ok (.getfield 15, 3) := by decide +kernel
theorem d_Tx_sameQuoted_9 : decode k_Tx_sameQuoted 9 = .ok (.if_icmp .gt 122, 3) := by decide +kernel
theorem d_Tx_sameQuoted_12 : decode k_Tx_sameQuoted 12 = .ok (.iload_n 1, 1) := by decide +kernel
theorem d_Tx_sameQuoted_13 : decode k_Tx_sameQuoted 13 = .ok (.iload 4, 2) := by decide +kernel
theorem d_Tx_sameQuoted_15 : decode k_Tx_sameQuoted 15 = .ok (.iadd, 1) := by decide +kernel
theorem d_Tx_sameQuoted_16 : decode k_Tx_sameQuoted 16 = .ok (.aload_n 0, 1) := by decide +kernel
theorem d_Tx_sameQuoted_17 : decode k_Tx_sameQuoted 17 = .ok (.getfield 15, 3) := by decide +kernel
theorem d_Tx_sameQuoted_20 : decode k_Tx_sameQuoted 20 = .ok (.if_icmp .ge 17, 3) := by decide +kernel
theorem d_Tx_sameQuoted_23 : decode k_Tx_sameQuoted 23 = .ok (.aload_n 0, 1) := by decide +kernel
theorem d_Tx_sameQuoted_24 : decode k_Tx_sameQuoted 24 = .ok (.getfield 9, 3) := by decide +kernel
theorem d_Tx_sameQuoted_27 : decode k_Tx_sameQuoted 27 = .ok (.iload_n 1, 1) := by decide +kernel
theorem d_Tx_sameQuoted_28 : decode k_Tx_sameQuoted 28 = .ok (.iload 4, 2) := by decide +kernel
theorem d_Tx_sameQuoted_30 : decode k_Tx_sameQuoted 30 = .ok (.iadd, 1) := by decide +kernel
theorem d_Tx_sameQuoted_31 : decode k_Tx_sameQuoted 31 = .ok (.caload, 1) := by decide +kernel
theorem d_Tx_sameQuoted_32 : decode k_Tx_sameQuoted 32 = .ok (.bipush 34, 2) := by decide +kernel
theorem d_Tx_sameQuoted_34 : decode k_Tx_sameQuoted 34 = .ok (.if_icmp .ne 7, 3) := by decide +kernel
theorem d_Tx_sameQuoted_37 : decode k_Tx_sameQuoted 37 = .ok (.iconst 1, 1) := by decide +kernel
theorem d_Tx_sameQuoted_38 : decode k_Tx_sameQuoted 38 = .ok (.goto 4, 3) := by decide +kernel
theorem d_Tx_sameQuoted_41 : decode k_Tx_sameQuoted 41 = .ok (.iconst 0, 1) := by decide +kernel
theorem d_Tx_sameQuoted_42 : decode k_Tx_sameQuoted 42 = .ok (.istore 5, 2) := by decide +kernel
theorem d_Tx_sameQuoted_44 : decode k_Tx_sameQuoted 44 = .ok (.iload_n 3, 1) := by decide +kernel
theorem d_Tx_sameQuoted_45 : decode k_Tx_sameQuoted 45 = .ok (.iload 4, 2) := by decide +kernel
theorem d_Tx_sameQuoted_47 : decode k_Tx_sameQuoted 47 = .ok (.iadd, 1) := by decide +kernel
theorem d_Tx_sameQuoted_48 : decode k_Tx_sameQuoted 48 = .ok (.aload_n 2, 1) := by decide +kernel
theorem d_Tx_sameQuoted_49 : decode k_Tx_sameQuoted 49 = .ok (.getfield 15, 3) := by decide +kernel
theorem d_Tx_sameQuoted_52 : decode k_Tx_sameQuoted 52 = .ok (.if_icmp .ge 17, 3) := by decide +kernel
theorem d_Tx_sameQuoted_55 : decode k_Tx_sameQuoted 55 = .ok (.aload_n 2, 1) := by decide +kernel
theorem d_Tx_sameQuoted_56 : decode k_Tx_sameQuoted 56 = .ok (.getfield 9, 3) := by decide +kernel
theorem d_Tx_sameQuoted_59 : decode k_Tx_sameQuoted 59 = .ok (.iload_n 3, 1) := by decide +kernel
theorem d_Tx_sameQuoted_60 : decode k_Tx_sameQuoted 60 = .ok (.iload 4, 2) := by decide +kernel
theorem d_Tx_sameQuoted_62 : decode k_Tx_sameQuoted 62 = .ok (.iadd, 1) := by decide +kernel
theorem d_Tx_sameQuoted_63 : decode k_Tx_sameQuoted 63 = .ok (.caload, 1) := by decide +kernel
theorem d_Tx_sameQuoted_64 : decode k_Tx_sameQuoted 64 = .ok (.bipush 34, 2) := by decide +kernel
theorem d_Tx_sameQuoted_66 : decode k_Tx_sameQuoted 66 = .ok (.if_icmp .ne 7, 3) := by decide +kernel
theorem d_Tx_sameQuoted_69 : decode k_Tx_sameQuoted 69 = .ok (.iconst 1, 1) := by decide +kernel
theorem d_Tx_sameQuoted_70 : decode k_Tx_sameQuoted 70 = .ok (.goto 4, 3) := by decide +kernel
theorem d_Tx_sameQuoted_73 : decode k_Tx_sameQuoted 73 = .ok (.iconst 0, 1) := by decide +kernel
theorem d_Tx_sameQuoted_74 : decode k_Tx_sameQuoted 74 = .ok (.istore 6, 2) := by decide +kernel
theorem d_Tx_sameQuoted_76 : decode k_Tx_sameQuoted 76 = .ok (.iload 5, 2) := by decide +kernel
theorem d_Tx_sameQuoted_78 : decode k_Tx_sameQuoted 78 = .ok (.ifCond .ne 8, 3) := by decide +kernel
theorem d_Tx_sameQuoted_81 : decode k_Tx_sameQuoted 81 = .ok (.iload 6, 2) := by decide +kernel
theorem d_Tx_sameQuoted_83 : decode k_Tx_sameQuoted 83 = .ok (.ifCond .eq 19, 3) := by decide +kernel
theorem d_Tx_sameQuoted_86 : decode k_Tx_sameQuoted 86 = .ok (.iload 5, 2) := by decide +kernel
theorem d_Tx_sameQuoted_88 : decode k_Tx_sameQuoted 88 = .ok (.ifCond .eq 12, 3) := by decide +kernel
theorem d_Tx_sameQuoted_91 : decode k_Tx_sameQuoted 91 = .ok (.iload 6, 2) := by decide +kernel
theorem d_Tx_sameQuoted_93 : decode k_Tx_sameQuoted 93 = .ok (.ifCond .eq 7, 3) := by decide +kernel
theorem d_Tx_sameQuoted_96 : decode k_Tx_sameQuoted 96 = .ok (.iconst 1, 1) := by decide +kernel
theorem d_Tx_sameQuoted_97 : decode k_Tx_sameQuoted 97 = .ok (.goto 4, 3) := by decide +kernel
theorem d_Tx_sameQuoted_100 : decode k_Tx_sameQuoted 100 = .ok (.iconst 0, 1) := by decide +kernel
theorem d_Tx_sameQuoted_101 : decode k_Tx_sameQuoted 101 = .ok (.ireturn, 1) := by decide +kernel
theorem d_Tx_sameQuoted_102 : decode k_Tx_sameQuoted 102 = .ok (.aload_n 0, 1) := by decide +kernel
theorem d_Tx_sameQuoted_103 : decode k_Tx_sameQuoted 103 = .ok (.getfield 9, 3) := by decide +kernel
theorem d_Tx_sameQuoted_106 : decode k_Tx_sameQuoted 106 = .ok (.iload_n 1, 1) := by decide +kernel
theorem d_Tx_sameQuoted_107 : decode k_Tx_sameQuoted 107 = .ok (.iload 4, 2) := by decide +kernel
theorem d_Tx_sameQuoted_109 : decode k_Tx_sameQuoted 109 = .ok (.iadd, 1) := by decide +kernel
theorem d_Tx_sameQuoted_110 : decode k_Tx_sameQuoted 110 = .ok (.caload, 1) := by decide +kernel
theorem d_Tx_sameQuoted_111 : decode k_Tx_sameQuoted 111 = .ok (.aload_n 2, 1) := by decide +kernel
theorem d_Tx_sameQuoted_112 : decode k_Tx_sameQuoted 112 = .ok (.getfield 9, 3) := by decide +kernel
theorem d_Tx_sameQuoted_115 : decode k_Tx_sameQuoted 115 = .ok (.iload_n 3, 1) := by decide +kernel
theorem d_Tx_sameQuoted_116 : decode k_Tx_sameQuoted 116 = .ok (.iload 4, 2) := by decide +kernel
theorem d_Tx_sameQuoted_118 : decode k_Tx_sameQuoted 118 = .ok (.iadd, 1) := by decide +kernel
theorem d_Tx_sameQuoted_119 : decode k_Tx_sameQuoted 119 = .ok (.caload, 1) := by decide +kernel
theorem d_Tx_sameQuoted_120 : decode k_Tx_sameQuoted 120 = .ok (.if_icmp .eq 5, 3) := by decide +kernel
theorem d_Tx_sameQuoted_123 : decode k_Tx_sameQuoted 123 = .ok (.iconst 0, 1) := by decide +kernel
theorem d_Tx_sameQuoted_124 : decode k_Tx_sameQuoted 124 = .ok (.ireturn, 1) := by decide +kernel
theorem d_Tx_sameQuoted_125 : decode k_Tx_sameQuoted 125 = .ok (.iinc 4 1, 3) := by decide +kernel
theorem d_Tx_sameQuoted_128 : decode k_Tx_sameQuoted 128 = .ok (.goto (-125), 3) := by decide +kernel
theorem d_Tx_sameQuoted_131 : decode k_Tx_sameQuoted 131 = .ok (.iconst 0, 1) := by decide +kernel
theorem d_Tx_sameQuoted_132 : decode k_Tx_sameQuoted 132 = .ok (.ireturn, 1) := by decide +kernel
def wb_Tx_sameQuoted_0 (b : Nat) (b1 : Nat) (F : Nat → Int32 → Int32 → Int32 → Int32 → Int32 → Sg → Prop) (post : Int32 → Sg → Prop) (x1 : Int32) (x3 : Int32) (σ : Sg) : Prop := F 1 x1 x3 (0 : Int32) 0 0 σ
def wb_Tx_sameQuoted_1 (b : Nat) (b1 : Nat) (F : Nat → Int32 → Int32 → Int32 → Int32 → Int32 → Sg → Prop) (post : Int32 → Sg → Prop) (x1 : Int32) (x3 : Int32) (x4 : Int32) (σ : Sg) : Prop := (((σ.1 (b + 10) 1) < x4 → (narrow .boolean (.int (0 : Int32)) = .int (0 : Int32) ∧ post (0 : Int32) σ)) ∧ (¬ (σ.1 (b + 10) 1) < x4 → (((σ.1 (b + 10) 1) ≤ (x1 + x4) → F 2 x1 x3 x4 0 0 σ) ∧ (¬ (σ.1 (b + 10) 1) ≤ (x1 + x4) → (vp_in (x1 + x4) (tl b) ∧ ((¬ (σ.1 (b + 11) ((x1 + x4) : Int32).toNatClampNeg) = (34 : Int32) → F 3 x1 x3 x4 (0 : Int32) 0 σ) ∧ ((σ.1 (b + 11) ((x1 + x4) : Int32).toNatClampNeg) = (34 : Int32) → F 2 x1 x3 x4 0 0 σ)))))))
def wb_Tx_sameQuoted_2 (b : Nat) (b1 : Nat) (F : Nat → Int32 → Int32 → Int32 → Int32 → Int32 → Sg → Prop) (post : Int32 → Sg → Prop) (x1 : Int32) (x3 : Int32) (x4 : Int32) (σ : Sg) : Prop := F 3 x1 x3 x4 (1 : Int32) 0 σ
def wb_Tx_sameQuoted_3 (b : Nat) (b1 : Nat) (F : Nat → Int32 → Int32 → Int32 → Int32 → Int32 → Sg → Prop) (post : Int32 → Sg → Prop) (x1 : Int32) (x3 : Int32) (x4 : Int32) (x5 : Int32) (σ : Sg) : Prop := (((σ.1 (b1 + 10) 1) ≤ (x3 + x4) → F 4 x1 x3 x4 x5 0 σ) ∧ (¬ (σ.1 (b1 + 10) 1) ≤ (x3 + x4) → (vp_in (x3 + x4) (tl b1) ∧ ((¬ (σ.1 (b1 + 11) ((x3 + x4) : Int32).toNatClampNeg) = (34 : Int32) → F 5 x1 x3 x4 x5 (0 : Int32) σ) ∧ ((σ.1 (b1 + 11) ((x3 + x4) : Int32).toNatClampNeg) = (34 : Int32) → F 4 x1 x3 x4 x5 0 σ)))))
def wb_Tx_sameQuoted_4 (b : Nat) (b1 : Nat) (F : Nat → Int32 → Int32 → Int32 → Int32 → Int32 → Sg → Prop) (post : Int32 → Sg → Prop) (x1 : Int32) (x3 : Int32) (x4 : Int32) (x5 : Int32) (σ : Sg) : Prop := F 5 x1 x3 x4 x5 (1 : Int32) σ
def wb_Tx_sameQuoted_5 (b : Nat) (b1 : Nat) (F : Nat → Int32 → Int32 → Int32 → Int32 → Int32 → Sg → Prop) (post : Int32 → Sg → Prop) (x1 : Int32) (x3 : Int32) (x4 : Int32) (x5 : Int32) (x6 : Int32) (σ : Sg) : Prop := ((¬ x5 = 0 → ((x5 = 0 → (narrow .boolean (.int (0 : Int32)) = .int (0 : Int32) ∧ post (0 : Int32) σ)) ∧ (¬ x5 = 0 → ((x6 = 0 → (narrow .boolean (.int (0 : Int32)) = .int (0 : Int32) ∧ post (0 : Int32) σ)) ∧ (¬ x6 = 0 → (narrow .boolean (.int (1 : Int32)) = .int (1 : Int32) ∧ post (1 : Int32) σ)))))) ∧ (x5 = 0 → ((x6 = 0 → (vp_in (x1 + x4) (tl b) ∧ (vp_in (x3 + x4) (tl b1) ∧ (((σ.1 (b + 11) ((x1 + x4) : Int32).toNatClampNeg) = (σ.1 (b1 + 11) ((x3 + x4) : Int32).toNatClampNeg) → F 1 x1 x3 (x4 + 1) 0 0 σ) ∧ (¬ (σ.1 (b + 11) ((x1 + x4) : Int32).toNatClampNeg) = (σ.1 (b1 + 11) ((x3 + x4) : Int32).toNatClampNeg) → (narrow .boolean (.int (0 : Int32)) = .int (0 : Int32) ∧ post (0 : Int32) σ)))))) ∧ (¬ x6 = 0 → ((x5 = 0 → (narrow .boolean (.int (0 : Int32)) = .int (0 : Int32) ∧ post (0 : Int32) σ)) ∧ (¬ x5 = 0 → ((x6 = 0 → (narrow .boolean (.int (0 : Int32)) = .int (0 : Int32) ∧ post (0 : Int32) σ)) ∧ (¬ x6 = 0 → (narrow .boolean (.int (1 : Int32)) = .int (1 : Int32) ∧ post (1 : Int32) σ)))))))))
def wp_Tx_sameQuoted (b : Nat) (b1 : Nat) (post : Int32 → Sg → Prop) : Nat → Nat → Int32 → Int32 → Int32 → Int32 → Int32 → Sg → Prop
  | 0, _, _, _, _, _, _, _ => False
  | n + 1, k, x1, x3, x4, x5, x6, σ => match k with
    | 0 => wb_Tx_sameQuoted_0 b b1 (wp_Tx_sameQuoted b b1 post n) post x1 x3 σ
    | 1 => wb_Tx_sameQuoted_1 b b1 (wp_Tx_sameQuoted b b1 post n) post x1 x3 x4 σ
    | 2 => wb_Tx_sameQuoted_2 b b1 (wp_Tx_sameQuoted b b1 post n) post x1 x3 x4 σ
    | 3 => wb_Tx_sameQuoted_3 b b1 (wp_Tx_sameQuoted b b1 post n) post x1 x3 x4 x5 σ
    | 4 => wb_Tx_sameQuoted_4 b b1 (wp_Tx_sameQuoted b b1 post n) post x1 x3 x4 x5 σ
    | 5 => wb_Tx_sameQuoted_5 b b1 (wp_Tx_sameQuoted b b1 post n) post x1 x3 x4 x5 x6 σ
    | _ => False
def wq_Tx_sameQuoted (b : Nat) (b1 : Nat) (x1 : Int32) (x3 : Int32) (σ : Sg) (post : Int32 → Sg → Prop) : Prop := ∃ n, wp_Tx_sameQuoted b b1 post n 0 x1 x3 0 0 0 σ
def J_Tx_sameQuoted_0_0_1 (p : Program) (l : Launch) (e : Env) (s : State) (m : MethodId) (args : Array Value) (below : List Frame) (meth : Method) (c : Code) (D : va_G) (g : Gm) (A : Nat → Prop) (post : Int32 → Sg → Prop) (F : Nat → Int32 → Int32 → Int32 → Int32 → Int32 → Sg → Prop) : Prop := ∀ (x1 : Int32) (x3 : Int32) (x4 : Int32) (σ : Sg) (H : Heap) (locs : List Loc) (ls : Array Slot), lv_has ls 7 [(0, .ref (g.1 10)), (1, .int x1), (2, .ref (g.1 10)), (3, .int x3), (4, .int x4)] → Wst D vwCl (WS g) A s σ H locs → F 1 x1 x3 x4 0 0 σ → W p l e { frames := 0, cells := 0, slots := 0, locals := 0 } s m args below meth c H locs 0 0 (MQ below (QiW D vwCl (WS g) post A) args s 0 0 A) (F0 m 3 ls [])
def J_Tx_sameQuoted_0_0_2 (p : Program) (l : Launch) (e : Env) (s : State) (m : MethodId) (args : Array Value) (below : List Frame) (meth : Method) (c : Code) (D : va_G) (g : Gm) (A : Nat → Prop) (post : Int32 → Sg → Prop) (F : Nat → Int32 → Int32 → Int32 → Int32 → Int32 → Sg → Prop) : Prop := ∀ (x1 : Int32) (x3 : Int32) (x4 : Int32) (σ : Sg) (H : Heap) (locs : List Loc) (ls : Array Slot), lv_has ls 7 [(0, .ref (g.1 10)), (1, .int x1), (2, .ref (g.1 10)), (3, .int x3), (4, .int x4)] → Wst D vwCl (WS g) A s σ H locs → F 2 x1 x3 x4 0 0 σ → W p l e { frames := 0, cells := 0, slots := 0, locals := 0 } s m args below meth c H locs 0 0 (MQ below (QiW D vwCl (WS g) post A) args s 0 0 A) (F0 m 37 ls [])
def J_Tx_sameQuoted_0_0_3 (p : Program) (l : Launch) (e : Env) (s : State) (m : MethodId) (args : Array Value) (below : List Frame) (meth : Method) (c : Code) (D : va_G) (g : Gm) (A : Nat → Prop) (post : Int32 → Sg → Prop) (F : Nat → Int32 → Int32 → Int32 → Int32 → Int32 → Sg → Prop) : Prop := ∀ (x1 : Int32) (x3 : Int32) (x4 : Int32) (x5 : Int32) (σ : Sg) (H : Heap) (locs : List Loc) (ls : Array Slot), lv_has ls 7 [(0, .ref (g.1 10)), (1, .int x1), (2, .ref (g.1 10)), (3, .int x3), (4, .int x4), (5, .int x5)] → Wst D vwCl (WS g) A s σ H locs → F 3 x1 x3 x4 x5 0 σ → W p l e { frames := 0, cells := 0, slots := 0, locals := 0 } s m args below meth c H locs 0 0 (MQ below (QiW D vwCl (WS g) post A) args s 0 0 A) (F0 m 44 ls [])
def J_Tx_sameQuoted_0_0_4 (p : Program) (l : Launch) (e : Env) (s : State) (m : MethodId) (args : Array Value) (below : List Frame) (meth : Method) (c : Code) (D : va_G) (g : Gm) (A : Nat → Prop) (post : Int32 → Sg → Prop) (F : Nat → Int32 → Int32 → Int32 → Int32 → Int32 → Sg → Prop) : Prop := ∀ (x1 : Int32) (x3 : Int32) (x4 : Int32) (x5 : Int32) (σ : Sg) (H : Heap) (locs : List Loc) (ls : Array Slot), lv_has ls 7 [(0, .ref (g.1 10)), (1, .int x1), (2, .ref (g.1 10)), (3, .int x3), (4, .int x4), (5, .int x5)] → Wst D vwCl (WS g) A s σ H locs → F 4 x1 x3 x4 x5 0 σ → W p l e { frames := 0, cells := 0, slots := 0, locals := 0 } s m args below meth c H locs 0 0 (MQ below (QiW D vwCl (WS g) post A) args s 0 0 A) (F0 m 69 ls [])
def J_Tx_sameQuoted_0_0_5 (p : Program) (l : Launch) (e : Env) (s : State) (m : MethodId) (args : Array Value) (below : List Frame) (meth : Method) (c : Code) (D : va_G) (g : Gm) (A : Nat → Prop) (post : Int32 → Sg → Prop) (F : Nat → Int32 → Int32 → Int32 → Int32 → Int32 → Sg → Prop) : Prop := ∀ (x1 : Int32) (x3 : Int32) (x4 : Int32) (x5 : Int32) (x6 : Int32) (σ : Sg) (H : Heap) (locs : List Loc) (ls : Array Slot), lv_has ls 7 [(0, .ref (g.1 10)), (1, .int x1), (2, .ref (g.1 10)), (3, .int x3), (4, .int x4), (5, .int x5), (6, .int x6)] → Wst D vwCl (WS g) A s σ H locs → F 5 x1 x3 x4 x5 x6 σ → W p l e { frames := 0, cells := 0, slots := 0, locals := 0 } s m args below meth c H locs 0 0 (MQ below (QiW D vwCl (WS g) post A) args s 0 0 A) (F0 m 76 ls [])
set_option maxRecDepth 100000 in
set_option maxHeartbeats 4000000 in
theorem b_Tx_sameQuoted_0_0_0 {p : Program} {l : Launch} {e : Env} {s : State} {m : MethodId} {args : Array Value} {below : List Frame} {meth : Method} {c : Code} {D : va_G} {g : Gm} {A : Nat → Prop} {post : Int32 → Sg → Prop} {F : Nat → Int32 → Int32 → Int32 → Int32 → Int32 → Sg → Prop} (C : kC p s m args meth c k_Tx_sameQuoted 7 (some .boolean) GW R_Tx D vwCl g (Zk g) A) (j1 : J_Tx_sameQuoted_0_0_1 p l e s m args below meth c D g A post F) (x1 : Int32) (x3 : Int32) (σ : Sg) (H : Heap) (locs : List Loc) (ls : Array Slot) (hl : lv_has ls 7 [(0, .ref (g.1 10)), (1, .int x1), (2, .ref (g.1 10)), (3, .int x3)]) (hst : Wst D vwCl (WS g) A s σ H locs) (h : wb_Tx_sameQuoted_0 0 0 F post x1 x3 σ) : W p l e { frames := 0, cells := 0, slots := 0, locals := 0 } s m args below meth c H locs 0 0 (MQ below (QiW D vwCl (WS g) post A) args s 0 0 A) (F0 m 0 ls []) := by
  obtain ⟨hx, hb, hr, hml, hown, hts, hlocks, hK, hZ, hA⟩ := C
  unfold wb_Tx_sameQuoted_0 at h
  refine lv_iconst (v := (0 : Int32)) hx hb d_Tx_sameQuoted_0 (by decide) ?_
  refine lv_istore hx hb d_Tx_sameQuoted_1 hl (by decide) rfl (fun ls hl => ?_)
  have hl : lv_has ls 7 [(4, .int (0 : Int32)), (0, .ref (g.1 10)), (1, .int x1), (2, .ref (g.1 10)), (3, .int x3)] := hl
  exact j1 x1 x3 (0 : Int32) σ _ _ _ (lv_sub hl [1, 2, 3, 4, 0] rfl) hst h
set_option maxRecDepth 100000 in
set_option maxHeartbeats 4000000 in
theorem b_Tx_sameQuoted_0_0_1 {p : Program} {l : Launch} {e : Env} {s : State} {m : MethodId} {args : Array Value} {below : List Frame} {meth : Method} {c : Code} {D : va_G} {g : Gm} {A : Nat → Prop} {post : Int32 → Sg → Prop} {F : Nat → Int32 → Int32 → Int32 → Int32 → Int32 → Sg → Prop} (C : kC p s m args meth c k_Tx_sameQuoted 7 (some .boolean) GW R_Tx D vwCl g (Zk g) A) (j2 : J_Tx_sameQuoted_0_0_2 p l e s m args below meth c D g A post F) (j3 : J_Tx_sameQuoted_0_0_3 p l e s m args below meth c D g A post F) (x1 : Int32) (x3 : Int32) (x4 : Int32) (σ : Sg) (H : Heap) (locs : List Loc) (ls : Array Slot) (hl : lv_has ls 7 [(0, .ref (g.1 10)), (1, .int x1), (2, .ref (g.1 10)), (3, .int x3), (4, .int x4)]) (hst : Wst D vwCl (WS g) A s σ H locs) (h : wb_Tx_sameQuoted_1 0 0 F post x1 x3 x4 σ) : W p l e { frames := 0, cells := 0, slots := 0, locals := 0 } s m args below meth c H locs 0 0 (MQ below (QiW D vwCl (WS g) post A) args s 0 0 A) (F0 m 3 ls []) := by
  obtain ⟨hx, hb, hr, hml, hown, hts, hlocks, hK, hZ, hA⟩ := C
  unfold wb_Tx_sameQuoted_1 at h
  refine lv_iload hx hb d_Tx_sameQuoted_3 (lv_at hl 4 rfl) ?_
  refine lv_aload_n hx hb d_Tx_sameQuoted_5 rfl (lv_at hl 0 rfl) ?_
  refine va_get (D := D) (ci := 1) (C := R_Tx) (T := T_Tx) (N := 2) hx hb hts in_Tx hown hK hst.1 10 (WS_o10 g σ) rfl 1 (by decide) (hts _ gw112) (fun _ h9 => h9) rfl d_Tx_sameQuoted_6 ?_
  refine lv_icmp_gt (tgt := 131) hx hb d_Tx_sameQuoted_9 (by decide) (fun hc => ?_) (fun hc => ?_)
  · replace h := h.1 hc
    refine lv_iconst (v := (0 : Int32)) hx hb d_Tx_sameQuoted_131 (by decide) ?_
    exact kw_zret hx hb hr hlocks hst h d_Tx_sameQuoted_132
  · replace h := h.2 hc
    refine lv_iload_n hx hb d_Tx_sameQuoted_12 rfl (lv_at hl 1 rfl) ?_
    refine lv_iload hx hb d_Tx_sameQuoted_13 (lv_at hl 4 rfl) ?_
    refine lv_iadd hx hb d_Tx_sameQuoted_15 ?_
    refine lv_aload_n hx hb d_Tx_sameQuoted_16 rfl (lv_at hl 0 rfl) ?_
    refine va_get (D := D) (ci := 1) (C := R_Tx) (T := T_Tx) (N := 2) hx hb hts in_Tx hown hK hst.1 10 (WS_o10 g σ) rfl 1 (by decide) (hts _ gw112) (fun _ h9 => h9) rfl d_Tx_sameQuoted_17 ?_
    refine lv_icmp_ge (tgt := 37) hx hb d_Tx_sameQuoted_20 (by decide) (fun hc => ?_) (fun hc => ?_)
    · replace h := h.1 hc
      exact j2 x1 x3 x4 σ _ _ _ (lv_sub hl [0, 1, 2, 3, 4] rfl) hst h
    · replace h := h.2 hc
      refine lv_aload_n hx hb d_Tx_sameQuoted_23 rfl (lv_at hl 0 rfl) ?_
      refine va_get (D := D) (ci := 1) (C := R_Tx) (T := T_Tx) (N := 2) hx hb hts in_Tx hown hK hst.1 10 (WS_o10 g σ) rfl 0 (by decide) (hts _ gw106) (fun _ h9 => h9) rfl d_Tx_sameQuoted_24 ?_
      refine lv_iload_n hx hb d_Tx_sameQuoted_27 rfl (lv_at hl 1 rfl) ?_
      refine lv_iload hx hb d_Tx_sameQuoted_28 (lv_at hl 4 rfl) ?_
      refine lv_iadd hx hb d_Tx_sameQuoted_30 ?_
      obtain ⟨hi, h⟩ := h
      refine va_cald hx hb hK hst.1 11 1 (WS_a11 g σ) rfl hi d_Tx_sameQuoted_31 ?_
      refine lv_bipush (v := (34 : Int32)) hx hb d_Tx_sameQuoted_32 (by decide) ?_
      refine lv_icmp_ne (tgt := 41) hx hb d_Tx_sameQuoted_34 (by decide) (fun hc => ?_) (fun hc => ?_)
      · replace h := h.1 hc
        refine lv_iconst (v := (0 : Int32)) hx hb d_Tx_sameQuoted_41 (by decide) ?_
        refine lv_istore hx hb d_Tx_sameQuoted_42 hl (by decide) rfl (fun ls hl => ?_)
        have hl : lv_has ls 7 [(5, .int (0 : Int32)), (0, .ref (g.1 10)), (1, .int x1), (2, .ref (g.1 10)), (3, .int x3), (4, .int x4)] := hl
        exact j3 x1 x3 x4 (0 : Int32) σ _ _ _ (lv_sub hl [1, 2, 3, 4, 5, 0] rfl) hst h
      · replace h := h.2 hc
        exact j2 x1 x3 x4 σ _ _ _ (lv_sub hl [0, 1, 2, 3, 4] rfl) hst h
set_option maxRecDepth 100000 in
set_option maxHeartbeats 4000000 in
theorem b_Tx_sameQuoted_0_0_2 {p : Program} {l : Launch} {e : Env} {s : State} {m : MethodId} {args : Array Value} {below : List Frame} {meth : Method} {c : Code} {D : va_G} {g : Gm} {A : Nat → Prop} {post : Int32 → Sg → Prop} {F : Nat → Int32 → Int32 → Int32 → Int32 → Int32 → Sg → Prop} (C : kC p s m args meth c k_Tx_sameQuoted 7 (some .boolean) GW R_Tx D vwCl g (Zk g) A) (j3 : J_Tx_sameQuoted_0_0_3 p l e s m args below meth c D g A post F) (x1 : Int32) (x3 : Int32) (x4 : Int32) (σ : Sg) (H : Heap) (locs : List Loc) (ls : Array Slot) (hl : lv_has ls 7 [(0, .ref (g.1 10)), (1, .int x1), (2, .ref (g.1 10)), (3, .int x3), (4, .int x4)]) (hst : Wst D vwCl (WS g) A s σ H locs) (h : wb_Tx_sameQuoted_2 0 0 F post x1 x3 x4 σ) : W p l e { frames := 0, cells := 0, slots := 0, locals := 0 } s m args below meth c H locs 0 0 (MQ below (QiW D vwCl (WS g) post A) args s 0 0 A) (F0 m 37 ls []) := by
  obtain ⟨hx, hb, hr, hml, hown, hts, hlocks, hK, hZ, hA⟩ := C
  unfold wb_Tx_sameQuoted_2 at h
  refine lv_iconst (v := (1 : Int32)) hx hb d_Tx_sameQuoted_37 (by decide) ?_
  refine lv_goto (tgt := 42) hx hb d_Tx_sameQuoted_38 (by decide) ?_
  refine lv_istore hx hb d_Tx_sameQuoted_42 hl (by decide) rfl (fun ls hl => ?_)
  have hl : lv_has ls 7 [(5, .int (1 : Int32)), (0, .ref (g.1 10)), (1, .int x1), (2, .ref (g.1 10)), (3, .int x3), (4, .int x4)] := hl
  exact j3 x1 x3 x4 (1 : Int32) σ _ _ _ (lv_sub hl [1, 2, 3, 4, 5, 0] rfl) hst h
set_option maxRecDepth 100000 in
set_option maxHeartbeats 4000000 in
theorem b_Tx_sameQuoted_0_0_3 {p : Program} {l : Launch} {e : Env} {s : State} {m : MethodId} {args : Array Value} {below : List Frame} {meth : Method} {c : Code} {D : va_G} {g : Gm} {A : Nat → Prop} {post : Int32 → Sg → Prop} {F : Nat → Int32 → Int32 → Int32 → Int32 → Int32 → Sg → Prop} (C : kC p s m args meth c k_Tx_sameQuoted 7 (some .boolean) GW R_Tx D vwCl g (Zk g) A) (j4 : J_Tx_sameQuoted_0_0_4 p l e s m args below meth c D g A post F) (j5 : J_Tx_sameQuoted_0_0_5 p l e s m args below meth c D g A post F) (x1 : Int32) (x3 : Int32) (x4 : Int32) (x5 : Int32) (σ : Sg) (H : Heap) (locs : List Loc) (ls : Array Slot) (hl : lv_has ls 7 [(0, .ref (g.1 10)), (1, .int x1), (2, .ref (g.1 10)), (3, .int x3), (4, .int x4), (5, .int x5)]) (hst : Wst D vwCl (WS g) A s σ H locs) (h : wb_Tx_sameQuoted_3 0 0 F post x1 x3 x4 x5 σ) : W p l e { frames := 0, cells := 0, slots := 0, locals := 0 } s m args below meth c H locs 0 0 (MQ below (QiW D vwCl (WS g) post A) args s 0 0 A) (F0 m 44 ls []) := by
  obtain ⟨hx, hb, hr, hml, hown, hts, hlocks, hK, hZ, hA⟩ := C
  unfold wb_Tx_sameQuoted_3 at h
  refine lv_iload_n hx hb d_Tx_sameQuoted_44 rfl (lv_at hl 3 rfl) ?_
  refine lv_iload hx hb d_Tx_sameQuoted_45 (lv_at hl 4 rfl) ?_
  refine lv_iadd hx hb d_Tx_sameQuoted_47 ?_
  refine lv_aload_n hx hb d_Tx_sameQuoted_48 rfl (lv_at hl 2 rfl) ?_
  refine va_get (D := D) (ci := 1) (C := R_Tx) (T := T_Tx) (N := 2) hx hb hts in_Tx hown hK hst.1 10 (WS_o10 g σ) rfl 1 (by decide) (hts _ gw112) (fun _ h9 => h9) rfl d_Tx_sameQuoted_49 ?_
  refine lv_icmp_ge (tgt := 69) hx hb d_Tx_sameQuoted_52 (by decide) (fun hc => ?_) (fun hc => ?_)
  · replace h := h.1 hc
    exact j4 x1 x3 x4 x5 σ _ _ _ (lv_sub hl [0, 1, 2, 3, 4, 5] rfl) hst h
  · replace h := h.2 hc
    refine lv_aload_n hx hb d_Tx_sameQuoted_55 rfl (lv_at hl 2 rfl) ?_
    refine va_get (D := D) (ci := 1) (C := R_Tx) (T := T_Tx) (N := 2) hx hb hts in_Tx hown hK hst.1 10 (WS_o10 g σ) rfl 0 (by decide) (hts _ gw106) (fun _ h9 => h9) rfl d_Tx_sameQuoted_56 ?_
    refine lv_iload_n hx hb d_Tx_sameQuoted_59 rfl (lv_at hl 3 rfl) ?_
    refine lv_iload hx hb d_Tx_sameQuoted_60 (lv_at hl 4 rfl) ?_
    refine lv_iadd hx hb d_Tx_sameQuoted_62 ?_
    obtain ⟨hi, h⟩ := h
    refine va_cald hx hb hK hst.1 11 1 (WS_a11 g σ) rfl hi d_Tx_sameQuoted_63 ?_
    refine lv_bipush (v := (34 : Int32)) hx hb d_Tx_sameQuoted_64 (by decide) ?_
    refine lv_icmp_ne (tgt := 73) hx hb d_Tx_sameQuoted_66 (by decide) (fun hc => ?_) (fun hc => ?_)
    · replace h := h.1 hc
      refine lv_iconst (v := (0 : Int32)) hx hb d_Tx_sameQuoted_73 (by decide) ?_
      refine lv_istore hx hb d_Tx_sameQuoted_74 hl (by decide) rfl (fun ls hl => ?_)
      have hl : lv_has ls 7 [(6, .int (0 : Int32)), (0, .ref (g.1 10)), (1, .int x1), (2, .ref (g.1 10)), (3, .int x3), (4, .int x4), (5, .int x5)] := hl
      exact j5 x1 x3 x4 x5 (0 : Int32) σ _ _ _ (lv_sub hl [1, 2, 3, 4, 5, 6, 0] rfl) hst h
    · replace h := h.2 hc
      exact j4 x1 x3 x4 x5 σ _ _ _ (lv_sub hl [0, 1, 2, 3, 4, 5] rfl) hst h
set_option maxRecDepth 100000 in
set_option maxHeartbeats 4000000 in
theorem b_Tx_sameQuoted_0_0_4 {p : Program} {l : Launch} {e : Env} {s : State} {m : MethodId} {args : Array Value} {below : List Frame} {meth : Method} {c : Code} {D : va_G} {g : Gm} {A : Nat → Prop} {post : Int32 → Sg → Prop} {F : Nat → Int32 → Int32 → Int32 → Int32 → Int32 → Sg → Prop} (C : kC p s m args meth c k_Tx_sameQuoted 7 (some .boolean) GW R_Tx D vwCl g (Zk g) A) (j5 : J_Tx_sameQuoted_0_0_5 p l e s m args below meth c D g A post F) (x1 : Int32) (x3 : Int32) (x4 : Int32) (x5 : Int32) (σ : Sg) (H : Heap) (locs : List Loc) (ls : Array Slot) (hl : lv_has ls 7 [(0, .ref (g.1 10)), (1, .int x1), (2, .ref (g.1 10)), (3, .int x3), (4, .int x4), (5, .int x5)]) (hst : Wst D vwCl (WS g) A s σ H locs) (h : wb_Tx_sameQuoted_4 0 0 F post x1 x3 x4 x5 σ) : W p l e { frames := 0, cells := 0, slots := 0, locals := 0 } s m args below meth c H locs 0 0 (MQ below (QiW D vwCl (WS g) post A) args s 0 0 A) (F0 m 69 ls []) := by
  obtain ⟨hx, hb, hr, hml, hown, hts, hlocks, hK, hZ, hA⟩ := C
  unfold wb_Tx_sameQuoted_4 at h
  refine lv_iconst (v := (1 : Int32)) hx hb d_Tx_sameQuoted_69 (by decide) ?_
  refine lv_goto (tgt := 74) hx hb d_Tx_sameQuoted_70 (by decide) ?_
  refine lv_istore hx hb d_Tx_sameQuoted_74 hl (by decide) rfl (fun ls hl => ?_)
  have hl : lv_has ls 7 [(6, .int (1 : Int32)), (0, .ref (g.1 10)), (1, .int x1), (2, .ref (g.1 10)), (3, .int x3), (4, .int x4), (5, .int x5)] := hl
  exact j5 x1 x3 x4 x5 (1 : Int32) σ _ _ _ (lv_sub hl [1, 2, 3, 4, 5, 6, 0] rfl) hst h
set_option maxRecDepth 100000 in
set_option maxHeartbeats 4000000 in
theorem b_Tx_sameQuoted_0_0_5 {p : Program} {l : Launch} {e : Env} {s : State} {m : MethodId} {args : Array Value} {below : List Frame} {meth : Method} {c : Code} {D : va_G} {g : Gm} {A : Nat → Prop} {post : Int32 → Sg → Prop} {F : Nat → Int32 → Int32 → Int32 → Int32 → Int32 → Sg → Prop} (C : kC p s m args meth c k_Tx_sameQuoted 7 (some .boolean) GW R_Tx D vwCl g (Zk g) A) (j1 : J_Tx_sameQuoted_0_0_1 p l e s m args below meth c D g A post F) (x1 : Int32) (x3 : Int32) (x4 : Int32) (x5 : Int32) (x6 : Int32) (σ : Sg) (H : Heap) (locs : List Loc) (ls : Array Slot) (hl : lv_has ls 7 [(0, .ref (g.1 10)), (1, .int x1), (2, .ref (g.1 10)), (3, .int x3), (4, .int x4), (5, .int x5), (6, .int x6)]) (hst : Wst D vwCl (WS g) A s σ H locs) (h : wb_Tx_sameQuoted_5 0 0 F post x1 x3 x4 x5 x6 σ) : W p l e { frames := 0, cells := 0, slots := 0, locals := 0 } s m args below meth c H locs 0 0 (MQ below (QiW D vwCl (WS g) post A) args s 0 0 A) (F0 m 76 ls []) := by
  obtain ⟨hx, hb, hr, hml, hown, hts, hlocks, hK, hZ, hA⟩ := C
  unfold wb_Tx_sameQuoted_5 at h
  refine lv_iload hx hb d_Tx_sameQuoted_76 (lv_at hl 5 rfl) ?_
  refine lv_if_ne (tgt := 86) hx hb d_Tx_sameQuoted_78 (by decide) (fun hc => ?_) (fun hc => ?_)
  · replace h := h.1 hc
    refine lv_iload hx hb d_Tx_sameQuoted_86 (lv_at hl 5 rfl) ?_
    refine lv_if_eq (tgt := 100) hx hb d_Tx_sameQuoted_88 (by decide) (fun hc => ?_) (fun hc => ?_)
    · replace h := h.1 hc
      refine lv_iconst (v := (0 : Int32)) hx hb d_Tx_sameQuoted_100 (by decide) ?_
      exact kw_zret hx hb hr hlocks hst h d_Tx_sameQuoted_101
    · replace h := h.2 hc
      refine lv_iload hx hb d_Tx_sameQuoted_91 (lv_at hl 6 rfl) ?_
      refine lv_if_eq (tgt := 100) hx hb d_Tx_sameQuoted_93 (by decide) (fun hc => ?_) (fun hc => ?_)
      · replace h := h.1 hc
        refine lv_iconst (v := (0 : Int32)) hx hb d_Tx_sameQuoted_100 (by decide) ?_
        exact kw_zret hx hb hr hlocks hst h d_Tx_sameQuoted_101
      · replace h := h.2 hc
        refine lv_iconst (v := (1 : Int32)) hx hb d_Tx_sameQuoted_96 (by decide) ?_
        refine lv_goto (tgt := 101) hx hb d_Tx_sameQuoted_97 (by decide) ?_
        exact kw_zret hx hb hr hlocks hst h d_Tx_sameQuoted_101
  · replace h := h.2 hc
    refine lv_iload hx hb d_Tx_sameQuoted_81 (lv_at hl 6 rfl) ?_
    refine lv_if_eq (tgt := 102) hx hb d_Tx_sameQuoted_83 (by decide) (fun hc => ?_) (fun hc => ?_)
    · replace h := h.1 hc
      refine lv_aload_n hx hb d_Tx_sameQuoted_102 rfl (lv_at hl 0 rfl) ?_
      refine va_get (D := D) (ci := 1) (C := R_Tx) (T := T_Tx) (N := 2) hx hb hts in_Tx hown hK hst.1 10 (WS_o10 g σ) rfl 0 (by decide) (hts _ gw106) (fun _ h9 => h9) rfl d_Tx_sameQuoted_103 ?_
      refine lv_iload_n hx hb d_Tx_sameQuoted_106 rfl (lv_at hl 1 rfl) ?_
      refine lv_iload hx hb d_Tx_sameQuoted_107 (lv_at hl 4 rfl) ?_
      refine lv_iadd hx hb d_Tx_sameQuoted_109 ?_
      obtain ⟨hi, h⟩ := h
      refine va_cald hx hb hK hst.1 11 1 (WS_a11 g σ) rfl hi d_Tx_sameQuoted_110 ?_
      refine lv_aload_n hx hb d_Tx_sameQuoted_111 rfl (lv_at hl 2 rfl) ?_
      refine va_get (D := D) (ci := 1) (C := R_Tx) (T := T_Tx) (N := 2) hx hb hts in_Tx hown hK hst.1 10 (WS_o10 g σ) rfl 0 (by decide) (hts _ gw106) (fun _ h9 => h9) rfl d_Tx_sameQuoted_112 ?_
      refine lv_iload_n hx hb d_Tx_sameQuoted_115 rfl (lv_at hl 3 rfl) ?_
      refine lv_iload hx hb d_Tx_sameQuoted_116 (lv_at hl 4 rfl) ?_
      refine lv_iadd hx hb d_Tx_sameQuoted_118 ?_
      obtain ⟨hi, h⟩ := h
      refine va_cald hx hb hK hst.1 11 1 (WS_a11 g σ) rfl hi d_Tx_sameQuoted_119 ?_
      refine lv_icmp_eq (tgt := 125) hx hb d_Tx_sameQuoted_120 (by decide) (fun hc => ?_) (fun hc => ?_)
      · replace h := h.1 hc
        refine lv_iinc (k := 4) (v := (x4 + 1)) hx hb d_Tx_sameQuoted_125 hl rfl (kw_inc _ (by decide)) (by decide) rfl (fun ls hl => ?_)
        have hl : lv_has ls 7 [(4, .int (x4 + 1)), (0, .ref (g.1 10)), (1, .int x1), (2, .ref (g.1 10)), (3, .int x3), (5, .int x5), (6, .int x6)] := hl
        refine lv_goto (tgt := 3) hx hb d_Tx_sameQuoted_128 (by decide) ?_
        exact j1 x1 x3 (x4 + 1) σ _ _ _ (lv_sub hl [1, 2, 3, 4, 0] rfl) hst h
      · replace h := h.2 hc
        refine lv_iconst (v := (0 : Int32)) hx hb d_Tx_sameQuoted_123 (by decide) ?_
        exact kw_zret hx hb hr hlocks hst h d_Tx_sameQuoted_124
    · replace h := h.2 hc
      refine lv_iload hx hb d_Tx_sameQuoted_86 (lv_at hl 5 rfl) ?_
      refine lv_if_eq (tgt := 100) hx hb d_Tx_sameQuoted_88 (by decide) (fun hc => ?_) (fun hc => ?_)
      · replace h := h.1 hc
        refine lv_iconst (v := (0 : Int32)) hx hb d_Tx_sameQuoted_100 (by decide) ?_
        exact kw_zret hx hb hr hlocks hst h d_Tx_sameQuoted_101
      · replace h := h.2 hc
        refine lv_iload hx hb d_Tx_sameQuoted_91 (lv_at hl 6 rfl) ?_
        refine lv_if_eq (tgt := 100) hx hb d_Tx_sameQuoted_93 (by decide) (fun hc => ?_) (fun hc => ?_)
        · replace h := h.1 hc
          refine lv_iconst (v := (0 : Int32)) hx hb d_Tx_sameQuoted_100 (by decide) ?_
          exact kw_zret hx hb hr hlocks hst h d_Tx_sameQuoted_101
        · replace h := h.2 hc
          refine lv_iconst (v := (1 : Int32)) hx hb d_Tx_sameQuoted_96 (by decide) ?_
          refine lv_goto (tgt := 101) hx hb d_Tx_sameQuoted_97 (by decide) ?_
          exact kw_zret hx hb hr hlocks hst h d_Tx_sameQuoted_101
set_option maxRecDepth 100000 in
set_option maxHeartbeats 4000000 in
theorem a_Tx_sameQuoted_0_0 {p : Program} {l : Launch} {e : Env} {s : State} {m : MethodId} {args : Array Value} {below : List Frame} {meth : Method} {c : Code} {D : va_G} {g : Gm} {A : Nat → Prop} {post : Int32 → Sg → Prop} (C : kC p s m args meth c k_Tx_sameQuoted 7 (some .boolean) GW R_Tx D vwCl g (Zk g) A) : ∀ n : Nat, J_Tx_sameQuoted_0_0_1 p l e s m args below meth c D g A post (wp_Tx_sameQuoted 0 0 post n) ∧ J_Tx_sameQuoted_0_0_2 p l e s m args below meth c D g A post (wp_Tx_sameQuoted 0 0 post n) ∧ J_Tx_sameQuoted_0_0_3 p l e s m args below meth c D g A post (wp_Tx_sameQuoted 0 0 post n) ∧ J_Tx_sameQuoted_0_0_4 p l e s m args below meth c D g A post (wp_Tx_sameQuoted 0 0 post n) ∧ J_Tx_sameQuoted_0_0_5 p l e s m args below meth c D g A post (wp_Tx_sameQuoted 0 0 post n) := by
  intro n
  induction n with
  | zero => exact ⟨fun _ _ _ _ _ _ _ _ _ h => h.elim, fun _ _ _ _ _ _ _ _ _ h => h.elim, fun _ _ _ _ _ _ _ _ _ _ h => h.elim, fun _ _ _ _ _ _ _ _ _ _ h => h.elim, fun _ _ _ _ _ _ _ _ _ _ _ h => h.elim⟩
  | succ n ih => exact ⟨fun x1 x3 x4 σ H locs ls hl hst h => b_Tx_sameQuoted_0_0_1 (F := wp_Tx_sameQuoted 0 0 post n) C (ih.2.1) (ih.2.2.1) x1 x3 x4 σ H locs ls hl hst h, fun x1 x3 x4 σ H locs ls hl hst h => b_Tx_sameQuoted_0_0_2 (F := wp_Tx_sameQuoted 0 0 post n) C (ih.2.2.1) x1 x3 x4 σ H locs ls hl hst h, fun x1 x3 x4 x5 σ H locs ls hl hst h => b_Tx_sameQuoted_0_0_3 (F := wp_Tx_sameQuoted 0 0 post n) C (ih.2.2.2.1) (ih.2.2.2.2) x1 x3 x4 x5 σ H locs ls hl hst h, fun x1 x3 x4 x5 σ H locs ls hl hst h => b_Tx_sameQuoted_0_0_4 (F := wp_Tx_sameQuoted 0 0 post n) C (ih.2.2.2.2) x1 x3 x4 x5 σ H locs ls hl hst h, fun x1 x3 x4 x5 x6 σ H locs ls hl hst h => b_Tx_sameQuoted_0_0_5 (F := wp_Tx_sameQuoted 0 0 post n) C (ih.1) x1 x3 x4 x5 x6 σ H locs ls hl hst h⟩
set_option maxRecDepth 100000 in
set_option maxHeartbeats 4000000 in
theorem c_Tx_sameQuoted_0_0 (l : Launch) {D : va_G} {g : Gm} {sz : Nat} (x1 : Int32) (x3 : Int32) {σ : Sg} {post : Int32 → Sg → Prop} (h : wq_Tx_sameQuoted 0 0 x1 x3 σ post) : Met l y_Tx_sameQuoted (.code y_Tx_sameQuoted k_Tx_sameQuoted 7 (some .boolean) :: GW) { frames := 0, cells := 0, slots := 0, locals := 0 } (PcW D vwCl (WS g) g (Zk g) σ sz [.ref (g.1 10), .int x1, .ref (g.1 10), .int x3]) (QiW D vwCl (WS g) post (va_A (WS g σ) sz)) 0 0 (va_A (WS g σ) sz) := by
  refine kw_entry (own := R_Tx) (by decide) rfl rfl (Nat.le_of_ble_eq_true rfl) ?_
  intro p e s m below meth c ls hsz C hin hl hst
  obtain ⟨n, h⟩ := h
  cases n with
  | zero => exact h.elim
  | succ n =>
    have ih := a_Tx_sameQuoted_0_0 (l := l) (e := e) (below := below) (post := post) C n
    exact b_Tx_sameQuoted_0_0_0 (F := wp_Tx_sameQuoted 0 0 post n) C (ih.1) x1 x3 σ _ _ ls hl hst h
def J_Tx_sameQuoted_0_13_1 (p : Program) (l : Launch) (e : Env) (s : State) (m : MethodId) (args : Array Value) (below : List Frame) (meth : Method) (c : Code) (D : va_G) (g : Gm) (A : Nat → Prop) (post : Int32 → Sg → Prop) (F : Nat → Int32 → Int32 → Int32 → Int32 → Int32 → Sg → Prop) : Prop := ∀ (x1 : Int32) (x3 : Int32) (x4 : Int32) (σ : Sg) (H : Heap) (locs : List Loc) (ls : Array Slot), lv_has ls 7 [(0, .ref (g.1 10)), (1, .int x1), (2, .ref (g.1 23)), (3, .int x3), (4, .int x4)] → Wst D vwCl (WS g) A s σ H locs → F 1 x1 x3 x4 0 0 σ → W p l e { frames := 0, cells := 0, slots := 0, locals := 0 } s m args below meth c H locs 0 0 (MQ below (QiW D vwCl (WS g) post A) args s 0 0 A) (F0 m 3 ls [])
def J_Tx_sameQuoted_0_13_2 (p : Program) (l : Launch) (e : Env) (s : State) (m : MethodId) (args : Array Value) (below : List Frame) (meth : Method) (c : Code) (D : va_G) (g : Gm) (A : Nat → Prop) (post : Int32 → Sg → Prop) (F : Nat → Int32 → Int32 → Int32 → Int32 → Int32 → Sg → Prop) : Prop := ∀ (x1 : Int32) (x3 : Int32) (x4 : Int32) (σ : Sg) (H : Heap) (locs : List Loc) (ls : Array Slot), lv_has ls 7 [(0, .ref (g.1 10)), (1, .int x1), (2, .ref (g.1 23)), (3, .int x3), (4, .int x4)] → Wst D vwCl (WS g) A s σ H locs → F 2 x1 x3 x4 0 0 σ → W p l e { frames := 0, cells := 0, slots := 0, locals := 0 } s m args below meth c H locs 0 0 (MQ below (QiW D vwCl (WS g) post A) args s 0 0 A) (F0 m 37 ls [])
def J_Tx_sameQuoted_0_13_3 (p : Program) (l : Launch) (e : Env) (s : State) (m : MethodId) (args : Array Value) (below : List Frame) (meth : Method) (c : Code) (D : va_G) (g : Gm) (A : Nat → Prop) (post : Int32 → Sg → Prop) (F : Nat → Int32 → Int32 → Int32 → Int32 → Int32 → Sg → Prop) : Prop := ∀ (x1 : Int32) (x3 : Int32) (x4 : Int32) (x5 : Int32) (σ : Sg) (H : Heap) (locs : List Loc) (ls : Array Slot), lv_has ls 7 [(0, .ref (g.1 10)), (1, .int x1), (2, .ref (g.1 23)), (3, .int x3), (4, .int x4), (5, .int x5)] → Wst D vwCl (WS g) A s σ H locs → F 3 x1 x3 x4 x5 0 σ → W p l e { frames := 0, cells := 0, slots := 0, locals := 0 } s m args below meth c H locs 0 0 (MQ below (QiW D vwCl (WS g) post A) args s 0 0 A) (F0 m 44 ls [])
def J_Tx_sameQuoted_0_13_4 (p : Program) (l : Launch) (e : Env) (s : State) (m : MethodId) (args : Array Value) (below : List Frame) (meth : Method) (c : Code) (D : va_G) (g : Gm) (A : Nat → Prop) (post : Int32 → Sg → Prop) (F : Nat → Int32 → Int32 → Int32 → Int32 → Int32 → Sg → Prop) : Prop := ∀ (x1 : Int32) (x3 : Int32) (x4 : Int32) (x5 : Int32) (σ : Sg) (H : Heap) (locs : List Loc) (ls : Array Slot), lv_has ls 7 [(0, .ref (g.1 10)), (1, .int x1), (2, .ref (g.1 23)), (3, .int x3), (4, .int x4), (5, .int x5)] → Wst D vwCl (WS g) A s σ H locs → F 4 x1 x3 x4 x5 0 σ → W p l e { frames := 0, cells := 0, slots := 0, locals := 0 } s m args below meth c H locs 0 0 (MQ below (QiW D vwCl (WS g) post A) args s 0 0 A) (F0 m 69 ls [])
def J_Tx_sameQuoted_0_13_5 (p : Program) (l : Launch) (e : Env) (s : State) (m : MethodId) (args : Array Value) (below : List Frame) (meth : Method) (c : Code) (D : va_G) (g : Gm) (A : Nat → Prop) (post : Int32 → Sg → Prop) (F : Nat → Int32 → Int32 → Int32 → Int32 → Int32 → Sg → Prop) : Prop := ∀ (x1 : Int32) (x3 : Int32) (x4 : Int32) (x5 : Int32) (x6 : Int32) (σ : Sg) (H : Heap) (locs : List Loc) (ls : Array Slot), lv_has ls 7 [(0, .ref (g.1 10)), (1, .int x1), (2, .ref (g.1 23)), (3, .int x3), (4, .int x4), (5, .int x5), (6, .int x6)] → Wst D vwCl (WS g) A s σ H locs → F 5 x1 x3 x4 x5 x6 σ → W p l e { frames := 0, cells := 0, slots := 0, locals := 0 } s m args below meth c H locs 0 0 (MQ below (QiW D vwCl (WS g) post A) args s 0 0 A) (F0 m 76 ls [])
set_option maxRecDepth 100000 in
set_option maxHeartbeats 4000000 in
theorem b_Tx_sameQuoted_0_13_0 {p : Program} {l : Launch} {e : Env} {s : State} {m : MethodId} {args : Array Value} {below : List Frame} {meth : Method} {c : Code} {D : va_G} {g : Gm} {A : Nat → Prop} {post : Int32 → Sg → Prop} {F : Nat → Int32 → Int32 → Int32 → Int32 → Int32 → Sg → Prop} (C : kC p s m args meth c k_Tx_sameQuoted 7 (some .boolean) GW R_Tx D vwCl g (Zk g) A) (j1 : J_Tx_sameQuoted_0_13_1 p l e s m args below meth c D g A post F) (x1 : Int32) (x3 : Int32) (σ : Sg) (H : Heap) (locs : List Loc) (ls : Array Slot) (hl : lv_has ls 7 [(0, .ref (g.1 10)), (1, .int x1), (2, .ref (g.1 23)), (3, .int x3)]) (hst : Wst D vwCl (WS g) A s σ H locs) (h : wb_Tx_sameQuoted_0 0 13 F post x1 x3 σ) : W p l e { frames := 0, cells := 0, slots := 0, locals := 0 } s m args below meth c H locs 0 0 (MQ below (QiW D vwCl (WS g) post A) args s 0 0 A) (F0 m 0 ls []) := by
  obtain ⟨hx, hb, hr, hml, hown, hts, hlocks, hK, hZ, hA⟩ := C
  unfold wb_Tx_sameQuoted_0 at h
  refine lv_iconst (v := (0 : Int32)) hx hb d_Tx_sameQuoted_0 (by decide) ?_
  refine lv_istore hx hb d_Tx_sameQuoted_1 hl (by decide) rfl (fun ls hl => ?_)
  have hl : lv_has ls 7 [(4, .int (0 : Int32)), (0, .ref (g.1 10)), (1, .int x1), (2, .ref (g.1 23)), (3, .int x3)] := hl
  exact j1 x1 x3 (0 : Int32) σ _ _ _ (lv_sub hl [1, 2, 3, 4, 0] rfl) hst h
set_option maxRecDepth 100000 in
set_option maxHeartbeats 4000000 in
theorem b_Tx_sameQuoted_0_13_1 {p : Program} {l : Launch} {e : Env} {s : State} {m : MethodId} {args : Array Value} {below : List Frame} {meth : Method} {c : Code} {D : va_G} {g : Gm} {A : Nat → Prop} {post : Int32 → Sg → Prop} {F : Nat → Int32 → Int32 → Int32 → Int32 → Int32 → Sg → Prop} (C : kC p s m args meth c k_Tx_sameQuoted 7 (some .boolean) GW R_Tx D vwCl g (Zk g) A) (j2 : J_Tx_sameQuoted_0_13_2 p l e s m args below meth c D g A post F) (j3 : J_Tx_sameQuoted_0_13_3 p l e s m args below meth c D g A post F) (x1 : Int32) (x3 : Int32) (x4 : Int32) (σ : Sg) (H : Heap) (locs : List Loc) (ls : Array Slot) (hl : lv_has ls 7 [(0, .ref (g.1 10)), (1, .int x1), (2, .ref (g.1 23)), (3, .int x3), (4, .int x4)]) (hst : Wst D vwCl (WS g) A s σ H locs) (h : wb_Tx_sameQuoted_1 0 13 F post x1 x3 x4 σ) : W p l e { frames := 0, cells := 0, slots := 0, locals := 0 } s m args below meth c H locs 0 0 (MQ below (QiW D vwCl (WS g) post A) args s 0 0 A) (F0 m 3 ls []) := by
  obtain ⟨hx, hb, hr, hml, hown, hts, hlocks, hK, hZ, hA⟩ := C
  unfold wb_Tx_sameQuoted_1 at h
  refine lv_iload hx hb d_Tx_sameQuoted_3 (lv_at hl 4 rfl) ?_
  refine lv_aload_n hx hb d_Tx_sameQuoted_5 rfl (lv_at hl 0 rfl) ?_
  refine va_get (D := D) (ci := 1) (C := R_Tx) (T := T_Tx) (N := 2) hx hb hts in_Tx hown hK hst.1 10 (WS_o10 g σ) rfl 1 (by decide) (hts _ gw112) (fun _ h9 => h9) rfl d_Tx_sameQuoted_6 ?_
  refine lv_icmp_gt (tgt := 131) hx hb d_Tx_sameQuoted_9 (by decide) (fun hc => ?_) (fun hc => ?_)
  · replace h := h.1 hc
    refine lv_iconst (v := (0 : Int32)) hx hb d_Tx_sameQuoted_131 (by decide) ?_
    exact kw_zret hx hb hr hlocks hst h d_Tx_sameQuoted_132
  · replace h := h.2 hc
    refine lv_iload_n hx hb d_Tx_sameQuoted_12 rfl (lv_at hl 1 rfl) ?_
    refine lv_iload hx hb d_Tx_sameQuoted_13 (lv_at hl 4 rfl) ?_
    refine lv_iadd hx hb d_Tx_sameQuoted_15 ?_
    refine lv_aload_n hx hb d_Tx_sameQuoted_16 rfl (lv_at hl 0 rfl) ?_
    refine va_get (D := D) (ci := 1) (C := R_Tx) (T := T_Tx) (N := 2) hx hb hts in_Tx hown hK hst.1 10 (WS_o10 g σ) rfl 1 (by decide) (hts _ gw112) (fun _ h9 => h9) rfl d_Tx_sameQuoted_17 ?_
    refine lv_icmp_ge (tgt := 37) hx hb d_Tx_sameQuoted_20 (by decide) (fun hc => ?_) (fun hc => ?_)
    · replace h := h.1 hc
      exact j2 x1 x3 x4 σ _ _ _ (lv_sub hl [0, 1, 2, 3, 4] rfl) hst h
    · replace h := h.2 hc
      refine lv_aload_n hx hb d_Tx_sameQuoted_23 rfl (lv_at hl 0 rfl) ?_
      refine va_get (D := D) (ci := 1) (C := R_Tx) (T := T_Tx) (N := 2) hx hb hts in_Tx hown hK hst.1 10 (WS_o10 g σ) rfl 0 (by decide) (hts _ gw106) (fun _ h9 => h9) rfl d_Tx_sameQuoted_24 ?_
      refine lv_iload_n hx hb d_Tx_sameQuoted_27 rfl (lv_at hl 1 rfl) ?_
      refine lv_iload hx hb d_Tx_sameQuoted_28 (lv_at hl 4 rfl) ?_
      refine lv_iadd hx hb d_Tx_sameQuoted_30 ?_
      obtain ⟨hi, h⟩ := h
      refine va_cald hx hb hK hst.1 11 1 (WS_a11 g σ) rfl hi d_Tx_sameQuoted_31 ?_
      refine lv_bipush (v := (34 : Int32)) hx hb d_Tx_sameQuoted_32 (by decide) ?_
      refine lv_icmp_ne (tgt := 41) hx hb d_Tx_sameQuoted_34 (by decide) (fun hc => ?_) (fun hc => ?_)
      · replace h := h.1 hc
        refine lv_iconst (v := (0 : Int32)) hx hb d_Tx_sameQuoted_41 (by decide) ?_
        refine lv_istore hx hb d_Tx_sameQuoted_42 hl (by decide) rfl (fun ls hl => ?_)
        have hl : lv_has ls 7 [(5, .int (0 : Int32)), (0, .ref (g.1 10)), (1, .int x1), (2, .ref (g.1 23)), (3, .int x3), (4, .int x4)] := hl
        exact j3 x1 x3 x4 (0 : Int32) σ _ _ _ (lv_sub hl [1, 2, 3, 4, 5, 0] rfl) hst h
      · replace h := h.2 hc
        exact j2 x1 x3 x4 σ _ _ _ (lv_sub hl [0, 1, 2, 3, 4] rfl) hst h
set_option maxRecDepth 100000 in
set_option maxHeartbeats 4000000 in
theorem b_Tx_sameQuoted_0_13_2 {p : Program} {l : Launch} {e : Env} {s : State} {m : MethodId} {args : Array Value} {below : List Frame} {meth : Method} {c : Code} {D : va_G} {g : Gm} {A : Nat → Prop} {post : Int32 → Sg → Prop} {F : Nat → Int32 → Int32 → Int32 → Int32 → Int32 → Sg → Prop} (C : kC p s m args meth c k_Tx_sameQuoted 7 (some .boolean) GW R_Tx D vwCl g (Zk g) A) (j3 : J_Tx_sameQuoted_0_13_3 p l e s m args below meth c D g A post F) (x1 : Int32) (x3 : Int32) (x4 : Int32) (σ : Sg) (H : Heap) (locs : List Loc) (ls : Array Slot) (hl : lv_has ls 7 [(0, .ref (g.1 10)), (1, .int x1), (2, .ref (g.1 23)), (3, .int x3), (4, .int x4)]) (hst : Wst D vwCl (WS g) A s σ H locs) (h : wb_Tx_sameQuoted_2 0 13 F post x1 x3 x4 σ) : W p l e { frames := 0, cells := 0, slots := 0, locals := 0 } s m args below meth c H locs 0 0 (MQ below (QiW D vwCl (WS g) post A) args s 0 0 A) (F0 m 37 ls []) := by
  obtain ⟨hx, hb, hr, hml, hown, hts, hlocks, hK, hZ, hA⟩ := C
  unfold wb_Tx_sameQuoted_2 at h
  refine lv_iconst (v := (1 : Int32)) hx hb d_Tx_sameQuoted_37 (by decide) ?_
  refine lv_goto (tgt := 42) hx hb d_Tx_sameQuoted_38 (by decide) ?_
  refine lv_istore hx hb d_Tx_sameQuoted_42 hl (by decide) rfl (fun ls hl => ?_)
  have hl : lv_has ls 7 [(5, .int (1 : Int32)), (0, .ref (g.1 10)), (1, .int x1), (2, .ref (g.1 23)), (3, .int x3), (4, .int x4)] := hl
  exact j3 x1 x3 x4 (1 : Int32) σ _ _ _ (lv_sub hl [1, 2, 3, 4, 5, 0] rfl) hst h
set_option maxRecDepth 100000 in
set_option maxHeartbeats 4000000 in
theorem b_Tx_sameQuoted_0_13_3 {p : Program} {l : Launch} {e : Env} {s : State} {m : MethodId} {args : Array Value} {below : List Frame} {meth : Method} {c : Code} {D : va_G} {g : Gm} {A : Nat → Prop} {post : Int32 → Sg → Prop} {F : Nat → Int32 → Int32 → Int32 → Int32 → Int32 → Sg → Prop} (C : kC p s m args meth c k_Tx_sameQuoted 7 (some .boolean) GW R_Tx D vwCl g (Zk g) A) (j4 : J_Tx_sameQuoted_0_13_4 p l e s m args below meth c D g A post F) (j5 : J_Tx_sameQuoted_0_13_5 p l e s m args below meth c D g A post F) (x1 : Int32) (x3 : Int32) (x4 : Int32) (x5 : Int32) (σ : Sg) (H : Heap) (locs : List Loc) (ls : Array Slot) (hl : lv_has ls 7 [(0, .ref (g.1 10)), (1, .int x1), (2, .ref (g.1 23)), (3, .int x3), (4, .int x4), (5, .int x5)]) (hst : Wst D vwCl (WS g) A s σ H locs) (h : wb_Tx_sameQuoted_3 0 13 F post x1 x3 x4 x5 σ) : W p l e { frames := 0, cells := 0, slots := 0, locals := 0 } s m args below meth c H locs 0 0 (MQ below (QiW D vwCl (WS g) post A) args s 0 0 A) (F0 m 44 ls []) := by
  obtain ⟨hx, hb, hr, hml, hown, hts, hlocks, hK, hZ, hA⟩ := C
  unfold wb_Tx_sameQuoted_3 at h
  refine lv_iload_n hx hb d_Tx_sameQuoted_44 rfl (lv_at hl 3 rfl) ?_
  refine lv_iload hx hb d_Tx_sameQuoted_45 (lv_at hl 4 rfl) ?_
  refine lv_iadd hx hb d_Tx_sameQuoted_47 ?_
  refine lv_aload_n hx hb d_Tx_sameQuoted_48 rfl (lv_at hl 2 rfl) ?_
  refine va_get (D := D) (ci := 1) (C := R_Tx) (T := T_Tx) (N := 2) hx hb hts in_Tx hown hK hst.1 23 (WS_o23 g σ) rfl 1 (by decide) (hts _ gw112) (fun _ h9 => h9) rfl d_Tx_sameQuoted_49 ?_
  refine lv_icmp_ge (tgt := 69) hx hb d_Tx_sameQuoted_52 (by decide) (fun hc => ?_) (fun hc => ?_)
  · replace h := h.1 hc
    exact j4 x1 x3 x4 x5 σ _ _ _ (lv_sub hl [0, 1, 2, 3, 4, 5] rfl) hst h
  · replace h := h.2 hc
    refine lv_aload_n hx hb d_Tx_sameQuoted_55 rfl (lv_at hl 2 rfl) ?_
    refine va_get (D := D) (ci := 1) (C := R_Tx) (T := T_Tx) (N := 2) hx hb hts in_Tx hown hK hst.1 23 (WS_o23 g σ) rfl 0 (by decide) (hts _ gw106) (fun _ h9 => h9) rfl d_Tx_sameQuoted_56 ?_
    refine lv_iload_n hx hb d_Tx_sameQuoted_59 rfl (lv_at hl 3 rfl) ?_
    refine lv_iload hx hb d_Tx_sameQuoted_60 (lv_at hl 4 rfl) ?_
    refine lv_iadd hx hb d_Tx_sameQuoted_62 ?_
    obtain ⟨hi, h⟩ := h
    refine va_cald hx hb hK hst.1 24 1 (WS_a24 g σ) rfl hi d_Tx_sameQuoted_63 ?_
    refine lv_bipush (v := (34 : Int32)) hx hb d_Tx_sameQuoted_64 (by decide) ?_
    refine lv_icmp_ne (tgt := 73) hx hb d_Tx_sameQuoted_66 (by decide) (fun hc => ?_) (fun hc => ?_)
    · replace h := h.1 hc
      refine lv_iconst (v := (0 : Int32)) hx hb d_Tx_sameQuoted_73 (by decide) ?_
      refine lv_istore hx hb d_Tx_sameQuoted_74 hl (by decide) rfl (fun ls hl => ?_)
      have hl : lv_has ls 7 [(6, .int (0 : Int32)), (0, .ref (g.1 10)), (1, .int x1), (2, .ref (g.1 23)), (3, .int x3), (4, .int x4), (5, .int x5)] := hl
      exact j5 x1 x3 x4 x5 (0 : Int32) σ _ _ _ (lv_sub hl [1, 2, 3, 4, 5, 6, 0] rfl) hst h
    · replace h := h.2 hc
      exact j4 x1 x3 x4 x5 σ _ _ _ (lv_sub hl [0, 1, 2, 3, 4, 5] rfl) hst h
set_option maxRecDepth 100000 in
set_option maxHeartbeats 4000000 in
theorem b_Tx_sameQuoted_0_13_4 {p : Program} {l : Launch} {e : Env} {s : State} {m : MethodId} {args : Array Value} {below : List Frame} {meth : Method} {c : Code} {D : va_G} {g : Gm} {A : Nat → Prop} {post : Int32 → Sg → Prop} {F : Nat → Int32 → Int32 → Int32 → Int32 → Int32 → Sg → Prop} (C : kC p s m args meth c k_Tx_sameQuoted 7 (some .boolean) GW R_Tx D vwCl g (Zk g) A) (j5 : J_Tx_sameQuoted_0_13_5 p l e s m args below meth c D g A post F) (x1 : Int32) (x3 : Int32) (x4 : Int32) (x5 : Int32) (σ : Sg) (H : Heap) (locs : List Loc) (ls : Array Slot) (hl : lv_has ls 7 [(0, .ref (g.1 10)), (1, .int x1), (2, .ref (g.1 23)), (3, .int x3), (4, .int x4), (5, .int x5)]) (hst : Wst D vwCl (WS g) A s σ H locs) (h : wb_Tx_sameQuoted_4 0 13 F post x1 x3 x4 x5 σ) : W p l e { frames := 0, cells := 0, slots := 0, locals := 0 } s m args below meth c H locs 0 0 (MQ below (QiW D vwCl (WS g) post A) args s 0 0 A) (F0 m 69 ls []) := by
  obtain ⟨hx, hb, hr, hml, hown, hts, hlocks, hK, hZ, hA⟩ := C
  unfold wb_Tx_sameQuoted_4 at h
  refine lv_iconst (v := (1 : Int32)) hx hb d_Tx_sameQuoted_69 (by decide) ?_
  refine lv_goto (tgt := 74) hx hb d_Tx_sameQuoted_70 (by decide) ?_
  refine lv_istore hx hb d_Tx_sameQuoted_74 hl (by decide) rfl (fun ls hl => ?_)
  have hl : lv_has ls 7 [(6, .int (1 : Int32)), (0, .ref (g.1 10)), (1, .int x1), (2, .ref (g.1 23)), (3, .int x3), (4, .int x4), (5, .int x5)] := hl
  exact j5 x1 x3 x4 x5 (1 : Int32) σ _ _ _ (lv_sub hl [1, 2, 3, 4, 5, 6, 0] rfl) hst h
set_option maxRecDepth 100000 in
set_option maxHeartbeats 4000000 in
theorem b_Tx_sameQuoted_0_13_5 {p : Program} {l : Launch} {e : Env} {s : State} {m : MethodId} {args : Array Value} {below : List Frame} {meth : Method} {c : Code} {D : va_G} {g : Gm} {A : Nat → Prop} {post : Int32 → Sg → Prop} {F : Nat → Int32 → Int32 → Int32 → Int32 → Int32 → Sg → Prop} (C : kC p s m args meth c k_Tx_sameQuoted 7 (some .boolean) GW R_Tx D vwCl g (Zk g) A) (j1 : J_Tx_sameQuoted_0_13_1 p l e s m args below meth c D g A post F) (x1 : Int32) (x3 : Int32) (x4 : Int32) (x5 : Int32) (x6 : Int32) (σ : Sg) (H : Heap) (locs : List Loc) (ls : Array Slot) (hl : lv_has ls 7 [(0, .ref (g.1 10)), (1, .int x1), (2, .ref (g.1 23)), (3, .int x3), (4, .int x4), (5, .int x5), (6, .int x6)]) (hst : Wst D vwCl (WS g) A s σ H locs) (h : wb_Tx_sameQuoted_5 0 13 F post x1 x3 x4 x5 x6 σ) : W p l e { frames := 0, cells := 0, slots := 0, locals := 0 } s m args below meth c H locs 0 0 (MQ below (QiW D vwCl (WS g) post A) args s 0 0 A) (F0 m 76 ls []) := by
  obtain ⟨hx, hb, hr, hml, hown, hts, hlocks, hK, hZ, hA⟩ := C
  unfold wb_Tx_sameQuoted_5 at h
  refine lv_iload hx hb d_Tx_sameQuoted_76 (lv_at hl 5 rfl) ?_
  refine lv_if_ne (tgt := 86) hx hb d_Tx_sameQuoted_78 (by decide) (fun hc => ?_) (fun hc => ?_)
  · replace h := h.1 hc
    refine lv_iload hx hb d_Tx_sameQuoted_86 (lv_at hl 5 rfl) ?_
    refine lv_if_eq (tgt := 100) hx hb d_Tx_sameQuoted_88 (by decide) (fun hc => ?_) (fun hc => ?_)
    · replace h := h.1 hc
      refine lv_iconst (v := (0 : Int32)) hx hb d_Tx_sameQuoted_100 (by decide) ?_
      exact kw_zret hx hb hr hlocks hst h d_Tx_sameQuoted_101
    · replace h := h.2 hc
      refine lv_iload hx hb d_Tx_sameQuoted_91 (lv_at hl 6 rfl) ?_
      refine lv_if_eq (tgt := 100) hx hb d_Tx_sameQuoted_93 (by decide) (fun hc => ?_) (fun hc => ?_)
      · replace h := h.1 hc
        refine lv_iconst (v := (0 : Int32)) hx hb d_Tx_sameQuoted_100 (by decide) ?_
        exact kw_zret hx hb hr hlocks hst h d_Tx_sameQuoted_101
      · replace h := h.2 hc
        refine lv_iconst (v := (1 : Int32)) hx hb d_Tx_sameQuoted_96 (by decide) ?_
        refine lv_goto (tgt := 101) hx hb d_Tx_sameQuoted_97 (by decide) ?_
        exact kw_zret hx hb hr hlocks hst h d_Tx_sameQuoted_101
  · replace h := h.2 hc
    refine lv_iload hx hb d_Tx_sameQuoted_81 (lv_at hl 6 rfl) ?_
    refine lv_if_eq (tgt := 102) hx hb d_Tx_sameQuoted_83 (by decide) (fun hc => ?_) (fun hc => ?_)
    · replace h := h.1 hc
      refine lv_aload_n hx hb d_Tx_sameQuoted_102 rfl (lv_at hl 0 rfl) ?_
      refine va_get (D := D) (ci := 1) (C := R_Tx) (T := T_Tx) (N := 2) hx hb hts in_Tx hown hK hst.1 10 (WS_o10 g σ) rfl 0 (by decide) (hts _ gw106) (fun _ h9 => h9) rfl d_Tx_sameQuoted_103 ?_
      refine lv_iload_n hx hb d_Tx_sameQuoted_106 rfl (lv_at hl 1 rfl) ?_
      refine lv_iload hx hb d_Tx_sameQuoted_107 (lv_at hl 4 rfl) ?_
      refine lv_iadd hx hb d_Tx_sameQuoted_109 ?_
      obtain ⟨hi, h⟩ := h
      refine va_cald hx hb hK hst.1 11 1 (WS_a11 g σ) rfl hi d_Tx_sameQuoted_110 ?_
      refine lv_aload_n hx hb d_Tx_sameQuoted_111 rfl (lv_at hl 2 rfl) ?_
      refine va_get (D := D) (ci := 1) (C := R_Tx) (T := T_Tx) (N := 2) hx hb hts in_Tx hown hK hst.1 23 (WS_o23 g σ) rfl 0 (by decide) (hts _ gw106) (fun _ h9 => h9) rfl d_Tx_sameQuoted_112 ?_
      refine lv_iload_n hx hb d_Tx_sameQuoted_115 rfl (lv_at hl 3 rfl) ?_
      refine lv_iload hx hb d_Tx_sameQuoted_116 (lv_at hl 4 rfl) ?_
      refine lv_iadd hx hb d_Tx_sameQuoted_118 ?_
      obtain ⟨hi, h⟩ := h
      refine va_cald hx hb hK hst.1 24 1 (WS_a24 g σ) rfl hi d_Tx_sameQuoted_119 ?_
      refine lv_icmp_eq (tgt := 125) hx hb d_Tx_sameQuoted_120 (by decide) (fun hc => ?_) (fun hc => ?_)
      · replace h := h.1 hc
        refine lv_iinc (k := 4) (v := (x4 + 1)) hx hb d_Tx_sameQuoted_125 hl rfl (kw_inc _ (by decide)) (by decide) rfl (fun ls hl => ?_)
        have hl : lv_has ls 7 [(4, .int (x4 + 1)), (0, .ref (g.1 10)), (1, .int x1), (2, .ref (g.1 23)), (3, .int x3), (5, .int x5), (6, .int x6)] := hl
        refine lv_goto (tgt := 3) hx hb d_Tx_sameQuoted_128 (by decide) ?_
        exact j1 x1 x3 (x4 + 1) σ _ _ _ (lv_sub hl [1, 2, 3, 4, 0] rfl) hst h
      · replace h := h.2 hc
        refine lv_iconst (v := (0 : Int32)) hx hb d_Tx_sameQuoted_123 (by decide) ?_
        exact kw_zret hx hb hr hlocks hst h d_Tx_sameQuoted_124
    · replace h := h.2 hc
      refine lv_iload hx hb d_Tx_sameQuoted_86 (lv_at hl 5 rfl) ?_
      refine lv_if_eq (tgt := 100) hx hb d_Tx_sameQuoted_88 (by decide) (fun hc => ?_) (fun hc => ?_)
      · replace h := h.1 hc
        refine lv_iconst (v := (0 : Int32)) hx hb d_Tx_sameQuoted_100 (by decide) ?_
        exact kw_zret hx hb hr hlocks hst h d_Tx_sameQuoted_101
      · replace h := h.2 hc
        refine lv_iload hx hb d_Tx_sameQuoted_91 (lv_at hl 6 rfl) ?_
        refine lv_if_eq (tgt := 100) hx hb d_Tx_sameQuoted_93 (by decide) (fun hc => ?_) (fun hc => ?_)
        · replace h := h.1 hc
          refine lv_iconst (v := (0 : Int32)) hx hb d_Tx_sameQuoted_100 (by decide) ?_
          exact kw_zret hx hb hr hlocks hst h d_Tx_sameQuoted_101
        · replace h := h.2 hc
          refine lv_iconst (v := (1 : Int32)) hx hb d_Tx_sameQuoted_96 (by decide) ?_
          refine lv_goto (tgt := 101) hx hb d_Tx_sameQuoted_97 (by decide) ?_
          exact kw_zret hx hb hr hlocks hst h d_Tx_sameQuoted_101
set_option maxRecDepth 100000 in
set_option maxHeartbeats 4000000 in
theorem a_Tx_sameQuoted_0_13 {p : Program} {l : Launch} {e : Env} {s : State} {m : MethodId} {args : Array Value} {below : List Frame} {meth : Method} {c : Code} {D : va_G} {g : Gm} {A : Nat → Prop} {post : Int32 → Sg → Prop} (C : kC p s m args meth c k_Tx_sameQuoted 7 (some .boolean) GW R_Tx D vwCl g (Zk g) A) : ∀ n : Nat, J_Tx_sameQuoted_0_13_1 p l e s m args below meth c D g A post (wp_Tx_sameQuoted 0 13 post n) ∧ J_Tx_sameQuoted_0_13_2 p l e s m args below meth c D g A post (wp_Tx_sameQuoted 0 13 post n) ∧ J_Tx_sameQuoted_0_13_3 p l e s m args below meth c D g A post (wp_Tx_sameQuoted 0 13 post n) ∧ J_Tx_sameQuoted_0_13_4 p l e s m args below meth c D g A post (wp_Tx_sameQuoted 0 13 post n) ∧ J_Tx_sameQuoted_0_13_5 p l e s m args below meth c D g A post (wp_Tx_sameQuoted 0 13 post n) := by
  intro n
  induction n with
  | zero => exact ⟨fun _ _ _ _ _ _ _ _ _ h => h.elim, fun _ _ _ _ _ _ _ _ _ h => h.elim, fun _ _ _ _ _ _ _ _ _ _ h => h.elim, fun _ _ _ _ _ _ _ _ _ _ h => h.elim, fun _ _ _ _ _ _ _ _ _ _ _ h => h.elim⟩
  | succ n ih => exact ⟨fun x1 x3 x4 σ H locs ls hl hst h => b_Tx_sameQuoted_0_13_1 (F := wp_Tx_sameQuoted 0 13 post n) C (ih.2.1) (ih.2.2.1) x1 x3 x4 σ H locs ls hl hst h, fun x1 x3 x4 σ H locs ls hl hst h => b_Tx_sameQuoted_0_13_2 (F := wp_Tx_sameQuoted 0 13 post n) C (ih.2.2.1) x1 x3 x4 σ H locs ls hl hst h, fun x1 x3 x4 x5 σ H locs ls hl hst h => b_Tx_sameQuoted_0_13_3 (F := wp_Tx_sameQuoted 0 13 post n) C (ih.2.2.2.1) (ih.2.2.2.2) x1 x3 x4 x5 σ H locs ls hl hst h, fun x1 x3 x4 x5 σ H locs ls hl hst h => b_Tx_sameQuoted_0_13_4 (F := wp_Tx_sameQuoted 0 13 post n) C (ih.2.2.2.2) x1 x3 x4 x5 σ H locs ls hl hst h, fun x1 x3 x4 x5 x6 σ H locs ls hl hst h => b_Tx_sameQuoted_0_13_5 (F := wp_Tx_sameQuoted 0 13 post n) C (ih.1) x1 x3 x4 x5 x6 σ H locs ls hl hst h⟩
set_option maxRecDepth 100000 in
set_option maxHeartbeats 4000000 in
theorem c_Tx_sameQuoted_0_13 (l : Launch) {D : va_G} {g : Gm} {sz : Nat} (x1 : Int32) (x3 : Int32) {σ : Sg} {post : Int32 → Sg → Prop} (h : wq_Tx_sameQuoted 0 13 x1 x3 σ post) : Met l y_Tx_sameQuoted (.code y_Tx_sameQuoted k_Tx_sameQuoted 7 (some .boolean) :: GW) { frames := 0, cells := 0, slots := 0, locals := 0 } (PcW D vwCl (WS g) g (Zk g) σ sz [.ref (g.1 10), .int x1, .ref (g.1 23), .int x3]) (QiW D vwCl (WS g) post (va_A (WS g σ) sz)) 0 0 (va_A (WS g σ) sz) := by
  refine kw_entry (own := R_Tx) (by decide) rfl rfl (Nat.le_of_ble_eq_true rfl) ?_
  intro p e s m below meth c ls hsz C hin hl hst
  obtain ⟨n, h⟩ := h
  cases n with
  | zero => exact h.elim
  | succ n =>
    have ih := a_Tx_sameQuoted_0_13 (l := l) (e := e) (below := below) (post := post) C n
    exact b_Tx_sameQuoted_0_13_0 (F := wp_Tx_sameQuoted 0 13 post n) C (ih.1) x1 x3 σ _ _ ls hl hst h
def J_Tx_sameQuoted_13_0_1 (p : Program) (l : Launch) (e : Env) (s : State) (m : MethodId) (args : Array Value) (below : List Frame) (meth : Method) (c : Code) (D : va_G) (g : Gm) (A : Nat → Prop) (post : Int32 → Sg → Prop) (F : Nat → Int32 → Int32 → Int32 → Int32 → Int32 → Sg → Prop) : Prop := ∀ (x1 : Int32) (x3 : Int32) (x4 : Int32) (σ : Sg) (H : Heap) (locs : List Loc) (ls : Array Slot), lv_has ls 7 [(0, .ref (g.1 23)), (1, .int x1), (2, .ref (g.1 10)), (3, .int x3), (4, .int x4)] → Wst D vwCl (WS g) A s σ H locs → F 1 x1 x3 x4 0 0 σ → W p l e { frames := 0, cells := 0, slots := 0, locals := 0 } s m args below meth c H locs 0 0 (MQ below (QiW D vwCl (WS g) post A) args s 0 0 A) (F0 m 3 ls [])
def J_Tx_sameQuoted_13_0_2 (p : Program) (l : Launch) (e : Env) (s : State) (m : MethodId) (args : Array Value) (below : List Frame) (meth : Method) (c : Code) (D : va_G) (g : Gm) (A : Nat → Prop) (post : Int32 → Sg → Prop) (F : Nat → Int32 → Int32 → Int32 → Int32 → Int32 → Sg → Prop) : Prop := ∀ (x1 : Int32) (x3 : Int32) (x4 : Int32) (σ : Sg) (H : Heap) (locs : List Loc) (ls : Array Slot), lv_has ls 7 [(0, .ref (g.1 23)), (1, .int x1), (2, .ref (g.1 10)), (3, .int x3), (4, .int x4)] → Wst D vwCl (WS g) A s σ H locs → F 2 x1 x3 x4 0 0 σ → W p l e { frames := 0, cells := 0, slots := 0, locals := 0 } s m args below meth c H locs 0 0 (MQ below (QiW D vwCl (WS g) post A) args s 0 0 A) (F0 m 37 ls [])
def J_Tx_sameQuoted_13_0_3 (p : Program) (l : Launch) (e : Env) (s : State) (m : MethodId) (args : Array Value) (below : List Frame) (meth : Method) (c : Code) (D : va_G) (g : Gm) (A : Nat → Prop) (post : Int32 → Sg → Prop) (F : Nat → Int32 → Int32 → Int32 → Int32 → Int32 → Sg → Prop) : Prop := ∀ (x1 : Int32) (x3 : Int32) (x4 : Int32) (x5 : Int32) (σ : Sg) (H : Heap) (locs : List Loc) (ls : Array Slot), lv_has ls 7 [(0, .ref (g.1 23)), (1, .int x1), (2, .ref (g.1 10)), (3, .int x3), (4, .int x4), (5, .int x5)] → Wst D vwCl (WS g) A s σ H locs → F 3 x1 x3 x4 x5 0 σ → W p l e { frames := 0, cells := 0, slots := 0, locals := 0 } s m args below meth c H locs 0 0 (MQ below (QiW D vwCl (WS g) post A) args s 0 0 A) (F0 m 44 ls [])
def J_Tx_sameQuoted_13_0_4 (p : Program) (l : Launch) (e : Env) (s : State) (m : MethodId) (args : Array Value) (below : List Frame) (meth : Method) (c : Code) (D : va_G) (g : Gm) (A : Nat → Prop) (post : Int32 → Sg → Prop) (F : Nat → Int32 → Int32 → Int32 → Int32 → Int32 → Sg → Prop) : Prop := ∀ (x1 : Int32) (x3 : Int32) (x4 : Int32) (x5 : Int32) (σ : Sg) (H : Heap) (locs : List Loc) (ls : Array Slot), lv_has ls 7 [(0, .ref (g.1 23)), (1, .int x1), (2, .ref (g.1 10)), (3, .int x3), (4, .int x4), (5, .int x5)] → Wst D vwCl (WS g) A s σ H locs → F 4 x1 x3 x4 x5 0 σ → W p l e { frames := 0, cells := 0, slots := 0, locals := 0 } s m args below meth c H locs 0 0 (MQ below (QiW D vwCl (WS g) post A) args s 0 0 A) (F0 m 69 ls [])
def J_Tx_sameQuoted_13_0_5 (p : Program) (l : Launch) (e : Env) (s : State) (m : MethodId) (args : Array Value) (below : List Frame) (meth : Method) (c : Code) (D : va_G) (g : Gm) (A : Nat → Prop) (post : Int32 → Sg → Prop) (F : Nat → Int32 → Int32 → Int32 → Int32 → Int32 → Sg → Prop) : Prop := ∀ (x1 : Int32) (x3 : Int32) (x4 : Int32) (x5 : Int32) (x6 : Int32) (σ : Sg) (H : Heap) (locs : List Loc) (ls : Array Slot), lv_has ls 7 [(0, .ref (g.1 23)), (1, .int x1), (2, .ref (g.1 10)), (3, .int x3), (4, .int x4), (5, .int x5), (6, .int x6)] → Wst D vwCl (WS g) A s σ H locs → F 5 x1 x3 x4 x5 x6 σ → W p l e { frames := 0, cells := 0, slots := 0, locals := 0 } s m args below meth c H locs 0 0 (MQ below (QiW D vwCl (WS g) post A) args s 0 0 A) (F0 m 76 ls [])
set_option maxRecDepth 100000 in
set_option maxHeartbeats 4000000 in
theorem b_Tx_sameQuoted_13_0_0 {p : Program} {l : Launch} {e : Env} {s : State} {m : MethodId} {args : Array Value} {below : List Frame} {meth : Method} {c : Code} {D : va_G} {g : Gm} {A : Nat → Prop} {post : Int32 → Sg → Prop} {F : Nat → Int32 → Int32 → Int32 → Int32 → Int32 → Sg → Prop} (C : kC p s m args meth c k_Tx_sameQuoted 7 (some .boolean) GW R_Tx D vwCl g (Zk g) A) (j1 : J_Tx_sameQuoted_13_0_1 p l e s m args below meth c D g A post F) (x1 : Int32) (x3 : Int32) (σ : Sg) (H : Heap) (locs : List Loc) (ls : Array Slot) (hl : lv_has ls 7 [(0, .ref (g.1 23)), (1, .int x1), (2, .ref (g.1 10)), (3, .int x3)]) (hst : Wst D vwCl (WS g) A s σ H locs) (h : wb_Tx_sameQuoted_0 13 0 F post x1 x3 σ) : W p l e { frames := 0, cells := 0, slots := 0, locals := 0 } s m args below meth c H locs 0 0 (MQ below (QiW D vwCl (WS g) post A) args s 0 0 A) (F0 m 0 ls []) := by
  obtain ⟨hx, hb, hr, hml, hown, hts, hlocks, hK, hZ, hA⟩ := C
  unfold wb_Tx_sameQuoted_0 at h
  refine lv_iconst (v := (0 : Int32)) hx hb d_Tx_sameQuoted_0 (by decide) ?_
  refine lv_istore hx hb d_Tx_sameQuoted_1 hl (by decide) rfl (fun ls hl => ?_)
  have hl : lv_has ls 7 [(4, .int (0 : Int32)), (0, .ref (g.1 23)), (1, .int x1), (2, .ref (g.1 10)), (3, .int x3)] := hl
  exact j1 x1 x3 (0 : Int32) σ _ _ _ (lv_sub hl [1, 2, 3, 4, 0] rfl) hst h
set_option maxRecDepth 100000 in
set_option maxHeartbeats 4000000 in
theorem b_Tx_sameQuoted_13_0_1 {p : Program} {l : Launch} {e : Env} {s : State} {m : MethodId} {args : Array Value} {below : List Frame} {meth : Method} {c : Code} {D : va_G} {g : Gm} {A : Nat → Prop} {post : Int32 → Sg → Prop} {F : Nat → Int32 → Int32 → Int32 → Int32 → Int32 → Sg → Prop} (C : kC p s m args meth c k_Tx_sameQuoted 7 (some .boolean) GW R_Tx D vwCl g (Zk g) A) (j2 : J_Tx_sameQuoted_13_0_2 p l e s m args below meth c D g A post F) (j3 : J_Tx_sameQuoted_13_0_3 p l e s m args below meth c D g A post F) (x1 : Int32) (x3 : Int32) (x4 : Int32) (σ : Sg) (H : Heap) (locs : List Loc) (ls : Array Slot) (hl : lv_has ls 7 [(0, .ref (g.1 23)), (1, .int x1), (2, .ref (g.1 10)), (3, .int x3), (4, .int x4)]) (hst : Wst D vwCl (WS g) A s σ H locs) (h : wb_Tx_sameQuoted_1 13 0 F post x1 x3 x4 σ) : W p l e { frames := 0, cells := 0, slots := 0, locals := 0 } s m args below meth c H locs 0 0 (MQ below (QiW D vwCl (WS g) post A) args s 0 0 A) (F0 m 3 ls []) := by
  obtain ⟨hx, hb, hr, hml, hown, hts, hlocks, hK, hZ, hA⟩ := C
  unfold wb_Tx_sameQuoted_1 at h
  refine lv_iload hx hb d_Tx_sameQuoted_3 (lv_at hl 4 rfl) ?_
  refine lv_aload_n hx hb d_Tx_sameQuoted_5 rfl (lv_at hl 0 rfl) ?_
  refine va_get (D := D) (ci := 1) (C := R_Tx) (T := T_Tx) (N := 2) hx hb hts in_Tx hown hK hst.1 23 (WS_o23 g σ) rfl 1 (by decide) (hts _ gw112) (fun _ h9 => h9) rfl d_Tx_sameQuoted_6 ?_
  refine lv_icmp_gt (tgt := 131) hx hb d_Tx_sameQuoted_9 (by decide) (fun hc => ?_) (fun hc => ?_)
  · replace h := h.1 hc
    refine lv_iconst (v := (0 : Int32)) hx hb d_Tx_sameQuoted_131 (by decide) ?_
    exact kw_zret hx hb hr hlocks hst h d_Tx_sameQuoted_132
  · replace h := h.2 hc
    refine lv_iload_n hx hb d_Tx_sameQuoted_12 rfl (lv_at hl 1 rfl) ?_
    refine lv_iload hx hb d_Tx_sameQuoted_13 (lv_at hl 4 rfl) ?_
    refine lv_iadd hx hb d_Tx_sameQuoted_15 ?_
    refine lv_aload_n hx hb d_Tx_sameQuoted_16 rfl (lv_at hl 0 rfl) ?_
    refine va_get (D := D) (ci := 1) (C := R_Tx) (T := T_Tx) (N := 2) hx hb hts in_Tx hown hK hst.1 23 (WS_o23 g σ) rfl 1 (by decide) (hts _ gw112) (fun _ h9 => h9) rfl d_Tx_sameQuoted_17 ?_
    refine lv_icmp_ge (tgt := 37) hx hb d_Tx_sameQuoted_20 (by decide) (fun hc => ?_) (fun hc => ?_)
    · replace h := h.1 hc
      exact j2 x1 x3 x4 σ _ _ _ (lv_sub hl [0, 1, 2, 3, 4] rfl) hst h
    · replace h := h.2 hc
      refine lv_aload_n hx hb d_Tx_sameQuoted_23 rfl (lv_at hl 0 rfl) ?_
      refine va_get (D := D) (ci := 1) (C := R_Tx) (T := T_Tx) (N := 2) hx hb hts in_Tx hown hK hst.1 23 (WS_o23 g σ) rfl 0 (by decide) (hts _ gw106) (fun _ h9 => h9) rfl d_Tx_sameQuoted_24 ?_
      refine lv_iload_n hx hb d_Tx_sameQuoted_27 rfl (lv_at hl 1 rfl) ?_
      refine lv_iload hx hb d_Tx_sameQuoted_28 (lv_at hl 4 rfl) ?_
      refine lv_iadd hx hb d_Tx_sameQuoted_30 ?_
      obtain ⟨hi, h⟩ := h
      refine va_cald hx hb hK hst.1 24 1 (WS_a24 g σ) rfl hi d_Tx_sameQuoted_31 ?_
      refine lv_bipush (v := (34 : Int32)) hx hb d_Tx_sameQuoted_32 (by decide) ?_
      refine lv_icmp_ne (tgt := 41) hx hb d_Tx_sameQuoted_34 (by decide) (fun hc => ?_) (fun hc => ?_)
      · replace h := h.1 hc
        refine lv_iconst (v := (0 : Int32)) hx hb d_Tx_sameQuoted_41 (by decide) ?_
        refine lv_istore hx hb d_Tx_sameQuoted_42 hl (by decide) rfl (fun ls hl => ?_)
        have hl : lv_has ls 7 [(5, .int (0 : Int32)), (0, .ref (g.1 23)), (1, .int x1), (2, .ref (g.1 10)), (3, .int x3), (4, .int x4)] := hl
        exact j3 x1 x3 x4 (0 : Int32) σ _ _ _ (lv_sub hl [1, 2, 3, 4, 5, 0] rfl) hst h
      · replace h := h.2 hc
        exact j2 x1 x3 x4 σ _ _ _ (lv_sub hl [0, 1, 2, 3, 4] rfl) hst h
set_option maxRecDepth 100000 in
set_option maxHeartbeats 4000000 in
theorem b_Tx_sameQuoted_13_0_2 {p : Program} {l : Launch} {e : Env} {s : State} {m : MethodId} {args : Array Value} {below : List Frame} {meth : Method} {c : Code} {D : va_G} {g : Gm} {A : Nat → Prop} {post : Int32 → Sg → Prop} {F : Nat → Int32 → Int32 → Int32 → Int32 → Int32 → Sg → Prop} (C : kC p s m args meth c k_Tx_sameQuoted 7 (some .boolean) GW R_Tx D vwCl g (Zk g) A) (j3 : J_Tx_sameQuoted_13_0_3 p l e s m args below meth c D g A post F) (x1 : Int32) (x3 : Int32) (x4 : Int32) (σ : Sg) (H : Heap) (locs : List Loc) (ls : Array Slot) (hl : lv_has ls 7 [(0, .ref (g.1 23)), (1, .int x1), (2, .ref (g.1 10)), (3, .int x3), (4, .int x4)]) (hst : Wst D vwCl (WS g) A s σ H locs) (h : wb_Tx_sameQuoted_2 13 0 F post x1 x3 x4 σ) : W p l e { frames := 0, cells := 0, slots := 0, locals := 0 } s m args below meth c H locs 0 0 (MQ below (QiW D vwCl (WS g) post A) args s 0 0 A) (F0 m 37 ls []) := by
  obtain ⟨hx, hb, hr, hml, hown, hts, hlocks, hK, hZ, hA⟩ := C
  unfold wb_Tx_sameQuoted_2 at h
  refine lv_iconst (v := (1 : Int32)) hx hb d_Tx_sameQuoted_37 (by decide) ?_
  refine lv_goto (tgt := 42) hx hb d_Tx_sameQuoted_38 (by decide) ?_
  refine lv_istore hx hb d_Tx_sameQuoted_42 hl (by decide) rfl (fun ls hl => ?_)
  have hl : lv_has ls 7 [(5, .int (1 : Int32)), (0, .ref (g.1 23)), (1, .int x1), (2, .ref (g.1 10)), (3, .int x3), (4, .int x4)] := hl
  exact j3 x1 x3 x4 (1 : Int32) σ _ _ _ (lv_sub hl [1, 2, 3, 4, 5, 0] rfl) hst h
set_option maxRecDepth 100000 in
set_option maxHeartbeats 4000000 in
theorem b_Tx_sameQuoted_13_0_3 {p : Program} {l : Launch} {e : Env} {s : State} {m : MethodId} {args : Array Value} {below : List Frame} {meth : Method} {c : Code} {D : va_G} {g : Gm} {A : Nat → Prop} {post : Int32 → Sg → Prop} {F : Nat → Int32 → Int32 → Int32 → Int32 → Int32 → Sg → Prop} (C : kC p s m args meth c k_Tx_sameQuoted 7 (some .boolean) GW R_Tx D vwCl g (Zk g) A) (j4 : J_Tx_sameQuoted_13_0_4 p l e s m args below meth c D g A post F) (j5 : J_Tx_sameQuoted_13_0_5 p l e s m args below meth c D g A post F) (x1 : Int32) (x3 : Int32) (x4 : Int32) (x5 : Int32) (σ : Sg) (H : Heap) (locs : List Loc) (ls : Array Slot) (hl : lv_has ls 7 [(0, .ref (g.1 23)), (1, .int x1), (2, .ref (g.1 10)), (3, .int x3), (4, .int x4), (5, .int x5)]) (hst : Wst D vwCl (WS g) A s σ H locs) (h : wb_Tx_sameQuoted_3 13 0 F post x1 x3 x4 x5 σ) : W p l e { frames := 0, cells := 0, slots := 0, locals := 0 } s m args below meth c H locs 0 0 (MQ below (QiW D vwCl (WS g) post A) args s 0 0 A) (F0 m 44 ls []) := by
  obtain ⟨hx, hb, hr, hml, hown, hts, hlocks, hK, hZ, hA⟩ := C
  unfold wb_Tx_sameQuoted_3 at h
  refine lv_iload_n hx hb d_Tx_sameQuoted_44 rfl (lv_at hl 3 rfl) ?_
  refine lv_iload hx hb d_Tx_sameQuoted_45 (lv_at hl 4 rfl) ?_
  refine lv_iadd hx hb d_Tx_sameQuoted_47 ?_
  refine lv_aload_n hx hb d_Tx_sameQuoted_48 rfl (lv_at hl 2 rfl) ?_
  refine va_get (D := D) (ci := 1) (C := R_Tx) (T := T_Tx) (N := 2) hx hb hts in_Tx hown hK hst.1 10 (WS_o10 g σ) rfl 1 (by decide) (hts _ gw112) (fun _ h9 => h9) rfl d_Tx_sameQuoted_49 ?_
  refine lv_icmp_ge (tgt := 69) hx hb d_Tx_sameQuoted_52 (by decide) (fun hc => ?_) (fun hc => ?_)
  · replace h := h.1 hc
    exact j4 x1 x3 x4 x5 σ _ _ _ (lv_sub hl [0, 1, 2, 3, 4, 5] rfl) hst h
  · replace h := h.2 hc
    refine lv_aload_n hx hb d_Tx_sameQuoted_55 rfl (lv_at hl 2 rfl) ?_
    refine va_get (D := D) (ci := 1) (C := R_Tx) (T := T_Tx) (N := 2) hx hb hts in_Tx hown hK hst.1 10 (WS_o10 g σ) rfl 0 (by decide) (hts _ gw106) (fun _ h9 => h9) rfl d_Tx_sameQuoted_56 ?_
    refine lv_iload_n hx hb d_Tx_sameQuoted_59 rfl (lv_at hl 3 rfl) ?_
    refine lv_iload hx hb d_Tx_sameQuoted_60 (lv_at hl 4 rfl) ?_
    refine lv_iadd hx hb d_Tx_sameQuoted_62 ?_
    obtain ⟨hi, h⟩ := h
    refine va_cald hx hb hK hst.1 11 1 (WS_a11 g σ) rfl hi d_Tx_sameQuoted_63 ?_
    refine lv_bipush (v := (34 : Int32)) hx hb d_Tx_sameQuoted_64 (by decide) ?_
    refine lv_icmp_ne (tgt := 73) hx hb d_Tx_sameQuoted_66 (by decide) (fun hc => ?_) (fun hc => ?_)
    · replace h := h.1 hc
      refine lv_iconst (v := (0 : Int32)) hx hb d_Tx_sameQuoted_73 (by decide) ?_
      refine lv_istore hx hb d_Tx_sameQuoted_74 hl (by decide) rfl (fun ls hl => ?_)
      have hl : lv_has ls 7 [(6, .int (0 : Int32)), (0, .ref (g.1 23)), (1, .int x1), (2, .ref (g.1 10)), (3, .int x3), (4, .int x4), (5, .int x5)] := hl
      exact j5 x1 x3 x4 x5 (0 : Int32) σ _ _ _ (lv_sub hl [1, 2, 3, 4, 5, 6, 0] rfl) hst h
    · replace h := h.2 hc
      exact j4 x1 x3 x4 x5 σ _ _ _ (lv_sub hl [0, 1, 2, 3, 4, 5] rfl) hst h
set_option maxRecDepth 100000 in
set_option maxHeartbeats 4000000 in
theorem b_Tx_sameQuoted_13_0_4 {p : Program} {l : Launch} {e : Env} {s : State} {m : MethodId} {args : Array Value} {below : List Frame} {meth : Method} {c : Code} {D : va_G} {g : Gm} {A : Nat → Prop} {post : Int32 → Sg → Prop} {F : Nat → Int32 → Int32 → Int32 → Int32 → Int32 → Sg → Prop} (C : kC p s m args meth c k_Tx_sameQuoted 7 (some .boolean) GW R_Tx D vwCl g (Zk g) A) (j5 : J_Tx_sameQuoted_13_0_5 p l e s m args below meth c D g A post F) (x1 : Int32) (x3 : Int32) (x4 : Int32) (x5 : Int32) (σ : Sg) (H : Heap) (locs : List Loc) (ls : Array Slot) (hl : lv_has ls 7 [(0, .ref (g.1 23)), (1, .int x1), (2, .ref (g.1 10)), (3, .int x3), (4, .int x4), (5, .int x5)]) (hst : Wst D vwCl (WS g) A s σ H locs) (h : wb_Tx_sameQuoted_4 13 0 F post x1 x3 x4 x5 σ) : W p l e { frames := 0, cells := 0, slots := 0, locals := 0 } s m args below meth c H locs 0 0 (MQ below (QiW D vwCl (WS g) post A) args s 0 0 A) (F0 m 69 ls []) := by
  obtain ⟨hx, hb, hr, hml, hown, hts, hlocks, hK, hZ, hA⟩ := C
  unfold wb_Tx_sameQuoted_4 at h
  refine lv_iconst (v := (1 : Int32)) hx hb d_Tx_sameQuoted_69 (by decide) ?_
  refine lv_goto (tgt := 74) hx hb d_Tx_sameQuoted_70 (by decide) ?_
  refine lv_istore hx hb d_Tx_sameQuoted_74 hl (by decide) rfl (fun ls hl => ?_)
  have hl : lv_has ls 7 [(6, .int (1 : Int32)), (0, .ref (g.1 23)), (1, .int x1), (2, .ref (g.1 10)), (3, .int x3), (4, .int x4), (5, .int x5)] := hl
  exact j5 x1 x3 x4 x5 (1 : Int32) σ _ _ _ (lv_sub hl [1, 2, 3, 4, 5, 6, 0] rfl) hst h
set_option maxRecDepth 100000 in
set_option maxHeartbeats 4000000 in
theorem b_Tx_sameQuoted_13_0_5 {p : Program} {l : Launch} {e : Env} {s : State} {m : MethodId} {args : Array Value} {below : List Frame} {meth : Method} {c : Code} {D : va_G} {g : Gm} {A : Nat → Prop} {post : Int32 → Sg → Prop} {F : Nat → Int32 → Int32 → Int32 → Int32 → Int32 → Sg → Prop} (C : kC p s m args meth c k_Tx_sameQuoted 7 (some .boolean) GW R_Tx D vwCl g (Zk g) A) (j1 : J_Tx_sameQuoted_13_0_1 p l e s m args below meth c D g A post F) (x1 : Int32) (x3 : Int32) (x4 : Int32) (x5 : Int32) (x6 : Int32) (σ : Sg) (H : Heap) (locs : List Loc) (ls : Array Slot) (hl : lv_has ls 7 [(0, .ref (g.1 23)), (1, .int x1), (2, .ref (g.1 10)), (3, .int x3), (4, .int x4), (5, .int x5), (6, .int x6)]) (hst : Wst D vwCl (WS g) A s σ H locs) (h : wb_Tx_sameQuoted_5 13 0 F post x1 x3 x4 x5 x6 σ) : W p l e { frames := 0, cells := 0, slots := 0, locals := 0 } s m args below meth c H locs 0 0 (MQ below (QiW D vwCl (WS g) post A) args s 0 0 A) (F0 m 76 ls []) := by
  obtain ⟨hx, hb, hr, hml, hown, hts, hlocks, hK, hZ, hA⟩ := C
  unfold wb_Tx_sameQuoted_5 at h
  refine lv_iload hx hb d_Tx_sameQuoted_76 (lv_at hl 5 rfl) ?_
  refine lv_if_ne (tgt := 86) hx hb d_Tx_sameQuoted_78 (by decide) (fun hc => ?_) (fun hc => ?_)
  · replace h := h.1 hc
    refine lv_iload hx hb d_Tx_sameQuoted_86 (lv_at hl 5 rfl) ?_
    refine lv_if_eq (tgt := 100) hx hb d_Tx_sameQuoted_88 (by decide) (fun hc => ?_) (fun hc => ?_)
    · replace h := h.1 hc
      refine lv_iconst (v := (0 : Int32)) hx hb d_Tx_sameQuoted_100 (by decide) ?_
      exact kw_zret hx hb hr hlocks hst h d_Tx_sameQuoted_101
    · replace h := h.2 hc
      refine lv_iload hx hb d_Tx_sameQuoted_91 (lv_at hl 6 rfl) ?_
      refine lv_if_eq (tgt := 100) hx hb d_Tx_sameQuoted_93 (by decide) (fun hc => ?_) (fun hc => ?_)
      · replace h := h.1 hc
        refine lv_iconst (v := (0 : Int32)) hx hb d_Tx_sameQuoted_100 (by decide) ?_
        exact kw_zret hx hb hr hlocks hst h d_Tx_sameQuoted_101
      · replace h := h.2 hc
        refine lv_iconst (v := (1 : Int32)) hx hb d_Tx_sameQuoted_96 (by decide) ?_
        refine lv_goto (tgt := 101) hx hb d_Tx_sameQuoted_97 (by decide) ?_
        exact kw_zret hx hb hr hlocks hst h d_Tx_sameQuoted_101
  · replace h := h.2 hc
    refine lv_iload hx hb d_Tx_sameQuoted_81 (lv_at hl 6 rfl) ?_
    refine lv_if_eq (tgt := 102) hx hb d_Tx_sameQuoted_83 (by decide) (fun hc => ?_) (fun hc => ?_)
    · replace h := h.1 hc
      refine lv_aload_n hx hb d_Tx_sameQuoted_102 rfl (lv_at hl 0 rfl) ?_
      refine va_get (D := D) (ci := 1) (C := R_Tx) (T := T_Tx) (N := 2) hx hb hts in_Tx hown hK hst.1 23 (WS_o23 g σ) rfl 0 (by decide) (hts _ gw106) (fun _ h9 => h9) rfl d_Tx_sameQuoted_103 ?_
      refine lv_iload_n hx hb d_Tx_sameQuoted_106 rfl (lv_at hl 1 rfl) ?_
      refine lv_iload hx hb d_Tx_sameQuoted_107 (lv_at hl 4 rfl) ?_
      refine lv_iadd hx hb d_Tx_sameQuoted_109 ?_
      obtain ⟨hi, h⟩ := h
      refine va_cald hx hb hK hst.1 24 1 (WS_a24 g σ) rfl hi d_Tx_sameQuoted_110 ?_
      refine lv_aload_n hx hb d_Tx_sameQuoted_111 rfl (lv_at hl 2 rfl) ?_
      refine va_get (D := D) (ci := 1) (C := R_Tx) (T := T_Tx) (N := 2) hx hb hts in_Tx hown hK hst.1 10 (WS_o10 g σ) rfl 0 (by decide) (hts _ gw106) (fun _ h9 => h9) rfl d_Tx_sameQuoted_112 ?_
      refine lv_iload_n hx hb d_Tx_sameQuoted_115 rfl (lv_at hl 3 rfl) ?_
      refine lv_iload hx hb d_Tx_sameQuoted_116 (lv_at hl 4 rfl) ?_
      refine lv_iadd hx hb d_Tx_sameQuoted_118 ?_
      obtain ⟨hi, h⟩ := h
      refine va_cald hx hb hK hst.1 11 1 (WS_a11 g σ) rfl hi d_Tx_sameQuoted_119 ?_
      refine lv_icmp_eq (tgt := 125) hx hb d_Tx_sameQuoted_120 (by decide) (fun hc => ?_) (fun hc => ?_)
      · replace h := h.1 hc
        refine lv_iinc (k := 4) (v := (x4 + 1)) hx hb d_Tx_sameQuoted_125 hl rfl (kw_inc _ (by decide)) (by decide) rfl (fun ls hl => ?_)
        have hl : lv_has ls 7 [(4, .int (x4 + 1)), (0, .ref (g.1 23)), (1, .int x1), (2, .ref (g.1 10)), (3, .int x3), (5, .int x5), (6, .int x6)] := hl
        refine lv_goto (tgt := 3) hx hb d_Tx_sameQuoted_128 (by decide) ?_
        exact j1 x1 x3 (x4 + 1) σ _ _ _ (lv_sub hl [1, 2, 3, 4, 0] rfl) hst h
      · replace h := h.2 hc
        refine lv_iconst (v := (0 : Int32)) hx hb d_Tx_sameQuoted_123 (by decide) ?_
        exact kw_zret hx hb hr hlocks hst h d_Tx_sameQuoted_124
    · replace h := h.2 hc
      refine lv_iload hx hb d_Tx_sameQuoted_86 (lv_at hl 5 rfl) ?_
      refine lv_if_eq (tgt := 100) hx hb d_Tx_sameQuoted_88 (by decide) (fun hc => ?_) (fun hc => ?_)
      · replace h := h.1 hc
        refine lv_iconst (v := (0 : Int32)) hx hb d_Tx_sameQuoted_100 (by decide) ?_
        exact kw_zret hx hb hr hlocks hst h d_Tx_sameQuoted_101
      · replace h := h.2 hc
        refine lv_iload hx hb d_Tx_sameQuoted_91 (lv_at hl 6 rfl) ?_
        refine lv_if_eq (tgt := 100) hx hb d_Tx_sameQuoted_93 (by decide) (fun hc => ?_) (fun hc => ?_)
        · replace h := h.1 hc
          refine lv_iconst (v := (0 : Int32)) hx hb d_Tx_sameQuoted_100 (by decide) ?_
          exact kw_zret hx hb hr hlocks hst h d_Tx_sameQuoted_101
        · replace h := h.2 hc
          refine lv_iconst (v := (1 : Int32)) hx hb d_Tx_sameQuoted_96 (by decide) ?_
          refine lv_goto (tgt := 101) hx hb d_Tx_sameQuoted_97 (by decide) ?_
          exact kw_zret hx hb hr hlocks hst h d_Tx_sameQuoted_101
set_option maxRecDepth 100000 in
set_option maxHeartbeats 4000000 in
theorem a_Tx_sameQuoted_13_0 {p : Program} {l : Launch} {e : Env} {s : State} {m : MethodId} {args : Array Value} {below : List Frame} {meth : Method} {c : Code} {D : va_G} {g : Gm} {A : Nat → Prop} {post : Int32 → Sg → Prop} (C : kC p s m args meth c k_Tx_sameQuoted 7 (some .boolean) GW R_Tx D vwCl g (Zk g) A) : ∀ n : Nat, J_Tx_sameQuoted_13_0_1 p l e s m args below meth c D g A post (wp_Tx_sameQuoted 13 0 post n) ∧ J_Tx_sameQuoted_13_0_2 p l e s m args below meth c D g A post (wp_Tx_sameQuoted 13 0 post n) ∧ J_Tx_sameQuoted_13_0_3 p l e s m args below meth c D g A post (wp_Tx_sameQuoted 13 0 post n) ∧ J_Tx_sameQuoted_13_0_4 p l e s m args below meth c D g A post (wp_Tx_sameQuoted 13 0 post n) ∧ J_Tx_sameQuoted_13_0_5 p l e s m args below meth c D g A post (wp_Tx_sameQuoted 13 0 post n) := by
  intro n
  induction n with
  | zero => exact ⟨fun _ _ _ _ _ _ _ _ _ h => h.elim, fun _ _ _ _ _ _ _ _ _ h => h.elim, fun _ _ _ _ _ _ _ _ _ _ h => h.elim, fun _ _ _ _ _ _ _ _ _ _ h => h.elim, fun _ _ _ _ _ _ _ _ _ _ _ h => h.elim⟩
  | succ n ih => exact ⟨fun x1 x3 x4 σ H locs ls hl hst h => b_Tx_sameQuoted_13_0_1 (F := wp_Tx_sameQuoted 13 0 post n) C (ih.2.1) (ih.2.2.1) x1 x3 x4 σ H locs ls hl hst h, fun x1 x3 x4 σ H locs ls hl hst h => b_Tx_sameQuoted_13_0_2 (F := wp_Tx_sameQuoted 13 0 post n) C (ih.2.2.1) x1 x3 x4 σ H locs ls hl hst h, fun x1 x3 x4 x5 σ H locs ls hl hst h => b_Tx_sameQuoted_13_0_3 (F := wp_Tx_sameQuoted 13 0 post n) C (ih.2.2.2.1) (ih.2.2.2.2) x1 x3 x4 x5 σ H locs ls hl hst h, fun x1 x3 x4 x5 σ H locs ls hl hst h => b_Tx_sameQuoted_13_0_4 (F := wp_Tx_sameQuoted 13 0 post n) C (ih.2.2.2.2) x1 x3 x4 x5 σ H locs ls hl hst h, fun x1 x3 x4 x5 x6 σ H locs ls hl hst h => b_Tx_sameQuoted_13_0_5 (F := wp_Tx_sameQuoted 13 0 post n) C (ih.1) x1 x3 x4 x5 x6 σ H locs ls hl hst h⟩
set_option maxRecDepth 100000 in
set_option maxHeartbeats 4000000 in
theorem c_Tx_sameQuoted_13_0 (l : Launch) {D : va_G} {g : Gm} {sz : Nat} (x1 : Int32) (x3 : Int32) {σ : Sg} {post : Int32 → Sg → Prop} (h : wq_Tx_sameQuoted 13 0 x1 x3 σ post) : Met l y_Tx_sameQuoted (.code y_Tx_sameQuoted k_Tx_sameQuoted 7 (some .boolean) :: GW) { frames := 0, cells := 0, slots := 0, locals := 0 } (PcW D vwCl (WS g) g (Zk g) σ sz [.ref (g.1 23), .int x1, .ref (g.1 10), .int x3]) (QiW D vwCl (WS g) post (va_A (WS g σ) sz)) 0 0 (va_A (WS g σ) sz) := by
  refine kw_entry (own := R_Tx) (by decide) rfl rfl (Nat.le_of_ble_eq_true rfl) ?_
  intro p e s m below meth c ls hsz C hin hl hst
  obtain ⟨n, h⟩ := h
  cases n with
  | zero => exact h.elim
  | succ n =>
    have ih := a_Tx_sameQuoted_13_0 (l := l) (e := e) (below := below) (post := post) C n
    exact b_Tx_sameQuoted_13_0_0 (F := wp_Tx_sameQuoted 13 0 post n) C (ih.1) x1 x3 σ _ _ ls hl hst h
def J_Tx_sameQuoted_13_13_1 (p : Program) (l : Launch) (e : Env) (s : State) (m : MethodId) (args : Array Value) (below : List Frame) (meth : Method) (c : Code) (D : va_G) (g : Gm) (A : Nat → Prop) (post : Int32 → Sg → Prop) (F : Nat → Int32 → Int32 → Int32 → Int32 → Int32 → Sg → Prop) : Prop := ∀ (x1 : Int32) (x3 : Int32) (x4 : Int32) (σ : Sg) (H : Heap) (locs : List Loc) (ls : Array Slot), lv_has ls 7 [(0, .ref (g.1 23)), (1, .int x1), (2, .ref (g.1 23)), (3, .int x3), (4, .int x4)] → Wst D vwCl (WS g) A s σ H locs → F 1 x1 x3 x4 0 0 σ → W p l e { frames := 0, cells := 0, slots := 0, locals := 0 } s m args below meth c H locs 0 0 (MQ below (QiW D vwCl (WS g) post A) args s 0 0 A) (F0 m 3 ls [])
def J_Tx_sameQuoted_13_13_2 (p : Program) (l : Launch) (e : Env) (s : State) (m : MethodId) (args : Array Value) (below : List Frame) (meth : Method) (c : Code) (D : va_G) (g : Gm) (A : Nat → Prop) (post : Int32 → Sg → Prop) (F : Nat → Int32 → Int32 → Int32 → Int32 → Int32 → Sg → Prop) : Prop := ∀ (x1 : Int32) (x3 : Int32) (x4 : Int32) (σ : Sg) (H : Heap) (locs : List Loc) (ls : Array Slot), lv_has ls 7 [(0, .ref (g.1 23)), (1, .int x1), (2, .ref (g.1 23)), (3, .int x3), (4, .int x4)] → Wst D vwCl (WS g) A s σ H locs → F 2 x1 x3 x4 0 0 σ → W p l e { frames := 0, cells := 0, slots := 0, locals := 0 } s m args below meth c H locs 0 0 (MQ below (QiW D vwCl (WS g) post A) args s 0 0 A) (F0 m 37 ls [])
def J_Tx_sameQuoted_13_13_3 (p : Program) (l : Launch) (e : Env) (s : State) (m : MethodId) (args : Array Value) (below : List Frame) (meth : Method) (c : Code) (D : va_G) (g : Gm) (A : Nat → Prop) (post : Int32 → Sg → Prop) (F : Nat → Int32 → Int32 → Int32 → Int32 → Int32 → Sg → Prop) : Prop := ∀ (x1 : Int32) (x3 : Int32) (x4 : Int32) (x5 : Int32) (σ : Sg) (H : Heap) (locs : List Loc) (ls : Array Slot), lv_has ls 7 [(0, .ref (g.1 23)), (1, .int x1), (2, .ref (g.1 23)), (3, .int x3), (4, .int x4), (5, .int x5)] → Wst D vwCl (WS g) A s σ H locs → F 3 x1 x3 x4 x5 0 σ → W p l e { frames := 0, cells := 0, slots := 0, locals := 0 } s m args below meth c H locs 0 0 (MQ below (QiW D vwCl (WS g) post A) args s 0 0 A) (F0 m 44 ls [])
def J_Tx_sameQuoted_13_13_4 (p : Program) (l : Launch) (e : Env) (s : State) (m : MethodId) (args : Array Value) (below : List Frame) (meth : Method) (c : Code) (D : va_G) (g : Gm) (A : Nat → Prop) (post : Int32 → Sg → Prop) (F : Nat → Int32 → Int32 → Int32 → Int32 → Int32 → Sg → Prop) : Prop := ∀ (x1 : Int32) (x3 : Int32) (x4 : Int32) (x5 : Int32) (σ : Sg) (H : Heap) (locs : List Loc) (ls : Array Slot), lv_has ls 7 [(0, .ref (g.1 23)), (1, .int x1), (2, .ref (g.1 23)), (3, .int x3), (4, .int x4), (5, .int x5)] → Wst D vwCl (WS g) A s σ H locs → F 4 x1 x3 x4 x5 0 σ → W p l e { frames := 0, cells := 0, slots := 0, locals := 0 } s m args below meth c H locs 0 0 (MQ below (QiW D vwCl (WS g) post A) args s 0 0 A) (F0 m 69 ls [])
def J_Tx_sameQuoted_13_13_5 (p : Program) (l : Launch) (e : Env) (s : State) (m : MethodId) (args : Array Value) (below : List Frame) (meth : Method) (c : Code) (D : va_G) (g : Gm) (A : Nat → Prop) (post : Int32 → Sg → Prop) (F : Nat → Int32 → Int32 → Int32 → Int32 → Int32 → Sg → Prop) : Prop := ∀ (x1 : Int32) (x3 : Int32) (x4 : Int32) (x5 : Int32) (x6 : Int32) (σ : Sg) (H : Heap) (locs : List Loc) (ls : Array Slot), lv_has ls 7 [(0, .ref (g.1 23)), (1, .int x1), (2, .ref (g.1 23)), (3, .int x3), (4, .int x4), (5, .int x5), (6, .int x6)] → Wst D vwCl (WS g) A s σ H locs → F 5 x1 x3 x4 x5 x6 σ → W p l e { frames := 0, cells := 0, slots := 0, locals := 0 } s m args below meth c H locs 0 0 (MQ below (QiW D vwCl (WS g) post A) args s 0 0 A) (F0 m 76 ls [])
set_option maxRecDepth 100000 in
set_option maxHeartbeats 4000000 in
theorem b_Tx_sameQuoted_13_13_0 {p : Program} {l : Launch} {e : Env} {s : State} {m : MethodId} {args : Array Value} {below : List Frame} {meth : Method} {c : Code} {D : va_G} {g : Gm} {A : Nat → Prop} {post : Int32 → Sg → Prop} {F : Nat → Int32 → Int32 → Int32 → Int32 → Int32 → Sg → Prop} (C : kC p s m args meth c k_Tx_sameQuoted 7 (some .boolean) GW R_Tx D vwCl g (Zk g) A) (j1 : J_Tx_sameQuoted_13_13_1 p l e s m args below meth c D g A post F) (x1 : Int32) (x3 : Int32) (σ : Sg) (H : Heap) (locs : List Loc) (ls : Array Slot) (hl : lv_has ls 7 [(0, .ref (g.1 23)), (1, .int x1), (2, .ref (g.1 23)), (3, .int x3)]) (hst : Wst D vwCl (WS g) A s σ H locs) (h : wb_Tx_sameQuoted_0 13 13 F post x1 x3 σ) : W p l e { frames := 0, cells := 0, slots := 0, locals := 0 } s m args below meth c H locs 0 0 (MQ below (QiW D vwCl (WS g) post A) args s 0 0 A) (F0 m 0 ls []) := by
  obtain ⟨hx, hb, hr, hml, hown, hts, hlocks, hK, hZ, hA⟩ := C
  unfold wb_Tx_sameQuoted_0 at h
  refine lv_iconst (v := (0 : Int32)) hx hb d_Tx_sameQuoted_0 (by decide) ?_
  refine lv_istore hx hb d_Tx_sameQuoted_1 hl (by decide) rfl (fun ls hl => ?_)
  have hl : lv_has ls 7 [(4, .int (0 : Int32)), (0, .ref (g.1 23)), (1, .int x1), (2, .ref (g.1 23)), (3, .int x3)] := hl
  exact j1 x1 x3 (0 : Int32) σ _ _ _ (lv_sub hl [1, 2, 3, 4, 0] rfl) hst h
set_option maxRecDepth 100000 in
set_option maxHeartbeats 4000000 in
theorem b_Tx_sameQuoted_13_13_1 {p : Program} {l : Launch} {e : Env} {s : State} {m : MethodId} {args : Array Value} {below : List Frame} {meth : Method} {c : Code} {D : va_G} {g : Gm} {A : Nat → Prop} {post : Int32 → Sg → Prop} {F : Nat → Int32 → Int32 → Int32 → Int32 → Int32 → Sg → Prop} (C : kC p s m args meth c k_Tx_sameQuoted 7 (some .boolean) GW R_Tx D vwCl g (Zk g) A) (j2 : J_Tx_sameQuoted_13_13_2 p l e s m args below meth c D g A post F) (j3 : J_Tx_sameQuoted_13_13_3 p l e s m args below meth c D g A post F) (x1 : Int32) (x3 : Int32) (x4 : Int32) (σ : Sg) (H : Heap) (locs : List Loc) (ls : Array Slot) (hl : lv_has ls 7 [(0, .ref (g.1 23)), (1, .int x1), (2, .ref (g.1 23)), (3, .int x3), (4, .int x4)]) (hst : Wst D vwCl (WS g) A s σ H locs) (h : wb_Tx_sameQuoted_1 13 13 F post x1 x3 x4 σ) : W p l e { frames := 0, cells := 0, slots := 0, locals := 0 } s m args below meth c H locs 0 0 (MQ below (QiW D vwCl (WS g) post A) args s 0 0 A) (F0 m 3 ls []) := by
  obtain ⟨hx, hb, hr, hml, hown, hts, hlocks, hK, hZ, hA⟩ := C
  unfold wb_Tx_sameQuoted_1 at h
  refine lv_iload hx hb d_Tx_sameQuoted_3 (lv_at hl 4 rfl) ?_
  refine lv_aload_n hx hb d_Tx_sameQuoted_5 rfl (lv_at hl 0 rfl) ?_
  refine va_get (D := D) (ci := 1) (C := R_Tx) (T := T_Tx) (N := 2) hx hb hts in_Tx hown hK hst.1 23 (WS_o23 g σ) rfl 1 (by decide) (hts _ gw112) (fun _ h9 => h9) rfl d_Tx_sameQuoted_6 ?_
  refine lv_icmp_gt (tgt := 131) hx hb d_Tx_sameQuoted_9 (by decide) (fun hc => ?_) (fun hc => ?_)
  · replace h := h.1 hc
    refine lv_iconst (v := (0 : Int32)) hx hb d_Tx_sameQuoted_131 (by decide) ?_
    exact kw_zret hx hb hr hlocks hst h d_Tx_sameQuoted_132
  · replace h := h.2 hc
    refine lv_iload_n hx hb d_Tx_sameQuoted_12 rfl (lv_at hl 1 rfl) ?_
    refine lv_iload hx hb d_Tx_sameQuoted_13 (lv_at hl 4 rfl) ?_
    refine lv_iadd hx hb d_Tx_sameQuoted_15 ?_
    refine lv_aload_n hx hb d_Tx_sameQuoted_16 rfl (lv_at hl 0 rfl) ?_
    refine va_get (D := D) (ci := 1) (C := R_Tx) (T := T_Tx) (N := 2) hx hb hts in_Tx hown hK hst.1 23 (WS_o23 g σ) rfl 1 (by decide) (hts _ gw112) (fun _ h9 => h9) rfl d_Tx_sameQuoted_17 ?_
    refine lv_icmp_ge (tgt := 37) hx hb d_Tx_sameQuoted_20 (by decide) (fun hc => ?_) (fun hc => ?_)
    · replace h := h.1 hc
      exact j2 x1 x3 x4 σ _ _ _ (lv_sub hl [0, 1, 2, 3, 4] rfl) hst h
    · replace h := h.2 hc
      refine lv_aload_n hx hb d_Tx_sameQuoted_23 rfl (lv_at hl 0 rfl) ?_
      refine va_get (D := D) (ci := 1) (C := R_Tx) (T := T_Tx) (N := 2) hx hb hts in_Tx hown hK hst.1 23 (WS_o23 g σ) rfl 0 (by decide) (hts _ gw106) (fun _ h9 => h9) rfl d_Tx_sameQuoted_24 ?_
      refine lv_iload_n hx hb d_Tx_sameQuoted_27 rfl (lv_at hl 1 rfl) ?_
      refine lv_iload hx hb d_Tx_sameQuoted_28 (lv_at hl 4 rfl) ?_
      refine lv_iadd hx hb d_Tx_sameQuoted_30 ?_
      obtain ⟨hi, h⟩ := h
      refine va_cald hx hb hK hst.1 24 1 (WS_a24 g σ) rfl hi d_Tx_sameQuoted_31 ?_
      refine lv_bipush (v := (34 : Int32)) hx hb d_Tx_sameQuoted_32 (by decide) ?_
      refine lv_icmp_ne (tgt := 41) hx hb d_Tx_sameQuoted_34 (by decide) (fun hc => ?_) (fun hc => ?_)
      · replace h := h.1 hc
        refine lv_iconst (v := (0 : Int32)) hx hb d_Tx_sameQuoted_41 (by decide) ?_
        refine lv_istore hx hb d_Tx_sameQuoted_42 hl (by decide) rfl (fun ls hl => ?_)
        have hl : lv_has ls 7 [(5, .int (0 : Int32)), (0, .ref (g.1 23)), (1, .int x1), (2, .ref (g.1 23)), (3, .int x3), (4, .int x4)] := hl
        exact j3 x1 x3 x4 (0 : Int32) σ _ _ _ (lv_sub hl [1, 2, 3, 4, 5, 0] rfl) hst h
      · replace h := h.2 hc
        exact j2 x1 x3 x4 σ _ _ _ (lv_sub hl [0, 1, 2, 3, 4] rfl) hst h
set_option maxRecDepth 100000 in
set_option maxHeartbeats 4000000 in
theorem b_Tx_sameQuoted_13_13_2 {p : Program} {l : Launch} {e : Env} {s : State} {m : MethodId} {args : Array Value} {below : List Frame} {meth : Method} {c : Code} {D : va_G} {g : Gm} {A : Nat → Prop} {post : Int32 → Sg → Prop} {F : Nat → Int32 → Int32 → Int32 → Int32 → Int32 → Sg → Prop} (C : kC p s m args meth c k_Tx_sameQuoted 7 (some .boolean) GW R_Tx D vwCl g (Zk g) A) (j3 : J_Tx_sameQuoted_13_13_3 p l e s m args below meth c D g A post F) (x1 : Int32) (x3 : Int32) (x4 : Int32) (σ : Sg) (H : Heap) (locs : List Loc) (ls : Array Slot) (hl : lv_has ls 7 [(0, .ref (g.1 23)), (1, .int x1), (2, .ref (g.1 23)), (3, .int x3), (4, .int x4)]) (hst : Wst D vwCl (WS g) A s σ H locs) (h : wb_Tx_sameQuoted_2 13 13 F post x1 x3 x4 σ) : W p l e { frames := 0, cells := 0, slots := 0, locals := 0 } s m args below meth c H locs 0 0 (MQ below (QiW D vwCl (WS g) post A) args s 0 0 A) (F0 m 37 ls []) := by
  obtain ⟨hx, hb, hr, hml, hown, hts, hlocks, hK, hZ, hA⟩ := C
  unfold wb_Tx_sameQuoted_2 at h
  refine lv_iconst (v := (1 : Int32)) hx hb d_Tx_sameQuoted_37 (by decide) ?_
  refine lv_goto (tgt := 42) hx hb d_Tx_sameQuoted_38 (by decide) ?_
  refine lv_istore hx hb d_Tx_sameQuoted_42 hl (by decide) rfl (fun ls hl => ?_)
  have hl : lv_has ls 7 [(5, .int (1 : Int32)), (0, .ref (g.1 23)), (1, .int x1), (2, .ref (g.1 23)), (3, .int x3), (4, .int x4)] := hl
  exact j3 x1 x3 x4 (1 : Int32) σ _ _ _ (lv_sub hl [1, 2, 3, 4, 5, 0] rfl) hst h
set_option maxRecDepth 100000 in
set_option maxHeartbeats 4000000 in
theorem b_Tx_sameQuoted_13_13_3 {p : Program} {l : Launch} {e : Env} {s : State} {m : MethodId} {args : Array Value} {below : List Frame} {meth : Method} {c : Code} {D : va_G} {g : Gm} {A : Nat → Prop} {post : Int32 → Sg → Prop} {F : Nat → Int32 → Int32 → Int32 → Int32 → Int32 → Sg → Prop} (C : kC p s m args meth c k_Tx_sameQuoted 7 (some .boolean) GW R_Tx D vwCl g (Zk g) A) (j4 : J_Tx_sameQuoted_13_13_4 p l e s m args below meth c D g A post F) (j5 : J_Tx_sameQuoted_13_13_5 p l e s m args below meth c D g A post F) (x1 : Int32) (x3 : Int32) (x4 : Int32) (x5 : Int32) (σ : Sg) (H : Heap) (locs : List Loc) (ls : Array Slot) (hl : lv_has ls 7 [(0, .ref (g.1 23)), (1, .int x1), (2, .ref (g.1 23)), (3, .int x3), (4, .int x4), (5, .int x5)]) (hst : Wst D vwCl (WS g) A s σ H locs) (h : wb_Tx_sameQuoted_3 13 13 F post x1 x3 x4 x5 σ) : W p l e { frames := 0, cells := 0, slots := 0, locals := 0 } s m args below meth c H locs 0 0 (MQ below (QiW D vwCl (WS g) post A) args s 0 0 A) (F0 m 44 ls []) := by
  obtain ⟨hx, hb, hr, hml, hown, hts, hlocks, hK, hZ, hA⟩ := C
  unfold wb_Tx_sameQuoted_3 at h
  refine lv_iload_n hx hb d_Tx_sameQuoted_44 rfl (lv_at hl 3 rfl) ?_
  refine lv_iload hx hb d_Tx_sameQuoted_45 (lv_at hl 4 rfl) ?_
  refine lv_iadd hx hb d_Tx_sameQuoted_47 ?_
  refine lv_aload_n hx hb d_Tx_sameQuoted_48 rfl (lv_at hl 2 rfl) ?_
  refine va_get (D := D) (ci := 1) (C := R_Tx) (T := T_Tx) (N := 2) hx hb hts in_Tx hown hK hst.1 23 (WS_o23 g σ) rfl 1 (by decide) (hts _ gw112) (fun _ h9 => h9) rfl d_Tx_sameQuoted_49 ?_
  refine lv_icmp_ge (tgt := 69) hx hb d_Tx_sameQuoted_52 (by decide) (fun hc => ?_) (fun hc => ?_)
  · replace h := h.1 hc
    exact j4 x1 x3 x4 x5 σ _ _ _ (lv_sub hl [0, 1, 2, 3, 4, 5] rfl) hst h
  · replace h := h.2 hc
    refine lv_aload_n hx hb d_Tx_sameQuoted_55 rfl (lv_at hl 2 rfl) ?_
    refine va_get (D := D) (ci := 1) (C := R_Tx) (T := T_Tx) (N := 2) hx hb hts in_Tx hown hK hst.1 23 (WS_o23 g σ) rfl 0 (by decide) (hts _ gw106) (fun _ h9 => h9) rfl d_Tx_sameQuoted_56 ?_
    refine lv_iload_n hx hb d_Tx_sameQuoted_59 rfl (lv_at hl 3 rfl) ?_
    refine lv_iload hx hb d_Tx_sameQuoted_60 (lv_at hl 4 rfl) ?_
    refine lv_iadd hx hb d_Tx_sameQuoted_62 ?_
    obtain ⟨hi, h⟩ := h
    refine va_cald hx hb hK hst.1 24 1 (WS_a24 g σ) rfl hi d_Tx_sameQuoted_63 ?_
    refine lv_bipush (v := (34 : Int32)) hx hb d_Tx_sameQuoted_64 (by decide) ?_
    refine lv_icmp_ne (tgt := 73) hx hb d_Tx_sameQuoted_66 (by decide) (fun hc => ?_) (fun hc => ?_)
    · replace h := h.1 hc
      refine lv_iconst (v := (0 : Int32)) hx hb d_Tx_sameQuoted_73 (by decide) ?_
      refine lv_istore hx hb d_Tx_sameQuoted_74 hl (by decide) rfl (fun ls hl => ?_)
      have hl : lv_has ls 7 [(6, .int (0 : Int32)), (0, .ref (g.1 23)), (1, .int x1), (2, .ref (g.1 23)), (3, .int x3), (4, .int x4), (5, .int x5)] := hl
      exact j5 x1 x3 x4 x5 (0 : Int32) σ _ _ _ (lv_sub hl [1, 2, 3, 4, 5, 6, 0] rfl) hst h
    · replace h := h.2 hc
      exact j4 x1 x3 x4 x5 σ _ _ _ (lv_sub hl [0, 1, 2, 3, 4, 5] rfl) hst h
set_option maxRecDepth 100000 in
set_option maxHeartbeats 4000000 in
theorem b_Tx_sameQuoted_13_13_4 {p : Program} {l : Launch} {e : Env} {s : State} {m : MethodId} {args : Array Value} {below : List Frame} {meth : Method} {c : Code} {D : va_G} {g : Gm} {A : Nat → Prop} {post : Int32 → Sg → Prop} {F : Nat → Int32 → Int32 → Int32 → Int32 → Int32 → Sg → Prop} (C : kC p s m args meth c k_Tx_sameQuoted 7 (some .boolean) GW R_Tx D vwCl g (Zk g) A) (j5 : J_Tx_sameQuoted_13_13_5 p l e s m args below meth c D g A post F) (x1 : Int32) (x3 : Int32) (x4 : Int32) (x5 : Int32) (σ : Sg) (H : Heap) (locs : List Loc) (ls : Array Slot) (hl : lv_has ls 7 [(0, .ref (g.1 23)), (1, .int x1), (2, .ref (g.1 23)), (3, .int x3), (4, .int x4), (5, .int x5)]) (hst : Wst D vwCl (WS g) A s σ H locs) (h : wb_Tx_sameQuoted_4 13 13 F post x1 x3 x4 x5 σ) : W p l e { frames := 0, cells := 0, slots := 0, locals := 0 } s m args below meth c H locs 0 0 (MQ below (QiW D vwCl (WS g) post A) args s 0 0 A) (F0 m 69 ls []) := by
  obtain ⟨hx, hb, hr, hml, hown, hts, hlocks, hK, hZ, hA⟩ := C
  unfold wb_Tx_sameQuoted_4 at h
  refine lv_iconst (v := (1 : Int32)) hx hb d_Tx_sameQuoted_69 (by decide) ?_
  refine lv_goto (tgt := 74) hx hb d_Tx_sameQuoted_70 (by decide) ?_
  refine lv_istore hx hb d_Tx_sameQuoted_74 hl (by decide) rfl (fun ls hl => ?_)
  have hl : lv_has ls 7 [(6, .int (1 : Int32)), (0, .ref (g.1 23)), (1, .int x1), (2, .ref (g.1 23)), (3, .int x3), (4, .int x4), (5, .int x5)] := hl
  exact j5 x1 x3 x4 x5 (1 : Int32) σ _ _ _ (lv_sub hl [1, 2, 3, 4, 5, 6, 0] rfl) hst h
set_option maxRecDepth 100000 in
set_option maxHeartbeats 4000000 in
theorem b_Tx_sameQuoted_13_13_5 {p : Program} {l : Launch} {e : Env} {s : State} {m : MethodId} {args : Array Value} {below : List Frame} {meth : Method} {c : Code} {D : va_G} {g : Gm} {A : Nat → Prop} {post : Int32 → Sg → Prop} {F : Nat → Int32 → Int32 → Int32 → Int32 → Int32 → Sg → Prop} (C : kC p s m args meth c k_Tx_sameQuoted 7 (some .boolean) GW R_Tx D vwCl g (Zk g) A) (j1 : J_Tx_sameQuoted_13_13_1 p l e s m args below meth c D g A post F) (x1 : Int32) (x3 : Int32) (x4 : Int32) (x5 : Int32) (x6 : Int32) (σ : Sg) (H : Heap) (locs : List Loc) (ls : Array Slot) (hl : lv_has ls 7 [(0, .ref (g.1 23)), (1, .int x1), (2, .ref (g.1 23)), (3, .int x3), (4, .int x4), (5, .int x5), (6, .int x6)]) (hst : Wst D vwCl (WS g) A s σ H locs) (h : wb_Tx_sameQuoted_5 13 13 F post x1 x3 x4 x5 x6 σ) : W p l e { frames := 0, cells := 0, slots := 0, locals := 0 } s m args below meth c H locs 0 0 (MQ below (QiW D vwCl (WS g) post A) args s 0 0 A) (F0 m 76 ls []) := by
  obtain ⟨hx, hb, hr, hml, hown, hts, hlocks, hK, hZ, hA⟩ := C
  unfold wb_Tx_sameQuoted_5 at h
  refine lv_iload hx hb d_Tx_sameQuoted_76 (lv_at hl 5 rfl) ?_
  refine lv_if_ne (tgt := 86) hx hb d_Tx_sameQuoted_78 (by decide) (fun hc => ?_) (fun hc => ?_)
  · replace h := h.1 hc
    refine lv_iload hx hb d_Tx_sameQuoted_86 (lv_at hl 5 rfl) ?_
    refine lv_if_eq (tgt := 100) hx hb d_Tx_sameQuoted_88 (by decide) (fun hc => ?_) (fun hc => ?_)
    · replace h := h.1 hc
      refine lv_iconst (v := (0 : Int32)) hx hb d_Tx_sameQuoted_100 (by decide) ?_
      exact kw_zret hx hb hr hlocks hst h d_Tx_sameQuoted_101
    · replace h := h.2 hc
      refine lv_iload hx hb d_Tx_sameQuoted_91 (lv_at hl 6 rfl) ?_
      refine lv_if_eq (tgt := 100) hx hb d_Tx_sameQuoted_93 (by decide) (fun hc => ?_) (fun hc => ?_)
      · replace h := h.1 hc
        refine lv_iconst (v := (0 : Int32)) hx hb d_Tx_sameQuoted_100 (by decide) ?_
        exact kw_zret hx hb hr hlocks hst h d_Tx_sameQuoted_101
      · replace h := h.2 hc
        refine lv_iconst (v := (1 : Int32)) hx hb d_Tx_sameQuoted_96 (by decide) ?_
        refine lv_goto (tgt := 101) hx hb d_Tx_sameQuoted_97 (by decide) ?_
        exact kw_zret hx hb hr hlocks hst h d_Tx_sameQuoted_101
  · replace h := h.2 hc
    refine lv_iload hx hb d_Tx_sameQuoted_81 (lv_at hl 6 rfl) ?_
    refine lv_if_eq (tgt := 102) hx hb d_Tx_sameQuoted_83 (by decide) (fun hc => ?_) (fun hc => ?_)
    · replace h := h.1 hc
      refine lv_aload_n hx hb d_Tx_sameQuoted_102 rfl (lv_at hl 0 rfl) ?_
      refine va_get (D := D) (ci := 1) (C := R_Tx) (T := T_Tx) (N := 2) hx hb hts in_Tx hown hK hst.1 23 (WS_o23 g σ) rfl 0 (by decide) (hts _ gw106) (fun _ h9 => h9) rfl d_Tx_sameQuoted_103 ?_
      refine lv_iload_n hx hb d_Tx_sameQuoted_106 rfl (lv_at hl 1 rfl) ?_
      refine lv_iload hx hb d_Tx_sameQuoted_107 (lv_at hl 4 rfl) ?_
      refine lv_iadd hx hb d_Tx_sameQuoted_109 ?_
      obtain ⟨hi, h⟩ := h
      refine va_cald hx hb hK hst.1 24 1 (WS_a24 g σ) rfl hi d_Tx_sameQuoted_110 ?_
      refine lv_aload_n hx hb d_Tx_sameQuoted_111 rfl (lv_at hl 2 rfl) ?_
      refine va_get (D := D) (ci := 1) (C := R_Tx) (T := T_Tx) (N := 2) hx hb hts in_Tx hown hK hst.1 23 (WS_o23 g σ) rfl 0 (by decide) (hts _ gw106) (fun _ h9 => h9) rfl d_Tx_sameQuoted_112 ?_
      refine lv_iload_n hx hb d_Tx_sameQuoted_115 rfl (lv_at hl 3 rfl) ?_
      refine lv_iload hx hb d_Tx_sameQuoted_116 (lv_at hl 4 rfl) ?_
      refine lv_iadd hx hb d_Tx_sameQuoted_118 ?_
      obtain ⟨hi, h⟩ := h
      refine va_cald hx hb hK hst.1 24 1 (WS_a24 g σ) rfl hi d_Tx_sameQuoted_119 ?_
      refine lv_icmp_eq (tgt := 125) hx hb d_Tx_sameQuoted_120 (by decide) (fun hc => ?_) (fun hc => ?_)
      · replace h := h.1 hc
        refine lv_iinc (k := 4) (v := (x4 + 1)) hx hb d_Tx_sameQuoted_125 hl rfl (kw_inc _ (by decide)) (by decide) rfl (fun ls hl => ?_)
        have hl : lv_has ls 7 [(4, .int (x4 + 1)), (0, .ref (g.1 23)), (1, .int x1), (2, .ref (g.1 23)), (3, .int x3), (5, .int x5), (6, .int x6)] := hl
        refine lv_goto (tgt := 3) hx hb d_Tx_sameQuoted_128 (by decide) ?_
        exact j1 x1 x3 (x4 + 1) σ _ _ _ (lv_sub hl [1, 2, 3, 4, 0] rfl) hst h
      · replace h := h.2 hc
        refine lv_iconst (v := (0 : Int32)) hx hb d_Tx_sameQuoted_123 (by decide) ?_
        exact kw_zret hx hb hr hlocks hst h d_Tx_sameQuoted_124
    · replace h := h.2 hc
      refine lv_iload hx hb d_Tx_sameQuoted_86 (lv_at hl 5 rfl) ?_
      refine lv_if_eq (tgt := 100) hx hb d_Tx_sameQuoted_88 (by decide) (fun hc => ?_) (fun hc => ?_)
      · replace h := h.1 hc
        refine lv_iconst (v := (0 : Int32)) hx hb d_Tx_sameQuoted_100 (by decide) ?_
        exact kw_zret hx hb hr hlocks hst h d_Tx_sameQuoted_101
      · replace h := h.2 hc
        refine lv_iload hx hb d_Tx_sameQuoted_91 (lv_at hl 6 rfl) ?_
        refine lv_if_eq (tgt := 100) hx hb d_Tx_sameQuoted_93 (by decide) (fun hc => ?_) (fun hc => ?_)
        · replace h := h.1 hc
          refine lv_iconst (v := (0 : Int32)) hx hb d_Tx_sameQuoted_100 (by decide) ?_
          exact kw_zret hx hb hr hlocks hst h d_Tx_sameQuoted_101
        · replace h := h.2 hc
          refine lv_iconst (v := (1 : Int32)) hx hb d_Tx_sameQuoted_96 (by decide) ?_
          refine lv_goto (tgt := 101) hx hb d_Tx_sameQuoted_97 (by decide) ?_
          exact kw_zret hx hb hr hlocks hst h d_Tx_sameQuoted_101
set_option maxRecDepth 100000 in
set_option maxHeartbeats 4000000 in
theorem a_Tx_sameQuoted_13_13 {p : Program} {l : Launch} {e : Env} {s : State} {m : MethodId} {args : Array Value} {below : List Frame} {meth : Method} {c : Code} {D : va_G} {g : Gm} {A : Nat → Prop} {post : Int32 → Sg → Prop} (C : kC p s m args meth c k_Tx_sameQuoted 7 (some .boolean) GW R_Tx D vwCl g (Zk g) A) : ∀ n : Nat, J_Tx_sameQuoted_13_13_1 p l e s m args below meth c D g A post (wp_Tx_sameQuoted 13 13 post n) ∧ J_Tx_sameQuoted_13_13_2 p l e s m args below meth c D g A post (wp_Tx_sameQuoted 13 13 post n) ∧ J_Tx_sameQuoted_13_13_3 p l e s m args below meth c D g A post (wp_Tx_sameQuoted 13 13 post n) ∧ J_Tx_sameQuoted_13_13_4 p l e s m args below meth c D g A post (wp_Tx_sameQuoted 13 13 post n) ∧ J_Tx_sameQuoted_13_13_5 p l e s m args below meth c D g A post (wp_Tx_sameQuoted 13 13 post n) := by
  intro n
  induction n with
  | zero => exact ⟨fun _ _ _ _ _ _ _ _ _ h => h.elim, fun _ _ _ _ _ _ _ _ _ h => h.elim, fun _ _ _ _ _ _ _ _ _ _ h => h.elim, fun _ _ _ _ _ _ _ _ _ _ h => h.elim, fun _ _ _ _ _ _ _ _ _ _ _ h => h.elim⟩
  | succ n ih => exact ⟨fun x1 x3 x4 σ H locs ls hl hst h => b_Tx_sameQuoted_13_13_1 (F := wp_Tx_sameQuoted 13 13 post n) C (ih.2.1) (ih.2.2.1) x1 x3 x4 σ H locs ls hl hst h, fun x1 x3 x4 σ H locs ls hl hst h => b_Tx_sameQuoted_13_13_2 (F := wp_Tx_sameQuoted 13 13 post n) C (ih.2.2.1) x1 x3 x4 σ H locs ls hl hst h, fun x1 x3 x4 x5 σ H locs ls hl hst h => b_Tx_sameQuoted_13_13_3 (F := wp_Tx_sameQuoted 13 13 post n) C (ih.2.2.2.1) (ih.2.2.2.2) x1 x3 x4 x5 σ H locs ls hl hst h, fun x1 x3 x4 x5 σ H locs ls hl hst h => b_Tx_sameQuoted_13_13_4 (F := wp_Tx_sameQuoted 13 13 post n) C (ih.2.2.2.2) x1 x3 x4 x5 σ H locs ls hl hst h, fun x1 x3 x4 x5 x6 σ H locs ls hl hst h => b_Tx_sameQuoted_13_13_5 (F := wp_Tx_sameQuoted 13 13 post n) C (ih.1) x1 x3 x4 x5 x6 σ H locs ls hl hst h⟩
set_option maxRecDepth 100000 in
set_option maxHeartbeats 4000000 in
theorem c_Tx_sameQuoted_13_13 (l : Launch) {D : va_G} {g : Gm} {sz : Nat} (x1 : Int32) (x3 : Int32) {σ : Sg} {post : Int32 → Sg → Prop} (h : wq_Tx_sameQuoted 13 13 x1 x3 σ post) : Met l y_Tx_sameQuoted (.code y_Tx_sameQuoted k_Tx_sameQuoted 7 (some .boolean) :: GW) { frames := 0, cells := 0, slots := 0, locals := 0 } (PcW D vwCl (WS g) g (Zk g) σ sz [.ref (g.1 23), .int x1, .ref (g.1 23), .int x3]) (QiW D vwCl (WS g) post (va_A (WS g σ) sz)) 0 0 (va_A (WS g σ) sz) := by
  refine kw_entry (own := R_Tx) (by decide) rfl rfl (Nat.le_of_ble_eq_true rfl) ?_
  intro p e s m below meth c ls hsz C hin hl hst
  obtain ⟨n, h⟩ := h
  cases n with
  | zero => exact h.elim
  | succ n =>
    have ih := a_Tx_sameQuoted_13_13 (l := l) (e := e) (below := below) (post := post) C n
    exact b_Tx_sameQuoted_13_13_0 (F := wp_Tx_sameQuoted 13 13 post n) C (ih.1) x1 x3 σ _ _ ls hl hst h
/-! SchemaDesk$Text.comesBefore (II)Z -/
abbrev k_Tx_comesBefore : ByteArray := prog_7_method_7_code
abbrev y_Tx_comesBefore : MethodName := ⟨"SchemaDesk$Text", "comesBefore", "(II)Z"⟩
theorem d_Tx_comesBefore_0 : decode k_Tx_comesBefore 0 = .ok (.iconst 0, 1) := by decide +kernel
theorem d_Tx_comesBefore_1 : decode k_Tx_comesBefore 1 = .ok (.istore_n 3, 1) := by decide +kernel
theorem d_Tx_comesBefore_2 : decode k_Tx_comesBefore 2 = .ok (.iload_n 3, 1) := by decide +kernel
theorem d_Tx_comesBefore_3 : decode k_Tx_comesBefore 3 = .ok (.aload_n 0, 1) := by decide +kernel
theorem d_Tx_comesBefore_4 : decode k_Tx_comesBefore 4 = .ok (.getfield 15, 3) := by decide +kernel
theorem d_Tx_comesBefore_7 : decode k_Tx_comesBefore 7 = .ok (.if_icmp .gt 103, 3) := by decide +kernel
theorem d_Tx_comesBefore_10 : decode k_Tx_comesBefore 10 = .ok (.iload_n 2, 1) := by decide +kernel
theorem d_Tx_comesBefore_11 : decode k_Tx_comesBefore 11 = .ok (.iload_n 3, 1) := by decide +kernel
theorem d_Tx_comesBefore_12 : decode k_Tx_comesBefore 12 = .ok (.iadd, 1) := by decide +kernel
theorem d_Tx_comesBefore_13 : decode k_Tx_comesBefore 13 = .ok (.aload_n 0, 1) := by decide +kernel
theorem d_Tx_comesBefore_14 : decode k_Tx_comesBefore 14 = .ok (.getfield 15, 3) := by decide +kernel
theorem d_Tx_comesBefore_17 : decode k_Tx_comesBefore 17 = .ok (.if_icmp .ge 16, 3) := by decide +kernel
theorem d_Tx_comesBefore_20 : decode k_Tx_comesBefore 20 = .ok (.aload_n 0, 1) := by decide +kernel
theorem d_Tx_comesBefore_21 : decode k_Tx_comesBefore 21 = .ok (.getfield 9, 3) := by decide +kernel
theorem d_Tx_comesBefore_24 : decode k_Tx_comesBefore 24 = .ok (.iload_n 2, 1) := by decide +kernel
theorem d_Tx_comesBefore_25 : decode k_Tx_comesBefore 25 = .ok (.iload_n 3, 1) := by decide +kernel
theorem d_Tx_comesBefore_26 : decode k_Tx_comesBefore 26 = .ok (.iadd, 1) := by decide +kernel
theorem d_Tx_comesBefore_27 : decode k_Tx_comesBefore 27 = .ok (.caload, 1) := by decide +kernel
theorem d_Tx_comesBefore_28 : decode k_Tx_comesBefore 28 = .ok (.bipush 34, 2) := by decide +kernel
theorem d_Tx_comesBefore_30 : decode k_Tx_comesBefore 30 = .ok (.if_icmp .ne 5, 3) := by decide +kernel
theorem d_Tx_comesBefore_33 : decode k_Tx_comesBefore 33 = .ok (.iconst 0, 1) := by decide +kernel
theorem d_Tx_comesBefore_34 : decode k_Tx_comesBefore 34 = .ok (.ireturn, 1) := by decide +kernel
theorem d_Tx_comesBefore_35 : decode k_Tx_comesBefore 35 = .ok (.iload_n 1, 1) := by decide +kernel
theorem d_Tx_comesBefore_36 : decode k_Tx_comesBefore 36 = .ok (.iload_n 3, 1) := by decide +kernel
theorem d_Tx_comesBefore_37 : decode k_Tx_comesBefore 37 = .ok (.iadd, 1) := by decide +kernel
theorem d_Tx_comesBefore_38 : decode k_Tx_comesBefore 38 = .ok (.aload_n 0, 1) := by decide +kernel
theorem d_Tx_comesBefore_39 : decode k_Tx_comesBefore 39 = .ok (.getfield 15, 3) := by decide +kernel
theorem d_Tx_comesBefore_42 : decode k_Tx_comesBefore 42 = .ok (.if_icmp .ge 16, 3) := by decide +kernel
theorem d_Tx_comesBefore_45 : decode k_Tx_comesBefore 45 = .ok (.aload_n 0, 1) := by decide +kernel
theorem d_Tx_comesBefore_46 : decode k_Tx_comesBefore 46 = .ok (.getfield 9, 3) := by decide +kernel
theorem d_Tx_comesBefore_49 : decode k_Tx_comesBefore 49 = .ok (.iload_n 1, 1) := by decide +kernel
theorem d_Tx_comesBefore_50 : decode k_Tx_comesBefore 50 = .ok (.iload_n 3, 1) := by decide +kernel
theorem d_Tx_comesBefore_51 : decode k_Tx_comesBefore 51 = .ok (.iadd, 1) := by decide +kernel
theorem d_Tx_comesBefore_52 : decode k_Tx_comesBefore 52 = .ok (.caload, 1) := by decide +kernel
theorem d_Tx_comesBefore_53 : decode k_Tx_comesBefore 53 = .ok (.bipush 34, 2) := by decide +kernel
theorem d_Tx_comesBefore_55 : decode k_Tx_comesBefore 55 = .ok (.if_icmp .ne 5, 3) := by decide +kernel
theorem d_Tx_comesBefore_58 : decode k_Tx_comesBefore 58 = .ok (.iconst 1, 1) := by decide +kernel
theorem d_Tx_comesBefore_59 : decode k_Tx_comesBefore 59 = .ok (.ireturn, 1) := by decide +kernel
theorem d_Tx_comesBefore_60 : decode k_Tx_comesBefore 60 = .ok (.aload_n 0, 1) := by decide +kernel
theorem d_Tx_comesBefore_61 : decode k_Tx_comesBefore 61 = .ok (.getfield 9, 3) := by decide +kernel
theorem d_Tx_comesBefore_64 : decode k_Tx_comesBefore 64 = .ok (.iload_n 1, 1) := by decide +kernel
theorem d_Tx_comesBefore_65 : decode k_Tx_comesBefore 65 = .ok (.iload_n 3, 1) := by decide +kernel
theorem d_Tx_comesBefore_66 : decode k_Tx_comesBefore 66 = .ok (.iadd, 1) := by decide +kernel
theorem d_Tx_comesBefore_67 : decode k_Tx_comesBefore 67 = .ok (.caload, 1) := by decide +kernel
theorem d_Tx_comesBefore_68 : decode k_Tx_comesBefore 68 = .ok (.aload_n 0, 1) := by decide +kernel
theorem d_Tx_comesBefore_69 : decode k_Tx_comesBefore 69 = .ok (.getfield 9, 3) := by decide +kernel
theorem d_Tx_comesBefore_72 : decode k_Tx_comesBefore 72 = .ok (.iload_n 2, 1) := by decide +kernel
theorem d_Tx_comesBefore_73 : decode k_Tx_comesBefore 73 = .ok (.iload_n 3, 1) := by decide +kernel
theorem d_Tx_comesBefore_74 : decode k_Tx_comesBefore 74 = .ok (.iadd, 1) := by decide +kernel
theorem d_Tx_comesBefore_75 : decode k_Tx_comesBefore 75 = .ok (.caload, 1) := by decide +kernel
theorem d_Tx_comesBefore_76 : decode k_Tx_comesBefore 76 = .ok (.if_icmp .eq 28, 3) := by decide +kernel
theorem d_Tx_comesBefore_79 : decode k_Tx_comesBefore 79 = .ok (.aload_n 0, 1) := by decide +kernel
theorem d_Tx_comesBefore_80 : decode k_Tx_comesBefore 80 = .ok (.getfield 9, 3) := by decide +kernel
theorem d_Tx_comesBefore_83 : decode k_Tx_comesBefore 83 = .ok (.iload_n 1, 1) := by decide +kernel
theorem d_Tx_comesBefore_84 : decode k_Tx_comesBefore 84 = .ok (.iload_n 3, 1) := by decide +kernel
theorem d_Tx_comesBefore_85 : decode k_Tx_comesBefore 85 = .ok (.iadd, 1) := by decide +kernel
theorem d_Tx_comesBefore_86 : decode k_Tx_comesBefore 86 = .ok (.caload, 1) := by decide +kernel
theorem d_Tx_comesBefore_87 : decode k_Tx_comesBefore 87 = .ok (.aload_n 0, 1) := by decide +kernel
theorem d_Tx_comesBefore_88 : decode k_Tx_comesBefore 88 = .ok (.getfield 9, 3) := by decide +kernel
theorem d_Tx_comesBefore_91 : decode k_Tx_comesBefore 91 = .ok (.iload_n 2, 1) := by decide +kernel
theorem d_Tx_comesBefore_92 : decode k_Tx_comesBefore 92 = .ok (.iload_n 3, 1) := by decide +kernel
theorem d_Tx_comesBefore_93 : decode k_Tx_comesBefore 93 = .ok (.iadd, 1) := by decide +kernel
theorem d_Tx_comesBefore_94 : decode k_Tx_comesBefore 94 = .ok (.caload, 1) := by decide +kernel
theorem d_Tx_comesBefore_95 : decode k_Tx_comesBefore 95 = .ok (.if_icmp .ge 7, 3) := by decide +kernel
theorem d_Tx_comesBefore_98 : decode k_Tx_comesBefore 98 = .ok (.iconst 1, 1) := by decide +kernel
theorem d_Tx_comesBefore_99 : decode k_Tx_comesBefore 99 = .ok (.goto 4, 3) := by decide +kernel
theorem d_Tx_comesBefore_102 : decode k_Tx_comesBefore 102 = .ok (.iconst 0, 1) := by decide +kernel
theorem d_Tx_comesBefore_103 : decode k_Tx_comesBefore 103 = .ok (.ireturn, 1) := by decide +kernel
theorem d_Tx_comesBefore_104 : decode k_Tx_comesBefore 104 = .ok (.iinc 3 1, 3) := by decide +kernel
theorem d_Tx_comesBefore_107 : decode k_Tx_comesBefore 107 = .ok (.goto (-105), 3) := by decide +kernel
theorem d_Tx_comesBefore_110 : decode k_Tx_comesBefore 110 = .ok (.iconst 0, 1) := by decide +kernel
theorem d_Tx_comesBefore_111 : decode k_Tx_comesBefore 111 = .ok (.ireturn, 1) := by decide +kernel
def wb_Tx_comesBefore_0 (b : Nat) (F : Nat → Int32 → Int32 → Int32 → Sg → Prop) (post : Int32 → Sg → Prop) (x1 : Int32) (x2 : Int32) (σ : Sg) : Prop := F 1 x1 x2 (0 : Int32) σ
def wb_Tx_comesBefore_1 (b : Nat) (F : Nat → Int32 → Int32 → Int32 → Sg → Prop) (post : Int32 → Sg → Prop) (x1 : Int32) (x2 : Int32) (x3 : Int32) (σ : Sg) : Prop := (((σ.1 (b + 10) 1) < x3 → (narrow .boolean (.int (0 : Int32)) = .int (0 : Int32) ∧ post (0 : Int32) σ)) ∧ (¬ (σ.1 (b + 10) 1) < x3 → (((σ.1 (b + 10) 1) ≤ (x2 + x3) → (narrow .boolean (.int (0 : Int32)) = .int (0 : Int32) ∧ post (0 : Int32) σ)) ∧ (¬ (σ.1 (b + 10) 1) ≤ (x2 + x3) → (vp_in (x2 + x3) (tl b) ∧ ((¬ (σ.1 (b + 11) ((x2 + x3) : Int32).toNatClampNeg) = (34 : Int32) → (((σ.1 (b + 10) 1) ≤ (x1 + x3) → (narrow .boolean (.int (1 : Int32)) = .int (1 : Int32) ∧ post (1 : Int32) σ)) ∧ (¬ (σ.1 (b + 10) 1) ≤ (x1 + x3) → (vp_in (x1 + x3) (tl b) ∧ ((¬ (σ.1 (b + 11) ((x1 + x3) : Int32).toNatClampNeg) = (34 : Int32) → (vp_in (x1 + x3) (tl b) ∧ (vp_in (x2 + x3) (tl b) ∧ (((σ.1 (b + 11) ((x1 + x3) : Int32).toNatClampNeg) = (σ.1 (b + 11) ((x2 + x3) : Int32).toNatClampNeg) → F 1 x1 x2 (x3 + 1) σ) ∧ (¬ (σ.1 (b + 11) ((x1 + x3) : Int32).toNatClampNeg) = (σ.1 (b + 11) ((x2 + x3) : Int32).toNatClampNeg) → (vp_in (x1 + x3) (tl b) ∧ (vp_in (x2 + x3) (tl b) ∧ (((σ.1 (b + 11) ((x2 + x3) : Int32).toNatClampNeg) ≤ (σ.1 (b + 11) ((x1 + x3) : Int32).toNatClampNeg) → (narrow .boolean (.int (0 : Int32)) = .int (0 : Int32) ∧ post (0 : Int32) σ)) ∧ (¬ (σ.1 (b + 11) ((x2 + x3) : Int32).toNatClampNeg) ≤ (σ.1 (b + 11) ((x1 + x3) : Int32).toNatClampNeg) → (narrow .boolean (.int (1 : Int32)) = .int (1 : Int32) ∧ post (1 : Int32) σ)))))))))) ∧ ((σ.1 (b + 11) ((x1 + x3) : Int32).toNatClampNeg) = (34 : Int32) → (narrow .boolean (.int (1 : Int32)) = .int (1 : Int32) ∧ post (1 : Int32) σ))))))) ∧ ((σ.1 (b + 11) ((x2 + x3) : Int32).toNatClampNeg) = (34 : Int32) → (narrow .boolean (.int (0 : Int32)) = .int (0 : Int32) ∧ post (0 : Int32) σ))))))))
def wp_Tx_comesBefore (b : Nat) (post : Int32 → Sg → Prop) : Nat → Nat → Int32 → Int32 → Int32 → Sg → Prop
  | 0, _, _, _, _, _ => False
  | n + 1, k, x1, x2, x3, σ => match k with
    | 0 => wb_Tx_comesBefore_0 b (wp_Tx_comesBefore b post n) post x1 x2 σ
    | 1 => wb_Tx_comesBefore_1 b (wp_Tx_comesBefore b post n) post x1 x2 x3 σ
    | _ => False
def wq_Tx_comesBefore (b : Nat) (x1 : Int32) (x2 : Int32) (σ : Sg) (post : Int32 → Sg → Prop) : Prop := ∃ n, wp_Tx_comesBefore b post n 0 x1 x2 0 σ
def J_Tx_comesBefore_0_1 (p : Program) (l : Launch) (e : Env) (s : State) (m : MethodId) (args : Array Value) (below : List Frame) (meth : Method) (c : Code) (D : va_G) (g : Gm) (A : Nat → Prop) (post : Int32 → Sg → Prop) (F : Nat → Int32 → Int32 → Int32 → Sg → Prop) : Prop := ∀ (x1 : Int32) (x2 : Int32) (x3 : Int32) (σ : Sg) (H : Heap) (locs : List Loc) (ls : Array Slot), lv_has ls 4 [(0, .ref (g.1 10)), (1, .int x1), (2, .int x2), (3, .int x3)] → Wst D vwCl (WS g) A s σ H locs → F 1 x1 x2 x3 σ → W p l e { frames := 0, cells := 0, slots := 0, locals := 0 } s m args below meth c H locs 0 0 (MQ below (QiW D vwCl (WS g) post A) args s 0 0 A) (F0 m 2 ls [])
set_option maxRecDepth 100000 in
set_option maxHeartbeats 4000000 in
theorem b_Tx_comesBefore_0_0 {p : Program} {l : Launch} {e : Env} {s : State} {m : MethodId} {args : Array Value} {below : List Frame} {meth : Method} {c : Code} {D : va_G} {g : Gm} {A : Nat → Prop} {post : Int32 → Sg → Prop} {F : Nat → Int32 → Int32 → Int32 → Sg → Prop} (C : kC p s m args meth c k_Tx_comesBefore 4 (some .boolean) GW R_Tx D vwCl g (Zk g) A) (j1 : J_Tx_comesBefore_0_1 p l e s m args below meth c D g A post F) (x1 : Int32) (x2 : Int32) (σ : Sg) (H : Heap) (locs : List Loc) (ls : Array Slot) (hl : lv_has ls 4 [(0, .ref (g.1 10)), (1, .int x1), (2, .int x2)]) (hst : Wst D vwCl (WS g) A s σ H locs) (h : wb_Tx_comesBefore_0 0 F post x1 x2 σ) : W p l e { frames := 0, cells := 0, slots := 0, locals := 0 } s m args below meth c H locs 0 0 (MQ below (QiW D vwCl (WS g) post A) args s 0 0 A) (F0 m 0 ls []) := by
  obtain ⟨hx, hb, hr, hml, hown, hts, hlocks, hK, hZ, hA⟩ := C
  unfold wb_Tx_comesBefore_0 at h
  refine lv_iconst (v := (0 : Int32)) hx hb d_Tx_comesBefore_0 (by decide) ?_
  refine lv_istore_n hx hb d_Tx_comesBefore_1 rfl hl (by decide) rfl (fun ls hl => ?_)
  have hl : lv_has ls 4 [(3, .int (0 : Int32)), (0, .ref (g.1 10)), (1, .int x1), (2, .int x2)] := hl
  exact j1 x1 x2 (0 : Int32) σ _ _ _ (lv_sub hl [1, 2, 3, 0] rfl) hst h
set_option maxRecDepth 100000 in
set_option maxHeartbeats 4000000 in
theorem b_Tx_comesBefore_0_1 {p : Program} {l : Launch} {e : Env} {s : State} {m : MethodId} {args : Array Value} {below : List Frame} {meth : Method} {c : Code} {D : va_G} {g : Gm} {A : Nat → Prop} {post : Int32 → Sg → Prop} {F : Nat → Int32 → Int32 → Int32 → Sg → Prop} (C : kC p s m args meth c k_Tx_comesBefore 4 (some .boolean) GW R_Tx D vwCl g (Zk g) A) (j1 : J_Tx_comesBefore_0_1 p l e s m args below meth c D g A post F) (x1 : Int32) (x2 : Int32) (x3 : Int32) (σ : Sg) (H : Heap) (locs : List Loc) (ls : Array Slot) (hl : lv_has ls 4 [(0, .ref (g.1 10)), (1, .int x1), (2, .int x2), (3, .int x3)]) (hst : Wst D vwCl (WS g) A s σ H locs) (h : wb_Tx_comesBefore_1 0 F post x1 x2 x3 σ) : W p l e { frames := 0, cells := 0, slots := 0, locals := 0 } s m args below meth c H locs 0 0 (MQ below (QiW D vwCl (WS g) post A) args s 0 0 A) (F0 m 2 ls []) := by
  obtain ⟨hx, hb, hr, hml, hown, hts, hlocks, hK, hZ, hA⟩ := C
  unfold wb_Tx_comesBefore_1 at h
  refine lv_iload_n hx hb d_Tx_comesBefore_2 rfl (lv_at hl 3 rfl) ?_
  refine lv_aload_n hx hb d_Tx_comesBefore_3 rfl (lv_at hl 0 rfl) ?_
  refine va_get (D := D) (ci := 1) (C := R_Tx) (T := T_Tx) (N := 2) hx hb hts in_Tx hown hK hst.1 10 (WS_o10 g σ) rfl 1 (by decide) (hts _ gw112) (fun _ h9 => h9) rfl d_Tx_comesBefore_4 ?_
  refine lv_icmp_gt (tgt := 110) hx hb d_Tx_comesBefore_7 (by decide) (fun hc => ?_) (fun hc => ?_)
  · replace h := h.1 hc
    refine lv_iconst (v := (0 : Int32)) hx hb d_Tx_comesBefore_110 (by decide) ?_
    exact kw_zret hx hb hr hlocks hst h d_Tx_comesBefore_111
  · replace h := h.2 hc
    refine lv_iload_n hx hb d_Tx_comesBefore_10 rfl (lv_at hl 2 rfl) ?_
    refine lv_iload_n hx hb d_Tx_comesBefore_11 rfl (lv_at hl 3 rfl) ?_
    refine lv_iadd hx hb d_Tx_comesBefore_12 ?_
    refine lv_aload_n hx hb d_Tx_comesBefore_13 rfl (lv_at hl 0 rfl) ?_
    refine va_get (D := D) (ci := 1) (C := R_Tx) (T := T_Tx) (N := 2) hx hb hts in_Tx hown hK hst.1 10 (WS_o10 g σ) rfl 1 (by decide) (hts _ gw112) (fun _ h9 => h9) rfl d_Tx_comesBefore_14 ?_
    refine lv_icmp_ge (tgt := 33) hx hb d_Tx_comesBefore_17 (by decide) (fun hc => ?_) (fun hc => ?_)
    · replace h := h.1 hc
      refine lv_iconst (v := (0 : Int32)) hx hb d_Tx_comesBefore_33 (by decide) ?_
      exact kw_zret hx hb hr hlocks hst h d_Tx_comesBefore_34
    · replace h := h.2 hc
      refine lv_aload_n hx hb d_Tx_comesBefore_20 rfl (lv_at hl 0 rfl) ?_
      refine va_get (D := D) (ci := 1) (C := R_Tx) (T := T_Tx) (N := 2) hx hb hts in_Tx hown hK hst.1 10 (WS_o10 g σ) rfl 0 (by decide) (hts _ gw106) (fun _ h9 => h9) rfl d_Tx_comesBefore_21 ?_
      refine lv_iload_n hx hb d_Tx_comesBefore_24 rfl (lv_at hl 2 rfl) ?_
      refine lv_iload_n hx hb d_Tx_comesBefore_25 rfl (lv_at hl 3 rfl) ?_
      refine lv_iadd hx hb d_Tx_comesBefore_26 ?_
      obtain ⟨hi, h⟩ := h
      refine va_cald hx hb hK hst.1 11 1 (WS_a11 g σ) rfl hi d_Tx_comesBefore_27 ?_
      refine lv_bipush (v := (34 : Int32)) hx hb d_Tx_comesBefore_28 (by decide) ?_
      refine lv_icmp_ne (tgt := 35) hx hb d_Tx_comesBefore_30 (by decide) (fun hc => ?_) (fun hc => ?_)
      · replace h := h.1 hc
        refine lv_iload_n hx hb d_Tx_comesBefore_35 rfl (lv_at hl 1 rfl) ?_
        refine lv_iload_n hx hb d_Tx_comesBefore_36 rfl (lv_at hl 3 rfl) ?_
        refine lv_iadd hx hb d_Tx_comesBefore_37 ?_
        refine lv_aload_n hx hb d_Tx_comesBefore_38 rfl (lv_at hl 0 rfl) ?_
        refine va_get (D := D) (ci := 1) (C := R_Tx) (T := T_Tx) (N := 2) hx hb hts in_Tx hown hK hst.1 10 (WS_o10 g σ) rfl 1 (by decide) (hts _ gw112) (fun _ h9 => h9) rfl d_Tx_comesBefore_39 ?_
        refine lv_icmp_ge (tgt := 58) hx hb d_Tx_comesBefore_42 (by decide) (fun hc => ?_) (fun hc => ?_)
        · replace h := h.1 hc
          refine lv_iconst (v := (1 : Int32)) hx hb d_Tx_comesBefore_58 (by decide) ?_
          exact kw_zret hx hb hr hlocks hst h d_Tx_comesBefore_59
        · replace h := h.2 hc
          refine lv_aload_n hx hb d_Tx_comesBefore_45 rfl (lv_at hl 0 rfl) ?_
          refine va_get (D := D) (ci := 1) (C := R_Tx) (T := T_Tx) (N := 2) hx hb hts in_Tx hown hK hst.1 10 (WS_o10 g σ) rfl 0 (by decide) (hts _ gw106) (fun _ h9 => h9) rfl d_Tx_comesBefore_46 ?_
          refine lv_iload_n hx hb d_Tx_comesBefore_49 rfl (lv_at hl 1 rfl) ?_
          refine lv_iload_n hx hb d_Tx_comesBefore_50 rfl (lv_at hl 3 rfl) ?_
          refine lv_iadd hx hb d_Tx_comesBefore_51 ?_
          obtain ⟨hi, h⟩ := h
          refine va_cald hx hb hK hst.1 11 1 (WS_a11 g σ) rfl hi d_Tx_comesBefore_52 ?_
          refine lv_bipush (v := (34 : Int32)) hx hb d_Tx_comesBefore_53 (by decide) ?_
          refine lv_icmp_ne (tgt := 60) hx hb d_Tx_comesBefore_55 (by decide) (fun hc => ?_) (fun hc => ?_)
          · replace h := h.1 hc
            refine lv_aload_n hx hb d_Tx_comesBefore_60 rfl (lv_at hl 0 rfl) ?_
            refine va_get (D := D) (ci := 1) (C := R_Tx) (T := T_Tx) (N := 2) hx hb hts in_Tx hown hK hst.1 10 (WS_o10 g σ) rfl 0 (by decide) (hts _ gw106) (fun _ h9 => h9) rfl d_Tx_comesBefore_61 ?_
            refine lv_iload_n hx hb d_Tx_comesBefore_64 rfl (lv_at hl 1 rfl) ?_
            refine lv_iload_n hx hb d_Tx_comesBefore_65 rfl (lv_at hl 3 rfl) ?_
            refine lv_iadd hx hb d_Tx_comesBefore_66 ?_
            obtain ⟨hi, h⟩ := h
            refine va_cald hx hb hK hst.1 11 1 (WS_a11 g σ) rfl hi d_Tx_comesBefore_67 ?_
            refine lv_aload_n hx hb d_Tx_comesBefore_68 rfl (lv_at hl 0 rfl) ?_
            refine va_get (D := D) (ci := 1) (C := R_Tx) (T := T_Tx) (N := 2) hx hb hts in_Tx hown hK hst.1 10 (WS_o10 g σ) rfl 0 (by decide) (hts _ gw106) (fun _ h9 => h9) rfl d_Tx_comesBefore_69 ?_
            refine lv_iload_n hx hb d_Tx_comesBefore_72 rfl (lv_at hl 2 rfl) ?_
            refine lv_iload_n hx hb d_Tx_comesBefore_73 rfl (lv_at hl 3 rfl) ?_
            refine lv_iadd hx hb d_Tx_comesBefore_74 ?_
            obtain ⟨hi, h⟩ := h
            refine va_cald hx hb hK hst.1 11 1 (WS_a11 g σ) rfl hi d_Tx_comesBefore_75 ?_
            refine lv_icmp_eq (tgt := 104) hx hb d_Tx_comesBefore_76 (by decide) (fun hc => ?_) (fun hc => ?_)
            · replace h := h.1 hc
              refine lv_iinc (k := 3) (v := (x3 + 1)) hx hb d_Tx_comesBefore_104 hl rfl (kw_inc _ (by decide)) (by decide) rfl (fun ls hl => ?_)
              have hl : lv_has ls 4 [(3, .int (x3 + 1)), (0, .ref (g.1 10)), (1, .int x1), (2, .int x2)] := hl
              refine lv_goto (tgt := 2) hx hb d_Tx_comesBefore_107 (by decide) ?_
              exact j1 x1 x2 (x3 + 1) σ _ _ _ (lv_sub hl [1, 2, 3, 0] rfl) hst h
            · replace h := h.2 hc
              refine lv_aload_n hx hb d_Tx_comesBefore_79 rfl (lv_at hl 0 rfl) ?_
              refine va_get (D := D) (ci := 1) (C := R_Tx) (T := T_Tx) (N := 2) hx hb hts in_Tx hown hK hst.1 10 (WS_o10 g σ) rfl 0 (by decide) (hts _ gw106) (fun _ h9 => h9) rfl d_Tx_comesBefore_80 ?_
              refine lv_iload_n hx hb d_Tx_comesBefore_83 rfl (lv_at hl 1 rfl) ?_
              refine lv_iload_n hx hb d_Tx_comesBefore_84 rfl (lv_at hl 3 rfl) ?_
              refine lv_iadd hx hb d_Tx_comesBefore_85 ?_
              obtain ⟨hi, h⟩ := h
              refine va_cald hx hb hK hst.1 11 1 (WS_a11 g σ) rfl hi d_Tx_comesBefore_86 ?_
              refine lv_aload_n hx hb d_Tx_comesBefore_87 rfl (lv_at hl 0 rfl) ?_
              refine va_get (D := D) (ci := 1) (C := R_Tx) (T := T_Tx) (N := 2) hx hb hts in_Tx hown hK hst.1 10 (WS_o10 g σ) rfl 0 (by decide) (hts _ gw106) (fun _ h9 => h9) rfl d_Tx_comesBefore_88 ?_
              refine lv_iload_n hx hb d_Tx_comesBefore_91 rfl (lv_at hl 2 rfl) ?_
              refine lv_iload_n hx hb d_Tx_comesBefore_92 rfl (lv_at hl 3 rfl) ?_
              refine lv_iadd hx hb d_Tx_comesBefore_93 ?_
              obtain ⟨hi, h⟩ := h
              refine va_cald hx hb hK hst.1 11 1 (WS_a11 g σ) rfl hi d_Tx_comesBefore_94 ?_
              refine lv_icmp_ge (tgt := 102) hx hb d_Tx_comesBefore_95 (by decide) (fun hc => ?_) (fun hc => ?_)
              · replace h := h.1 hc
                refine lv_iconst (v := (0 : Int32)) hx hb d_Tx_comesBefore_102 (by decide) ?_
                exact kw_zret hx hb hr hlocks hst h d_Tx_comesBefore_103
              · replace h := h.2 hc
                refine lv_iconst (v := (1 : Int32)) hx hb d_Tx_comesBefore_98 (by decide) ?_
                refine lv_goto (tgt := 103) hx hb d_Tx_comesBefore_99 (by decide) ?_
                exact kw_zret hx hb hr hlocks hst h d_Tx_comesBefore_103
          · replace h := h.2 hc
            refine lv_iconst (v := (1 : Int32)) hx hb d_Tx_comesBefore_58 (by decide) ?_
            exact kw_zret hx hb hr hlocks hst h d_Tx_comesBefore_59
      · replace h := h.2 hc
        refine lv_iconst (v := (0 : Int32)) hx hb d_Tx_comesBefore_33 (by decide) ?_
        exact kw_zret hx hb hr hlocks hst h d_Tx_comesBefore_34
set_option maxRecDepth 100000 in
set_option maxHeartbeats 4000000 in
theorem a_Tx_comesBefore_0 {p : Program} {l : Launch} {e : Env} {s : State} {m : MethodId} {args : Array Value} {below : List Frame} {meth : Method} {c : Code} {D : va_G} {g : Gm} {A : Nat → Prop} {post : Int32 → Sg → Prop} (C : kC p s m args meth c k_Tx_comesBefore 4 (some .boolean) GW R_Tx D vwCl g (Zk g) A) : ∀ n : Nat, J_Tx_comesBefore_0_1 p l e s m args below meth c D g A post (wp_Tx_comesBefore 0 post n) := by
  intro n
  induction n with
  | zero => exact fun _ _ _ _ _ _ _ _ _ h => h.elim
  | succ n ih => exact fun x1 x2 x3 σ H locs ls hl hst h => b_Tx_comesBefore_0_1 (F := wp_Tx_comesBefore 0 post n) C (ih) x1 x2 x3 σ H locs ls hl hst h
set_option maxRecDepth 100000 in
set_option maxHeartbeats 4000000 in
theorem c_Tx_comesBefore_0 (l : Launch) {D : va_G} {g : Gm} {sz : Nat} (x1 : Int32) (x2 : Int32) {σ : Sg} {post : Int32 → Sg → Prop} (h : wq_Tx_comesBefore 0 x1 x2 σ post) : Met l y_Tx_comesBefore (.code y_Tx_comesBefore k_Tx_comesBefore 4 (some .boolean) :: GW) { frames := 0, cells := 0, slots := 0, locals := 0 } (PcW D vwCl (WS g) g (Zk g) σ sz [.ref (g.1 10), .int x1, .int x2]) (QiW D vwCl (WS g) post (va_A (WS g σ) sz)) 0 0 (va_A (WS g σ) sz) := by
  refine kw_entry (own := R_Tx) (by decide) rfl rfl (Nat.le_of_ble_eq_true rfl) ?_
  intro p e s m below meth c ls hsz C hin hl hst
  obtain ⟨n, h⟩ := h
  cases n with
  | zero => exact h.elim
  | succ n =>
    have ih := a_Tx_comesBefore_0 (l := l) (e := e) (below := below) (post := post) C n
    exact b_Tx_comesBefore_0_0 (F := wp_Tx_comesBefore 0 post n) C (ih) x1 x2 σ _ _ ls hl hst h
def J_Tx_comesBefore_13_1 (p : Program) (l : Launch) (e : Env) (s : State) (m : MethodId) (args : Array Value) (below : List Frame) (meth : Method) (c : Code) (D : va_G) (g : Gm) (A : Nat → Prop) (post : Int32 → Sg → Prop) (F : Nat → Int32 → Int32 → Int32 → Sg → Prop) : Prop := ∀ (x1 : Int32) (x2 : Int32) (x3 : Int32) (σ : Sg) (H : Heap) (locs : List Loc) (ls : Array Slot), lv_has ls 4 [(0, .ref (g.1 23)), (1, .int x1), (2, .int x2), (3, .int x3)] → Wst D vwCl (WS g) A s σ H locs → F 1 x1 x2 x3 σ → W p l e { frames := 0, cells := 0, slots := 0, locals := 0 } s m args below meth c H locs 0 0 (MQ below (QiW D vwCl (WS g) post A) args s 0 0 A) (F0 m 2 ls [])
set_option maxRecDepth 100000 in
set_option maxHeartbeats 4000000 in
theorem b_Tx_comesBefore_13_0 {p : Program} {l : Launch} {e : Env} {s : State} {m : MethodId} {args : Array Value} {below : List Frame} {meth : Method} {c : Code} {D : va_G} {g : Gm} {A : Nat → Prop} {post : Int32 → Sg → Prop} {F : Nat → Int32 → Int32 → Int32 → Sg → Prop} (C : kC p s m args meth c k_Tx_comesBefore 4 (some .boolean) GW R_Tx D vwCl g (Zk g) A) (j1 : J_Tx_comesBefore_13_1 p l e s m args below meth c D g A post F) (x1 : Int32) (x2 : Int32) (σ : Sg) (H : Heap) (locs : List Loc) (ls : Array Slot) (hl : lv_has ls 4 [(0, .ref (g.1 23)), (1, .int x1), (2, .int x2)]) (hst : Wst D vwCl (WS g) A s σ H locs) (h : wb_Tx_comesBefore_0 13 F post x1 x2 σ) : W p l e { frames := 0, cells := 0, slots := 0, locals := 0 } s m args below meth c H locs 0 0 (MQ below (QiW D vwCl (WS g) post A) args s 0 0 A) (F0 m 0 ls []) := by
  obtain ⟨hx, hb, hr, hml, hown, hts, hlocks, hK, hZ, hA⟩ := C
  unfold wb_Tx_comesBefore_0 at h
  refine lv_iconst (v := (0 : Int32)) hx hb d_Tx_comesBefore_0 (by decide) ?_
  refine lv_istore_n hx hb d_Tx_comesBefore_1 rfl hl (by decide) rfl (fun ls hl => ?_)
  have hl : lv_has ls 4 [(3, .int (0 : Int32)), (0, .ref (g.1 23)), (1, .int x1), (2, .int x2)] := hl
  exact j1 x1 x2 (0 : Int32) σ _ _ _ (lv_sub hl [1, 2, 3, 0] rfl) hst h
set_option maxRecDepth 100000 in
set_option maxHeartbeats 4000000 in
theorem b_Tx_comesBefore_13_1 {p : Program} {l : Launch} {e : Env} {s : State} {m : MethodId} {args : Array Value} {below : List Frame} {meth : Method} {c : Code} {D : va_G} {g : Gm} {A : Nat → Prop} {post : Int32 → Sg → Prop} {F : Nat → Int32 → Int32 → Int32 → Sg → Prop} (C : kC p s m args meth c k_Tx_comesBefore 4 (some .boolean) GW R_Tx D vwCl g (Zk g) A) (j1 : J_Tx_comesBefore_13_1 p l e s m args below meth c D g A post F) (x1 : Int32) (x2 : Int32) (x3 : Int32) (σ : Sg) (H : Heap) (locs : List Loc) (ls : Array Slot) (hl : lv_has ls 4 [(0, .ref (g.1 23)), (1, .int x1), (2, .int x2), (3, .int x3)]) (hst : Wst D vwCl (WS g) A s σ H locs) (h : wb_Tx_comesBefore_1 13 F post x1 x2 x3 σ) : W p l e { frames := 0, cells := 0, slots := 0, locals := 0 } s m args below meth c H locs 0 0 (MQ below (QiW D vwCl (WS g) post A) args s 0 0 A) (F0 m 2 ls []) := by
  obtain ⟨hx, hb, hr, hml, hown, hts, hlocks, hK, hZ, hA⟩ := C
  unfold wb_Tx_comesBefore_1 at h
  refine lv_iload_n hx hb d_Tx_comesBefore_2 rfl (lv_at hl 3 rfl) ?_
  refine lv_aload_n hx hb d_Tx_comesBefore_3 rfl (lv_at hl 0 rfl) ?_
  refine va_get (D := D) (ci := 1) (C := R_Tx) (T := T_Tx) (N := 2) hx hb hts in_Tx hown hK hst.1 23 (WS_o23 g σ) rfl 1 (by decide) (hts _ gw112) (fun _ h9 => h9) rfl d_Tx_comesBefore_4 ?_
  refine lv_icmp_gt (tgt := 110) hx hb d_Tx_comesBefore_7 (by decide) (fun hc => ?_) (fun hc => ?_)
  · replace h := h.1 hc
    refine lv_iconst (v := (0 : Int32)) hx hb d_Tx_comesBefore_110 (by decide) ?_
    exact kw_zret hx hb hr hlocks hst h d_Tx_comesBefore_111
  · replace h := h.2 hc
    refine lv_iload_n hx hb d_Tx_comesBefore_10 rfl (lv_at hl 2 rfl) ?_
    refine lv_iload_n hx hb d_Tx_comesBefore_11 rfl (lv_at hl 3 rfl) ?_
    refine lv_iadd hx hb d_Tx_comesBefore_12 ?_
    refine lv_aload_n hx hb d_Tx_comesBefore_13 rfl (lv_at hl 0 rfl) ?_
    refine va_get (D := D) (ci := 1) (C := R_Tx) (T := T_Tx) (N := 2) hx hb hts in_Tx hown hK hst.1 23 (WS_o23 g σ) rfl 1 (by decide) (hts _ gw112) (fun _ h9 => h9) rfl d_Tx_comesBefore_14 ?_
    refine lv_icmp_ge (tgt := 33) hx hb d_Tx_comesBefore_17 (by decide) (fun hc => ?_) (fun hc => ?_)
    · replace h := h.1 hc
      refine lv_iconst (v := (0 : Int32)) hx hb d_Tx_comesBefore_33 (by decide) ?_
      exact kw_zret hx hb hr hlocks hst h d_Tx_comesBefore_34
    · replace h := h.2 hc
      refine lv_aload_n hx hb d_Tx_comesBefore_20 rfl (lv_at hl 0 rfl) ?_
      refine va_get (D := D) (ci := 1) (C := R_Tx) (T := T_Tx) (N := 2) hx hb hts in_Tx hown hK hst.1 23 (WS_o23 g σ) rfl 0 (by decide) (hts _ gw106) (fun _ h9 => h9) rfl d_Tx_comesBefore_21 ?_
      refine lv_iload_n hx hb d_Tx_comesBefore_24 rfl (lv_at hl 2 rfl) ?_
      refine lv_iload_n hx hb d_Tx_comesBefore_25 rfl (lv_at hl 3 rfl) ?_
      refine lv_iadd hx hb d_Tx_comesBefore_26 ?_
      obtain ⟨hi, h⟩ := h
      refine va_cald hx hb hK hst.1 24 1 (WS_a24 g σ) rfl hi d_Tx_comesBefore_27 ?_
      refine lv_bipush (v := (34 : Int32)) hx hb d_Tx_comesBefore_28 (by decide) ?_
      refine lv_icmp_ne (tgt := 35) hx hb d_Tx_comesBefore_30 (by decide) (fun hc => ?_) (fun hc => ?_)
      · replace h := h.1 hc
        refine lv_iload_n hx hb d_Tx_comesBefore_35 rfl (lv_at hl 1 rfl) ?_
        refine lv_iload_n hx hb d_Tx_comesBefore_36 rfl (lv_at hl 3 rfl) ?_
        refine lv_iadd hx hb d_Tx_comesBefore_37 ?_
        refine lv_aload_n hx hb d_Tx_comesBefore_38 rfl (lv_at hl 0 rfl) ?_
        refine va_get (D := D) (ci := 1) (C := R_Tx) (T := T_Tx) (N := 2) hx hb hts in_Tx hown hK hst.1 23 (WS_o23 g σ) rfl 1 (by decide) (hts _ gw112) (fun _ h9 => h9) rfl d_Tx_comesBefore_39 ?_
        refine lv_icmp_ge (tgt := 58) hx hb d_Tx_comesBefore_42 (by decide) (fun hc => ?_) (fun hc => ?_)
        · replace h := h.1 hc
          refine lv_iconst (v := (1 : Int32)) hx hb d_Tx_comesBefore_58 (by decide) ?_
          exact kw_zret hx hb hr hlocks hst h d_Tx_comesBefore_59
        · replace h := h.2 hc
          refine lv_aload_n hx hb d_Tx_comesBefore_45 rfl (lv_at hl 0 rfl) ?_
          refine va_get (D := D) (ci := 1) (C := R_Tx) (T := T_Tx) (N := 2) hx hb hts in_Tx hown hK hst.1 23 (WS_o23 g σ) rfl 0 (by decide) (hts _ gw106) (fun _ h9 => h9) rfl d_Tx_comesBefore_46 ?_
          refine lv_iload_n hx hb d_Tx_comesBefore_49 rfl (lv_at hl 1 rfl) ?_
          refine lv_iload_n hx hb d_Tx_comesBefore_50 rfl (lv_at hl 3 rfl) ?_
          refine lv_iadd hx hb d_Tx_comesBefore_51 ?_
          obtain ⟨hi, h⟩ := h
          refine va_cald hx hb hK hst.1 24 1 (WS_a24 g σ) rfl hi d_Tx_comesBefore_52 ?_
          refine lv_bipush (v := (34 : Int32)) hx hb d_Tx_comesBefore_53 (by decide) ?_
          refine lv_icmp_ne (tgt := 60) hx hb d_Tx_comesBefore_55 (by decide) (fun hc => ?_) (fun hc => ?_)
          · replace h := h.1 hc
            refine lv_aload_n hx hb d_Tx_comesBefore_60 rfl (lv_at hl 0 rfl) ?_
            refine va_get (D := D) (ci := 1) (C := R_Tx) (T := T_Tx) (N := 2) hx hb hts in_Tx hown hK hst.1 23 (WS_o23 g σ) rfl 0 (by decide) (hts _ gw106) (fun _ h9 => h9) rfl d_Tx_comesBefore_61 ?_
            refine lv_iload_n hx hb d_Tx_comesBefore_64 rfl (lv_at hl 1 rfl) ?_
            refine lv_iload_n hx hb d_Tx_comesBefore_65 rfl (lv_at hl 3 rfl) ?_
            refine lv_iadd hx hb d_Tx_comesBefore_66 ?_
            obtain ⟨hi, h⟩ := h
            refine va_cald hx hb hK hst.1 24 1 (WS_a24 g σ) rfl hi d_Tx_comesBefore_67 ?_
            refine lv_aload_n hx hb d_Tx_comesBefore_68 rfl (lv_at hl 0 rfl) ?_
            refine va_get (D := D) (ci := 1) (C := R_Tx) (T := T_Tx) (N := 2) hx hb hts in_Tx hown hK hst.1 23 (WS_o23 g σ) rfl 0 (by decide) (hts _ gw106) (fun _ h9 => h9) rfl d_Tx_comesBefore_69 ?_
            refine lv_iload_n hx hb d_Tx_comesBefore_72 rfl (lv_at hl 2 rfl) ?_
            refine lv_iload_n hx hb d_Tx_comesBefore_73 rfl (lv_at hl 3 rfl) ?_
            refine lv_iadd hx hb d_Tx_comesBefore_74 ?_
            obtain ⟨hi, h⟩ := h
            refine va_cald hx hb hK hst.1 24 1 (WS_a24 g σ) rfl hi d_Tx_comesBefore_75 ?_
            refine lv_icmp_eq (tgt := 104) hx hb d_Tx_comesBefore_76 (by decide) (fun hc => ?_) (fun hc => ?_)
            · replace h := h.1 hc
              refine lv_iinc (k := 3) (v := (x3 + 1)) hx hb d_Tx_comesBefore_104 hl rfl (kw_inc _ (by decide)) (by decide) rfl (fun ls hl => ?_)
              have hl : lv_has ls 4 [(3, .int (x3 + 1)), (0, .ref (g.1 23)), (1, .int x1), (2, .int x2)] := hl
              refine lv_goto (tgt := 2) hx hb d_Tx_comesBefore_107 (by decide) ?_
              exact j1 x1 x2 (x3 + 1) σ _ _ _ (lv_sub hl [1, 2, 3, 0] rfl) hst h
            · replace h := h.2 hc
              refine lv_aload_n hx hb d_Tx_comesBefore_79 rfl (lv_at hl 0 rfl) ?_
              refine va_get (D := D) (ci := 1) (C := R_Tx) (T := T_Tx) (N := 2) hx hb hts in_Tx hown hK hst.1 23 (WS_o23 g σ) rfl 0 (by decide) (hts _ gw106) (fun _ h9 => h9) rfl d_Tx_comesBefore_80 ?_
              refine lv_iload_n hx hb d_Tx_comesBefore_83 rfl (lv_at hl 1 rfl) ?_
              refine lv_iload_n hx hb d_Tx_comesBefore_84 rfl (lv_at hl 3 rfl) ?_
              refine lv_iadd hx hb d_Tx_comesBefore_85 ?_
              obtain ⟨hi, h⟩ := h
              refine va_cald hx hb hK hst.1 24 1 (WS_a24 g σ) rfl hi d_Tx_comesBefore_86 ?_
              refine lv_aload_n hx hb d_Tx_comesBefore_87 rfl (lv_at hl 0 rfl) ?_
              refine va_get (D := D) (ci := 1) (C := R_Tx) (T := T_Tx) (N := 2) hx hb hts in_Tx hown hK hst.1 23 (WS_o23 g σ) rfl 0 (by decide) (hts _ gw106) (fun _ h9 => h9) rfl d_Tx_comesBefore_88 ?_
              refine lv_iload_n hx hb d_Tx_comesBefore_91 rfl (lv_at hl 2 rfl) ?_
              refine lv_iload_n hx hb d_Tx_comesBefore_92 rfl (lv_at hl 3 rfl) ?_
              refine lv_iadd hx hb d_Tx_comesBefore_93 ?_
              obtain ⟨hi, h⟩ := h
              refine va_cald hx hb hK hst.1 24 1 (WS_a24 g σ) rfl hi d_Tx_comesBefore_94 ?_
              refine lv_icmp_ge (tgt := 102) hx hb d_Tx_comesBefore_95 (by decide) (fun hc => ?_) (fun hc => ?_)
              · replace h := h.1 hc
                refine lv_iconst (v := (0 : Int32)) hx hb d_Tx_comesBefore_102 (by decide) ?_
                exact kw_zret hx hb hr hlocks hst h d_Tx_comesBefore_103
              · replace h := h.2 hc
                refine lv_iconst (v := (1 : Int32)) hx hb d_Tx_comesBefore_98 (by decide) ?_
                refine lv_goto (tgt := 103) hx hb d_Tx_comesBefore_99 (by decide) ?_
                exact kw_zret hx hb hr hlocks hst h d_Tx_comesBefore_103
          · replace h := h.2 hc
            refine lv_iconst (v := (1 : Int32)) hx hb d_Tx_comesBefore_58 (by decide) ?_
            exact kw_zret hx hb hr hlocks hst h d_Tx_comesBefore_59
      · replace h := h.2 hc
        refine lv_iconst (v := (0 : Int32)) hx hb d_Tx_comesBefore_33 (by decide) ?_
        exact kw_zret hx hb hr hlocks hst h d_Tx_comesBefore_34
set_option maxRecDepth 100000 in
set_option maxHeartbeats 4000000 in
theorem a_Tx_comesBefore_13 {p : Program} {l : Launch} {e : Env} {s : State} {m : MethodId} {args : Array Value} {below : List Frame} {meth : Method} {c : Code} {D : va_G} {g : Gm} {A : Nat → Prop} {post : Int32 → Sg → Prop} (C : kC p s m args meth c k_Tx_comesBefore 4 (some .boolean) GW R_Tx D vwCl g (Zk g) A) : ∀ n : Nat, J_Tx_comesBefore_13_1 p l e s m args below meth c D g A post (wp_Tx_comesBefore 13 post n) := by
  intro n
  induction n with
  | zero => exact fun _ _ _ _ _ _ _ _ _ h => h.elim
  | succ n ih => exact fun x1 x2 x3 σ H locs ls hl hst h => b_Tx_comesBefore_13_1 (F := wp_Tx_comesBefore 13 post n) C (ih) x1 x2 x3 σ H locs ls hl hst h
set_option maxRecDepth 100000 in
set_option maxHeartbeats 4000000 in
theorem c_Tx_comesBefore_13 (l : Launch) {D : va_G} {g : Gm} {sz : Nat} (x1 : Int32) (x2 : Int32) {σ : Sg} {post : Int32 → Sg → Prop} (h : wq_Tx_comesBefore 13 x1 x2 σ post) : Met l y_Tx_comesBefore (.code y_Tx_comesBefore k_Tx_comesBefore 4 (some .boolean) :: GW) { frames := 0, cells := 0, slots := 0, locals := 0 } (PcW D vwCl (WS g) g (Zk g) σ sz [.ref (g.1 23), .int x1, .int x2]) (QiW D vwCl (WS g) post (va_A (WS g σ) sz)) 0 0 (va_A (WS g σ) sz) := by
  refine kw_entry (own := R_Tx) (by decide) rfl rfl (Nat.le_of_ble_eq_true rfl) ?_
  intro p e s m below meth c ls hsz C hin hl hst
  obtain ⟨n, h⟩ := h
  cases n with
  | zero => exact h.elim
  | succ n =>
    have ih := a_Tx_comesBefore_13 (l := l) (e := e) (below := below) (post := post) C n
    exact b_Tx_comesBefore_13_0 (F := wp_Tx_comesBefore 13 post n) C (ih) x1 x2 σ _ _ ls hl hst h
