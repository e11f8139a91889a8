/-! SchemaDeskModel.thrown ()I -/
abbrev k_Md_thrown : ByteArray := prog_12_method_2_code
abbrev y_Md_thrown : MethodName := ⟨"SchemaDeskModel", "thrown", "()I"⟩
theorem d_Md_thrown_0 : decode k_Md_thrown 0 = .ok (.aload_n 0, 1) := by decide +kernel
theorem d_Md_thrown_1 : decode k_Md_thrown 1 = .ok (.getfield 177, 3) := by decide +kernel
theorem d_Md_thrown_4 : decode k_Md_thrown 4 = .ok (.ireturn, 1) := by decide +kernel
theorem gw1065 : (Jvm.Cond.fieldLink "SchemaDeskModel" (177 : Nat) "SchemaDeskModel" "code" "I") ∈ GW := gw_t5 (List.mem_of_getElem? (i := 105) rfl) rfl
def wq_Md_thrown (σ : Sg) (post : Int32 → Sg → Prop) : Prop := post (σ.1 54 1) σ
set_option maxRecDepth 100000 in
set_option maxHeartbeats 4000000 in
theorem b_Md_thrown_0 {p : Program} {l : Launch} {e : Env} {s : State} {m : MethodId} {args : Array Value} {below : List Frame} {meth : Method} {c : Code} {D : va_G} {g : Gm} {A : Nat → Prop} {post : Int32 → Sg → Prop} (C : kC p s m args meth c k_Md_thrown 1 (some .int) GW R_Md D vwCl g (Zk g) A) (σ : Sg) (H : Heap) (locs : List Loc) (ls : Array Slot) (hl : lv_has ls 1 [(0, .ref (g.1 54))]) (hst : Wst D vwCl (WS g) A s σ H locs) (h : wq_Md_thrown  σ post) : W p l e { frames := 0, cells := 0, slots := 0, locals := 0 } s m args below meth c H locs 0 0 (MQ below (QiW D vwCl (WS g) post A) args s 0 0 A) (F0 m 0 ls []) := by
  obtain ⟨hx, hb, hr, hml, hown, hts, hlocks, hK, hZ, hA⟩ := C
  unfold wq_Md_thrown at h
  refine lv_aload_n hx hb d_Md_thrown_0 rfl (lv_at hl 0 rfl) ?_
  refine va_get (D := D) (ci := 10) (C := R_Md) (T := T_Md) (N := 46) hx hb hts in_Md hown hK hst.1 54 (WS_o54 g σ) rfl 1 (by decide) (hts _ gw1065) (fun _ h9 => h9) rfl d_Md_thrown_1 ?_
  exact kw_iret hx hb hr hlocks hst h d_Md_thrown_4
set_option maxRecDepth 100000 in
set_option maxHeartbeats 4000000 in
theorem c_Md_thrown (l : Launch) {D : va_G} {g : Gm} {sz : Nat} {σ : Sg} {post : Int32 → Sg → Prop} (h : wq_Md_thrown σ post) : Met l y_Md_thrown (.code y_Md_thrown k_Md_thrown 1 (some .int) :: GW) { frames := 0, cells := 0, slots := 0, locals := 0 } (PcW D vwCl (WS g) g (Zk g) σ sz [.ref (g.1 54)]) (QiW D vwCl (WS g) post (va_A (WS g σ) sz)) 0 0 (va_A (WS g σ) sz) := by
  refine kw_entry (own := R_Md) (by decide) rfl rfl (Nat.le_of_ble_eq_true rfl) ?_
  intro p e s m below meth c ls hsz C hin hl hst
  exact b_Md_thrown_0 C σ _ _ ls hl hst h
/-! SchemaDeskModel.fails (I)I -/
abbrev k_Md_fails : ByteArray := prog_12_method_3_code
abbrev y_Md_fails : MethodName := ⟨"SchemaDeskModel", "fails", "(I)I"⟩
theorem d_Md_fails_0 : decode k_Md_fails 0 = .ok (.aload_n 0, 1) := by decide +kernel
theorem d_Md_fails_1 : decode k_Md_fails 1 = .ok (.iload_n 1, 1) := by decide +kernel
theorem d_Md_fails_2 : decode k_Md_fails 2 = .ok (.putfield 177, 3) := by decide +kernel
theorem d_Md_fails_5 : decode k_Md_fails 5 = .ok (.iconst 0, 1) := by decide +kernel
theorem d_Md_fails_6 : decode k_Md_fails 6 = .ok (.ireturn, 1) := by decide +kernel
def wq_Md_fails (x1 : Int32) (σ : Sg) (post : Int32 → Sg → Prop) : Prop := (∀ σ1, σ1 = si σ 54 1 x1 → post (0 : Int32) σ1)
set_option maxRecDepth 100000 in
set_option maxHeartbeats 4000000 in
theorem b_Md_fails_0 {p : Program} {l : Launch} {e : Env} {s : State} {m : MethodId} {args : Array Value} {below : List Frame} {meth : Method} {c : Code} {D : va_G} {g : Gm} {A : Nat → Prop} {post : Int32 → Sg → Prop} (C : kC p s m args meth c k_Md_fails 2 (some .int) GW R_Md D vwCl g (Zk g) A) (x1 : Int32) (σ : Sg) (H : Heap) (locs : List Loc) (ls : Array Slot) (hl : lv_has ls 2 [(0, .ref (g.1 54)), (1, .int x1)]) (hst : Wst D vwCl (WS g) A s σ H locs) (h : wq_Md_fails x1 σ post) : W p l e { frames := 0, cells := 0, slots := 0, locals := 0 } s m args below meth c H locs 0 0 (MQ below (QiW D vwCl (WS g) post A) args s 0 0 A) (F0 m 0 ls []) := by
  obtain ⟨hx, hb, hr, hml, hown, hts, hlocks, hK, hZ, hA⟩ := C
  unfold wq_Md_fails at h
  refine lv_aload_n hx hb d_Md_fails_0 rfl (lv_at hl 0 rfl) ?_
  refine lv_iload_n hx hb d_Md_fails_1 rfl (lv_at hl 1 rfl) ?_
  refine kw_put (D := D) (ci := 10) (ty := .int) (C := R_Md) (T := T_Md) (N := 46) hx hb hts in_Md ty_Md ty_Md_ok nm_Md hown hK hst 54 (WS_o54 g σ) rfl 1 (by decide) (hts _ gw1065) (fun _ h9 => h9) rfl (by decide +kernel) rfl rfl (Nat.le_of_ble_eq_true rfl) (WS_p54_1 g σ _) d_Md_fails_2 (fun σ1 H locs e1 hst => ?_)
  replace h := h σ1 e1
  refine lv_iconst (v := (0 : Int32)) hx hb d_Md_fails_5 (by decide) ?_
  exact kw_iret hx hb hr hlocks hst h d_Md_fails_6
set_option maxRecDepth 100000 in
set_option maxHeartbeats 4000000 in
theorem c_Md_fails (l : Launch) {D : va_G} {g : Gm} {sz : Nat} (x1 : Int32) {σ : Sg} {post : Int32 → Sg → Prop} (h : wq_Md_fails x1 σ post) : Met l y_Md_fails (.code y_Md_fails k_Md_fails 2 (some .int) :: GW) { frames := 0, cells := 0, slots := 0, locals := 0 } (PcW D vwCl (WS g) g (Zk g) σ sz [.ref (g.1 54), .int x1]) (QiW D vwCl (WS g) post (va_A (WS g σ) sz)) 0 0 (va_A (WS g σ) sz) := by
  refine kw_entry (own := R_Md) (by decide) rfl rfl (Nat.le_of_ble_eq_true rfl) ?_
  intro p e s m below meth c ls hsz C hin hl hst
  exact b_Md_fails_0 C x1 σ _ _ ls hl hst h
/-! SchemaDeskModel.isText (I)Z -/
abbrev k_Md_isText : ByteArray := prog_12_method_4_code
abbrev y_Md_isText : MethodName := ⟨"SchemaDeskModel", "isText", "(I)Z"⟩
theorem d_Md_isText_0 : decode k_Md_isText 0 = .ok (.iload_n 0, 1) := by decide +kernel
theorem d_Md_isText_1 : decode k_Md_isText 1 = .ok (.ifCond .eq 8, 3) := by decide +kernel
theorem d_Md_isText_4 : decode k_Md_isText 4 = .ok (.iload_n 0, 1) := by decide +kernel
theorem d_Md_isText_5 : decode k_Md_isText 5 = .ok (.iconst 1, 1) := by decide +kernel
theorem d_Md_isText_6 : decode k_Md_isText 6 = .ok (.if_icmp .ne 7, 3) := by decide +kernel
theorem d_Md_isText_9 : decode k_Md_isText 9 = .ok (.iconst 1, 1) := by decide +kernel
theorem d_Md_isText_10 : decode k_Md_isText 10 = .ok (.goto 4, 3) := by decide +kernel
theorem d_Md_isText_13 : decode k_Md_isText 13 = .ok (.iconst 0, 1) := by decide +kernel
theorem d_Md_isText_14 : decode k_Md_isText 14 = .ok (.ireturn, 1) := by decide +kernel
def wq_Md_isText (x0 : Int32) (σ : Sg) (post : Int32 → Sg → Prop) : Prop := ((x0 = 0 → (narrow .boolean (.int (1 : Int32)) = .int (1 : Int32) ∧ post (1 : Int32) σ)) ∧ (¬ x0 = 0 → ((¬ x0 = (1 : Int32) → (narrow .boolean (.int (0 : Int32)) = .int (0 : Int32) ∧ post (0 : Int32) σ)) ∧ (x0 = (1 : Int32) → (narrow .boolean (.int (1 : Int32)) = .int (1 : Int32) ∧ post (1 : Int32) σ)))))
set_option maxRecDepth 100000 in
set_option maxHeartbeats 4000000 in
theorem b_Md_isText_0 {p : Program} {l : Launch} {e : Env} {s : State} {m : MethodId} {args : Array Value} {below : List Frame} {meth : Method} {c : Code} {D : va_G} {g : Gm} {A : Nat → Prop} {post : Int32 → Sg → Prop} (C : kC p s m args meth c k_Md_isText 1 (some .boolean) GW R_Md D vwCl g (Zk g) A) (x0 : Int32) (σ : Sg) (H : Heap) (locs : List Loc) (ls : Array Slot) (hl : lv_has ls 1 [(0, .int x0)]) (hst : Wst D vwCl (WS g) A s σ H locs) (h : wq_Md_isText x0 σ post) : W p l e { frames := 0, cells := 0, slots := 0, locals := 0 } s m args below meth c H locs 0 0 (MQ below (QiW D vwCl (WS g) post A) args s 0 0 A) (F0 m 0 ls []) := by
  obtain ⟨hx, hb, hr, hml, hown, hts, hlocks, hK, hZ, hA⟩ := C
  unfold wq_Md_isText at h
  refine lv_iload_n hx hb d_Md_isText_0 rfl (lv_at hl 0 rfl) ?_
  refine lv_if_eq (tgt := 9) hx hb d_Md_isText_1 (by decide) (fun hc => ?_) (fun hc => ?_)
  · replace h := h.1 hc
    refine lv_iconst (v := (1 : Int32)) hx hb d_Md_isText_9 (by decide) ?_
    refine lv_goto (tgt := 14) hx hb d_Md_isText_10 (by decide) ?_
    exact kw_zret hx hb hr hlocks hst h d_Md_isText_14
  · replace h := h.2 hc
    refine lv_iload_n hx hb d_Md_isText_4 rfl (lv_at hl 0 rfl) ?_
    refine lv_iconst (v := (1 : Int32)) hx hb d_Md_isText_5 (by decide) ?_
    refine lv_icmp_ne (tgt := 13) hx hb d_Md_isText_6 (by decide) (fun hc => ?_) (fun hc => ?_)
    · replace h := h.1 hc
      refine lv_iconst (v := (0 : Int32)) hx hb d_Md_isText_13 (by decide) ?_
      exact kw_zret hx hb hr hlocks hst h d_Md_isText_14
    · replace h := h.2 hc
      refine lv_iconst (v := (1 : Int32)) hx hb d_Md_isText_9 (by decide) ?_
      refine lv_goto (tgt := 14) hx hb d_Md_isText_10 (by decide) ?_
      exact kw_zret hx hb hr hlocks hst h d_Md_isText_14
set_option maxRecDepth 100000 in
set_option maxHeartbeats 4000000 in
theorem c_Md_isText (l : Launch) {D : va_G} {g : Gm} {sz : Nat} (x0 : Int32) {σ : Sg} {post : Int32 → Sg → Prop} (h : wq_Md_isText x0 σ post) : Met l y_Md_isText (.code y_Md_isText k_Md_isText 1 (some .boolean) :: GW) { frames := 0, cells := 0, slots := 0, locals := 0 } (PcW D vwCl (WS g) g (Zk g) σ sz [.int x0]) (QiW D vwCl (WS g) post (va_A (WS g σ) sz)) 0 0 (va_A (WS g σ) sz) := by
  refine kw_entry (own := R_Md) (by decide) rfl rfl (Nat.le_of_ble_eq_true rfl) ?_
  intro p e s m below meth c ls hsz C hin hl hst
  exact b_Md_isText_0 C x0 σ _ _ ls hl hst h
/-! SchemaDeskModel.room (I)I -/
abbrev k_Md_room : ByteArray := prog_12_method_5_code
abbrev y_Md_room : MethodName := ⟨"SchemaDeskModel", "room", "(I)I"⟩
theorem d_Md_room_0 : decode k_Md_room 0 = .ok (.iload_n 0, 1) := by decide +kernel
theorem d_Md_room_1 : decode k_Md_room 1 = .ok (.ifCond .ne 9, 3) := by decide +kernel
theorem d_Md_room_4 : decode k_Md_room 4 = .ok (.sipush 160, 3) := by decide +kernel
theorem d_Md_room_7 : decode k_Md_room 7 = .ok (.goto 5, 3) := by decide +kernel
theorem d_Md_room_10 : decode k_Md_room 10 = .ok (.bipush 80, 2) := by decide +kernel
theorem d_Md_room_12 : decode k_Md_room 12 = .ok (.ireturn, 1) := by decide +kernel
def wq_Md_room (x0 : Int32) (σ : Sg) (post : Int32 → Sg → Prop) : Prop := ((¬ x0 = 0 → post (80 : Int32) σ) ∧ (x0 = 0 → post (160 : Int32) σ))
set_option maxRecDepth 100000 in
set_option maxHeartbeats 4000000 in
theorem b_Md_room_0 {p : Program} {l : Launch} {e : Env} {s : State} {m : MethodId} {args : Array Value} {below : List Frame} {meth : Method} {c : Code} {D : va_G} {g : Gm} {A : Nat → Prop} {post : Int32 → Sg → Prop} (C : kC p s m args meth c k_Md_room 1 (some .int) GW R_Md D vwCl g (Zk g) A) (x0 : Int32) (σ : Sg) (H : Heap) (locs : List Loc) (ls : Array Slot) (hl : lv_has ls 1 [(0, .int x0)]) (hst : Wst D vwCl (WS g) A s σ H locs) (h : wq_Md_room x0 σ post) : W p l e { frames := 0, cells := 0, slots := 0, locals := 0 } s m args below meth c H locs 0 0 (MQ below (QiW D vwCl (WS g) post A) args s 0 0 A) (F0 m 0 ls []) := by
  obtain ⟨hx, hb, hr, hml, hown, hts, hlocks, hK, hZ, hA⟩ := C
  unfold wq_Md_room at h
  refine lv_iload_n hx hb d_Md_room_0 rfl (lv_at hl 0 rfl) ?_
  refine lv_if_ne (tgt := 10) hx hb d_Md_room_1 (by decide) (fun hc => ?_) (fun hc => ?_)
  · replace h := h.1 hc
    refine lv_bipush (v := (80 : Int32)) hx hb d_Md_room_10 (by decide) ?_
    exact kw_iret hx hb hr hlocks hst h d_Md_room_12
  · replace h := h.2 hc
    refine lv_sipush (v := (160 : Int32)) hx hb d_Md_room_4 (by decide) ?_
    refine lv_goto (tgt := 12) hx hb d_Md_room_7 (by decide) ?_
    exact kw_iret hx hb hr hlocks hst h d_Md_room_12
set_option maxRecDepth 100000 in
set_option maxHeartbeats 4000000 in
theorem c_Md_room (l : Launch) {D : va_G} {g : Gm} {sz : Nat} (x0 : Int32) {σ : Sg} {post : Int32 → Sg → Prop} (h : wq_Md_room x0 σ post) : Met l y_Md_room (.code y_Md_room k_Md_room 1 (some .int) :: GW) { frames := 0, cells := 0, slots := 0, locals := 0 } (PcW D vwCl (WS g) g (Zk g) σ sz [.int x0]) (QiW D vwCl (WS g) post (va_A (WS g σ) sz)) 0 0 (va_A (WS g σ) sz) := by
  refine kw_entry (own := R_Md) (by decide) rfl rfl (Nat.le_of_ble_eq_true rfl) ?_
  intro p e s m below meth c ls hsz C hin hl hst
  exact b_Md_room_0 C x0 σ _ _ ls hl hst h
/-! SchemaDeskModel.isChar (I)Z -/
abbrev k_Md_isChar : ByteArray := prog_12_method_6_code
abbrev y_Md_isChar : MethodName := ⟨"SchemaDeskModel", "isChar", "(I)Z"⟩
theorem d_Md_isChar_0 : decode k_Md_isChar 0 = .ok (.iload_n 0, 1) := by decide +kernel
theorem d_Md_isChar_1 : decode k_Md_isChar 1 = .ok (.bipush 32, 2) := by decide +kernel
theorem d_Md_isChar_3 : decode k_Md_isChar 3 = .ok (.if_icmp .lt 13, 3) := by decide +kernel
theorem d_Md_isChar_6 : decode k_Md_isChar 6 = .ok (.iload_n 0, 1) := by decide +kernel
theorem d_Md_isChar_7 : decode k_Md_isChar 7 = .ok (.bipush 126, 2) := by decide +kernel
theorem d_Md_isChar_9 : decode k_Md_isChar 9 = .ok (.if_icmp .gt 7, 3) := by decide +kernel
theorem d_Md_isChar_12 : decode k_Md_isChar 12 = .ok (.iconst 1, 1) := by decide +kernel
theorem d_Md_isChar_13 : decode k_Md_isChar 13 = .ok (.goto 4, 3) := by decide +kernel
theorem d_Md_isChar_16 : decode k_Md_isChar 16 = .ok (.iconst 0, 1) := by decide +kernel
theorem d_Md_isChar_17 : decode k_Md_isChar 17 = .ok (.ireturn, 1) := by decide +kernel
def wq_Md_isChar (x0 : Int32) (σ : Sg) (post : Int32 → Sg → Prop) : Prop := ((x0 < (32 : Int32) → (narrow .boolean (.int (0 : Int32)) = .int (0 : Int32) ∧ post (0 : Int32) σ)) ∧ (¬ x0 < (32 : Int32) → (((126 : Int32) < x0 → (narrow .boolean (.int (0 : Int32)) = .int (0 : Int32) ∧ post (0 : Int32) σ)) ∧ (¬ (126 : Int32) < x0 → (narrow .boolean (.int (1 : Int32)) = .int (1 : Int32) ∧ post (1 : Int32) σ)))))
set_option maxRecDepth 100000 in
set_option maxHeartbeats 4000000 in
theorem b_Md_isChar_0 {p : Program} {l : Launch} {e : Env} {s : State} {m : MethodId} {args : Array Value} {below : List Frame} {meth : Method} {c : Code} {D : va_G} {g : Gm} {A : Nat → Prop} {post : Int32 → Sg → Prop} (C : kC p s m args meth c k_Md_isChar 1 (some .boolean) GW R_Md D vwCl g (Zk g) A) (x0 : Int32) (σ : Sg) (H : Heap) (locs : List Loc) (ls : Array Slot) (hl : lv_has ls 1 [(0, .int x0)]) (hst : Wst D vwCl (WS g) A s σ H locs) (h : wq_Md_isChar x0 σ post) : W p l e { frames := 0, cells := 0, slots := 0, locals := 0 } s m args below meth c H locs 0 0 (MQ below (QiW D vwCl (WS g) post A) args s 0 0 A) (F0 m 0 ls []) := by
  obtain ⟨hx, hb, hr, hml, hown, hts, hlocks, hK, hZ, hA⟩ := C
  unfold wq_Md_isChar at h
  refine lv_iload_n hx hb d_Md_isChar_0 rfl (lv_at hl 0 rfl) ?_
  refine lv_bipush (v := (32 : Int32)) hx hb d_Md_isChar_1 (by decide) ?_
  refine lv_icmp_lt (tgt := 16) hx hb d_Md_isChar_3 (by decide) (fun hc => ?_) (fun hc => ?_)
  · replace h := h.1 hc
    refine lv_iconst (v := (0 : Int32)) hx hb d_Md_isChar_16 (by decide) ?_
    exact kw_zret hx hb hr hlocks hst h d_Md_isChar_17
  · replace h := h.2 hc
    refine lv_iload_n hx hb d_Md_isChar_6 rfl (lv_at hl 0 rfl) ?_
    refine lv_bipush (v := (126 : Int32)) hx hb d_Md_isChar_7 (by decide) ?_
    refine lv_icmp_gt (tgt := 16) hx hb d_Md_isChar_9 (by decide) (fun hc => ?_) (fun hc => ?_)
    · replace h := h.1 hc
      refine lv_iconst (v := (0 : Int32)) hx hb d_Md_isChar_16 (by decide) ?_
      exact kw_zret hx hb hr hlocks hst h d_Md_isChar_17
    · replace h := h.2 hc
      refine lv_iconst (v := (1 : Int32)) hx hb d_Md_isChar_12 (by decide) ?_
      refine lv_goto (tgt := 17) hx hb d_Md_isChar_13 (by decide) ?_
      exact kw_zret hx hb hr hlocks hst h d_Md_isChar_17
set_option maxRecDepth 100000 in
set_option maxHeartbeats 4000000 in
theorem c_Md_isChar (l : Launch) {D : va_G} {g : Gm} {sz : Nat} (x0 : Int32) {σ : Sg} {post : Int32 → Sg → Prop} (h : wq_Md_isChar x0 σ post) : Met l y_Md_isChar (.code y_Md_isChar k_Md_isChar 1 (some .boolean) :: GW) { frames := 0, cells := 0, slots := 0, locals := 0 } (PcW D vwCl (WS g) g (Zk g) σ sz [.int x0]) (QiW D vwCl (WS g) post (va_A (WS g σ) sz)) 0 0 (va_A (WS g σ) sz) := by
  refine kw_entry (own := R_Md) (by decide) rfl rfl (Nat.le_of_ble_eq_true rfl) ?_
  intro p e s m below meth c ls hsz C hin hl hst
  exact b_Md_isChar_0 C x0 σ _ _ ls hl hst h
/-! SchemaDeskModel.append (II)V -/
abbrev k_Md_append : ByteArray := prog_12_method_8_code
abbrev y_Md_append : MethodName := ⟨"SchemaDeskModel", "append", "(II)V"⟩
theorem d_Md_append_0 : decode k_Md_append 0 = .ok (.aload_n 0, 1) := by decide +kernel
theorem d_Md_append_1 : decode k_Md_append 1 = .ok (.getfield 67, 3) := by decide +kernel
theorem d_Md_append_4 : decode k_Md_append 4 = .ok (.sipush 160, 3) := by decide +kernel
theorem d_Md_append_7 : decode k_Md_append 7 = .ok (.iload_n 1, 1) := by decide +kernel
theorem d_Md_append_8 : decode k_Md_append 8 = .ok (.imul, 1) := by decide +kernel
theorem d_Md_append_9 : decode k_Md_append 9 = .ok (.aload_n 0, 1) := by decide +kernel
theorem d_Md_append_10 : decode k_Md_append 10 = .ok (.getfield 71, 3) := by decide +kernel
theorem d_Md_append_13 : decode k_Md_append 13 = .ok (.iload_n 1, 1) := by decide +kernel
theorem d_Md_append_14 : decode k_Md_append 14 = .ok (.iaload, 1) := by decide +kernel
theorem d_Md_append_15 : decode k_Md_append 15 = .ok (.iadd, 1) := by decide +kernel
theorem d_Md_append_16 : decode k_Md_append 16 = .ok (.iload_n 2, 1) := by decide +kernel
theorem d_Md_append_17 : decode k_Md_append 17 = .ok (.iastore, 1) := by decide +kernel
theorem d_Md_append_18 : decode k_Md_append 18 = .ok (.aload_n 0, 1) := by decide +kernel
theorem d_Md_append_19 : decode k_Md_append 19 = .ok (.getfield 71, 3) := by decide +kernel
theorem d_Md_append_22 : decode k_Md_append 22 = .ok (.iload_n 1, 1) := by decide +kernel
theorem d_Md_append_23 : decode k_Md_append 23 = .ok (.dup2, 1) := by decide +kernel
theorem d_Md_append_24 : decode k_Md_append 24 = .ok (.iaload, 1) := by decide +kernel
theorem d_Md_append_25 : decode k_Md_append 25 = .ok (.iconst 1, 1) := by decide +kernel
theorem d_Md_append_26 : decode k_Md_append 26 = .ok (.iadd, 1) := by decide +kernel
theorem d_Md_append_27 : decode k_Md_append 27 = .ok (.iastore, 1) := by decide +kernel
theorem d_Md_append_28 : decode k_Md_append 28 = .ok (.return_, 1) := by decide +kernel
theorem gw1066 : (Jvm.Cond.fieldLink "SchemaDeskModel" (67 : Nat) "SchemaDeskModel" "text" "[I") ∈ GW := gw_t5 (List.mem_of_getElem? (i := 106) rfl) rfl
theorem gw1067 : (Jvm.Cond.fieldLink "SchemaDeskModel" (71 : Nat) "SchemaDeskModel" "length" "[I") ∈ GW := gw_t5 (List.mem_of_getElem? (i := 107) rfl) rfl
def wq_Md_append (x1 : Int32) (x2 : Int32) (σ : Sg) (post : Sg → Prop) : Prop := (vp_in x1 2 ∧ (vp_in (((160 : Int32) * x1) + (σ.1 57 x1.toNatClampNeg)) 240 ∧ (∀ σ1, σ1 = si σ 56 ((((160 : Int32) * x1) + (σ.1 57 x1.toNatClampNeg)) : Int32).toNatClampNeg x2 → (vp_in x1 2 ∧ (vp_in x1 2 ∧ (∀ σ2, σ2 = si σ1 57 x1.toNatClampNeg ((σ1.1 57 x1.toNatClampNeg) + (1 : Int32)) → post σ2))))))
set_option maxRecDepth 100000 in
set_option maxHeartbeats 4000000 in
theorem b_Md_append_0 {p : Program} {l : Launch} {e : Env} {s : State} {m : MethodId} {args : Array Value} {below : List Frame} {meth : Method} {c : Code} {D : va_G} {g : Gm} {A : Nat → Prop} {post : Sg → Prop} (C : kC p s m args meth c k_Md_append 3 (none) GW R_Md D vwCl g (Zk g) A) (x1 : Int32) (x2 : Int32) (σ : Sg) (H : Heap) (locs : List Loc) (ls : Array Slot) (hl : lv_has ls 3 [(0, .ref (g.1 54)), (1, .int x1), (2, .int x2)]) (hst : Wst D vwCl (WS g) A s σ H locs) (h : wq_Md_append x1 x2 σ post) : W p l e { frames := 0, cells := 0, slots := 0, locals := 0 } s m args below meth c H locs 0 0 (MQ below (QvW D vwCl (WS g) post A) args s 0 0 A) (F0 m 0 ls []) := by
  obtain ⟨hx, hb, hr, hml, hown, hts, hlocks, hK, hZ, hA⟩ := C
  unfold wq_Md_append at h
  refine lv_aload_n hx hb d_Md_append_0 rfl (lv_at hl 0 rfl) ?_
  refine va_get (D := D) (ci := 10) (C := R_Md) (T := T_Md) (N := 46) hx hb hts in_Md hown hK hst.1 54 (WS_o54 g σ) rfl 2 (by decide) (hts _ gw1066) (fun _ h9 => h9) rfl d_Md_append_1 ?_
  refine lv_sipush (v := (160 : Int32)) hx hb d_Md_append_4 (by decide) ?_
  refine lv_iload_n hx hb d_Md_append_7 rfl (lv_at hl 1 rfl) ?_
  refine lv_imul hx hb d_Md_append_8 ?_
  refine lv_aload_n hx hb d_Md_append_9 rfl (lv_at hl 0 rfl) ?_
  refine va_get (D := D) (ci := 10) (C := R_Md) (T := T_Md) (N := 46) hx hb hts in_Md hown hK hst.1 54 (WS_o54 g σ) rfl 3 (by decide) (hts _ gw1067) (fun _ h9 => h9) rfl d_Md_append_10 ?_
  refine lv_iload_n hx hb d_Md_append_13 rfl (lv_at hl 1 rfl) ?_
  obtain ⟨hi, h⟩ := h
  refine va_iald hx hb hK hst.1 57 0 (WS_a57 g σ) rfl hi d_Md_append_14 ?_
  refine lv_iadd hx hb d_Md_append_15 ?_
  refine lv_iload_n hx hb d_Md_append_16 rfl (lv_at hl 2 rfl) ?_
  obtain ⟨hi, h⟩ := h
  refine kw_iast hx hb hK hst 56 (WS_a56 g σ) hi (WS_s56 g σ _ _) d_Md_append_17 (fun σ1 H locs e1 hst => ?_)
  replace h := h σ1 e1
  refine lv_aload_n hx hb d_Md_append_18 rfl (lv_at hl 0 rfl) ?_
  refine va_get (D := D) (ci := 10) (C := R_Md) (T := T_Md) (N := 46) hx hb hts in_Md hown hK hst.1 54 (WS_o54 g σ1) rfl 3 (by decide) (hts _ gw1067) (fun _ h9 => h9) rfl d_Md_append_19 ?_
  refine lv_iload_n hx hb d_Md_append_22 rfl (lv_at hl 1 rfl) ?_
  refine lv_dup2_11 hx hb d_Md_append_23 rfl rfl ?_
  obtain ⟨hi, h⟩ := h
  refine va_iald hx hb hK hst.1 57 0 (WS_a57 g σ1) rfl hi d_Md_append_24 ?_
  refine lv_iconst (v := (1 : Int32)) hx hb d_Md_append_25 (by decide) ?_
  refine lv_iadd hx hb d_Md_append_26 ?_
  obtain ⟨hi, h⟩ := h
  refine kw_iast hx hb hK hst 57 (WS_a57 g σ1) hi (WS_s57 g σ1 _ _) d_Md_append_27 (fun σ2 H locs e2 hst => ?_)
  replace h := h σ2 e2
  exact kw_vret hx hb hr hlocks hst h d_Md_append_28
set_option maxRecDepth 100000 in
set_option maxHeartbeats 4000000 in
theorem c_Md_append (l : Launch) {D : va_G} {g : Gm} {sz : Nat} (x1 : Int32) (x2 : Int32) {σ : Sg} {post : Sg → Prop} (h : wq_Md_append x1 x2 σ post) : Met l y_Md_append (.code y_Md_append k_Md_append 3 (none) :: GW) { frames := 0, cells := 0, slots := 0, locals := 0 } (PcW D vwCl (WS g) g (Zk g) σ sz [.ref (g.1 54), .int x1, .int x2]) (QvW D vwCl (WS g) post (va_A (WS g σ) sz)) 0 0 (va_A (WS g σ) sz) := by
  refine kw_entry (own := R_Md) (by decide) rfl rfl (Nat.le_of_ble_eq_true rfl) ?_
  intro p e s m below meth c ls hsz C hin hl hst
  exact b_Md_append_0 C x1 x2 σ _ _ ls hl hst h
/-! SchemaDeskModel.letters (J)I -/
abbrev k_Md_letters : ByteArray := prog_12_method_9_code
abbrev y_Md_letters : MethodName := ⟨"SchemaDeskModel", "letters", "(J)I"⟩
theorem d_Md_letters_0 : decode k_Md_letters 0 = .ok (.iconst 0, 1) := by decide +kernel
theorem d_Md_letters_1 : decode k_Md_letters 1 = .ok (.istore_n 2, 1) := by decide +kernel
theorem d_Md_letters_2 : decode k_Md_letters 2 = .ok (.lload_n 0, 1) := by decide +kernel
theorem d_Md_letters_3 : decode k_Md_letters 3 = .ok (.iconst 5, 1) := by decide +kernel
theorem d_Md_letters_4 : decode k_Md_letters 4 = .ok (.iload_n 2, 1) := by decide +kernel
theorem d_Md_letters_5 : decode k_Md_letters 5 = .ok (.imul, 1) := by decide +kernel
theorem d_Md_letters_6 : decode k_Md_letters 6 = .ok (.lshr, 1) := by decide +kernel
theorem d_Md_letters_7 : decode k_Md_letters 7 = .ok (.lconst 0, 1) := by decide +kernel
theorem d_Md_letters_8 : decode k_Md_letters 8 = .ok (.lcmp, 1) := by decide +kernel
theorem d_Md_letters_9 : decode k_Md_letters 9 = .ok (.ifCond .eq 9, 3) := by decide +kernel
theorem d_Md_letters_12 : decode k_Md_letters 12 = .ok (.iinc 2 1, 3) := by decide +kernel
theorem d_Md_letters_15 : decode k_Md_letters 15 = .ok (.goto (-13), 3) := by decide +kernel
theorem d_Md_letters_18 : decode k_Md_letters 18 = .ok (.iload_n 2, 1) := by decide +kernel
theorem d_Md_letters_19 : decode k_Md_letters 19 = .ok (.ireturn, 1) := by decide +kernel
def wb_Md_letters_0 (F : Nat → Int32 → Int64 → Sg → Prop) (post : Int32 → Sg → Prop) (y0 : Int64) (σ : Sg) : Prop := F 1 (0 : Int32) y0 σ
def wb_Md_letters_1 (F : Nat → Int32 → Int64 → Sg → Prop) (post : Int32 → Sg → Prop) (y0 : Int64) (x2 : Int32) (σ : Sg) : Prop := (((lg_cmp (y0 >>> ((((5 : Int32) * x2) : Int32).toInt64 &&& 63)) (0 : Int64)) = 0 → post x2 σ) ∧ (¬ (lg_cmp (y0 >>> ((((5 : Int32) * x2) : Int32).toInt64 &&& 63)) (0 : Int64)) = 0 → F 1 (x2 + 1) y0 σ))
def wp_Md_letters (post : Int32 → Sg → Prop) : Nat → Nat → Int32 → Int64 → Sg → Prop
  | 0, _, _, _, _ => False
  | n + 1, k, x2, y0, σ => match k with
    | 0 => wb_Md_letters_0 (wp_Md_letters post n) post y0 σ
    | 1 => wb_Md_letters_1 (wp_Md_letters post n) post y0 x2 σ
    | _ => False
def wq_Md_letters (y0 : Int64) (σ : Sg) (post : Int32 → Sg → Prop) : Prop := ∃ n, wp_Md_letters post n 0 0 y0 σ
def J_Md_letters_1 (p : Program) (l : Launch) (e : Env) (s : State) (m : MethodId) (args : Array Value) (below : List Frame) (meth : Method) (c : Code) (D : va_G) (g : Gm) (A : Nat → Prop) (post : Int32 → Sg → Prop) (F : Nat → Int32 → Int64 → Sg → Prop) : Prop := ∀ (y0 : Int64) (x2 : Int32) (σ : Sg) (H : Heap) (locs : List Loc) (ls : Array Slot), lv_has ls 3 [(0, .long y0), (2, .int x2)] → Wst D vwCl (WS g) A s σ H locs → F 1 x2 y0 σ → W p l e { frames := 0, cells := 0, slots := 0, locals := 0 } s m args below meth c H locs 0 0 (MQ below (QiW D vwCl (WS g) post A) args s 0 0 A) (F0 m 2 ls [])
set_option maxRecDepth 100000 in
set_option maxHeartbeats 4000000 in
theorem b_Md_letters_0 {p : Program} {l : Launch} {e : Env} {s : State} {m : MethodId} {args : Array Value} {below : List Frame} {meth : Method} {c : Code} {D : va_G} {g : Gm} {A : Nat → Prop} {post : Int32 → Sg → Prop} {F : Nat → Int32 → Int64 → Sg → Prop} (C : kC p s m args meth c k_Md_letters 3 (some .int) GW R_Md D vwCl g (Zk g) A) (j1 : J_Md_letters_1 p l e s m args below meth c D g A post F) (y0 : Int64) (σ : Sg) (H : Heap) (locs : List Loc) (ls : Array Slot) (hl : lv_has ls 3 [(0, .long y0)]) (hst : Wst D vwCl (WS g) A s σ H locs) (h : wb_Md_letters_0 F post y0 σ) : W p l e { frames := 0, cells := 0, slots := 0, locals := 0 } s m args below meth c H locs 0 0 (MQ below (QiW D vwCl (WS g) post A) args s 0 0 A) (F0 m 0 ls []) := by
  obtain ⟨hx, hb, hr, hml, hown, hts, hlocks, hK, hZ, hA⟩ := C
  unfold wb_Md_letters_0 at h
  refine lv_iconst (v := (0 : Int32)) hx hb d_Md_letters_0 (by decide) ?_
  refine lv_istore_n hx hb d_Md_letters_1 rfl hl (by decide) rfl (fun ls hl => ?_)
  have hl : lv_has ls 3 [(2, .int (0 : Int32)), (0, .long y0)] := hl
  exact j1 y0 (0 : Int32) σ _ _ _ (lv_sub hl [1, 0] rfl) hst h
set_option maxRecDepth 100000 in
set_option maxHeartbeats 4000000 in
theorem b_Md_letters_1 {p : Program} {l : Launch} {e : Env} {s : State} {m : MethodId} {args : Array Value} {below : List Frame} {meth : Method} {c : Code} {D : va_G} {g : Gm} {A : Nat → Prop} {post : Int32 → Sg → Prop} {F : Nat → Int32 → Int64 → Sg → Prop} (C : kC p s m args meth c k_Md_letters 3 (some .int) GW R_Md D vwCl g (Zk g) A) (j1 : J_Md_letters_1 p l e s m args below meth c D g A post F) (y0 : Int64) (x2 : Int32) (σ : Sg) (H : Heap) (locs : List Loc) (ls : Array Slot) (hl : lv_has ls 3 [(0, .long y0), (2, .int x2)]) (hst : Wst D vwCl (WS g) A s σ H locs) (h : wb_Md_letters_1 F post y0 x2 σ) : W p l e { frames := 0, cells := 0, slots := 0, locals := 0 } s m args below meth c H locs 0 0 (MQ below (QiW D vwCl (WS g) post A) args s 0 0 A) (F0 m 2 ls []) := by
  obtain ⟨hx, hb, hr, hml, hown, hts, hlocks, hK, hZ, hA⟩ := C
  unfold wb_Md_letters_1 at h
  refine lv_lload_n hx hb d_Md_letters_2 rfl (lv_at hl 0 rfl) ?_
  refine lv_iconst (v := (5 : Int32)) hx hb d_Md_letters_3 (by decide) ?_
  refine lv_iload_n hx hb d_Md_letters_4 rfl (lv_at hl 1 rfl) ?_
  refine lv_imul hx hb d_Md_letters_5 ?_
  refine lv_lshr hx hb d_Md_letters_6 rfl ?_
  refine lv_lconst (v := (0 : Int64)) hx hb d_Md_letters_7 (by decide) ?_
  refine W.lcmp hx hb d_Md_letters_8 ?_
  refine lv_if_eq (tgt := 18) hx hb d_Md_letters_9 (by decide) (fun hc => ?_) (fun hc => ?_)
  · replace h := h.1 hc
    refine lv_iload_n hx hb d_Md_letters_18 rfl (lv_at hl 1 rfl) ?_
    exact kw_iret hx hb hr hlocks hst h d_Md_letters_19
  · replace h := h.2 hc
    refine lv_iinc (k := 1) (v := (x2 + 1)) hx hb d_Md_letters_12 hl rfl (kw_inc _ (by decide)) (by decide) rfl (fun ls hl => ?_)
    have hl : lv_has ls 3 [(2, .int (x2 + 1)), (0, .long y0)] := hl
    refine lv_goto (tgt := 2) hx hb d_Md_letters_15 (by decide) ?_
    exact j1 y0 (x2 + 1) σ _ _ _ (lv_sub hl [1, 0] rfl) hst h
set_option maxRecDepth 100000 in
set_option maxHeartbeats 4000000 in
theorem a_Md_letters {p : Program} {l : Launch} {e : Env} {s : State} {m : MethodId} {args : Array Value} {below : List Frame} {meth : Method} {c : Code} {D : va_G} {g : Gm} {A : Nat → Prop} {post : Int32 → Sg → Prop} (C : kC p s m args meth c k_Md_letters 3 (some .int) GW R_Md D vwCl g (Zk g) A) : ∀ n : Nat, J_Md_letters_1 p l e s m args below meth c D g A post (wp_Md_letters post n) := by
  intro n
  induction n with
  | zero => exact fun _ _ _ _ _ _ _ _ h => h.elim
  | succ n ih => exact fun y0 x2 σ H locs ls hl hst h => b_Md_letters_1 (F := wp_Md_letters post n) C (ih) y0 x2 σ H locs ls hl hst h
set_option maxRecDepth 100000 in
set_option maxHeartbeats 4000000 in
theorem c_Md_letters (l : Launch) {D : va_G} {g : Gm} {sz : Nat} (y0 : Int64) {σ : Sg} {post : Int32 → Sg → Prop} (h : wq_Md_letters y0 σ post) : Met l y_Md_letters (.code y_Md_letters k_Md_letters 3 (some .int) :: GW) { frames := 0, cells := 0, slots := 0, locals := 0 } (PcW D vwCl (WS g) g (Zk g) σ sz [.long y0]) (QiW D vwCl (WS g) post (va_A (WS g σ) sz)) 0 0 (va_A (WS g σ) sz) := by
  refine kw_entry (own := R_Md) (by decide) rfl rfl (Nat.le_of_ble_eq_true rfl) ?_
  intro p e s m below meth c ls hsz C hin hl hst
  obtain ⟨n, h⟩ := h
  cases n with
  | zero => exact h.elim
  | succ n =>
    have ih := a_Md_letters (l := l) (e := e) (below := below) (post := post) C n
    exact b_Md_letters_0 (F := wp_Md_letters post n) C (ih) y0 σ _ _ ls hl hst h
/-! SchemaDeskModel.word (II)Z -/
abbrev k_Md_word : ByteArray := prog_12_method_10_code
abbrev y_Md_word : MethodName := ⟨"SchemaDeskModel", "word", "(II)Z"⟩
theorem d_Md_word_0 : decode k_Md_word 0 = .ok (.aload_n 0, 1) := by decide +kernel
theorem d_Md_word_1 : decode k_Md_word 1 = .ok (.iconst 0, 1) := by decide +kernel
theorem d_Md_word_2 : decode k_Md_word 2 = .ok (.putfield 177, 3) := by decide +kernel
theorem d_Md_word_5 : decode k_Md_word 5 = .ok (.iload_n 1, 1) := by decide +kernel
theorem d_Md_word_6 : decode k_Md_word 6 = .ok (.invokestatic 181, 3) := by decide +kernel
theorem d_Md_word_9 : decode k_Md_word 9 = .ok (.ifCond .eq 14, 3) := by decide +kernel
theorem d_Md_word_12 : decode k_Md_word 12 = .ok (.iload_n 2, 1) := by decide +kernel
theorem d_Md_word_13 : decode k_Md_word 13 = .ok (.iconst 1, 1) := by decide +kernel
theorem d_Md_word_14 : decode k_Md_word 14 = .ok (.if_icmp .lt 9, 3) := by decide +kernel
theorem d_Md_word_17 : decode k_Md_word 17 = .ok (.iload_n 2, 1) := by decide +kernel
theorem d_Md_word_18 : decode k_Md_word 18 = .ok (.bipush 27, 2) := by decide +kernel
theorem d_Md_word_20 : decode k_Md_word 20 = .ok (.if_icmp .le 5, 3) := by decide +kernel
theorem d_Md_word_23 : decode k_Md_word 23 = .ok (.iconst 0, 1) := by decide +kernel
theorem d_Md_word_24 : decode k_Md_word 24 = .ok (.ireturn, 1) := by decide +kernel
theorem d_Md_word_25 : decode k_Md_word 25 = .ok (.aload_n 0, 1) := by decide +kernel
theorem d_Md_word_26 : decode k_Md_word 26 = .ok (.getfield 61, 3) := by decide +kernel
theorem d_Md_word_29 : decode k_Md_word 29 = .ok (.iload_n 2, 1) := by decide +kernel
theorem d_Md_word_30 : decode k_Md_word 30 = .ok (.iconst 1, 1) := by decide +kernel
theorem d_Md_word_31 : decode k_Md_word 31 = .ok (.isub, 1) := by decide +kernel
theorem d_Md_word_32 : decode k_Md_word 32 = .ok (.laload, 1) := by decide +kernel
theorem d_Md_word_33 : decode k_Md_word 33 = .ok (.lstore_n 3, 1) := by decide +kernel
theorem d_Md_word_34 : decode k_Md_word 34 = .ok (.lload_n 3, 1) := by decide +kernel
theorem d_Md_word_35 : decode k_Md_word 35 = .ok (.invokestatic 196, 3) := by decide +kernel
theorem d_Md_word_38 : decode k_Md_word 38 = .ok (.istore 5, 2) := by decide +kernel
theorem d_Md_word_40 : decode k_Md_word 40 = .ok (.iload_n 2, 1) := by decide +kernel
theorem d_Md_word_41 : decode k_Md_word 41 = .ok (.bipush 22, 2) := by decide +kernel
theorem d_Md_word_43 : decode k_Md_word 43 = .ok (.if_icmp .ge 7, 3) := by decide +kernel
theorem d_Md_word_46 : decode k_Md_word 46 = .ok (.iconst 3, 1) := by decide +kernel
theorem d_Md_word_47 : decode k_Md_word 47 = .ok (.goto 4, 3) := by decide +kernel
theorem d_Md_word_50 : decode k_Md_word 50 = .ok (.iconst 2, 1) := by decide +kernel
theorem d_Md_word_51 : decode k_Md_word 51 = .ok (.istore 6, 2) := by decide +kernel
theorem d_Md_word_53 : decode k_Md_word 53 = .ok (.aload_n 0, 1) := by decide +kernel
theorem d_Md_word_54 : decode k_Md_word 54 = .ok (.getfield 71, 3) := by decide +kernel
theorem d_Md_word_57 : decode k_Md_word 57 = .ok (.iload_n 1, 1) := by decide +kernel
theorem d_Md_word_58 : decode k_Md_word 58 = .ok (.iaload, 1) := by decide +kernel
theorem d_Md_word_59 : decode k_Md_word 59 = .ok (.iload 5, 2) := by decide +kernel
theorem d_Md_word_61 : decode k_Md_word 61 = .ok (.iadd, 1) := by decide +kernel
theorem d_Md_word_62 : decode k_Md_word 62 = .ok (.iload 6, 2) := by decide +kernel
theorem d_Md_word_64 : decode k_Md_word 64 = .ok (.iadd, 1) := by decide +kernel
theorem d_Md_word_65 : decode k_Md_word 65 = .ok (.iload_n 1, 1) := by decide +kernel
theorem d_Md_word_66 : decode k_Md_word 66 = .ok (.invokestatic 188, 3) := by decide +kernel
theorem d_Md_word_69 : decode k_Md_word 69 = .ok (.if_icmp .le 5, 3) := by decide +kernel
theorem d_Md_word_72 : decode k_Md_word 72 = .ok (.iconst 0, 1) := by decide +kernel
theorem d_Md_word_73 : decode k_Md_word 73 = .ok (.ireturn, 1) := by decide +kernel
theorem d_Md_word_74 : decode k_Md_word 74 = .ok (.aload_n 0, 1) := by decide +kernel
theorem d_Md_word_75 : decode k_Md_word 75 = .ok (.iload_n 1, 1) := by decide +kernel
theorem d_Md_word_76 : decode k_Md_word 76 = .ok (.bipush 34, 2) := by decide +kernel
theorem d_Md_word_78 : decode k_Md_word 78 = .ok (.invokevirtual 192, 3) := by decide +kernel
theorem d_Md_word_81 : decode k_Md_word 81 = .ok (.iconst 0, 1) := by decide +kernel
theorem d_Md_word_82 : decode k_Md_word 82 = .ok (.istore 7, 2) := by decide +kernel
theorem d_Md_word_84 : decode k_Md_word 84 = .ok (.iload 7, 2) := by decide +kernel
theorem d_Md_word_86 : decode k_Md_word 86 = .ok (.iload 5, 2) := by decide +kernel
theorem d_Md_word_88 : decode k_Md_word 88 = .ok (.if_icmp .ge 28, 3) := by decide +kernel
theorem d_Md_word_91 : decode k_Md_word 91 = .ok (.aload_n 0, 1) := by decide +kernel
theorem d_Md_word_92 : decode k_Md_word 92 = .ok (.iload_n 1, 1) := by decide +kernel
theorem d_Md_word_93 : decode k_Md_word 93 = .ok (.bipush 96, 2) := by decide +kernel
theorem d_Md_word_95 : decode k_Md_word 95 = .ok (.lload_n 3, 1) := by decide +kernel
theorem d_Md_word_96 : decode k_Md_word 96 = .ok (.iconst 5, 1) := by decide +kernel
theorem d_Md_word_97 : decode k_Md_word 97 = .ok (.iload 7, 2) := by decide +kernel
theorem d_Md_word_99 : decode k_Md_word 99 = .ok (.imul, 1) := by decide +kernel
theorem d_Md_word_100 : decode k_Md_word 100 = .ok (.lshr, 1) := by decide +kernel
theorem d_Md_word_101 : decode k_Md_word 101 = .ok (.ldc2_w 200, 3) := by decide +kernel
theorem d_Md_word_104 : decode k_Md_word 104 = .ok (.land, 1) := by decide +kernel
theorem d_Md_word_105 : decode k_Md_word 105 = .ok (.l2i, 1) := by decide +kernel
theorem d_Md_word_106 : decode k_Md_word 106 = .ok (.iadd, 1) := by decide +kernel
theorem d_Md_word_107 : decode k_Md_word 107 = .ok (.invokevirtual 192, 3) := by decide +kernel
theorem d_Md_word_110 : decode k_Md_word 110 = .ok (.iinc 7 1, 3) := by decide +kernel
theorem d_Md_word_113 : decode k_Md_word 113 = .ok (.goto (-29), 3) := by decide +kernel
theorem d_Md_word_116 : decode k_Md_word 116 = .ok (.aload_n 0, 1) := by decide +kernel
theorem d_Md_word_117 : decode k_Md_word 117 = .ok (.iload_n 1, 1) := by decide +kernel
theorem d_Md_word_118 : decode k_Md_word 118 = .ok (.bipush 34, 2) := by decide +kernel
theorem d_Md_word_120 : decode k_Md_word 120 = .ok (.invokevirtual 192, 3) := by decide +kernel
theorem d_Md_word_123 : decode k_Md_word 123 = .ok (.iload_n 2, 1) := by decide +kernel
theorem d_Md_word_124 : decode k_Md_word 124 = .ok (.bipush 22, 2) := by decide +kernel
theorem d_Md_word_126 : decode k_Md_word 126 = .ok (.if_icmp .ge 10, 3) := by decide +kernel
theorem d_Md_word_129 : decode k_Md_word 129 = .ok (.aload_n 0, 1) := by decide +kernel
theorem d_Md_word_130 : decode k_Md_word 130 = .ok (.iload_n 1, 1) := by decide +kernel
theorem d_Md_word_131 : decode k_Md_word 131 = .ok (.bipush 58, 2) := by decide +kernel
theorem d_Md_word_133 : decode k_Md_word 133 = .ok (.invokevirtual 192, 3) := by decide +kernel
theorem d_Md_word_136 : decode k_Md_word 136 = .ok (.iconst 1, 1) := by decide +kernel
theorem d_Md_word_137 : decode k_Md_word 137 = .ok (.ireturn, 1) := by decide +kernel
theorem gw1211 : (Jvm.Cond.methodLink "SchemaDeskModel" (181 : Nat) ({ cls := "SchemaDeskModel", name := "isText", desc := "(I)Z" } : Jvm.MethodName)) ∈ GW := gw_t6 (List.mem_of_getElem? (i := 11) rfl) rfl
theorem gw1212 : (Jvm.Cond.static ({ cls := "SchemaDeskModel", name := "isText", desc := "(I)Z" } : Jvm.MethodName)) ∈ GW := gw_t6 (List.mem_of_getElem? (i := 12) rfl) rfl
theorem gw15 : (Jvm.Cond.initialized "SchemaDeskModel") ∈ GW := gw_t1 (List.mem_of_getElem? (i := 15) rfl) rfl
theorem gw1213 : (Jvm.Cond.code ({ cls := "SchemaDeskModel", name := "isText", desc := "(I)Z" } : Jvm.MethodName) prog_12_method_4_code (1 : Nat) (Option.some Jvm.ClassFile.FieldType.boolean)) ∈ GW := gw_t6 (List.mem_of_getElem? (i := 13) rfl) rfl
theorem gw1064 : (Jvm.Cond.fieldLink "SchemaDeskModel" (61 : Nat) "SchemaDeskModel" "words" "[J") ∈ GW := gw_t5 (List.mem_of_getElem? (i := 104) rfl) rfl
theorem gw1228 : (Jvm.Cond.methodLink "SchemaDeskModel" (196 : Nat) ({ cls := "SchemaDeskModel", name := "letters", desc := "(J)I" } : Jvm.MethodName)) ∈ GW := gw_t6 (List.mem_of_getElem? (i := 28) rfl) rfl
theorem gw1229 : (Jvm.Cond.static ({ cls := "SchemaDeskModel", name := "letters", desc := "(J)I" } : Jvm.MethodName)) ∈ GW := gw_t6 (List.mem_of_getElem? (i := 29) rfl) rfl
theorem gw1230 : (Jvm.Cond.code ({ cls := "SchemaDeskModel", name := "letters", desc := "(J)I" } : Jvm.MethodName) prog_12_method_9_code (3 : Nat) (Option.some Jvm.ClassFile.FieldType.int)) ∈ GW := gw_t6 (List.mem_of_getElem? (i := 30) rfl) rfl
theorem gw1217 : (Jvm.Cond.methodLink "SchemaDeskModel" (188 : Nat) ({ cls := "SchemaDeskModel", name := "room", desc := "(I)I" } : Jvm.MethodName)) ∈ GW := gw_t6 (List.mem_of_getElem? (i := 17) rfl) rfl
theorem gw1218 : (Jvm.Cond.static ({ cls := "SchemaDeskModel", name := "room", desc := "(I)I" } : Jvm.MethodName)) ∈ GW := gw_t6 (List.mem_of_getElem? (i := 18) rfl) rfl
theorem gw1219 : (Jvm.Cond.code ({ cls := "SchemaDeskModel", name := "room", desc := "(I)I" } : Jvm.MethodName) prog_12_method_5_code (1 : Nat) (Option.some Jvm.ClassFile.FieldType.int)) ∈ GW := gw_t6 (List.mem_of_getElem? (i := 19) rfl) rfl
theorem gw1220 : (Jvm.Cond.methodLink "SchemaDeskModel" (192 : Nat) ({ cls := "SchemaDeskModel", name := "append", desc := "(II)V" } : Jvm.MethodName)) ∈ GW := gw_t6 (List.mem_of_getElem? (i := 20) rfl) rfl
theorem gw1222 : (Jvm.Cond.instanceMethod ({ cls := "SchemaDeskModel", name := "append", desc := "(II)V" } : Jvm.MethodName)) ∈ GW := gw_t6 (List.mem_of_getElem? (i := 22) rfl) rfl
theorem gs46 : Cond.selects "SchemaDeskModel" ⟨"SchemaDeskModel", "append", "(II)V"⟩ ⟨"SchemaDeskModel", "append", "(II)V"⟩ ∈ GW := gw_p3 (q := (⟨"SchemaDeskModel", "append", "(II)V"⟩, 46)) (List.mem_of_getElem? (i := 14) rfl)
theorem gw1223 : (Jvm.Cond.code ({ cls := "SchemaDeskModel", name := "append", desc := "(II)V" } : Jvm.MethodName) prog_12_method_8_code (3 : Nat) (Option.none : Option Jvm.ClassFile.FieldType)) ∈ GW := gw_t6 (List.mem_of_getElem? (i := 23) rfl) rfl
theorem gw1231 : (Jvm.Cond.constantLong "SchemaDeskModel" (200 : Nat) (31 : Int64)) ∈ GW := gw_t6 (List.mem_of_getElem? (i := 31) rfl) rfl
def wb_Md_word_0 (F : Nat → Int32 → Int32 → Int32 → Int32 → Int32 → Int64 → Sg → Prop) (post : Int32 → Sg → Prop) (x1 : Int32) (x2 : Int32) (σ : Sg) : Prop := (∀ σ1, σ1 = si σ 54 1 (0 : Int32) → (wq_Md_isText x1 σ1 (fun r2 σ2 => ((r2 = 0 → (narrow .boolean (.int (0 : Int32)) = .int (0 : Int32) ∧ post (0 : Int32) σ2)) ∧ (¬ r2 = 0 → ((x2 < (1 : Int32) → (narrow .boolean (.int (0 : Int32)) = .int (0 : Int32) ∧ post (0 : Int32) σ2)) ∧ (¬ x2 < (1 : Int32) → ((x2 ≤ (27 : Int32) → (vp_in (x2 - (1 : Int32)) 27 ∧ (wq_Md_letters (σ2.2.1 55 ((x2 - (1 : Int32)) : Int32).toNatClampNeg) σ2 (fun r3 σ3 => (((22 : Int32) ≤ x2 → F 1 x1 x2 r3 (2 : Int32) 0 (σ2.2.1 55 ((x2 - (1 : Int32)) : Int32).toNatClampNeg) σ3) ∧ (¬ (22 : Int32) ≤ x2 → F 1 x1 x2 r3 (3 : Int32) 0 (σ2.2.1 55 ((x2 - (1 : Int32)) : Int32).toNatClampNeg) σ3)))))) ∧ (¬ x2 ≤ (27 : Int32) → (narrow .boolean (.int (0 : Int32)) = .int (0 : Int32) ∧ post (0 : Int32) σ2))))))))))
def wb_Md_word_1 (F : Nat → Int32 → Int32 → Int32 → Int32 → Int32 → Int64 → Sg → Prop) (post : Int32 → Sg → Prop) (x1 : Int32) (x2 : Int32) (y3 : Int64) (x5 : Int32) (x6 : Int32) (σ : Sg) : Prop := (vp_in x1 2 ∧ (wq_Md_room x1 σ (fun r1 σ1 => (((((σ.1 57 x1.toNatClampNeg) + x5) + x6) ≤ r1 → (wq_Md_append x1 (34 : Int32) σ1 (fun σ2 => F 2 x1 x2 x5 0 (0 : Int32) y3 σ2))) ∧ (¬ (((σ.1 57 x1.toNatClampNeg) + x5) + x6) ≤ r1 → (narrow .boolean (.int (0 : Int32)) = .int (0 : Int32) ∧ post (0 : Int32) σ1))))))
def wb_Md_word_2 (F : Nat → Int32 → Int32 → Int32 → Int32 → Int32 → Int64 → Sg → Prop) (post : Int32 → Sg → Prop) (x1 : Int32) (x2 : Int32) (y3 : Int64) (x5 : Int32) (x7 : Int32) (σ : Sg) : Prop := ((x5 ≤ x7 → (wq_Md_append x1 (34 : Int32) σ (fun σ1 => (((22 : Int32) ≤ x2 → (narrow .boolean (.int (1 : Int32)) = .int (1 : Int32) ∧ post (1 : Int32) σ1)) ∧ (¬ (22 : Int32) ≤ x2 → (wq_Md_append x1 (58 : Int32) σ1 (fun σ2 => (narrow .boolean (.int (1 : Int32)) = .int (1 : Int32) ∧ post (1 : Int32) σ2)))))))) ∧ (¬ x5 ≤ x7 → (wq_Md_append x1 ((96 : Int32) + ((((y3 >>> ((((5 : Int32) * x7) : Int32).toInt64 &&& 63)) &&& (31 : Int64)) : Int64).toInt32)) σ (fun σ1 => F 2 x1 x2 x5 0 (x7 + 1) y3 σ1))))
def wp_Md_word (post : Int32 → Sg → Prop) : Nat → Nat → Int32 → Int32 → Int32 → Int32 → Int32 → Int64 → Sg → Prop
  | 0, _, _, _, _, _, _, _, _ => False
  | n + 1, k, x1, x2, x5, x6, x7, y3, σ => match k with
    | 0 => wb_Md_word_0 (wp_Md_word post n) post x1 x2 σ
    | 1 => wb_Md_word_1 (wp_Md_word post n) post x1 x2 y3 x5 x6 σ
    | 2 => wb_Md_word_2 (wp_Md_word post n) post x1 x2 y3 x5 x7 σ
    | _ => False
def wq_Md_word (x1 : Int32) (x2 : Int32) (σ : Sg) (post : Int32 → Sg → Prop) : Prop := ∃ n, wp_Md_word post n 0 x1 x2 0 0 0 0 σ
def J_Md_word_1 (p : Program) (l : Launch) (e : Env) (s : State) (m : MethodId) (args : Array Value) (below : List Frame) (meth : Method) (c : Code) (D : va_G) (g : Gm) (A : Nat → Prop) (post : Int32 → Sg → Prop) (F : Nat → Int32 → Int32 → Int32 → Int32 → Int32 → Int64 → Sg → Prop) : Prop := ∀ (x1 : Int32) (x2 : Int32) (y3 : Int64) (x5 : Int32) (x6 : Int32) (σ : Sg) (H : Heap) (locs : List Loc) (ls : Array Slot), lv_has ls 8 [(0, .ref (g.1 54)), (1, .int x1), (2, .int x2), (3, .long y3), (5, .int x5), (6, .int x6)] → Wst D vwCl (WS g) A s σ H locs → F 1 x1 x2 x5 x6 0 y3 σ → W p l e { frames := 1, cells := 0, slots := 0, locals := 22 } s m args below meth c H locs 0 0 (MQ below (QiW D vwCl (WS g) post A) args s 0 0 A) (F0 m 53 ls [])
def J_Md_word_2 (p : Program) (l : Launch) (e : Env) (s : State) (m : MethodId) (args : Array Value) (below : List Frame) (meth : Method) (c : Code) (D : va_G) (g : Gm) (A : Nat → Prop) (post : Int32 → Sg → Prop) (F : Nat → Int32 → Int32 → Int32 → Int32 → Int32 → Int64 → Sg → Prop) : Prop := ∀ (x1 : Int32) (x2 : Int32) (y3 : Int64) (x5 : Int32) (x7 : Int32) (σ : Sg) (H : Heap) (locs : List Loc) (ls : Array Slot), lv_has ls 8 [(0, .ref (g.1 54)), (1, .int x1), (2, .int x2), (3, .long y3), (5, .int x5), (7, .int x7)] → Wst D vwCl (WS g) A s σ H locs → F 2 x1 x2 x5 0 x7 y3 σ → W p l e { frames := 1, cells := 0, slots := 0, locals := 22 } s m args below meth c H locs 0 0 (MQ below (QiW D vwCl (WS g) post A) args s 0 0 A) (F0 m 84 ls [])
set_option maxRecDepth 100000 in
set_option maxHeartbeats 4000000 in
theorem b_Md_word_0 {p : Program} {l : Launch} {e : Env} {s : State} {m : MethodId} {args : Array Value} {below : List Frame} {meth : Method} {c : Code} {D : va_G} {g : Gm} {A : Nat → Prop} {post : Int32 → Sg → Prop} {F : Nat → Int32 → Int32 → Int32 → Int32 → Int32 → Int64 → Sg → Prop} (C : kC p s m args meth c k_Md_word 8 (some .boolean) GW R_Md D vwCl g (Zk g) A) (j1 : J_Md_word_1 p l e s m args below meth c D g A post F) (x1 : Int32) (x2 : Int32) (σ : Sg) (H : Heap) (locs : List Loc) (ls : Array Slot) (hl : lv_has ls 8 [(0, .ref (g.1 54)), (1, .int x1), (2, .int x2)]) (hst : Wst D vwCl (WS g) A s σ H locs) (h : wb_Md_word_0 F post x1 x2 σ) : W p l e { frames := 1, cells := 0, slots := 0, locals := 22 } s m args below meth c H locs 0 0 (MQ below (QiW D vwCl (WS g) post A) args s 0 0 A) (F0 m 0 ls []) := by
  obtain ⟨hx, hb, hr, hml, hown, hts, hlocks, hK, hZ, hA⟩ := C
  unfold wb_Md_word_0 at h
  refine lv_aload_n hx hb d_Md_word_0 rfl (lv_at hl 0 rfl) ?_
  refine lv_iconst (v := (0 : Int32)) hx hb d_Md_word_1 (by decide) ?_
  refine kw_put (D := D) (ci := 10) (ty := .int) (C := R_Md) (T := T_Md) (N := 46) hx hb hts in_Md ty_Md ty_Md_ok nm_Md hown hK hst 54 (WS_o54 g σ) rfl 1 (by decide) (hts _ gw1065) (fun _ h9 => h9) rfl (by decide +kernel) rfl rfl (Nat.le_of_ble_eq_true rfl) (WS_p54_1 g σ _) d_Md_word_2 (fun σ1 H locs e1 hst => ?_)
  replace h := h σ1 e1
  refine lv_iload_n hx hb d_Md_word_5 rfl (lv_at hl 1 rfl) ?_
  refine kw_calli (va_runS (As := [.int x1]) (rest := []) ⟨hx, hb, hml, hown, hts⟩ (c_Md_isText l x1 h) (cwS 1 hts (gd_s gw1211 gw1212 gw15 gw1213) rfl rfl rfl (by decide +kernel) ⟨Nat.le_of_ble_eq_true rfl, Nat.le_of_ble_eq_true rfl⟩) ⟨kw_blind (Zk_ok g), kw_pre (Zk_ok g) hK hZ hA hst⟩ rfl rfl hl.1 rfl (lv_room (Nat.le_of_ble_eq_true rfl)) d_Md_word_6 ⟨Nat.le_of_ble_eq_true rfl, Nat.le_of_ble_eq_true rfl⟩) hst hA (fun r2 σ2 H locs h hst => ?_)
  refine lv_if_eq (tgt := 23) hx hb d_Md_word_9 (by decide) (fun hc => ?_) (fun hc => ?_)
  · replace h := h.1 hc
    refine lv_iconst (v := (0 : Int32)) hx hb d_Md_word_23 (by decide) ?_
    exact kw_zret hx hb hr hlocks hst h d_Md_word_24
  · replace h := h.2 hc
    refine lv_iload_n hx hb d_Md_word_12 rfl (lv_at hl 2 rfl) ?_
    refine lv_iconst (v := (1 : Int32)) hx hb d_Md_word_13 (by decide) ?_
    refine lv_icmp_lt (tgt := 23) hx hb d_Md_word_14 (by decide) (fun hc => ?_) (fun hc => ?_)
    · replace h := h.1 hc
      refine lv_iconst (v := (0 : Int32)) hx hb d_Md_word_23 (by decide) ?_
      exact kw_zret hx hb hr hlocks hst h d_Md_word_24
    · replace h := h.2 hc
      refine lv_iload_n hx hb d_Md_word_17 rfl (lv_at hl 2 rfl) ?_
      refine lv_bipush (v := (27 : Int32)) hx hb d_Md_word_18 (by decide) ?_
      refine lv_icmp_le (tgt := 25) hx hb d_Md_word_20 (by decide) (fun hc => ?_) (fun hc => ?_)
      · replace h := h.1 hc
        refine lv_aload_n hx hb d_Md_word_25 rfl (lv_at hl 0 rfl) ?_
        refine va_get (D := D) (ci := 10) (C := R_Md) (T := T_Md) (N := 46) hx hb hts in_Md hown hK hst.1 54 (WS_o54 g σ2) rfl 0 (by decide) (hts _ gw1064) (fun _ h9 => h9) rfl d_Md_word_26 ?_
        refine lv_iload_n hx hb d_Md_word_29 rfl (lv_at hl 2 rfl) ?_
        refine lv_iconst (v := (1 : Int32)) hx hb d_Md_word_30 (by decide) ?_
        refine lv_isub hx hb d_Md_word_31 ?_
        obtain ⟨hi, h⟩ := h
        refine va_lald hx hb hK hst.1 55 3 (WS_a55 g σ2) rfl hi d_Md_word_32 ?_
        refine lv_lstore_n hx hb d_Md_word_33 rfl hl (by decide) rfl (fun ls hl => ?_)
        have hl : lv_has ls 8 [(3, .long (σ2.2.1 55 ((x2 - (1 : Int32)) : Int32).toNatClampNeg)), (0, .ref (g.1 54)), (1, .int x1), (2, .int x2)] := hl
        refine lv_lload_n hx hb d_Md_word_34 rfl (lv_at hl 0 rfl) ?_
        refine kw_calli (va_runS (As := [.long (σ2.2.1 55 ((x2 - (1 : Int32)) : Int32).toNatClampNeg)]) (rest := []) ⟨hx, hb, hml, hown, hts⟩ (c_Md_letters l (σ2.2.1 55 ((x2 - (1 : Int32)) : Int32).toNatClampNeg) h) (cwS 1 hts (gd_s gw1228 gw1229 gw15 gw1230) rfl rfl rfl (by decide +kernel) ⟨Nat.le_of_ble_eq_true rfl, Nat.le_of_ble_eq_true rfl⟩) ⟨kw_blind (Zk_ok g), kw_pre (Zk_ok g) hK hZ hA hst⟩ rfl rfl hl.1 rfl (lv_room (Nat.le_of_ble_eq_true rfl)) d_Md_word_35 ⟨Nat.le_of_ble_eq_true rfl, Nat.le_of_ble_eq_true rfl⟩) hst hA (fun r3 σ3 H locs h hst => ?_)
        refine lv_istore hx hb d_Md_word_38 hl (by decide) rfl (fun ls hl => ?_)
        have hl : lv_has ls 8 [(5, .int r3), (3, .long (σ2.2.1 55 ((x2 - (1 : Int32)) : Int32).toNatClampNeg)), (0, .ref (g.1 54)), (1, .int x1), (2, .int x2)] := hl
        refine lv_iload_n hx hb d_Md_word_40 rfl (lv_at hl 4 rfl) ?_
        refine lv_bipush (v := (22 : Int32)) hx hb d_Md_word_41 (by decide) ?_
        refine lv_icmp_ge (tgt := 50) hx hb d_Md_word_43 (by decide) (fun hc => ?_) (fun hc => ?_)
        · replace h := h.1 hc
          refine lv_iconst (v := (2 : Int32)) hx hb d_Md_word_50 (by decide) ?_
          refine lv_istore hx hb d_Md_word_51 hl (by decide) rfl (fun ls hl => ?_)
          have hl : lv_has ls 8 [(6, .int (2 : Int32)), (5, .int r3), (3, .long (σ2.2.1 55 ((x2 - (1 : Int32)) : Int32).toNatClampNeg)), (0, .ref (g.1 54)), (1, .int x1), (2, .int x2)] := hl
          exact j1 x1 x2 (σ2.2.1 55 ((x2 - (1 : Int32)) : Int32).toNatClampNeg) r3 (2 : Int32) σ3 _ _ _ (lv_sub hl [3, 4, 5, 2, 1, 0] rfl) hst h
        · replace h := h.2 hc
          refine lv_iconst (v := (3 : Int32)) hx hb d_Md_word_46 (by decide) ?_
          refine lv_goto (tgt := 51) hx hb d_Md_word_47 (by decide) ?_
          refine lv_istore hx hb d_Md_word_51 hl (by decide) rfl (fun ls hl => ?_)
          have hl : lv_has ls 8 [(6, .int (3 : Int32)), (5, .int r3), (3, .long (σ2.2.1 55 ((x2 - (1 : Int32)) : Int32).toNatClampNeg)), (0, .ref (g.1 54)), (1, .int x1), (2, .int x2)] := hl
          exact j1 x1 x2 (σ2.2.1 55 ((x2 - (1 : Int32)) : Int32).toNatClampNeg) r3 (3 : Int32) σ3 _ _ _ (lv_sub hl [3, 4, 5, 2, 1, 0] rfl) hst h
      · replace h := h.2 hc
        refine lv_iconst (v := (0 : Int32)) hx hb d_Md_word_23 (by decide) ?_
        exact kw_zret hx hb hr hlocks hst h d_Md_word_24
set_option maxRecDepth 100000 in
set_option maxHeartbeats 4000000 in
theorem b_Md_word_1 {p : Program} {l : Launch} {e : Env} {s : State} {m : MethodId} {args : Array Value} {below : List Frame} {meth : Method} {c : Code} {D : va_G} {g : Gm} {A : Nat → Prop} {post : Int32 → Sg → Prop} {F : Nat → Int32 → Int32 → Int32 → Int32 → Int32 → Int64 → Sg → Prop} (C : kC p s m args meth c k_Md_word 8 (some .boolean) GW R_Md D vwCl g (Zk g) A) (j2 : J_Md_word_2 p l e s m args below meth c D g A post F) (x1 : Int32) (x2 : Int32) (y3 : Int64) (x5 : Int32) (x6 : Int32) (σ : Sg) (H : Heap) (locs : List Loc) (ls : Array Slot) (hl : lv_has ls 8 [(0, .ref (g.1 54)), (1, .int x1), (2, .int x2), (3, .long y3), (5, .int x5), (6, .int x6)]) (hst : Wst D vwCl (WS g) A s σ H locs) (h : wb_Md_word_1 F post x1 x2 y3 x5 x6 σ) : W p l e { frames := 1, cells := 0, slots := 0, locals := 22 } s m args below meth c H locs 0 0 (MQ below (QiW D vwCl (WS g) post A) args s 0 0 A) (F0 m 53 ls []) := by
  obtain ⟨hx, hb, hr, hml, hown, hts, hlocks, hK, hZ, hA⟩ := C
  unfold wb_Md_word_1 at h
  refine lv_aload_n hx hb d_Md_word_53 rfl (lv_at hl 0 rfl) ?_
  refine va_get (D := D) (ci := 10) (C := R_Md) (T := T_Md) (N := 46) hx hb hts in_Md hown hK hst.1 54 (WS_o54 g σ) rfl 3 (by decide) (hts _ gw1067) (fun _ h9 => h9) rfl d_Md_word_54 ?_
  refine lv_iload_n hx hb d_Md_word_57 rfl (lv_at hl 1 rfl) ?_
  obtain ⟨hi, h⟩ := h
  refine va_iald hx hb hK hst.1 57 0 (WS_a57 g σ) rfl hi d_Md_word_58 ?_
  refine lv_iload hx hb d_Md_word_59 (lv_at hl 4 rfl) ?_
  refine lv_iadd hx hb d_Md_word_61 ?_
  refine lv_iload hx hb d_Md_word_62 (lv_at hl 5 rfl) ?_
  refine lv_iadd hx hb d_Md_word_64 ?_
  refine lv_iload_n hx hb d_Md_word_65 rfl (lv_at hl 1 rfl) ?_
  refine kw_calli (va_runS (As := [.int x1]) (rest := [.int (((σ.1 57 x1.toNatClampNeg) + x5) + x6)]) ⟨hx, hb, hml, hown, hts⟩ (c_Md_room l x1 h) (cwS 1 hts (gd_s gw1217 gw1218 gw15 gw1219) rfl rfl rfl (by decide +kernel) ⟨Nat.le_of_ble_eq_true rfl, Nat.le_of_ble_eq_true rfl⟩) ⟨kw_blind (Zk_ok g), kw_pre (Zk_ok g) hK hZ hA hst⟩ rfl rfl hl.1 rfl (lv_room (Nat.le_of_ble_eq_true rfl)) d_Md_word_66 ⟨Nat.le_of_ble_eq_true rfl, Nat.le_of_ble_eq_true rfl⟩) hst hA (fun r1 σ1 H locs h hst => ?_)
  refine lv_icmp_le (tgt := 74) hx hb d_Md_word_69 (by decide) (fun hc => ?_) (fun hc => ?_)
  · replace h := h.1 hc
    refine lv_aload_n hx hb d_Md_word_74 rfl (lv_at hl 0 rfl) ?_
    refine lv_iload_n hx hb d_Md_word_75 rfl (lv_at hl 1 rfl) ?_
    refine lv_bipush (v := (34 : Int32)) hx hb d_Md_word_76 (by decide) ?_
    refine kw_callv (va_runV (As := [.int x1, .int (34 : Int32)]) (rest := []) (b := g.1 54) ⟨hx, hb, hml, hown, hts⟩ (c_Md_append l x1 (34 : Int32) h) (cwV 2 hts (gd_v gw1220 gw1222 gs46 gw15 gw1223) rfl rfl rfl (by decide +kernel) ⟨Nat.le_of_ble_eq_true rfl, Nat.le_of_ble_eq_true rfl⟩) ⟨kw_blind (Zk_ok g), va_recv hK hst.1 rfl (WS_o54 g σ1), kw_pre (Zk_ok g) hK hZ hA hst⟩ rfl rfl hl.1 rfl (lv_room (Nat.le_of_ble_eq_true rfl)) d_Md_word_78 ⟨Nat.le_of_ble_eq_true rfl, Nat.le_of_ble_eq_true rfl⟩) hst hA (fun σ2 H locs h hst => ?_)
    refine lv_iconst (v := (0 : Int32)) hx hb d_Md_word_81 (by decide) ?_
    refine lv_istore hx hb d_Md_word_82 hl (by decide) rfl (fun ls hl => ?_)
    have hl : lv_has ls 8 [(7, .int (0 : Int32)), (0, .ref (g.1 54)), (1, .int x1), (2, .int x2), (3, .long y3), (5, .int x5), (6, .int x6)] := hl
    exact j2 x1 x2 y3 x5 (0 : Int32) σ2 _ _ _ (lv_sub hl [1, 2, 3, 4, 5, 0] rfl) hst h
  · replace h := h.2 hc
    refine lv_iconst (v := (0 : Int32)) hx hb d_Md_word_72 (by decide) ?_
    exact kw_zret hx hb hr hlocks hst h d_Md_word_73
set_option maxRecDepth 100000 in
set_option maxHeartbeats 4000000 in
theorem b_Md_word_2 {p : Program} {l : Launch} {e : Env} {s : State} {m : MethodId} {args : Array Value} {below : List Frame} {meth : Method} {c : Code} {D : va_G} {g : Gm} {A : Nat → Prop} {post : Int32 → Sg → Prop} {F : Nat → Int32 → Int32 → Int32 → Int32 → Int32 → Int64 → Sg → Prop} (C : kC p s m args meth c k_Md_word 8 (some .boolean) GW R_Md D vwCl g (Zk g) A) (j2 : J_Md_word_2 p l e s m args below meth c D g A post F) (x1 : Int32) (x2 : Int32) (y3 : Int64) (x5 : Int32) (x7 : Int32) (σ : Sg) (H : Heap) (locs : List Loc) (ls : Array Slot) (hl : lv_has ls 8 [(0, .ref (g.1 54)), (1, .int x1), (2, .int x2), (3, .long y3), (5, .int x5), (7, .int x7)]) (hst : Wst D vwCl (WS g) A s σ H locs) (h : wb_Md_word_2 F post x1 x2 y3 x5 x7 σ) : W p l e { frames := 1, cells := 0, slots := 0, locals := 22 } s m args below meth c H locs 0 0 (MQ below (QiW D vwCl (WS g) post A) args s 0 0 A) (F0 m 84 ls []) := by
  obtain ⟨hx, hb, hr, hml, hown, hts, hlocks, hK, hZ, hA⟩ := C
  unfold wb_Md_word_2 at h
  refine lv_iload hx hb d_Md_word_84 (lv_at hl 5 rfl) ?_
  refine lv_iload hx hb d_Md_word_86 (lv_at hl 4 rfl) ?_
  refine lv_icmp_ge (tgt := 116) hx hb d_Md_word_88 (by decide) (fun hc => ?_) (fun hc => ?_)
  · replace h := h.1 hc
    refine lv_aload_n hx hb d_Md_word_116 rfl (lv_at hl 0 rfl) ?_
    refine lv_iload_n hx hb d_Md_word_117 rfl (lv_at hl 1 rfl) ?_
    refine lv_bipush (v := (34 : Int32)) hx hb d_Md_word_118 (by decide) ?_
    refine kw_callv (va_runV (As := [.int x1, .int (34 : Int32)]) (rest := []) (b := g.1 54) ⟨hx, hb, hml, hown, hts⟩ (c_Md_append l x1 (34 : Int32) h) (cwV 2 hts (gd_v gw1220 gw1222 gs46 gw15 gw1223) rfl rfl rfl (by decide +kernel) ⟨Nat.le_of_ble_eq_true rfl, Nat.le_of_ble_eq_true rfl⟩) ⟨kw_blind (Zk_ok g), va_recv hK hst.1 rfl (WS_o54 g σ), kw_pre (Zk_ok g) hK hZ hA hst⟩ rfl rfl hl.1 rfl (lv_room (Nat.le_of_ble_eq_true rfl)) d_Md_word_120 ⟨Nat.le_of_ble_eq_true rfl, Nat.le_of_ble_eq_true rfl⟩) hst hA (fun σ1 H locs h hst => ?_)
    refine lv_iload_n hx hb d_Md_word_123 rfl (lv_at hl 2 rfl) ?_
    refine lv_bipush (v := (22 : Int32)) hx hb d_Md_word_124 (by decide) ?_
    refine lv_icmp_ge (tgt := 136) hx hb d_Md_word_126 (by decide) (fun hc => ?_) (fun hc => ?_)
    · replace h := h.1 hc
      refine lv_iconst (v := (1 : Int32)) hx hb d_Md_word_136 (by decide) ?_
      exact kw_zret hx hb hr hlocks hst h d_Md_word_137
    · replace h := h.2 hc
      refine lv_aload_n hx hb d_Md_word_129 rfl (lv_at hl 0 rfl) ?_
      refine lv_iload_n hx hb d_Md_word_130 rfl (lv_at hl 1 rfl) ?_
      refine lv_bipush (v := (58 : Int32)) hx hb d_Md_word_131 (by decide) ?_
      refine kw_callv (va_runV (As := [.int x1, .int (58 : Int32)]) (rest := []) (b := g.1 54) ⟨hx, hb, hml, hown, hts⟩ (c_Md_append l x1 (58 : Int32) h) (cwV 2 hts (gd_v gw1220 gw1222 gs46 gw15 gw1223) rfl rfl rfl (by decide +kernel) ⟨Nat.le_of_ble_eq_true rfl, Nat.le_of_ble_eq_true rfl⟩) ⟨kw_blind (Zk_ok g), va_recv hK hst.1 rfl (WS_o54 g σ1), kw_pre (Zk_ok g) hK hZ hA hst⟩ rfl rfl hl.1 rfl (lv_room (Nat.le_of_ble_eq_true rfl)) d_Md_word_133 ⟨Nat.le_of_ble_eq_true rfl, Nat.le_of_ble_eq_true rfl⟩) hst hA (fun σ2 H locs h hst => ?_)
      refine lv_iconst (v := (1 : Int32)) hx hb d_Md_word_136 (by decide) ?_
      exact kw_zret hx hb hr hlocks hst h d_Md_word_137
  · replace h := h.2 hc
    refine lv_aload_n hx hb d_Md_word_91 rfl (lv_at hl 0 rfl) ?_
    refine lv_iload_n hx hb d_Md_word_92 rfl (lv_at hl 1 rfl) ?_
    refine lv_bipush (v := (96 : Int32)) hx hb d_Md_word_93 (by decide) ?_
    refine lv_lload_n hx hb d_Md_word_95 rfl (lv_at hl 3 rfl) ?_
    refine lv_iconst (v := (5 : Int32)) hx hb d_Md_word_96 (by decide) ?_
    refine lv_iload hx hb d_Md_word_97 (lv_at hl 5 rfl) ?_
    refine lv_imul hx hb d_Md_word_99 ?_
    refine lv_lshr hx hb d_Md_word_100 rfl ?_
    refine lv_ldc2 (v := (31 : Int64)) hx hb hown (hts _ gw1231) d_Md_word_101 ?_
    refine lv_land hx hb d_Md_word_104 ?_
    refine lv_l2i hx hb d_Md_word_105 rfl ?_
    refine lv_iadd hx hb d_Md_word_106 ?_
    refine kw_callv (va_runV (As := [.int x1, .int ((96 : Int32) + ((((y3 >>> ((((5 : Int32) * x7) : Int32).toInt64 &&& 63)) &&& (31 : Int64)) : Int64).toInt32))]) (rest := []) (b := g.1 54) ⟨hx, hb, hml, hown, hts⟩ (c_Md_append l x1 ((96 : Int32) + ((((y3 >>> ((((5 : Int32) * x7) : Int32).toInt64 &&& 63)) &&& (31 : Int64)) : Int64).toInt32)) h) (cwV 2 hts (gd_v gw1220 gw1222 gs46 gw15 gw1223) rfl rfl rfl (by decide +kernel) ⟨Nat.le_of_ble_eq_true rfl, Nat.le_of_ble_eq_true rfl⟩) ⟨kw_blind (Zk_ok g), va_recv hK hst.1 rfl (WS_o54 g σ), kw_pre (Zk_ok g) hK hZ hA hst⟩ rfl rfl hl.1 rfl (lv_room (Nat.le_of_ble_eq_true rfl)) d_Md_word_107 ⟨Nat.le_of_ble_eq_true rfl, Nat.le_of_ble_eq_true rfl⟩) hst hA (fun σ1 H locs h hst => ?_)
    refine lv_iinc (k := 5) (v := (x7 + 1)) hx hb d_Md_word_110 hl rfl (kw_inc _ (by decide)) (by decide) rfl (fun ls hl => ?_)
    have hl : lv_has ls 8 [(7, .int (x7 + 1)), (0, .ref (g.1 54)), (1, .int x1), (2, .int x2), (3, .long y3), (5, .int x5)] := hl
    refine lv_goto (tgt := 84) hx hb d_Md_word_113 (by decide) ?_
    exact j2 x1 x2 y3 x5 (x7 + 1) σ1 _ _ _ (lv_sub hl [1, 2, 3, 4, 5, 0] rfl) hst h
set_option maxRecDepth 100000 in
set_option maxHeartbeats 4000000 in
theorem a_Md_word {p : Program} {l : Launch} {e : Env} {s : State} {m : MethodId} {args : Array Value} {below : List Frame} {meth : Method} {c : Code} {D : va_G} {g : Gm} {A : Nat → Prop} {post : Int32 → Sg → Prop} (C : kC p s m args meth c k_Md_word 8 (some .boolean) GW R_Md D vwCl g (Zk g) A) : ∀ n : Nat, J_Md_word_1 p l e s m args below meth c D g A post (wp_Md_word post n) ∧ J_Md_word_2 p l e s m args below meth c D g A post (wp_Md_word post n) := by
  intro n
  induction n with
  | zero => exact ⟨fun _ _ _ _ _ _ _ _ _ _ _ h => h.elim, fun _ _ _ _ _ _ _ _ _ _ _ h => h.elim⟩
  | succ n ih => exact ⟨fun x1 x2 y3 x5 x6 σ H locs ls hl hst h => b_Md_word_1 (F := wp_Md_word post n) C (ih.2) x1 x2 y3 x5 x6 σ H locs ls hl hst h, fun x1 x2 y3 x5 x7 σ H locs ls hl hst h => b_Md_word_2 (F := wp_Md_word post n) C (ih.2) x1 x2 y3 x5 x7 σ H locs ls hl hst h⟩
set_option maxRecDepth 100000 in
set_option maxHeartbeats 4000000 in
theorem c_Md_word (l : Launch) {D : va_G} {g : Gm} {sz : Nat} (x1 : Int32) (x2 : Int32) {σ : Sg} {post : Int32 → Sg → Prop} (h : wq_Md_word x1 x2 σ post) : Met l y_Md_word (.code y_Md_word k_Md_word 8 (some .boolean) :: GW) { frames := 1, cells := 0, slots := 0, locals := 22 } (PcW D vwCl (WS g) g (Zk g) σ sz [.ref (g.1 54), .int x1, .int x2]) (QiW D vwCl (WS g) post (va_A (WS g σ) sz)) 0 0 (va_A (WS g σ) sz) := by
  refine kw_entry (own := R_Md) (by decide) rfl rfl (Nat.le_of_ble_eq_true rfl) ?_
  intro p e s m below meth c ls hsz C hin hl hst
  obtain ⟨n, h⟩ := h
  cases n with
  | zero => exact h.elim
  | succ n =>
    have ih := a_Md_word (l := l) (e := e) (below := below) (post := post) C n
    exact b_Md_word_0 (F := wp_Md_word post n) C (ih.1) x1 x2 σ _ _ ls hl hst h
/-! SchemaDeskModel.insert (IIC)V -/
abbrev k_Md_insert : ByteArray := prog_12_method_11_code
abbrev y_Md_insert : MethodName := ⟨"SchemaDeskModel", "insert", "(IIC)V"⟩
theorem d_Md_insert_0 : decode k_Md_insert 0 = .ok (.aload_n 0, 1) := by decide +kernel
theorem d_Md_insert_1 : decode k_Md_insert 1 = .ok (.iload_n 1, 1) := by decide +kernel
theorem d_Md_insert_2 : decode k_Md_insert 2 = .ok (.invokestatic 181, 3) := by decide +kernel
theorem d_Md_insert_5 : decode k_Md_insert 5 = .ok (.ifCond .eq 10, 3) := by decide +kernel
theorem d_Md_insert_8 : decode k_Md_insert 8 = .ok (.iload_n 3, 1) := by decide +kernel
theorem d_Md_insert_9 : decode k_Md_insert 9 = .ok (.invokestatic 185, 3) := by decide +kernel
theorem d_Md_insert_12 : decode k_Md_insert 12 = .ok (.ifCond .ne 7, 3) := by decide +kernel
theorem d_Md_insert_15 : decode k_Md_insert 15 = .ok (.iconst 1, 1) := by decide +kernel
theorem d_Md_insert_16 : decode k_Md_insert 16 = .ok (.goto 39, 3) := by decide +kernel
theorem d_Md_insert_19 : decode k_Md_insert 19 = .ok (.iload_n 2, 1) := by decide +kernel
theorem d_Md_insert_20 : decode k_Md_insert 20 = .ok (.ifCond .lt 13, 3) := by decide +kernel
theorem d_Md_insert_23 : decode k_Md_insert 23 = .ok (.iload_n 2, 1) := by decide +kernel
theorem d_Md_insert_24 : decode k_Md_insert 24 = .ok (.aload_n 0, 1) := by decide +kernel
theorem d_Md_insert_25 : decode k_Md_insert 25 = .ok (.getfield 71, 3) := by decide +kernel
theorem d_Md_insert_28 : decode k_Md_insert 28 = .ok (.iload_n 1, 1) := by decide +kernel
theorem d_Md_insert_29 : decode k_Md_insert 29 = .ok (.iaload, 1) := by decide +kernel
theorem d_Md_insert_30 : decode k_Md_insert 30 = .ok (.if_icmp .le 7, 3) := by decide +kernel
theorem d_Md_insert_33 : decode k_Md_insert 33 = .ok (.iconst 2, 1) := by decide +kernel
theorem d_Md_insert_34 : decode k_Md_insert 34 = .ok (.goto 21, 3) := by decide +kernel
theorem d_Md_insert_37 : decode k_Md_insert 37 = .ok (.aload_n 0, 1) := by decide +kernel
theorem d_Md_insert_38 : decode k_Md_insert 38 = .ok (.getfield 71, 3) := by decide +kernel
theorem d_Md_insert_41 : decode k_Md_insert 41 = .ok (.iload_n 1, 1) := by decide +kernel
theorem d_Md_insert_42 : decode k_Md_insert 42 = .ok (.iaload, 1) := by decide +kernel
theorem d_Md_insert_43 : decode k_Md_insert 43 = .ok (.iload_n 1, 1) := by decide +kernel
theorem d_Md_insert_44 : decode k_Md_insert 44 = .ok (.invokestatic 188, 3) := by decide +kernel
theorem d_Md_insert_47 : decode k_Md_insert 47 = .ok (.if_icmp .ne 7, 3) := by decide +kernel
theorem d_Md_insert_50 : decode k_Md_insert 50 = .ok (.iconst 3, 1) := by decide +kernel
theorem d_Md_insert_51 : decode k_Md_insert 51 = .ok (.goto 4, 3) := by decide +kernel
theorem d_Md_insert_54 : decode k_Md_insert 54 = .ok (.iconst 0, 1) := by decide +kernel
theorem d_Md_insert_55 : decode k_Md_insert 55 = .ok (.putfield 177, 3) := by decide +kernel
theorem d_Md_insert_58 : decode k_Md_insert 58 = .ok (.aload_n 0, 1) := by decide +kernel
theorem d_Md_insert_59 : decode k_Md_insert 59 = .ok (.getfield 177, 3) := by decide +kernel
theorem d_Md_insert_62 : decode k_Md_insert 62 = .ok (.ifCond .eq 4, 3) := by decide +kernel
theorem d_Md_insert_65 : decode k_Md_insert 65 = .ok (.return_, 1) := by decide +kernel
theorem d_Md_insert_66 : decode k_Md_insert 66 = .ok (.sipush 160, 3) := by decide +kernel
theorem d_Md_insert_69 : decode k_Md_insert 69 = .ok (.iload_n 1, 1) := by decide +kernel
theorem d_Md_insert_70 : decode k_Md_insert 70 = .ok (.imul, 1) := by decide +kernel
theorem d_Md_insert_71 : decode k_Md_insert 71 = .ok (.istore 4, 2) := by decide +kernel
theorem d_Md_insert_73 : decode k_Md_insert 73 = .ok (.iload 4, 2) := by decide +kernel
theorem d_Md_insert_75 : decode k_Md_insert 75 = .ok (.aload_n 0, 1) := by decide +kernel
theorem d_Md_insert_76 : decode k_Md_insert 76 = .ok (.getfield 71, 3) := by decide +kernel
theorem d_Md_insert_79 : decode k_Md_insert 79 = .ok (.iload_n 1, 1) := by decide +kernel
theorem d_Md_insert_80 : decode k_Md_insert 80 = .ok (.iaload, 1) := by decide +kernel
theorem d_Md_insert_81 : decode k_Md_insert 81 = .ok (.iadd, 1) := by decide +kernel
theorem d_Md_insert_82 : decode k_Md_insert 82 = .ok (.istore 5, 2) := by decide +kernel
theorem d_Md_insert_84 : decode k_Md_insert 84 = .ok (.iload 5, 2) := by decide +kernel
theorem d_Md_insert_86 : decode k_Md_insert 86 = .ok (.iload 4, 2) := by decide +kernel
theorem d_Md_insert_88 : decode k_Md_insert 88 = .ok (.iload_n 2, 1) := by decide +kernel
theorem d_Md_insert_89 : decode k_Md_insert 89 = .ok (.iadd, 1) := by decide +kernel
theorem d_Md_insert_90 : decode k_Md_insert 90 = .ok (.if_icmp .le 25, 3) := by decide +kernel
theorem d_Md_insert_93 : decode k_Md_insert 93 = .ok (.aload_n 0, 1) := by decide +kernel
theorem d_Md_insert_94 : decode k_Md_insert 94 = .ok (.getfield 67, 3) := by decide +kernel
theorem d_Md_insert_97 : decode k_Md_insert 97 = .ok (.iload 5, 2) := by decide +kernel
theorem d_Md_insert_99 : decode k_Md_insert 99 = .ok (.aload_n 0, 1) := by decide +kernel
theorem d_Md_insert_100 : decode k_Md_insert 100 = .ok (.getfield 67, 3) := by decide +kernel
theorem d_Md_insert_103 : decode k_Md_insert 103 = .ok (.iload 5, 2) := by decide +kernel
theorem d_Md_insert_105 : decode k_Md_insert 105 = .ok (.iconst 1, 1) := by decide +kernel
theorem d_Md_insert_106 : decode k_Md_insert 106 = .ok (.isub, 1) := by decide +kernel
theorem d_Md_insert_107 : decode k_Md_insert 107 = .ok (.iaload, 1) := by decide +kernel
theorem d_Md_insert_108 : decode k_Md_insert 108 = .ok (.iastore, 1) := by decide +kernel
theorem d_Md_insert_109 : decode k_Md_insert 109 = .ok (.iinc 5 (-1), 3) := by decide +kernel
theorem d_Md_insert_112 : decode k_Md_insert 112 = .ok (.goto (-28), 3) := by decide +kernel
theorem d_Md_insert_115 : decode k_Md_insert 115 = .ok (.aload_n 0, 1) := by decide +kernel
theorem d_Md_insert_116 : decode k_Md_insert 116 = .ok (.getfield 67, 3) := by decide +kernel
theorem d_Md_insert_119 : decode k_Md_insert 119 = .ok (.iload 4, 2) := by decide +kernel
theorem d_Md_insert_121 : decode k_Md_insert 121 = .ok (.iload_n 2, 1) := by decide +kernel
theorem d_Md_insert_122 : decode k_Md_insert 122 = .ok (.iadd, 1) := by decide +kernel
theorem d_Md_insert_123 : decode k_Md_insert 123 = .ok (.iload_n 3, 1) := by decide +kernel
theorem d_Md_insert_124 : decode k_Md_insert 124 = .ok (.iastore, 1) := by decide +kernel
theorem d_Md_insert_125 : decode k_Md_insert 125 = .ok (.aload_n 0, 1) := by decide +kernel
theorem d_Md_insert_126 : decode k_Md_insert 126 = .ok (.getfield 71, 3) := by decide +kernel
theorem d_Md_insert_129 : decode k_Md_insert 129 = .ok (.iload_n 1, 1) := by decide +kernel
theorem d_Md_insert_130 : decode k_Md_insert 130 = .ok (.dup2, 1) := by decide +kernel
theorem d_Md_insert_131 : decode k_Md_insert 131 = .ok (.iaload, 1) := by decide +kernel
theorem d_Md_insert_132 : decode k_Md_insert 132 = .ok (.iconst 1, 1) := by decide +kernel
theorem d_Md_insert_133 : decode k_Md_insert 133 = .ok (.iadd, 1) := by decide +kernel
theorem d_Md_insert_134 : decode k_Md_insert 134 = .ok (.iastore, 1) := by decide +kernel
theorem d_Md_insert_135 : decode k_Md_insert 135 = .ok (.return_, 1) := by decide +kernel
theorem gw1214 : (Jvm.Cond.methodLink "SchemaDeskModel" (185 : Nat) ({ cls := "SchemaDeskModel", name := "isChar", desc := "(I)Z" } : Jvm.MethodName)) ∈ GW := gw_t6 (List.mem_of_getElem? (i := 14) rfl) rfl
theorem gw1215 : (Jvm.Cond.static ({ cls := "SchemaDeskModel", name := "isChar", desc := "(I)Z" } : Jvm.MethodName)) ∈ GW := gw_t6 (List.mem_of_getElem? (i := 15) rfl) rfl
theorem gw1216 : (Jvm.Cond.code ({ cls := "SchemaDeskModel", name := "isChar", desc := "(I)Z" } : Jvm.MethodName) prog_12_method_6_code (1 : Nat) (Option.some Jvm.ClassFile.FieldType.boolean)) ∈ GW := gw_t6 (List.mem_of_getElem? (i := 16) rfl) rfl
def wb_Md_insert_0 (F : Nat → Int32 → Int32 → Int32 → Int32 → Int32 → Sg → Prop) (post : Sg → Prop) (x1 : Int32) (x2 : Int32) (x3 : Int32) (σ : Sg) : Prop := (wq_Md_isText x1 σ (fun r1 σ1 => ((r1 = 0 → (∀ σ2, σ2 = si σ1 54 1 (1 : Int32) → F 1 x1 x2 x3 0 0 σ2)) ∧ (¬ r1 = 0 → (wq_Md_isChar x3 σ1 (fun r2 σ2 => ((¬ r2 = 0 → ((x2 < 0 → (∀ σ3, σ3 = si σ2 54 1 (2 : Int32) → F 1 x1 x2 x3 0 0 σ3)) ∧ (¬ x2 < 0 → (vp_in x1 2 ∧ ((x2 ≤ (σ2.1 57 x1.toNatClampNeg) → (vp_in x1 2 ∧ (wq_Md_room x1 σ2 (fun r3 σ3 => ((¬ (σ2.1 57 x1.toNatClampNeg) = r3 → (∀ σ4, σ4 = si σ3 54 1 (0 : Int32) → F 1 x1 x2 x3 0 0 σ4)) ∧ ((σ2.1 57 x1.toNatClampNeg) = r3 → (∀ σ4, σ4 = si σ3 54 1 (3 : Int32) → F 1 x1 x2 x3 0 0 σ4))))))) ∧ (¬ x2 ≤ (σ2.1 57 x1.toNatClampNeg) → (∀ σ3, σ3 = si σ2 54 1 (2 : Int32) → F 1 x1 x2 x3 0 0 σ3))))))) ∧ (r2 = 0 → (∀ σ3, σ3 = si σ2 54 1 (1 : Int32) → F 1 x1 x2 x3 0 0 σ3)))))))))
def wb_Md_insert_1 (F : Nat → Int32 → Int32 → Int32 → Int32 → Int32 → Sg → Prop) (post : Sg → Prop) (x1 : Int32) (x2 : Int32) (x3 : Int32) (σ : Sg) : Prop := (((σ.1 54 1) = 0 → (vp_in x1 2 ∧ F 2 x1 x2 x3 ((160 : Int32) * x1) (((160 : Int32) * x1) + (σ.1 57 x1.toNatClampNeg)) σ)) ∧ (¬ (σ.1 54 1) = 0 → post σ))
def wb_Md_insert_2 (F : Nat → Int32 → Int32 → Int32 → Int32 → Int32 → Sg → Prop) (post : Sg → Prop) (x1 : Int32) (x2 : Int32) (x3 : Int32) (x4 : Int32) (x5 : Int32) (σ : Sg) : Prop := ((x5 ≤ (x4 + x2) → (vp_in (x4 + x2) 240 ∧ (∀ σ1, σ1 = si σ 56 ((x4 + x2) : Int32).toNatClampNeg x3 → (vp_in x1 2 ∧ (vp_in x1 2 ∧ (∀ σ2, σ2 = si σ1 57 x1.toNatClampNeg ((σ1.1 57 x1.toNatClampNeg) + (1 : Int32)) → post σ2)))))) ∧ (¬ x5 ≤ (x4 + x2) → (vp_in (x5 - (1 : Int32)) 240 ∧ (vp_in x5 240 ∧ (∀ σ1, σ1 = si σ 56 x5.toNatClampNeg (σ.1 56 ((x5 - (1 : Int32)) : Int32).toNatClampNeg) → F 2 x1 x2 x3 x4 (x5 + (-1)) σ1)))))
def wp_Md_insert (post : Sg → Prop) : Nat → Nat → Int32 → Int32 → Int32 → Int32 → Int32 → Sg → Prop
  | 0, _, _, _, _, _, _, _ => False
  | n + 1, k, x1, x2, x3, x4, x5, σ => match k with
    | 0 => wb_Md_insert_0 (wp_Md_insert post n) post x1 x2 x3 σ
    | 1 => wb_Md_insert_1 (wp_Md_insert post n) post x1 x2 x3 σ
    | 2 => wb_Md_insert_2 (wp_Md_insert post n) post x1 x2 x3 x4 x5 σ
    | _ => False
def wq_Md_insert (x1 : Int32) (x2 : Int32) (x3 : Int32) (σ : Sg) (post : Sg → Prop) : Prop := ∃ n, wp_Md_insert post n 0 x1 x2 x3 0 0 σ
def J_Md_insert_1 (p : Program) (l : Launch) (e : Env) (s : State) (m : MethodId) (args : Array Value) (below : List Frame) (meth : Method) (c : Code) (D : va_G) (g : Gm) (A : Nat → Prop) (post : Sg → Prop) (F : Nat → Int32 → Int32 → Int32 → Int32 → Int32 → Sg → Prop) : Prop := ∀ (x1 : Int32) (x2 : Int32) (x3 : Int32) (σ : Sg) (H : Heap) (locs : List Loc) (ls : Array Slot), lv_has ls 6 [(0, .ref (g.1 54)), (1, .int x1), (2, .int x2), (3, .int x3)] → Wst D vwCl (WS g) A s σ H locs → F 1 x1 x2 x3 0 0 σ → W p l e { frames := 1, cells := 0, slots := 0, locals := 20 } s m args below meth c H locs 0 0 (MQ below (QvW D vwCl (WS g) post A) args s 0 0 A) (F0 m 58 ls [])
def J_Md_insert_2 (p : Program) (l : Launch) (e : Env) (s : State) (m : MethodId) (args : Array Value) (below : List Frame) (meth : Method) (c : Code) (D : va_G) (g : Gm) (A : Nat → Prop) (post : Sg → Prop) (F : Nat → Int32 → Int32 → Int32 → Int32 → Int32 → Sg → Prop) : Prop := ∀ (x1 : Int32) (x2 : Int32) (x3 : Int32) (x4 : Int32) (x5 : Int32) (σ : Sg) (H : Heap) (locs : List Loc) (ls : Array Slot), lv_has ls 6 [(0, .ref (g.1 54)), (1, .int x1), (2, .int x2), (3, .int x3), (4, .int x4), (5, .int x5)] → Wst D vwCl (WS g) A s σ H locs → F 2 x1 x2 x3 x4 x5 σ → W p l e { frames := 1, cells := 0, slots := 0, locals := 20 } s m args below meth c H locs 0 0 (MQ below (QvW D vwCl (WS g) post A) args s 0 0 A) (F0 m 84 ls [])
set_option maxRecDepth 100000 in
set_option maxHeartbeats 4000000 in
theorem b_Md_insert_0 {p : Program} {l : Launch} {e : Env} {s : State} {m : MethodId} {args : Array Value} {below : List Frame} {meth : Method} {c : Code} {D : va_G} {g : Gm} {A : Nat → Prop} {post : Sg → Prop} {F : Nat → Int32 → Int32 → Int32 → Int32 → Int32 → Sg → Prop} (C : kC p s m args meth c k_Md_insert 6 (none) GW R_Md D vwCl g (Zk g) A) (j1 : J_Md_insert_1 p l e s m args below meth c D g A post F) (x1 : Int32) (x2 : Int32) (x3 : Int32) (σ : Sg) (H : Heap) (locs : List Loc) (ls : Array Slot) (hl : lv_has ls 6 [(0, .ref (g.1 54)), (1, .int x1), (2, .int x2), (3, .int x3)]) (hst : Wst D vwCl (WS g) A s σ H locs) (h : wb_Md_insert_0 F post x1 x2 x3 σ) : W p l e { frames := 1, cells := 0, slots := 0, locals := 20 } s m args below meth c H locs 0 0 (MQ below (QvW D vwCl (WS g) post A) args s 0 0 A) (F0 m 0 ls []) := by
  obtain ⟨hx, hb, hr, hml, hown, hts, hlocks, hK, hZ, hA⟩ := C
  unfold wb_Md_insert_0 at h
  refine lv_aload_n hx hb d_Md_insert_0 rfl (lv_at hl 0 rfl) ?_
  refine lv_iload_n hx hb d_Md_insert_1 rfl (lv_at hl 1 rfl) ?_
  refine kw_calli (va_runS (As := [.int x1]) (rest := [.ref (g.1 54)]) ⟨hx, hb, hml, hown, hts⟩ (c_Md_isText l x1 h) (cwS 1 hts (gd_s gw1211 gw1212 gw15 gw1213) rfl rfl rfl (by decide +kernel) ⟨Nat.le_of_ble_eq_true rfl, Nat.le_of_ble_eq_true rfl⟩) ⟨kw_blind (Zk_ok g), kw_pre (Zk_ok g) hK hZ hA hst⟩ rfl rfl hl.1 rfl (lv_room (Nat.le_of_ble_eq_true rfl)) d_Md_insert_2 ⟨Nat.le_of_ble_eq_true rfl, Nat.le_of_ble_eq_true rfl⟩) hst hA (fun r1 σ1 H locs h hst => ?_)
  refine lv_if_eq (tgt := 15) hx hb d_Md_insert_5 (by decide) (fun hc => ?_) (fun hc => ?_)
  · replace h := h.1 hc
    refine lv_iconst (v := (1 : Int32)) hx hb d_Md_insert_15 (by decide) ?_
    refine lv_goto (tgt := 55) hx hb d_Md_insert_16 (by decide) ?_
    refine kw_put (D := D) (ci := 10) (ty := .int) (C := R_Md) (T := T_Md) (N := 46) hx hb hts in_Md ty_Md ty_Md_ok nm_Md hown hK hst 54 (WS_o54 g σ1) rfl 1 (by decide) (hts _ gw1065) (fun _ h9 => h9) rfl (by decide +kernel) rfl rfl (Nat.le_of_ble_eq_true rfl) (WS_p54_1 g σ1 _) d_Md_insert_55 (fun σ2 H locs e2 hst => ?_)
    replace h := h σ2 e2
    exact j1 x1 x2 x3 σ2 _ _ _ (lv_sub hl [0, 1, 2, 3] rfl) hst h
  · replace h := h.2 hc
    refine lv_iload_n hx hb d_Md_insert_8 rfl (lv_at hl 3 rfl) ?_
    refine kw_calli (va_runS (As := [.int x3]) (rest := [.ref (g.1 54)]) ⟨hx, hb, hml, hown, hts⟩ (c_Md_isChar l x3 h) (cwS 1 hts (gd_s gw1214 gw1215 gw15 gw1216) rfl rfl rfl (by decide +kernel) ⟨Nat.le_of_ble_eq_true rfl, Nat.le_of_ble_eq_true rfl⟩) ⟨kw_blind (Zk_ok g), kw_pre (Zk_ok g) hK hZ hA hst⟩ rfl rfl hl.1 rfl (lv_room (Nat.le_of_ble_eq_true rfl)) d_Md_insert_9 ⟨Nat.le_of_ble_eq_true rfl, Nat.le_of_ble_eq_true rfl⟩) hst hA (fun r2 σ2 H locs h hst => ?_)
    refine lv_if_ne (tgt := 19) hx hb d_Md_insert_12 (by decide) (fun hc => ?_) (fun hc => ?_)
    · replace h := h.1 hc
      refine lv_iload_n hx hb d_Md_insert_19 rfl (lv_at hl 2 rfl) ?_
      refine lv_if_lt (tgt := 33) hx hb d_Md_insert_20 (by decide) (fun hc => ?_) (fun hc => ?_)
      · replace h := h.1 hc
        refine lv_iconst (v := (2 : Int32)) hx hb d_Md_insert_33 (by decide) ?_
        refine lv_goto (tgt := 55) hx hb d_Md_insert_34 (by decide) ?_
        refine kw_put (D := D) (ci := 10) (ty := .int) (C := R_Md) (T := T_Md) (N := 46) hx hb hts in_Md ty_Md ty_Md_ok nm_Md hown hK hst 54 (WS_o54 g σ2) rfl 1 (by decide) (hts _ gw1065) (fun _ h9 => h9) rfl (by decide +kernel) rfl rfl (Nat.le_of_ble_eq_true rfl) (WS_p54_1 g σ2 _) d_Md_insert_55 (fun σ3 H locs e3 hst => ?_)
        replace h := h σ3 e3
        exact j1 x1 x2 x3 σ3 _ _ _ (lv_sub hl [0, 1, 2, 3] rfl) hst h
      · replace h := h.2 hc
        refine lv_iload_n hx hb d_Md_insert_23 rfl (lv_at hl 2 rfl) ?_
        refine lv_aload_n hx hb d_Md_insert_24 rfl (lv_at hl 0 rfl) ?_
        refine va_get (D := D) (ci := 10) (C := R_Md) (T := T_Md) (N := 46) hx hb hts in_Md hown hK hst.1 54 (WS_o54 g σ2) rfl 3 (by decide) (hts _ gw1067) (fun _ h9 => h9) rfl d_Md_insert_25 ?_
        refine lv_iload_n hx hb d_Md_insert_28 rfl (lv_at hl 1 rfl) ?_
        obtain ⟨hi, h⟩ := h
        refine va_iald hx hb hK hst.1 57 0 (WS_a57 g σ2) rfl hi d_Md_insert_29 ?_
        refine lv_icmp_le (tgt := 37) hx hb d_Md_insert_30 (by decide) (fun hc => ?_) (fun hc => ?_)
        · replace h := h.1 hc
          refine lv_aload_n hx hb d_Md_insert_37 rfl (lv_at hl 0 rfl) ?_
          refine va_get (D := D) (ci := 10) (C := R_Md) (T := T_Md) (N := 46) hx hb hts in_Md hown hK hst.1 54 (WS_o54 g σ2) rfl 3 (by decide) (hts _ gw1067) (fun _ h9 => h9) rfl d_Md_insert_38 ?_
          refine lv_iload_n hx hb d_Md_insert_41 rfl (lv_at hl 1 rfl) ?_
          obtain ⟨hi, h⟩ := h
          refine va_iald hx hb hK hst.1 57 0 (WS_a57 g σ2) rfl hi d_Md_insert_42 ?_
          refine lv_iload_n hx hb d_Md_insert_43 rfl (lv_at hl 1 rfl) ?_
          refine kw_calli (va_runS (As := [.int x1]) (rest := [.int (σ2.1 57 x1.toNatClampNeg), .ref (g.1 54)]) ⟨hx, hb, hml, hown, hts⟩ (c_Md_room l x1 h) (cwS 1 hts (gd_s gw1217 gw1218 gw15 gw1219) rfl rfl rfl (by decide +kernel) ⟨Nat.le_of_ble_eq_true rfl, Nat.le_of_ble_eq_true rfl⟩) ⟨kw_blind (Zk_ok g), kw_pre (Zk_ok g) hK hZ hA hst⟩ rfl rfl hl.1 rfl (lv_room (Nat.le_of_ble_eq_true rfl)) d_Md_insert_44 ⟨Nat.le_of_ble_eq_true rfl, Nat.le_of_ble_eq_true rfl⟩) hst hA (fun r3 σ3 H locs h hst => ?_)
          refine lv_icmp_ne (tgt := 54) hx hb d_Md_insert_47 (by decide) (fun hc => ?_) (fun hc => ?_)
          · replace h := h.1 hc
            refine lv_iconst (v := (0 : Int32)) hx hb d_Md_insert_54 (by decide) ?_
            refine kw_put (D := D) (ci := 10) (ty := .int) (C := R_Md) (T := T_Md) (N := 46) hx hb hts in_Md ty_Md ty_Md_ok nm_Md hown hK hst 54 (WS_o54 g σ3) rfl 1 (by decide) (hts _ gw1065) (fun _ h9 => h9) rfl (by decide +kernel) rfl rfl (Nat.le_of_ble_eq_true rfl) (WS_p54_1 g σ3 _) d_Md_insert_55 (fun σ4 H locs e4 hst => ?_)
            replace h := h σ4 e4
            exact j1 x1 x2 x3 σ4 _ _ _ (lv_sub hl [0, 1, 2, 3] rfl) hst h
          · replace h := h.2 hc
            refine lv_iconst (v := (3 : Int32)) hx hb d_Md_insert_50 (by decide) ?_
            refine lv_goto (tgt := 55) hx hb d_Md_insert_51 (by decide) ?_
            refine kw_put (D := D) (ci := 10) (ty := .int) (C := R_Md) (T := T_Md) (N := 46) hx hb hts in_Md ty_Md ty_Md_ok nm_Md hown hK hst 54 (WS_o54 g σ3) rfl 1 (by decide) (hts _ gw1065) (fun _ h9 => h9) rfl (by decide +kernel) rfl rfl (Nat.le_of_ble_eq_true rfl) (WS_p54_1 g σ3 _) d_Md_insert_55 (fun σ4 H locs e4 hst => ?_)
            replace h := h σ4 e4
            exact j1 x1 x2 x3 σ4 _ _ _ (lv_sub hl [0, 1, 2, 3] rfl) hst h
        · replace h := h.2 hc
          refine lv_iconst (v := (2 : Int32)) hx hb d_Md_insert_33 (by decide) ?_
          refine lv_goto (tgt := 55) hx hb d_Md_insert_34 (by decide) ?_
          refine kw_put (D := D) (ci := 10) (ty := .int) (C := R_Md) (T := T_Md) (N := 46) hx hb hts in_Md ty_Md ty_Md_ok nm_Md hown hK hst 54 (WS_o54 g σ2) rfl 1 (by decide) (hts _ gw1065) (fun _ h9 => h9) rfl (by decide +kernel) rfl rfl (Nat.le_of_ble_eq_true rfl) (WS_p54_1 g σ2 _) d_Md_insert_55 (fun σ3 H locs e3 hst => ?_)
          replace h := h σ3 e3
          exact j1 x1 x2 x3 σ3 _ _ _ (lv_sub hl [0, 1, 2, 3] rfl) hst h
    · replace h := h.2 hc
      refine lv_iconst (v := (1 : Int32)) hx hb d_Md_insert_15 (by decide) ?_
      refine lv_goto (tgt := 55) hx hb d_Md_insert_16 (by decide) ?_
      refine kw_put (D := D) (ci := 10) (ty := .int) (C := R_Md) (T := T_Md) (N := 46) hx hb hts in_Md ty_Md ty_Md_ok nm_Md hown hK hst 54 (WS_o54 g σ2) rfl 1 (by decide) (hts _ gw1065) (fun _ h9 => h9) rfl (by decide +kernel) rfl rfl (Nat.le_of_ble_eq_true rfl) (WS_p54_1 g σ2 _) d_Md_insert_55 (fun σ3 H locs e3 hst => ?_)
      replace h := h σ3 e3
      exact j1 x1 x2 x3 σ3 _ _ _ (lv_sub hl [0, 1, 2, 3] rfl) hst h
set_option maxRecDepth 100000 in
set_option maxHeartbeats 4000000 in
theorem b_Md_insert_1 {p : Program} {l : Launch} {e : Env} {s : State} {m : MethodId} {args : Array Value} {below : List Frame} {meth : Method} {c : Code} {D : va_G} {g : Gm} {A : Nat → Prop} {post : Sg → Prop} {F : Nat → Int32 → Int32 → Int32 → Int32 → Int32 → Sg → Prop} (C : kC p s m args meth c k_Md_insert 6 (none) GW R_Md D vwCl g (Zk g) A) (j2 : J_Md_insert_2 p l e s m args below meth c D g A post F) (x1 : Int32) (x2 : Int32) (x3 : Int32) (σ : Sg) (H : Heap) (locs : List Loc) (ls : Array Slot) (hl : lv_has ls 6 [(0, .ref (g.1 54)), (1, .int x1), (2, .int x2), (3, .int x3)]) (hst : Wst D vwCl (WS g) A s σ H locs) (h : wb_Md_insert_1 F post x1 x2 x3 σ) : W p l e { frames := 1, cells := 0, slots := 0, locals := 20 } s m args below meth c H locs 0 0 (MQ below (QvW D vwCl (WS g) post A) args s 0 0 A) (F0 m 58 ls []) := by
  obtain ⟨hx, hb, hr, hml, hown, hts, hlocks, hK, hZ, hA⟩ := C
  unfold wb_Md_insert_1 at h
  refine lv_aload_n hx hb d_Md_insert_58 rfl (lv_at hl 0 rfl) ?_
  refine va_get (D := D) (ci := 10) (C := R_Md) (T := T_Md) (N := 46) hx hb hts in_Md hown hK hst.1 54 (WS_o54 g σ) rfl 1 (by decide) (hts _ gw1065) (fun _ h9 => h9) rfl d_Md_insert_59 ?_
  refine lv_if_eq (tgt := 66) hx hb d_Md_insert_62 (by decide) (fun hc => ?_) (fun hc => ?_)
  · replace h := h.1 hc
    refine lv_sipush (v := (160 : Int32)) hx hb d_Md_insert_66 (by decide) ?_
    refine lv_iload_n hx hb d_Md_insert_69 rfl (lv_at hl 1 rfl) ?_
    refine lv_imul hx hb d_Md_insert_70 ?_
    refine lv_istore hx hb d_Md_insert_71 hl (by decide) rfl (fun ls hl => ?_)
    have hl : lv_has ls 6 [(4, .int ((160 : Int32) * x1)), (0, .ref (g.1 54)), (1, .int x1), (2, .int x2), (3, .int x3)] := hl
    refine lv_iload hx hb d_Md_insert_73 (lv_at hl 0 rfl) ?_
    refine lv_aload_n hx hb d_Md_insert_75 rfl (lv_at hl 1 rfl) ?_
    refine va_get (D := D) (ci := 10) (C := R_Md) (T := T_Md) (N := 46) hx hb hts in_Md hown hK hst.1 54 (WS_o54 g σ) rfl 3 (by decide) (hts _ gw1067) (fun _ h9 => h9) rfl d_Md_insert_76 ?_
    refine lv_iload_n hx hb d_Md_insert_79 rfl (lv_at hl 2 rfl) ?_
    obtain ⟨hi, h⟩ := h
    refine va_iald hx hb hK hst.1 57 0 (WS_a57 g σ) rfl hi d_Md_insert_80 ?_
    refine lv_iadd hx hb d_Md_insert_81 ?_
    refine lv_istore hx hb d_Md_insert_82 hl (by decide) rfl (fun ls hl => ?_)
    have hl : lv_has ls 6 [(5, .int (((160 : Int32) * x1) + (σ.1 57 x1.toNatClampNeg))), (4, .int ((160 : Int32) * x1)), (0, .ref (g.1 54)), (1, .int x1), (2, .int x2), (3, .int x3)] := hl
    exact j2 x1 x2 x3 ((160 : Int32) * x1) (((160 : Int32) * x1) + (σ.1 57 x1.toNatClampNeg)) σ _ _ _ (lv_sub hl [2, 3, 4, 5, 1, 0] rfl) hst h
  · replace h := h.2 hc
    exact kw_vret hx hb hr hlocks hst h d_Md_insert_65
set_option maxRecDepth 100000 in
set_option maxHeartbeats 4000000 in
theorem b_Md_insert_2 {p : Program} {l : Launch} {e : Env} {s : State} {m : MethodId} {args : Array Value} {below : List Frame} {meth : Method} {c : Code} {D : va_G} {g : Gm} {A : Nat → Prop} {post : Sg → Prop} {F : Nat → Int32 → Int32 → Int32 → Int32 → Int32 → Sg → Prop} (C : kC p s m args meth c k_Md_insert 6 (none) GW R_Md D vwCl g (Zk g) A) (j2 : J_Md_insert_2 p l e s m args below meth c D g A post F) (x1 : Int32) (x2 : Int32) (x3 : Int32) (x4 : Int32) (x5 : Int32) (σ : Sg) (H : Heap) (locs : List Loc) (ls : Array Slot) (hl : lv_has ls 6 [(0, .ref (g.1 54)), (1, .int x1), (2, .int x2), (3, .int x3), (4, .int x4), (5, .int x5)]) (hst : Wst D vwCl (WS g) A s σ H locs) (h : wb_Md_insert_2 F post x1 x2 x3 x4 x5 σ) : W p l e { frames := 1, cells := 0, slots := 0, locals := 20 } s m args below meth c H locs 0 0 (MQ below (QvW D vwCl (WS g) post A) args s 0 0 A) (F0 m 84 ls []) := by
  obtain ⟨hx, hb, hr, hml, hown, hts, hlocks, hK, hZ, hA⟩ := C
  unfold wb_Md_insert_2 at h
  refine lv_iload hx hb d_Md_insert_84 (lv_at hl 5 rfl) ?_
  refine lv_iload hx hb d_Md_insert_86 (lv_at hl 4 rfl) ?_
  refine lv_iload_n hx hb d_Md_insert_88 rfl (lv_at hl 2 rfl) ?_
  refine lv_iadd hx hb d_Md_insert_89 ?_
  refine lv_icmp_le (tgt := 115) hx hb d_Md_insert_90 (by decide) (fun hc => ?_) (fun hc => ?_)
  · replace h := h.1 hc
    refine lv_aload_n hx hb d_Md_insert_115 rfl (lv_at hl 0 rfl) ?_
    refine va_get (D := D) (ci := 10) (C := R_Md) (T := T_Md) (N := 46) hx hb hts in_Md hown hK hst.1 54 (WS_o54 g σ) rfl 2 (by decide) (hts _ gw1066) (fun _ h9 => h9) rfl d_Md_insert_116 ?_
    refine lv_iload hx hb d_Md_insert_119 (lv_at hl 4 rfl) ?_
    refine lv_iload_n hx hb d_Md_insert_121 rfl (lv_at hl 2 rfl) ?_
    refine lv_iadd hx hb d_Md_insert_122 ?_
    refine lv_iload_n hx hb d_Md_insert_123 rfl (lv_at hl 3 rfl) ?_
    obtain ⟨hi, h⟩ := h
    refine kw_iast hx hb hK hst 56 (WS_a56 g σ) hi (WS_s56 g σ _ _) d_Md_insert_124 (fun σ1 H locs e1 hst => ?_)
    replace h := h σ1 e1
    refine lv_aload_n hx hb d_Md_insert_125 rfl (lv_at hl 0 rfl) ?_
    refine va_get (D := D) (ci := 10) (C := R_Md) (T := T_Md) (N := 46) hx hb hts in_Md hown hK hst.1 54 (WS_o54 g σ1) rfl 3 (by decide) (hts _ gw1067) (fun _ h9 => h9) rfl d_Md_insert_126 ?_
    refine lv_iload_n hx hb d_Md_insert_129 rfl (lv_at hl 1 rfl) ?_
    refine lv_dup2_11 hx hb d_Md_insert_130 rfl rfl ?_
    obtain ⟨hi, h⟩ := h
    refine va_iald hx hb hK hst.1 57 0 (WS_a57 g σ1) rfl hi d_Md_insert_131 ?_
    refine lv_iconst (v := (1 : Int32)) hx hb d_Md_insert_132 (by decide) ?_
    refine lv_iadd hx hb d_Md_insert_133 ?_
    obtain ⟨hi, h⟩ := h
    refine kw_iast hx hb hK hst 57 (WS_a57 g σ1) hi (WS_s57 g σ1 _ _) d_Md_insert_134 (fun σ2 H locs e2 hst => ?_)
    replace h := h σ2 e2
    exact kw_vret hx hb hr hlocks hst h d_Md_insert_135
  · replace h := h.2 hc
    refine lv_aload_n hx hb d_Md_insert_93 rfl (lv_at hl 0 rfl) ?_
    refine va_get (D := D) (ci := 10) (C := R_Md) (T := T_Md) (N := 46) hx hb hts in_Md hown hK hst.1 54 (WS_o54 g σ) rfl 2 (by decide) (hts _ gw1066) (fun _ h9 => h9) rfl d_Md_insert_94 ?_
    refine lv_iload hx hb d_Md_insert_97 (lv_at hl 5 rfl) ?_
    refine lv_aload_n hx hb d_Md_insert_99 rfl (lv_at hl 0 rfl) ?_
    refine va_get (D := D) (ci := 10) (C := R_Md) (T := T_Md) (N := 46) hx hb hts in_Md hown hK hst.1 54 (WS_o54 g σ) rfl 2 (by decide) (hts _ gw1066) (fun _ h9 => h9) rfl d_Md_insert_100 ?_
    refine lv_iload hx hb d_Md_insert_103 (lv_at hl 5 rfl) ?_
    refine lv_iconst (v := (1 : Int32)) hx hb d_Md_insert_105 (by decide) ?_
    refine lv_isub hx hb d_Md_insert_106 ?_
    obtain ⟨hi, h⟩ := h
    refine va_iald hx hb hK hst.1 56 0 (WS_a56 g σ) rfl hi d_Md_insert_107 ?_
    obtain ⟨hi, h⟩ := h
    refine kw_iast hx hb hK hst 56 (WS_a56 g σ) hi (WS_s56 g σ _ _) d_Md_insert_108 (fun σ1 H locs e1 hst => ?_)
    replace h := h σ1 e1
    refine lv_iinc (k := 5) (v := (x5 + (-1))) hx hb d_Md_insert_109 hl rfl (kw_inc _ (by decide)) (by decide) rfl (fun ls hl => ?_)
    have hl : lv_has ls 6 [(5, .int (x5 + (-1))), (0, .ref (g.1 54)), (1, .int x1), (2, .int x2), (3, .int x3), (4, .int x4)] := hl
    refine lv_goto (tgt := 84) hx hb d_Md_insert_112 (by decide) ?_
    exact j2 x1 x2 x3 x4 (x5 + (-1)) σ1 _ _ _ (lv_sub hl [1, 2, 3, 4, 5, 0] rfl) hst h
set_option maxRecDepth 100000 in
set_option maxHeartbeats 4000000 in
theorem a_Md_insert {p : Program} {l : Launch} {e : Env} {s : State} {m : MethodId} {args : Array Value} {below : List Frame} {meth : Method} {c : Code} {D : va_G} {g : Gm} {A : Nat → Prop} {post : Sg → Prop} (C : kC p s m args meth c k_Md_insert 6 (none) GW R_Md D vwCl g (Zk g) A) : ∀ n : Nat, J_Md_insert_1 p l e s m args below meth c D g A post (wp_Md_insert post n) ∧ J_Md_insert_2 p l e s m args below meth c D g A post (wp_Md_insert post n) := by
  intro n
  induction n with
  | zero => exact ⟨fun _ _ _ _ _ _ _ _ _ h => h.elim, fun _ _ _ _ _ _ _ _ _ _ _ h => h.elim⟩
  | succ n ih => exact ⟨fun x1 x2 x3 σ H locs ls hl hst h => b_Md_insert_1 (F := wp_Md_insert post n) C (ih.2) x1 x2 x3 σ H locs ls hl hst h, fun x1 x2 x3 x4 x5 σ H locs ls hl hst h => b_Md_insert_2 (F := wp_Md_insert post n) C (ih.2) x1 x2 x3 x4 x5 σ H locs ls hl hst h⟩
set_option maxRecDepth 100000 in
set_option maxHeartbeats 4000000 in
theorem c_Md_insert (l : Launch) {D : va_G} {g : Gm} {sz : Nat} (x1 : Int32) (x2 : Int32) (x3 : Int32) {σ : Sg} {post : Sg → Prop} (h : wq_Md_insert x1 x2 x3 σ post) : Met l y_Md_insert (.code y_Md_insert k_Md_insert 6 (none) :: GW) { frames := 1, cells := 0, slots := 0, locals := 20 } (PcW D vwCl (WS g) g (Zk g) σ sz [.ref (g.1 54), .int x1, .int x2, .int x3]) (QvW D vwCl (WS g) post (va_A (WS g σ) sz)) 0 0 (va_A (WS g σ) sz) := by
  refine kw_entry (own := R_Md) (by decide) rfl rfl (Nat.le_of_ble_eq_true rfl) ?_
  intro p e s m below meth c ls hsz C hin hl hst
  obtain ⟨n, h⟩ := h
  cases n with
  | zero => exact h.elim
  | succ n =>
    have ih := a_Md_insert (l := l) (e := e) (below := below) (post := post) C n
    exact b_Md_insert_0 (F := wp_Md_insert post n) C (ih.1) x1 x2 x3 σ _ _ ls hl hst h
/-! SchemaDeskModel.remove (III)V -/
abbrev k_Md_remove : ByteArray := prog_12_method_12_code
abbrev y_Md_remove : MethodName := ⟨"SchemaDeskModel", "remove", "(III)V"⟩
theorem d_Md_remove_0 : decode k_Md_remove 0 = .ok (.aload_n 0, 1) := by decide +kernel
theorem d_Md_remove_1 : decode k_Md_remove 1 = .ok (.iload_n 1, 1) := by decide +kernel
theorem d_Md_remove_2 : decode k_Md_remove 2 = .ok (.invokestatic 181, 3) := by decide +kernel
theorem d_Md_remove_5 : decode k_Md_remove 5 = .ok (.ifCond .eq 7, 3) := by decide +kernel
theorem d_Md_remove_8 : decode k_Md_remove 8 = .ok (.iload_n 3, 1) := by decide +kernel
theorem d_Md_remove_9 : decode k_Md_remove 9 = .ok (.ifCond .ge 7, 3) := by decide +kernel
theorem d_Md_remove_12 : decode k_Md_remove 12 = .ok (.iconst 1, 1) := by decide +kernel
theorem d_Md_remove_13 : decode k_Md_remove 13 = .ok (.goto 28, 3) := by decide +kernel
theorem d_Md_remove_16 : decode k_Md_remove 16 = .ok (.iload_n 2, 1) := by decide +kernel
theorem d_Md_remove_17 : decode k_Md_remove 17 = .ok (.ifCond .lt 19, 3) := by decide +kernel
theorem d_Md_remove_20 : decode k_Md_remove 20 = .ok (.iload_n 2, 1) := by decide +kernel
theorem d_Md_remove_21 : decode k_Md_remove 21 = .ok (.i2l, 1) := by decide +kernel
theorem d_Md_remove_22 : decode k_Md_remove 22 = .ok (.iload_n 3, 1) := by decide +kernel
theorem d_Md_remove_23 : decode k_Md_remove 23 = .ok (.i2l, 1) := by decide +kernel
theorem d_Md_remove_24 : decode k_Md_remove 24 = .ok (.ladd, 1) := by decide +kernel
theorem d_Md_remove_25 : decode k_Md_remove 25 = .ok (.aload_n 0, 1) := by decide +kernel
theorem d_Md_remove_26 : decode k_Md_remove 26 = .ok (.getfield 71, 3) := by decide +kernel
theorem d_Md_remove_29 : decode k_Md_remove 29 = .ok (.iload_n 1, 1) := by decide +kernel
theorem d_Md_remove_30 : decode k_Md_remove 30 = .ok (.iaload, 1) := by decide +kernel
theorem d_Md_remove_31 : decode k_Md_remove 31 = .ok (.i2l, 1) := by decide +kernel
theorem d_Md_remove_32 : decode k_Md_remove 32 = .ok (.lcmp, 1) := by decide +kernel
theorem d_Md_remove_33 : decode k_Md_remove 33 = .ok (.ifCond .le 7, 3) := by decide +kernel
theorem d_Md_remove_36 : decode k_Md_remove 36 = .ok (.iconst 2, 1) := by decide +kernel
theorem d_Md_remove_37 : decode k_Md_remove 37 = .ok (.goto 4, 3) := by decide +kernel
theorem d_Md_remove_40 : decode k_Md_remove 40 = .ok (.iconst 0, 1) := by decide +kernel
theorem d_Md_remove_41 : decode k_Md_remove 41 = .ok (.putfield 177, 3) := by decide +kernel
theorem d_Md_remove_44 : decode k_Md_remove 44 = .ok (.aload_n 0, 1) := by decide +kernel
theorem d_Md_remove_45 : decode k_Md_remove 45 = .ok (.getfield 177, 3) := by decide +kernel
theorem d_Md_remove_48 : decode k_Md_remove 48 = .ok (.ifCond .eq 4, 3) := by decide +kernel
theorem d_Md_remove_51 : decode k_Md_remove 51 = .ok (.return_, 1) := by decide +kernel
theorem d_Md_remove_52 : decode k_Md_remove 52 = .ok (.sipush 160, 3) := by decide +kernel
theorem d_Md_remove_55 : decode k_Md_remove 55 = .ok (.iload_n 1, 1) := by decide +kernel
theorem d_Md_remove_56 : decode k_Md_remove 56 = .ok (.imul, 1) := by decide +kernel
theorem d_Md_remove_57 : decode k_Md_remove 57 = .ok (.istore 4, 2) := by decide +kernel
theorem d_Md_remove_59 : decode k_Md_remove 59 = .ok (.iload 4, 2) := by decide +kernel
theorem d_Md_remove_61 : decode k_Md_remove 61 = .ok (.iload_n 2, 1) := by decide +kernel
theorem d_Md_remove_62 : decode k_Md_remove 62 = .ok (.iadd, 1) := by decide +kernel
theorem d_Md_remove_63 : decode k_Md_remove 63 = .ok (.istore 5, 2) := by decide +kernel
theorem d_Md_remove_65 : decode k_Md_remove 65 = .ok (.iload 5, 2) := by decide +kernel
theorem d_Md_remove_67 : decode k_Md_remove 67 = .ok (.iload_n 3, 1) := by decide +kernel
theorem d_Md_remove_68 : decode k_Md_remove 68 = .ok (.iadd, 1) := by decide +kernel
theorem d_Md_remove_69 : decode k_Md_remove 69 = .ok (.iload 4, 2) := by decide +kernel
theorem d_Md_remove_71 : decode k_Md_remove 71 = .ok (.aload_n 0, 1) := by decide +kernel
theorem d_Md_remove_72 : decode k_Md_remove 72 = .ok (.getfield 71, 3) := by decide +kernel
theorem d_Md_remove_75 : decode k_Md_remove 75 = .ok (.iload_n 1, 1) := by decide +kernel
theorem d_Md_remove_76 : decode k_Md_remove 76 = .ok (.iaload, 1) := by decide +kernel
theorem d_Md_remove_77 : decode k_Md_remove 77 = .ok (.iadd, 1) := by decide +kernel
theorem d_Md_remove_78 : decode k_Md_remove 78 = .ok (.if_icmp .ge 25, 3) := by decide +kernel
theorem d_Md_remove_81 : decode k_Md_remove 81 = .ok (.aload_n 0, 1) := by decide +kernel
theorem d_Md_remove_82 : decode k_Md_remove 82 = .ok (.getfield 67, 3) := by decide +kernel
theorem d_Md_remove_85 : decode k_Md_remove 85 = .ok (.iload 5, 2) := by decide +kernel
theorem d_Md_remove_87 : decode k_Md_remove 87 = .ok (.aload_n 0, 1) := by decide +kernel
theorem d_Md_remove_88 : decode k_Md_remove 88 = .ok (.getfield 67, 3) := by decide +kernel
theorem d_Md_remove_91 : decode k_Md_remove 91 = .ok (.iload 5, 2) := by decide +kernel
theorem d_Md_remove_93 : decode k_Md_remove 93 = .ok (.iload_n 3, 1) := by decide +kernel
theorem d_Md_remove_94 : decode k_Md_remove 94 = .ok (.iadd, 1) := by decide +kernel
theorem d_Md_remove_95 : decode k_Md_remove 95 = .ok (.iaload, 1) := by decide +kernel
theorem d_Md_remove_96 : decode k_Md_remove 96 = .ok (.iastore, 1) := by decide +kernel
theorem d_Md_remove_97 : decode k_Md_remove 97 = .ok (.iinc 5 1, 3) := by decide +kernel
theorem d_Md_remove_100 : decode k_Md_remove 100 = .ok (.goto (-35), 3) := by decide +kernel
theorem d_Md_remove_103 : decode k_Md_remove 103 = .ok (.aload_n 0, 1) := by decide +kernel
theorem d_Md_remove_104 : decode k_Md_remove 104 = .ok (.getfield 71, 3) := by decide +kernel
theorem d_Md_remove_107 : decode k_Md_remove 107 = .ok (.iload_n 1, 1) := by decide +kernel
theorem d_Md_remove_108 : decode k_Md_remove 108 = .ok (.dup2, 1) := by decide +kernel
theorem d_Md_remove_109 : decode k_Md_remove 109 = .ok (.iaload, 1) := by decide +kernel
theorem d_Md_remove_110 : decode k_Md_remove 110 = .ok (.iload_n 3, 1) := by decide +kernel
theorem d_Md_remove_111 : decode k_Md_remove 111 = .ok (.isub, 1) := by decide +kernel
theorem d_Md_remove_112 : decode k_Md_remove 112 = .ok (.iastore, 1) := by decide +kernel
theorem d_Md_remove_113 : decode k_Md_remove 113 = .ok (.return_, 1) := by decide +kernel
def wb_Md_remove_0 (F : Nat → Int32 → Int32 → Int32 → Int32 → Int32 → Sg → Prop) (post : Sg → Prop) (x1 : Int32) (x2 : Int32) (x3 : Int32) (σ : Sg) : Prop := (wq_Md_isText x1 σ (fun r1 σ1 => ((r1 = 0 → (∀ σ2, σ2 = si σ1 54 1 (1 : Int32) → F 1 x1 x2 x3 0 0 σ2)) ∧ (¬ r1 = 0 → ((0 ≤ x3 → ((x2 < 0 → (∀ σ2, σ2 = si σ1 54 1 (2 : Int32) → F 1 x1 x2 x3 0 0 σ2)) ∧ (¬ x2 < 0 → (vp_in x1 2 ∧ (((lg_cmp (((x2 : Int32).toInt64) + ((x3 : Int32).toInt64)) (((σ1.1 57 x1.toNatClampNeg) : Int32).toInt64)) ≤ 0 → (∀ σ2, σ2 = si σ1 54 1 (0 : Int32) → F 1 x1 x2 x3 0 0 σ2)) ∧ (¬ (lg_cmp (((x2 : Int32).toInt64) + ((x3 : Int32).toInt64)) (((σ1.1 57 x1.toNatClampNeg) : Int32).toInt64)) ≤ 0 → (∀ σ2, σ2 = si σ1 54 1 (2 : Int32) → F 1 x1 x2 x3 0 0 σ2))))))) ∧ (¬ 0 ≤ x3 → (∀ σ2, σ2 = si σ1 54 1 (1 : Int32) → F 1 x1 x2 x3 0 0 σ2)))))))
def wb_Md_remove_1 (F : Nat → Int32 → Int32 → Int32 → Int32 → Int32 → Sg → Prop) (post : Sg → Prop) (x1 : Int32) (x2 : Int32) (x3 : Int32) (σ : Sg) : Prop := (((σ.1 54 1) = 0 → F 2 x1 0 x3 ((160 : Int32) * x1) (((160 : Int32) * x1) + x2) σ) ∧ (¬ (σ.1 54 1) = 0 → post σ))
def wb_Md_remove_2 (F : Nat → Int32 → Int32 → Int32 → Int32 → Int32 → Sg → Prop) (post : Sg → Prop) (x1 : Int32) (x3 : Int32) (x4 : Int32) (x5 : Int32) (σ : Sg) : Prop := (vp_in x1 2 ∧ (((x4 + (σ.1 57 x1.toNatClampNeg)) ≤ (x5 + x3) → (vp_in x1 2 ∧ (vp_in x1 2 ∧ (∀ σ1, σ1 = si σ 57 x1.toNatClampNeg ((σ.1 57 x1.toNatClampNeg) - x3) → post σ1)))) ∧ (¬ (x4 + (σ.1 57 x1.toNatClampNeg)) ≤ (x5 + x3) → (vp_in (x5 + x3) 240 ∧ (vp_in x5 240 ∧ (∀ σ1, σ1 = si σ 56 x5.toNatClampNeg (σ.1 56 ((x5 + x3) : Int32).toNatClampNeg) → F 2 x1 0 x3 x4 (x5 + 1) σ1))))))
def wp_Md_remove (post : Sg → Prop) : Nat → Nat → Int32 → Int32 → Int32 → Int32 → Int32 → Sg → Prop
  | 0, _, _, _, _, _, _, _ => False
  | n + 1, k, x1, x2, x3, x4, x5, σ => match k with
    | 0 => wb_Md_remove_0 (wp_Md_remove post n) post x1 x2 x3 σ
    | 1 => wb_Md_remove_1 (wp_Md_remove post n) post x1 x2 x3 σ
    | 2 => wb_Md_remove_2 (wp_Md_remove post n) post x1 x3 x4 x5 σ
    | _ => False
def wq_Md_remove (x1 : Int32) (x2 : Int32) (x3 : Int32) (σ : Sg) (post : Sg → Prop) : Prop := ∃ n, wp_Md_remove post n 0 x1 x2 x3 0 0 σ
def J_Md_remove_1 (p : Program) (l : Launch) (e : Env) (s : State) (m : MethodId) (args : Array Value) (below : List Frame) (meth : Method) (c : Code) (D : va_G) (g : Gm) (A : Nat → Prop) (post : Sg → Prop) (F : Nat → Int32 → Int32 → Int32 → Int32 → Int32 → Sg → Prop) : Prop := ∀ (x1 : Int32) (x2 : Int32) (x3 : Int32) (σ : Sg) (H : Heap) (locs : List Loc) (ls : Array Slot), lv_has ls 6 [(0, .ref (g.1 54)), (1, .int x1), (2, .int x2), (3, .int x3)] → Wst D vwCl (WS g) A s σ H locs → F 1 x1 x2 x3 0 0 σ → W p l e { frames := 1, cells := 0, slots := 0, locals := 20 } s m args below meth c H locs 0 0 (MQ below (QvW D vwCl (WS g) post A) args s 0 0 A) (F0 m 44 ls [])
def J_Md_remove_2 (p : Program) (l : Launch) (e : Env) (s : State) (m : MethodId) (args : Array Value) (below : List Frame) (meth : Method) (c : Code) (D : va_G) (g : Gm) (A : Nat → Prop) (post : Sg → Prop) (F : Nat → Int32 → Int32 → Int32 → Int32 → Int32 → Sg → Prop) : Prop := ∀ (x1 : Int32) (x3 : Int32) (x4 : Int32) (x5 : Int32) (σ : Sg) (H : Heap) (locs : List Loc) (ls : Array Slot), lv_has ls 6 [(0, .ref (g.1 54)), (1, .int x1), (3, .int x3), (4, .int x4), (5, .int x5)] → Wst D vwCl (WS g) A s σ H locs → F 2 x1 0 x3 x4 x5 σ → W p l e { frames := 1, cells := 0, slots := 0, locals := 20 } s m args below meth c H locs 0 0 (MQ below (QvW D vwCl (WS g) post A) args s 0 0 A) (F0 m 65 ls [])
set_option maxRecDepth 100000 in
set_option maxHeartbeats 4000000 in
theorem b_Md_remove_0 {p : Program} {l : Launch} {e : Env} {s : State} {m : MethodId} {args : Array Value} {below : List Frame} {meth : Method} {c : Code} {D : va_G} {g : Gm} {A : Nat → Prop} {post : Sg → Prop} {F : Nat → Int32 → Int32 → Int32 → Int32 → Int32 → Sg → Prop} (C : kC p s m args meth c k_Md_remove 6 (none) GW R_Md D vwCl g (Zk g) A) (j1 : J_Md_remove_1 p l e s m args below meth c D g A post F) (x1 : Int32) (x2 : Int32) (x3 : Int32) (σ : Sg) (H : Heap) (locs : List Loc) (ls : Array Slot) (hl : lv_has ls 6 [(0, .ref (g.1 54)), (1, .int x1), (2, .int x2), (3, .int x3)]) (hst : Wst D vwCl (WS g) A s σ H locs) (h : wb_Md_remove_0 F post x1 x2 x3 σ) : W p l e { frames := 1, cells := 0, slots := 0, locals := 20 } s m args below meth c H locs 0 0 (MQ below (QvW D vwCl (WS g) post A) args s 0 0 A) (F0 m 0 ls []) := by
  obtain ⟨hx, hb, hr, hml, hown, hts, hlocks, hK, hZ, hA⟩ := C
  unfold wb_Md_remove_0 at h
  refine lv_aload_n hx hb d_Md_remove_0 rfl (lv_at hl 0 rfl) ?_
  refine lv_iload_n hx hb d_Md_remove_1 rfl (lv_at hl 1 rfl) ?_
  refine kw_calli (va_runS (As := [.int x1]) (rest := [.ref (g.1 54)]) ⟨hx, hb, hml, hown, hts⟩ (c_Md_isText l x1 h) (cwS 1 hts (gd_s gw1211 gw1212 gw15 gw1213) rfl rfl rfl (by decide +kernel) ⟨Nat.le_of_ble_eq_true rfl, Nat.le_of_ble_eq_true rfl⟩) ⟨kw_blind (Zk_ok g), kw_pre (Zk_ok g) hK hZ hA hst⟩ rfl rfl hl.1 rfl (lv_room (Nat.le_of_ble_eq_true rfl)) d_Md_remove_2 ⟨Nat.le_of_ble_eq_true rfl, Nat.le_of_ble_eq_true rfl⟩) hst hA (fun r1 σ1 H locs h hst => ?_)
  refine lv_if_eq (tgt := 12) hx hb d_Md_remove_5 (by decide) (fun hc => ?_) (fun hc => ?_)
  · replace h := h.1 hc
    refine lv_iconst (v := (1 : Int32)) hx hb d_Md_remove_12 (by decide) ?_
    refine lv_goto (tgt := 41) hx hb d_Md_remove_13 (by decide) ?_
    refine kw_put (D := D) (ci := 10) (ty := .int) (C := R_Md) (T := T_Md) (N := 46) hx hb hts in_Md ty_Md ty_Md_ok nm_Md hown hK hst 54 (WS_o54 g σ1) rfl 1 (by decide) (hts _ gw1065) (fun _ h9 => h9) rfl (by decide +kernel) rfl rfl (Nat.le_of_ble_eq_true rfl) (WS_p54_1 g σ1 _) d_Md_remove_41 (fun σ2 H locs e2 hst => ?_)
    replace h := h σ2 e2
    exact j1 x1 x2 x3 σ2 _ _ _ (lv_sub hl [0, 1, 2, 3] rfl) hst h
  · replace h := h.2 hc
    refine lv_iload_n hx hb d_Md_remove_8 rfl (lv_at hl 3 rfl) ?_
    refine lv_if_ge (tgt := 16) hx hb d_Md_remove_9 (by decide) (fun hc => ?_) (fun hc => ?_)
    · replace h := h.1 hc
      refine lv_iload_n hx hb d_Md_remove_16 rfl (lv_at hl 2 rfl) ?_
      refine lv_if_lt (tgt := 36) hx hb d_Md_remove_17 (by decide) (fun hc => ?_) (fun hc => ?_)
      · replace h := h.1 hc
        refine lv_iconst (v := (2 : Int32)) hx hb d_Md_remove_36 (by decide) ?_
        refine lv_goto (tgt := 41) hx hb d_Md_remove_37 (by decide) ?_
        refine kw_put (D := D) (ci := 10) (ty := .int) (C := R_Md) (T := T_Md) (N := 46) hx hb hts in_Md ty_Md ty_Md_ok nm_Md hown hK hst 54 (WS_o54 g σ1) rfl 1 (by decide) (hts _ gw1065) (fun _ h9 => h9) rfl (by decide +kernel) rfl rfl (Nat.le_of_ble_eq_true rfl) (WS_p54_1 g σ1 _) d_Md_remove_41 (fun σ2 H locs e2 hst => ?_)
        replace h := h σ2 e2
        exact j1 x1 x2 x3 σ2 _ _ _ (lv_sub hl [0, 1, 2, 3] rfl) hst h
      · replace h := h.2 hc
        refine lv_iload_n hx hb d_Md_remove_20 rfl (lv_at hl 2 rfl) ?_
        refine lv_i2l hx hb d_Md_remove_21 rfl ?_
        refine lv_iload_n hx hb d_Md_remove_22 rfl (lv_at hl 3 rfl) ?_
        refine lv_i2l hx hb d_Md_remove_23 rfl ?_
        refine lv_ladd hx hb d_Md_remove_24 ?_
        refine lv_aload_n hx hb d_Md_remove_25 rfl (lv_at hl 0 rfl) ?_
        refine va_get (D := D) (ci := 10) (C := R_Md) (T := T_Md) (N := 46) hx hb hts in_Md hown hK hst.1 54 (WS_o54 g σ1) rfl 3 (by decide) (hts _ gw1067) (fun _ h9 => h9) rfl d_Md_remove_26 ?_
        refine lv_iload_n hx hb d_Md_remove_29 rfl (lv_at hl 1 rfl) ?_
        obtain ⟨hi, h⟩ := h
        refine va_iald hx hb hK hst.1 57 0 (WS_a57 g σ1) rfl hi d_Md_remove_30 ?_
        refine lv_i2l hx hb d_Md_remove_31 rfl ?_
        refine W.lcmp hx hb d_Md_remove_32 ?_
        refine lv_if_le (tgt := 40) hx hb d_Md_remove_33 (by decide) (fun hc => ?_) (fun hc => ?_)
        · replace h := h.1 hc
          refine lv_iconst (v := (0 : Int32)) hx hb d_Md_remove_40 (by decide) ?_
          refine kw_put (D := D) (ci := 10) (ty := .int) (C := R_Md) (T := T_Md) (N := 46) hx hb hts in_Md ty_Md ty_Md_ok nm_Md hown hK hst 54 (WS_o54 g σ1) rfl 1 (by decide) (hts _ gw1065) (fun _ h9 => h9) rfl (by decide +kernel) rfl rfl (Nat.le_of_ble_eq_true rfl) (WS_p54_1 g σ1 _) d_Md_remove_41 (fun σ2 H locs e2 hst => ?_)
          replace h := h σ2 e2
          exact j1 x1 x2 x3 σ2 _ _ _ (lv_sub hl [0, 1, 2, 3] rfl) hst h
        · replace h := h.2 hc
          refine lv_iconst (v := (2 : Int32)) hx hb d_Md_remove_36 (by decide) ?_
          refine lv_goto (tgt := 41) hx hb d_Md_remove_37 (by decide) ?_
          refine kw_put (D := D) (ci := 10) (ty := .int) (C := R_Md) (T := T_Md) (N := 46) hx hb hts in_Md ty_Md ty_Md_ok nm_Md hown hK hst 54 (WS_o54 g σ1) rfl 1 (by decide) (hts _ gw1065) (fun _ h9 => h9) rfl (by decide +kernel) rfl rfl (Nat.le_of_ble_eq_true rfl) (WS_p54_1 g σ1 _) d_Md_remove_41 (fun σ2 H locs e2 hst => ?_)
          replace h := h σ2 e2
          exact j1 x1 x2 x3 σ2 _ _ _ (lv_sub hl [0, 1, 2, 3] rfl) hst h
    · replace h := h.2 hc
      refine lv_iconst (v := (1 : Int32)) hx hb d_Md_remove_12 (by decide) ?_
      refine lv_goto (tgt := 41) hx hb d_Md_remove_13 (by decide) ?_
      refine kw_put (D := D) (ci := 10) (ty := .int) (C := R_Md) (T := T_Md) (N := 46) hx hb hts in_Md ty_Md ty_Md_ok nm_Md hown hK hst 54 (WS_o54 g σ1) rfl 1 (by decide) (hts _ gw1065) (fun _ h9 => h9) rfl (by decide +kernel) rfl rfl (Nat.le_of_ble_eq_true rfl) (WS_p54_1 g σ1 _) d_Md_remove_41 (fun σ2 H locs e2 hst => ?_)
      replace h := h σ2 e2
      exact j1 x1 x2 x3 σ2 _ _ _ (lv_sub hl [0, 1, 2, 3] rfl) hst h
set_option maxRecDepth 100000 in
set_option maxHeartbeats 4000000 in
theorem b_Md_remove_1 {p : Program} {l : Launch} {e : Env} {s : State} {m : MethodId} {args : Array Value} {below : List Frame} {meth : Method} {c : Code} {D : va_G} {g : Gm} {A : Nat → Prop} {post : Sg → Prop} {F : Nat → Int32 → Int32 → Int32 → Int32 → Int32 → Sg → Prop} (C : kC p s m args meth c k_Md_remove 6 (none) GW R_Md D vwCl g (Zk g) A) (j2 : J_Md_remove_2 p l e s m args below meth c D g A post F) (x1 : Int32) (x2 : Int32) (x3 : Int32) (σ : Sg) (H : Heap) (locs : List Loc) (ls : Array Slot) (hl : lv_has ls 6 [(0, .ref (g.1 54)), (1, .int x1), (2, .int x2), (3, .int x3)]) (hst : Wst D vwCl (WS g) A s σ H locs) (h : wb_Md_remove_1 F post x1 x2 x3 σ) : W p l e { frames := 1, cells := 0, slots := 0, locals := 20 } s m args below meth c H locs 0 0 (MQ below (QvW D vwCl (WS g) post A) args s 0 0 A) (F0 m 44 ls []) := by
  obtain ⟨hx, hb, hr, hml, hown, hts, hlocks, hK, hZ, hA⟩ := C
  unfold wb_Md_remove_1 at h
  refine lv_aload_n hx hb d_Md_remove_44 rfl (lv_at hl 0 rfl) ?_
  refine va_get (D := D) (ci := 10) (C := R_Md) (T := T_Md) (N := 46) hx hb hts in_Md hown hK hst.1 54 (WS_o54 g σ) rfl 1 (by decide) (hts _ gw1065) (fun _ h9 => h9) rfl d_Md_remove_45 ?_
  refine lv_if_eq (tgt := 52) hx hb d_Md_remove_48 (by decide) (fun hc => ?_) (fun hc => ?_)
  · replace h := h.1 hc
    refine lv_sipush (v := (160 : Int32)) hx hb d_Md_remove_52 (by decide) ?_
    refine lv_iload_n hx hb d_Md_remove_55 rfl (lv_at hl 1 rfl) ?_
    refine lv_imul hx hb d_Md_remove_56 ?_
    refine lv_istore hx hb d_Md_remove_57 hl (by decide) rfl (fun ls hl => ?_)
    have hl : lv_has ls 6 [(4, .int ((160 : Int32) * x1)), (0, .ref (g.1 54)), (1, .int x1), (2, .int x2), (3, .int x3)] := hl
    refine lv_iload hx hb d_Md_remove_59 (lv_at hl 0 rfl) ?_
    refine lv_iload_n hx hb d_Md_remove_61 rfl (lv_at hl 3 rfl) ?_
    refine lv_iadd hx hb d_Md_remove_62 ?_
    refine lv_istore hx hb d_Md_remove_63 hl (by decide) rfl (fun ls hl => ?_)
    have hl : lv_has ls 6 [(5, .int (((160 : Int32) * x1) + x2)), (4, .int ((160 : Int32) * x1)), (0, .ref (g.1 54)), (1, .int x1), (2, .int x2), (3, .int x3)] := hl
    exact j2 x1 x3 ((160 : Int32) * x1) (((160 : Int32) * x1) + x2) σ _ _ _ (lv_sub hl [2, 3, 5, 1, 0] rfl) hst h
  · replace h := h.2 hc
    exact kw_vret hx hb hr hlocks hst h d_Md_remove_51
set_option maxRecDepth 100000 in
set_option maxHeartbeats 4000000 in
theorem b_Md_remove_2 {p : Program} {l : Launch} {e : Env} {s : State} {m : MethodId} {args : Array Value} {below : List Frame} {meth : Method} {c : Code} {D : va_G} {g : Gm} {A : Nat → Prop} {post : Sg → Prop} {F : Nat → Int32 → Int32 → Int32 → Int32 → Int32 → Sg → Prop} (C : kC p s m args meth c k_Md_remove 6 (none) GW R_Md D vwCl g (Zk g) A) (j2 : J_Md_remove_2 p l e s m args below meth c D g A post F) (x1 : Int32) (x3 : Int32) (x4 : Int32) (x5 : Int32) (σ : Sg) (H : Heap) (locs : List Loc) (ls : Array Slot) (hl : lv_has ls 6 [(0, .ref (g.1 54)), (1, .int x1), (3, .int x3), (4, .int x4), (5, .int x5)]) (hst : Wst D vwCl (WS g) A s σ H locs) (h : wb_Md_remove_2 F post x1 x3 x4 x5 σ) : W p l e { frames := 1, cells := 0, slots := 0, locals := 20 } s m args below meth c H locs 0 0 (MQ below (QvW D vwCl (WS g) post A) args s 0 0 A) (F0 m 65 ls []) := by
  obtain ⟨hx, hb, hr, hml, hown, hts, hlocks, hK, hZ, hA⟩ := C
  unfold wb_Md_remove_2 at h
  refine lv_iload hx hb d_Md_remove_65 (lv_at hl 4 rfl) ?_
  refine lv_iload_n hx hb d_Md_remove_67 rfl (lv_at hl 2 rfl) ?_
  refine lv_iadd hx hb d_Md_remove_68 ?_
  refine lv_iload hx hb d_Md_remove_69 (lv_at hl 3 rfl) ?_
  refine lv_aload_n hx hb d_Md_remove_71 rfl (lv_at hl 0 rfl) ?_
  refine va_get (D := D) (ci := 10) (C := R_Md) (T := T_Md) (N := 46) hx hb hts in_Md hown hK hst.1 54 (WS_o54 g σ) rfl 3 (by decide) (hts _ gw1067) (fun _ h9 => h9) rfl d_Md_remove_72 ?_
  refine lv_iload_n hx hb d_Md_remove_75 rfl (lv_at hl 1 rfl) ?_
  obtain ⟨hi, h⟩ := h
  refine va_iald hx hb hK hst.1 57 0 (WS_a57 g σ) rfl hi d_Md_remove_76 ?_
  refine lv_iadd hx hb d_Md_remove_77 ?_
  refine lv_icmp_ge (tgt := 103) hx hb d_Md_remove_78 (by decide) (fun hc => ?_) (fun hc => ?_)
  · replace h := h.1 hc
    refine lv_aload_n hx hb d_Md_remove_103 rfl (lv_at hl 0 rfl) ?_
    refine va_get (D := D) (ci := 10) (C := R_Md) (T := T_Md) (N := 46) hx hb hts in_Md hown hK hst.1 54 (WS_o54 g σ) rfl 3 (by decide) (hts _ gw1067) (fun _ h9 => h9) rfl d_Md_remove_104 ?_
    refine lv_iload_n hx hb d_Md_remove_107 rfl (lv_at hl 1 rfl) ?_
    refine lv_dup2_11 hx hb d_Md_remove_108 rfl rfl ?_
    obtain ⟨hi, h⟩ := h
    refine va_iald hx hb hK hst.1 57 0 (WS_a57 g σ) rfl hi d_Md_remove_109 ?_
    refine lv_iload_n hx hb d_Md_remove_110 rfl (lv_at hl 2 rfl) ?_
    refine lv_isub hx hb d_Md_remove_111 ?_
    obtain ⟨hi, h⟩ := h
    refine kw_iast hx hb hK hst 57 (WS_a57 g σ) hi (WS_s57 g σ _ _) d_Md_remove_112 (fun σ1 H locs e1 hst => ?_)
    replace h := h σ1 e1
    exact kw_vret hx hb hr hlocks hst h d_Md_remove_113
  · replace h := h.2 hc
    refine lv_aload_n hx hb d_Md_remove_81 rfl (lv_at hl 0 rfl) ?_
    refine va_get (D := D) (ci := 10) (C := R_Md) (T := T_Md) (N := 46) hx hb hts in_Md hown hK hst.1 54 (WS_o54 g σ) rfl 2 (by decide) (hts _ gw1066) (fun _ h9 => h9) rfl d_Md_remove_82 ?_
    refine lv_iload hx hb d_Md_remove_85 (lv_at hl 4 rfl) ?_
    refine lv_aload_n hx hb d_Md_remove_87 rfl (lv_at hl 0 rfl) ?_
    refine va_get (D := D) (ci := 10) (C := R_Md) (T := T_Md) (N := 46) hx hb hts in_Md hown hK hst.1 54 (WS_o54 g σ) rfl 2 (by decide) (hts _ gw1066) (fun _ h9 => h9) rfl d_Md_remove_88 ?_
    refine lv_iload hx hb d_Md_remove_91 (lv_at hl 4 rfl) ?_
    refine lv_iload_n hx hb d_Md_remove_93 rfl (lv_at hl 2 rfl) ?_
    refine lv_iadd hx hb d_Md_remove_94 ?_
    obtain ⟨hi, h⟩ := h
    refine va_iald hx hb hK hst.1 56 0 (WS_a56 g σ) rfl hi d_Md_remove_95 ?_
    obtain ⟨hi, h⟩ := h
    refine kw_iast hx hb hK hst 56 (WS_a56 g σ) hi (WS_s56 g σ _ _) d_Md_remove_96 (fun σ1 H locs e1 hst => ?_)
    replace h := h σ1 e1
    refine lv_iinc (k := 4) (v := (x5 + 1)) hx hb d_Md_remove_97 hl rfl (kw_inc _ (by decide)) (by decide) rfl (fun ls hl => ?_)
    have hl : lv_has ls 6 [(5, .int (x5 + 1)), (0, .ref (g.1 54)), (1, .int x1), (3, .int x3), (4, .int x4)] := hl
    refine lv_goto (tgt := 65) hx hb d_Md_remove_100 (by decide) ?_
    exact j2 x1 x3 x4 (x5 + 1) σ1 _ _ _ (lv_sub hl [1, 2, 3, 4, 0] rfl) hst h
set_option maxRecDepth 100000 in
set_option maxHeartbeats 4000000 in
theorem a_Md_remove {p : Program} {l : Launch} {e : Env} {s : State} {m : MethodId} {args : Array Value} {below : List Frame} {meth : Method} {c : Code} {D : va_G} {g : Gm} {A : Nat → Prop} {post : Sg → Prop} (C : kC p s m args meth c k_Md_remove 6 (none) GW R_Md D vwCl g (Zk g) A) : ∀ n : Nat, J_Md_remove_1 p l e s m args below meth c D g A post (wp_Md_remove post n) ∧ J_Md_remove_2 p l e s m args below meth c D g A post (wp_Md_remove post n) := by
  intro n
  induction n with
  | zero => exact ⟨fun _ _ _ _ _ _ _ _ _ h => h.elim, fun _ _ _ _ _ _ _ _ _ _ h => h.elim⟩
  | succ n ih => exact ⟨fun x1 x2 x3 σ H locs ls hl hst h => b_Md_remove_1 (F := wp_Md_remove post n) C (ih.2) x1 x2 x3 σ H locs ls hl hst h, fun x1 x3 x4 x5 σ H locs ls hl hst h => b_Md_remove_2 (F := wp_Md_remove post n) C (ih.2) x1 x3 x4 x5 σ H locs ls hl hst h⟩
set_option maxRecDepth 100000 in
set_option maxHeartbeats 4000000 in
theorem c_Md_remove (l : Launch) {D : va_G} {g : Gm} {sz : Nat} (x1 : Int32) (x2 : Int32) (x3 : Int32) {σ : Sg} {post : Sg → Prop} (h : wq_Md_remove x1 x2 x3 σ post) : Met l y_Md_remove (.code y_Md_remove k_Md_remove 6 (none) :: GW) { frames := 1, cells := 0, slots := 0, locals := 20 } (PcW D vwCl (WS g) g (Zk g) σ sz [.ref (g.1 54), .int x1, .int x2, .int x3]) (QvW D vwCl (WS g) post (va_A (WS g σ) sz)) 0 0 (va_A (WS g σ) sz) := by
  refine kw_entry (own := R_Md) (by decide) rfl rfl (Nat.le_of_ble_eq_true rfl) ?_
  intro p e s m below meth c ls hsz C hin hl hst
  obtain ⟨n, h⟩ := h
  cases n with
  | zero => exact h.elim
  | succ n =>
    have ih := a_Md_remove (l := l) (e := e) (below := below) (post := post) C n
    exact b_Md_remove_0 (F := wp_Md_remove post n) C (ih.1) x1 x2 x3 σ _ _ ls hl hst h
/-! SchemaDeskModel.length (I)I -/
abbrev k_Md_length : ByteArray := prog_12_method_13_code
abbrev y_Md_length : MethodName := ⟨"SchemaDeskModel", "length", "(I)I"⟩
theorem d_Md_length_0 : decode k_Md_length 0 = .ok (.aload_n 0, 1) := by decide +kernel
theorem d_Md_length_1 : decode k_Md_length 1 = .ok (.iload_n 1, 1) := by decide +kernel
theorem d_Md_length_2 : decode k_Md_length 2 = .ok (.invokestatic 181, 3) := by decide +kernel
theorem d_Md_length_5 : decode k_Md_length 5 = .ok (.ifCond .eq 7, 3) := by decide +kernel
theorem d_Md_length_8 : decode k_Md_length 8 = .ok (.iconst 0, 1) := by decide +kernel
theorem d_Md_length_9 : decode k_Md_length 9 = .ok (.goto 4, 3) := by decide +kernel
theorem d_Md_length_12 : decode k_Md_length 12 = .ok (.iconst 1, 1) := by decide +kernel
theorem d_Md_length_13 : decode k_Md_length 13 = .ok (.putfield 177, 3) := by decide +kernel
theorem d_Md_length_16 : decode k_Md_length 16 = .ok (.aload_n 0, 1) := by decide +kernel
theorem d_Md_length_17 : decode k_Md_length 17 = .ok (.getfield 177, 3) := by decide +kernel
theorem d_Md_length_20 : decode k_Md_length 20 = .ok (.ifCond .ne 12, 3) := by decide +kernel
theorem d_Md_length_23 : decode k_Md_length 23 = .ok (.aload_n 0, 1) := by decide +kernel
theorem d_Md_length_24 : decode k_Md_length 24 = .ok (.getfield 71, 3) := by decide +kernel
theorem d_Md_length_27 : decode k_Md_length 27 = .ok (.iload_n 1, 1) := by decide +kernel
theorem d_Md_length_28 : decode k_Md_length 28 = .ok (.iaload, 1) := by decide +kernel
theorem d_Md_length_29 : decode k_Md_length 29 = .ok (.goto 4, 3) := by decide +kernel
theorem d_Md_length_32 : decode k_Md_length 32 = .ok (.iconst 0, 1) := by decide +kernel
theorem d_Md_length_33 : decode k_Md_length 33 = .ok (.ireturn, 1) := by decide +kernel
def wb_Md_length_0 (F : Nat → Int32 → Sg → Prop) (post : Int32 → Sg → Prop) (x1 : Int32) (σ : Sg) : Prop := (wq_Md_isText x1 σ (fun r1 σ1 => ((r1 = 0 → (∀ σ2, σ2 = si σ1 54 1 (1 : Int32) → F 1 x1 σ2)) ∧ (¬ r1 = 0 → (∀ σ2, σ2 = si σ1 54 1 (0 : Int32) → F 1 x1 σ2)))))
def wb_Md_length_1 (F : Nat → Int32 → Sg → Prop) (post : Int32 → Sg → Prop) (x1 : Int32) (σ : Sg) : Prop := ((¬ (σ.1 54 1) = 0 → post (0 : Int32) σ) ∧ ((σ.1 54 1) = 0 → (vp_in x1 2 ∧ post (σ.1 57 x1.toNatClampNeg) σ)))
def wp_Md_length (post : Int32 → Sg → Prop) : Nat → Nat → Int32 → Sg → Prop
  | 0, _, _, _ => False
  | n + 1, k, x1, σ => match k with
    | 0 => wb_Md_length_0 (wp_Md_length post n) post x1 σ
    | 1 => wb_Md_length_1 (wp_Md_length post n) post x1 σ
    | _ => False
def wq_Md_length (x1 : Int32) (σ : Sg) (post : Int32 → Sg → Prop) : Prop := ∃ n, wp_Md_length post n 0 x1 σ
def J_Md_length_1 (p : Program) (l : Launch) (e : Env) (s : State) (m : MethodId) (args : Array Value) (below : List Frame) (meth : Method) (c : Code) (D : va_G) (g : Gm) (A : Nat → Prop) (post : Int32 → Sg → Prop) (F : Nat → Int32 → Sg → Prop) : Prop := ∀ (x1 : Int32) (σ : Sg) (H : Heap) (locs : List Loc) (ls : Array Slot), lv_has ls 2 [(0, .ref (g.1 54)), (1, .int x1)] → Wst D vwCl (WS g) A s σ H locs → F 1 x1 σ → W p l e { frames := 1, cells := 0, slots := 0, locals := 20 } s m args below meth c H locs 0 0 (MQ below (QiW D vwCl (WS g) post A) args s 0 0 A) (F0 m 16 ls [])
set_option maxRecDepth 100000 in
set_option maxHeartbeats 4000000 in
theorem b_Md_length_0 {p : Program} {l : Launch} {e : Env} {s : State} {m : MethodId} {args : Array Value} {below : List Frame} {meth : Method} {c : Code} {D : va_G} {g : Gm} {A : Nat → Prop} {post : Int32 → Sg → Prop} {F : Nat → Int32 → Sg → Prop} (C : kC p s m args meth c k_Md_length 2 (some .int) GW R_Md D vwCl g (Zk g) A) (j1 : J_Md_length_1 p l e s m args below meth c D g A post F) (x1 : Int32) (σ : Sg) (H : Heap) (locs : List Loc) (ls : Array Slot) (hl : lv_has ls 2 [(0, .ref (g.1 54)), (1, .int x1)]) (hst : Wst D vwCl (WS g) A s σ H locs) (h : wb_Md_length_0 F post x1 σ) : W p l e { frames := 1, cells := 0, slots := 0, locals := 20 } s m args below meth c H locs 0 0 (MQ below (QiW D vwCl (WS g) post A) args s 0 0 A) (F0 m 0 ls []) := by
  obtain ⟨hx, hb, hr, hml, hown, hts, hlocks, hK, hZ, hA⟩ := C
  unfold wb_Md_length_0 at h
  refine lv_aload_n hx hb d_Md_length_0 rfl (lv_at hl 0 rfl) ?_
  refine lv_iload_n hx hb d_Md_length_1 rfl (lv_at hl 1 rfl) ?_
  refine kw_calli (va_runS (As := [.int x1]) (rest := [.ref (g.1 54)]) ⟨hx, hb, hml, hown, hts⟩ (c_Md_isText l x1 h) (cwS 1 hts (gd_s gw1211 gw1212 gw15 gw1213) rfl rfl rfl (by decide +kernel) ⟨Nat.le_of_ble_eq_true rfl, Nat.le_of_ble_eq_true rfl⟩) ⟨kw_blind (Zk_ok g), kw_pre (Zk_ok g) hK hZ hA hst⟩ rfl rfl hl.1 rfl (lv_room (Nat.le_of_ble_eq_true rfl)) d_Md_length_2 ⟨Nat.le_of_ble_eq_true rfl, Nat.le_of_ble_eq_true rfl⟩) hst hA (fun r1 σ1 H locs h hst => ?_)
  refine lv_if_eq (tgt := 12) hx hb d_Md_length_5 (by decide) (fun hc => ?_) (fun hc => ?_)
  · replace h := h.1 hc
    refine lv_iconst (v := (1 : Int32)) hx hb d_Md_length_12 (by decide) ?_
    refine kw_put (D := D) (ci := 10) (ty := .int) (C := R_Md) (T := T_Md) (N := 46) hx hb hts in_Md ty_Md ty_Md_ok nm_Md hown hK hst 54 (WS_o54 g σ1) rfl 1 (by decide) (hts _ gw1065) (fun _ h9 => h9) rfl (by decide +kernel) rfl rfl (Nat.le_of_ble_eq_true rfl) (WS_p54_1 g σ1 _) d_Md_length_13 (fun σ2 H locs e2 hst => ?_)
    replace h := h σ2 e2
    exact j1 x1 σ2 _ _ _ (lv_sub hl [0, 1] rfl) hst h
  · replace h := h.2 hc
    refine lv_iconst (v := (0 : Int32)) hx hb d_Md_length_8 (by decide) ?_
    refine lv_goto (tgt := 13) hx hb d_Md_length_9 (by decide) ?_
    refine kw_put (D := D) (ci := 10) (ty := .int) (C := R_Md) (T := T_Md) (N := 46) hx hb hts in_Md ty_Md ty_Md_ok nm_Md hown hK hst 54 (WS_o54 g σ1) rfl 1 (by decide) (hts _ gw1065) (fun _ h9 => h9) rfl (by decide +kernel) rfl rfl (Nat.le_of_ble_eq_true rfl) (WS_p54_1 g σ1 _) d_Md_length_13 (fun σ2 H locs e2 hst => ?_)
    replace h := h σ2 e2
    exact j1 x1 σ2 _ _ _ (lv_sub hl [0, 1] rfl) hst h
set_option maxRecDepth 100000 in
set_option maxHeartbeats 4000000 in
theorem b_Md_length_1 {p : Program} {l : Launch} {e : Env} {s : State} {m : MethodId} {args : Array Value} {below : List Frame} {meth : Method} {c : Code} {D : va_G} {g : Gm} {A : Nat → Prop} {post : Int32 → Sg → Prop} {F : Nat → Int32 → Sg → Prop} (C : kC p s m args meth c k_Md_length 2 (some .int) GW R_Md D vwCl g (Zk g) A) (x1 : Int32) (σ : Sg) (H : Heap) (locs : List Loc) (ls : Array Slot) (hl : lv_has ls 2 [(0, .ref (g.1 54)), (1, .int x1)]) (hst : Wst D vwCl (WS g) A s σ H locs) (h : wb_Md_length_1 F post x1 σ) : W p l e { frames := 1, cells := 0, slots := 0, locals := 20 } s m args below meth c H locs 0 0 (MQ below (QiW D vwCl (WS g) post A) args s 0 0 A) (F0 m 16 ls []) := by
  obtain ⟨hx, hb, hr, hml, hown, hts, hlocks, hK, hZ, hA⟩ := C
  unfold wb_Md_length_1 at h
  refine lv_aload_n hx hb d_Md_length_16 rfl (lv_at hl 0 rfl) ?_
  refine va_get (D := D) (ci := 10) (C := R_Md) (T := T_Md) (N := 46) hx hb hts in_Md hown hK hst.1 54 (WS_o54 g σ) rfl 1 (by decide) (hts _ gw1065) (fun _ h9 => h9) rfl d_Md_length_17 ?_
  refine lv_if_ne (tgt := 32) hx hb d_Md_length_20 (by decide) (fun hc => ?_) (fun hc => ?_)
  · replace h := h.1 hc
    refine lv_iconst (v := (0 : Int32)) hx hb d_Md_length_32 (by decide) ?_
    exact kw_iret hx hb hr hlocks hst h d_Md_length_33
  · replace h := h.2 hc
    refine lv_aload_n hx hb d_Md_length_23 rfl (lv_at hl 0 rfl) ?_
    refine va_get (D := D) (ci := 10) (C := R_Md) (T := T_Md) (N := 46) hx hb hts in_Md hown hK hst.1 54 (WS_o54 g σ) rfl 3 (by decide) (hts _ gw1067) (fun _ h9 => h9) rfl d_Md_length_24 ?_
    refine lv_iload_n hx hb d_Md_length_27 rfl (lv_at hl 1 rfl) ?_
    obtain ⟨hi, h⟩ := h
    refine va_iald hx hb hK hst.1 57 0 (WS_a57 g σ) rfl hi d_Md_length_28 ?_
    refine lv_goto (tgt := 33) hx hb d_Md_length_29 (by decide) ?_
    exact kw_iret hx hb hr hlocks hst h d_Md_length_33
set_option maxRecDepth 100000 in
set_option maxHeartbeats 4000000 in
theorem a_Md_length {p : Program} {l : Launch} {e : Env} {s : State} {m : MethodId} {args : Array Value} {below : List Frame} {meth : Method} {c : Code} {D : va_G} {g : Gm} {A : Nat → Prop} {post : Int32 → Sg → Prop} (C : kC p s m args meth c k_Md_length 2 (some .int) GW R_Md D vwCl g (Zk g) A) : ∀ n : Nat, J_Md_length_1 p l e s m args below meth c D g A post (wp_Md_length post n) := by
  intro n
  induction n with
  | zero => exact fun _ _ _ _ _ _ _ h => h.elim
  | succ n ih => exact fun x1 σ H locs ls hl hst h => b_Md_length_1 (F := wp_Md_length post n) C x1 σ H locs ls hl hst h
set_option maxRecDepth 100000 in
set_option maxHeartbeats 4000000 in
theorem c_Md_length (l : Launch) {D : va_G} {g : Gm} {sz : Nat} (x1 : Int32) {σ : Sg} {post : Int32 → Sg → Prop} (h : wq_Md_length x1 σ post) : Met l y_Md_length (.code y_Md_length k_Md_length 2 (some .int) :: GW) { frames := 1, cells := 0, slots := 0, locals := 20 } (PcW D vwCl (WS g) g (Zk g) σ sz [.ref (g.1 54), .int x1]) (QiW D vwCl (WS g) post (va_A (WS g σ) sz)) 0 0 (va_A (WS g σ) sz) := by
  refine kw_entry (own := R_Md) (by decide) rfl rfl (Nat.le_of_ble_eq_true rfl) ?_
  intro p e s m below meth c ls hsz C hin hl hst
  obtain ⟨n, h⟩ := h
  cases n with
  | zero => exact h.elim
  | succ n =>
    have ih := a_Md_length (l := l) (e := e) (below := below) (post := post) C n
    exact b_Md_length_0 (F := wp_Md_length post n) C (ih) x1 σ _ _ ls hl hst h
/-! SchemaDeskModel.letter (II)C -/
abbrev k_Md_letter : ByteArray := prog_12_method_14_code
abbrev y_Md_letter : MethodName := ⟨"SchemaDeskModel", "letter", "(II)C"⟩
theorem d_Md_letter_0 : decode k_Md_letter 0 = .ok (.aload_n 0, 1) := by decide +kernel
theorem d_Md_letter_1 : decode k_Md_letter 1 = .ok (.iload_n 1, 1) := by decide +kernel
theorem d_Md_letter_2 : decode k_Md_letter 2 = .ok (.invokestatic 181, 3) := by decide +kernel
theorem d_Md_letter_5 : decode k_Md_letter 5 = .ok (.ifCond .ne 7, 3) := by decide +kernel
theorem d_Md_letter_8 : decode k_Md_letter 8 = .ok (.iconst 1, 1) := by decide +kernel
theorem d_Md_letter_9 : decode k_Md_letter 9 = .ok (.goto 22, 3) := by decide +kernel
theorem d_Md_letter_12 : decode k_Md_letter 12 = .ok (.iload_n 2, 1) := by decide +kernel
theorem d_Md_letter_13 : decode k_Md_letter 13 = .ok (.ifCond .lt 13, 3) := by decide +kernel
theorem d_Md_letter_16 : decode k_Md_letter 16 = .ok (.iload_n 2, 1) := by decide +kernel
theorem d_Md_letter_17 : decode k_Md_letter 17 = .ok (.aload_n 0, 1) := by decide +kernel
theorem d_Md_letter_18 : decode k_Md_letter 18 = .ok (.getfield 71, 3) := by decide +kernel
theorem d_Md_letter_21 : decode k_Md_letter 21 = .ok (.iload_n 1, 1) := by decide +kernel
theorem d_Md_letter_22 : decode k_Md_letter 22 = .ok (.iaload, 1) := by decide +kernel
theorem d_Md_letter_23 : decode k_Md_letter 23 = .ok (.if_icmp .lt 7, 3) := by decide +kernel
theorem d_Md_letter_26 : decode k_Md_letter 26 = .ok (.iconst 2, 1) := by decide +kernel
theorem d_Md_letter_27 : decode k_Md_letter 27 = .ok (.goto 4, 3) := by decide +kernel
theorem d_Md_letter_30 : decode k_Md_letter 30 = .ok (.iconst 0, 1) := by decide +kernel
theorem d_Md_letter_31 : decode k_Md_letter 31 = .ok (.putfield 177, 3) := by decide +kernel
theorem d_Md_letter_34 : decode k_Md_letter 34 = .ok (.aload_n 0, 1) := by decide +kernel
theorem d_Md_letter_35 : decode k_Md_letter 35 = .ok (.getfield 177, 3) := by decide +kernel
theorem d_Md_letter_38 : decode k_Md_letter 38 = .ok (.ifCond .ne 19, 3) := by decide +kernel
theorem d_Md_letter_41 : decode k_Md_letter 41 = .ok (.aload_n 0, 1) := by decide +kernel
theorem d_Md_letter_42 : decode k_Md_letter 42 = .ok (.getfield 67, 3) := by decide +kernel
theorem d_Md_letter_45 : decode k_Md_letter 45 = .ok (.sipush 160, 3) := by decide +kernel
theorem d_Md_letter_48 : decode k_Md_letter 48 = .ok (.iload_n 1, 1) := by decide +kernel
theorem d_Md_letter_49 : decode k_Md_letter 49 = .ok (.imul, 1) := by decide +kernel
theorem d_Md_letter_50 : decode k_Md_letter 50 = .ok (.iload_n 2, 1) := by decide +kernel
theorem d_Md_letter_51 : decode k_Md_letter 51 = .ok (.iadd, 1) := by decide +kernel
theorem d_Md_letter_52 : decode k_Md_letter 52 = .ok (.iaload, 1) := by decide +kernel
theorem d_Md_letter_53 : decode k_Md_letter 53 = .ok (.i2c, 1) := by decide +kernel
theorem d_Md_letter_54 : decode k_Md_letter 54 = .ok (.goto 5, 3) := by decide +kernel
theorem d_Md_letter_57 : decode k_Md_letter 57 = .ok (.bipush 32, 2) := by decide +kernel
theorem d_Md_letter_59 : decode k_Md_letter 59 = .ok (.ireturn, 1) := by decide +kernel
def wb_Md_letter_0 (F : Nat → Int32 → Int32 → Sg → Prop) (post : Int32 → Sg → Prop) (x1 : Int32) (x2 : Int32) (σ : Sg) : Prop := (wq_Md_isText x1 σ (fun r1 σ1 => ((¬ r1 = 0 → ((x2 < 0 → (∀ σ2, σ2 = si σ1 54 1 (2 : Int32) → F 1 x1 x2 σ2)) ∧ (¬ x2 < 0 → (vp_in x1 2 ∧ ((x2 < (σ1.1 57 x1.toNatClampNeg) → (∀ σ2, σ2 = si σ1 54 1 (0 : Int32) → F 1 x1 x2 σ2)) ∧ (¬ x2 < (σ1.1 57 x1.toNatClampNeg) → (∀ σ2, σ2 = si σ1 54 1 (2 : Int32) → F 1 x1 x2 σ2))))))) ∧ (r1 = 0 → (∀ σ2, σ2 = si σ1 54 1 (1 : Int32) → F 1 x1 x2 σ2)))))
def wb_Md_letter_1 (F : Nat → Int32 → Int32 → Sg → Prop) (post : Int32 → Sg → Prop) (x1 : Int32) (x2 : Int32) (σ : Sg) : Prop := ((¬ (σ.1 54 1) = 0 → (narrow .char (.int (32 : Int32)) = .int (32 : Int32) ∧ post (32 : Int32) σ)) ∧ ((σ.1 54 1) = 0 → (vp_in (((160 : Int32) * x1) + x2) 240 ∧ (narrow .char (.int (((σ.1 56 ((((160 : Int32) * x1) + x2) : Int32).toNatClampNeg) : Int32).toUInt32 % 65536).toInt32) = .int (((σ.1 56 ((((160 : Int32) * x1) + x2) : Int32).toNatClampNeg) : Int32).toUInt32 % 65536).toInt32 ∧ post ((((σ.1 56 ((((160 : Int32) * x1) + x2) : Int32).toNatClampNeg) : Int32).toUInt32 % 65536).toInt32) σ))))
def wp_Md_letter (post : Int32 → Sg → Prop) : Nat → Nat → Int32 → Int32 → Sg → Prop
  | 0, _, _, _, _ => False
  | n + 1, k, x1, x2, σ => match k with
    | 0 => wb_Md_letter_0 (wp_Md_letter post n) post x1 x2 σ
    | 1 => wb_Md_letter_1 (wp_Md_letter post n) post x1 x2 σ
    | _ => False
def wq_Md_letter (x1 : Int32) (x2 : Int32) (σ : Sg) (post : Int32 → Sg → Prop) : Prop := ∃ n, wp_Md_letter post n 0 x1 x2 σ
def J_Md_letter_1 (p : Program) (l : Launch) (e : Env) (s : State) (m : MethodId) (args : Array Value) (below : List Frame) (meth : Method) (c : Code) (D : va_G) (g : Gm) (A : Nat → Prop) (post : Int32 → Sg → Prop) (F : Nat → Int32 → Int32 → Sg → Prop) : Prop := ∀ (x1 : Int32) (x2 : Int32) (σ : Sg) (H : Heap) (locs : List Loc) (ls : Array Slot), lv_has ls 3 [(0, .ref (g.1 54)), (1, .int x1), (2, .int x2)] → Wst D vwCl (WS g) A s σ H locs → F 1 x1 x2 σ → W p l e { frames := 1, cells := 0, slots := 0, locals := 20 } s m args below meth c H locs 0 0 (MQ below (QiW D vwCl (WS g) post A) args s 0 0 A) (F0 m 34 ls [])
set_option maxRecDepth 100000 in
set_option maxHeartbeats 4000000 in
theorem b_Md_letter_0 {p : Program} {l : Launch} {e : Env} {s : State} {m : MethodId} {args : Array Value} {below : List Frame} {meth : Method} {c : Code} {D : va_G} {g : Gm} {A : Nat → Prop} {post : Int32 → Sg → Prop} {F : Nat → Int32 → Int32 → Sg → Prop} (C : kC p s m args meth c k_Md_letter 3 (some .char) GW R_Md D vwCl g (Zk g) A) (j1 : J_Md_letter_1 p l e s m args below meth c D g A post F) (x1 : Int32) (x2 : Int32) (σ : Sg) (H : Heap) (locs : List Loc) (ls : Array Slot) (hl : lv_has ls 3 [(0, .ref (g.1 54)), (1, .int x1), (2, .int x2)]) (hst : Wst D vwCl (WS g) A s σ H locs) (h : wb_Md_letter_0 F post x1 x2 σ) : W p l e { frames := 1, cells := 0, slots := 0, locals := 20 } s m args below meth c H locs 0 0 (MQ below (QiW D vwCl (WS g) post A) args s 0 0 A) (F0 m 0 ls []) := by
  obtain ⟨hx, hb, hr, hml, hown, hts, hlocks, hK, hZ, hA⟩ := C
  unfold wb_Md_letter_0 at h
  refine lv_aload_n hx hb d_Md_letter_0 rfl (lv_at hl 0 rfl) ?_
  refine lv_iload_n hx hb d_Md_letter_1 rfl (lv_at hl 1 rfl) ?_
  refine kw_calli (va_runS (As := [.int x1]) (rest := [.ref (g.1 54)]) ⟨hx, hb, hml, hown, hts⟩ (c_Md_isText l x1 h) (cwS 1 hts (gd_s gw1211 gw1212 gw15 gw1213) rfl rfl rfl (by decide +kernel) ⟨Nat.le_of_ble_eq_true rfl, Nat.le_of_ble_eq_true rfl⟩) ⟨kw_blind (Zk_ok g), kw_pre (Zk_ok g) hK hZ hA hst⟩ rfl rfl hl.1 rfl (lv_room (Nat.le_of_ble_eq_true rfl)) d_Md_letter_2 ⟨Nat.le_of_ble_eq_true rfl, Nat.le_of_ble_eq_true rfl⟩) hst hA (fun r1 σ1 H locs h hst => ?_)
  refine lv_if_ne (tgt := 12) hx hb d_Md_letter_5 (by decide) (fun hc => ?_) (fun hc => ?_)
  · replace h := h.1 hc
    refine lv_iload_n hx hb d_Md_letter_12 rfl (lv_at hl 2 rfl) ?_
    refine lv_if_lt (tgt := 26) hx hb d_Md_letter_13 (by decide) (fun hc => ?_) (fun hc => ?_)
    · replace h := h.1 hc
      refine lv_iconst (v := (2 : Int32)) hx hb d_Md_letter_26 (by decide) ?_
      refine lv_goto (tgt := 31) hx hb d_Md_letter_27 (by decide) ?_
      refine kw_put (D := D) (ci := 10) (ty := .int) (C := R_Md) (T := T_Md) (N := 46) hx hb hts in_Md ty_Md ty_Md_ok nm_Md hown hK hst 54 (WS_o54 g σ1) rfl 1 (by decide) (hts _ gw1065) (fun _ h9 => h9) rfl (by decide +kernel) rfl rfl (Nat.le_of_ble_eq_true rfl) (WS_p54_1 g σ1 _) d_Md_letter_31 (fun σ2 H locs e2 hst => ?_)
      replace h := h σ2 e2
      exact j1 x1 x2 σ2 _ _ _ (lv_sub hl [0, 1, 2] rfl) hst h
    · replace h := h.2 hc
      refine lv_iload_n hx hb d_Md_letter_16 rfl (lv_at hl 2 rfl) ?_
      refine lv_aload_n hx hb d_Md_letter_17 rfl (lv_at hl 0 rfl) ?_
      refine va_get (D := D) (ci := 10) (C := R_Md) (T := T_Md) (N := 46) hx hb hts in_Md hown hK hst.1 54 (WS_o54 g σ1) rfl 3 (by decide) (hts _ gw1067) (fun _ h9 => h9) rfl d_Md_letter_18 ?_
      refine lv_iload_n hx hb d_Md_letter_21 rfl (lv_at hl 1 rfl) ?_
      obtain ⟨hi, h⟩ := h
      refine va_iald hx hb hK hst.1 57 0 (WS_a57 g σ1) rfl hi d_Md_letter_22 ?_
      refine lv_icmp_lt (tgt := 30) hx hb d_Md_letter_23 (by decide) (fun hc => ?_) (fun hc => ?_)
      · replace h := h.1 hc
        refine lv_iconst (v := (0 : Int32)) hx hb d_Md_letter_30 (by decide) ?_
        refine kw_put (D := D) (ci := 10) (ty := .int) (C := R_Md) (T := T_Md) (N := 46) hx hb hts in_Md ty_Md ty_Md_ok nm_Md hown hK hst 54 (WS_o54 g σ1) rfl 1 (by decide) (hts _ gw1065) (fun _ h9 => h9) rfl (by decide +kernel) rfl rfl (Nat.le_of_ble_eq_true rfl) (WS_p54_1 g σ1 _) d_Md_letter_31 (fun σ2 H locs e2 hst => ?_)
        replace h := h σ2 e2
        exact j1 x1 x2 σ2 _ _ _ (lv_sub hl [0, 1, 2] rfl) hst h
      · replace h := h.2 hc
        refine lv_iconst (v := (2 : Int32)) hx hb d_Md_letter_26 (by decide) ?_
        refine lv_goto (tgt := 31) hx hb d_Md_letter_27 (by decide) ?_
        refine kw_put (D := D) (ci := 10) (ty := .int) (C := R_Md) (T := T_Md) (N := 46) hx hb hts in_Md ty_Md ty_Md_ok nm_Md hown hK hst 54 (WS_o54 g σ1) rfl 1 (by decide) (hts _ gw1065) (fun _ h9 => h9) rfl (by decide +kernel) rfl rfl (Nat.le_of_ble_eq_true rfl) (WS_p54_1 g σ1 _) d_Md_letter_31 (fun σ2 H locs e2 hst => ?_)
        replace h := h σ2 e2
        exact j1 x1 x2 σ2 _ _ _ (lv_sub hl [0, 1, 2] rfl) hst h
  · replace h := h.2 hc
    refine lv_iconst (v := (1 : Int32)) hx hb d_Md_letter_8 (by decide) ?_
    refine lv_goto (tgt := 31) hx hb d_Md_letter_9 (by decide) ?_
    refine kw_put (D := D) (ci := 10) (ty := .int) (C := R_Md) (T := T_Md) (N := 46) hx hb hts in_Md ty_Md ty_Md_ok nm_Md hown hK hst 54 (WS_o54 g σ1) rfl 1 (by decide) (hts _ gw1065) (fun _ h9 => h9) rfl (by decide +kernel) rfl rfl (Nat.le_of_ble_eq_true rfl) (WS_p54_1 g σ1 _) d_Md_letter_31 (fun σ2 H locs e2 hst => ?_)
    replace h := h σ2 e2
    exact j1 x1 x2 σ2 _ _ _ (lv_sub hl [0, 1, 2] rfl) hst h
set_option maxRecDepth 100000 in
set_option maxHeartbeats 4000000 in
theorem b_Md_letter_1 {p : Program} {l : Launch} {e : Env} {s : State} {m : MethodId} {args : Array Value} {below : List Frame} {meth : Method} {c : Code} {D : va_G} {g : Gm} {A : Nat → Prop} {post : Int32 → Sg → Prop} {F : Nat → Int32 → Int32 → Sg → Prop} (C : kC p s m args meth c k_Md_letter 3 (some .char) GW R_Md D vwCl g (Zk g) A) (x1 : Int32) (x2 : Int32) (σ : Sg) (H : Heap) (locs : List Loc) (ls : Array Slot) (hl : lv_has ls 3 [(0, .ref (g.1 54)), (1, .int x1), (2, .int x2)]) (hst : Wst D vwCl (WS g) A s σ H locs) (h : wb_Md_letter_1 F post x1 x2 σ) : W p l e { frames := 1, cells := 0, slots := 0, locals := 20 } s m args below meth c H locs 0 0 (MQ below (QiW D vwCl (WS g) post A) args s 0 0 A) (F0 m 34 ls []) := by
  obtain ⟨hx, hb, hr, hml, hown, hts, hlocks, hK, hZ, hA⟩ := C
  unfold wb_Md_letter_1 at h
  refine lv_aload_n hx hb d_Md_letter_34 rfl (lv_at hl 0 rfl) ?_
  refine va_get (D := D) (ci := 10) (C := R_Md) (T := T_Md) (N := 46) hx hb hts in_Md hown hK hst.1 54 (WS_o54 g σ) rfl 1 (by decide) (hts _ gw1065) (fun _ h9 => h9) rfl d_Md_letter_35 ?_
  refine lv_if_ne (tgt := 57) hx hb d_Md_letter_38 (by decide) (fun hc => ?_) (fun hc => ?_)
  · replace h := h.1 hc
    refine lv_bipush (v := (32 : Int32)) hx hb d_Md_letter_57 (by decide) ?_
    exact kw_zret hx hb hr hlocks hst h d_Md_letter_59
  · replace h := h.2 hc
    refine lv_aload_n hx hb d_Md_letter_41 rfl (lv_at hl 0 rfl) ?_
    refine va_get (D := D) (ci := 10) (C := R_Md) (T := T_Md) (N := 46) hx hb hts in_Md hown hK hst.1 54 (WS_o54 g σ) rfl 2 (by decide) (hts _ gw1066) (fun _ h9 => h9) rfl d_Md_letter_42 ?_
    refine lv_sipush (v := (160 : Int32)) hx hb d_Md_letter_45 (by decide) ?_
    refine lv_iload_n hx hb d_Md_letter_48 rfl (lv_at hl 1 rfl) ?_
    refine lv_imul hx hb d_Md_letter_49 ?_
    refine lv_iload_n hx hb d_Md_letter_50 rfl (lv_at hl 2 rfl) ?_
    refine lv_iadd hx hb d_Md_letter_51 ?_
    obtain ⟨hi, h⟩ := h
    refine va_iald hx hb hK hst.1 56 0 (WS_a56 g σ) rfl hi d_Md_letter_52 ?_
    refine lv_i2c hx hb d_Md_letter_53 rfl ?_
    refine lv_goto (tgt := 59) hx hb d_Md_letter_54 (by decide) ?_
    exact kw_zret hx hb hr hlocks hst h d_Md_letter_59
set_option maxRecDepth 100000 in
set_option maxHeartbeats 4000000 in
theorem a_Md_letter {p : Program} {l : Launch} {e : Env} {s : State} {m : MethodId} {args : Array Value} {below : List Frame} {meth : Method} {c : Code} {D : va_G} {g : Gm} {A : Nat → Prop} {post : Int32 → Sg → Prop} (C : kC p s m args meth c k_Md_letter 3 (some .char) GW R_Md D vwCl g (Zk g) A) : ∀ n : Nat, J_Md_letter_1 p l e s m args below meth c D g A post (wp_Md_letter post n) := by
  intro n
  induction n with
  | zero => exact fun _ _ _ _ _ _ _ _ h => h.elim
  | succ n ih => exact fun x1 x2 σ H locs ls hl hst h => b_Md_letter_1 (F := wp_Md_letter post n) C x1 x2 σ H locs ls hl hst h
set_option maxRecDepth 100000 in
set_option maxHeartbeats 4000000 in
theorem c_Md_letter (l : Launch) {D : va_G} {g : Gm} {sz : Nat} (x1 : Int32) (x2 : Int32) {σ : Sg} {post : Int32 → Sg → Prop} (h : wq_Md_letter x1 x2 σ post) : Met l y_Md_letter (.code y_Md_letter k_Md_letter 3 (some .char) :: GW) { frames := 1, cells := 0, slots := 0, locals := 20 } (PcW D vwCl (WS g) g (Zk g) σ sz [.ref (g.1 54), .int x1, .int x2]) (QiW D vwCl (WS g) post (va_A (WS g σ) sz)) 0 0 (va_A (WS g σ) sz) := by
  refine kw_entry (own := R_Md) (by decide) rfl rfl (Nat.le_of_ble_eq_true rfl) ?_
  intro p e s m below meth c ls hsz C hin hl hst
  obtain ⟨n, h⟩ := h
  cases n with
  | zero => exact h.elim
  | succ n =>
    have ih := a_Md_letter (l := l) (e := e) (below := below) (post := post) C n
    exact b_Md_letter_0 (F := wp_Md_letter post n) C (ih) x1 x2 σ _ _ ls hl hst h
/-! SchemaDeskModel.here ()I -/
abbrev k_Md_here : ByteArray := prog_12_method_15_code
abbrev y_Md_here : MethodName := ⟨"SchemaDeskModel", "here", "()I"⟩
theorem d_Md_here_0 : decode k_Md_here 0 = .ok (.aload_n 0, 1) := by decide +kernel
theorem d_Md_here_1 : decode k_Md_here 1 = .ok (.getfield 202, 3) := by decide +kernel
theorem d_Md_here_4 : decode k_Md_here 4 = .ok (.aload_n 0, 1) := by decide +kernel
theorem d_Md_here_5 : decode k_Md_here 5 = .ok (.getfield 71, 3) := by decide +kernel
theorem d_Md_here_8 : decode k_Md_here 8 = .ok (.aload_n 0, 1) := by decide +kernel
theorem d_Md_here_9 : decode k_Md_here 9 = .ok (.getfield 205, 3) := by decide +kernel
theorem d_Md_here_12 : decode k_Md_here 12 = .ok (.iaload, 1) := by decide +kernel
theorem d_Md_here_13 : decode k_Md_here 13 = .ok (.if_icmp .ge 24, 3) := by decide +kernel
theorem d_Md_here_16 : decode k_Md_here 16 = .ok (.aload_n 0, 1) := by decide +kernel
theorem d_Md_here_17 : decode k_Md_here 17 = .ok (.getfield 67, 3) := by decide +kernel
theorem d_Md_here_20 : decode k_Md_here 20 = .ok (.sipush 160, 3) := by decide +kernel
theorem d_Md_here_23 : decode k_Md_here 23 = .ok (.aload_n 0, 1) := by decide +kernel
theorem d_Md_here_24 : decode k_Md_here 24 = .ok (.getfield 205, 3) := by decide +kernel
theorem d_Md_here_27 : decode k_Md_here 27 = .ok (.imul, 1) := by decide +kernel
theorem d_Md_here_28 : decode k_Md_here 28 = .ok (.aload_n 0, 1) := by decide +kernel
theorem d_Md_here_29 : decode k_Md_here 29 = .ok (.getfield 202, 3) := by decide +kernel
theorem d_Md_here_32 : decode k_Md_here 32 = .ok (.iadd, 1) := by decide +kernel
theorem d_Md_here_33 : decode k_Md_here 33 = .ok (.iaload, 1) := by decide +kernel
theorem d_Md_here_34 : decode k_Md_here 34 = .ok (.goto 4, 3) := by decide +kernel
theorem d_Md_here_37 : decode k_Md_here 37 = .ok (.iconst (-1), 1) := by decide +kernel
theorem d_Md_here_38 : decode k_Md_here 38 = .ok (.ireturn, 1) := by decide +kernel
theorem gw1083 : (Jvm.Cond.fieldLink "SchemaDeskModel" (202 : Nat) "SchemaDeskModel" "at" "I") ∈ GW := gw_t5 (List.mem_of_getElem? (i := 123) rfl) rfl
theorem gw1082 : (Jvm.Cond.fieldLink "SchemaDeskModel" (205 : Nat) "SchemaDeskModel" "t" "I") ∈ GW := gw_t5 (List.mem_of_getElem? (i := 122) rfl) rfl
def wq_Md_here (σ : Sg) (post : Int32 → Sg → Prop) : Prop := (vp_in (σ.1 54 18) 2 ∧ (((σ.1 57 ((σ.1 54 18) : Int32).toNatClampNeg) ≤ (σ.1 54 19) → post (-1 : Int32) σ) ∧ (¬ (σ.1 57 ((σ.1 54 18) : Int32).toNatClampNeg) ≤ (σ.1 54 19) → (vp_in (((160 : Int32) * (σ.1 54 18)) + (σ.1 54 19)) 240 ∧ post (σ.1 56 ((((160 : Int32) * (σ.1 54 18)) + (σ.1 54 19)) : Int32).toNatClampNeg) σ))))
set_option maxRecDepth 100000 in
set_option maxHeartbeats 4000000 in
theorem b_Md_here_0 {p : Program} {l : Launch} {e : Env} {s : State} {m : MethodId} {args : Array Value} {below : List Frame} {meth : Method} {c : Code} {D : va_G} {g : Gm} {A : Nat → Prop} {post : Int32 → Sg → Prop} (C : kC p s m args meth c k_Md_here 1 (some .int) GW R_Md D vwCl g (Zk g) A) (σ : Sg) (H : Heap) (locs : List Loc) (ls : Array Slot) (hl : lv_has ls 1 [(0, .ref (g.1 54))]) (hst : Wst D vwCl (WS g) A s σ H locs) (h : wq_Md_here  σ post) : W p l e { frames := 0, cells := 0, slots := 0, locals := 0 } s m args below meth c H locs 0 0 (MQ below (QiW D vwCl (WS g) post A) args s 0 0 A) (F0 m 0 ls []) := by
  obtain ⟨hx, hb, hr, hml, hown, hts, hlocks, hK, hZ, hA⟩ := C
  unfold wq_Md_here at h
  refine lv_aload_n hx hb d_Md_here_0 rfl (lv_at hl 0 rfl) ?_
  refine va_get (D := D) (ci := 10) (C := R_Md) (T := T_Md) (N := 46) hx hb hts in_Md hown hK hst.1 54 (WS_o54 g σ) rfl 19 (by decide) (hts _ gw1083) (fun _ h9 => h9) rfl d_Md_here_1 ?_
  refine lv_aload_n hx hb d_Md_here_4 rfl (lv_at hl 0 rfl) ?_
  refine va_get (D := D) (ci := 10) (C := R_Md) (T := T_Md) (N := 46) hx hb hts in_Md hown hK hst.1 54 (WS_o54 g σ) rfl 3 (by decide) (hts _ gw1067) (fun _ h9 => h9) rfl d_Md_here_5 ?_
  refine lv_aload_n hx hb d_Md_here_8 rfl (lv_at hl 0 rfl) ?_
  refine va_get (D := D) (ci := 10) (C := R_Md) (T := T_Md) (N := 46) hx hb hts in_Md hown hK hst.1 54 (WS_o54 g σ) rfl 18 (by decide) (hts _ gw1082) (fun _ h9 => h9) rfl d_Md_here_9 ?_
  obtain ⟨hi, h⟩ := h
  refine va_iald hx hb hK hst.1 57 0 (WS_a57 g σ) rfl hi d_Md_here_12 ?_
  refine lv_icmp_ge (tgt := 37) hx hb d_Md_here_13 (by decide) (fun hc => ?_) (fun hc => ?_)
  · replace h := h.1 hc
    refine lv_iconst (v := (-1 : Int32)) hx hb d_Md_here_37 (by decide) ?_
    exact kw_iret hx hb hr hlocks hst h d_Md_here_38
  · replace h := h.2 hc
    refine lv_aload_n hx hb d_Md_here_16 rfl (lv_at hl 0 rfl) ?_
    refine va_get (D := D) (ci := 10) (C := R_Md) (T := T_Md) (N := 46) hx hb hts in_Md hown hK hst.1 54 (WS_o54 g σ) rfl 2 (by decide) (hts _ gw1066) (fun _ h9 => h9) rfl d_Md_here_17 ?_
    refine lv_sipush (v := (160 : Int32)) hx hb d_Md_here_20 (by decide) ?_
    refine lv_aload_n hx hb d_Md_here_23 rfl (lv_at hl 0 rfl) ?_
    refine va_get (D := D) (ci := 10) (C := R_Md) (T := T_Md) (N := 46) hx hb hts in_Md hown hK hst.1 54 (WS_o54 g σ) rfl 18 (by decide) (hts _ gw1082) (fun _ h9 => h9) rfl d_Md_here_24 ?_
    refine lv_imul hx hb d_Md_here_27 ?_
    refine lv_aload_n hx hb d_Md_here_28 rfl (lv_at hl 0 rfl) ?_
    refine va_get (D := D) (ci := 10) (C := R_Md) (T := T_Md) (N := 46) hx hb hts in_Md hown hK hst.1 54 (WS_o54 g σ) rfl 19 (by decide) (hts _ gw1083) (fun _ h9 => h9) rfl d_Md_here_29 ?_
    refine lv_iadd hx hb d_Md_here_32 ?_
    obtain ⟨hi, h⟩ := h
    refine va_iald hx hb hK hst.1 56 0 (WS_a56 g σ) rfl hi d_Md_here_33 ?_
    refine lv_goto (tgt := 38) hx hb d_Md_here_34 (by decide) ?_
    exact kw_iret hx hb hr hlocks hst h d_Md_here_38
set_option maxRecDepth 100000 in
set_option maxHeartbeats 4000000 in
theorem c_Md_here (l : Launch) {D : va_G} {g : Gm} {sz : Nat} {σ : Sg} {post : Int32 → Sg → Prop} (h : wq_Md_here σ post) : Met l y_Md_here (.code y_Md_here k_Md_here 1 (some .int) :: GW) { frames := 0, cells := 0, slots := 0, locals := 0 } (PcW D vwCl (WS g) g (Zk g) σ sz [.ref (g.1 54)]) (QiW D vwCl (WS g) post (va_A (WS g σ) sz)) 0 0 (va_A (WS g σ) sz) := by
  refine kw_entry (own := R_Md) (by decide) rfl rfl (Nat.le_of_ble_eq_true rfl) ?_
  intro p e s m below meth c ls hsz C hin hl hst
  exact b_Md_here_0 C σ _ _ ls hl hst h
/-! SchemaDeskModel.note (II)V -/
abbrev k_Md_note : ByteArray := prog_12_method_16_code
abbrev y_Md_note : MethodName := ⟨"SchemaDeskModel", "note", "(II)V"⟩
theorem d_Md_note_0 : decode k_Md_note 0 = .ok (.aload_n 0, 1) := by decide +kernel
theorem d_Md_note_1 : decode k_Md_note 1 = .ok (.getfield 110, 3) := by decide +kernel
theorem d_Md_note_4 : decode k_Md_note 4 = .ok (.sipush 400, 3) := by decide +kernel
theorem d_Md_note_7 : decode k_Md_note 7 = .ok (.aload_n 0, 1) := by decide +kernel
theorem d_Md_note_8 : decode k_Md_note 8 = .ok (.getfield 205, 3) := by decide +kernel
theorem d_Md_note_11 : decode k_Md_note 11 = .ok (.imul, 1) := by decide +kernel
theorem d_Md_note_12 : decode k_Md_note 12 = .ok (.aload_n 0, 1) := by decide +kernel
theorem d_Md_note_13 : decode k_Md_note 13 = .ok (.getfield 113, 3) := by decide +kernel
theorem d_Md_note_16 : decode k_Md_note 16 = .ok (.aload_n 0, 1) := by decide +kernel
theorem d_Md_note_17 : decode k_Md_note 17 = .ok (.getfield 205, 3) := by decide +kernel
theorem d_Md_note_20 : decode k_Md_note 20 = .ok (.iaload, 1) := by decide +kernel
theorem d_Md_note_21 : decode k_Md_note 21 = .ok (.iadd, 1) := by decide +kernel
theorem d_Md_note_22 : decode k_Md_note 22 = .ok (.iload_n 1, 1) := by decide +kernel
theorem d_Md_note_23 : decode k_Md_note 23 = .ok (.bipush 16, 2) := by decide +kernel
theorem d_Md_note_25 : decode k_Md_note 25 = .ok (.iload_n 2, 1) := by decide +kernel
theorem d_Md_note_26 : decode k_Md_note 26 = .ok (.imul, 1) := by decide +kernel
theorem d_Md_note_27 : decode k_Md_note 27 = .ok (.iadd, 1) := by decide +kernel
theorem d_Md_note_28 : decode k_Md_note 28 = .ok (.iastore, 1) := by decide +kernel
theorem d_Md_note_29 : decode k_Md_note 29 = .ok (.aload_n 0, 1) := by decide +kernel
theorem d_Md_note_30 : decode k_Md_note 30 = .ok (.getfield 113, 3) := by decide +kernel
theorem d_Md_note_33 : decode k_Md_note 33 = .ok (.aload_n 0, 1) := by decide +kernel
theorem d_Md_note_34 : decode k_Md_note 34 = .ok (.getfield 205, 3) := by decide +kernel
theorem d_Md_note_37 : decode k_Md_note 37 = .ok (.dup2, 1) := by decide +kernel
theorem d_Md_note_38 : decode k_Md_note 38 = .ok (.iaload, 1) := by decide +kernel
theorem d_Md_note_39 : decode k_Md_note 39 = .ok (.iconst 1, 1) := by decide +kernel
theorem d_Md_note_40 : decode k_Md_note 40 = .ok (.iadd, 1) := by decide +kernel
theorem d_Md_note_41 : decode k_Md_note 41 = .ok (.iastore, 1) := by decide +kernel
theorem d_Md_note_42 : decode k_Md_note 42 = .ok (.return_, 1) := by decide +kernel
theorem gw1080 : (Jvm.Cond.fieldLink "SchemaDeskModel" (110 : Nat) "SchemaDeskModel" "found" "[I") ∈ GW := gw_t5 (List.mem_of_getElem? (i := 120) rfl) rfl
theorem gw1081 : (Jvm.Cond.fieldLink "SchemaDeskModel" (113 : Nat) "SchemaDeskModel" "faulty" "[I") ∈ GW := gw_t5 (List.mem_of_getElem? (i := 121) rfl) rfl
def wq_Md_note (x1 : Int32) (x2 : Int32) (σ : Sg) (post : Sg → Prop) : Prop := (vp_in (σ.1 54 18) 2 ∧ (vp_in (((400 : Int32) * (σ.1 54 18)) + (σ.1 71 ((σ.1 54 18) : Int32).toNatClampNeg)) 800 ∧ (∀ σ1, σ1 = si σ 70 ((((400 : Int32) * (σ.1 54 18)) + (σ.1 71 ((σ.1 54 18) : Int32).toNatClampNeg)) : Int32).toNatClampNeg (x1 + ((16 : Int32) * x2)) → (vp_in (σ1.1 54 18) 2 ∧ (vp_in (σ1.1 54 18) 2 ∧ (∀ σ2, σ2 = si σ1 71 ((σ1.1 54 18) : Int32).toNatClampNeg ((σ1.1 71 ((σ1.1 54 18) : Int32).toNatClampNeg) + (1 : Int32)) → post σ2))))))
set_option maxRecDepth 100000 in
set_option maxHeartbeats 4000000 in
theorem b_Md_note_0 {p : Program} {l : Launch} {e : Env} {s : State} {m : MethodId} {args : Array Value} {below : List Frame} {meth : Method} {c : Code} {D : va_G} {g : Gm} {A : Nat → Prop} {post : Sg → Prop} (C : kC p s m args meth c k_Md_note 3 (none) GW R_Md D vwCl g (Zk g) A) (x1 : Int32) (x2 : Int32) (σ : Sg) (H : Heap) (locs : List Loc) (ls : Array Slot) (hl : lv_has ls 3 [(0, .ref (g.1 54)), (1, .int x1), (2, .int x2)]) (hst : Wst D vwCl (WS g) A s σ H locs) (h : wq_Md_note x1 x2 σ post) : W p l e { frames := 0, cells := 0, slots := 0, locals := 0 } s m args below meth c H locs 0 0 (MQ below (QvW D vwCl (WS g) post A) args s 0 0 A) (F0 m 0 ls []) := by
  obtain ⟨hx, hb, hr, hml, hown, hts, hlocks, hK, hZ, hA⟩ := C
  unfold wq_Md_note at h
  refine lv_aload_n hx hb d_Md_note_0 rfl (lv_at hl 0 rfl) ?_
  refine va_get (D := D) (ci := 10) (C := R_Md) (T := T_Md) (N := 46) hx hb hts in_Md hown hK hst.1 54 (WS_o54 g σ) rfl 16 (by decide) (hts _ gw1080) (fun _ h9 => h9) rfl d_Md_note_1 ?_
  refine lv_sipush (v := (400 : Int32)) hx hb d_Md_note_4 (by decide) ?_
  refine lv_aload_n hx hb d_Md_note_7 rfl (lv_at hl 0 rfl) ?_
  refine va_get (D := D) (ci := 10) (C := R_Md) (T := T_Md) (N := 46) hx hb hts in_Md hown hK hst.1 54 (WS_o54 g σ) rfl 18 (by decide) (hts _ gw1082) (fun _ h9 => h9) rfl d_Md_note_8 ?_
  refine lv_imul hx hb d_Md_note_11 ?_
  refine lv_aload_n hx hb d_Md_note_12 rfl (lv_at hl 0 rfl) ?_
  refine va_get (D := D) (ci := 10) (C := R_Md) (T := T_Md) (N := 46) hx hb hts in_Md hown hK hst.1 54 (WS_o54 g σ) rfl 17 (by decide) (hts _ gw1081) (fun _ h9 => h9) rfl d_Md_note_13 ?_
  refine lv_aload_n hx hb d_Md_note_16 rfl (lv_at hl 0 rfl) ?_
  refine va_get (D := D) (ci := 10) (C := R_Md) (T := T_Md) (N := 46) hx hb hts in_Md hown hK hst.1 54 (WS_o54 g σ) rfl 18 (by decide) (hts _ gw1082) (fun _ h9 => h9) rfl d_Md_note_17 ?_
  obtain ⟨hi, h⟩ := h
  refine va_iald hx hb hK hst.1 71 0 (WS_a71 g σ) rfl hi d_Md_note_20 ?_
  refine lv_iadd hx hb d_Md_note_21 ?_
  refine lv_iload_n hx hb d_Md_note_22 rfl (lv_at hl 1 rfl) ?_
  refine lv_bipush (v := (16 : Int32)) hx hb d_Md_note_23 (by decide) ?_
  refine lv_iload_n hx hb d_Md_note_25 rfl (lv_at hl 2 rfl) ?_
  refine lv_imul hx hb d_Md_note_26 ?_
  refine lv_iadd hx hb d_Md_note_27 ?_
  obtain ⟨hi, h⟩ := h
  refine kw_iast hx hb hK hst 70 (WS_a70 g σ) hi (WS_s70 g σ _ _) d_Md_note_28 (fun σ1 H locs e1 hst => ?_)
  replace h := h σ1 e1
  refine lv_aload_n hx hb d_Md_note_29 rfl (lv_at hl 0 rfl) ?_
  refine va_get (D := D) (ci := 10) (C := R_Md) (T := T_Md) (N := 46) hx hb hts in_Md hown hK hst.1 54 (WS_o54 g σ1) rfl 17 (by decide) (hts _ gw1081) (fun _ h9 => h9) rfl d_Md_note_30 ?_
  refine lv_aload_n hx hb d_Md_note_33 rfl (lv_at hl 0 rfl) ?_
  refine va_get (D := D) (ci := 10) (C := R_Md) (T := T_Md) (N := 46) hx hb hts in_Md hown hK hst.1 54 (WS_o54 g σ1) rfl 18 (by decide) (hts _ gw1082) (fun _ h9 => h9) rfl d_Md_note_34 ?_
  refine lv_dup2_11 hx hb d_Md_note_37 rfl rfl ?_
  obtain ⟨hi, h⟩ := h
  refine va_iald hx hb hK hst.1 71 0 (WS_a71 g σ1) rfl hi d_Md_note_38 ?_
  refine lv_iconst (v := (1 : Int32)) hx hb d_Md_note_39 (by decide) ?_
  refine lv_iadd hx hb d_Md_note_40 ?_
  obtain ⟨hi, h⟩ := h
  refine kw_iast hx hb hK hst 71 (WS_a71 g σ1) hi (WS_s71 g σ1 _ _) d_Md_note_41 (fun σ2 H locs e2 hst => ?_)
  replace h := h σ2 e2
  exact kw_vret hx hb hr hlocks hst h d_Md_note_42
set_option maxRecDepth 100000 in
set_option maxHeartbeats 4000000 in
theorem c_Md_note (l : Launch) {D : va_G} {g : Gm} {sz : Nat} (x1 : Int32) (x2 : Int32) {σ : Sg} {post : Sg → Prop} (h : wq_Md_note x1 x2 σ post) : Met l y_Md_note (.code y_Md_note k_Md_note 3 (none) :: GW) { frames := 0, cells := 0, slots := 0, locals := 0 } (PcW D vwCl (WS g) g (Zk g) σ sz [.ref (g.1 54), .int x1, .int x2]) (QvW D vwCl (WS g) post (va_A (WS g σ) sz)) 0 0 (va_A (WS g σ) sz) := by
  refine kw_entry (own := R_Md) (by decide) rfl rfl (Nat.le_of_ble_eq_true rfl) ?_
  intro p e s m below meth c ls hsz C hin hl hst
  exact b_Md_note_0 C x1 x2 σ _ _ ls hl hst h
/-! SchemaDeskModel.blanks ()V -/
abbrev k_Md_blanks : ByteArray := prog_12_method_17_code
abbrev y_Md_blanks : MethodName := ⟨"SchemaDeskModel", "blanks", "()V"⟩
theorem d_Md_blanks_0 : decode k_Md_blanks 0 = .ok (.aload_n 0, 1) := by decide +kernel
theorem d_Md_blanks_1 : decode k_Md_blanks 1 = .ok (.invokevirtual 208, 3) := by decide +kernel
theorem d_Md_blanks_4 : decode k_Md_blanks 4 = .ok (.bipush 32, 2) := by decide +kernel
theorem d_Md_blanks_6 : decode k_Md_blanks 6 = .ok (.if_icmp .ne 16, 3) := by decide +kernel
theorem d_Md_blanks_9 : decode k_Md_blanks 9 = .ok (.aload_n 0, 1) := by decide +kernel
theorem d_Md_blanks_10 : decode k_Md_blanks 10 = .ok (.dup, 1) := by decide +kernel
theorem d_Md_blanks_11 : decode k_Md_blanks 11 = .ok (.getfield 202, 3) := by decide +kernel
theorem d_Md_blanks_14 : decode k_Md_blanks 14 = .ok (.iconst 1, 1) := by decide +kernel
theorem d_Md_blanks_15 : decode k_Md_blanks 15 = .ok (.iadd, 1) := by decide +kernel
theorem d_Md_blanks_16 : decode k_Md_blanks 16 = .ok (.putfield 202, 3) := by decide +kernel
theorem d_Md_blanks_19 : decode k_Md_blanks 19 = .ok (.goto (-19), 3) := by decide +kernel
theorem d_Md_blanks_22 : decode k_Md_blanks 22 = .ok (.return_, 1) := by decide +kernel
theorem gw1260 : (Jvm.Cond.methodLink "SchemaDeskModel" (208 : Nat) ({ cls := "SchemaDeskModel", name := "here", desc := "()I" } : Jvm.MethodName)) ∈ GW := gw_t6 (List.mem_of_getElem? (i := 60) rfl) rfl
theorem gw1262 : (Jvm.Cond.instanceMethod ({ cls := "SchemaDeskModel", name := "here", desc := "()I" } : Jvm.MethodName)) ∈ GW := gw_t6 (List.mem_of_getElem? (i := 62) rfl) rfl
theorem gs49 : Cond.selects "SchemaDeskModel" ⟨"SchemaDeskModel", "here", "()I"⟩ ⟨"SchemaDeskModel", "here", "()I"⟩ ∈ GW := gw_p4 (q := (⟨"SchemaDeskModel", "here", "()I"⟩, 46)) (List.mem_of_getElem? (i := 1) rfl)
theorem gw1263 : (Jvm.Cond.code ({ cls := "SchemaDeskModel", name := "here", desc := "()I" } : Jvm.MethodName) prog_12_method_15_code (1 : Nat) (Option.some Jvm.ClassFile.FieldType.int)) ∈ GW := gw_t6 (List.mem_of_getElem? (i := 63) rfl) rfl
def wb_Md_blanks_0 (F : Nat → Sg → Prop) (post : Sg → Prop) (σ : Sg) : Prop := F 1  σ
def wb_Md_blanks_1 (F : Nat → Sg → Prop) (post : Sg → Prop) (σ : Sg) : Prop := (wq_Md_here  σ (fun r1 σ1 => ((¬ r1 = (32 : Int32) → post σ1) ∧ (r1 = (32 : Int32) → (∀ σ2, σ2 = si σ1 54 19 ((σ1.1 54 19) + (1 : Int32)) → F 1  σ2)))))
def wp_Md_blanks (post : Sg → Prop) : Nat → Nat → Sg → Prop
  | 0, _, _ => False
  | n + 1, k, σ => match k with
    | 0 => wb_Md_blanks_0 (wp_Md_blanks post n) post σ
    | 1 => wb_Md_blanks_1 (wp_Md_blanks post n) post σ
    | _ => False
def wq_Md_blanks (σ : Sg) (post : Sg → Prop) : Prop := ∃ n, wp_Md_blanks post n 0  σ
def J_Md_blanks_1 (p : Program) (l : Launch) (e : Env) (s : State) (m : MethodId) (args : Array Value) (below : List Frame) (meth : Method) (c : Code) (D : va_G) (g : Gm) (A : Nat → Prop) (post : Sg → Prop) (F : Nat → Sg → Prop) : Prop := ∀ (σ : Sg) (H : Heap) (locs : List Loc) (ls : Array Slot), lv_has ls 1 [(0, .ref (g.1 54))] → Wst D vwCl (WS g) A s σ H locs → F 1  σ → W p l e { frames := 1, cells := 0, slots := 0, locals := 20 } s m args below meth c H locs 0 0 (MQ below (QvW D vwCl (WS g) post A) args s 0 0 A) (F0 m 0 ls [])
set_option maxRecDepth 100000 in
set_option maxHeartbeats 4000000 in
theorem b_Md_blanks_0 {p : Program} {l : Launch} {e : Env} {s : State} {m : MethodId} {args : Array Value} {below : List Frame} {meth : Method} {c : Code} {D : va_G} {g : Gm} {A : Nat → Prop} {post : Sg → Prop} {F : Nat → Sg → Prop} (C : kC p s m args meth c k_Md_blanks 1 (none) GW R_Md D vwCl g (Zk g) A) (j1 : J_Md_blanks_1 p l e s m args below meth c D g A post F) (σ : Sg) (H : Heap) (locs : List Loc) (ls : Array Slot) (hl : lv_has ls 1 [(0, .ref (g.1 54))]) (hst : Wst D vwCl (WS g) A s σ H locs) (h : wb_Md_blanks_0 F post σ) : W p l e { frames := 1, cells := 0, slots := 0, locals := 20 } s m args below meth c H locs 0 0 (MQ below (QvW D vwCl (WS g) post A) args s 0 0 A) (F0 m 0 ls []) := by
  obtain ⟨hx, hb, hr, hml, hown, hts, hlocks, hK, hZ, hA⟩ := C
  unfold wb_Md_blanks_0 at h
  exact j1 σ _ _ _ (lv_sub hl [0] rfl) hst h
set_option maxRecDepth 100000 in
set_option maxHeartbeats 4000000 in
theorem b_Md_blanks_1 {p : Program} {l : Launch} {e : Env} {s : State} {m : MethodId} {args : Array Value} {below : List Frame} {meth : Method} {c : Code} {D : va_G} {g : Gm} {A : Nat → Prop} {post : Sg → Prop} {F : Nat → Sg → Prop} (C : kC p s m args meth c k_Md_blanks 1 (none) GW R_Md D vwCl g (Zk g) A) (j1 : J_Md_blanks_1 p l e s m args below meth c D g A post F) (σ : Sg) (H : Heap) (locs : List Loc) (ls : Array Slot) (hl : lv_has ls 1 [(0, .ref (g.1 54))]) (hst : Wst D vwCl (WS g) A s σ H locs) (h : wb_Md_blanks_1 F post σ) : W p l e { frames := 1, cells := 0, slots := 0, locals := 20 } s m args below meth c H locs 0 0 (MQ below (QvW D vwCl (WS g) post A) args s 0 0 A) (F0 m 0 ls []) := by
  obtain ⟨hx, hb, hr, hml, hown, hts, hlocks, hK, hZ, hA⟩ := C
  unfold wb_Md_blanks_1 at h
  refine lv_aload_n hx hb d_Md_blanks_0 rfl (lv_at hl 0 rfl) ?_
  refine kw_calli (va_runV (As := []) (rest := []) (b := g.1 54) ⟨hx, hb, hml, hown, hts⟩ (c_Md_here l h) (cwV 0 hts (gd_v gw1260 gw1262 gs49 gw15 gw1263) rfl rfl rfl (by decide +kernel) ⟨Nat.le_of_ble_eq_true rfl, Nat.le_of_ble_eq_true rfl⟩) ⟨kw_blind (Zk_ok g), va_recv hK hst.1 rfl (WS_o54 g σ), kw_pre (Zk_ok g) hK hZ hA hst⟩ rfl rfl hl.1 rfl (lv_room (Nat.le_of_ble_eq_true rfl)) d_Md_blanks_1 ⟨Nat.le_of_ble_eq_true rfl, Nat.le_of_ble_eq_true rfl⟩) hst hA (fun r1 σ1 H locs h hst => ?_)
  refine lv_bipush (v := (32 : Int32)) hx hb d_Md_blanks_4 (by decide) ?_
  refine lv_icmp_ne (tgt := 22) hx hb d_Md_blanks_6 (by decide) (fun hc => ?_) (fun hc => ?_)
  · replace h := h.1 hc
    exact kw_vret hx hb hr hlocks hst h d_Md_blanks_22
  · replace h := h.2 hc
    refine lv_aload_n hx hb d_Md_blanks_9 rfl (lv_at hl 0 rfl) ?_
    refine lv_dup hx hb d_Md_blanks_10 rfl ?_
    refine va_get (D := D) (ci := 10) (C := R_Md) (T := T_Md) (N := 46) hx hb hts in_Md hown hK hst.1 54 (WS_o54 g σ1) rfl 19 (by decide) (hts _ gw1083) (fun _ h9 => h9) rfl d_Md_blanks_11 ?_
    refine lv_iconst (v := (1 : Int32)) hx hb d_Md_blanks_14 (by decide) ?_
    refine lv_iadd hx hb d_Md_blanks_15 ?_
    refine kw_put (D := D) (ci := 10) (ty := .int) (C := R_Md) (T := T_Md) (N := 46) hx hb hts in_Md ty_Md ty_Md_ok nm_Md hown hK hst 54 (WS_o54 g σ1) rfl 19 (by decide) (hts _ gw1083) (fun _ h9 => h9) rfl (by decide +kernel) rfl rfl (Nat.le_of_ble_eq_true rfl) (WS_p54_19 g σ1 _) d_Md_blanks_16 (fun σ2 H locs e2 hst => ?_)
    replace h := h σ2 e2
    refine lv_goto (tgt := 0) hx hb d_Md_blanks_19 (by decide) ?_
    exact j1 σ2 _ _ _ (lv_sub hl [0] rfl) hst h
set_option maxRecDepth 100000 in
set_option maxHeartbeats 4000000 in
theorem a_Md_blanks {p : Program} {l : Launch} {e : Env} {s : State} {m : MethodId} {args : Array Value} {below : List Frame} {meth : Method} {c : Code} {D : va_G} {g : Gm} {A : Nat → Prop} {post : Sg → Prop} (C : kC p s m args meth c k_Md_blanks 1 (none) GW R_Md D vwCl g (Zk g) A) : ∀ n : Nat, J_Md_blanks_1 p l e s m args below meth c D g A post (wp_Md_blanks post n) := by
  intro n
  induction n with
  | zero => exact fun _ _ _ _ _ _ h => h.elim
  | succ n ih => exact fun σ H locs ls hl hst h => b_Md_blanks_1 (F := wp_Md_blanks post n) C (ih) σ H locs ls hl hst h
set_option maxRecDepth 100000 in
set_option maxHeartbeats 4000000 in
theorem c_Md_blanks (l : Launch) {D : va_G} {g : Gm} {sz : Nat} {σ : Sg} {post : Sg → Prop} (h : wq_Md_blanks σ post) : Met l y_Md_blanks (.code y_Md_blanks k_Md_blanks 1 (none) :: GW) { frames := 1, cells := 0, slots := 0, locals := 20 } (PcW D vwCl (WS g) g (Zk g) σ sz [.ref (g.1 54)]) (QvW D vwCl (WS g) post (va_A (WS g σ) sz)) 0 0 (va_A (WS g σ) sz) := by
  refine kw_entry (own := R_Md) (by decide) rfl rfl (Nat.le_of_ble_eq_true rfl) ?_
  intro p e s m below meth c ls hsz C hin hl hst
  obtain ⟨n, h⟩ := h
  cases n with
  | zero => exact h.elim
  | succ n =>
    have ih := a_Md_blanks (l := l) (e := e) (below := below) (post := post) C n
    exact b_Md_blanks_0 (F := wp_Md_blanks post n) C (ih) σ _ _ ls hl hst h
/-! SchemaDeskModel.isDigit (I)Z -/
abbrev k_Md_isDigit : ByteArray := prog_12_method_18_code
abbrev y_Md_isDigit : MethodName := ⟨"SchemaDeskModel", "isDigit", "(I)Z"⟩
theorem d_Md_isDigit_0 : decode k_Md_isDigit 0 = .ok (.iload_n 0, 1) := by decide +kernel
theorem d_Md_isDigit_1 : decode k_Md_isDigit 1 = .ok (.bipush 48, 2) := by decide +kernel
theorem d_Md_isDigit_3 : decode k_Md_isDigit 3 = .ok (.if_icmp .lt 13, 3) := by decide +kernel
theorem d_Md_isDigit_6 : decode k_Md_isDigit 6 = .ok (.iload_n 0, 1) := by decide +kernel
theorem d_Md_isDigit_7 : decode k_Md_isDigit 7 = .ok (.bipush 57, 2) := by decide +kernel
theorem d_Md_isDigit_9 : decode k_Md_isDigit 9 = .ok (.if_icmp .gt 7, 3) := by decide +kernel
theorem d_Md_isDigit_12 : decode k_Md_isDigit 12 = .ok (.iconst 1, 1) := by decide +kernel
theorem d_Md_isDigit_13 : decode k_Md_isDigit 13 = .ok (.goto 4, 3) := by decide +kernel
theorem d_Md_isDigit_16 : decode k_Md_isDigit 16 = .ok (.iconst 0, 1) := by decide +kernel
theorem d_Md_isDigit_17 : decode k_Md_isDigit 17 = .ok (.ireturn, 1) := by decide +kernel
def wq_Md_isDigit (x0 : Int32) (σ : Sg) (post : Int32 → Sg → Prop) : Prop := ((x0 < (48 : Int32) → (narrow .boolean (.int (0 : Int32)) = .int (0 : Int32) ∧ post (0 : Int32) σ)) ∧ (¬ x0 < (48 : Int32) → (((57 : Int32) < x0 → (narrow .boolean (.int (0 : Int32)) = .int (0 : Int32) ∧ post (0 : Int32) σ)) ∧ (¬ (57 : Int32) < x0 → (narrow .boolean (.int (1 : Int32)) = .int (1 : Int32) ∧ post (1 : Int32) σ)))))
set_option maxRecDepth 100000 in
set_option maxHeartbeats 4000000 in
theorem b_Md_isDigit_0 {p : Program} {l : Launch} {e : Env} {s : State} {m : MethodId} {args : Array Value} {below : List Frame} {meth : Method} {c : Code} {D : va_G} {g : Gm} {A : Nat → Prop} {post : Int32 → Sg → Prop} (C : kC p s m args meth c k_Md_isDigit 1 (some .boolean) GW R_Md D vwCl g (Zk g) A) (x0 : Int32) (σ : Sg) (H : Heap) (locs : List Loc) (ls : Array Slot) (hl : lv_has ls 1 [(0, .int x0)]) (hst : Wst D vwCl (WS g) A s σ H locs) (h : wq_Md_isDigit x0 σ post) : W p l e { frames := 0, cells := 0, slots := 0, locals := 0 } s m args below meth c H locs 0 0 (MQ below (QiW D vwCl (WS g) post A) args s 0 0 A) (F0 m 0 ls []) := by
  obtain ⟨hx, hb, hr, hml, hown, hts, hlocks, hK, hZ, hA⟩ := C
  unfold wq_Md_isDigit at h
  refine lv_iload_n hx hb d_Md_isDigit_0 rfl (lv_at hl 0 rfl) ?_
  refine lv_bipush (v := (48 : Int32)) hx hb d_Md_isDigit_1 (by decide) ?_
  refine lv_icmp_lt (tgt := 16) hx hb d_Md_isDigit_3 (by decide) (fun hc => ?_) (fun hc => ?_)
  · replace h := h.1 hc
    refine lv_iconst (v := (0 : Int32)) hx hb d_Md_isDigit_16 (by decide) ?_
    exact kw_zret hx hb hr hlocks hst h d_Md_isDigit_17
  · replace h := h.2 hc
    refine lv_iload_n hx hb d_Md_isDigit_6 rfl (lv_at hl 0 rfl) ?_
    refine lv_bipush (v := (57 : Int32)) hx hb d_Md_isDigit_7 (by decide) ?_
    refine lv_icmp_gt (tgt := 16) hx hb d_Md_isDigit_9 (by decide) (fun hc => ?_) (fun hc => ?_)
    · replace h := h.1 hc
      refine lv_iconst (v := (0 : Int32)) hx hb d_Md_isDigit_16 (by decide) ?_
      exact kw_zret hx hb hr hlocks hst h d_Md_isDigit_17
    · replace h := h.2 hc
      refine lv_iconst (v := (1 : Int32)) hx hb d_Md_isDigit_12 (by decide) ?_
      refine lv_goto (tgt := 17) hx hb d_Md_isDigit_13 (by decide) ?_
      exact kw_zret hx hb hr hlocks hst h d_Md_isDigit_17
set_option maxRecDepth 100000 in
set_option maxHeartbeats 4000000 in
theorem c_Md_isDigit (l : Launch) {D : va_G} {g : Gm} {sz : Nat} (x0 : Int32) {σ : Sg} {post : Int32 → Sg → Prop} (h : wq_Md_isDigit x0 σ post) : Met l y_Md_isDigit (.code y_Md_isDigit k_Md_isDigit 1 (some .boolean) :: GW) { frames := 0, cells := 0, slots := 0, locals := 0 } (PcW D vwCl (WS g) g (Zk g) σ sz [.int x0]) (QiW D vwCl (WS g) post (va_A (WS g σ) sz)) 0 0 (va_A (WS g σ) sz) := by
  refine kw_entry (own := R_Md) (by decide) rfl rfl (Nat.le_of_ble_eq_true rfl) ?_
  intro p e s m below meth c ls hsz C hin hl hst
  exact b_Md_isDigit_0 C x0 σ _ _ ls hl hst h
/-! SchemaDeskModel.isLetter (I)Z -/
abbrev k_Md_isLetter : ByteArray := prog_12_method_19_code
abbrev y_Md_isLetter : MethodName := ⟨"SchemaDeskModel", "isLetter", "(I)Z"⟩
theorem d_Md_isLetter_0 : decode k_Md_isLetter 0 = .ok (.iload_n 0, 1) := by decide +kernel
theorem d_Md_isLetter_1 : decode k_Md_isLetter 1 = .ok (.bipush 97, 2) := by decide +kernel
theorem d_Md_isLetter_3 : decode k_Md_isLetter 3 = .ok (.if_icmp .lt 13, 3) := by decide +kernel
theorem d_Md_isLetter_6 : decode k_Md_isLetter 6 = .ok (.iload_n 0, 1) := by decide +kernel
theorem d_Md_isLetter_7 : decode k_Md_isLetter 7 = .ok (.bipush 122, 2) := by decide +kernel
theorem d_Md_isLetter_9 : decode k_Md_isLetter 9 = .ok (.if_icmp .gt 7, 3) := by decide +kernel
theorem d_Md_isLetter_12 : decode k_Md_isLetter 12 = .ok (.iconst 1, 1) := by decide +kernel
theorem d_Md_isLetter_13 : decode k_Md_isLetter 13 = .ok (.goto 4, 3) := by decide +kernel
theorem d_Md_isLetter_16 : decode k_Md_isLetter 16 = .ok (.iconst 0, 1) := by decide +kernel
theorem d_Md_isLetter_17 : decode k_Md_isLetter 17 = .ok (.ireturn, 1) := by decide +kernel
def wq_Md_isLetter (x0 : Int32) (σ : Sg) (post : Int32 → Sg → Prop) : Prop := ((x0 < (97 : Int32) → (narrow .boolean (.int (0 : Int32)) = .int (0 : Int32) ∧ post (0 : Int32) σ)) ∧ (¬ x0 < (97 : Int32) → (((122 : Int32) < x0 → (narrow .boolean (.int (0 : Int32)) = .int (0 : Int32) ∧ post (0 : Int32) σ)) ∧ (¬ (122 : Int32) < x0 → (narrow .boolean (.int (1 : Int32)) = .int (1 : Int32) ∧ post (1 : Int32) σ)))))
set_option maxRecDepth 100000 in
set_option maxHeartbeats 4000000 in
theorem b_Md_isLetter_0 {p : Program} {l : Launch} {e : Env} {s : State} {m : MethodId} {args : Array Value} {below : List Frame} {meth : Method} {c : Code} {D : va_G} {g : Gm} {A : Nat → Prop} {post : Int32 → Sg → Prop} (C : kC p s m args meth c k_Md_isLetter 1 (some .boolean) GW R_Md D vwCl g (Zk g) A) (x0 : Int32) (σ : Sg) (H : Heap) (locs : List Loc) (ls : Array Slot) (hl : lv_has ls 1 [(0, .int x0)]) (hst : Wst D vwCl (WS g) A s σ H locs) (h : wq_Md_isLetter x0 σ post) : W p l e { frames := 0, cells := 0, slots := 0, locals := 0 } s m args below meth c H locs 0 0 (MQ below (QiW D vwCl (WS g) post A) args s 0 0 A) (F0 m 0 ls []) := by
  obtain ⟨hx, hb, hr, hml, hown, hts, hlocks, hK, hZ, hA⟩ := C
  unfold wq_Md_isLetter at h
  refine lv_iload_n hx hb d_Md_isLetter_0 rfl (lv_at hl 0 rfl) ?_
  refine lv_bipush (v := (97 : Int32)) hx hb d_Md_isLetter_1 (by decide) ?_
  refine lv_icmp_lt (tgt := 16) hx hb d_Md_isLetter_3 (by decide) (fun hc => ?_) (fun hc => ?_)
  · replace h := h.1 hc
    refine lv_iconst (v := (0 : Int32)) hx hb d_Md_isLetter_16 (by decide) ?_
    exact kw_zret hx hb hr hlocks hst h d_Md_isLetter_17
  · replace h := h.2 hc
    refine lv_iload_n hx hb d_Md_isLetter_6 rfl (lv_at hl 0 rfl) ?_
    refine lv_bipush (v := (122 : Int32)) hx hb d_Md_isLetter_7 (by decide) ?_
    refine lv_icmp_gt (tgt := 16) hx hb d_Md_isLetter_9 (by decide) (fun hc => ?_) (fun hc => ?_)
    · replace h := h.1 hc
      refine lv_iconst (v := (0 : Int32)) hx hb d_Md_isLetter_16 (by decide) ?_
      exact kw_zret hx hb hr hlocks hst h d_Md_isLetter_17
    · replace h := h.2 hc
      refine lv_iconst (v := (1 : Int32)) hx hb d_Md_isLetter_12 (by decide) ?_
      refine lv_goto (tgt := 17) hx hb d_Md_isLetter_13 (by decide) ?_
      exact kw_zret hx hb hr hlocks hst h d_Md_isLetter_17
set_option maxRecDepth 100000 in
set_option maxHeartbeats 4000000 in
theorem c_Md_isLetter (l : Launch) {D : va_G} {g : Gm} {sz : Nat} (x0 : Int32) {σ : Sg} {post : Int32 → Sg → Prop} (h : wq_Md_isLetter x0 σ post) : Met l y_Md_isLetter (.code y_Md_isLetter k_Md_isLetter 1 (some .boolean) :: GW) { frames := 0, cells := 0, slots := 0, locals := 0 } (PcW D vwCl (WS g) g (Zk g) σ sz [.int x0]) (QiW D vwCl (WS g) post (va_A (WS g σ) sz)) 0 0 (va_A (WS g σ) sz) := by
  refine kw_entry (own := R_Md) (by decide) rfl rfl (Nat.le_of_ble_eq_true rfl) ?_
  intro p e s m below meth c ls hsz C hin hl hst
  exact b_Md_isLetter_0 C x0 σ _ _ ls hl hst h
/-! SchemaDeskModel.starts ()Z -/
abbrev k_Md_starts : ByteArray := prog_12_method_20_code
abbrev y_Md_starts : MethodName := ⟨"SchemaDeskModel", "starts", "()Z"⟩
theorem d_Md_starts_0 : decode k_Md_starts 0 = .ok (.aload_n 0, 1) := by decide +kernel
theorem d_Md_starts_1 : decode k_Md_starts 1 = .ok (.invokevirtual 208, 3) := by decide +kernel
theorem d_Md_starts_4 : decode k_Md_starts 4 = .ok (.istore_n 1, 1) := by decide +kernel
theorem d_Md_starts_5 : decode k_Md_starts 5 = .ok (.iload_n 1, 1) := by decide +kernel
theorem d_Md_starts_6 : decode k_Md_starts 6 = .ok (.bipush 123, 2) := by decide +kernel
theorem d_Md_starts_8 : decode k_Md_starts 8 = .ok (.if_icmp .eq 9, 3) := by decide +kernel
theorem d_Md_starts_11 : decode k_Md_starts 11 = .ok (.iload_n 1, 1) := by decide +kernel
theorem d_Md_starts_12 : decode k_Md_starts 12 = .ok (.bipush 91, 2) := by decide +kernel
theorem d_Md_starts_14 : decode k_Md_starts 14 = .ok (.if_icmp .ne 18, 3) := by decide +kernel
theorem d_Md_starts_17 : decode k_Md_starts 17 = .ok (.aload_n 0, 1) := by decide +kernel
theorem d_Md_starts_18 : decode k_Md_starts 18 = .ok (.getfield 212, 3) := by decide +kernel
theorem d_Md_starts_21 : decode k_Md_starts 21 = .ok (.bipush 8, 2) := by decide +kernel
theorem d_Md_starts_23 : decode k_Md_starts 23 = .ok (.if_icmp .ge 7, 3) := by decide +kernel
theorem d_Md_starts_26 : decode k_Md_starts 26 = .ok (.iconst 1, 1) := by decide +kernel
theorem d_Md_starts_27 : decode k_Md_starts 27 = .ok (.goto 4, 3) := by decide +kernel
theorem d_Md_starts_30 : decode k_Md_starts 30 = .ok (.iconst 0, 1) := by decide +kernel
theorem d_Md_starts_31 : decode k_Md_starts 31 = .ok (.ireturn, 1) := by decide +kernel
theorem d_Md_starts_32 : decode k_Md_starts 32 = .ok (.iload_n 1, 1) := by decide +kernel
theorem d_Md_starts_33 : decode k_Md_starts 33 = .ok (.bipush 34, 2) := by decide +kernel
theorem d_Md_starts_35 : decode k_Md_starts 35 = .ok (.if_icmp .eq 23, 3) := by decide +kernel
theorem d_Md_starts_38 : decode k_Md_starts 38 = .ok (.iload_n 1, 1) := by decide +kernel
theorem d_Md_starts_39 : decode k_Md_starts 39 = .ok (.bipush 45, 2) := by decide +kernel
theorem d_Md_starts_41 : decode k_Md_starts 41 = .ok (.if_icmp .eq 17, 3) := by decide +kernel
theorem d_Md_starts_44 : decode k_Md_starts 44 = .ok (.iload_n 1, 1) := by decide +kernel
theorem d_Md_starts_45 : decode k_Md_starts 45 = .ok (.invokestatic 215, 3) := by decide +kernel
theorem d_Md_starts_48 : decode k_Md_starts 48 = .ok (.ifCond .ne 10, 3) := by decide +kernel
theorem d_Md_starts_51 : decode k_Md_starts 51 = .ok (.iload_n 1, 1) := by decide +kernel
theorem d_Md_starts_52 : decode k_Md_starts 52 = .ok (.invokestatic 218, 3) := by decide +kernel
theorem d_Md_starts_55 : decode k_Md_starts 55 = .ok (.ifCond .eq 7, 3) := by decide +kernel
theorem d_Md_starts_58 : decode k_Md_starts 58 = .ok (.iconst 1, 1) := by decide +kernel
theorem d_Md_starts_59 : decode k_Md_starts 59 = .ok (.goto 4, 3) := by decide +kernel
theorem d_Md_starts_62 : decode k_Md_starts 62 = .ok (.iconst 0, 1) := by decide +kernel
theorem d_Md_starts_63 : decode k_Md_starts 63 = .ok (.ireturn, 1) := by decide +kernel
theorem gw1084 : (Jvm.Cond.fieldLink "SchemaDeskModel" (212 : Nat) "SchemaDeskModel" "depth" "I") ∈ GW := gw_t5 (List.mem_of_getElem? (i := 124) rfl) rfl
theorem gw1268 : (Jvm.Cond.methodLink "SchemaDeskModel" (215 : Nat) ({ cls := "SchemaDeskModel", name := "isDigit", desc := "(I)Z" } : Jvm.MethodName)) ∈ GW := gw_t6 (List.mem_of_getElem? (i := 68) rfl) rfl
theorem gw1269 : (Jvm.Cond.static ({ cls := "SchemaDeskModel", name := "isDigit", desc := "(I)Z" } : Jvm.MethodName)) ∈ GW := gw_t6 (List.mem_of_getElem? (i := 69) rfl) rfl
theorem gw1270 : (Jvm.Cond.code ({ cls := "SchemaDeskModel", name := "isDigit", desc := "(I)Z" } : Jvm.MethodName) prog_12_method_18_code (1 : Nat) (Option.some Jvm.ClassFile.FieldType.boolean)) ∈ GW := gw_t6 (List.mem_of_getElem? (i := 70) rfl) rfl
theorem gw1271 : (Jvm.Cond.methodLink "SchemaDeskModel" (218 : Nat) ({ cls := "SchemaDeskModel", name := "isLetter", desc := "(I)Z" } : Jvm.MethodName)) ∈ GW := gw_t6 (List.mem_of_getElem? (i := 71) rfl) rfl
theorem gw1272 : (Jvm.Cond.static ({ cls := "SchemaDeskModel", name := "isLetter", desc := "(I)Z" } : Jvm.MethodName)) ∈ GW := gw_t6 (List.mem_of_getElem? (i := 72) rfl) rfl
theorem gw1273 : (Jvm.Cond.code ({ cls := "SchemaDeskModel", name := "isLetter", desc := "(I)Z" } : Jvm.MethodName) prog_12_method_19_code (1 : Nat) (Option.some Jvm.ClassFile.FieldType.boolean)) ∈ GW := gw_t6 (List.mem_of_getElem? (i := 73) rfl) rfl
def wq_Md_starts (σ : Sg) (post : Int32 → Sg → Prop) : Prop := (wq_Md_here  σ (fun r1 σ1 => ((r1 = (123 : Int32) → (((8 : Int32) ≤ (σ1.1 54 20) → (narrow .boolean (.int (0 : Int32)) = .int (0 : Int32) ∧ post (0 : Int32) σ1)) ∧ (¬ (8 : Int32) ≤ (σ1.1 54 20) → (narrow .boolean (.int (1 : Int32)) = .int (1 : Int32) ∧ post (1 : Int32) σ1)))) ∧ (¬ r1 = (123 : Int32) → ((¬ r1 = (91 : Int32) → ((r1 = (34 : Int32) → (narrow .boolean (.int (1 : Int32)) = .int (1 : Int32) ∧ post (1 : Int32) σ1)) ∧ (¬ r1 = (34 : Int32) → ((r1 = (45 : Int32) → (narrow .boolean (.int (1 : Int32)) = .int (1 : Int32) ∧ post (1 : Int32) σ1)) ∧ (¬ r1 = (45 : Int32) → (wq_Md_isDigit r1 σ1 (fun r2 σ2 => ((¬ r2 = 0 → (narrow .boolean (.int (1 : Int32)) = .int (1 : Int32) ∧ post (1 : Int32) σ2)) ∧ (r2 = 0 → (wq_Md_isLetter r1 σ2 (fun r3 σ3 => ((r3 = 0 → (narrow .boolean (.int (0 : Int32)) = .int (0 : Int32) ∧ post (0 : Int32) σ3)) ∧ (¬ r3 = 0 → (narrow .boolean (.int (1 : Int32)) = .int (1 : Int32) ∧ post (1 : Int32) σ3)))))))))))))) ∧ (r1 = (91 : Int32) → (((8 : Int32) ≤ (σ1.1 54 20) → (narrow .boolean (.int (0 : Int32)) = .int (0 : Int32) ∧ post (0 : Int32) σ1)) ∧ (¬ (8 : Int32) ≤ (σ1.1 54 20) → (narrow .boolean (.int (1 : Int32)) = .int (1 : Int32) ∧ post (1 : Int32) σ1)))))))))
set_option maxRecDepth 100000 in
set_option maxHeartbeats 4000000 in
theorem b_Md_starts_0 {p : Program} {l : Launch} {e : Env} {s : State} {m : MethodId} {args : Array Value} {below : List Frame} {meth : Method} {c : Code} {D : va_G} {g : Gm} {A : Nat → Prop} {post : Int32 → Sg → Prop} (C : kC p s m args meth c k_Md_starts 2 (some .boolean) GW R_Md D vwCl g (Zk g) A) (σ : Sg) (H : Heap) (locs : List Loc) (ls : Array Slot) (hl : lv_has ls 2 [(0, .ref (g.1 54))]) (hst : Wst D vwCl (WS g) A s σ H locs) (h : wq_Md_starts  σ post) : W p l e { frames := 1, cells := 0, slots := 0, locals := 20 } s m args below meth c H locs 0 0 (MQ below (QiW D vwCl (WS g) post A) args s 0 0 A) (F0 m 0 ls []) := by
  obtain ⟨hx, hb, hr, hml, hown, hts, hlocks, hK, hZ, hA⟩ := C
  unfold wq_Md_starts at h
  refine lv_aload_n hx hb d_Md_starts_0 rfl (lv_at hl 0 rfl) ?_
  refine kw_calli (va_runV (As := []) (rest := []) (b := g.1 54) ⟨hx, hb, hml, hown, hts⟩ (c_Md_here l h) (cwV 0 hts (gd_v gw1260 gw1262 gs49 gw15 gw1263) rfl rfl rfl (by decide +kernel) ⟨Nat.le_of_ble_eq_true rfl, Nat.le_of_ble_eq_true rfl⟩) ⟨kw_blind (Zk_ok g), va_recv hK hst.1 rfl (WS_o54 g σ), kw_pre (Zk_ok g) hK hZ hA hst⟩ rfl rfl hl.1 rfl (lv_room (Nat.le_of_ble_eq_true rfl)) d_Md_starts_1 ⟨Nat.le_of_ble_eq_true rfl, Nat.le_of_ble_eq_true rfl⟩) hst hA (fun r1 σ1 H locs h hst => ?_)
  refine lv_istore_n hx hb d_Md_starts_4 rfl hl (by decide) rfl (fun ls hl => ?_)
  have hl : lv_has ls 2 [(1, .int r1), (0, .ref (g.1 54))] := hl
  refine lv_iload_n hx hb d_Md_starts_5 rfl (lv_at hl 0 rfl) ?_
  refine lv_bipush (v := (123 : Int32)) hx hb d_Md_starts_6 (by decide) ?_
  refine lv_icmp_eq (tgt := 17) hx hb d_Md_starts_8 (by decide) (fun hc => ?_) (fun hc => ?_)
  · replace h := h.1 hc
    refine lv_aload_n hx hb d_Md_starts_17 rfl (lv_at hl 1 rfl) ?_
    refine va_get (D := D) (ci := 10) (C := R_Md) (T := T_Md) (N := 46) hx hb hts in_Md hown hK hst.1 54 (WS_o54 g σ1) rfl 20 (by decide) (hts _ gw1084) (fun _ h9 => h9) rfl d_Md_starts_18 ?_
    refine lv_bipush (v := (8 : Int32)) hx hb d_Md_starts_21 (by decide) ?_
    refine lv_icmp_ge (tgt := 30) hx hb d_Md_starts_23 (by decide) (fun hc => ?_) (fun hc => ?_)
    · replace h := h.1 hc
      refine lv_iconst (v := (0 : Int32)) hx hb d_Md_starts_30 (by decide) ?_
      exact kw_zret hx hb hr hlocks hst h d_Md_starts_31
    · replace h := h.2 hc
      refine lv_iconst (v := (1 : Int32)) hx hb d_Md_starts_26 (by decide) ?_
      refine lv_goto (tgt := 31) hx hb d_Md_starts_27 (by decide) ?_
      exact kw_zret hx hb hr hlocks hst h d_Md_starts_31
  · replace h := h.2 hc
    refine lv_iload_n hx hb d_Md_starts_11 rfl (lv_at hl 0 rfl) ?_
    refine lv_bipush (v := (91 : Int32)) hx hb d_Md_starts_12 (by decide) ?_
    refine lv_icmp_ne (tgt := 32) hx hb d_Md_starts_14 (by decide) (fun hc => ?_) (fun hc => ?_)
    · replace h := h.1 hc
      refine lv_iload_n hx hb d_Md_starts_32 rfl (lv_at hl 0 rfl) ?_
      refine lv_bipush (v := (34 : Int32)) hx hb d_Md_starts_33 (by decide) ?_
      refine lv_icmp_eq (tgt := 58) hx hb d_Md_starts_35 (by decide) (fun hc => ?_) (fun hc => ?_)
      · replace h := h.1 hc
        refine lv_iconst (v := (1 : Int32)) hx hb d_Md_starts_58 (by decide) ?_
        refine lv_goto (tgt := 63) hx hb d_Md_starts_59 (by decide) ?_
        exact kw_zret hx hb hr hlocks hst h d_Md_starts_63
      · replace h := h.2 hc
        refine lv_iload_n hx hb d_Md_starts_38 rfl (lv_at hl 0 rfl) ?_
        refine lv_bipush (v := (45 : Int32)) hx hb d_Md_starts_39 (by decide) ?_
        refine lv_icmp_eq (tgt := 58) hx hb d_Md_starts_41 (by decide) (fun hc => ?_) (fun hc => ?_)
        · replace h := h.1 hc
          refine lv_iconst (v := (1 : Int32)) hx hb d_Md_starts_58 (by decide) ?_
          refine lv_goto (tgt := 63) hx hb d_Md_starts_59 (by decide) ?_
          exact kw_zret hx hb hr hlocks hst h d_Md_starts_63
        · replace h := h.2 hc
          refine lv_iload_n hx hb d_Md_starts_44 rfl (lv_at hl 0 rfl) ?_
          refine kw_calli (va_runS (As := [.int r1]) (rest := []) ⟨hx, hb, hml, hown, hts⟩ (c_Md_isDigit l r1 h) (cwS 1 hts (gd_s gw1268 gw1269 gw15 gw1270) rfl rfl rfl (by decide +kernel) ⟨Nat.le_of_ble_eq_true rfl, Nat.le_of_ble_eq_true rfl⟩) ⟨kw_blind (Zk_ok g), kw_pre (Zk_ok g) hK hZ hA hst⟩ rfl rfl hl.1 rfl (lv_room (Nat.le_of_ble_eq_true rfl)) d_Md_starts_45 ⟨Nat.le_of_ble_eq_true rfl, Nat.le_of_ble_eq_true rfl⟩) hst hA (fun r2 σ2 H locs h hst => ?_)
          refine lv_if_ne (tgt := 58) hx hb d_Md_starts_48 (by decide) (fun hc => ?_) (fun hc => ?_)
          · replace h := h.1 hc
            refine lv_iconst (v := (1 : Int32)) hx hb d_Md_starts_58 (by decide) ?_
            refine lv_goto (tgt := 63) hx hb d_Md_starts_59 (by decide) ?_
            exact kw_zret hx hb hr hlocks hst h d_Md_starts_63
          · replace h := h.2 hc
            refine lv_iload_n hx hb d_Md_starts_51 rfl (lv_at hl 0 rfl) ?_
            refine kw_calli (va_runS (As := [.int r1]) (rest := []) ⟨hx, hb, hml, hown, hts⟩ (c_Md_isLetter l r1 h) (cwS 1 hts (gd_s gw1271 gw1272 gw15 gw1273) rfl rfl rfl (by decide +kernel) ⟨Nat.le_of_ble_eq_true rfl, Nat.le_of_ble_eq_true rfl⟩) ⟨kw_blind (Zk_ok g), kw_pre (Zk_ok g) hK hZ hA hst⟩ rfl rfl hl.1 rfl (lv_room (Nat.le_of_ble_eq_true rfl)) d_Md_starts_52 ⟨Nat.le_of_ble_eq_true rfl, Nat.le_of_ble_eq_true rfl⟩) hst hA (fun r3 σ3 H locs h hst => ?_)
            refine lv_if_eq (tgt := 62) hx hb d_Md_starts_55 (by decide) (fun hc => ?_) (fun hc => ?_)
            · replace h := h.1 hc
              refine lv_iconst (v := (0 : Int32)) hx hb d_Md_starts_62 (by decide) ?_
              exact kw_zret hx hb hr hlocks hst h d_Md_starts_63
            · replace h := h.2 hc
              refine lv_iconst (v := (1 : Int32)) hx hb d_Md_starts_58 (by decide) ?_
              refine lv_goto (tgt := 63) hx hb d_Md_starts_59 (by decide) ?_
              exact kw_zret hx hb hr hlocks hst h d_Md_starts_63
    · replace h := h.2 hc
      refine lv_aload_n hx hb d_Md_starts_17 rfl (lv_at hl 1 rfl) ?_
      refine va_get (D := D) (ci := 10) (C := R_Md) (T := T_Md) (N := 46) hx hb hts in_Md hown hK hst.1 54 (WS_o54 g σ1) rfl 20 (by decide) (hts _ gw1084) (fun _ h9 => h9) rfl d_Md_starts_18 ?_
      refine lv_bipush (v := (8 : Int32)) hx hb d_Md_starts_21 (by decide) ?_
      refine lv_icmp_ge (tgt := 30) hx hb d_Md_starts_23 (by decide) (fun hc => ?_) (fun hc => ?_)
      · replace h := h.1 hc
        refine lv_iconst (v := (0 : Int32)) hx hb d_Md_starts_30 (by decide) ?_
        exact kw_zret hx hb hr hlocks hst h d_Md_starts_31
      · replace h := h.2 hc
        refine lv_iconst (v := (1 : Int32)) hx hb d_Md_starts_26 (by decide) ?_
        refine lv_goto (tgt := 31) hx hb d_Md_starts_27 (by decide) ?_
        exact kw_zret hx hb hr hlocks hst h d_Md_starts_31
set_option maxRecDepth 100000 in
set_option maxHeartbeats 4000000 in
theorem c_Md_starts (l : Launch) {D : va_G} {g : Gm} {sz : Nat} {σ : Sg} {post : Int32 → Sg → Prop} (h : wq_Md_starts σ post) : Met l y_Md_starts (.code y_Md_starts k_Md_starts 2 (some .boolean) :: GW) { frames := 1, cells := 0, slots := 0, locals := 20 } (PcW D vwCl (WS g) g (Zk g) σ sz [.ref (g.1 54)]) (QiW D vwCl (WS g) post (va_A (WS g σ) sz)) 0 0 (va_A (WS g σ) sz) := by
  refine kw_entry (own := R_Md) (by decide) rfl rfl (Nat.le_of_ble_eq_true rfl) ?_
  intro p e s m below meth c ls hsz C hin hl hst
  exact b_Md_starts_0 C σ _ _ ls hl hst h
