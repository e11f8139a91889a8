/-! SchemaDesk.isText (I)Z -/
abbrev k_Sd_isText : ByteArray := prog_1_method_17_code
abbrev y_Sd_isText : MethodName := ⟨"SchemaDesk", "isText", "(I)Z"⟩
theorem d_Sd_isText_0 : decode k_Sd_isText 0 = .ok (.iload_n 0, 1) := by decide +kernel
theorem d_Sd_isText_1 : decode k_Sd_isText 1 = .ok (.ifCond .eq 8, 3) := by decide +kernel
theorem d_Sd_isText_4 : decode k_Sd_isText 4 = .ok (.iload_n 0, 1) := by decide +kernel
theorem d_Sd_isText_5 : decode k_Sd_isText 5 = .ok (.iconst 1, 1) := by decide +kernel
theorem d_Sd_isText_6 : decode k_Sd_isText 6 = .ok (.if_icmp .ne 7, 3) := by decide +kernel
theorem d_Sd_isText_9 : decode k_Sd_isText 9 = .ok (.iconst 1, 1) := by decide +kernel
theorem d_Sd_isText_10 : decode k_Sd_isText 10 = .ok (.goto 4, 3) := by decide +kernel
theorem d_Sd_isText_13 : decode k_Sd_isText 13 = .ok (.iconst 0, 1) := by decide +kernel
theorem d_Sd_isText_14 : decode k_Sd_isText 14 = .ok (.ireturn, 1) := by decide +kernel
def wq_Sd_isText (x0 : Int32) (σ : Sg) (post : Int32 → Sg → Prop) : Prop := ((x0 = 0 → (narrow .boolean (.int (1 : Int32)) = .int (1 : Int32) ∧ post (1 : Int32) σ)) ∧ (¬ x0 = 0 → ((¬ x0 = (1 : Int32) → (narrow .boolean (.int (0 : Int32)) = .int (0 : Int32) ∧ post (0 : Int32) σ)) ∧ (x0 = (1 : Int32) → (narrow .boolean (.int (1 : Int32)) = .int (1 : Int32) ∧ post (1 : Int32) σ)))))
set_option maxRecDepth 100000 in
set_option maxHeartbeats 4000000 in
theorem b_Sd_isText_0 {p : Program} {l : Launch} {e : Env} {s : State} {m : MethodId} {args : Array Value} {below : List Frame} {meth : Method} {c : Code} {D : va_G} {g : Gm} {A : Nat → Prop} {post : Int32 → Sg → Prop} (C : kC p s m args meth c k_Sd_isText 1 (some .boolean) GW R_Sd D vwCl g (Zk g) A) (x0 : Int32) (σ : Sg) (H : Heap) (locs : List Loc) (ls : Array Slot) (hl : lv_has ls 1 [(0, .int x0)]) (hst : Wst D vwCl (WS g) A s σ H locs) (h : wq_Sd_isText x0 σ post) : W p l e { frames := 0, cells := 0, slots := 0, locals := 0 } s m args below meth c H locs 0 0 (MQ below (QiW D vwCl (WS g) post A) args s 0 0 A) (F0 m 0 ls []) := by
  obtain ⟨hx, hb, hr, hml, hown, hts, hlocks, hK, hZ, hA⟩ := C
  unfold wq_Sd_isText at h
  refine lv_iload_n hx hb d_Sd_isText_0 rfl (lv_at hl 0 rfl) ?_
  refine lv_if_eq (tgt := 9) hx hb d_Sd_isText_1 (by decide) (fun hc => ?_) (fun hc => ?_)
  · replace h := h.1 hc
    refine lv_iconst (v := (1 : Int32)) hx hb d_Sd_isText_9 (by decide) ?_
    refine lv_goto (tgt := 14) hx hb d_Sd_isText_10 (by decide) ?_
    exact kw_zret hx hb hr hlocks hst h d_Sd_isText_14
  · replace h := h.2 hc
    refine lv_iload_n hx hb d_Sd_isText_4 rfl (lv_at hl 0 rfl) ?_
    refine lv_iconst (v := (1 : Int32)) hx hb d_Sd_isText_5 (by decide) ?_
    refine lv_icmp_ne (tgt := 13) hx hb d_Sd_isText_6 (by decide) (fun hc => ?_) (fun hc => ?_)
    · replace h := h.1 hc
      refine lv_iconst (v := (0 : Int32)) hx hb d_Sd_isText_13 (by decide) ?_
      exact kw_zret hx hb hr hlocks hst h d_Sd_isText_14
    · replace h := h.2 hc
      refine lv_iconst (v := (1 : Int32)) hx hb d_Sd_isText_9 (by decide) ?_
      refine lv_goto (tgt := 14) hx hb d_Sd_isText_10 (by decide) ?_
      exact kw_zret hx hb hr hlocks hst h d_Sd_isText_14
set_option maxRecDepth 100000 in
set_option maxHeartbeats 4000000 in
theorem c_Sd_isText (l : Launch) {D : va_G} {g : Gm} {sz : Nat} (x0 : Int32) {σ : Sg} {post : Int32 → Sg → Prop} (h : wq_Sd_isText x0 σ post) : Met l y_Sd_isText (.code y_Sd_isText k_Sd_isText 1 (some .boolean) :: GW) { frames := 0, cells := 0, slots := 0, locals := 0 } (PcW D vwCl (WS g) g (Zk g) σ sz [.int x0]) (QiW D vwCl (WS g) post (va_A (WS g σ) sz)) 0 0 (va_A (WS g σ) sz) := by
  refine kw_entry (own := R_Sd) (by decide) rfl rfl (Nat.le_of_ble_eq_true rfl) ?_
  intro p e s m below meth c ls hsz C hin hl hst
  exact b_Sd_isText_0 C x0 σ _ _ ls hl hst h
/-! SchemaDesk.isCharacter (C)Z -/
abbrev k_Sd_isCharacter : ByteArray := prog_1_method_18_code
abbrev y_Sd_isCharacter : MethodName := ⟨"SchemaDesk", "isCharacter", "(C)Z"⟩
theorem d_Sd_isCharacter_0 : decode k_Sd_isCharacter 0 = .ok (.iload_n 0, 1) := by decide +kernel
theorem d_Sd_isCharacter_1 : decode k_Sd_isCharacter 1 = .ok (.bipush 32, 2) := by decide +kernel
theorem d_Sd_isCharacter_3 : decode k_Sd_isCharacter 3 = .ok (.if_icmp .lt 13, 3) := by decide +kernel
theorem d_Sd_isCharacter_6 : decode k_Sd_isCharacter 6 = .ok (.iload_n 0, 1) := by decide +kernel
theorem d_Sd_isCharacter_7 : decode k_Sd_isCharacter 7 = .ok (.bipush 126, 2) := by decide +kernel
theorem d_Sd_isCharacter_9 : decode k_Sd_isCharacter 9 = .ok (.if_icmp .gt 7, 3) := by decide +kernel
theorem d_Sd_isCharacter_12 : decode k_Sd_isCharacter 12 = .ok (.iconst 1, 1) := by decide +kernel
theorem d_Sd_isCharacter_13 : decode k_Sd_isCharacter 13 = .ok (.goto 4, 3) := by decide +kernel
theorem d_Sd_isCharacter_16 : decode k_Sd_isCharacter 16 = .ok (.iconst 0, 1) := by decide +kernel
theorem d_Sd_isCharacter_17 : decode k_Sd_isCharacter 17 = .ok (.ireturn, 1) := by decide +kernel
def wq_Sd_isCharacter (x0 : Int32) (σ : Sg) (post : Int32 → Sg → Prop) : Prop := ((x0 < (32 : Int32) → (narrow .boolean (.int (0 : Int32)) = .int (0 : Int32) ∧ post (0 : Int32) σ)) ∧ (¬ x0 < (32 : Int32) → (((126 : Int32) < x0 → (narrow .boolean (.int (0 : Int32)) = .int (0 : Int32) ∧ post (0 : Int32) σ)) ∧ (¬ (126 : Int32) < x0 → (narrow .boolean (.int (1 : Int32)) = .int (1 : Int32) ∧ post (1 : Int32) σ)))))
set_option maxRecDepth 100000 in
set_option maxHeartbeats 4000000 in
theorem b_Sd_isCharacter_0 {p : Program} {l : Launch} {e : Env} {s : State} {m : MethodId} {args : Array Value} {below : List Frame} {meth : Method} {c : Code} {D : va_G} {g : Gm} {A : Nat → Prop} {post : Int32 → Sg → Prop} (C : kC p s m args meth c k_Sd_isCharacter 1 (some .boolean) GW R_Sd D vwCl g (Zk g) A) (x0 : Int32) (σ : Sg) (H : Heap) (locs : List Loc) (ls : Array Slot) (hl : lv_has ls 1 [(0, .int x0)]) (hst : Wst D vwCl (WS g) A s σ H locs) (h : wq_Sd_isCharacter x0 σ post) : W p l e { frames := 0, cells := 0, slots := 0, locals := 0 } s m args below meth c H locs 0 0 (MQ below (QiW D vwCl (WS g) post A) args s 0 0 A) (F0 m 0 ls []) := by
  obtain ⟨hx, hb, hr, hml, hown, hts, hlocks, hK, hZ, hA⟩ := C
  unfold wq_Sd_isCharacter at h
  refine lv_iload_n hx hb d_Sd_isCharacter_0 rfl (lv_at hl 0 rfl) ?_
  refine lv_bipush (v := (32 : Int32)) hx hb d_Sd_isCharacter_1 (by decide) ?_
  refine lv_icmp_lt (tgt := 16) hx hb d_Sd_isCharacter_3 (by decide) (fun hc => ?_) (fun hc => ?_)
  · replace h := h.1 hc
    refine lv_iconst (v := (0 : Int32)) hx hb d_Sd_isCharacter_16 (by decide) ?_
    exact kw_zret hx hb hr hlocks hst h d_Sd_isCharacter_17
  · replace h := h.2 hc
    refine lv_iload_n hx hb d_Sd_isCharacter_6 rfl (lv_at hl 0 rfl) ?_
    refine lv_bipush (v := (126 : Int32)) hx hb d_Sd_isCharacter_7 (by decide) ?_
    refine lv_icmp_gt (tgt := 16) hx hb d_Sd_isCharacter_9 (by decide) (fun hc => ?_) (fun hc => ?_)
    · replace h := h.1 hc
      refine lv_iconst (v := (0 : Int32)) hx hb d_Sd_isCharacter_16 (by decide) ?_
      exact kw_zret hx hb hr hlocks hst h d_Sd_isCharacter_17
    · replace h := h.2 hc
      refine lv_iconst (v := (1 : Int32)) hx hb d_Sd_isCharacter_12 (by decide) ?_
      refine lv_goto (tgt := 17) hx hb d_Sd_isCharacter_13 (by decide) ?_
      exact kw_zret hx hb hr hlocks hst h d_Sd_isCharacter_17
set_option maxRecDepth 100000 in
set_option maxHeartbeats 4000000 in
theorem c_Sd_isCharacter (l : Launch) {D : va_G} {g : Gm} {sz : Nat} (x0 : Int32) {σ : Sg} {post : Int32 → Sg → Prop} (h : wq_Sd_isCharacter x0 σ post) : Met l y_Sd_isCharacter (.code y_Sd_isCharacter k_Sd_isCharacter 1 (some .boolean) :: GW) { frames := 0, cells := 0, slots := 0, locals := 0 } (PcW D vwCl (WS g) g (Zk g) σ sz [.int x0]) (QiW D vwCl (WS g) post (va_A (WS g σ) sz)) 0 0 (va_A (WS g σ) sz) := by
  refine kw_entry (own := R_Sd) (by decide) rfl rfl (Nat.le_of_ble_eq_true rfl) ?_
  intro p e s m below meth c ls hsz C hin hl hst
  exact b_Sd_isCharacter_0 C x0 σ _ _ ls hl hst h
/-! SchemaDesk.textOf (I)LSchemaDesk$Text; -/
abbrev k_Sd_textOf : ByteArray := prog_1_method_19_code
abbrev y_Sd_textOf : MethodName := ⟨"SchemaDesk", "textOf", "(I)LSchemaDesk$Text;"⟩
theorem d_Sd_textOf_0 : decode k_Sd_textOf 0 = .ok (.iload_n 1, 1) := by decide +kernel
theorem d_Sd_textOf_1 : decode k_Sd_textOf 1 = .ok (.ifCond .ne 13, 3) := by decide +kernel
theorem d_Sd_textOf_4 : decode k_Sd_textOf 4 = .ok (.aload_n 0, 1) := by decide +kernel
theorem d_Sd_textOf_5 : decode k_Sd_textOf 5 = .ok (.getfield 26, 3) := by decide +kernel
theorem d_Sd_textOf_8 : decode k_Sd_textOf 8 = .ok (.getfield 205, 3) := by decide +kernel
theorem d_Sd_textOf_11 : decode k_Sd_textOf 11 = .ok (.goto 10, 3) := by decide +kernel
theorem d_Sd_textOf_14 : decode k_Sd_textOf 14 = .ok (.aload_n 0, 1) := by decide +kernel
theorem d_Sd_textOf_15 : decode k_Sd_textOf 15 = .ok (.getfield 30, 3) := by decide +kernel
theorem d_Sd_textOf_18 : decode k_Sd_textOf 18 = .ok (.getfield 205, 3) := by decide +kernel
theorem d_Sd_textOf_21 : decode k_Sd_textOf 21 = .ok (.areturn, 1) := by decide +kernel
theorem gw401 : (Jvm.Cond.fieldLink "SchemaDesk" (30 : Nat) "SchemaDesk" "document" "LSchemaDesk$Tree;") ∈ GW := gw_t2 (List.mem_of_getElem? (i := 161) rfl) rfl
theorem gw130 : (Jvm.Cond.fieldLink "SchemaDesk" (205 : Nat) "SchemaDesk$Tree" "text" "LSchemaDesk$Text;") ∈ GW := gw_t1 (List.mem_of_getElem? (i := 130) rfl) rfl
theorem gw400 : (Jvm.Cond.fieldLink "SchemaDesk" (26 : Nat) "SchemaDesk" "schema" "LSchemaDesk$Tree;") ∈ GW := gw_t2 (List.mem_of_getElem? (i := 160) rfl) rfl
def wq_Sd_textOf (x1 : Int32) (σ : Sg) (post : Nat → Sg → Prop) : Prop := ((¬ x1 = 0 → post 13 σ) ∧ (x1 = 0 → post 0 σ))
set_option maxRecDepth 100000 in
set_option maxHeartbeats 4000000 in
theorem b_Sd_textOf_0 {p : Program} {l : Launch} {e : Env} {s : State} {m : MethodId} {args : Array Value} {below : List Frame} {meth : Method} {c : Code} {D : va_G} {g : Gm} {A : Nat → Prop} {post : Nat → Sg → Prop} (C : kC p s m args meth c k_Sd_textOf 2 (some (.object "SchemaDesk$Text")) GW R_Sd D vwCl g (Zk g) A) (x1 : Int32) (σ : Sg) (H : Heap) (locs : List Loc) (ls : Array Slot) (hl : lv_has ls 2 [(0, .ref (g.1 51)), (1, .int x1)]) (hst : Wst D vwCl (WS g) A s σ H locs) (h : wq_Sd_textOf x1 σ post) : W p l e { frames := 0, cells := 0, slots := 0, locals := 0 } s m args below meth c H locs 0 0 (MQ below (QrW D vwCl (WS g) g 10 post A) args s 0 0 A) (F0 m 0 ls []) := by
  obtain ⟨hx, hb, hr, hml, hown, hts, hlocks, hK, hZ, hA⟩ := C
  unfold wq_Sd_textOf at h
  refine lv_iload_n hx hb d_Sd_textOf_0 rfl (lv_at hl 1 rfl) ?_
  refine lv_if_ne (tgt := 14) hx hb d_Sd_textOf_1 (by decide) (fun hc => ?_) (fun hc => ?_)
  · replace h := h.1 hc
    refine lv_aload_n hx hb d_Sd_textOf_14 rfl (lv_at hl 0 rfl) ?_
    refine va_get (D := D) (ci := 9) (C := R_Sd) (T := T_Sd) (N := 9) hx hb hts in_Sd hown hK hst.1 51 (WS_o51 g σ) rfl 2 (by decide) (hts _ gw401) (fun _ h9 => h9) rfl d_Sd_textOf_15 ?_
    refine va_get (D := D) (ci := 0) (C := R_Tr) (T := T_Tr) (N := 12) hx hb hts in_Tr hown hK hst.1 13 (WS_o13 g σ) rfl 0 (by decide) (hts _ gw130) (fun _ h9 => h9) rfl d_Sd_textOf_18 ?_
    exact kw_aret (k := 13) hx hb hr hlocks hst h rfl d_Sd_textOf_21
  · replace h := h.2 hc
    refine lv_aload_n hx hb d_Sd_textOf_4 rfl (lv_at hl 0 rfl) ?_
    refine va_get (D := D) (ci := 9) (C := R_Sd) (T := T_Sd) (N := 9) hx hb hts in_Sd hown hK hst.1 51 (WS_o51 g σ) rfl 1 (by decide) (hts _ gw400) (fun _ h9 => h9) rfl d_Sd_textOf_5 ?_
    refine va_get (D := D) (ci := 0) (C := R_Tr) (T := T_Tr) (N := 12) hx hb hts in_Tr hown hK hst.1 0 (WS_o0 g σ) rfl 0 (by decide) (hts _ gw130) (fun _ h9 => h9) rfl d_Sd_textOf_8 ?_
    refine lv_goto (tgt := 21) hx hb d_Sd_textOf_11 (by decide) ?_
    exact kw_aret (k := 0) hx hb hr hlocks hst h rfl d_Sd_textOf_21
set_option maxRecDepth 100000 in
set_option maxHeartbeats 4000000 in
theorem c_Sd_textOf (l : Launch) {D : va_G} {g : Gm} {sz : Nat} (x1 : Int32) {σ : Sg} {post : Nat → Sg → Prop} (h : wq_Sd_textOf x1 σ post) : Met l y_Sd_textOf (.code y_Sd_textOf k_Sd_textOf 2 (some (.object "SchemaDesk$Text")) :: GW) { frames := 0, cells := 0, slots := 0, locals := 0 } (PcW D vwCl (WS g) g (Zk g) σ sz [.ref (g.1 51), .int x1]) (QrW D vwCl (WS g) g 10 post (va_A (WS g σ) sz)) 0 0 (va_A (WS g σ) sz) := by
  refine kw_entry (own := R_Sd) (by decide) rfl rfl (Nat.le_of_ble_eq_true rfl) ?_
  intro p e s m below meth c ls hsz C hin hl hst
  exact b_Sd_textOf_0 C x1 σ _ _ ls hl hst h
/-! SchemaDesk.edited (I)V -/
abbrev k_Sd_edited : ByteArray := prog_1_method_21_code
abbrev y_Sd_edited : MethodName := ⟨"SchemaDesk", "edited", "(I)V"⟩
theorem d_Sd_edited_0 : decode k_Sd_edited 0 = .ok (.iload_n 1, 1) := by decide +kernel
theorem d_Sd_edited_1 : decode k_Sd_edited 1 = .ok (.ifCond .ne 22, 3) := by decide +kernel
theorem d_Sd_edited_4 : decode k_Sd_edited 4 = .ok (.aload_n 0, 1) := by decide +kernel
theorem d_Sd_edited_5 : decode k_Sd_edited 5 = .ok (.getfield 38, 3) := by decide +kernel
theorem d_Sd_edited_8 : decode k_Sd_edited 8 = .ok (.iconst 0, 1) := by decide +kernel
theorem d_Sd_edited_9 : decode k_Sd_edited 9 = .ok (.putfield 213, 3) := by decide +kernel
theorem d_Sd_edited_12 : decode k_Sd_edited 12 = .ok (.aload_n 0, 1) := by decide +kernel
theorem d_Sd_edited_13 : decode k_Sd_edited 13 = .ok (.getfield 48, 3) := by decide +kernel
theorem d_Sd_edited_16 : decode k_Sd_edited 16 = .ok (.iconst 0, 1) := by decide +kernel
theorem d_Sd_edited_17 : decode k_Sd_edited 17 = .ok (.putfield 216, 3) := by decide +kernel
theorem d_Sd_edited_20 : decode k_Sd_edited 20 = .ok (.goto 11, 3) := by decide +kernel
theorem d_Sd_edited_23 : decode k_Sd_edited 23 = .ok (.aload_n 0, 1) := by decide +kernel
theorem d_Sd_edited_24 : decode k_Sd_edited 24 = .ok (.getfield 42, 3) := by decide +kernel
theorem d_Sd_edited_27 : decode k_Sd_edited 27 = .ok (.iconst 0, 1) := by decide +kernel
theorem d_Sd_edited_28 : decode k_Sd_edited 28 = .ok (.putfield 213, 3) := by decide +kernel
theorem d_Sd_edited_31 : decode k_Sd_edited 31 = .ok (.aload_n 0, 1) := by decide +kernel
theorem d_Sd_edited_32 : decode k_Sd_edited 32 = .ok (.getfield 57, 3) := by decide +kernel
theorem d_Sd_edited_35 : decode k_Sd_edited 35 = .ok (.iconst 0, 1) := by decide +kernel
theorem d_Sd_edited_36 : decode k_Sd_edited 36 = .ok (.putfield 217, 3) := by decide +kernel
theorem d_Sd_edited_39 : decode k_Sd_edited 39 = .ok (.return_, 1) := by decide +kernel
theorem gw403 : (Jvm.Cond.fieldLink "SchemaDesk" (42 : Nat) "SchemaDesk" "documentReader" "LSchemaDesk$Reader;") ∈ GW := gw_t2 (List.mem_of_getElem? (i := 163) rfl) rfl
theorem gw211 : (Jvm.Cond.fieldLink "SchemaDesk" (213 : Nat) "SchemaDesk$Reader" "fresh" "Z") ∈ GW := gw_t1 (List.mem_of_getElem? (i := 211) rfl) rfl
theorem gw405 : (Jvm.Cond.fieldLink "SchemaDesk" (57 : Nat) "SchemaDesk" "verdicts" "LSchemaDesk$Verdicts;") ∈ GW := gw_t2 (List.mem_of_getElem? (i := 165) rfl) rfl
theorem gw309 : (Jvm.Cond.fieldLink "SchemaDesk" (217 : Nat) "SchemaDesk$Verdicts" "fresh" "Z") ∈ GW := gw_t2 (List.mem_of_getElem? (i := 69) rfl) rfl
theorem gw402 : (Jvm.Cond.fieldLink "SchemaDesk" (38 : Nat) "SchemaDesk" "schemaReader" "LSchemaDesk$Reader;") ∈ GW := gw_t2 (List.mem_of_getElem? (i := 162) rfl) rfl
theorem gw404 : (Jvm.Cond.fieldLink "SchemaDesk" (48 : Nat) "SchemaDesk" "plan" "LSchemaDesk$Plan;") ∈ GW := gw_t2 (List.mem_of_getElem? (i := 164) rfl) rfl
theorem gw235 : (Jvm.Cond.fieldLink "SchemaDesk" (216 : Nat) "SchemaDesk$Plan" "fresh" "Z") ∈ GW := gw_t1 (List.mem_of_getElem? (i := 235) rfl) rfl
def wq_Sd_edited (x1 : Int32) (σ : Sg) (post : Sg → Prop) : Prop := ((¬ x1 = 0 → (narrow .boolean (.int (0 : Int32)) = .int (0 : Int32) ∧ fits .boolean (.int (0 : Int32)) = true ∧ (∀ σ1, σ1 = si σ 25 1 (0 : Int32) → (narrow .boolean (.int (0 : Int32)) = .int (0 : Int32) ∧ fits .boolean (.int (0 : Int32)) = true ∧ (∀ σ2, σ2 = si σ1 35 3 (0 : Int32) → post σ2))))) ∧ (x1 = 0 → (narrow .boolean (.int (0 : Int32)) = .int (0 : Int32) ∧ fits .boolean (.int (0 : Int32)) = true ∧ (∀ σ1, σ1 = si σ 12 1 (0 : Int32) → (narrow .boolean (.int (0 : Int32)) = .int (0 : Int32) ∧ fits .boolean (.int (0 : Int32)) = true ∧ (∀ σ2, σ2 = si σ1 29 1 (0 : Int32) → (narrow .boolean (.int (0 : Int32)) = .int (0 : Int32) ∧ fits .boolean (.int (0 : Int32)) = true ∧ (∀ σ3, σ3 = si σ2 35 3 (0 : Int32) → post σ3))))))))
set_option maxRecDepth 100000 in
set_option maxHeartbeats 4000000 in
theorem b_Sd_edited_0 {p : Program} {l : Launch} {e : Env} {s : State} {m : MethodId} {args : Array Value} {below : List Frame} {meth : Method} {c : Code} {D : va_G} {g : Gm} {A : Nat → Prop} {post : Sg → Prop} (C : kC p s m args meth c k_Sd_edited 2 (none) GW R_Sd D vwCl g (Zk g) A) (x1 : Int32) (σ : Sg) (H : Heap) (locs : List Loc) (ls : Array Slot) (hl : lv_has ls 2 [(0, .ref (g.1 51)), (1, .int x1)]) (hst : Wst D vwCl (WS g) A s σ H locs) (h : wq_Sd_edited x1 σ post) : W p l e { frames := 0, cells := 0, slots := 0, locals := 0 } s m args below meth c H locs 0 0 (MQ below (QvW D vwCl (WS g) post A) args s 0 0 A) (F0 m 0 ls []) := by
  obtain ⟨hx, hb, hr, hml, hown, hts, hlocks, hK, hZ, hA⟩ := C
  unfold wq_Sd_edited at h
  refine lv_iload_n hx hb d_Sd_edited_0 rfl (lv_at hl 1 rfl) ?_
  refine lv_if_ne (tgt := 23) hx hb d_Sd_edited_1 (by decide) (fun hc => ?_) (fun hc => ?_)
  · replace h := h.1 hc
    refine lv_aload_n hx hb d_Sd_edited_23 rfl (lv_at hl 0 rfl) ?_
    refine va_get (D := D) (ci := 9) (C := R_Sd) (T := T_Sd) (N := 9) hx hb hts in_Sd hown hK hst.1 51 (WS_o51 g σ) rfl 4 (by decide) (hts _ gw403) (fun _ h9 => h9) rfl d_Sd_edited_24 ?_
    refine lv_iconst (v := (0 : Int32)) hx hb d_Sd_edited_27 (by decide) ?_
    obtain ⟨hn, hf, h⟩ := h
    refine kw_put (D := D) (ci := 2) (ty := .boolean) (C := R_Rd) (T := T_Rd) (N := 5) hx hb hts in_Rd ty_Rd ty_Rd_ok nm_Rd hown hK hst 25 (WS_o25 g σ) rfl 1 (by decide) (hts _ gw211) (fun _ h9 => h9) rfl (by decide +kernel) hn hf (Nat.le_of_ble_eq_true rfl) (WS_p25_1 g σ _) d_Sd_edited_28 (fun σ1 H locs e1 hst => ?_)
    replace h := h σ1 e1
    refine lv_aload_n hx hb d_Sd_edited_31 rfl (lv_at hl 0 rfl) ?_
    refine va_get (D := D) (ci := 9) (C := R_Sd) (T := T_Sd) (N := 9) hx hb hts in_Sd hown hK hst.1 51 (WS_o51 g σ1) rfl 6 (by decide) (hts _ gw405) (fun _ h9 => h9) rfl d_Sd_edited_32 ?_
    refine lv_iconst (v := (0 : Int32)) hx hb d_Sd_edited_35 (by decide) ?_
    obtain ⟨hn, hf, h⟩ := h
    refine kw_put (D := D) (ci := 6) (ty := .boolean) (C := R_Vd) (T := T_Vd) (N := 6) hx hb hts in_Vd ty_Vd ty_Vd_ok nm_Vd hown hK hst 35 (WS_o35 g σ1) rfl 3 (by decide) (hts _ gw309) (fun _ h9 => h9) rfl (by decide +kernel) hn hf (Nat.le_of_ble_eq_true rfl) (WS_p35_3 g σ1 _) d_Sd_edited_36 (fun σ2 H locs e2 hst => ?_)
    replace h := h σ2 e2
    exact kw_vret hx hb hr hlocks hst h d_Sd_edited_39
  · replace h := h.2 hc
    refine lv_aload_n hx hb d_Sd_edited_4 rfl (lv_at hl 0 rfl) ?_
    refine va_get (D := D) (ci := 9) (C := R_Sd) (T := T_Sd) (N := 9) hx hb hts in_Sd hown hK hst.1 51 (WS_o51 g σ) rfl 3 (by decide) (hts _ gw402) (fun _ h9 => h9) rfl d_Sd_edited_5 ?_
    refine lv_iconst (v := (0 : Int32)) hx hb d_Sd_edited_8 (by decide) ?_
    obtain ⟨hn, hf, h⟩ := h
    refine kw_put (D := D) (ci := 2) (ty := .boolean) (C := R_Rd) (T := T_Rd) (N := 5) hx hb hts in_Rd ty_Rd ty_Rd_ok nm_Rd hown hK hst 12 (WS_o12 g σ) rfl 1 (by decide) (hts _ gw211) (fun _ h9 => h9) rfl (by decide +kernel) hn hf (Nat.le_of_ble_eq_true rfl) (WS_p12_1 g σ _) d_Sd_edited_9 (fun σ1 H locs e1 hst => ?_)
    replace h := h σ1 e1
    refine lv_aload_n hx hb d_Sd_edited_12 rfl (lv_at hl 0 rfl) ?_
    refine va_get (D := D) (ci := 9) (C := R_Sd) (T := T_Sd) (N := 9) hx hb hts in_Sd hown hK hst.1 51 (WS_o51 g σ1) rfl 5 (by decide) (hts _ gw404) (fun _ h9 => h9) rfl d_Sd_edited_13 ?_
    refine lv_iconst (v := (0 : Int32)) hx hb d_Sd_edited_16 (by decide) ?_
    obtain ⟨hn, hf, h⟩ := h
    refine kw_put (D := D) (ci := 5) (ty := .boolean) (C := R_Pl) (T := T_Pl) (N := 10) hx hb hts in_Pl ty_Pl ty_Pl_ok nm_Pl hown hK hst 29 (WS_o29 g σ1) rfl 1 (by decide) (hts _ gw235) (fun _ h9 => h9) rfl (by decide +kernel) hn hf (Nat.le_of_ble_eq_true rfl) (WS_p29_1 g σ1 _) d_Sd_edited_17 (fun σ2 H locs e2 hst => ?_)
    replace h := h σ2 e2
    refine lv_goto (tgt := 31) hx hb d_Sd_edited_20 (by decide) ?_
    refine lv_aload_n hx hb d_Sd_edited_31 rfl (lv_at hl 0 rfl) ?_
    refine va_get (D := D) (ci := 9) (C := R_Sd) (T := T_Sd) (N := 9) hx hb hts in_Sd hown hK hst.1 51 (WS_o51 g σ2) rfl 6 (by decide) (hts _ gw405) (fun _ h9 => h9) rfl d_Sd_edited_32 ?_
    refine lv_iconst (v := (0 : Int32)) hx hb d_Sd_edited_35 (by decide) ?_
    obtain ⟨hn, hf, h⟩ := h
    refine kw_put (D := D) (ci := 6) (ty := .boolean) (C := R_Vd) (T := T_Vd) (N := 6) hx hb hts in_Vd ty_Vd ty_Vd_ok nm_Vd hown hK hst 35 (WS_o35 g σ2) rfl 3 (by decide) (hts _ gw309) (fun _ h9 => h9) rfl (by decide +kernel) hn hf (Nat.le_of_ble_eq_true rfl) (WS_p35_3 g σ2 _) d_Sd_edited_36 (fun σ3 H locs e3 hst => ?_)
    replace h := h σ3 e3
    exact kw_vret hx hb hr hlocks hst h d_Sd_edited_39
set_option maxRecDepth 100000 in
set_option maxHeartbeats 4000000 in
theorem c_Sd_edited (l : Launch) {D : va_G} {g : Gm} {sz : Nat} (x1 : Int32) {σ : Sg} {post : Sg → Prop} (h : wq_Sd_edited x1 σ post) : Met l y_Sd_edited (.code y_Sd_edited k_Sd_edited 2 (none) :: GW) { frames := 0, cells := 0, slots := 0, locals := 0 } (PcW D vwCl (WS g) g (Zk g) σ sz [.ref (g.1 51), .int x1]) (QvW D vwCl (WS g) post (va_A (WS g σ) sz)) 0 0 (va_A (WS g σ) sz) := by
  refine kw_entry (own := R_Sd) (by decide) rfl rfl (Nat.le_of_ble_eq_true rfl) ?_
  intro p e s m below meth c ls hsz C hin hl hst
  exact b_Sd_edited_0 C x1 σ _ _ ls hl hst h
/-! SchemaDesk$Proposals.characterOf (II)I -/
abbrev k_Pr_characterOf : ByteArray := prog_4_method_2_code
abbrev y_Pr_characterOf : MethodName := ⟨"SchemaDesk$Proposals", "characterOf", "(II)I"⟩
theorem d_Pr_characterOf_0 : decode k_Pr_characterOf 0 = .ok (.iload_n 2, 1) := by decide +kernel
theorem d_Pr_characterOf_1 : decode k_Pr_characterOf 1 = .ok (.aload_n 0, 1) := by decide +kernel
theorem d_Pr_characterOf_2 : decode k_Pr_characterOf 2 = .ok (.getfield 15, 3) := by decide +kernel
theorem d_Pr_characterOf_5 : decode k_Pr_characterOf 5 = .ok (.iload_n 1, 1) := by decide +kernel
theorem d_Pr_characterOf_6 : decode k_Pr_characterOf 6 = .ok (.iconst 1, 1) := by decide +kernel
theorem d_Pr_characterOf_7 : decode k_Pr_characterOf 7 = .ok (.iadd, 1) := by decide +kernel
theorem d_Pr_characterOf_8 : decode k_Pr_characterOf 8 = .ok (.iaload, 1) := by decide +kernel
theorem d_Pr_characterOf_9 : decode k_Pr_characterOf 9 = .ok (.aload_n 0, 1) := by decide +kernel
theorem d_Pr_characterOf_10 : decode k_Pr_characterOf 10 = .ok (.getfield 15, 3) := by decide +kernel
theorem d_Pr_characterOf_13 : decode k_Pr_characterOf 13 = .ok (.iload_n 1, 1) := by decide +kernel
theorem d_Pr_characterOf_14 : decode k_Pr_characterOf 14 = .ok (.iaload, 1) := by decide +kernel
theorem d_Pr_characterOf_15 : decode k_Pr_characterOf 15 = .ok (.isub, 1) := by decide +kernel
theorem d_Pr_characterOf_16 : decode k_Pr_characterOf 16 = .ok (.if_icmp .ge 19, 3) := by decide +kernel
theorem d_Pr_characterOf_19 : decode k_Pr_characterOf 19 = .ok (.aload_n 0, 1) := by decide +kernel
theorem d_Pr_characterOf_20 : decode k_Pr_characterOf 20 = .ok (.getfield 9, 3) := by decide +kernel
theorem d_Pr_characterOf_23 : decode k_Pr_characterOf 23 = .ok (.aload_n 0, 1) := by decide +kernel
theorem d_Pr_characterOf_24 : decode k_Pr_characterOf 24 = .ok (.getfield 15, 3) := by decide +kernel
theorem d_Pr_characterOf_27 : decode k_Pr_characterOf 27 = .ok (.iload_n 1, 1) := by decide +kernel
theorem d_Pr_characterOf_28 : decode k_Pr_characterOf 28 = .ok (.iaload, 1) := by decide +kernel
theorem d_Pr_characterOf_29 : decode k_Pr_characterOf 29 = .ok (.iload_n 2, 1) := by decide +kernel
theorem d_Pr_characterOf_30 : decode k_Pr_characterOf 30 = .ok (.iadd, 1) := by decide +kernel
theorem d_Pr_characterOf_31 : decode k_Pr_characterOf 31 = .ok (.caload, 1) := by decide +kernel
theorem d_Pr_characterOf_32 : decode k_Pr_characterOf 32 = .ok (.goto 4, 3) := by decide +kernel
theorem d_Pr_characterOf_35 : decode k_Pr_characterOf 35 = .ok (.iconst (-1), 1) := by decide +kernel
theorem d_Pr_characterOf_36 : decode k_Pr_characterOf 36 = .ok (.ireturn, 1) := by decide +kernel
theorem gw370 : (Jvm.Cond.fieldLink "SchemaDesk$Proposals" (15 : Nat) "SchemaDesk$Proposals" "starts" "[I") ∈ GW := gw_t2 (List.mem_of_getElem? (i := 130) rfl) rfl
theorem gw369 : (Jvm.Cond.fieldLink "SchemaDesk$Proposals" (9 : Nat) "SchemaDesk$Proposals" "letters" "[C") ∈ GW := gw_t2 (List.mem_of_getElem? (i := 129) rfl) rfl
def wq_Pr_characterOf (x1 : Int32) (x2 : Int32) (σ : Sg) (post : Int32 → Sg → Prop) : Prop := (vp_in (x1 + (1 : Int32)) 161 ∧ (vp_in x1 161 ∧ ((((σ.1 47 ((x1 + (1 : Int32)) : Int32).toNatClampNeg) - (σ.1 47 x1.toNatClampNeg)) ≤ x2 → post (-1 : Int32) σ) ∧ (¬ ((σ.1 47 ((x1 + (1 : Int32)) : Int32).toNatClampNeg) - (σ.1 47 x1.toNatClampNeg)) ≤ x2 → (vp_in x1 161 ∧ (vp_in ((σ.1 47 x1.toNatClampNeg) + x2) 160 ∧ post (σ.1 46 (((σ.1 47 x1.toNatClampNeg) + x2) : Int32).toNatClampNeg) σ))))))
set_option maxRecDepth 100000 in
set_option maxHeartbeats 4000000 in
theorem b_Pr_characterOf_0 {p : Program} {l : Launch} {e : Env} {s : State} {m : MethodId} {args : Array Value} {below : List Frame} {meth : Method} {c : Code} {D : va_G} {g : Gm} {A : Nat → Prop} {post : Int32 → Sg → Prop} (C : kC p s m args meth c k_Pr_characterOf 3 (some .int) GW R_Pr D vwCl g (Zk g) A) (x1 : Int32) (x2 : Int32) (σ : Sg) (H : Heap) (locs : List Loc) (ls : Array Slot) (hl : lv_has ls 3 [(0, .ref (g.1 45)), (1, .int x1), (2, .int x2)]) (hst : Wst D vwCl (WS g) A s σ H locs) (h : wq_Pr_characterOf x1 x2 σ post) : W p l e { frames := 0, cells := 0, slots := 0, locals := 0 } s m args below meth c H locs 0 0 (MQ below (QiW D vwCl (WS g) post A) args s 0 0 A) (F0 m 0 ls []) := by
  obtain ⟨hx, hb, hr, hml, hown, hts, hlocks, hK, hZ, hA⟩ := C
  unfold wq_Pr_characterOf at h
  refine lv_iload_n hx hb d_Pr_characterOf_0 rfl (lv_at hl 2 rfl) ?_
  refine lv_aload_n hx hb d_Pr_characterOf_1 rfl (lv_at hl 0 rfl) ?_
  refine va_get (D := D) (ci := 8) (C := R_Pr) (T := T_Pr) (N := 10) hx hb hts in_Pr hown hK hst.1 45 (WS_o45 g σ) rfl 2 (by decide) (hts _ gw370) (fun _ h9 => h9) rfl d_Pr_characterOf_2 ?_
  refine lv_iload_n hx hb d_Pr_characterOf_5 rfl (lv_at hl 1 rfl) ?_
  refine lv_iconst (v := (1 : Int32)) hx hb d_Pr_characterOf_6 (by decide) ?_
  refine lv_iadd hx hb d_Pr_characterOf_7 ?_
  obtain ⟨hi, h⟩ := h
  refine va_iald hx hb hK hst.1 47 0 (WS_a47 g σ) rfl hi d_Pr_characterOf_8 ?_
  refine lv_aload_n hx hb d_Pr_characterOf_9 rfl (lv_at hl 0 rfl) ?_
  refine va_get (D := D) (ci := 8) (C := R_Pr) (T := T_Pr) (N := 10) hx hb hts in_Pr hown hK hst.1 45 (WS_o45 g σ) rfl 2 (by decide) (hts _ gw370) (fun _ h9 => h9) rfl d_Pr_characterOf_10 ?_
  refine lv_iload_n hx hb d_Pr_characterOf_13 rfl (lv_at hl 1 rfl) ?_
  obtain ⟨hi, h⟩ := h
  refine va_iald hx hb hK hst.1 47 0 (WS_a47 g σ) rfl hi d_Pr_characterOf_14 ?_
  refine lv_isub hx hb d_Pr_characterOf_15 ?_
  refine lv_icmp_ge (tgt := 35) hx hb d_Pr_characterOf_16 (by decide) (fun hc => ?_) (fun hc => ?_)
  · replace h := h.1 hc
    refine lv_iconst (v := (-1 : Int32)) hx hb d_Pr_characterOf_35 (by decide) ?_
    exact kw_iret hx hb hr hlocks hst h d_Pr_characterOf_36
  · replace h := h.2 hc
    refine lv_aload_n hx hb d_Pr_characterOf_19 rfl (lv_at hl 0 rfl) ?_
    refine va_get (D := D) (ci := 8) (C := R_Pr) (T := T_Pr) (N := 10) hx hb hts in_Pr hown hK hst.1 45 (WS_o45 g σ) rfl 1 (by decide) (hts _ gw369) (fun _ h9 => h9) rfl d_Pr_characterOf_20 ?_
    refine lv_aload_n hx hb d_Pr_characterOf_23 rfl (lv_at hl 0 rfl) ?_
    refine va_get (D := D) (ci := 8) (C := R_Pr) (T := T_Pr) (N := 10) hx hb hts in_Pr hown hK hst.1 45 (WS_o45 g σ) rfl 2 (by decide) (hts _ gw370) (fun _ h9 => h9) rfl d_Pr_characterOf_24 ?_
    refine lv_iload_n hx hb d_Pr_characterOf_27 rfl (lv_at hl 1 rfl) ?_
    obtain ⟨hi, h⟩ := h
    refine va_iald hx hb hK hst.1 47 0 (WS_a47 g σ) rfl hi d_Pr_characterOf_28 ?_
    refine lv_iload_n hx hb d_Pr_characterOf_29 rfl (lv_at hl 2 rfl) ?_
    refine lv_iadd hx hb d_Pr_characterOf_30 ?_
    obtain ⟨hi, h⟩ := h
    refine va_cald hx hb hK hst.1 46 1 (WS_a46 g σ) rfl hi d_Pr_characterOf_31 ?_
    refine lv_goto (tgt := 36) hx hb d_Pr_characterOf_32 (by decide) ?_
    exact kw_iret hx hb hr hlocks hst h d_Pr_characterOf_36
set_option maxRecDepth 100000 in
set_option maxHeartbeats 4000000 in
theorem c_Pr_characterOf (l : Launch) {D : va_G} {g : Gm} {sz : Nat} (x1 : Int32) (x2 : Int32) {σ : Sg} {post : Int32 → Sg → Prop} (h : wq_Pr_characterOf x1 x2 σ post) : Met l y_Pr_characterOf (.code y_Pr_characterOf k_Pr_characterOf 3 (some .int) :: GW) { frames := 0, cells := 0, slots := 0, locals := 0 } (PcW D vwCl (WS g) g (Zk g) σ sz [.ref (g.1 45), .int x1, .int x2]) (QiW D vwCl (WS g) post (va_A (WS g σ) sz)) 0 0 (va_A (WS g σ) sz) := by
  refine kw_entry (own := R_Pr) (by decide) rfl rfl (Nat.le_of_ble_eq_true rfl) ?_
  intro p e s m below meth c ls hsz C hin hl hst
  exact b_Pr_characterOf_0 C x1 x2 σ _ _ ls hl hst h
/-! SchemaDesk$Proposals.reachInside (II)V -/
abbrev k_Pr_reachInside : ByteArray := prog_4_method_7_code
abbrev y_Pr_reachInside : MethodName := ⟨"SchemaDesk$Proposals", "reachInside", "(II)V"⟩
theorem d_Pr_reachInside_0 : decode k_Pr_reachInside 0 = .ok (.aload_n 0, 1) := by decide +kernel
theorem d_Pr_reachInside_1 : decode k_Pr_reachInside 1 = .ok (.getfield 44, 3) := by decide +kernel
theorem d_Pr_reachInside_4 : decode k_Pr_reachInside 4 = .ok (.getfield 113, 3) := by decide +kernel
theorem d_Pr_reachInside_7 : decode k_Pr_reachInside 7 = .ok (.iload_n 1, 1) := by decide +kernel
theorem d_Pr_reachInside_8 : decode k_Pr_reachInside 8 = .ok (.iaload, 1) := by decide +kernel
theorem d_Pr_reachInside_9 : decode k_Pr_reachInside 9 = .ok (.iconst 5, 1) := by decide +kernel
theorem d_Pr_reachInside_10 : decode k_Pr_reachInside 10 = .ok (.if_icmp .eq 4, 3) := by decide +kernel
theorem d_Pr_reachInside_13 : decode k_Pr_reachInside 13 = .ok (.return_, 1) := by decide +kernel
theorem d_Pr_reachInside_14 : decode k_Pr_reachInside 14 = .ok (.iconst 0, 1) := by decide +kernel
theorem d_Pr_reachInside_15 : decode k_Pr_reachInside 15 = .ok (.istore_n 3, 1) := by decide +kernel
theorem d_Pr_reachInside_16 : decode k_Pr_reachInside 16 = .ok (.iload_n 1, 1) := by decide +kernel
theorem d_Pr_reachInside_17 : decode k_Pr_reachInside 17 = .ok (.iconst 1, 1) := by decide +kernel
theorem d_Pr_reachInside_18 : decode k_Pr_reachInside 18 = .ok (.iadd, 1) := by decide +kernel
theorem d_Pr_reachInside_19 : decode k_Pr_reachInside 19 = .ok (.istore 4, 2) := by decide +kernel
theorem d_Pr_reachInside_21 : decode k_Pr_reachInside 21 = .ok (.iload_n 3, 1) := by decide +kernel
theorem d_Pr_reachInside_22 : decode k_Pr_reachInside 22 = .ok (.aload_n 0, 1) := by decide +kernel
theorem d_Pr_reachInside_23 : decode k_Pr_reachInside 23 = .ok (.getfield 44, 3) := by decide +kernel
theorem d_Pr_reachInside_26 : decode k_Pr_reachInside 26 = .ok (.getfield 88, 3) := by decide +kernel
theorem d_Pr_reachInside_29 : decode k_Pr_reachInside 29 = .ok (.iload_n 1, 1) := by decide +kernel
theorem d_Pr_reachInside_30 : decode k_Pr_reachInside 30 = .ok (.iaload, 1) := by decide +kernel
theorem d_Pr_reachInside_31 : decode k_Pr_reachInside 31 = .ok (.if_icmp .ge 31, 3) := by decide +kernel
theorem d_Pr_reachInside_34 : decode k_Pr_reachInside 34 = .ok (.aload_n 0, 1) := by decide +kernel
theorem d_Pr_reachInside_35 : decode k_Pr_reachInside 35 = .ok (.getfield 25, 3) := by decide +kernel
theorem d_Pr_reachInside_38 : decode k_Pr_reachInside 38 = .ok (.iload 4, 2) := by decide +kernel
theorem d_Pr_reachInside_40 : decode k_Pr_reachInside 40 = .ok (.iload_n 2, 1) := by decide +kernel
theorem d_Pr_reachInside_41 : decode k_Pr_reachInside 41 = .ok (.invokevirtual 82, 3) := by decide +kernel
theorem d_Pr_reachInside_44 : decode k_Pr_reachInside 44 = .ok (.iinc 3 1, 3) := by decide +kernel
theorem d_Pr_reachInside_47 : decode k_Pr_reachInside 47 = .ok (.aload_n 0, 1) := by decide +kernel
theorem d_Pr_reachInside_48 : decode k_Pr_reachInside 48 = .ok (.getfield 44, 3) := by decide +kernel
theorem d_Pr_reachInside_51 : decode k_Pr_reachInside 51 = .ok (.getfield 106, 3) := by decide +kernel
theorem d_Pr_reachInside_54 : decode k_Pr_reachInside 54 = .ok (.iload 4, 2) := by decide +kernel
theorem d_Pr_reachInside_56 : decode k_Pr_reachInside 56 = .ok (.iaload, 1) := by decide +kernel
theorem d_Pr_reachInside_57 : decode k_Pr_reachInside 57 = .ok (.istore 4, 2) := by decide +kernel
theorem d_Pr_reachInside_59 : decode k_Pr_reachInside 59 = .ok (.goto (-38), 3) := by decide +kernel
theorem d_Pr_reachInside_62 : decode k_Pr_reachInside 62 = .ok (.return_, 1) := by decide +kernel
theorem gw375 : (Jvm.Cond.fieldLink "SchemaDesk$Proposals" (44 : Nat) "SchemaDesk$Proposals" "schema" "LSchemaDesk$Tree;") ∈ GW := gw_t2 (List.mem_of_getElem? (i := 135) rfl) rfl
theorem gw134 : (Jvm.Cond.fieldLink "SchemaDesk$Proposals" (113 : Nat) "SchemaDesk$Tree" "kind" "[I") ∈ GW := gw_t1 (List.mem_of_getElem? (i := 134) rfl) rfl
theorem gw151 : (Jvm.Cond.fieldLink "SchemaDesk$Proposals" (88 : Nat) "SchemaDesk$Tree" "children" "[I") ∈ GW := gw_t1 (List.mem_of_getElem? (i := 151) rfl) rfl
theorem gw377 : (Jvm.Cond.fieldLink "SchemaDesk$Proposals" (25 : Nat) "SchemaDesk$Proposals" "reached" "LSchemaDesk$Marks;") ∈ GW := gw_t2 (List.mem_of_getElem? (i := 137) rfl) rfl
theorem gw985 : (Jvm.Cond.methodLink "SchemaDesk$Proposals" (82 : Nat) ({ cls := "SchemaDesk$Marks", name := "put", desc := "(II)V" } : Jvm.MethodName)) ∈ GW := gw_t5 (List.mem_of_getElem? (i := 25) rfl) rfl
theorem gw166 : (Jvm.Cond.fieldLink "SchemaDesk$Proposals" (106 : Nat) "SchemaDesk$Tree" "behind" "[I") ∈ GW := gw_t1 (List.mem_of_getElem? (i := 166) rfl) rfl
def wb_Pr_reachInside_0 (F : Nat → Int32 → Int32 → Int32 → Int32 → Sg → Prop) (post : Sg → Prop) (x1 : Int32) (x2 : Int32) (σ : Sg) : Prop := (vp_in x1 160 ∧ (((σ.1 1 x1.toNatClampNeg) = (5 : Int32) → F 1 x1 x2 (0 : Int32) (x1 + (1 : Int32)) σ) ∧ (¬ (σ.1 1 x1.toNatClampNeg) = (5 : Int32) → post σ)))
def wb_Pr_reachInside_1 (F : Nat → Int32 → Int32 → Int32 → Int32 → Sg → Prop) (post : Sg → Prop) (x1 : Int32) (x2 : Int32) (x3 : Int32) (x4 : Int32) (σ : Sg) : Prop := (vp_in x1 160 ∧ (((σ.1 5 x1.toNatClampNeg) ≤ x3 → post σ) ∧ (¬ (σ.1 5 x1.toNatClampNeg) ≤ x3 → (wq_Mk_put 49 x4 x2 σ (fun σ1 => (vp_in x4 160 ∧ F 1 x1 x2 (x3 + 1) (σ1.1 8 x4.toNatClampNeg) σ1))))))
def wp_Pr_reachInside (post : Sg → Prop) : Nat → Nat → Int32 → Int32 → Int32 → Int32 → Sg → Prop
  | 0, _, _, _, _, _, _ => False
  | n + 1, k, x1, x2, x3, x4, σ => match k with
    | 0 => wb_Pr_reachInside_0 (wp_Pr_reachInside post n) post x1 x2 σ
    | 1 => wb_Pr_reachInside_1 (wp_Pr_reachInside post n) post x1 x2 x3 x4 σ
    | _ => False
def wq_Pr_reachInside (x1 : Int32) (x2 : Int32) (σ : Sg) (post : Sg → Prop) : Prop := ∃ n, wp_Pr_reachInside post n 0 x1 x2 0 0 σ
def J_Pr_reachInside_1 (p : Program) (l : Launch) (e : Env) (s : State) (m : MethodId) (args : Array Value) (below : List Frame) (meth : Method) (c : Code) (D : va_G) (g : Gm) (A : Nat → Prop) (post : Sg → Prop) (F : Nat → Int32 → Int32 → Int32 → Int32 → Sg → Prop) : Prop := ∀ (x1 : Int32) (x2 : Int32) (x3 : Int32) (x4 : Int32) (σ : Sg) (H : Heap) (locs : List Loc) (ls : Array Slot), lv_has ls 5 [(0, .ref (g.1 45)), (1, .int x1), (2, .int x2), (3, .int x3), (4, .int x4)] → Wst D vwCl (WS g) A s σ H locs → F 1 x1 x2 x3 x4 σ → W p l e { frames := 1, cells := 0, slots := 0, locals := 22 } s m args below meth c H locs 0 0 (MQ below (QvW D vwCl (WS g) post A) args s 0 0 A) (F0 m 21 ls [])
set_option maxRecDepth 100000 in
set_option maxHeartbeats 4000000 in
theorem b_Pr_reachInside_0 {p : Program} {l : Launch} {e : Env} {s : State} {m : MethodId} {args : Array Value} {below : List Frame} {meth : Method} {c : Code} {D : va_G} {g : Gm} {A : Nat → Prop} {post : Sg → Prop} {F : Nat → Int32 → Int32 → Int32 → Int32 → Sg → Prop} (C : kC p s m args meth c k_Pr_reachInside 5 (none) GW R_Pr D vwCl g (Zk g) A) (j1 : J_Pr_reachInside_1 p l e s m args below meth c D g A post F) (x1 : Int32) (x2 : Int32) (σ : Sg) (H : Heap) (locs : List Loc) (ls : Array Slot) (hl : lv_has ls 5 [(0, .ref (g.1 45)), (1, .int x1), (2, .int x2)]) (hst : Wst D vwCl (WS g) A s σ H locs) (h : wb_Pr_reachInside_0 F post x1 x2 σ) : W p l e { frames := 1, cells := 0, slots := 0, locals := 22 } s m args below meth c H locs 0 0 (MQ below (QvW D vwCl (WS g) post A) args s 0 0 A) (F0 m 0 ls []) := by
  obtain ⟨hx, hb, hr, hml, hown, hts, hlocks, hK, hZ, hA⟩ := C
  unfold wb_Pr_reachInside_0 at h
  refine lv_aload_n hx hb d_Pr_reachInside_0 rfl (lv_at hl 0 rfl) ?_
  refine va_get (D := D) (ci := 8) (C := R_Pr) (T := T_Pr) (N := 10) hx hb hts in_Pr hown hK hst.1 45 (WS_o45 g σ) rfl 7 (by decide) (hts _ gw375) (fun _ h9 => h9) rfl d_Pr_reachInside_1 ?_
  refine va_get (D := D) (ci := 0) (C := R_Tr) (T := T_Tr) (N := 12) hx hb hts in_Tr hown hK hst.1 0 (WS_o0 g σ) rfl 1 (by decide) (hts _ gw134) (fun _ h9 => h9) rfl d_Pr_reachInside_4 ?_
  refine lv_iload_n hx hb d_Pr_reachInside_7 rfl (lv_at hl 1 rfl) ?_
  obtain ⟨hi, h⟩ := h
  refine va_iald hx hb hK hst.1 1 0 (WS_a1 g σ) rfl hi d_Pr_reachInside_8 ?_
  refine lv_iconst (v := (5 : Int32)) hx hb d_Pr_reachInside_9 (by decide) ?_
  refine lv_icmp_eq (tgt := 14) hx hb d_Pr_reachInside_10 (by decide) (fun hc => ?_) (fun hc => ?_)
  · replace h := h.1 hc
    refine lv_iconst (v := (0 : Int32)) hx hb d_Pr_reachInside_14 (by decide) ?_
    refine lv_istore_n hx hb d_Pr_reachInside_15 rfl hl (by decide) rfl (fun ls hl => ?_)
    have hl : lv_has ls 5 [(3, .int (0 : Int32)), (0, .ref (g.1 45)), (1, .int x1), (2, .int x2)] := hl
    refine lv_iload_n hx hb d_Pr_reachInside_16 rfl (lv_at hl 2 rfl) ?_
    refine lv_iconst (v := (1 : Int32)) hx hb d_Pr_reachInside_17 (by decide) ?_
    refine lv_iadd hx hb d_Pr_reachInside_18 ?_
    refine lv_istore hx hb d_Pr_reachInside_19 hl (by decide) rfl (fun ls hl => ?_)
    have hl : lv_has ls 5 [(4, .int (x1 + (1 : Int32))), (3, .int (0 : Int32)), (0, .ref (g.1 45)), (1, .int x1), (2, .int x2)] := hl
    exact j1 x1 x2 (0 : Int32) (x1 + (1 : Int32)) σ _ _ _ (lv_sub hl [2, 3, 4, 1, 0] rfl) hst h
  · replace h := h.2 hc
    exact kw_vret hx hb hr hlocks hst h d_Pr_reachInside_13
set_option maxRecDepth 100000 in
set_option maxHeartbeats 4000000 in
theorem b_Pr_reachInside_1 {p : Program} {l : Launch} {e : Env} {s : State} {m : MethodId} {args : Array Value} {below : List Frame} {meth : Method} {c : Code} {D : va_G} {g : Gm} {A : Nat → Prop} {post : Sg → Prop} {F : Nat → Int32 → Int32 → Int32 → Int32 → Sg → Prop} (C : kC p s m args meth c k_Pr_reachInside 5 (none) GW R_Pr D vwCl g (Zk g) A) (j1 : J_Pr_reachInside_1 p l e s m args below meth c D g A post F) (x1 : Int32) (x2 : Int32) (x3 : Int32) (x4 : Int32) (σ : Sg) (H : Heap) (locs : List Loc) (ls : Array Slot) (hl : lv_has ls 5 [(0, .ref (g.1 45)), (1, .int x1), (2, .int x2), (3, .int x3), (4, .int x4)]) (hst : Wst D vwCl (WS g) A s σ H locs) (h : wb_Pr_reachInside_1 F post x1 x2 x3 x4 σ) : W p l e { frames := 1, cells := 0, slots := 0, locals := 22 } s m args below meth c H locs 0 0 (MQ below (QvW D vwCl (WS g) post A) args s 0 0 A) (F0 m 21 ls []) := by
  obtain ⟨hx, hb, hr, hml, hown, hts, hlocks, hK, hZ, hA⟩ := C
  unfold wb_Pr_reachInside_1 at h
  refine lv_iload_n hx hb d_Pr_reachInside_21 rfl (lv_at hl 3 rfl) ?_
  refine lv_aload_n hx hb d_Pr_reachInside_22 rfl (lv_at hl 0 rfl) ?_
  refine va_get (D := D) (ci := 8) (C := R_Pr) (T := T_Pr) (N := 10) hx hb hts in_Pr hown hK hst.1 45 (WS_o45 g σ) rfl 7 (by decide) (hts _ gw375) (fun _ h9 => h9) rfl d_Pr_reachInside_23 ?_
  refine va_get (D := D) (ci := 0) (C := R_Tr) (T := T_Tr) (N := 12) hx hb hts in_Tr hown hK hst.1 0 (WS_o0 g σ) rfl 5 (by decide) (hts _ gw151) (fun _ h9 => h9) rfl d_Pr_reachInside_26 ?_
  refine lv_iload_n hx hb d_Pr_reachInside_29 rfl (lv_at hl 1 rfl) ?_
  obtain ⟨hi, h⟩ := h
  refine va_iald hx hb hK hst.1 5 0 (WS_a5 g σ) rfl hi d_Pr_reachInside_30 ?_
  refine lv_icmp_ge (tgt := 62) hx hb d_Pr_reachInside_31 (by decide) (fun hc => ?_) (fun hc => ?_)
  · replace h := h.1 hc
    exact kw_vret hx hb hr hlocks hst h d_Pr_reachInside_62
  · replace h := h.2 hc
    refine lv_aload_n hx hb d_Pr_reachInside_34 rfl (lv_at hl 0 rfl) ?_
    refine va_get (D := D) (ci := 8) (C := R_Pr) (T := T_Pr) (N := 10) hx hb hts in_Pr hown hK hst.1 45 (WS_o45 g σ) rfl 9 (by decide) (hts _ gw377) (fun _ h9 => h9) rfl d_Pr_reachInside_35 ?_
    refine lv_iload hx hb d_Pr_reachInside_38 (lv_at hl 4 rfl) ?_
    refine lv_iload_n hx hb d_Pr_reachInside_40 rfl (lv_at hl 2 rfl) ?_
    refine kw_callv (va_runV (As := [.int x4, .int x2]) (rest := []) (b := g.1 49) ⟨hx, hb, hml, hown, hts⟩ (c_Mk_put_49 l x4 x2 h) (cwV 2 hts (gd_v gw985 gw838 gw839 gw12 gw840) rfl rfl rfl (by decide +kernel) ⟨Nat.le_of_ble_eq_true rfl, Nat.le_of_ble_eq_true rfl⟩) ⟨kw_blind (Zk_ok g), va_recv hK hst.1 rfl (WS_o49 g σ), kw_pre (Zk_ok g) hK hZ hA hst⟩ rfl rfl hl.1 rfl (lv_room (Nat.le_of_ble_eq_true rfl)) d_Pr_reachInside_41 ⟨Nat.le_of_ble_eq_true rfl, Nat.le_of_ble_eq_true rfl⟩) hst hA (fun σ1 H locs h hst => ?_)
    refine lv_iinc (k := 3) (v := (x3 + 1)) hx hb d_Pr_reachInside_44 hl rfl (kw_inc _ (by decide)) (by decide) rfl (fun ls hl => ?_)
    have hl : lv_has ls 5 [(3, .int (x3 + 1)), (0, .ref (g.1 45)), (1, .int x1), (2, .int x2), (4, .int x4)] := hl
    refine lv_aload_n hx hb d_Pr_reachInside_47 rfl (lv_at hl 1 rfl) ?_
    refine va_get (D := D) (ci := 8) (C := R_Pr) (T := T_Pr) (N := 10) hx hb hts in_Pr hown hK hst.1 45 (WS_o45 g σ1) rfl 7 (by decide) (hts _ gw375) (fun _ h9 => h9) rfl d_Pr_reachInside_48 ?_
    refine va_get (D := D) (ci := 0) (C := R_Tr) (T := T_Tr) (N := 12) hx hb hts in_Tr hown hK hst.1 0 (WS_o0 g σ1) rfl 8 (by decide) (hts _ gw166) (fun _ h9 => h9) rfl d_Pr_reachInside_51 ?_
    refine lv_iload hx hb d_Pr_reachInside_54 (lv_at hl 4 rfl) ?_
    obtain ⟨hi, h⟩ := h
    refine va_iald hx hb hK hst.1 8 0 (WS_a8 g σ1) rfl hi d_Pr_reachInside_56 ?_
    refine lv_istore hx hb d_Pr_reachInside_57 hl (by decide) rfl (fun ls hl => ?_)
    have hl : lv_has ls 5 [(4, .int (σ1.1 8 x4.toNatClampNeg)), (3, .int (x3 + 1)), (0, .ref (g.1 45)), (1, .int x1), (2, .int x2)] := hl
    refine lv_goto (tgt := 21) hx hb d_Pr_reachInside_59 (by decide) ?_
    exact j1 x1 x2 (x3 + 1) (σ1.1 8 x4.toNatClampNeg) σ1 _ _ _ (lv_sub hl [2, 3, 4, 1, 0] rfl) hst h
set_option maxRecDepth 100000 in
set_option maxHeartbeats 4000000 in
theorem a_Pr_reachInside {p : Program} {l : Launch} {e : Env} {s : State} {m : MethodId} {args : Array Value} {below : List Frame} {meth : Method} {c : Code} {D : va_G} {g : Gm} {A : Nat → Prop} {post : Sg → Prop} (C : kC p s m args meth c k_Pr_reachInside 5 (none) GW R_Pr D vwCl g (Zk g) A) : ∀ n : Nat, J_Pr_reachInside_1 p l e s m args below meth c D g A post (wp_Pr_reachInside post n) := by
  intro n
  induction n with
  | zero => exact fun _ _ _ _ _ _ _ _ _ _ h => h.elim
  | succ n ih => exact fun x1 x2 x3 x4 σ H locs ls hl hst h => b_Pr_reachInside_1 (F := wp_Pr_reachInside post n) C (ih) x1 x2 x3 x4 σ H locs ls hl hst h
set_option maxRecDepth 100000 in
set_option maxHeartbeats 4000000 in
theorem c_Pr_reachInside (l : Launch) {D : va_G} {g : Gm} {sz : Nat} (x1 : Int32) (x2 : Int32) {σ : Sg} {post : Sg → Prop} (h : wq_Pr_reachInside x1 x2 σ post) : Met l y_Pr_reachInside (.code y_Pr_reachInside k_Pr_reachInside 5 (none) :: GW) { frames := 1, cells := 0, slots := 0, locals := 22 } (PcW D vwCl (WS g) g (Zk g) σ sz [.ref (g.1 45), .int x1, .int x2]) (QvW D vwCl (WS g) post (va_A (WS g σ) sz)) 0 0 (va_A (WS g σ) sz) := by
  refine kw_entry (own := R_Pr) (by decide) rfl rfl (Nat.le_of_ble_eq_true rfl) ?_
  intro p e s m below meth c ls hsz C hin hl hst
  obtain ⟨n, h⟩ := h
  cases n with
  | zero => exact h.elim
  | succ n =>
    have ih := a_Pr_reachInside (l := l) (e := e) (below := below) (post := post) C n
    exact b_Pr_reachInside_0 (F := wp_Pr_reachInside post n) C (ih) x1 x2 σ _ _ ls hl hst h
/-! SchemaDesk$Report.codeOf (I)I -/
abbrev k_Rp_codeOf : ByteArray := prog_6_method_2_code
abbrev y_Rp_codeOf : MethodName := ⟨"SchemaDesk$Report", "codeOf", "(I)I"⟩
theorem d_Rp_codeOf_0 : decode k_Rp_codeOf 0 = .ok (.aload_n 0, 1) := by decide +kernel
theorem d_Rp_codeOf_1 : decode k_Rp_codeOf 1 = .ok (.getfield 9, 3) := by decide +kernel
theorem d_Rp_codeOf_4 : decode k_Rp_codeOf 4 = .ok (.iload_n 1, 1) := by decide +kernel
theorem d_Rp_codeOf_5 : decode k_Rp_codeOf 5 = .ok (.iaload, 1) := by decide +kernel
theorem d_Rp_codeOf_6 : decode k_Rp_codeOf 6 = .ok (.sipush 255, 3) := by decide +kernel
theorem d_Rp_codeOf_9 : decode k_Rp_codeOf 9 = .ok (.iand, 1) := by decide +kernel
theorem d_Rp_codeOf_10 : decode k_Rp_codeOf 10 = .ok (.ireturn, 1) := by decide +kernel
theorem gw335 : (Jvm.Cond.fieldLink "SchemaDesk$Report" (9 : Nat) "SchemaDesk$Report" "rows" "[I") ∈ GW := gw_t2 (List.mem_of_getElem? (i := 95) rfl) rfl
def wq_Rp_codeOf (x1 : Int32) (σ : Sg) (post : Int32 → Sg → Prop) : Prop := (vp_in x1 σ.2.2.2 ∧ post ((σ.1 52 x1.toNatClampNeg) &&& (255 : Int32)) σ)
set_option maxRecDepth 100000 in
set_option maxHeartbeats 4000000 in
theorem b_Rp_codeOf_0 {p : Program} {l : Launch} {e : Env} {s : State} {m : MethodId} {args : Array Value} {below : List Frame} {meth : Method} {c : Code} {D : va_G} {g : Gm} {A : Nat → Prop} {post : Int32 → Sg → Prop} (C : kC p s m args meth c k_Rp_codeOf 2 (some .int) GW R_Rp D vwCl g (Zk g) A) (x1 : Int32) (σ : Sg) (H : Heap) (locs : List Loc) (ls : Array Slot) (hl : lv_has ls 2 [(0, .ref (g.1 40)), (1, .int x1)]) (hst : Wst D vwCl (WS g) A s σ H locs) (h : wq_Rp_codeOf x1 σ post) : W p l e { frames := 0, cells := 0, slots := 0, locals := 0 } s m args below meth c H locs 0 0 (MQ below (QiW D vwCl (WS g) post A) args s 0 0 A) (F0 m 0 ls []) := by
  obtain ⟨hx, hb, hr, hml, hown, hts, hlocks, hK, hZ, hA⟩ := C
  unfold wq_Rp_codeOf at h
  refine lv_aload_n hx hb d_Rp_codeOf_0 rfl (lv_at hl 0 rfl) ?_
  refine va_get (D := D) (ci := 7) (C := R_Rp) (T := T_Rp) (N := 8) hx hb hts in_Rp hown hK hst.1 40 (WS_o40 g σ) rfl 1 (by decide) (hts _ gw335) (fun _ h9 => h9) rfl d_Rp_codeOf_1 ?_
  refine lv_iload_n hx hb d_Rp_codeOf_4 rfl (lv_at hl 1 rfl) ?_
  obtain ⟨hi, h⟩ := h
  refine va_iald hx hb hK hst.1 52 0 (WS_a52 g σ) rfl hi d_Rp_codeOf_5 ?_
  refine lv_sipush (v := (255 : Int32)) hx hb d_Rp_codeOf_6 (by decide) ?_
  refine lv_iand hx hb d_Rp_codeOf_9 ?_
  exact kw_iret hx hb hr hlocks hst h d_Rp_codeOf_10
set_option maxRecDepth 100000 in
set_option maxHeartbeats 4000000 in
theorem c_Rp_codeOf (l : Launch) {D : va_G} {g : Gm} {sz : Nat} (x1 : Int32) {σ : Sg} {post : Int32 → Sg → Prop} (h : wq_Rp_codeOf x1 σ post) : Met l y_Rp_codeOf (.code y_Rp_codeOf k_Rp_codeOf 2 (some .int) :: GW) { frames := 0, cells := 0, slots := 0, locals := 0 } (PcW D vwCl (WS g) g (Zk g) σ sz [.ref (g.1 40), .int x1]) (QiW D vwCl (WS g) post (va_A (WS g σ) sz)) 0 0 (va_A (WS g σ) sz) := by
  refine kw_entry (own := R_Rp) (by decide) rfl rfl (Nat.le_of_ble_eq_true rfl) ?_
  intro p e s m below meth c ls hsz C hin hl hst
  exact b_Rp_codeOf_0 C x1 σ _ _ ls hl hst h
/-! SchemaDesk$Report.documentNodeOf (I)I -/
abbrev k_Rp_documentNodeOf : ByteArray := prog_6_method_3_code
abbrev y_Rp_documentNodeOf : MethodName := ⟨"SchemaDesk$Report", "documentNodeOf", "(I)I"⟩
theorem d_Rp_documentNodeOf_0 : decode k_Rp_documentNodeOf 0 = .ok (.aload_n 0, 1) := by decide +kernel
theorem d_Rp_documentNodeOf_1 : decode k_Rp_documentNodeOf 1 = .ok (.getfield 9, 3) := by decide +kernel
theorem d_Rp_documentNodeOf_4 : decode k_Rp_documentNodeOf 4 = .ok (.iload_n 1, 1) := by decide +kernel
theorem d_Rp_documentNodeOf_5 : decode k_Rp_documentNodeOf 5 = .ok (.iaload, 1) := by decide +kernel
theorem d_Rp_documentNodeOf_6 : decode k_Rp_documentNodeOf 6 = .ok (.bipush 16, 2) := by decide +kernel
theorem d_Rp_documentNodeOf_8 : decode k_Rp_documentNodeOf 8 = .ok (.ishr, 1) := by decide +kernel
theorem d_Rp_documentNodeOf_9 : decode k_Rp_documentNodeOf 9 = .ok (.ireturn, 1) := by decide +kernel
def wq_Rp_documentNodeOf (x1 : Int32) (σ : Sg) (post : Int32 → Sg → Prop) : Prop := (vp_in x1 σ.2.2.2 ∧ post ((σ.1 52 x1.toNatClampNeg) >>> ((16 : Int32) &&& 31)) σ)
set_option maxRecDepth 100000 in
set_option maxHeartbeats 4000000 in
theorem b_Rp_documentNodeOf_0 {p : Program} {l : Launch} {e : Env} {s : State} {m : MethodId} {args : Array Value} {below : List Frame} {meth : Method} {c : Code} {D : va_G} {g : Gm} {A : Nat → Prop} {post : Int32 → Sg → Prop} (C : kC p s m args meth c k_Rp_documentNodeOf 2 (some .int) GW R_Rp D vwCl g (Zk g) A) (x1 : Int32) (σ : Sg) (H : Heap) (locs : List Loc) (ls : Array Slot) (hl : lv_has ls 2 [(0, .ref (g.1 40)), (1, .int x1)]) (hst : Wst D vwCl (WS g) A s σ H locs) (h : wq_Rp_documentNodeOf x1 σ post) : W p l e { frames := 0, cells := 0, slots := 0, locals := 0 } s m args below meth c H locs 0 0 (MQ below (QiW D vwCl (WS g) post A) args s 0 0 A) (F0 m 0 ls []) := by
  obtain ⟨hx, hb, hr, hml, hown, hts, hlocks, hK, hZ, hA⟩ := C
  unfold wq_Rp_documentNodeOf at h
  refine lv_aload_n hx hb d_Rp_documentNodeOf_0 rfl (lv_at hl 0 rfl) ?_
  refine va_get (D := D) (ci := 7) (C := R_Rp) (T := T_Rp) (N := 8) hx hb hts in_Rp hown hK hst.1 40 (WS_o40 g σ) rfl 1 (by decide) (hts _ gw335) (fun _ h9 => h9) rfl d_Rp_documentNodeOf_1 ?_
  refine lv_iload_n hx hb d_Rp_documentNodeOf_4 rfl (lv_at hl 1 rfl) ?_
  obtain ⟨hi, h⟩ := h
  refine va_iald hx hb hK hst.1 52 0 (WS_a52 g σ) rfl hi d_Rp_documentNodeOf_5 ?_
  refine lv_bipush (v := (16 : Int32)) hx hb d_Rp_documentNodeOf_6 (by decide) ?_
  refine lv_ishr hx hb d_Rp_documentNodeOf_8 ?_
  exact kw_iret hx hb hr hlocks hst h d_Rp_documentNodeOf_9
set_option maxRecDepth 100000 in
set_option maxHeartbeats 4000000 in
theorem c_Rp_documentNodeOf (l : Launch) {D : va_G} {g : Gm} {sz : Nat} (x1 : Int32) {σ : Sg} {post : Int32 → Sg → Prop} (h : wq_Rp_documentNodeOf x1 σ post) : Met l y_Rp_documentNodeOf (.code y_Rp_documentNodeOf k_Rp_documentNodeOf 2 (some .int) :: GW) { frames := 0, cells := 0, slots := 0, locals := 0 } (PcW D vwCl (WS g) g (Zk g) σ sz [.ref (g.1 40), .int x1]) (QiW D vwCl (WS g) post (va_A (WS g σ) sz)) 0 0 (va_A (WS g σ) sz) := by
  refine kw_entry (own := R_Rp) (by decide) rfl rfl (Nat.le_of_ble_eq_true rfl) ?_
  intro p e s m below meth c ls hsz C hin hl hst
  exact b_Rp_documentNodeOf_0 C x1 σ _ _ ls hl hst h
/-! SchemaDesk$Report.schemaNodeOf (I)I -/
abbrev k_Rp_schemaNodeOf : ByteArray := prog_6_method_4_code
abbrev y_Rp_schemaNodeOf : MethodName := ⟨"SchemaDesk$Report", "schemaNodeOf", "(I)I"⟩
theorem d_Rp_schemaNodeOf_0 : decode k_Rp_schemaNodeOf 0 = .ok (.aload_n 0, 1) := by decide +kernel
theorem d_Rp_schemaNodeOf_1 : decode k_Rp_schemaNodeOf 1 = .ok (.getfield 9, 3) := by decide +kernel
theorem d_Rp_schemaNodeOf_4 : decode k_Rp_schemaNodeOf 4 = .ok (.iload_n 1, 1) := by decide +kernel
theorem d_Rp_schemaNodeOf_5 : decode k_Rp_schemaNodeOf 5 = .ok (.iaload, 1) := by decide +kernel
theorem d_Rp_schemaNodeOf_6 : decode k_Rp_schemaNodeOf 6 = .ok (.bipush 8, 2) := by decide +kernel
theorem d_Rp_schemaNodeOf_8 : decode k_Rp_schemaNodeOf 8 = .ok (.ishr, 1) := by decide +kernel
theorem d_Rp_schemaNodeOf_9 : decode k_Rp_schemaNodeOf 9 = .ok (.sipush 255, 3) := by decide +kernel
theorem d_Rp_schemaNodeOf_12 : decode k_Rp_schemaNodeOf 12 = .ok (.iand, 1) := by decide +kernel
theorem d_Rp_schemaNodeOf_13 : decode k_Rp_schemaNodeOf 13 = .ok (.ireturn, 1) := by decide +kernel
def wq_Rp_schemaNodeOf (x1 : Int32) (σ : Sg) (post : Int32 → Sg → Prop) : Prop := (vp_in x1 σ.2.2.2 ∧ post (((σ.1 52 x1.toNatClampNeg) >>> ((8 : Int32) &&& 31)) &&& (255 : Int32)) σ)
set_option maxRecDepth 100000 in
set_option maxHeartbeats 4000000 in
theorem b_Rp_schemaNodeOf_0 {p : Program} {l : Launch} {e : Env} {s : State} {m : MethodId} {args : Array Value} {below : List Frame} {meth : Method} {c : Code} {D : va_G} {g : Gm} {A : Nat → Prop} {post : Int32 → Sg → Prop} (C : kC p s m args meth c k_Rp_schemaNodeOf 2 (some .int) GW R_Rp D vwCl g (Zk g) A) (x1 : Int32) (σ : Sg) (H : Heap) (locs : List Loc) (ls : Array Slot) (hl : lv_has ls 2 [(0, .ref (g.1 40)), (1, .int x1)]) (hst : Wst D vwCl (WS g) A s σ H locs) (h : wq_Rp_schemaNodeOf x1 σ post) : W p l e { frames := 0, cells := 0, slots := 0, locals := 0 } s m args below meth c H locs 0 0 (MQ below (QiW D vwCl (WS g) post A) args s 0 0 A) (F0 m 0 ls []) := by
  obtain ⟨hx, hb, hr, hml, hown, hts, hlocks, hK, hZ, hA⟩ := C
  unfold wq_Rp_schemaNodeOf at h
  refine lv_aload_n hx hb d_Rp_schemaNodeOf_0 rfl (lv_at hl 0 rfl) ?_
  refine va_get (D := D) (ci := 7) (C := R_Rp) (T := T_Rp) (N := 8) hx hb hts in_Rp hown hK hst.1 40 (WS_o40 g σ) rfl 1 (by decide) (hts _ gw335) (fun _ h9 => h9) rfl d_Rp_schemaNodeOf_1 ?_
  refine lv_iload_n hx hb d_Rp_schemaNodeOf_4 rfl (lv_at hl 1 rfl) ?_
  obtain ⟨hi, h⟩ := h
  refine va_iald hx hb hK hst.1 52 0 (WS_a52 g σ) rfl hi d_Rp_schemaNodeOf_5 ?_
  refine lv_bipush (v := (8 : Int32)) hx hb d_Rp_schemaNodeOf_6 (by decide) ?_
  refine lv_ishr hx hb d_Rp_schemaNodeOf_8 ?_
  refine lv_sipush (v := (255 : Int32)) hx hb d_Rp_schemaNodeOf_9 (by decide) ?_
  refine lv_iand hx hb d_Rp_schemaNodeOf_12 ?_
  exact kw_iret hx hb hr hlocks hst h d_Rp_schemaNodeOf_13
set_option maxRecDepth 100000 in
set_option maxHeartbeats 4000000 in
theorem c_Rp_schemaNodeOf (l : Launch) {D : va_G} {g : Gm} {sz : Nat} (x1 : Int32) {σ : Sg} {post : Int32 → Sg → Prop} (h : wq_Rp_schemaNodeOf x1 σ post) : Met l y_Rp_schemaNodeOf (.code y_Rp_schemaNodeOf k_Rp_schemaNodeOf 2 (some .int) :: GW) { frames := 0, cells := 0, slots := 0, locals := 0 } (PcW D vwCl (WS g) g (Zk g) σ sz [.ref (g.1 40), .int x1]) (QiW D vwCl (WS g) post (va_A (WS g σ) sz)) 0 0 (va_A (WS g σ) sz) := by
  refine kw_entry (own := R_Rp) (by decide) rfl rfl (Nat.le_of_ble_eq_true rfl) ?_
  intro p e s m below meth c ls hsz C hin hl hst
  exact b_Rp_schemaNodeOf_0 C x1 σ _ _ ls hl hst h
/-! SchemaDesk.type (IC)Z -/
abbrev k_Sd_type : ByteArray := prog_1_method_2_code
abbrev y_Sd_type : MethodName := ⟨"SchemaDesk", "type", "(IC)Z"⟩
theorem d_Sd_type_0 : decode k_Sd_type 0 = .ok (.iload_n 1, 1) := by decide +kernel
theorem d_Sd_type_1 : decode k_Sd_type 1 = .ok (.invokestatic 77, 3) := by decide +kernel
theorem d_Sd_type_4 : decode k_Sd_type 4 = .ok (.ifCond .eq 10, 3) := by decide +kernel
theorem d_Sd_type_7 : decode k_Sd_type 7 = .ok (.iload_n 2, 1) := by decide +kernel
theorem d_Sd_type_8 : decode k_Sd_type 8 = .ok (.invokestatic 81, 3) := by decide +kernel
theorem d_Sd_type_11 : decode k_Sd_type 11 = .ok (.ifCond .ne 5, 3) := by decide +kernel
theorem d_Sd_type_14 : decode k_Sd_type 14 = .ok (.iconst 0, 1) := by decide +kernel
theorem d_Sd_type_15 : decode k_Sd_type 15 = .ok (.ireturn, 1) := by decide +kernel
theorem d_Sd_type_16 : decode k_Sd_type 16 = .ok (.aload_n 0, 1) := by decide +kernel
theorem d_Sd_type_17 : decode k_Sd_type 17 = .ok (.iload_n 1, 1) := by decide +kernel
theorem d_Sd_type_18 : decode k_Sd_type 18 = .ok (.invokevirtual 85, 3) := by decide +kernel
theorem d_Sd_type_21 : decode k_Sd_type 21 = .ok (.astore_n 3, 1) := by decide +kernel
theorem d_Sd_type_22 : decode k_Sd_type 22 = .ok (.aload_n 3, 1) := by decide +kernel
theorem d_Sd_type_23 : decode k_Sd_type 23 = .ok (.invokevirtual 89, 3) := by decide +kernel
theorem d_Sd_type_26 : decode k_Sd_type 26 = .ok (.iconst 1, 1) := by decide +kernel
theorem d_Sd_type_27 : decode k_Sd_type 27 = .ok (.if_icmp .ge 5, 3) := by decide +kernel
theorem d_Sd_type_30 : decode k_Sd_type 30 = .ok (.iconst 0, 1) := by decide +kernel
theorem d_Sd_type_31 : decode k_Sd_type 31 = .ok (.ireturn, 1) := by decide +kernel
theorem d_Sd_type_32 : decode k_Sd_type 32 = .ok (.aload_n 3, 1) := by decide +kernel
theorem d_Sd_type_33 : decode k_Sd_type 33 = .ok (.aload_n 3, 1) := by decide +kernel
theorem d_Sd_type_34 : decode k_Sd_type 34 = .ok (.getfield 93, 3) := by decide +kernel
theorem d_Sd_type_37 : decode k_Sd_type 37 = .ok (.iload_n 2, 1) := by decide +kernel
theorem d_Sd_type_38 : decode k_Sd_type 38 = .ok (.invokevirtual 97, 3) := by decide +kernel
theorem d_Sd_type_41 : decode k_Sd_type 41 = .ok (.aload_n 0, 1) := by decide +kernel
theorem d_Sd_type_42 : decode k_Sd_type 42 = .ok (.iload_n 1, 1) := by decide +kernel
theorem d_Sd_type_43 : decode k_Sd_type 43 = .ok (.invokevirtual 101, 3) := by decide +kernel
theorem d_Sd_type_46 : decode k_Sd_type 46 = .ok (.iconst 1, 1) := by decide +kernel
theorem d_Sd_type_47 : decode k_Sd_type 47 = .ok (.ireturn, 1) := by decide +kernel
theorem gw431 : (Jvm.Cond.methodLink "SchemaDesk" (77 : Nat) ({ cls := "SchemaDesk", name := "isText", desc := "(I)Z" } : Jvm.MethodName)) ∈ GW := gw_t2 (List.mem_of_getElem? (i := 191) rfl) rfl
theorem gw432 : (Jvm.Cond.static ({ cls := "SchemaDesk", name := "isText", desc := "(I)Z" } : Jvm.MethodName)) ∈ GW := gw_t2 (List.mem_of_getElem? (i := 192) rfl) rfl
theorem gw1 : (Jvm.Cond.initialized "SchemaDesk") ∈ GW := gw_t1 (List.mem_of_getElem? (i := 1) rfl) rfl
theorem gw433 : (Jvm.Cond.code ({ cls := "SchemaDesk", name := "isText", desc := "(I)Z" } : Jvm.MethodName) prog_1_method_17_code (1 : Nat) (Option.some Jvm.ClassFile.FieldType.boolean)) ∈ GW := gw_t2 (List.mem_of_getElem? (i := 193) rfl) rfl
theorem gw434 : (Jvm.Cond.methodLink "SchemaDesk" (81 : Nat) ({ cls := "SchemaDesk", name := "isCharacter", desc := "(C)Z" } : Jvm.MethodName)) ∈ GW := gw_t2 (List.mem_of_getElem? (i := 194) rfl) rfl
theorem gw435 : (Jvm.Cond.static ({ cls := "SchemaDesk", name := "isCharacter", desc := "(C)Z" } : Jvm.MethodName)) ∈ GW := gw_t2 (List.mem_of_getElem? (i := 195) rfl) rfl
theorem gw436 : (Jvm.Cond.code ({ cls := "SchemaDesk", name := "isCharacter", desc := "(C)Z" } : Jvm.MethodName) prog_1_method_18_code (1 : Nat) (Option.some Jvm.ClassFile.FieldType.boolean)) ∈ GW := gw_t2 (List.mem_of_getElem? (i := 196) rfl) rfl
theorem gw437 : (Jvm.Cond.methodLink "SchemaDesk" (85 : Nat) ({ cls := "SchemaDesk", name := "textOf", desc := "(I)LSchemaDesk$Text;" } : Jvm.MethodName)) ∈ GW := gw_t2 (List.mem_of_getElem? (i := 197) rfl) rfl
theorem gw439 : (Jvm.Cond.instanceMethod ({ cls := "SchemaDesk", name := "textOf", desc := "(I)LSchemaDesk$Text;" } : Jvm.MethodName)) ∈ GW := gw_t2 (List.mem_of_getElem? (i := 199) rfl) rfl
theorem gs0 : Cond.selects "SchemaDesk" ⟨"SchemaDesk", "textOf", "(I)LSchemaDesk$Text;"⟩ ⟨"SchemaDesk", "textOf", "(I)LSchemaDesk$Text;"⟩ ∈ GW := gw_p1 (q := (⟨"SchemaDesk", "textOf", "(I)LSchemaDesk$Text;"⟩, 9)) (List.mem_of_getElem? (i := 0) rfl)
theorem gw440 : (Jvm.Cond.code ({ cls := "SchemaDesk", name := "textOf", desc := "(I)LSchemaDesk$Text;" } : Jvm.MethodName) prog_1_method_19_code (2 : Nat) (Option.some (Jvm.ClassFile.FieldType.object "SchemaDesk$Text"))) ∈ GW := gw_t2 (List.mem_of_getElem? (i := 200) rfl) rfl
theorem gw441 : (Jvm.Cond.methodLink "SchemaDesk" (89 : Nat) ({ cls := "SchemaDesk$Text", name := "room", desc := "()I" } : Jvm.MethodName)) ∈ GW := gw_t2 (List.mem_of_getElem? (i := 201) rfl) rfl
theorem gw442 : (Jvm.Cond.instanceMethod ({ cls := "SchemaDesk$Text", name := "room", desc := "()I" } : Jvm.MethodName)) ∈ GW := gw_t2 (List.mem_of_getElem? (i := 202) rfl) rfl
theorem gw443 : (Jvm.Cond.selects "SchemaDesk$Text" ({ cls := "SchemaDesk$Text", name := "room", desc := "()I" } : Jvm.MethodName) ({ cls := "SchemaDesk$Text", name := "room", desc := "()I" } : Jvm.MethodName)) ∈ GW := gw_t2 (List.mem_of_getElem? (i := 203) rfl) rfl
theorem gw444 : (Jvm.Cond.code ({ cls := "SchemaDesk$Text", name := "room", desc := "()I" } : Jvm.MethodName) prog_7_method_2_code (1 : Nat) (Option.some Jvm.ClassFile.FieldType.int)) ∈ GW := gw_t2 (List.mem_of_getElem? (i := 204) rfl) rfl
theorem gw113 : (Jvm.Cond.fieldLink "SchemaDesk" (93 : Nat) "SchemaDesk$Text" "size" "I") ∈ GW := gw_t1 (List.mem_of_getElem? (i := 113) rfl) rfl
theorem gw445 : (Jvm.Cond.methodLink "SchemaDesk" (97 : Nat) ({ cls := "SchemaDesk$Text", name := "put", desc := "(IC)V" } : Jvm.MethodName)) ∈ GW := gw_t2 (List.mem_of_getElem? (i := 205) rfl) rfl
theorem gw446 : (Jvm.Cond.instanceMethod ({ cls := "SchemaDesk$Text", name := "put", desc := "(IC)V" } : Jvm.MethodName)) ∈ GW := gw_t2 (List.mem_of_getElem? (i := 206) rfl) rfl
theorem gw447 : (Jvm.Cond.selects "SchemaDesk$Text" ({ cls := "SchemaDesk$Text", name := "put", desc := "(IC)V" } : Jvm.MethodName) ({ cls := "SchemaDesk$Text", name := "put", desc := "(IC)V" } : Jvm.MethodName)) ∈ GW := gw_t2 (List.mem_of_getElem? (i := 207) rfl) rfl
theorem gw448 : (Jvm.Cond.code ({ cls := "SchemaDesk$Text", name := "put", desc := "(IC)V" } : Jvm.MethodName) prog_7_method_3_code (3 : Nat) (Option.none : Option Jvm.ClassFile.FieldType)) ∈ GW := gw_t2 (List.mem_of_getElem? (i := 208) rfl) rfl
theorem gw452 : (Jvm.Cond.methodLink "SchemaDesk" (101 : Nat) ({ cls := "SchemaDesk", name := "edited", desc := "(I)V" } : Jvm.MethodName)) ∈ GW := gw_t2 (List.mem_of_getElem? (i := 212) rfl) rfl
theorem gw454 : (Jvm.Cond.instanceMethod ({ cls := "SchemaDesk", name := "edited", desc := "(I)V" } : Jvm.MethodName)) ∈ GW := gw_t2 (List.mem_of_getElem? (i := 214) rfl) rfl
theorem gs1 : Cond.selects "SchemaDesk" ⟨"SchemaDesk", "edited", "(I)V"⟩ ⟨"SchemaDesk", "edited", "(I)V"⟩ ∈ GW := gw_p1 (q := (⟨"SchemaDesk", "edited", "(I)V"⟩, 9)) (List.mem_of_getElem? (i := 1) rfl)
theorem gw455 : (Jvm.Cond.code ({ cls := "SchemaDesk", name := "edited", desc := "(I)V" } : Jvm.MethodName) prog_1_method_21_code (2 : Nat) (Option.none : Option Jvm.ClassFile.FieldType)) ∈ GW := gw_t2 (List.mem_of_getElem? (i := 215) rfl) rfl
def wq_Sd_type (x1 : Int32) (x2 : Int32) (σ : Sg) (post : Int32 → Sg → Prop) : Prop := (wq_Sd_isText x1 σ (fun r1 σ1 => ((r1 = 0 → (narrow .boolean (.int (0 : Int32)) = .int (0 : Int32) ∧ post (0 : Int32) σ1)) ∧ (¬ r1 = 0 → (wq_Sd_isCharacter x2 σ1 (fun r2 σ2 => ((¬ r2 = 0 → (wq_Sd_textOf x1 σ2 (fun r3 σ3 => (r3 = 0 ∨ r3 = 13) ∧ (wq_Tx_room r3 σ3 (fun r4 σ4 => (((1 : Int32) ≤ r4 → (wq_Tx_put r3 (σ4.1 (r3 + 10) 1) x2 σ4 (fun σ5 => (wq_Sd_edited x1 σ5 (fun σ6 => (narrow .boolean (.int (1 : Int32)) = .int (1 : Int32) ∧ post (1 : Int32) σ6)))))) ∧ (¬ (1 : Int32) ≤ r4 → (narrow .boolean (.int (0 : Int32)) = .int (0 : Int32) ∧ post (0 : Int32) σ4)))))))) ∧ (r2 = 0 → (narrow .boolean (.int (0 : Int32)) = .int (0 : Int32) ∧ post (0 : Int32) σ2)))))))))
set_option maxRecDepth 100000 in
set_option maxHeartbeats 4000000 in
theorem b_Sd_type_0 {p : Program} {l : Launch} {e : Env} {s : State} {m : MethodId} {args : Array Value} {below : List Frame} {meth : Method} {c : Code} {D : va_G} {g : Gm} {A : Nat → Prop} {post : Int32 → Sg → Prop} (C : kC p s m args meth c k_Sd_type 4 (some .boolean) GW R_Sd D vwCl g (Zk g) A) (x1 : Int32) (x2 : Int32) (σ : Sg) (H : Heap) (locs : List Loc) (ls : Array Slot) (hl : lv_has ls 4 [(0, .ref (g.1 51)), (1, .int x1), (2, .int x2)]) (hst : Wst D vwCl (WS g) A s σ H locs) (h : wq_Sd_type x1 x2 σ post) : W p l e { frames := 2, cells := 0, slots := 0, locals := 82 } s m args below meth c H locs 0 0 (MQ below (QiW D vwCl (WS g) post A) args s 0 0 A) (F0 m 0 ls []) := by
  obtain ⟨hx, hb, hr, hml, hown, hts, hlocks, hK, hZ, hA⟩ := C
  unfold wq_Sd_type at h
  refine lv_iload_n hx hb d_Sd_type_0 rfl (lv_at hl 1 rfl) ?_
  refine kw_calli (va_runS (As := [.int x1]) (rest := []) ⟨hx, hb, hml, hown, hts⟩ (c_Sd_isText l x1 h) (cwS 1 hts (gd_s gw431 gw432 gw1 gw433) rfl rfl rfl (by decide +kernel) ⟨Nat.le_of_ble_eq_true rfl, Nat.le_of_ble_eq_true rfl⟩) ⟨kw_blind (Zk_ok g), kw_pre (Zk_ok g) hK hZ hA hst⟩ rfl rfl hl.1 rfl (lv_room (Nat.le_of_ble_eq_true rfl)) d_Sd_type_1 ⟨Nat.le_of_ble_eq_true rfl, Nat.le_of_ble_eq_true rfl⟩) hst hA (fun r1 σ1 H locs h hst => ?_)
  refine lv_if_eq (tgt := 14) hx hb d_Sd_type_4 (by decide) (fun hc => ?_) (fun hc => ?_)
  · replace h := h.1 hc
    refine lv_iconst (v := (0 : Int32)) hx hb d_Sd_type_14 (by decide) ?_
    exact kw_zret hx hb hr hlocks hst h d_Sd_type_15
  · replace h := h.2 hc
    refine lv_iload_n hx hb d_Sd_type_7 rfl (lv_at hl 2 rfl) ?_
    refine kw_calli (va_runS (As := [.int x2]) (rest := []) ⟨hx, hb, hml, hown, hts⟩ (c_Sd_isCharacter l x2 h) (cwS 1 hts (gd_s gw434 gw435 gw1 gw436) rfl rfl rfl (by decide +kernel) ⟨Nat.le_of_ble_eq_true rfl, Nat.le_of_ble_eq_true rfl⟩) ⟨kw_blind (Zk_ok g), kw_pre (Zk_ok g) hK hZ hA hst⟩ rfl rfl hl.1 rfl (lv_room (Nat.le_of_ble_eq_true rfl)) d_Sd_type_8 ⟨Nat.le_of_ble_eq_true rfl, Nat.le_of_ble_eq_true rfl⟩) hst hA (fun r2 σ2 H locs h hst => ?_)
    refine lv_if_ne (tgt := 16) hx hb d_Sd_type_11 (by decide) (fun hc => ?_) (fun hc => ?_)
    · replace h := h.1 hc
      refine lv_aload_n hx hb d_Sd_type_16 rfl (lv_at hl 0 rfl) ?_
      refine lv_iload_n hx hb d_Sd_type_17 rfl (lv_at hl 1 rfl) ?_
      refine kw_callr (va_runV (As := [.int x1]) (rest := []) (b := g.1 51) ⟨hx, hb, hml, hown, hts⟩ (c_Sd_textOf l x1 h) (cwV 1 hts (gd_v gw437 gw439 gs0 gw1 gw440) rfl rfl rfl (by decide +kernel) ⟨Nat.le_of_ble_eq_true rfl, Nat.le_of_ble_eq_true rfl⟩) ⟨kw_blind (Zk_ok g), va_recv hK hst.1 rfl (WS_o51 g σ2), kw_pre (Zk_ok g) hK hZ hA hst⟩ rfl rfl hl.1 rfl (lv_room (Nat.le_of_ble_eq_true rfl)) d_Sd_type_18 ⟨Nat.le_of_ble_eq_true rfl, Nat.le_of_ble_eq_true rfl⟩) hst hA (fun r3 σ3 H locs h hst => ?_)
      obtain ⟨hb1, h⟩ := h
      rcases hb1 with rfl | rfl
      · refine lv_astore_n hx hb d_Sd_type_21 rfl hl (by decide) rfl (fun ls hl => ?_)
        have hl : lv_has ls 4 [(3, .ref (g.1 10)), (0, .ref (g.1 51)), (1, .int x1), (2, .int x2)] := hl
        refine lv_aload_n hx hb d_Sd_type_22 rfl (lv_at hl 0 rfl) ?_
        refine kw_calli (va_runV (As := []) (rest := []) (b := g.1 10) ⟨hx, hb, hml, hown, hts⟩ (c_Tx_room_0 l h) (cwV 0 hts (gd_v gw441 gw442 gw443 gw8 gw444) rfl rfl rfl (by decide +kernel) ⟨Nat.le_of_ble_eq_true rfl, Nat.le_of_ble_eq_true rfl⟩) ⟨kw_blind (Zk_ok g), va_recv hK hst.1 rfl (WS_o10 g σ3), kw_pre (Zk_ok g) hK hZ hA hst⟩ rfl rfl hl.1 rfl (lv_room (Nat.le_of_ble_eq_true rfl)) d_Sd_type_23 ⟨Nat.le_of_ble_eq_true rfl, Nat.le_of_ble_eq_true rfl⟩) hst hA (fun r4 σ4 H locs h hst => ?_)
        refine lv_iconst (v := (1 : Int32)) hx hb d_Sd_type_26 (by decide) ?_
        refine lv_icmp_ge (tgt := 32) hx hb d_Sd_type_27 (by decide) (fun hc => ?_) (fun hc => ?_)
        · replace h := h.1 hc
          refine lv_aload_n hx hb d_Sd_type_32 rfl (lv_at hl 0 rfl) ?_
          refine lv_aload_n hx hb d_Sd_type_33 rfl (lv_at hl 0 rfl) ?_
          refine va_get (D := D) (ci := 1) (C := R_Tx) (T := T_Tx) (N := 2) hx hb hts in_Tx hown hK hst.1 10 (WS_o10 g σ4) rfl 1 (by decide) (hts _ gw113) (fun _ h9 => h9) rfl d_Sd_type_34 ?_
          refine lv_iload_n hx hb d_Sd_type_37 rfl (lv_at hl 3 rfl) ?_
          refine kw_callv (va_runV (As := [.int (σ4.1 10 1), .int x2]) (rest := []) (b := g.1 10) ⟨hx, hb, hml, hown, hts⟩ (c_Tx_put_0 l (σ4.1 10 1) x2 h) (cwV 2 hts (gd_v gw445 gw446 gw447 gw8 gw448) rfl rfl rfl (by decide +kernel) ⟨Nat.le_of_ble_eq_true rfl, Nat.le_of_ble_eq_true rfl⟩) ⟨kw_blind (Zk_ok g), va_recv hK hst.1 rfl (WS_o10 g σ4), kw_pre (Zk_ok g) hK hZ hA hst⟩ rfl rfl hl.1 rfl (lv_room (Nat.le_of_ble_eq_true rfl)) d_Sd_type_38 ⟨Nat.le_of_ble_eq_true rfl, Nat.le_of_ble_eq_true rfl⟩) hst hA (fun σ5 H locs h hst => ?_)
          refine lv_aload_n hx hb d_Sd_type_41 rfl (lv_at hl 1 rfl) ?_
          refine lv_iload_n hx hb d_Sd_type_42 rfl (lv_at hl 2 rfl) ?_
          refine kw_callv (va_runV (As := [.int x1]) (rest := []) (b := g.1 51) ⟨hx, hb, hml, hown, hts⟩ (c_Sd_edited l x1 h) (cwV 1 hts (gd_v gw452 gw454 gs1 gw1 gw455) rfl rfl rfl (by decide +kernel) ⟨Nat.le_of_ble_eq_true rfl, Nat.le_of_ble_eq_true rfl⟩) ⟨kw_blind (Zk_ok g), va_recv hK hst.1 rfl (WS_o51 g σ5), kw_pre (Zk_ok g) hK hZ hA hst⟩ rfl rfl hl.1 rfl (lv_room (Nat.le_of_ble_eq_true rfl)) d_Sd_type_43 ⟨Nat.le_of_ble_eq_true rfl, Nat.le_of_ble_eq_true rfl⟩) hst hA (fun σ6 H locs h hst => ?_)
          refine lv_iconst (v := (1 : Int32)) hx hb d_Sd_type_46 (by decide) ?_
          exact kw_zret hx hb hr hlocks hst h d_Sd_type_47
        · replace h := h.2 hc
          refine lv_iconst (v := (0 : Int32)) hx hb d_Sd_type_30 (by decide) ?_
          exact kw_zret hx hb hr hlocks hst h d_Sd_type_31
      · refine lv_astore_n hx hb d_Sd_type_21 rfl hl (by decide) rfl (fun ls hl => ?_)
        have hl : lv_has ls 4 [(3, .ref (g.1 23)), (0, .ref (g.1 51)), (1, .int x1), (2, .int x2)] := hl
        refine lv_aload_n hx hb d_Sd_type_22 rfl (lv_at hl 0 rfl) ?_
        refine kw_calli (va_runV (As := []) (rest := []) (b := g.1 23) ⟨hx, hb, hml, hown, hts⟩ (c_Tx_room_13 l h) (cwV 0 hts (gd_v gw441 gw442 gw443 gw8 gw444) rfl rfl rfl (by decide +kernel) ⟨Nat.le_of_ble_eq_true rfl, Nat.le_of_ble_eq_true rfl⟩) ⟨kw_blind (Zk_ok g), va_recv hK hst.1 rfl (WS_o23 g σ3), kw_pre (Zk_ok g) hK hZ hA hst⟩ rfl rfl hl.1 rfl (lv_room (Nat.le_of_ble_eq_true rfl)) d_Sd_type_23 ⟨Nat.le_of_ble_eq_true rfl, Nat.le_of_ble_eq_true rfl⟩) hst hA (fun r4 σ4 H locs h hst => ?_)
        refine lv_iconst (v := (1 : Int32)) hx hb d_Sd_type_26 (by decide) ?_
        refine lv_icmp_ge (tgt := 32) hx hb d_Sd_type_27 (by decide) (fun hc => ?_) (fun hc => ?_)
        · replace h := h.1 hc
          refine lv_aload_n hx hb d_Sd_type_32 rfl (lv_at hl 0 rfl) ?_
          refine lv_aload_n hx hb d_Sd_type_33 rfl (lv_at hl 0 rfl) ?_
          refine va_get (D := D) (ci := 1) (C := R_Tx) (T := T_Tx) (N := 2) hx hb hts in_Tx hown hK hst.1 23 (WS_o23 g σ4) rfl 1 (by decide) (hts _ gw113) (fun _ h9 => h9) rfl d_Sd_type_34 ?_
          refine lv_iload_n hx hb d_Sd_type_37 rfl (lv_at hl 3 rfl) ?_
          refine kw_callv (va_runV (As := [.int (σ4.1 23 1), .int x2]) (rest := []) (b := g.1 23) ⟨hx, hb, hml, hown, hts⟩ (c_Tx_put_13 l (σ4.1 23 1) x2 h) (cwV 2 hts (gd_v gw445 gw446 gw447 gw8 gw448) rfl rfl rfl (by decide +kernel) ⟨Nat.le_of_ble_eq_true rfl, Nat.le_of_ble_eq_true rfl⟩) ⟨kw_blind (Zk_ok g), va_recv hK hst.1 rfl (WS_o23 g σ4), kw_pre (Zk_ok g) hK hZ hA hst⟩ rfl rfl hl.1 rfl (lv_room (Nat.le_of_ble_eq_true rfl)) d_Sd_type_38 ⟨Nat.le_of_ble_eq_true rfl, Nat.le_of_ble_eq_true rfl⟩) hst hA (fun σ5 H locs h hst => ?_)
          refine lv_aload_n hx hb d_Sd_type_41 rfl (lv_at hl 1 rfl) ?_
          refine lv_iload_n hx hb d_Sd_type_42 rfl (lv_at hl 2 rfl) ?_
          refine kw_callv (va_runV (As := [.int x1]) (rest := []) (b := g.1 51) ⟨hx, hb, hml, hown, hts⟩ (c_Sd_edited l x1 h) (cwV 1 hts (gd_v gw452 gw454 gs1 gw1 gw455) rfl rfl rfl (by decide +kernel) ⟨Nat.le_of_ble_eq_true rfl, Nat.le_of_ble_eq_true rfl⟩) ⟨kw_blind (Zk_ok g), va_recv hK hst.1 rfl (WS_o51 g σ5), kw_pre (Zk_ok g) hK hZ hA hst⟩ rfl rfl hl.1 rfl (lv_room (Nat.le_of_ble_eq_true rfl)) d_Sd_type_43 ⟨Nat.le_of_ble_eq_true rfl, Nat.le_of_ble_eq_true rfl⟩) hst hA (fun σ6 H locs h hst => ?_)
          refine lv_iconst (v := (1 : Int32)) hx hb d_Sd_type_46 (by decide) ?_
          exact kw_zret hx hb hr hlocks hst h d_Sd_type_47
        · replace h := h.2 hc
          refine lv_iconst (v := (0 : Int32)) hx hb d_Sd_type_30 (by decide) ?_
          exact kw_zret hx hb hr hlocks hst h d_Sd_type_31
    · replace h := h.2 hc
      refine lv_iconst (v := (0 : Int32)) hx hb d_Sd_type_14 (by decide) ?_
      exact kw_zret hx hb hr hlocks hst h d_Sd_type_15
set_option maxRecDepth 100000 in
set_option maxHeartbeats 4000000 in
theorem c_Sd_type (l : Launch) {D : va_G} {g : Gm} {sz : Nat} (x1 : Int32) (x2 : Int32) {σ : Sg} {post : Int32 → Sg → Prop} (h : wq_Sd_type x1 x2 σ post) : Met l y_Sd_type (.code y_Sd_type k_Sd_type 4 (some .boolean) :: GW) { frames := 2, cells := 0, slots := 0, locals := 82 } (PcW D vwCl (WS g) g (Zk g) σ sz [.ref (g.1 51), .int x1, .int x2]) (QiW D vwCl (WS g) post (va_A (WS g σ) sz)) 0 0 (va_A (WS g σ) sz) := by
  refine kw_entry (own := R_Sd) (by decide) rfl rfl (Nat.le_of_ble_eq_true rfl) ?_
  intro p e s m below meth c ls hsz C hin hl hst
  exact b_Sd_type_0 C x1 x2 σ _ _ ls hl hst h
/-! SchemaDesk.word (II)Z -/
abbrev k_Sd_word : ByteArray := prog_1_method_3_code
abbrev y_Sd_word : MethodName := ⟨"SchemaDesk", "word", "(II)Z"⟩
theorem d_Sd_word_0 : decode k_Sd_word 0 = .ok (.iload_n 1, 1) := by decide +kernel
theorem d_Sd_word_1 : decode k_Sd_word 1 = .ok (.invokestatic 77, 3) := by decide +kernel
theorem d_Sd_word_4 : decode k_Sd_word 4 = .ok (.ifCond .eq 14, 3) := by decide +kernel
theorem d_Sd_word_7 : decode k_Sd_word 7 = .ok (.iload_n 2, 1) := by decide +kernel
theorem d_Sd_word_8 : decode k_Sd_word 8 = .ok (.iconst 1, 1) := by decide +kernel
theorem d_Sd_word_9 : decode k_Sd_word 9 = .ok (.if_icmp .lt 9, 3) := by decide +kernel
theorem d_Sd_word_12 : decode k_Sd_word 12 = .ok (.iload_n 2, 1) := by decide +kernel
theorem d_Sd_word_13 : decode k_Sd_word 13 = .ok (.bipush 27, 2) := by decide +kernel
theorem d_Sd_word_15 : decode k_Sd_word 15 = .ok (.if_icmp .le 5, 3) := by decide +kernel
theorem d_Sd_word_18 : decode k_Sd_word 18 = .ok (.iconst 0, 1) := by decide +kernel
theorem d_Sd_word_19 : decode k_Sd_word 19 = .ok (.ireturn, 1) := by decide +kernel
theorem d_Sd_word_20 : decode k_Sd_word 20 = .ok (.aload_n 0, 1) := by decide +kernel
theorem d_Sd_word_21 : decode k_Sd_word 21 = .ok (.iload_n 1, 1) := by decide +kernel
theorem d_Sd_word_22 : decode k_Sd_word 22 = .ok (.invokevirtual 85, 3) := by decide +kernel
theorem d_Sd_word_25 : decode k_Sd_word 25 = .ok (.astore_n 3, 1) := by decide +kernel
theorem d_Sd_word_26 : decode k_Sd_word 26 = .ok (.iload_n 2, 1) := by decide +kernel
theorem d_Sd_word_27 : decode k_Sd_word 27 = .ok (.bipush 21, 2) := by decide +kernel
theorem d_Sd_word_29 : decode k_Sd_word 29 = .ok (.if_icmp .gt 7, 3) := by decide +kernel
theorem d_Sd_word_32 : decode k_Sd_word 32 = .ok (.iconst 1, 1) := by decide +kernel
theorem d_Sd_word_33 : decode k_Sd_word 33 = .ok (.goto 4, 3) := by decide +kernel
theorem d_Sd_word_36 : decode k_Sd_word 36 = .ok (.iconst 0, 1) := by decide +kernel
theorem d_Sd_word_37 : decode k_Sd_word 37 = .ok (.istore 4, 2) := by decide +kernel
theorem d_Sd_word_39 : decode k_Sd_word 39 = .ok (.aload_n 0, 1) := by decide +kernel
theorem d_Sd_word_40 : decode k_Sd_word 40 = .ok (.getfield 10, 3) := by decide +kernel
theorem d_Sd_word_43 : decode k_Sd_word 43 = .ok (.iload_n 2, 1) := by decide +kernel
theorem d_Sd_word_44 : decode k_Sd_word 44 = .ok (.invokevirtual 104, 3) := by decide +kernel
theorem d_Sd_word_47 : decode k_Sd_word 47 = .ok (.istore 5, 2) := by decide +kernel
theorem d_Sd_word_49 : decode k_Sd_word 49 = .ok (.aload_n 3, 1) := by decide +kernel
theorem d_Sd_word_50 : decode k_Sd_word 50 = .ok (.invokevirtual 89, 3) := by decide +kernel
theorem d_Sd_word_53 : decode k_Sd_word 53 = .ok (.iload 5, 2) := by decide +kernel
theorem d_Sd_word_55 : decode k_Sd_word 55 = .ok (.iload 4, 2) := by decide +kernel
theorem d_Sd_word_57 : decode k_Sd_word 57 = .ok (.ifCond .eq 7, 3) := by decide +kernel
theorem d_Sd_word_60 : decode k_Sd_word 60 = .ok (.iconst 3, 1) := by decide +kernel
theorem d_Sd_word_61 : decode k_Sd_word 61 = .ok (.goto 4, 3) := by decide +kernel
theorem d_Sd_word_64 : decode k_Sd_word 64 = .ok (.iconst 2, 1) := by decide +kernel
theorem d_Sd_word_65 : decode k_Sd_word 65 = .ok (.iadd, 1) := by decide +kernel
theorem d_Sd_word_66 : decode k_Sd_word 66 = .ok (.if_icmp .ge 5, 3) := by decide +kernel
theorem d_Sd_word_69 : decode k_Sd_word 69 = .ok (.iconst 0, 1) := by decide +kernel
theorem d_Sd_word_70 : decode k_Sd_word 70 = .ok (.ireturn, 1) := by decide +kernel
theorem d_Sd_word_71 : decode k_Sd_word 71 = .ok (.aload_n 3, 1) := by decide +kernel
theorem d_Sd_word_72 : decode k_Sd_word 72 = .ok (.aload_n 3, 1) := by decide +kernel
theorem d_Sd_word_73 : decode k_Sd_word 73 = .ok (.getfield 93, 3) := by decide +kernel
theorem d_Sd_word_76 : decode k_Sd_word 76 = .ok (.bipush 34, 2) := by decide +kernel
theorem d_Sd_word_78 : decode k_Sd_word 78 = .ok (.invokevirtual 97, 3) := by decide +kernel
theorem d_Sd_word_81 : decode k_Sd_word 81 = .ok (.iconst 0, 1) := by decide +kernel
theorem d_Sd_word_82 : decode k_Sd_word 82 = .ok (.istore 6, 2) := by decide +kernel
theorem d_Sd_word_84 : decode k_Sd_word 84 = .ok (.iload 6, 2) := by decide +kernel
theorem d_Sd_word_86 : decode k_Sd_word 86 = .ok (.iload 5, 2) := by decide +kernel
theorem d_Sd_word_88 : decode k_Sd_word 88 = .ok (.if_icmp .ge 27, 3) := by decide +kernel
theorem d_Sd_word_91 : decode k_Sd_word 91 = .ok (.aload_n 3, 1) := by decide +kernel
theorem d_Sd_word_92 : decode k_Sd_word 92 = .ok (.aload_n 3, 1) := by decide +kernel
theorem d_Sd_word_93 : decode k_Sd_word 93 = .ok (.getfield 93, 3) := by decide +kernel
theorem d_Sd_word_96 : decode k_Sd_word 96 = .ok (.aload_n 0, 1) := by decide +kernel
theorem d_Sd_word_97 : decode k_Sd_word 97 = .ok (.getfield 10, 3) := by decide +kernel
theorem d_Sd_word_100 : decode k_Sd_word 100 = .ok (.iload_n 2, 1) := by decide +kernel
theorem d_Sd_word_101 : decode k_Sd_word 101 = .ok (.iload 6, 2) := by decide +kernel
theorem d_Sd_word_103 : decode k_Sd_word 103 = .ok (.invokevirtual 108, 3) := by decide +kernel
theorem d_Sd_word_106 : decode k_Sd_word 106 = .ok (.invokevirtual 97, 3) := by decide +kernel
theorem d_Sd_word_109 : decode k_Sd_word 109 = .ok (.iinc 6 1, 3) := by decide +kernel
theorem d_Sd_word_112 : decode k_Sd_word 112 = .ok (.goto (-28), 3) := by decide +kernel
theorem d_Sd_word_115 : decode k_Sd_word 115 = .ok (.aload_n 3, 1) := by decide +kernel
theorem d_Sd_word_116 : decode k_Sd_word 116 = .ok (.aload_n 3, 1) := by decide +kernel
theorem d_Sd_word_117 : decode k_Sd_word 117 = .ok (.getfield 93, 3) := by decide +kernel
theorem d_Sd_word_120 : decode k_Sd_word 120 = .ok (.bipush 34, 2) := by decide +kernel
theorem d_Sd_word_122 : decode k_Sd_word 122 = .ok (.invokevirtual 97, 3) := by decide +kernel
theorem d_Sd_word_125 : decode k_Sd_word 125 = .ok (.iload 4, 2) := by decide +kernel
theorem d_Sd_word_127 : decode k_Sd_word 127 = .ok (.ifCond .eq 13, 3) := by decide +kernel
theorem d_Sd_word_130 : decode k_Sd_word 130 = .ok (.aload_n 3, 1) := by decide +kernel
theorem d_Sd_word_131 : decode k_Sd_word 131 = .ok (.aload_n 3, 1) := by decide +kernel
theorem d_Sd_word_132 : decode k_Sd_word 132 = .ok (.getfield 93, 3) := by decide +kernel
theorem d_Sd_word_135 : decode k_Sd_word 135 = .ok (.bipush 58, 2) := by decide +kernel
theorem d_Sd_word_137 : decode k_Sd_word 137 = .ok (.invokevirtual 97, 3) := by decide +kernel
theorem d_Sd_word_140 : decode k_Sd_word 140 = .ok (.aload_n 0, 1) := by decide +kernel
theorem d_Sd_word_141 : decode k_Sd_word 141 = .ok (.iload_n 1, 1) := by decide +kernel
theorem d_Sd_word_142 : decode k_Sd_word 142 = .ok (.invokevirtual 101, 3) := by decide +kernel
theorem d_Sd_word_145 : decode k_Sd_word 145 = .ok (.iconst 1, 1) := by decide +kernel
theorem d_Sd_word_146 : decode k_Sd_word 146 = .ok (.ireturn, 1) := by decide +kernel
theorem gw399 : (Jvm.Cond.fieldLink "SchemaDesk" (10 : Nat) "SchemaDesk" "words" "LSchemaDesk$WordBook;") ∈ GW := gw_t2 (List.mem_of_getElem? (i := 159) rfl) rfl
theorem gw460 : (Jvm.Cond.methodLink "SchemaDesk" (104 : Nat) ({ cls := "SchemaDesk$WordBook", name := "sizeOf", desc := "(I)I" } : Jvm.MethodName)) ∈ GW := gw_t2 (List.mem_of_getElem? (i := 220) rfl) rfl
theorem gw461 : (Jvm.Cond.instanceMethod ({ cls := "SchemaDesk$WordBook", name := "sizeOf", desc := "(I)I" } : Jvm.MethodName)) ∈ GW := gw_t2 (List.mem_of_getElem? (i := 221) rfl) rfl
theorem gw462 : (Jvm.Cond.selects "SchemaDesk$WordBook" ({ cls := "SchemaDesk$WordBook", name := "sizeOf", desc := "(I)I" } : Jvm.MethodName) ({ cls := "SchemaDesk$WordBook", name := "sizeOf", desc := "(I)I" } : Jvm.MethodName)) ∈ GW := gw_t2 (List.mem_of_getElem? (i := 222) rfl) rfl
theorem gw463 : (Jvm.Cond.code ({ cls := "SchemaDesk$WordBook", name := "sizeOf", desc := "(I)I" } : Jvm.MethodName) prog_10_method_2_code (2 : Nat) (Option.some Jvm.ClassFile.FieldType.int)) ∈ GW := gw_t2 (List.mem_of_getElem? (i := 223) rfl) rfl
theorem gw464 : (Jvm.Cond.methodLink "SchemaDesk" (108 : Nat) ({ cls := "SchemaDesk$WordBook", name := "characterOf", desc := "(II)C" } : Jvm.MethodName)) ∈ GW := gw_t2 (List.mem_of_getElem? (i := 224) rfl) rfl
theorem gw465 : (Jvm.Cond.instanceMethod ({ cls := "SchemaDesk$WordBook", name := "characterOf", desc := "(II)C" } : Jvm.MethodName)) ∈ GW := gw_t2 (List.mem_of_getElem? (i := 225) rfl) rfl
theorem gw466 : (Jvm.Cond.selects "SchemaDesk$WordBook" ({ cls := "SchemaDesk$WordBook", name := "characterOf", desc := "(II)C" } : Jvm.MethodName) ({ cls := "SchemaDesk$WordBook", name := "characterOf", desc := "(II)C" } : Jvm.MethodName)) ∈ GW := gw_t2 (List.mem_of_getElem? (i := 226) rfl) rfl
theorem gw467 : (Jvm.Cond.code ({ cls := "SchemaDesk$WordBook", name := "characterOf", desc := "(II)C" } : Jvm.MethodName) prog_10_method_3_code (3 : Nat) (Option.some Jvm.ClassFile.FieldType.char)) ∈ GW := gw_t2 (List.mem_of_getElem? (i := 227) rfl) rfl
def wb_Sd_word_0 (F : Nat → Nat → Int32 → Int32 → Int32 → Int32 → Int32 → Sg → Prop) (post : Int32 → Sg → Prop) (x1 : Int32) (x2 : Int32) (σ : Sg) : Prop := (wq_Sd_isText x1 σ (fun r1 σ1 => ((r1 = 0 → (narrow .boolean (.int (0 : Int32)) = .int (0 : Int32) ∧ post (0 : Int32) σ1)) ∧ (¬ r1 = 0 → ((x2 < (1 : Int32) → (narrow .boolean (.int (0 : Int32)) = .int (0 : Int32) ∧ post (0 : Int32) σ1)) ∧ (¬ x2 < (1 : Int32) → ((x2 ≤ (27 : Int32) → (wq_Sd_textOf x1 σ1 (fun r2 σ2 => (r2 = 0 ∨ r2 = 13) ∧ (((21 : Int32) < x2 → F 1 r2 x1 x2 (0 : Int32) 0 0 σ2) ∧ (¬ (21 : Int32) < x2 → F 1 r2 x1 x2 (1 : Int32) 0 0 σ2))))) ∧ (¬ x2 ≤ (27 : Int32) → (narrow .boolean (.int (0 : Int32)) = .int (0 : Int32) ∧ post (0 : Int32) σ1)))))))))
def wb_Sd_word_1 (F : Nat → Nat → Int32 → Int32 → Int32 → Int32 → Int32 → Sg → Prop) (post : Int32 → Sg → Prop) (x1 : Int32) (x2 : Int32) (b3 : Nat) (x4 : Int32) (σ : Sg) : Prop := (wq_Wb_sizeOf x2 σ (fun r1 σ1 => (wq_Tx_room b3 σ1 (fun r2 σ2 => ((x4 = 0 → (((r1 + (2 : Int32)) ≤ r2 → (wq_Tx_put b3 (σ2.1 (b3 + 10) 1) (34 : Int32) σ2 (fun σ3 => F 2 b3 x1 x2 x4 r1 (0 : Int32) σ3))) ∧ (¬ (r1 + (2 : Int32)) ≤ r2 → (narrow .boolean (.int (0 : Int32)) = .int (0 : Int32) ∧ post (0 : Int32) σ2)))) ∧ (¬ x4 = 0 → (((r1 + (3 : Int32)) ≤ r2 → (wq_Tx_put b3 (σ2.1 (b3 + 10) 1) (34 : Int32) σ2 (fun σ3 => F 2 b3 x1 x2 x4 r1 (0 : Int32) σ3))) ∧ (¬ (r1 + (3 : Int32)) ≤ r2 → (narrow .boolean (.int (0 : Int32)) = .int (0 : Int32) ∧ post (0 : Int32) σ2)))))))))
def wb_Sd_word_2 (F : Nat → Nat → Int32 → Int32 → Int32 → Int32 → Int32 → Sg → Prop) (post : Int32 → Sg → Prop) (x1 : Int32) (x2 : Int32) (b3 : Nat) (x4 : Int32) (x5 : Int32) (x6 : Int32) (σ : Sg) : Prop := ((x5 ≤ x6 → (wq_Tx_put b3 (σ.1 (b3 + 10) 1) (34 : Int32) σ (fun σ1 => ((x4 = 0 → (wq_Sd_edited x1 σ1 (fun σ2 => (narrow .boolean (.int (1 : Int32)) = .int (1 : Int32) ∧ post (1 : Int32) σ2)))) ∧ (¬ x4 = 0 → (wq_Tx_put b3 (σ1.1 (b3 + 10) 1) (58 : Int32) σ1 (fun σ2 => (wq_Sd_edited x1 σ2 (fun σ3 => (narrow .boolean (.int (1 : Int32)) = .int (1 : Int32) ∧ post (1 : Int32) σ3)))))))))) ∧ (¬ x5 ≤ x6 → (wq_Wb_characterOf x2 x6 σ (fun r1 σ1 => (wq_Tx_put b3 (σ.1 (b3 + 10) 1) r1 σ1 (fun σ2 => F 2 b3 x1 x2 x4 x5 (x6 + 1) σ2))))))
def wp_Sd_word (post : Int32 → Sg → Prop) : Nat → Nat → Nat → Int32 → Int32 → Int32 → Int32 → Int32 → Sg → Prop
  | 0, _, _, _, _, _, _, _, _ => False
  | n + 1, k, b3, x1, x2, x4, x5, x6, σ => match k with
    | 0 => wb_Sd_word_0 (wp_Sd_word post n) post x1 x2 σ
    | 1 => wb_Sd_word_1 (wp_Sd_word post n) post x1 x2 b3 x4 σ
    | 2 => wb_Sd_word_2 (wp_Sd_word post n) post x1 x2 b3 x4 x5 x6 σ
    | _ => False
def wq_Sd_word (x1 : Int32) (x2 : Int32) (σ : Sg) (post : Int32 → Sg → Prop) : Prop := ∃ n, wp_Sd_word post n 0 0 x1 x2 0 0 0 σ
def J_Sd_word_1_0 (p : Program) (l : Launch) (e : Env) (s : State) (m : MethodId) (args : Array Value) (below : List Frame) (meth : Method) (c : Code) (D : va_G) (g : Gm) (A : Nat → Prop) (post : Int32 → Sg → Prop) (F : Nat → Nat → Int32 → Int32 → Int32 → Int32 → Int32 → Sg → Prop) : Prop := ∀ (x1 : Int32) (x2 : Int32) (x4 : Int32) (σ : Sg) (H : Heap) (locs : List Loc) (ls : Array Slot), lv_has ls 7 [(0, .ref (g.1 51)), (1, .int x1), (2, .int x2), (3, .ref (g.1 10)), (4, .int x4)] → Wst D vwCl (WS g) A s σ H locs → F 1 0 x1 x2 x4 0 0 σ → W p l e { frames := 2, cells := 0, slots := 0, locals := 82 } s m args below meth c H locs 0 0 (MQ below (QiW D vwCl (WS g) post A) args s 0 0 A) (F0 m 39 ls [])
def J_Sd_word_1_13 (p : Program) (l : Launch) (e : Env) (s : State) (m : MethodId) (args : Array Value) (below : List Frame) (meth : Method) (c : Code) (D : va_G) (g : Gm) (A : Nat → Prop) (post : Int32 → Sg → Prop) (F : Nat → Nat → Int32 → Int32 → Int32 → Int32 → Int32 → Sg → Prop) : Prop := ∀ (x1 : Int32) (x2 : Int32) (x4 : Int32) (σ : Sg) (H : Heap) (locs : List Loc) (ls : Array Slot), lv_has ls 7 [(0, .ref (g.1 51)), (1, .int x1), (2, .int x2), (3, .ref (g.1 23)), (4, .int x4)] → Wst D vwCl (WS g) A s σ H locs → F 1 13 x1 x2 x4 0 0 σ → W p l e { frames := 2, cells := 0, slots := 0, locals := 82 } s m args below meth c H locs 0 0 (MQ below (QiW D vwCl (WS g) post A) args s 0 0 A) (F0 m 39 ls [])
def J_Sd_word_2_0 (p : Program) (l : Launch) (e : Env) (s : State) (m : MethodId) (args : Array Value) (below : List Frame) (meth : Method) (c : Code) (D : va_G) (g : Gm) (A : Nat → Prop) (post : Int32 → Sg → Prop) (F : Nat → Nat → Int32 → Int32 → Int32 → Int32 → Int32 → Sg → Prop) : Prop := ∀ (x1 : Int32) (x2 : Int32) (x4 : Int32) (x5 : Int32) (x6 : Int32) (σ : Sg) (H : Heap) (locs : List Loc) (ls : Array Slot), lv_has ls 7 [(0, .ref (g.1 51)), (1, .int x1), (2, .int x2), (3, .ref (g.1 10)), (4, .int x4), (5, .int x5), (6, .int x6)] → Wst D vwCl (WS g) A s σ H locs → F 2 0 x1 x2 x4 x5 x6 σ → W p l e { frames := 2, cells := 0, slots := 0, locals := 82 } s m args below meth c H locs 0 0 (MQ below (QiW D vwCl (WS g) post A) args s 0 0 A) (F0 m 84 ls [])
def J_Sd_word_2_13 (p : Program) (l : Launch) (e : Env) (s : State) (m : MethodId) (args : Array Value) (below : List Frame) (meth : Method) (c : Code) (D : va_G) (g : Gm) (A : Nat → Prop) (post : Int32 → Sg → Prop) (F : Nat → Nat → Int32 → Int32 → Int32 → Int32 → Int32 → Sg → Prop) : Prop := ∀ (x1 : Int32) (x2 : Int32) (x4 : Int32) (x5 : Int32) (x6 : Int32) (σ : Sg) (H : Heap) (locs : List Loc) (ls : Array Slot), lv_has ls 7 [(0, .ref (g.1 51)), (1, .int x1), (2, .int x2), (3, .ref (g.1 23)), (4, .int x4), (5, .int x5), (6, .int x6)] → Wst D vwCl (WS g) A s σ H locs → F 2 13 x1 x2 x4 x5 x6 σ → W p l e { frames := 2, cells := 0, slots := 0, locals := 82 } s m args below meth c H locs 0 0 (MQ below (QiW D vwCl (WS g) post A) args s 0 0 A) (F0 m 84 ls [])
set_option maxRecDepth 100000 in
set_option maxHeartbeats 4000000 in
theorem b_Sd_word_0 {p : Program} {l : Launch} {e : Env} {s : State} {m : MethodId} {args : Array Value} {below : List Frame} {meth : Method} {c : Code} {D : va_G} {g : Gm} {A : Nat → Prop} {post : Int32 → Sg → Prop} {F : Nat → Nat → Int32 → Int32 → Int32 → Int32 → Int32 → Sg → Prop} (C : kC p s m args meth c k_Sd_word 7 (some .boolean) GW R_Sd D vwCl g (Zk g) A) (j1_0 : J_Sd_word_1_0 p l e s m args below meth c D g A post F) (j1_13 : J_Sd_word_1_13 p l e s m args below meth c D g A post F) (x1 : Int32) (x2 : Int32) (σ : Sg) (H : Heap) (locs : List Loc) (ls : Array Slot) (hl : lv_has ls 7 [(0, .ref (g.1 51)), (1, .int x1), (2, .int x2)]) (hst : Wst D vwCl (WS g) A s σ H locs) (h : wb_Sd_word_0 F post x1 x2 σ) : W p l e { frames := 2, cells := 0, slots := 0, locals := 82 } s m args below meth c H locs 0 0 (MQ below (QiW D vwCl (WS g) post A) args s 0 0 A) (F0 m 0 ls []) := by
  obtain ⟨hx, hb, hr, hml, hown, hts, hlocks, hK, hZ, hA⟩ := C
  unfold wb_Sd_word_0 at h
  refine lv_iload_n hx hb d_Sd_word_0 rfl (lv_at hl 1 rfl) ?_
  refine kw_calli (va_runS (As := [.int x1]) (rest := []) ⟨hx, hb, hml, hown, hts⟩ (c_Sd_isText l x1 h) (cwS 1 hts (gd_s gw431 gw432 gw1 gw433) rfl rfl rfl (by decide +kernel) ⟨Nat.le_of_ble_eq_true rfl, Nat.le_of_ble_eq_true rfl⟩) ⟨kw_blind (Zk_ok g), kw_pre (Zk_ok g) hK hZ hA hst⟩ rfl rfl hl.1 rfl (lv_room (Nat.le_of_ble_eq_true rfl)) d_Sd_word_1 ⟨Nat.le_of_ble_eq_true rfl, Nat.le_of_ble_eq_true rfl⟩) hst hA (fun r1 σ1 H locs h hst => ?_)
  refine lv_if_eq (tgt := 18) hx hb d_Sd_word_4 (by decide) (fun hc => ?_) (fun hc => ?_)
  · replace h := h.1 hc
    refine lv_iconst (v := (0 : Int32)) hx hb d_Sd_word_18 (by decide) ?_
    exact kw_zret hx hb hr hlocks hst h d_Sd_word_19
  · replace h := h.2 hc
    refine lv_iload_n hx hb d_Sd_word_7 rfl (lv_at hl 2 rfl) ?_
    refine lv_iconst (v := (1 : Int32)) hx hb d_Sd_word_8 (by decide) ?_
    refine lv_icmp_lt (tgt := 18) hx hb d_Sd_word_9 (by decide) (fun hc => ?_) (fun hc => ?_)
    · replace h := h.1 hc
      refine lv_iconst (v := (0 : Int32)) hx hb d_Sd_word_18 (by decide) ?_
      exact kw_zret hx hb hr hlocks hst h d_Sd_word_19
    · replace h := h.2 hc
      refine lv_iload_n hx hb d_Sd_word_12 rfl (lv_at hl 2 rfl) ?_
      refine lv_bipush (v := (27 : Int32)) hx hb d_Sd_word_13 (by decide) ?_
      refine lv_icmp_le (tgt := 20) hx hb d_Sd_word_15 (by decide) (fun hc => ?_) (fun hc => ?_)
      · replace h := h.1 hc
        refine lv_aload_n hx hb d_Sd_word_20 rfl (lv_at hl 0 rfl) ?_
        refine lv_iload_n hx hb d_Sd_word_21 rfl (lv_at hl 1 rfl) ?_
        refine kw_callr (va_runV (As := [.int x1]) (rest := []) (b := g.1 51) ⟨hx, hb, hml, hown, hts⟩ (c_Sd_textOf l x1 h) (cwV 1 hts (gd_v gw437 gw439 gs0 gw1 gw440) rfl rfl rfl (by decide +kernel) ⟨Nat.le_of_ble_eq_true rfl, Nat.le_of_ble_eq_true rfl⟩) ⟨kw_blind (Zk_ok g), va_recv hK hst.1 rfl (WS_o51 g σ1), kw_pre (Zk_ok g) hK hZ hA hst⟩ rfl rfl hl.1 rfl (lv_room (Nat.le_of_ble_eq_true rfl)) d_Sd_word_22 ⟨Nat.le_of_ble_eq_true rfl, Nat.le_of_ble_eq_true rfl⟩) hst hA (fun r2 σ2 H locs h hst => ?_)
        obtain ⟨hb1, h⟩ := h
        rcases hb1 with rfl | rfl
        · refine lv_astore_n hx hb d_Sd_word_25 rfl hl (by decide) rfl (fun ls hl => ?_)
          have hl : lv_has ls 7 [(3, .ref (g.1 10)), (0, .ref (g.1 51)), (1, .int x1), (2, .int x2)] := hl
          refine lv_iload_n hx hb d_Sd_word_26 rfl (lv_at hl 3 rfl) ?_
          refine lv_bipush (v := (21 : Int32)) hx hb d_Sd_word_27 (by decide) ?_
          refine lv_icmp_gt (tgt := 36) hx hb d_Sd_word_29 (by decide) (fun hc => ?_) (fun hc => ?_)
          · replace h := h.1 hc
            refine lv_iconst (v := (0 : Int32)) hx hb d_Sd_word_36 (by decide) ?_
            refine lv_istore hx hb d_Sd_word_37 hl (by decide) rfl (fun ls hl => ?_)
            have hl : lv_has ls 7 [(4, .int (0 : Int32)), (3, .ref (g.1 10)), (0, .ref (g.1 51)), (1, .int x1), (2, .int x2)] := hl
            exact j1_0 x1 x2 (0 : Int32) σ2 _ _ _ (lv_sub hl [2, 3, 4, 1, 0] rfl) hst h
          · replace h := h.2 hc
            refine lv_iconst (v := (1 : Int32)) hx hb d_Sd_word_32 (by decide) ?_
            refine lv_goto (tgt := 37) hx hb d_Sd_word_33 (by decide) ?_
            refine lv_istore hx hb d_Sd_word_37 hl (by decide) rfl (fun ls hl => ?_)
            have hl : lv_has ls 7 [(4, .int (1 : Int32)), (3, .ref (g.1 10)), (0, .ref (g.1 51)), (1, .int x1), (2, .int x2)] := hl
            exact j1_0 x1 x2 (1 : Int32) σ2 _ _ _ (lv_sub hl [2, 3, 4, 1, 0] rfl) hst h
        · refine lv_astore_n hx hb d_Sd_word_25 rfl hl (by decide) rfl (fun ls hl => ?_)
          have hl : lv_has ls 7 [(3, .ref (g.1 23)), (0, .ref (g.1 51)), (1, .int x1), (2, .int x2)] := hl
          refine lv_iload_n hx hb d_Sd_word_26 rfl (lv_at hl 3 rfl) ?_
          refine lv_bipush (v := (21 : Int32)) hx hb d_Sd_word_27 (by decide) ?_
          refine lv_icmp_gt (tgt := 36) hx hb d_Sd_word_29 (by decide) (fun hc => ?_) (fun hc => ?_)
          · replace h := h.1 hc
            refine lv_iconst (v := (0 : Int32)) hx hb d_Sd_word_36 (by decide) ?_
            refine lv_istore hx hb d_Sd_word_37 hl (by decide) rfl (fun ls hl => ?_)
            have hl : lv_has ls 7 [(4, .int (0 : Int32)), (3, .ref (g.1 23)), (0, .ref (g.1 51)), (1, .int x1), (2, .int x2)] := hl
            exact j1_13 x1 x2 (0 : Int32) σ2 _ _ _ (lv_sub hl [2, 3, 4, 1, 0] rfl) hst h
          · replace h := h.2 hc
            refine lv_iconst (v := (1 : Int32)) hx hb d_Sd_word_32 (by decide) ?_
            refine lv_goto (tgt := 37) hx hb d_Sd_word_33 (by decide) ?_
            refine lv_istore hx hb d_Sd_word_37 hl (by decide) rfl (fun ls hl => ?_)
            have hl : lv_has ls 7 [(4, .int (1 : Int32)), (3, .ref (g.1 23)), (0, .ref (g.1 51)), (1, .int x1), (2, .int x2)] := hl
            exact j1_13 x1 x2 (1 : Int32) σ2 _ _ _ (lv_sub hl [2, 3, 4, 1, 0] rfl) hst h
      · replace h := h.2 hc
        refine lv_iconst (v := (0 : Int32)) hx hb d_Sd_word_18 (by decide) ?_
        exact kw_zret hx hb hr hlocks hst h d_Sd_word_19
set_option maxRecDepth 100000 in
set_option maxHeartbeats 4000000 in
theorem b_Sd_word_1_0 {p : Program} {l : Launch} {e : Env} {s : State} {m : MethodId} {args : Array Value} {below : List Frame} {meth : Method} {c : Code} {D : va_G} {g : Gm} {A : Nat → Prop} {post : Int32 → Sg → Prop} {F : Nat → Nat → Int32 → Int32 → Int32 → Int32 → Int32 → Sg → Prop} (C : kC p s m args meth c k_Sd_word 7 (some .boolean) GW R_Sd D vwCl g (Zk g) A) (j2_0 : J_Sd_word_2_0 p l e s m args below meth c D g A post F) (x1 : Int32) (x2 : Int32) (x4 : Int32) (σ : Sg) (H : Heap) (locs : List Loc) (ls : Array Slot) (hl : lv_has ls 7 [(0, .ref (g.1 51)), (1, .int x1), (2, .int x2), (3, .ref (g.1 10)), (4, .int x4)]) (hst : Wst D vwCl (WS g) A s σ H locs) (h : wb_Sd_word_1 F post x1 x2 0 x4 σ) : W p l e { frames := 2, cells := 0, slots := 0, locals := 82 } s m args below meth c H locs 0 0 (MQ below (QiW D vwCl (WS g) post A) args s 0 0 A) (F0 m 39 ls []) := by
  obtain ⟨hx, hb, hr, hml, hown, hts, hlocks, hK, hZ, hA⟩ := C
  unfold wb_Sd_word_1 at h
  refine lv_aload_n hx hb d_Sd_word_39 rfl (lv_at hl 0 rfl) ?_
  refine va_get (D := D) (ci := 9) (C := R_Sd) (T := T_Sd) (N := 9) hx hb hts in_Sd hown hK hst.1 51 (WS_o51 g σ) rfl 0 (by decide) (hts _ gw399) (fun _ h9 => h9) rfl d_Sd_word_40 ?_
  refine lv_iload_n hx hb d_Sd_word_43 rfl (lv_at hl 2 rfl) ?_
  refine kw_calli (va_runV (As := [.int x2]) (rest := []) (b := g.1 26) ⟨hx, hb, hml, hown, hts⟩ (c_Wb_sizeOf l x2 h) (cwV 1 hts (gd_v gw460 gw461 gw462 gw2 gw463) rfl rfl rfl (by decide +kernel) ⟨Nat.le_of_ble_eq_true rfl, Nat.le_of_ble_eq_true rfl⟩) ⟨kw_blind (Zk_ok g), va_recv hK hst.1 rfl (WS_o26 g σ), kw_pre (Zk_ok g) hK hZ hA hst⟩ rfl rfl hl.1 rfl (lv_room (Nat.le_of_ble_eq_true rfl)) d_Sd_word_44 ⟨Nat.le_of_ble_eq_true rfl, Nat.le_of_ble_eq_true rfl⟩) hst hA (fun r1 σ1 H locs h hst => ?_)
  refine lv_istore hx hb d_Sd_word_47 hl (by decide) rfl (fun ls hl => ?_)
  have hl : lv_has ls 7 [(5, .int r1), (0, .ref (g.1 51)), (1, .int x1), (2, .int x2), (3, .ref (g.1 10)), (4, .int x4)] := hl
  refine lv_aload_n hx hb d_Sd_word_49 rfl (lv_at hl 4 rfl) ?_
  refine kw_calli (va_runV (As := []) (rest := []) (b := g.1 10) ⟨hx, hb, hml, hown, hts⟩ (c_Tx_room_0 l h) (cwV 0 hts (gd_v gw441 gw442 gw443 gw8 gw444) rfl rfl rfl (by decide +kernel) ⟨Nat.le_of_ble_eq_true rfl, Nat.le_of_ble_eq_true rfl⟩) ⟨kw_blind (Zk_ok g), va_recv hK hst.1 rfl (WS_o10 g σ1), kw_pre (Zk_ok g) hK hZ hA hst⟩ rfl rfl hl.1 rfl (lv_room (Nat.le_of_ble_eq_true rfl)) d_Sd_word_50 ⟨Nat.le_of_ble_eq_true rfl, Nat.le_of_ble_eq_true rfl⟩) hst hA (fun r2 σ2 H locs h hst => ?_)
  refine lv_iload hx hb d_Sd_word_53 (lv_at hl 0 rfl) ?_
  refine lv_iload hx hb d_Sd_word_55 (lv_at hl 5 rfl) ?_
  refine lv_if_eq (tgt := 64) hx hb d_Sd_word_57 (by decide) (fun hc => ?_) (fun hc => ?_)
  · replace h := h.1 hc
    refine lv_iconst (v := (2 : Int32)) hx hb d_Sd_word_64 (by decide) ?_
    refine lv_iadd hx hb d_Sd_word_65 ?_
    refine lv_icmp_ge (tgt := 71) hx hb d_Sd_word_66 (by decide) (fun hc => ?_) (fun hc => ?_)
    · replace h := h.1 hc
      refine lv_aload_n hx hb d_Sd_word_71 rfl (lv_at hl 4 rfl) ?_
      refine lv_aload_n hx hb d_Sd_word_72 rfl (lv_at hl 4 rfl) ?_
      refine va_get (D := D) (ci := 1) (C := R_Tx) (T := T_Tx) (N := 2) hx hb hts in_Tx hown hK hst.1 10 (WS_o10 g σ2) rfl 1 (by decide) (hts _ gw113) (fun _ h9 => h9) rfl d_Sd_word_73 ?_
      refine lv_bipush (v := (34 : Int32)) hx hb d_Sd_word_76 (by decide) ?_
      refine kw_callv (va_runV (As := [.int (σ2.1 10 1), .int (34 : Int32)]) (rest := []) (b := g.1 10) ⟨hx, hb, hml, hown, hts⟩ (c_Tx_put_0 l (σ2.1 10 1) (34 : Int32) h) (cwV 2 hts (gd_v gw445 gw446 gw447 gw8 gw448) rfl rfl rfl (by decide +kernel) ⟨Nat.le_of_ble_eq_true rfl, Nat.le_of_ble_eq_true rfl⟩) ⟨kw_blind (Zk_ok g), va_recv hK hst.1 rfl (WS_o10 g σ2), kw_pre (Zk_ok g) hK hZ hA hst⟩ rfl rfl hl.1 rfl (lv_room (Nat.le_of_ble_eq_true rfl)) d_Sd_word_78 ⟨Nat.le_of_ble_eq_true rfl, Nat.le_of_ble_eq_true rfl⟩) hst hA (fun σ3 H locs h hst => ?_)
      refine lv_iconst (v := (0 : Int32)) hx hb d_Sd_word_81 (by decide) ?_
      refine lv_istore hx hb d_Sd_word_82 hl (by decide) rfl (fun ls hl => ?_)
      have hl : lv_has ls 7 [(6, .int (0 : Int32)), (5, .int r1), (0, .ref (g.1 51)), (1, .int x1), (2, .int x2), (3, .ref (g.1 10)), (4, .int x4)] := hl
      exact j2_0 x1 x2 x4 r1 (0 : Int32) σ3 _ _ _ (lv_sub hl [2, 3, 4, 5, 6, 1, 0] rfl) hst h
    · replace h := h.2 hc
      refine lv_iconst (v := (0 : Int32)) hx hb d_Sd_word_69 (by decide) ?_
      exact kw_zret hx hb hr hlocks hst h d_Sd_word_70
  · replace h := h.2 hc
    refine lv_iconst (v := (3 : Int32)) hx hb d_Sd_word_60 (by decide) ?_
    refine lv_goto (tgt := 65) hx hb d_Sd_word_61 (by decide) ?_
    refine lv_iadd hx hb d_Sd_word_65 ?_
    refine lv_icmp_ge (tgt := 71) hx hb d_Sd_word_66 (by decide) (fun hc => ?_) (fun hc => ?_)
    · replace h := h.1 hc
      refine lv_aload_n hx hb d_Sd_word_71 rfl (lv_at hl 4 rfl) ?_
      refine lv_aload_n hx hb d_Sd_word_72 rfl (lv_at hl 4 rfl) ?_
      refine va_get (D := D) (ci := 1) (C := R_Tx) (T := T_Tx) (N := 2) hx hb hts in_Tx hown hK hst.1 10 (WS_o10 g σ2) rfl 1 (by decide) (hts _ gw113) (fun _ h9 => h9) rfl d_Sd_word_73 ?_
      refine lv_bipush (v := (34 : Int32)) hx hb d_Sd_word_76 (by decide) ?_
      refine kw_callv (va_runV (As := [.int (σ2.1 10 1), .int (34 : Int32)]) (rest := []) (b := g.1 10) ⟨hx, hb, hml, hown, hts⟩ (c_Tx_put_0 l (σ2.1 10 1) (34 : Int32) h) (cwV 2 hts (gd_v gw445 gw446 gw447 gw8 gw448) rfl rfl rfl (by decide +kernel) ⟨Nat.le_of_ble_eq_true rfl, Nat.le_of_ble_eq_true rfl⟩) ⟨kw_blind (Zk_ok g), va_recv hK hst.1 rfl (WS_o10 g σ2), kw_pre (Zk_ok g) hK hZ hA hst⟩ rfl rfl hl.1 rfl (lv_room (Nat.le_of_ble_eq_true rfl)) d_Sd_word_78 ⟨Nat.le_of_ble_eq_true rfl, Nat.le_of_ble_eq_true rfl⟩) hst hA (fun σ3 H locs h hst => ?_)
      refine lv_iconst (v := (0 : Int32)) hx hb d_Sd_word_81 (by decide) ?_
      refine lv_istore hx hb d_Sd_word_82 hl (by decide) rfl (fun ls hl => ?_)
      have hl : lv_has ls 7 [(6, .int (0 : Int32)), (5, .int r1), (0, .ref (g.1 51)), (1, .int x1), (2, .int x2), (3, .ref (g.1 10)), (4, .int x4)] := hl
      exact j2_0 x1 x2 x4 r1 (0 : Int32) σ3 _ _ _ (lv_sub hl [2, 3, 4, 5, 6, 1, 0] rfl) hst h
    · replace h := h.2 hc
      refine lv_iconst (v := (0 : Int32)) hx hb d_Sd_word_69 (by decide) ?_
      exact kw_zret hx hb hr hlocks hst h d_Sd_word_70
set_option maxRecDepth 100000 in
set_option maxHeartbeats 4000000 in
theorem b_Sd_word_1_13 {p : Program} {l : Launch} {e : Env} {s : State} {m : MethodId} {args : Array Value} {below : List Frame} {meth : Method} {c : Code} {D : va_G} {g : Gm} {A : Nat → Prop} {post : Int32 → Sg → Prop} {F : Nat → Nat → Int32 → Int32 → Int32 → Int32 → Int32 → Sg → Prop} (C : kC p s m args meth c k_Sd_word 7 (some .boolean) GW R_Sd D vwCl g (Zk g) A) (j2_13 : J_Sd_word_2_13 p l e s m args below meth c D g A post F) (x1 : Int32) (x2 : Int32) (x4 : Int32) (σ : Sg) (H : Heap) (locs : List Loc) (ls : Array Slot) (hl : lv_has ls 7 [(0, .ref (g.1 51)), (1, .int x1), (2, .int x2), (3, .ref (g.1 23)), (4, .int x4)]) (hst : Wst D vwCl (WS g) A s σ H locs) (h : wb_Sd_word_1 F post x1 x2 13 x4 σ) : W p l e { frames := 2, cells := 0, slots := 0, locals := 82 } s m args below meth c H locs 0 0 (MQ below (QiW D vwCl (WS g) post A) args s 0 0 A) (F0 m 39 ls []) := by
  obtain ⟨hx, hb, hr, hml, hown, hts, hlocks, hK, hZ, hA⟩ := C
  unfold wb_Sd_word_1 at h
  refine lv_aload_n hx hb d_Sd_word_39 rfl (lv_at hl 0 rfl) ?_
  refine va_get (D := D) (ci := 9) (C := R_Sd) (T := T_Sd) (N := 9) hx hb hts in_Sd hown hK hst.1 51 (WS_o51 g σ) rfl 0 (by decide) (hts _ gw399) (fun _ h9 => h9) rfl d_Sd_word_40 ?_
  refine lv_iload_n hx hb d_Sd_word_43 rfl (lv_at hl 2 rfl) ?_
  refine kw_calli (va_runV (As := [.int x2]) (rest := []) (b := g.1 26) ⟨hx, hb, hml, hown, hts⟩ (c_Wb_sizeOf l x2 h) (cwV 1 hts (gd_v gw460 gw461 gw462 gw2 gw463) rfl rfl rfl (by decide +kernel) ⟨Nat.le_of_ble_eq_true rfl, Nat.le_of_ble_eq_true rfl⟩) ⟨kw_blind (Zk_ok g), va_recv hK hst.1 rfl (WS_o26 g σ), kw_pre (Zk_ok g) hK hZ hA hst⟩ rfl rfl hl.1 rfl (lv_room (Nat.le_of_ble_eq_true rfl)) d_Sd_word_44 ⟨Nat.le_of_ble_eq_true rfl, Nat.le_of_ble_eq_true rfl⟩) hst hA (fun r1 σ1 H locs h hst => ?_)
  refine lv_istore hx hb d_Sd_word_47 hl (by decide) rfl (fun ls hl => ?_)
  have hl : lv_has ls 7 [(5, .int r1), (0, .ref (g.1 51)), (1, .int x1), (2, .int x2), (3, .ref (g.1 23)), (4, .int x4)] := hl
  refine lv_aload_n hx hb d_Sd_word_49 rfl (lv_at hl 4 rfl) ?_
  refine kw_calli (va_runV (As := []) (rest := []) (b := g.1 23) ⟨hx, hb, hml, hown, hts⟩ (c_Tx_room_13 l h) (cwV 0 hts (gd_v gw441 gw442 gw443 gw8 gw444) rfl rfl rfl (by decide +kernel) ⟨Nat.le_of_ble_eq_true rfl, Nat.le_of_ble_eq_true rfl⟩) ⟨kw_blind (Zk_ok g), va_recv hK hst.1 rfl (WS_o23 g σ1), kw_pre (Zk_ok g) hK hZ hA hst⟩ rfl rfl hl.1 rfl (lv_room (Nat.le_of_ble_eq_true rfl)) d_Sd_word_50 ⟨Nat.le_of_ble_eq_true rfl, Nat.le_of_ble_eq_true rfl⟩) hst hA (fun r2 σ2 H locs h hst => ?_)
  refine lv_iload hx hb d_Sd_word_53 (lv_at hl 0 rfl) ?_
  refine lv_iload hx hb d_Sd_word_55 (lv_at hl 5 rfl) ?_
  refine lv_if_eq (tgt := 64) hx hb d_Sd_word_57 (by decide) (fun hc => ?_) (fun hc => ?_)
  · replace h := h.1 hc
    refine lv_iconst (v := (2 : Int32)) hx hb d_Sd_word_64 (by decide) ?_
    refine lv_iadd hx hb d_Sd_word_65 ?_
    refine lv_icmp_ge (tgt := 71) hx hb d_Sd_word_66 (by decide) (fun hc => ?_) (fun hc => ?_)
    · replace h := h.1 hc
      refine lv_aload_n hx hb d_Sd_word_71 rfl (lv_at hl 4 rfl) ?_
      refine lv_aload_n hx hb d_Sd_word_72 rfl (lv_at hl 4 rfl) ?_
      refine va_get (D := D) (ci := 1) (C := R_Tx) (T := T_Tx) (N := 2) hx hb hts in_Tx hown hK hst.1 23 (WS_o23 g σ2) rfl 1 (by decide) (hts _ gw113) (fun _ h9 => h9) rfl d_Sd_word_73 ?_
      refine lv_bipush (v := (34 : Int32)) hx hb d_Sd_word_76 (by decide) ?_
      refine kw_callv (va_runV (As := [.int (σ2.1 23 1), .int (34 : Int32)]) (rest := []) (b := g.1 23) ⟨hx, hb, hml, hown, hts⟩ (c_Tx_put_13 l (σ2.1 23 1) (34 : Int32) h) (cwV 2 hts (gd_v gw445 gw446 gw447 gw8 gw448) rfl rfl rfl (by decide +kernel) ⟨Nat.le_of_ble_eq_true rfl, Nat.le_of_ble_eq_true rfl⟩) ⟨kw_blind (Zk_ok g), va_recv hK hst.1 rfl (WS_o23 g σ2), kw_pre (Zk_ok g) hK hZ hA hst⟩ rfl rfl hl.1 rfl (lv_room (Nat.le_of_ble_eq_true rfl)) d_Sd_word_78 ⟨Nat.le_of_ble_eq_true rfl, Nat.le_of_ble_eq_true rfl⟩) hst hA (fun σ3 H locs h hst => ?_)
      refine lv_iconst (v := (0 : Int32)) hx hb d_Sd_word_81 (by decide) ?_
      refine lv_istore hx hb d_Sd_word_82 hl (by decide) rfl (fun ls hl => ?_)
      have hl : lv_has ls 7 [(6, .int (0 : Int32)), (5, .int r1), (0, .ref (g.1 51)), (1, .int x1), (2, .int x2), (3, .ref (g.1 23)), (4, .int x4)] := hl
      exact j2_13 x1 x2 x4 r1 (0 : Int32) σ3 _ _ _ (lv_sub hl [2, 3, 4, 5, 6, 1, 0] rfl) hst h
    · replace h := h.2 hc
      refine lv_iconst (v := (0 : Int32)) hx hb d_Sd_word_69 (by decide) ?_
      exact kw_zret hx hb hr hlocks hst h d_Sd_word_70
  · replace h := h.2 hc
    refine lv_iconst (v := (3 : Int32)) hx hb d_Sd_word_60 (by decide) ?_
    refine lv_goto (tgt := 65) hx hb d_Sd_word_61 (by decide) ?_
    refine lv_iadd hx hb d_Sd_word_65 ?_
    refine lv_icmp_ge (tgt := 71) hx hb d_Sd_word_66 (by decide) (fun hc => ?_) (fun hc => ?_)
    · replace h := h.1 hc
      refine lv_aload_n hx hb d_Sd_word_71 rfl (lv_at hl 4 rfl) ?_
      refine lv_aload_n hx hb d_Sd_word_72 rfl (lv_at hl 4 rfl) ?_
      refine va_get (D := D) (ci := 1) (C := R_Tx) (T := T_Tx) (N := 2) hx hb hts in_Tx hown hK hst.1 23 (WS_o23 g σ2) rfl 1 (by decide) (hts _ gw113) (fun _ h9 => h9) rfl d_Sd_word_73 ?_
      refine lv_bipush (v := (34 : Int32)) hx hb d_Sd_word_76 (by decide) ?_
      refine kw_callv (va_runV (As := [.int (σ2.1 23 1), .int (34 : Int32)]) (rest := []) (b := g.1 23) ⟨hx, hb, hml, hown, hts⟩ (c_Tx_put_13 l (σ2.1 23 1) (34 : Int32) h) (cwV 2 hts (gd_v gw445 gw446 gw447 gw8 gw448) rfl rfl rfl (by decide +kernel) ⟨Nat.le_of_ble_eq_true rfl, Nat.le_of_ble_eq_true rfl⟩) ⟨kw_blind (Zk_ok g), va_recv hK hst.1 rfl (WS_o23 g σ2), kw_pre (Zk_ok g) hK hZ hA hst⟩ rfl rfl hl.1 rfl (lv_room (Nat.le_of_ble_eq_true rfl)) d_Sd_word_78 ⟨Nat.le_of_ble_eq_true rfl, Nat.le_of_ble_eq_true rfl⟩) hst hA (fun σ3 H locs h hst => ?_)
      refine lv_iconst (v := (0 : Int32)) hx hb d_Sd_word_81 (by decide) ?_
      refine lv_istore hx hb d_Sd_word_82 hl (by decide) rfl (fun ls hl => ?_)
      have hl : lv_has ls 7 [(6, .int (0 : Int32)), (5, .int r1), (0, .ref (g.1 51)), (1, .int x1), (2, .int x2), (3, .ref (g.1 23)), (4, .int x4)] := hl
      exact j2_13 x1 x2 x4 r1 (0 : Int32) σ3 _ _ _ (lv_sub hl [2, 3, 4, 5, 6, 1, 0] rfl) hst h
    · replace h := h.2 hc
      refine lv_iconst (v := (0 : Int32)) hx hb d_Sd_word_69 (by decide) ?_
      exact kw_zret hx hb hr hlocks hst h d_Sd_word_70
set_option maxRecDepth 100000 in
set_option maxHeartbeats 4000000 in
theorem b_Sd_word_2_0 {p : Program} {l : Launch} {e : Env} {s : State} {m : MethodId} {args : Array Value} {below : List Frame} {meth : Method} {c : Code} {D : va_G} {g : Gm} {A : Nat → Prop} {post : Int32 → Sg → Prop} {F : Nat → Nat → Int32 → Int32 → Int32 → Int32 → Int32 → Sg → Prop} (C : kC p s m args meth c k_Sd_word 7 (some .boolean) GW R_Sd D vwCl g (Zk g) A) (j2_0 : J_Sd_word_2_0 p l e s m args below meth c D g A post F) (x1 : Int32) (x2 : Int32) (x4 : Int32) (x5 : Int32) (x6 : Int32) (σ : Sg) (H : Heap) (locs : List Loc) (ls : Array Slot) (hl : lv_has ls 7 [(0, .ref (g.1 51)), (1, .int x1), (2, .int x2), (3, .ref (g.1 10)), (4, .int x4), (5, .int x5), (6, .int x6)]) (hst : Wst D vwCl (WS g) A s σ H locs) (h : wb_Sd_word_2 F post x1 x2 0 x4 x5 x6 σ) : W p l e { frames := 2, cells := 0, slots := 0, locals := 82 } s m args below meth c H locs 0 0 (MQ below (QiW D vwCl (WS g) post A) args s 0 0 A) (F0 m 84 ls []) := by
  obtain ⟨hx, hb, hr, hml, hown, hts, hlocks, hK, hZ, hA⟩ := C
  unfold wb_Sd_word_2 at h
  refine lv_iload hx hb d_Sd_word_84 (lv_at hl 6 rfl) ?_
  refine lv_iload hx hb d_Sd_word_86 (lv_at hl 5 rfl) ?_
  refine lv_icmp_ge (tgt := 115) hx hb d_Sd_word_88 (by decide) (fun hc => ?_) (fun hc => ?_)
  · replace h := h.1 hc
    refine lv_aload_n hx hb d_Sd_word_115 rfl (lv_at hl 3 rfl) ?_
    refine lv_aload_n hx hb d_Sd_word_116 rfl (lv_at hl 3 rfl) ?_
    refine va_get (D := D) (ci := 1) (C := R_Tx) (T := T_Tx) (N := 2) hx hb hts in_Tx hown hK hst.1 10 (WS_o10 g σ) rfl 1 (by decide) (hts _ gw113) (fun _ h9 => h9) rfl d_Sd_word_117 ?_
    refine lv_bipush (v := (34 : Int32)) hx hb d_Sd_word_120 (by decide) ?_
    refine kw_callv (va_runV (As := [.int (σ.1 10 1), .int (34 : Int32)]) (rest := []) (b := g.1 10) ⟨hx, hb, hml, hown, hts⟩ (c_Tx_put_0 l (σ.1 10 1) (34 : Int32) h) (cwV 2 hts (gd_v gw445 gw446 gw447 gw8 gw448) rfl rfl rfl (by decide +kernel) ⟨Nat.le_of_ble_eq_true rfl, Nat.le_of_ble_eq_true rfl⟩) ⟨kw_blind (Zk_ok g), va_recv hK hst.1 rfl (WS_o10 g σ), kw_pre (Zk_ok g) hK hZ hA hst⟩ rfl rfl hl.1 rfl (lv_room (Nat.le_of_ble_eq_true rfl)) d_Sd_word_122 ⟨Nat.le_of_ble_eq_true rfl, Nat.le_of_ble_eq_true rfl⟩) hst hA (fun σ1 H locs h hst => ?_)
    refine lv_iload hx hb d_Sd_word_125 (lv_at hl 4 rfl) ?_
    refine lv_if_eq (tgt := 140) hx hb d_Sd_word_127 (by decide) (fun hc => ?_) (fun hc => ?_)
    · replace h := h.1 hc
      refine lv_aload_n hx hb d_Sd_word_140 rfl (lv_at hl 0 rfl) ?_
      refine lv_iload_n hx hb d_Sd_word_141 rfl (lv_at hl 1 rfl) ?_
      refine kw_callv (va_runV (As := [.int x1]) (rest := []) (b := g.1 51) ⟨hx, hb, hml, hown, hts⟩ (c_Sd_edited l x1 h) (cwV 1 hts (gd_v gw452 gw454 gs1 gw1 gw455) rfl rfl rfl (by decide +kernel) ⟨Nat.le_of_ble_eq_true rfl, Nat.le_of_ble_eq_true rfl⟩) ⟨kw_blind (Zk_ok g), va_recv hK hst.1 rfl (WS_o51 g σ1), kw_pre (Zk_ok g) hK hZ hA hst⟩ rfl rfl hl.1 rfl (lv_room (Nat.le_of_ble_eq_true rfl)) d_Sd_word_142 ⟨Nat.le_of_ble_eq_true rfl, Nat.le_of_ble_eq_true rfl⟩) hst hA (fun σ2 H locs h hst => ?_)
      refine lv_iconst (v := (1 : Int32)) hx hb d_Sd_word_145 (by decide) ?_
      exact kw_zret hx hb hr hlocks hst h d_Sd_word_146
    · replace h := h.2 hc
      refine lv_aload_n hx hb d_Sd_word_130 rfl (lv_at hl 3 rfl) ?_
      refine lv_aload_n hx hb d_Sd_word_131 rfl (lv_at hl 3 rfl) ?_
      refine va_get (D := D) (ci := 1) (C := R_Tx) (T := T_Tx) (N := 2) hx hb hts in_Tx hown hK hst.1 10 (WS_o10 g σ1) rfl 1 (by decide) (hts _ gw113) (fun _ h9 => h9) rfl d_Sd_word_132 ?_
      refine lv_bipush (v := (58 : Int32)) hx hb d_Sd_word_135 (by decide) ?_
      refine kw_callv (va_runV (As := [.int (σ1.1 10 1), .int (58 : Int32)]) (rest := []) (b := g.1 10) ⟨hx, hb, hml, hown, hts⟩ (c_Tx_put_0 l (σ1.1 10 1) (58 : Int32) h) (cwV 2 hts (gd_v gw445 gw446 gw447 gw8 gw448) rfl rfl rfl (by decide +kernel) ⟨Nat.le_of_ble_eq_true rfl, Nat.le_of_ble_eq_true rfl⟩) ⟨kw_blind (Zk_ok g), va_recv hK hst.1 rfl (WS_o10 g σ1), kw_pre (Zk_ok g) hK hZ hA hst⟩ rfl rfl hl.1 rfl (lv_room (Nat.le_of_ble_eq_true rfl)) d_Sd_word_137 ⟨Nat.le_of_ble_eq_true rfl, Nat.le_of_ble_eq_true rfl⟩) hst hA (fun σ2 H locs h hst => ?_)
      refine lv_aload_n hx hb d_Sd_word_140 rfl (lv_at hl 0 rfl) ?_
      refine lv_iload_n hx hb d_Sd_word_141 rfl (lv_at hl 1 rfl) ?_
      refine kw_callv (va_runV (As := [.int x1]) (rest := []) (b := g.1 51) ⟨hx, hb, hml, hown, hts⟩ (c_Sd_edited l x1 h) (cwV 1 hts (gd_v gw452 gw454 gs1 gw1 gw455) rfl rfl rfl (by decide +kernel) ⟨Nat.le_of_ble_eq_true rfl, Nat.le_of_ble_eq_true rfl⟩) ⟨kw_blind (Zk_ok g), va_recv hK hst.1 rfl (WS_o51 g σ2), kw_pre (Zk_ok g) hK hZ hA hst⟩ rfl rfl hl.1 rfl (lv_room (Nat.le_of_ble_eq_true rfl)) d_Sd_word_142 ⟨Nat.le_of_ble_eq_true rfl, Nat.le_of_ble_eq_true rfl⟩) hst hA (fun σ3 H locs h hst => ?_)
      refine lv_iconst (v := (1 : Int32)) hx hb d_Sd_word_145 (by decide) ?_
      exact kw_zret hx hb hr hlocks hst h d_Sd_word_146
  · replace h := h.2 hc
    refine lv_aload_n hx hb d_Sd_word_91 rfl (lv_at hl 3 rfl) ?_
    refine lv_aload_n hx hb d_Sd_word_92 rfl (lv_at hl 3 rfl) ?_
    refine va_get (D := D) (ci := 1) (C := R_Tx) (T := T_Tx) (N := 2) hx hb hts in_Tx hown hK hst.1 10 (WS_o10 g σ) rfl 1 (by decide) (hts _ gw113) (fun _ h9 => h9) rfl d_Sd_word_93 ?_
    refine lv_aload_n hx hb d_Sd_word_96 rfl (lv_at hl 0 rfl) ?_
    refine va_get (D := D) (ci := 9) (C := R_Sd) (T := T_Sd) (N := 9) hx hb hts in_Sd hown hK hst.1 51 (WS_o51 g σ) rfl 0 (by decide) (hts _ gw399) (fun _ h9 => h9) rfl d_Sd_word_97 ?_
    refine lv_iload_n hx hb d_Sd_word_100 rfl (lv_at hl 2 rfl) ?_
    refine lv_iload hx hb d_Sd_word_101 (lv_at hl 6 rfl) ?_
    refine kw_calli (va_runV (As := [.int x2, .int x6]) (rest := [.int (σ.1 10 1), .ref (g.1 10)]) (b := g.1 26) ⟨hx, hb, hml, hown, hts⟩ (c_Wb_characterOf l x2 x6 h) (cwV 2 hts (gd_v gw464 gw465 gw466 gw2 gw467) rfl rfl rfl (by decide +kernel) ⟨Nat.le_of_ble_eq_true rfl, Nat.le_of_ble_eq_true rfl⟩) ⟨kw_blind (Zk_ok g), va_recv hK hst.1 rfl (WS_o26 g σ), kw_pre (Zk_ok g) hK hZ hA hst⟩ rfl rfl hl.1 rfl (lv_room (Nat.le_of_ble_eq_true rfl)) d_Sd_word_103 ⟨Nat.le_of_ble_eq_true rfl, Nat.le_of_ble_eq_true rfl⟩) hst hA (fun r1 σ1 H locs h hst => ?_)
    refine kw_callv (va_runV (As := [.int (σ.1 10 1), .int r1]) (rest := []) (b := g.1 10) ⟨hx, hb, hml, hown, hts⟩ (c_Tx_put_0 l (σ.1 10 1) r1 h) (cwV 2 hts (gd_v gw445 gw446 gw447 gw8 gw448) rfl rfl rfl (by decide +kernel) ⟨Nat.le_of_ble_eq_true rfl, Nat.le_of_ble_eq_true rfl⟩) ⟨kw_blind (Zk_ok g), va_recv hK hst.1 rfl (WS_o10 g σ1), kw_pre (Zk_ok g) hK hZ hA hst⟩ rfl rfl hl.1 rfl (lv_room (Nat.le_of_ble_eq_true rfl)) d_Sd_word_106 ⟨Nat.le_of_ble_eq_true rfl, Nat.le_of_ble_eq_true rfl⟩) hst hA (fun σ2 H locs h hst => ?_)
    refine lv_iinc (k := 6) (v := (x6 + 1)) hx hb d_Sd_word_109 hl rfl (kw_inc _ (by decide)) (by decide) rfl (fun ls hl => ?_)
    have hl : lv_has ls 7 [(6, .int (x6 + 1)), (0, .ref (g.1 51)), (1, .int x1), (2, .int x2), (3, .ref (g.1 10)), (4, .int x4), (5, .int x5)] := hl
    refine lv_goto (tgt := 84) hx hb d_Sd_word_112 (by decide) ?_
    exact j2_0 x1 x2 x4 x5 (x6 + 1) σ2 _ _ _ (lv_sub hl [1, 2, 3, 4, 5, 6, 0] rfl) hst h
set_option maxRecDepth 100000 in
set_option maxHeartbeats 4000000 in
theorem b_Sd_word_2_13 {p : Program} {l : Launch} {e : Env} {s : State} {m : MethodId} {args : Array Value} {below : List Frame} {meth : Method} {c : Code} {D : va_G} {g : Gm} {A : Nat → Prop} {post : Int32 → Sg → Prop} {F : Nat → Nat → Int32 → Int32 → Int32 → Int32 → Int32 → Sg → Prop} (C : kC p s m args meth c k_Sd_word 7 (some .boolean) GW R_Sd D vwCl g (Zk g) A) (j2_13 : J_Sd_word_2_13 p l e s m args below meth c D g A post F) (x1 : Int32) (x2 : Int32) (x4 : Int32) (x5 : Int32) (x6 : Int32) (σ : Sg) (H : Heap) (locs : List Loc) (ls : Array Slot) (hl : lv_has ls 7 [(0, .ref (g.1 51)), (1, .int x1), (2, .int x2), (3, .ref (g.1 23)), (4, .int x4), (5, .int x5), (6, .int x6)]) (hst : Wst D vwCl (WS g) A s σ H locs) (h : wb_Sd_word_2 F post x1 x2 13 x4 x5 x6 σ) : W p l e { frames := 2, cells := 0, slots := 0, locals := 82 } s m args below meth c H locs 0 0 (MQ below (QiW D vwCl (WS g) post A) args s 0 0 A) (F0 m 84 ls []) := by
  obtain ⟨hx, hb, hr, hml, hown, hts, hlocks, hK, hZ, hA⟩ := C
  unfold wb_Sd_word_2 at h
  refine lv_iload hx hb d_Sd_word_84 (lv_at hl 6 rfl) ?_
  refine lv_iload hx hb d_Sd_word_86 (lv_at hl 5 rfl) ?_
  refine lv_icmp_ge (tgt := 115) hx hb d_Sd_word_88 (by decide) (fun hc => ?_) (fun hc => ?_)
  · replace h := h.1 hc
    refine lv_aload_n hx hb d_Sd_word_115 rfl (lv_at hl 3 rfl) ?_
    refine lv_aload_n hx hb d_Sd_word_116 rfl (lv_at hl 3 rfl) ?_
    refine va_get (D := D) (ci := 1) (C := R_Tx) (T := T_Tx) (N := 2) hx hb hts in_Tx hown hK hst.1 23 (WS_o23 g σ) rfl 1 (by decide) (hts _ gw113) (fun _ h9 => h9) rfl d_Sd_word_117 ?_
    refine lv_bipush (v := (34 : Int32)) hx hb d_Sd_word_120 (by decide) ?_
    refine kw_callv (va_runV (As := [.int (σ.1 23 1), .int (34 : Int32)]) (rest := []) (b := g.1 23) ⟨hx, hb, hml, hown, hts⟩ (c_Tx_put_13 l (σ.1 23 1) (34 : Int32) h) (cwV 2 hts (gd_v gw445 gw446 gw447 gw8 gw448) rfl rfl rfl (by decide +kernel) ⟨Nat.le_of_ble_eq_true rfl, Nat.le_of_ble_eq_true rfl⟩) ⟨kw_blind (Zk_ok g), va_recv hK hst.1 rfl (WS_o23 g σ), kw_pre (Zk_ok g) hK hZ hA hst⟩ rfl rfl hl.1 rfl (lv_room (Nat.le_of_ble_eq_true rfl)) d_Sd_word_122 ⟨Nat.le_of_ble_eq_true rfl, Nat.le_of_ble_eq_true rfl⟩) hst hA (fun σ1 H locs h hst => ?_)
    refine lv_iload hx hb d_Sd_word_125 (lv_at hl 4 rfl) ?_
    refine lv_if_eq (tgt := 140) hx hb d_Sd_word_127 (by decide) (fun hc => ?_) (fun hc => ?_)
    · replace h := h.1 hc
      refine lv_aload_n hx hb d_Sd_word_140 rfl (lv_at hl 0 rfl) ?_
      refine lv_iload_n hx hb d_Sd_word_141 rfl (lv_at hl 1 rfl) ?_
      refine kw_callv (va_runV (As := [.int x1]) (rest := []) (b := g.1 51) ⟨hx, hb, hml, hown, hts⟩ (c_Sd_edited l x1 h) (cwV 1 hts (gd_v gw452 gw454 gs1 gw1 gw455) rfl rfl rfl (by decide +kernel) ⟨Nat.le_of_ble_eq_true rfl, Nat.le_of_ble_eq_true rfl⟩) ⟨kw_blind (Zk_ok g), va_recv hK hst.1 rfl (WS_o51 g σ1), kw_pre (Zk_ok g) hK hZ hA hst⟩ rfl rfl hl.1 rfl (lv_room (Nat.le_of_ble_eq_true rfl)) d_Sd_word_142 ⟨Nat.le_of_ble_eq_true rfl, Nat.le_of_ble_eq_true rfl⟩) hst hA (fun σ2 H locs h hst => ?_)
      refine lv_iconst (v := (1 : Int32)) hx hb d_Sd_word_145 (by decide) ?_
      exact kw_zret hx hb hr hlocks hst h d_Sd_word_146
    · replace h := h.2 hc
      refine lv_aload_n hx hb d_Sd_word_130 rfl (lv_at hl 3 rfl) ?_
      refine lv_aload_n hx hb d_Sd_word_131 rfl (lv_at hl 3 rfl) ?_
      refine va_get (D := D) (ci := 1) (C := R_Tx) (T := T_Tx) (N := 2) hx hb hts in_Tx hown hK hst.1 23 (WS_o23 g σ1) rfl 1 (by decide) (hts _ gw113) (fun _ h9 => h9) rfl d_Sd_word_132 ?_
      refine lv_bipush (v := (58 : Int32)) hx hb d_Sd_word_135 (by decide) ?_
      refine kw_callv (va_runV (As := [.int (σ1.1 23 1), .int (58 : Int32)]) (rest := []) (b := g.1 23) ⟨hx, hb, hml, hown, hts⟩ (c_Tx_put_13 l (σ1.1 23 1) (58 : Int32) h) (cwV 2 hts (gd_v gw445 gw446 gw447 gw8 gw448) rfl rfl rfl (by decide +kernel) ⟨Nat.le_of_ble_eq_true rfl, Nat.le_of_ble_eq_true rfl⟩) ⟨kw_blind (Zk_ok g), va_recv hK hst.1 rfl (WS_o23 g σ1), kw_pre (Zk_ok g) hK hZ hA hst⟩ rfl rfl hl.1 rfl (lv_room (Nat.le_of_ble_eq_true rfl)) d_Sd_word_137 ⟨Nat.le_of_ble_eq_true rfl, Nat.le_of_ble_eq_true rfl⟩) hst hA (fun σ2 H locs h hst => ?_)
      refine lv_aload_n hx hb d_Sd_word_140 rfl (lv_at hl 0 rfl) ?_
      refine lv_iload_n hx hb d_Sd_word_141 rfl (lv_at hl 1 rfl) ?_
      refine kw_callv (va_runV (As := [.int x1]) (rest := []) (b := g.1 51) ⟨hx, hb, hml, hown, hts⟩ (c_Sd_edited l x1 h) (cwV 1 hts (gd_v gw452 gw454 gs1 gw1 gw455) rfl rfl rfl (by decide +kernel) ⟨Nat.le_of_ble_eq_true rfl, Nat.le_of_ble_eq_true rfl⟩) ⟨kw_blind (Zk_ok g), va_recv hK hst.1 rfl (WS_o51 g σ2), kw_pre (Zk_ok g) hK hZ hA hst⟩ rfl rfl hl.1 rfl (lv_room (Nat.le_of_ble_eq_true rfl)) d_Sd_word_142 ⟨Nat.le_of_ble_eq_true rfl, Nat.le_of_ble_eq_true rfl⟩) hst hA (fun σ3 H locs h hst => ?_)
      refine lv_iconst (v := (1 : Int32)) hx hb d_Sd_word_145 (by decide) ?_
      exact kw_zret hx hb hr hlocks hst h d_Sd_word_146
  · replace h := h.2 hc
    refine lv_aload_n hx hb d_Sd_word_91 rfl (lv_at hl 3 rfl) ?_
    refine lv_aload_n hx hb d_Sd_word_92 rfl (lv_at hl 3 rfl) ?_
    refine va_get (D := D) (ci := 1) (C := R_Tx) (T := T_Tx) (N := 2) hx hb hts in_Tx hown hK hst.1 23 (WS_o23 g σ) rfl 1 (by decide) (hts _ gw113) (fun _ h9 => h9) rfl d_Sd_word_93 ?_
    refine lv_aload_n hx hb d_Sd_word_96 rfl (lv_at hl 0 rfl) ?_
    refine va_get (D := D) (ci := 9) (C := R_Sd) (T := T_Sd) (N := 9) hx hb hts in_Sd hown hK hst.1 51 (WS_o51 g σ) rfl 0 (by decide) (hts _ gw399) (fun _ h9 => h9) rfl d_Sd_word_97 ?_
    refine lv_iload_n hx hb d_Sd_word_100 rfl (lv_at hl 2 rfl) ?_
    refine lv_iload hx hb d_Sd_word_101 (lv_at hl 6 rfl) ?_
    refine kw_calli (va_runV (As := [.int x2, .int x6]) (rest := [.int (σ.1 23 1), .ref (g.1 23)]) (b := g.1 26) ⟨hx, hb, hml, hown, hts⟩ (c_Wb_characterOf l x2 x6 h) (cwV 2 hts (gd_v gw464 gw465 gw466 gw2 gw467) rfl rfl rfl (by decide +kernel) ⟨Nat.le_of_ble_eq_true rfl, Nat.le_of_ble_eq_true rfl⟩) ⟨kw_blind (Zk_ok g), va_recv hK hst.1 rfl (WS_o26 g σ), kw_pre (Zk_ok g) hK hZ hA hst⟩ rfl rfl hl.1 rfl (lv_room (Nat.le_of_ble_eq_true rfl)) d_Sd_word_103 ⟨Nat.le_of_ble_eq_true rfl, Nat.le_of_ble_eq_true rfl⟩) hst hA (fun r1 σ1 H locs h hst => ?_)
    refine kw_callv (va_runV (As := [.int (σ.1 23 1), .int r1]) (rest := []) (b := g.1 23) ⟨hx, hb, hml, hown, hts⟩ (c_Tx_put_13 l (σ.1 23 1) r1 h) (cwV 2 hts (gd_v gw445 gw446 gw447 gw8 gw448) rfl rfl rfl (by decide +kernel) ⟨Nat.le_of_ble_eq_true rfl, Nat.le_of_ble_eq_true rfl⟩) ⟨kw_blind (Zk_ok g), va_recv hK hst.1 rfl (WS_o23 g σ1), kw_pre (Zk_ok g) hK hZ hA hst⟩ rfl rfl hl.1 rfl (lv_room (Nat.le_of_ble_eq_true rfl)) d_Sd_word_106 ⟨Nat.le_of_ble_eq_true rfl, Nat.le_of_ble_eq_true rfl⟩) hst hA (fun σ2 H locs h hst => ?_)
    refine lv_iinc (k := 6) (v := (x6 + 1)) hx hb d_Sd_word_109 hl rfl (kw_inc _ (by decide)) (by decide) rfl (fun ls hl => ?_)
    have hl : lv_has ls 7 [(6, .int (x6 + 1)), (0, .ref (g.1 51)), (1, .int x1), (2, .int x2), (3, .ref (g.1 23)), (4, .int x4), (5, .int x5)] := hl
    refine lv_goto (tgt := 84) hx hb d_Sd_word_112 (by decide) ?_
    exact j2_13 x1 x2 x4 x5 (x6 + 1) σ2 _ _ _ (lv_sub hl [1, 2, 3, 4, 5, 6, 0] rfl) hst h
set_option maxRecDepth 100000 in
set_option maxHeartbeats 4000000 in
theorem a_Sd_word {p : Program} {l : Launch} {e : Env} {s : State} {m : MethodId} {args : Array Value} {below : List Frame} {meth : Method} {c : Code} {D : va_G} {g : Gm} {A : Nat → Prop} {post : Int32 → Sg → Prop} (C : kC p s m args meth c k_Sd_word 7 (some .boolean) GW R_Sd D vwCl g (Zk g) A) : ∀ n : Nat, J_Sd_word_1_0 p l e s m args below meth c D g A post (wp_Sd_word post n) ∧ J_Sd_word_1_13 p l e s m args below meth c D g A post (wp_Sd_word post n) ∧ J_Sd_word_2_0 p l e s m args below meth c D g A post (wp_Sd_word post n) ∧ J_Sd_word_2_13 p l e s m args below meth c D g A post (wp_Sd_word post n) := by
  intro n
  induction n with
  | zero => exact ⟨fun _ _ _ _ _ _ _ _ _ h => h.elim, fun _ _ _ _ _ _ _ _ _ h => h.elim, fun _ _ _ _ _ _ _ _ _ _ _ h => h.elim, fun _ _ _ _ _ _ _ _ _ _ _ h => h.elim⟩
  | succ n ih => exact ⟨fun x1 x2 x4 σ H locs ls hl hst h => b_Sd_word_1_0 (F := wp_Sd_word post n) C (ih.2.2.1) x1 x2 x4 σ H locs ls hl hst h, fun x1 x2 x4 σ H locs ls hl hst h => b_Sd_word_1_13 (F := wp_Sd_word post n) C (ih.2.2.2) x1 x2 x4 σ H locs ls hl hst h, fun x1 x2 x4 x5 x6 σ H locs ls hl hst h => b_Sd_word_2_0 (F := wp_Sd_word post n) C (ih.2.2.1) x1 x2 x4 x5 x6 σ H locs ls hl hst h, fun x1 x2 x4 x5 x6 σ H locs ls hl hst h => b_Sd_word_2_13 (F := wp_Sd_word post n) C (ih.2.2.2) x1 x2 x4 x5 x6 σ H locs ls hl hst h⟩
set_option maxRecDepth 100000 in
set_option maxHeartbeats 4000000 in
theorem c_Sd_word (l : Launch) {D : va_G} {g : Gm} {sz : Nat} (x1 : Int32) (x2 : Int32) {σ : Sg} {post : Int32 → Sg → Prop} (h : wq_Sd_word x1 x2 σ post) : Met l y_Sd_word (.code y_Sd_word k_Sd_word 7 (some .boolean) :: GW) { frames := 2, cells := 0, slots := 0, locals := 82 } (PcW D vwCl (WS g) g (Zk g) σ sz [.ref (g.1 51), .int x1, .int x2]) (QiW D vwCl (WS g) post (va_A (WS g σ) sz)) 0 0 (va_A (WS g σ) sz) := by
  refine kw_entry (own := R_Sd) (by decide) rfl rfl (Nat.le_of_ble_eq_true rfl) ?_
  intro p e s m below meth c ls hsz C hin hl hst
  obtain ⟨n, h⟩ := h
  cases n with
  | zero => exact h.elim
  | succ n =>
    have ih := a_Sd_word (l := l) (e := e) (below := below) (post := post) C n
    exact b_Sd_word_0 (F := wp_Sd_word post n) C (ih.1) (ih.2.1) x1 x2 σ _ _ ls hl hst h
/-! SchemaDesk$Proposals.reachForChildren (III)V -/
abbrev k_Pr_reachForChildren : ByteArray := prog_4_method_6_code
abbrev y_Pr_reachForChildren : MethodName := ⟨"SchemaDesk$Proposals", "reachForChildren", "(III)V"⟩
theorem d_Pr_reachForChildren_0 : decode k_Pr_reachForChildren 0 = .ok (.iconst 0, 1) := by decide +kernel
theorem d_Pr_reachForChildren_1 : decode k_Pr_reachForChildren 1 = .ok (.istore 4, 2) := by decide +kernel
theorem d_Pr_reachForChildren_3 : decode k_Pr_reachForChildren 3 = .ok (.iload_n 3, 1) := by decide +kernel
theorem d_Pr_reachForChildren_4 : decode k_Pr_reachForChildren 4 = .ok (.iconst 1, 1) := by decide +kernel
theorem d_Pr_reachForChildren_5 : decode k_Pr_reachForChildren 5 = .ok (.iadd, 1) := by decide +kernel
theorem d_Pr_reachForChildren_6 : decode k_Pr_reachForChildren 6 = .ok (.istore 5, 2) := by decide +kernel
theorem d_Pr_reachForChildren_8 : decode k_Pr_reachForChildren 8 = .ok (.iload 4, 2) := by decide +kernel
theorem d_Pr_reachForChildren_10 : decode k_Pr_reachForChildren 10 = .ok (.aload_n 0, 1) := by decide +kernel
theorem d_Pr_reachForChildren_11 : decode k_Pr_reachForChildren 11 = .ok (.getfield 48, 3) := by decide +kernel
theorem d_Pr_reachForChildren_14 : decode k_Pr_reachForChildren 14 = .ok (.getfield 88, 3) := by decide +kernel
theorem d_Pr_reachForChildren_17 : decode k_Pr_reachForChildren 17 = .ok (.iload_n 3, 1) := by decide +kernel
theorem d_Pr_reachForChildren_18 : decode k_Pr_reachForChildren 18 = .ok (.iaload, 1) := by decide +kernel
theorem d_Pr_reachForChildren_19 : decode k_Pr_reachForChildren 19 = .ok (.if_icmp .ge 52, 3) := by decide +kernel
theorem d_Pr_reachForChildren_22 : decode k_Pr_reachForChildren 22 = .ok (.aload_n 0, 1) := by decide +kernel
theorem d_Pr_reachForChildren_23 : decode k_Pr_reachForChildren 23 = .ok (.getfield 29, 3) := by decide +kernel
theorem d_Pr_reachForChildren_26 : decode k_Pr_reachForChildren 26 = .ok (.iload_n 1, 1) := by decide +kernel
theorem d_Pr_reachForChildren_27 : decode k_Pr_reachForChildren 27 = .ok (.iload_n 2, 1) := by decide +kernel
theorem d_Pr_reachForChildren_28 : decode k_Pr_reachForChildren 28 = .ok (.iload_n 3, 1) := by decide +kernel
theorem d_Pr_reachForChildren_29 : decode k_Pr_reachForChildren 29 = .ok (.iload 5, 2) := by decide +kernel
theorem d_Pr_reachForChildren_31 : decode k_Pr_reachForChildren 31 = .ok (.invokevirtual 109, 3) := by decide +kernel
theorem d_Pr_reachForChildren_34 : decode k_Pr_reachForChildren 34 = .ok (.istore 6, 2) := by decide +kernel
theorem d_Pr_reachForChildren_36 : decode k_Pr_reachForChildren 36 = .ok (.iload 6, 2) := by decide +kernel
theorem d_Pr_reachForChildren_38 : decode k_Pr_reachForChildren 38 = .ok (.iconst (-1), 1) := by decide +kernel
theorem d_Pr_reachForChildren_39 : decode k_Pr_reachForChildren 39 = .ok (.if_icmp .eq 14, 3) := by decide +kernel
theorem d_Pr_reachForChildren_42 : decode k_Pr_reachForChildren 42 = .ok (.aload_n 0, 1) := by decide +kernel
theorem d_Pr_reachForChildren_43 : decode k_Pr_reachForChildren 43 = .ok (.getfield 25, 3) := by decide +kernel
theorem d_Pr_reachForChildren_46 : decode k_Pr_reachForChildren 46 = .ok (.iload 6, 2) := by decide +kernel
theorem d_Pr_reachForChildren_48 : decode k_Pr_reachForChildren 48 = .ok (.iload 5, 2) := by decide +kernel
theorem d_Pr_reachForChildren_50 : decode k_Pr_reachForChildren 50 = .ok (.invokevirtual 82, 3) := by decide +kernel
theorem d_Pr_reachForChildren_53 : decode k_Pr_reachForChildren 53 = .ok (.iinc 4 1, 3) := by decide +kernel
theorem d_Pr_reachForChildren_56 : decode k_Pr_reachForChildren 56 = .ok (.aload_n 0, 1) := by decide +kernel
theorem d_Pr_reachForChildren_57 : decode k_Pr_reachForChildren 57 = .ok (.getfield 48, 3) := by decide +kernel
theorem d_Pr_reachForChildren_60 : decode k_Pr_reachForChildren 60 = .ok (.getfield 106, 3) := by decide +kernel
theorem d_Pr_reachForChildren_63 : decode k_Pr_reachForChildren 63 = .ok (.iload 5, 2) := by decide +kernel
theorem d_Pr_reachForChildren_65 : decode k_Pr_reachForChildren 65 = .ok (.iaload, 1) := by decide +kernel
theorem d_Pr_reachForChildren_66 : decode k_Pr_reachForChildren 66 = .ok (.istore 5, 2) := by decide +kernel
theorem d_Pr_reachForChildren_68 : decode k_Pr_reachForChildren 68 = .ok (.goto (-60), 3) := by decide +kernel
theorem d_Pr_reachForChildren_71 : decode k_Pr_reachForChildren 71 = .ok (.return_, 1) := by decide +kernel
theorem gw376 : (Jvm.Cond.fieldLink "SchemaDesk$Proposals" (48 : Nat) "SchemaDesk$Proposals" "document" "LSchemaDesk$Tree;") ∈ GW := gw_t2 (List.mem_of_getElem? (i := 136) rfl) rfl
theorem gw373 : (Jvm.Cond.fieldLink "SchemaDesk$Proposals" (29 : Nat) "SchemaDesk$Proposals" "verdicts" "LSchemaDesk$Verdicts;") ∈ GW := gw_t2 (List.mem_of_getElem? (i := 133) rfl) rfl
theorem gw995 : (Jvm.Cond.methodLink "SchemaDesk$Proposals" (109 : Nat) ({ cls := "SchemaDesk$Verdicts", name := "nodeFor", desc := "(IIII)I" } : Jvm.MethodName)) ∈ GW := gw_t5 (List.mem_of_getElem? (i := 35) rfl) rfl
def wb_Pr_reachForChildren_0 (F : Nat → Int32 → Int32 → Int32 → Int32 → Int32 → Sg → Prop) (post : Sg → Prop) (x1 : Int32) (x2 : Int32) (x3 : Int32) (σ : Sg) : Prop := F 1 x1 x2 x3 (0 : Int32) (x3 + (1 : Int32)) σ
def wb_Pr_reachForChildren_1 (F : Nat → Int32 → Int32 → Int32 → Int32 → Int32 → Sg → Prop) (post : Sg → Prop) (x1 : Int32) (x2 : Int32) (x3 : Int32) (x4 : Int32) (x5 : Int32) (σ : Sg) : Prop := (vp_in x3 80 ∧ (((σ.1 18 x3.toNatClampNeg) ≤ x4 → post σ) ∧ (¬ (σ.1 18 x3.toNatClampNeg) ≤ x4 → (wq_Vd_nodeFor x1 x2 x3 x5 σ (fun r1 σ1 => ((r1 = (-1 : Int32) → (vp_in x5 80 ∧ F 1 x1 x2 x3 (x4 + 1) (σ1.1 21 x5.toNatClampNeg) σ1)) ∧ (¬ r1 = (-1 : Int32) → (wq_Mk_put 49 r1 x5 σ1 (fun σ2 => (vp_in x5 80 ∧ F 1 x1 x2 x3 (x4 + 1) (σ2.1 21 x5.toNatClampNeg) σ2))))))))))
def wp_Pr_reachForChildren (post : Sg → Prop) : Nat → Nat → Int32 → Int32 → Int32 → Int32 → Int32 → Sg → Prop
  | 0, _, _, _, _, _, _, _ => False
  | n + 1, k, x1, x2, x3, x4, x5, σ => match k with
    | 0 => wb_Pr_reachForChildren_0 (wp_Pr_reachForChildren post n) post x1 x2 x3 σ
    | 1 => wb_Pr_reachForChildren_1 (wp_Pr_reachForChildren post n) post x1 x2 x3 x4 x5 σ
    | _ => False
def wq_Pr_reachForChildren (x1 : Int32) (x2 : Int32) (x3 : Int32) (σ : Sg) (post : Sg → Prop) : Prop := ∃ n, wp_Pr_reachForChildren post n 0 x1 x2 x3 0 0 σ
def J_Pr_reachForChildren_1 (p : Program) (l : Launch) (e : Env) (s : State) (m : MethodId) (args : Array Value) (below : List Frame) (meth : Method) (c : Code) (D : va_G) (g : Gm) (A : Nat → Prop) (post : Sg → Prop) (F : Nat → Int32 → Int32 → Int32 → Int32 → Int32 → Sg → Prop) : Prop := ∀ (x1 : Int32) (x2 : Int32) (x3 : Int32) (x4 : Int32) (x5 : Int32) (σ : Sg) (H : Heap) (locs : List Loc) (ls : Array Slot), lv_has ls 7 [(0, .ref (g.1 45)), (1, .int x1), (2, .int x2), (3, .int x3), (4, .int x4), (5, .int x5)] → Wst D vwCl (WS g) A s σ H locs → F 1 x1 x2 x3 x4 x5 σ → W p l e { frames := 3, cells := 0, slots := 0, locals := 78 } s m args below meth c H locs 0 0 (MQ below (QvW D vwCl (WS g) post A) args s 0 0 A) (F0 m 8 ls [])
set_option maxRecDepth 100000 in
set_option maxHeartbeats 4000000 in
theorem b_Pr_reachForChildren_0 {p : Program} {l : Launch} {e : Env} {s : State} {m : MethodId} {args : Array Value} {below : List Frame} {meth : Method} {c : Code} {D : va_G} {g : Gm} {A : Nat → Prop} {post : Sg → Prop} {F : Nat → Int32 → Int32 → Int32 → Int32 → Int32 → Sg → Prop} (C : kC p s m args meth c k_Pr_reachForChildren 7 (none) GW R_Pr D vwCl g (Zk g) A) (j1 : J_Pr_reachForChildren_1 p l e s m args below meth c D g A post F) (x1 : Int32) (x2 : Int32) (x3 : Int32) (σ : Sg) (H : Heap) (locs : List Loc) (ls : Array Slot) (hl : lv_has ls 7 [(0, .ref (g.1 45)), (1, .int x1), (2, .int x2), (3, .int x3)]) (hst : Wst D vwCl (WS g) A s σ H locs) (h : wb_Pr_reachForChildren_0 F post x1 x2 x3 σ) : W p l e { frames := 3, cells := 0, slots := 0, locals := 78 } s m args below meth c H locs 0 0 (MQ below (QvW D vwCl (WS g) post A) args s 0 0 A) (F0 m 0 ls []) := by
  obtain ⟨hx, hb, hr, hml, hown, hts, hlocks, hK, hZ, hA⟩ := C
  unfold wb_Pr_reachForChildren_0 at h
  refine lv_iconst (v := (0 : Int32)) hx hb d_Pr_reachForChildren_0 (by decide) ?_
  refine lv_istore hx hb d_Pr_reachForChildren_1 hl (by decide) rfl (fun ls hl => ?_)
  have hl : lv_has ls 7 [(4, .int (0 : Int32)), (0, .ref (g.1 45)), (1, .int x1), (2, .int x2), (3, .int x3)] := hl
  refine lv_iload_n hx hb d_Pr_reachForChildren_3 rfl (lv_at hl 4 rfl) ?_
  refine lv_iconst (v := (1 : Int32)) hx hb d_Pr_reachForChildren_4 (by decide) ?_
  refine lv_iadd hx hb d_Pr_reachForChildren_5 ?_
  refine lv_istore hx hb d_Pr_reachForChildren_6 hl (by decide) rfl (fun ls hl => ?_)
  have hl : lv_has ls 7 [(5, .int (x3 + (1 : Int32))), (4, .int (0 : Int32)), (0, .ref (g.1 45)), (1, .int x1), (2, .int x2), (3, .int x3)] := hl
  exact j1 x1 x2 x3 (0 : Int32) (x3 + (1 : Int32)) σ _ _ _ (lv_sub hl [2, 3, 4, 5, 1, 0] rfl) hst h
set_option maxRecDepth 100000 in
set_option maxHeartbeats 4000000 in
theorem b_Pr_reachForChildren_1 {p : Program} {l : Launch} {e : Env} {s : State} {m : MethodId} {args : Array Value} {below : List Frame} {meth : Method} {c : Code} {D : va_G} {g : Gm} {A : Nat → Prop} {post : Sg → Prop} {F : Nat → Int32 → Int32 → Int32 → Int32 → Int32 → Sg → Prop} (C : kC p s m args meth c k_Pr_reachForChildren 7 (none) GW R_Pr D vwCl g (Zk g) A) (j1 : J_Pr_reachForChildren_1 p l e s m args below meth c D g A post F) (x1 : Int32) (x2 : Int32) (x3 : Int32) (x4 : Int32) (x5 : Int32) (σ : Sg) (H : Heap) (locs : List Loc) (ls : Array Slot) (hl : lv_has ls 7 [(0, .ref (g.1 45)), (1, .int x1), (2, .int x2), (3, .int x3), (4, .int x4), (5, .int x5)]) (hst : Wst D vwCl (WS g) A s σ H locs) (h : wb_Pr_reachForChildren_1 F post x1 x2 x3 x4 x5 σ) : W p l e { frames := 3, cells := 0, slots := 0, locals := 78 } s m args below meth c H locs 0 0 (MQ below (QvW D vwCl (WS g) post A) args s 0 0 A) (F0 m 8 ls []) := by
  obtain ⟨hx, hb, hr, hml, hown, hts, hlocks, hK, hZ, hA⟩ := C
  unfold wb_Pr_reachForChildren_1 at h
  refine lv_iload hx hb d_Pr_reachForChildren_8 (lv_at hl 4 rfl) ?_
  refine lv_aload_n hx hb d_Pr_reachForChildren_10 rfl (lv_at hl 0 rfl) ?_
  refine va_get (D := D) (ci := 8) (C := R_Pr) (T := T_Pr) (N := 10) hx hb hts in_Pr hown hK hst.1 45 (WS_o45 g σ) rfl 8 (by decide) (hts _ gw376) (fun _ h9 => h9) rfl d_Pr_reachForChildren_11 ?_
  refine va_get (D := D) (ci := 0) (C := R_Tr) (T := T_Tr) (N := 12) hx hb hts in_Tr hown hK hst.1 13 (WS_o13 g σ) rfl 5 (by decide) (hts _ gw151) (fun _ h9 => h9) rfl d_Pr_reachForChildren_14 ?_
  refine lv_iload_n hx hb d_Pr_reachForChildren_17 rfl (lv_at hl 3 rfl) ?_
  obtain ⟨hi, h⟩ := h
  refine va_iald hx hb hK hst.1 18 0 (WS_a18 g σ) rfl hi d_Pr_reachForChildren_18 ?_
  refine lv_icmp_ge (tgt := 71) hx hb d_Pr_reachForChildren_19 (by decide) (fun hc => ?_) (fun hc => ?_)
  · replace h := h.1 hc
    exact kw_vret hx hb hr hlocks hst h d_Pr_reachForChildren_71
  · replace h := h.2 hc
    refine lv_aload_n hx hb d_Pr_reachForChildren_22 rfl (lv_at hl 0 rfl) ?_
    refine va_get (D := D) (ci := 8) (C := R_Pr) (T := T_Pr) (N := 10) hx hb hts in_Pr hown hK hst.1 45 (WS_o45 g σ) rfl 5 (by decide) (hts _ gw373) (fun _ h9 => h9) rfl d_Pr_reachForChildren_23 ?_
    refine lv_iload_n hx hb d_Pr_reachForChildren_26 rfl (lv_at hl 1 rfl) ?_
    refine lv_iload_n hx hb d_Pr_reachForChildren_27 rfl (lv_at hl 2 rfl) ?_
    refine lv_iload_n hx hb d_Pr_reachForChildren_28 rfl (lv_at hl 3 rfl) ?_
    refine lv_iload hx hb d_Pr_reachForChildren_29 (lv_at hl 5 rfl) ?_
    refine kw_calli (va_runV (As := [.int x1, .int x2, .int x3, .int x5]) (rest := []) (b := g.1 35) ⟨hx, hb, hml, hown, hts⟩ (c_Vd_nodeFor l x1 x2 x3 x5 h) (cwV 4 hts (gd_v gw995 gw820 gw821 gw11 gw822) rfl rfl rfl (by decide +kernel) ⟨Nat.le_of_ble_eq_true rfl, Nat.le_of_ble_eq_true rfl⟩) ⟨kw_blind (Zk_ok g), va_recv hK hst.1 rfl (WS_o35 g σ), kw_pre (Zk_ok g) hK hZ hA hst⟩ rfl rfl hl.1 rfl (lv_room (Nat.le_of_ble_eq_true rfl)) d_Pr_reachForChildren_31 ⟨Nat.le_of_ble_eq_true rfl, Nat.le_of_ble_eq_true rfl⟩) hst hA (fun r1 σ1 H locs h hst => ?_)
    refine lv_istore hx hb d_Pr_reachForChildren_34 hl (by decide) rfl (fun ls hl => ?_)
    have hl : lv_has ls 7 [(6, .int r1), (0, .ref (g.1 45)), (1, .int x1), (2, .int x2), (3, .int x3), (4, .int x4), (5, .int x5)] := hl
    refine lv_iload hx hb d_Pr_reachForChildren_36 (lv_at hl 0 rfl) ?_
    refine lv_iconst (v := (-1 : Int32)) hx hb d_Pr_reachForChildren_38 (by decide) ?_
    refine lv_icmp_eq (tgt := 53) hx hb d_Pr_reachForChildren_39 (by decide) (fun hc => ?_) (fun hc => ?_)
    · replace h := h.1 hc
      refine lv_iinc (k := 5) (v := (x4 + 1)) hx hb d_Pr_reachForChildren_53 hl rfl (kw_inc _ (by decide)) (by decide) rfl (fun ls hl => ?_)
      have hl : lv_has ls 7 [(4, .int (x4 + 1)), (6, .int r1), (0, .ref (g.1 45)), (1, .int x1), (2, .int x2), (3, .int x3), (5, .int x5)] := hl
      refine lv_aload_n hx hb d_Pr_reachForChildren_56 rfl (lv_at hl 2 rfl) ?_
      refine va_get (D := D) (ci := 8) (C := R_Pr) (T := T_Pr) (N := 10) hx hb hts in_Pr hown hK hst.1 45 (WS_o45 g σ1) rfl 8 (by decide) (hts _ gw376) (fun _ h9 => h9) rfl d_Pr_reachForChildren_57 ?_
      refine va_get (D := D) (ci := 0) (C := R_Tr) (T := T_Tr) (N := 12) hx hb hts in_Tr hown hK hst.1 13 (WS_o13 g σ1) rfl 8 (by decide) (hts _ gw166) (fun _ h9 => h9) rfl d_Pr_reachForChildren_60 ?_
      refine lv_iload hx hb d_Pr_reachForChildren_63 (lv_at hl 6 rfl) ?_
      obtain ⟨hi, h⟩ := h
      refine va_iald hx hb hK hst.1 21 0 (WS_a21 g σ1) rfl hi d_Pr_reachForChildren_65 ?_
      refine lv_istore hx hb d_Pr_reachForChildren_66 hl (by decide) rfl (fun ls hl => ?_)
      have hl : lv_has ls 7 [(5, .int (σ1.1 21 x5.toNatClampNeg)), (4, .int (x4 + 1)), (6, .int r1), (0, .ref (g.1 45)), (1, .int x1), (2, .int x2), (3, .int x3)] := hl
      refine lv_goto (tgt := 8) hx hb d_Pr_reachForChildren_68 (by decide) ?_
      exact j1 x1 x2 x3 (x4 + 1) (σ1.1 21 x5.toNatClampNeg) σ1 _ _ _ (lv_sub hl [3, 4, 5, 6, 1, 0] rfl) hst h
    · replace h := h.2 hc
      refine lv_aload_n hx hb d_Pr_reachForChildren_42 rfl (lv_at hl 1 rfl) ?_
      refine va_get (D := D) (ci := 8) (C := R_Pr) (T := T_Pr) (N := 10) hx hb hts in_Pr hown hK hst.1 45 (WS_o45 g σ1) rfl 9 (by decide) (hts _ gw377) (fun _ h9 => h9) rfl d_Pr_reachForChildren_43 ?_
      refine lv_iload hx hb d_Pr_reachForChildren_46 (lv_at hl 0 rfl) ?_
      refine lv_iload hx hb d_Pr_reachForChildren_48 (lv_at hl 6 rfl) ?_
      refine kw_callv (va_runV (As := [.int r1, .int x5]) (rest := []) (b := g.1 49) ⟨hx, hb, hml, hown, hts⟩ (c_Mk_put_49 l r1 x5 h) (cwV 2 hts (gd_v gw985 gw838 gw839 gw12 gw840) rfl rfl rfl (by decide +kernel) ⟨Nat.le_of_ble_eq_true rfl, Nat.le_of_ble_eq_true rfl⟩) ⟨kw_blind (Zk_ok g), va_recv hK hst.1 rfl (WS_o49 g σ1), kw_pre (Zk_ok g) hK hZ hA hst⟩ rfl rfl hl.1 rfl (lv_room (Nat.le_of_ble_eq_true rfl)) d_Pr_reachForChildren_50 ⟨Nat.le_of_ble_eq_true rfl, Nat.le_of_ble_eq_true rfl⟩) hst hA (fun σ2 H locs h hst => ?_)
      refine lv_iinc (k := 5) (v := (x4 + 1)) hx hb d_Pr_reachForChildren_53 hl rfl (kw_inc _ (by decide)) (by decide) rfl (fun ls hl => ?_)
      have hl : lv_has ls 7 [(4, .int (x4 + 1)), (6, .int r1), (0, .ref (g.1 45)), (1, .int x1), (2, .int x2), (3, .int x3), (5, .int x5)] := hl
      refine lv_aload_n hx hb d_Pr_reachForChildren_56 rfl (lv_at hl 2 rfl) ?_
      refine va_get (D := D) (ci := 8) (C := R_Pr) (T := T_Pr) (N := 10) hx hb hts in_Pr hown hK hst.1 45 (WS_o45 g σ2) rfl 8 (by decide) (hts _ gw376) (fun _ h9 => h9) rfl d_Pr_reachForChildren_57 ?_
      refine va_get (D := D) (ci := 0) (C := R_Tr) (T := T_Tr) (N := 12) hx hb hts in_Tr hown hK hst.1 13 (WS_o13 g σ2) rfl 8 (by decide) (hts _ gw166) (fun _ h9 => h9) rfl d_Pr_reachForChildren_60 ?_
      refine lv_iload hx hb d_Pr_reachForChildren_63 (lv_at hl 6 rfl) ?_
      obtain ⟨hi, h⟩ := h
      refine va_iald hx hb hK hst.1 21 0 (WS_a21 g σ2) rfl hi d_Pr_reachForChildren_65 ?_
      refine lv_istore hx hb d_Pr_reachForChildren_66 hl (by decide) rfl (fun ls hl => ?_)
      have hl : lv_has ls 7 [(5, .int (σ2.1 21 x5.toNatClampNeg)), (4, .int (x4 + 1)), (6, .int r1), (0, .ref (g.1 45)), (1, .int x1), (2, .int x2), (3, .int x3)] := hl
      refine lv_goto (tgt := 8) hx hb d_Pr_reachForChildren_68 (by decide) ?_
      exact j1 x1 x2 x3 (x4 + 1) (σ2.1 21 x5.toNatClampNeg) σ2 _ _ _ (lv_sub hl [3, 4, 5, 6, 1, 0] rfl) hst h
set_option maxRecDepth 100000 in
set_option maxHeartbeats 4000000 in
theorem a_Pr_reachForChildren {p : Program} {l : Launch} {e : Env} {s : State} {m : MethodId} {args : Array Value} {below : List Frame} {meth : Method} {c : Code} {D : va_G} {g : Gm} {A : Nat → Prop} {post : Sg → Prop} (C : kC p s m args meth c k_Pr_reachForChildren 7 (none) GW R_Pr D vwCl g (Zk g) A) : ∀ n : Nat, J_Pr_reachForChildren_1 p l e s m args below meth c D g A post (wp_Pr_reachForChildren post n) := by
  intro n
  induction n with
  | zero => exact fun _ _ _ _ _ _ _ _ _ _ _ h => h.elim
  | succ n ih => exact fun x1 x2 x3 x4 x5 σ H locs ls hl hst h => b_Pr_reachForChildren_1 (F := wp_Pr_reachForChildren post n) C (ih) x1 x2 x3 x4 x5 σ H locs ls hl hst h
set_option maxRecDepth 100000 in
set_option maxHeartbeats 4000000 in
theorem c_Pr_reachForChildren (l : Launch) {D : va_G} {g : Gm} {sz : Nat} (x1 : Int32) (x2 : Int32) (x3 : Int32) {σ : Sg} {post : Sg → Prop} (h : wq_Pr_reachForChildren x1 x2 x3 σ post) : Met l y_Pr_reachForChildren (.code y_Pr_reachForChildren k_Pr_reachForChildren 7 (none) :: GW) { frames := 3, cells := 0, slots := 0, locals := 78 } (PcW D vwCl (WS g) g (Zk g) σ sz [.ref (g.1 45), .int x1, .int x2, .int x3]) (QvW D vwCl (WS g) post (va_A (WS g σ) sz)) 0 0 (va_A (WS g σ) sz) := by
  refine kw_entry (own := R_Pr) (by decide) rfl rfl (Nat.le_of_ble_eq_true rfl) ?_
  intro p e s m below meth c ls hsz C hin hl hst
  obtain ⟨n, h⟩ := h
  cases n with
  | zero => exact h.elim
  | succ n =>
    have ih := a_Pr_reachForChildren (l := l) (e := e) (below := below) (post := post) C n
    exact b_Pr_reachForChildren_0 (F := wp_Pr_reachForChildren post n) C (ih) x1 x2 x3 σ _ _ ls hl hst h
/-! SchemaDesk$Proposals.addFound (I)V -/
abbrev k_Pr_addFound : ByteArray := prog_4_method_9_code
abbrev y_Pr_addFound : MethodName := ⟨"SchemaDesk$Proposals", "addFound", "(I)V"⟩
theorem d_Pr_addFound_0 : decode k_Pr_addFound 0 = .ok (.iconst 0, 1) := by decide +kernel
theorem d_Pr_addFound_1 : decode k_Pr_addFound 1 = .ok (.istore_n 2, 1) := by decide +kernel
theorem d_Pr_addFound_2 : decode k_Pr_addFound 2 = .ok (.iload_n 2, 1) := by decide +kernel
theorem d_Pr_addFound_3 : decode k_Pr_addFound 3 = .ok (.aload_n 0, 1) := by decide +kernel
theorem d_Pr_addFound_4 : decode k_Pr_addFound 4 = .ok (.getfield 53, 3) := by decide +kernel
theorem d_Pr_addFound_7 : decode k_Pr_addFound 7 = .ok (.if_icmp .ge 29, 3) := by decide +kernel
theorem d_Pr_addFound_10 : decode k_Pr_addFound 10 = .ok (.aload_n 0, 1) := by decide +kernel
theorem d_Pr_addFound_11 : decode k_Pr_addFound 11 = .ok (.getfield 44, 3) := by decide +kernel
theorem d_Pr_addFound_14 : decode k_Pr_addFound 14 = .ok (.getfield 119, 3) := by decide +kernel
theorem d_Pr_addFound_17 : decode k_Pr_addFound 17 = .ok (.aload_n 0, 1) := by decide +kernel
theorem d_Pr_addFound_18 : decode k_Pr_addFound 18 = .ok (.getfield 19, 3) := by decide +kernel
theorem d_Pr_addFound_21 : decode k_Pr_addFound 21 = .ok (.iload_n 2, 1) := by decide +kernel
theorem d_Pr_addFound_22 : decode k_Pr_addFound 22 = .ok (.iaload, 1) := by decide +kernel
theorem d_Pr_addFound_23 : decode k_Pr_addFound 23 = .ok (.iload_n 1, 1) := by decide +kernel
theorem d_Pr_addFound_24 : decode k_Pr_addFound 24 = .ok (.invokevirtual 130, 3) := by decide +kernel
theorem d_Pr_addFound_27 : decode k_Pr_addFound 27 = .ok (.ifCond .eq 9, 3) := by decide +kernel
theorem d_Pr_addFound_30 : decode k_Pr_addFound 30 = .ok (.iinc 2 1, 3) := by decide +kernel
theorem d_Pr_addFound_33 : decode k_Pr_addFound 33 = .ok (.goto (-31), 3) := by decide +kernel
theorem d_Pr_addFound_36 : decode k_Pr_addFound 36 = .ok (.iload_n 2, 1) := by decide +kernel
theorem d_Pr_addFound_37 : decode k_Pr_addFound 37 = .ok (.aload_n 0, 1) := by decide +kernel
theorem d_Pr_addFound_38 : decode k_Pr_addFound 38 = .ok (.getfield 53, 3) := by decide +kernel
theorem d_Pr_addFound_41 : decode k_Pr_addFound 41 = .ok (.if_icmp .ge 31, 3) := by decide +kernel
theorem d_Pr_addFound_44 : decode k_Pr_addFound 44 = .ok (.aload_n 0, 1) := by decide +kernel
theorem d_Pr_addFound_45 : decode k_Pr_addFound 45 = .ok (.getfield 44, 3) := by decide +kernel
theorem d_Pr_addFound_48 : decode k_Pr_addFound 48 = .ok (.getfield 119, 3) := by decide +kernel
theorem d_Pr_addFound_51 : decode k_Pr_addFound 51 = .ok (.aload_n 0, 1) := by decide +kernel
theorem d_Pr_addFound_52 : decode k_Pr_addFound 52 = .ok (.getfield 19, 3) := by decide +kernel
theorem d_Pr_addFound_55 : decode k_Pr_addFound 55 = .ok (.iload_n 2, 1) := by decide +kernel
theorem d_Pr_addFound_56 : decode k_Pr_addFound 56 = .ok (.iaload, 1) := by decide +kernel
theorem d_Pr_addFound_57 : decode k_Pr_addFound 57 = .ok (.aload_n 0, 1) := by decide +kernel
theorem d_Pr_addFound_58 : decode k_Pr_addFound 58 = .ok (.getfield 44, 3) := by decide +kernel
theorem d_Pr_addFound_61 : decode k_Pr_addFound 61 = .ok (.getfield 119, 3) := by decide +kernel
theorem d_Pr_addFound_64 : decode k_Pr_addFound 64 = .ok (.iload_n 1, 1) := by decide +kernel
theorem d_Pr_addFound_65 : decode k_Pr_addFound 65 = .ok (.invokevirtual 135, 3) := by decide +kernel
theorem d_Pr_addFound_68 : decode k_Pr_addFound 68 = .ok (.ifCond .eq 4, 3) := by decide +kernel
theorem d_Pr_addFound_71 : decode k_Pr_addFound 71 = .ok (.return_, 1) := by decide +kernel
theorem d_Pr_addFound_72 : decode k_Pr_addFound 72 = .ok (.aload_n 0, 1) := by decide +kernel
theorem d_Pr_addFound_73 : decode k_Pr_addFound 73 = .ok (.getfield 53, 3) := by decide +kernel
theorem d_Pr_addFound_76 : decode k_Pr_addFound 76 = .ok (.istore_n 3, 1) := by decide +kernel
theorem d_Pr_addFound_77 : decode k_Pr_addFound 77 = .ok (.iload_n 3, 1) := by decide +kernel
theorem d_Pr_addFound_78 : decode k_Pr_addFound 78 = .ok (.iload_n 2, 1) := by decide +kernel
theorem d_Pr_addFound_79 : decode k_Pr_addFound 79 = .ok (.if_icmp .le 23, 3) := by decide +kernel
theorem d_Pr_addFound_82 : decode k_Pr_addFound 82 = .ok (.aload_n 0, 1) := by decide +kernel
theorem d_Pr_addFound_83 : decode k_Pr_addFound 83 = .ok (.getfield 19, 3) := by decide +kernel
theorem d_Pr_addFound_86 : decode k_Pr_addFound 86 = .ok (.iload_n 3, 1) := by decide +kernel
theorem d_Pr_addFound_87 : decode k_Pr_addFound 87 = .ok (.aload_n 0, 1) := by decide +kernel
theorem d_Pr_addFound_88 : decode k_Pr_addFound 88 = .ok (.getfield 19, 3) := by decide +kernel
theorem d_Pr_addFound_91 : decode k_Pr_addFound 91 = .ok (.iload_n 3, 1) := by decide +kernel
theorem d_Pr_addFound_92 : decode k_Pr_addFound 92 = .ok (.iconst 1, 1) := by decide +kernel
theorem d_Pr_addFound_93 : decode k_Pr_addFound 93 = .ok (.isub, 1) := by decide +kernel
theorem d_Pr_addFound_94 : decode k_Pr_addFound 94 = .ok (.iaload, 1) := by decide +kernel
theorem d_Pr_addFound_95 : decode k_Pr_addFound 95 = .ok (.iastore, 1) := by decide +kernel
theorem d_Pr_addFound_96 : decode k_Pr_addFound 96 = .ok (.iinc 3 (-1), 3) := by decide +kernel
theorem d_Pr_addFound_99 : decode k_Pr_addFound 99 = .ok (.goto (-22), 3) := by decide +kernel
theorem d_Pr_addFound_102 : decode k_Pr_addFound 102 = .ok (.aload_n 0, 1) := by decide +kernel
theorem d_Pr_addFound_103 : decode k_Pr_addFound 103 = .ok (.getfield 19, 3) := by decide +kernel
theorem d_Pr_addFound_106 : decode k_Pr_addFound 106 = .ok (.iload_n 2, 1) := by decide +kernel
theorem d_Pr_addFound_107 : decode k_Pr_addFound 107 = .ok (.iload_n 1, 1) := by decide +kernel
theorem d_Pr_addFound_108 : decode k_Pr_addFound 108 = .ok (.iastore, 1) := by decide +kernel
theorem d_Pr_addFound_109 : decode k_Pr_addFound 109 = .ok (.aload_n 0, 1) := by decide +kernel
theorem d_Pr_addFound_110 : decode k_Pr_addFound 110 = .ok (.dup, 1) := by decide +kernel
theorem d_Pr_addFound_111 : decode k_Pr_addFound 111 = .ok (.getfield 53, 3) := by decide +kernel
theorem d_Pr_addFound_114 : decode k_Pr_addFound 114 = .ok (.iconst 1, 1) := by decide +kernel
theorem d_Pr_addFound_115 : decode k_Pr_addFound 115 = .ok (.iadd, 1) := by decide +kernel
theorem d_Pr_addFound_116 : decode k_Pr_addFound 116 = .ok (.putfield 53, 3) := by decide +kernel
theorem d_Pr_addFound_119 : decode k_Pr_addFound 119 = .ok (.return_, 1) := by decide +kernel
theorem gw372 : (Jvm.Cond.fieldLink "SchemaDesk$Proposals" (53 : Nat) "SchemaDesk$Proposals" "foundCount" "I") ∈ GW := gw_t2 (List.mem_of_getElem? (i := 132) rfl) rfl
theorem gw128 : (Jvm.Cond.fieldLink "SchemaDesk$Proposals" (119 : Nat) "SchemaDesk$Tree" "text" "LSchemaDesk$Text;") ∈ GW := gw_t1 (List.mem_of_getElem? (i := 128) rfl) rfl
theorem gw371 : (Jvm.Cond.fieldLink "SchemaDesk$Proposals" (19 : Nat) "SchemaDesk$Proposals" "found" "[I") ∈ GW := gw_t2 (List.mem_of_getElem? (i := 131) rfl) rfl
theorem gw1009 : (Jvm.Cond.methodLink "SchemaDesk$Proposals" (130 : Nat) ({ cls := "SchemaDesk$Text", name := "comesBefore", desc := "(II)Z" } : Jvm.MethodName)) ∈ GW := gw_t5 (List.mem_of_getElem? (i := 49) rfl) rfl
theorem gw1010 : (Jvm.Cond.instanceMethod ({ cls := "SchemaDesk$Text", name := "comesBefore", desc := "(II)Z" } : Jvm.MethodName)) ∈ GW := gw_t5 (List.mem_of_getElem? (i := 50) rfl) rfl
theorem gw1011 : (Jvm.Cond.selects "SchemaDesk$Text" ({ cls := "SchemaDesk$Text", name := "comesBefore", desc := "(II)Z" } : Jvm.MethodName) ({ cls := "SchemaDesk$Text", name := "comesBefore", desc := "(II)Z" } : Jvm.MethodName)) ∈ GW := gw_t5 (List.mem_of_getElem? (i := 51) rfl) rfl
theorem gw1012 : (Jvm.Cond.code ({ cls := "SchemaDesk$Text", name := "comesBefore", desc := "(II)Z" } : Jvm.MethodName) prog_7_method_7_code (4 : Nat) (Option.some Jvm.ClassFile.FieldType.boolean)) ∈ GW := gw_t5 (List.mem_of_getElem? (i := 52) rfl) rfl
theorem gw1013 : (Jvm.Cond.methodLink "SchemaDesk$Proposals" (135 : Nat) ({ cls := "SchemaDesk$Text", name := "sameQuoted", desc := "(ILSchemaDesk$Text;I)Z" } : Jvm.MethodName)) ∈ GW := gw_t5 (List.mem_of_getElem? (i := 53) rfl) rfl
def wb_Pr_addFound_0 (F : Nat → Int32 → Int32 → Int32 → Sg → Prop) (post : Sg → Prop) (x1 : Int32) (σ : Sg) : Prop := F 1 x1 (0 : Int32) 0 σ
def wb_Pr_addFound_1 (F : Nat → Int32 → Int32 → Int32 → Sg → Prop) (post : Sg → Prop) (x1 : Int32) (x2 : Int32) (σ : Sg) : Prop := (((σ.1 45 4) ≤ x2 → F 2 x1 x2 0 σ) ∧ (¬ (σ.1 45 4) ≤ x2 → (vp_in x2 160 ∧ (wq_Tx_comesBefore 0 (σ.1 48 x2.toNatClampNeg) x1 σ (fun r1 σ1 => ((r1 = 0 → F 2 x1 x2 0 σ1) ∧ (¬ r1 = 0 → F 1 x1 (x2 + 1) 0 σ1)))))))
def wb_Pr_addFound_2 (F : Nat → Int32 → Int32 → Int32 → Sg → Prop) (post : Sg → Prop) (x1 : Int32) (x2 : Int32) (σ : Sg) : Prop := (((σ.1 45 4) ≤ x2 → F 3 x1 x2 (σ.1 45 4) σ) ∧ (¬ (σ.1 45 4) ≤ x2 → (vp_in x2 160 ∧ (wq_Tx_sameQuoted 0 0 (σ.1 48 x2.toNatClampNeg) x1 σ (fun r1 σ1 => ((r1 = 0 → F 3 x1 x2 (σ1.1 45 4) σ1) ∧ (¬ r1 = 0 → post σ1)))))))
def wb_Pr_addFound_3 (F : Nat → Int32 → Int32 → Int32 → Sg → Prop) (post : Sg → Prop) (x1 : Int32) (x2 : Int32) (x3 : Int32) (σ : Sg) : Prop := ((x3 ≤ x2 → (vp_in x2 160 ∧ (∀ σ1, σ1 = si σ 48 x2.toNatClampNeg x1 → (∀ σ2, σ2 = si σ1 45 4 ((σ1.1 45 4) + (1 : Int32)) → post σ2)))) ∧ (¬ x3 ≤ x2 → (vp_in (x3 - (1 : Int32)) 160 ∧ (vp_in x3 160 ∧ (∀ σ1, σ1 = si σ 48 x3.toNatClampNeg (σ.1 48 ((x3 - (1 : Int32)) : Int32).toNatClampNeg) → F 3 x1 x2 (x3 + (-1)) σ1)))))
def wp_Pr_addFound (post : Sg → Prop) : Nat → Nat → Int32 → Int32 → Int32 → Sg → Prop
  | 0, _, _, _, _, _ => False
  | n + 1, k, x1, x2, x3, σ => match k with
    | 0 => wb_Pr_addFound_0 (wp_Pr_addFound post n) post x1 σ
    | 1 => wb_Pr_addFound_1 (wp_Pr_addFound post n) post x1 x2 σ
    | 2 => wb_Pr_addFound_2 (wp_Pr_addFound post n) post x1 x2 σ
    | 3 => wb_Pr_addFound_3 (wp_Pr_addFound post n) post x1 x2 x3 σ
    | _ => False
def wq_Pr_addFound (x1 : Int32) (σ : Sg) (post : Sg → Prop) : Prop := ∃ n, wp_Pr_addFound post n 0 x1 0 0 σ
def J_Pr_addFound_1 (p : Program) (l : Launch) (e : Env) (s : State) (m : MethodId) (args : Array Value) (below : List Frame) (meth : Method) (c : Code) (D : va_G) (g : Gm) (A : Nat → Prop) (post : Sg → Prop) (F : Nat → Int32 → Int32 → Int32 → Sg → Prop) : Prop := ∀ (x1 : Int32) (x2 : Int32) (σ : Sg) (H : Heap) (locs : List Loc) (ls : Array Slot), lv_has ls 4 [(0, .ref (g.1 45)), (1, .int x1), (2, .int x2)] → Wst D vwCl (WS g) A s σ H locs → F 1 x1 x2 0 σ → W p l e { frames := 1, cells := 0, slots := 0, locals := 26 } s m args below meth c H locs 0 0 (MQ below (QvW D vwCl (WS g) post A) args s 0 0 A) (F0 m 2 ls [])
def J_Pr_addFound_2 (p : Program) (l : Launch) (e : Env) (s : State) (m : MethodId) (args : Array Value) (below : List Frame) (meth : Method) (c : Code) (D : va_G) (g : Gm) (A : Nat → Prop) (post : Sg → Prop) (F : Nat → Int32 → Int32 → Int32 → Sg → Prop) : Prop := ∀ (x1 : Int32) (x2 : Int32) (σ : Sg) (H : Heap) (locs : List Loc) (ls : Array Slot), lv_has ls 4 [(0, .ref (g.1 45)), (1, .int x1), (2, .int x2)] → Wst D vwCl (WS g) A s σ H locs → F 2 x1 x2 0 σ → W p l e { frames := 1, cells := 0, slots := 0, locals := 26 } s m args below meth c H locs 0 0 (MQ below (QvW D vwCl (WS g) post A) args s 0 0 A) (F0 m 36 ls [])
def J_Pr_addFound_3 (p : Program) (l : Launch) (e : Env) (s : State) (m : MethodId) (args : Array Value) (below : List Frame) (meth : Method) (c : Code) (D : va_G) (g : Gm) (A : Nat → Prop) (post : Sg → Prop) (F : Nat → Int32 → Int32 → Int32 → Sg → Prop) : Prop := ∀ (x1 : Int32) (x2 : Int32) (x3 : Int32) (σ : Sg) (H : Heap) (locs : List Loc) (ls : Array Slot), lv_has ls 4 [(0, .ref (g.1 45)), (1, .int x1), (2, .int x2), (3, .int x3)] → Wst D vwCl (WS g) A s σ H locs → F 3 x1 x2 x3 σ → W p l e { frames := 1, cells := 0, slots := 0, locals := 26 } s m args below meth c H locs 0 0 (MQ below (QvW D vwCl (WS g) post A) args s 0 0 A) (F0 m 77 ls [])
set_option maxRecDepth 100000 in
set_option maxHeartbeats 4000000 in
theorem b_Pr_addFound_0 {p : Program} {l : Launch} {e : Env} {s : State} {m : MethodId} {args : Array Value} {below : List Frame} {meth : Method} {c : Code} {D : va_G} {g : Gm} {A : Nat → Prop} {post : Sg → Prop} {F : Nat → Int32 → Int32 → Int32 → Sg → Prop} (C : kC p s m args meth c k_Pr_addFound 4 (none) GW R_Pr D vwCl g (Zk g) A) (j1 : J_Pr_addFound_1 p l e s m args below meth c D g A post F) (x1 : Int32) (σ : Sg) (H : Heap) (locs : List Loc) (ls : Array Slot) (hl : lv_has ls 4 [(0, .ref (g.1 45)), (1, .int x1)]) (hst : Wst D vwCl (WS g) A s σ H locs) (h : wb_Pr_addFound_0 F post x1 σ) : W p l e { frames := 1, cells := 0, slots := 0, locals := 26 } s m args below meth c H locs 0 0 (MQ below (QvW D vwCl (WS g) post A) args s 0 0 A) (F0 m 0 ls []) := by
  obtain ⟨hx, hb, hr, hml, hown, hts, hlocks, hK, hZ, hA⟩ := C
  unfold wb_Pr_addFound_0 at h
  refine lv_iconst (v := (0 : Int32)) hx hb d_Pr_addFound_0 (by decide) ?_
  refine lv_istore_n hx hb d_Pr_addFound_1 rfl hl (by decide) rfl (fun ls hl => ?_)
  have hl : lv_has ls 4 [(2, .int (0 : Int32)), (0, .ref (g.1 45)), (1, .int x1)] := hl
  exact j1 x1 (0 : Int32) σ _ _ _ (lv_sub hl [1, 2, 0] rfl) hst h
set_option maxRecDepth 100000 in
set_option maxHeartbeats 4000000 in
theorem b_Pr_addFound_1 {p : Program} {l : Launch} {e : Env} {s : State} {m : MethodId} {args : Array Value} {below : List Frame} {meth : Method} {c : Code} {D : va_G} {g : Gm} {A : Nat → Prop} {post : Sg → Prop} {F : Nat → Int32 → Int32 → Int32 → Sg → Prop} (C : kC p s m args meth c k_Pr_addFound 4 (none) GW R_Pr D vwCl g (Zk g) A) (j1 : J_Pr_addFound_1 p l e s m args below meth c D g A post F) (j2 : J_Pr_addFound_2 p l e s m args below meth c D g A post F) (x1 : Int32) (x2 : Int32) (σ : Sg) (H : Heap) (locs : List Loc) (ls : Array Slot) (hl : lv_has ls 4 [(0, .ref (g.1 45)), (1, .int x1), (2, .int x2)]) (hst : Wst D vwCl (WS g) A s σ H locs) (h : wb_Pr_addFound_1 F post x1 x2 σ) : W p l e { frames := 1, cells := 0, slots := 0, locals := 26 } s m args below meth c H locs 0 0 (MQ below (QvW D vwCl (WS g) post A) args s 0 0 A) (F0 m 2 ls []) := by
  obtain ⟨hx, hb, hr, hml, hown, hts, hlocks, hK, hZ, hA⟩ := C
  unfold wb_Pr_addFound_1 at h
  refine lv_iload_n hx hb d_Pr_addFound_2 rfl (lv_at hl 2 rfl) ?_
  refine lv_aload_n hx hb d_Pr_addFound_3 rfl (lv_at hl 0 rfl) ?_
  refine va_get (D := D) (ci := 8) (C := R_Pr) (T := T_Pr) (N := 10) hx hb hts in_Pr hown hK hst.1 45 (WS_o45 g σ) rfl 4 (by decide) (hts _ gw372) (fun _ h9 => h9) rfl d_Pr_addFound_4 ?_
  refine lv_icmp_ge (tgt := 36) hx hb d_Pr_addFound_7 (by decide) (fun hc => ?_) (fun hc => ?_)
  · replace h := h.1 hc
    exact j2 x1 x2 σ _ _ _ (lv_sub hl [0, 1, 2] rfl) hst h
  · replace h := h.2 hc
    refine lv_aload_n hx hb d_Pr_addFound_10 rfl (lv_at hl 0 rfl) ?_
    refine va_get (D := D) (ci := 8) (C := R_Pr) (T := T_Pr) (N := 10) hx hb hts in_Pr hown hK hst.1 45 (WS_o45 g σ) rfl 7 (by decide) (hts _ gw375) (fun _ h9 => h9) rfl d_Pr_addFound_11 ?_
    refine va_get (D := D) (ci := 0) (C := R_Tr) (T := T_Tr) (N := 12) hx hb hts in_Tr hown hK hst.1 0 (WS_o0 g σ) rfl 0 (by decide) (hts _ gw128) (fun _ h9 => h9) rfl d_Pr_addFound_14 ?_
    refine lv_aload_n hx hb d_Pr_addFound_17 rfl (lv_at hl 0 rfl) ?_
    refine va_get (D := D) (ci := 8) (C := R_Pr) (T := T_Pr) (N := 10) hx hb hts in_Pr hown hK hst.1 45 (WS_o45 g σ) rfl 3 (by decide) (hts _ gw371) (fun _ h9 => h9) rfl d_Pr_addFound_18 ?_
    refine lv_iload_n hx hb d_Pr_addFound_21 rfl (lv_at hl 2 rfl) ?_
    obtain ⟨hi, h⟩ := h
    refine va_iald hx hb hK hst.1 48 0 (WS_a48 g σ) rfl hi d_Pr_addFound_22 ?_
    refine lv_iload_n hx hb d_Pr_addFound_23 rfl (lv_at hl 1 rfl) ?_
    refine kw_calli (va_runV (As := [.int (σ.1 48 x2.toNatClampNeg), .int x1]) (rest := []) (b := g.1 10) ⟨hx, hb, hml, hown, hts⟩ (c_Tx_comesBefore_0 l (σ.1 48 x2.toNatClampNeg) x1 h) (cwV 2 hts (gd_v gw1009 gw1010 gw1011 gw8 gw1012) rfl rfl rfl (by decide +kernel) ⟨Nat.le_of_ble_eq_true rfl, Nat.le_of_ble_eq_true rfl⟩) ⟨kw_blind (Zk_ok g), va_recv hK hst.1 rfl (WS_o10 g σ), kw_pre (Zk_ok g) hK hZ hA hst⟩ rfl rfl hl.1 rfl (lv_room (Nat.le_of_ble_eq_true rfl)) d_Pr_addFound_24 ⟨Nat.le_of_ble_eq_true rfl, Nat.le_of_ble_eq_true rfl⟩) hst hA (fun r1 σ1 H locs h hst => ?_)
    refine lv_if_eq (tgt := 36) hx hb d_Pr_addFound_27 (by decide) (fun hc => ?_) (fun hc => ?_)
    · replace h := h.1 hc
      exact j2 x1 x2 σ1 _ _ _ (lv_sub hl [0, 1, 2] rfl) hst h
    · replace h := h.2 hc
      refine lv_iinc (k := 2) (v := (x2 + 1)) hx hb d_Pr_addFound_30 hl rfl (kw_inc _ (by decide)) (by decide) rfl (fun ls hl => ?_)
      have hl : lv_has ls 4 [(2, .int (x2 + 1)), (0, .ref (g.1 45)), (1, .int x1)] := hl
      refine lv_goto (tgt := 2) hx hb d_Pr_addFound_33 (by decide) ?_
      exact j1 x1 (x2 + 1) σ1 _ _ _ (lv_sub hl [1, 2, 0] rfl) hst h
set_option maxRecDepth 100000 in
set_option maxHeartbeats 4000000 in
theorem b_Pr_addFound_2 {p : Program} {l : Launch} {e : Env} {s : State} {m : MethodId} {args : Array Value} {below : List Frame} {meth : Method} {c : Code} {D : va_G} {g : Gm} {A : Nat → Prop} {post : Sg → Prop} {F : Nat → Int32 → Int32 → Int32 → Sg → Prop} (C : kC p s m args meth c k_Pr_addFound 4 (none) GW R_Pr D vwCl g (Zk g) A) (j3 : J_Pr_addFound_3 p l e s m args below meth c D g A post F) (x1 : Int32) (x2 : Int32) (σ : Sg) (H : Heap) (locs : List Loc) (ls : Array Slot) (hl : lv_has ls 4 [(0, .ref (g.1 45)), (1, .int x1), (2, .int x2)]) (hst : Wst D vwCl (WS g) A s σ H locs) (h : wb_Pr_addFound_2 F post x1 x2 σ) : W p l e { frames := 1, cells := 0, slots := 0, locals := 26 } s m args below meth c H locs 0 0 (MQ below (QvW D vwCl (WS g) post A) args s 0 0 A) (F0 m 36 ls []) := by
  obtain ⟨hx, hb, hr, hml, hown, hts, hlocks, hK, hZ, hA⟩ := C
  unfold wb_Pr_addFound_2 at h
  refine lv_iload_n hx hb d_Pr_addFound_36 rfl (lv_at hl 2 rfl) ?_
  refine lv_aload_n hx hb d_Pr_addFound_37 rfl (lv_at hl 0 rfl) ?_
  refine va_get (D := D) (ci := 8) (C := R_Pr) (T := T_Pr) (N := 10) hx hb hts in_Pr hown hK hst.1 45 (WS_o45 g σ) rfl 4 (by decide) (hts _ gw372) (fun _ h9 => h9) rfl d_Pr_addFound_38 ?_
  refine lv_icmp_ge (tgt := 72) hx hb d_Pr_addFound_41 (by decide) (fun hc => ?_) (fun hc => ?_)
  · replace h := h.1 hc
    refine lv_aload_n hx hb d_Pr_addFound_72 rfl (lv_at hl 0 rfl) ?_
    refine va_get (D := D) (ci := 8) (C := R_Pr) (T := T_Pr) (N := 10) hx hb hts in_Pr hown hK hst.1 45 (WS_o45 g σ) rfl 4 (by decide) (hts _ gw372) (fun _ h9 => h9) rfl d_Pr_addFound_73 ?_
    refine lv_istore_n hx hb d_Pr_addFound_76 rfl hl (by decide) rfl (fun ls hl => ?_)
    have hl : lv_has ls 4 [(3, .int (σ.1 45 4)), (0, .ref (g.1 45)), (1, .int x1), (2, .int x2)] := hl
    exact j3 x1 x2 (σ.1 45 4) σ _ _ _ (lv_sub hl [1, 2, 3, 0] rfl) hst h
  · replace h := h.2 hc
    refine lv_aload_n hx hb d_Pr_addFound_44 rfl (lv_at hl 0 rfl) ?_
    refine va_get (D := D) (ci := 8) (C := R_Pr) (T := T_Pr) (N := 10) hx hb hts in_Pr hown hK hst.1 45 (WS_o45 g σ) rfl 7 (by decide) (hts _ gw375) (fun _ h9 => h9) rfl d_Pr_addFound_45 ?_
    refine va_get (D := D) (ci := 0) (C := R_Tr) (T := T_Tr) (N := 12) hx hb hts in_Tr hown hK hst.1 0 (WS_o0 g σ) rfl 0 (by decide) (hts _ gw128) (fun _ h9 => h9) rfl d_Pr_addFound_48 ?_
    refine lv_aload_n hx hb d_Pr_addFound_51 rfl (lv_at hl 0 rfl) ?_
    refine va_get (D := D) (ci := 8) (C := R_Pr) (T := T_Pr) (N := 10) hx hb hts in_Pr hown hK hst.1 45 (WS_o45 g σ) rfl 3 (by decide) (hts _ gw371) (fun _ h9 => h9) rfl d_Pr_addFound_52 ?_
    refine lv_iload_n hx hb d_Pr_addFound_55 rfl (lv_at hl 2 rfl) ?_
    obtain ⟨hi, h⟩ := h
    refine va_iald hx hb hK hst.1 48 0 (WS_a48 g σ) rfl hi d_Pr_addFound_56 ?_
    refine lv_aload_n hx hb d_Pr_addFound_57 rfl (lv_at hl 0 rfl) ?_
    refine va_get (D := D) (ci := 8) (C := R_Pr) (T := T_Pr) (N := 10) hx hb hts in_Pr hown hK hst.1 45 (WS_o45 g σ) rfl 7 (by decide) (hts _ gw375) (fun _ h9 => h9) rfl d_Pr_addFound_58 ?_
    refine va_get (D := D) (ci := 0) (C := R_Tr) (T := T_Tr) (N := 12) hx hb hts in_Tr hown hK hst.1 0 (WS_o0 g σ) rfl 0 (by decide) (hts _ gw128) (fun _ h9 => h9) rfl d_Pr_addFound_61 ?_
    refine lv_iload_n hx hb d_Pr_addFound_64 rfl (lv_at hl 1 rfl) ?_
    refine kw_calli (va_runV (As := [.int (σ.1 48 x2.toNatClampNeg), .ref (g.1 10), .int x1]) (rest := []) (b := g.1 10) ⟨hx, hb, hml, hown, hts⟩ (c_Tx_sameQuoted_0_0 l (σ.1 48 x2.toNatClampNeg) x1 h) (cwV 3 hts (gd_v gw1013 gw674 gw675 gw8 gw676) rfl rfl rfl (by decide +kernel) ⟨Nat.le_of_ble_eq_true rfl, Nat.le_of_ble_eq_true rfl⟩) ⟨kw_blind (Zk_ok g), va_recv hK hst.1 rfl (WS_o10 g σ), kw_pre (Zk_ok g) hK hZ hA hst⟩ rfl rfl hl.1 rfl (lv_room (Nat.le_of_ble_eq_true rfl)) d_Pr_addFound_65 ⟨Nat.le_of_ble_eq_true rfl, Nat.le_of_ble_eq_true rfl⟩) hst hA (fun r1 σ1 H locs h hst => ?_)
    refine lv_if_eq (tgt := 72) hx hb d_Pr_addFound_68 (by decide) (fun hc => ?_) (fun hc => ?_)
    · replace h := h.1 hc
      refine lv_aload_n hx hb d_Pr_addFound_72 rfl (lv_at hl 0 rfl) ?_
      refine va_get (D := D) (ci := 8) (C := R_Pr) (T := T_Pr) (N := 10) hx hb hts in_Pr hown hK hst.1 45 (WS_o45 g σ1) rfl 4 (by decide) (hts _ gw372) (fun _ h9 => h9) rfl d_Pr_addFound_73 ?_
      refine lv_istore_n hx hb d_Pr_addFound_76 rfl hl (by decide) rfl (fun ls hl => ?_)
      have hl : lv_has ls 4 [(3, .int (σ1.1 45 4)), (0, .ref (g.1 45)), (1, .int x1), (2, .int x2)] := hl
      exact j3 x1 x2 (σ1.1 45 4) σ1 _ _ _ (lv_sub hl [1, 2, 3, 0] rfl) hst h
    · replace h := h.2 hc
      exact kw_vret hx hb hr hlocks hst h d_Pr_addFound_71
set_option maxRecDepth 100000 in
set_option maxHeartbeats 4000000 in
theorem b_Pr_addFound_3 {p : Program} {l : Launch} {e : Env} {s : State} {m : MethodId} {args : Array Value} {below : List Frame} {meth : Method} {c : Code} {D : va_G} {g : Gm} {A : Nat → Prop} {post : Sg → Prop} {F : Nat → Int32 → Int32 → Int32 → Sg → Prop} (C : kC p s m args meth c k_Pr_addFound 4 (none) GW R_Pr D vwCl g (Zk g) A) (j3 : J_Pr_addFound_3 p l e s m args below meth c D g A post F) (x1 : Int32) (x2 : Int32) (x3 : Int32) (σ : Sg) (H : Heap) (locs : List Loc) (ls : Array Slot) (hl : lv_has ls 4 [(0, .ref (g.1 45)), (1, .int x1), (2, .int x2), (3, .int x3)]) (hst : Wst D vwCl (WS g) A s σ H locs) (h : wb_Pr_addFound_3 F post x1 x2 x3 σ) : W p l e { frames := 1, cells := 0, slots := 0, locals := 26 } s m args below meth c H locs 0 0 (MQ below (QvW D vwCl (WS g) post A) args s 0 0 A) (F0 m 77 ls []) := by
  obtain ⟨hx, hb, hr, hml, hown, hts, hlocks, hK, hZ, hA⟩ := C
  unfold wb_Pr_addFound_3 at h
  refine lv_iload_n hx hb d_Pr_addFound_77 rfl (lv_at hl 3 rfl) ?_
  refine lv_iload_n hx hb d_Pr_addFound_78 rfl (lv_at hl 2 rfl) ?_
  refine lv_icmp_le (tgt := 102) hx hb d_Pr_addFound_79 (by decide) (fun hc => ?_) (fun hc => ?_)
  · replace h := h.1 hc
    refine lv_aload_n hx hb d_Pr_addFound_102 rfl (lv_at hl 0 rfl) ?_
    refine va_get (D := D) (ci := 8) (C := R_Pr) (T := T_Pr) (N := 10) hx hb hts in_Pr hown hK hst.1 45 (WS_o45 g σ) rfl 3 (by decide) (hts _ gw371) (fun _ h9 => h9) rfl d_Pr_addFound_103 ?_
    refine lv_iload_n hx hb d_Pr_addFound_106 rfl (lv_at hl 2 rfl) ?_
    refine lv_iload_n hx hb d_Pr_addFound_107 rfl (lv_at hl 1 rfl) ?_
    obtain ⟨hi, h⟩ := h
    refine kw_iast hx hb hK hst 48 (WS_a48 g σ) hi (WS_s48 g σ _ _) d_Pr_addFound_108 (fun σ1 H locs e1 hst => ?_)
    replace h := h σ1 e1
    refine lv_aload_n hx hb d_Pr_addFound_109 rfl (lv_at hl 0 rfl) ?_
    refine lv_dup hx hb d_Pr_addFound_110 rfl ?_
    refine va_get (D := D) (ci := 8) (C := R_Pr) (T := T_Pr) (N := 10) hx hb hts in_Pr hown hK hst.1 45 (WS_o45 g σ1) rfl 4 (by decide) (hts _ gw372) (fun _ h9 => h9) rfl d_Pr_addFound_111 ?_
    refine lv_iconst (v := (1 : Int32)) hx hb d_Pr_addFound_114 (by decide) ?_
    refine lv_iadd hx hb d_Pr_addFound_115 ?_
    refine kw_put (D := D) (ci := 8) (ty := .int) (C := R_Pr) (T := T_Pr) (N := 10) hx hb hts in_Pr ty_Pr ty_Pr_ok nm_Pr hown hK hst 45 (WS_o45 g σ1) rfl 4 (by decide) (hts _ gw372) (fun _ h9 => h9) rfl (by decide +kernel) rfl rfl (Nat.le_of_ble_eq_true rfl) (WS_p45_4 g σ1 _) d_Pr_addFound_116 (fun σ2 H locs e2 hst => ?_)
    replace h := h σ2 e2
    exact kw_vret hx hb hr hlocks hst h d_Pr_addFound_119
  · replace h := h.2 hc
    refine lv_aload_n hx hb d_Pr_addFound_82 rfl (lv_at hl 0 rfl) ?_
    refine va_get (D := D) (ci := 8) (C := R_Pr) (T := T_Pr) (N := 10) hx hb hts in_Pr hown hK hst.1 45 (WS_o45 g σ) rfl 3 (by decide) (hts _ gw371) (fun _ h9 => h9) rfl d_Pr_addFound_83 ?_
    refine lv_iload_n hx hb d_Pr_addFound_86 rfl (lv_at hl 3 rfl) ?_
    refine lv_aload_n hx hb d_Pr_addFound_87 rfl (lv_at hl 0 rfl) ?_
    refine va_get (D := D) (ci := 8) (C := R_Pr) (T := T_Pr) (N := 10) hx hb hts in_Pr hown hK hst.1 45 (WS_o45 g σ) rfl 3 (by decide) (hts _ gw371) (fun _ h9 => h9) rfl d_Pr_addFound_88 ?_
    refine lv_iload_n hx hb d_Pr_addFound_91 rfl (lv_at hl 3 rfl) ?_
    refine lv_iconst (v := (1 : Int32)) hx hb d_Pr_addFound_92 (by decide) ?_
    refine lv_isub hx hb d_Pr_addFound_93 ?_
    obtain ⟨hi, h⟩ := h
    refine va_iald hx hb hK hst.1 48 0 (WS_a48 g σ) rfl hi d_Pr_addFound_94 ?_
    obtain ⟨hi, h⟩ := h
    refine kw_iast hx hb hK hst 48 (WS_a48 g σ) hi (WS_s48 g σ _ _) d_Pr_addFound_95 (fun σ1 H locs e1 hst => ?_)
    replace h := h σ1 e1
    refine lv_iinc (k := 3) (v := (x3 + (-1))) hx hb d_Pr_addFound_96 hl rfl (kw_inc _ (by decide)) (by decide) rfl (fun ls hl => ?_)
    have hl : lv_has ls 4 [(3, .int (x3 + (-1))), (0, .ref (g.1 45)), (1, .int x1), (2, .int x2)] := hl
    refine lv_goto (tgt := 77) hx hb d_Pr_addFound_99 (by decide) ?_
    exact j3 x1 x2 (x3 + (-1)) σ1 _ _ _ (lv_sub hl [1, 2, 3, 0] rfl) hst h
set_option maxRecDepth 100000 in
set_option maxHeartbeats 4000000 in
theorem a_Pr_addFound {p : Program} {l : Launch} {e : Env} {s : State} {m : MethodId} {args : Array Value} {below : List Frame} {meth : Method} {c : Code} {D : va_G} {g : Gm} {A : Nat → Prop} {post : Sg → Prop} (C : kC p s m args meth c k_Pr_addFound 4 (none) GW R_Pr D vwCl g (Zk g) A) : ∀ n : Nat, J_Pr_addFound_1 p l e s m args below meth c D g A post (wp_Pr_addFound post n) ∧ J_Pr_addFound_2 p l e s m args below meth c D g A post (wp_Pr_addFound post n) ∧ J_Pr_addFound_3 p l e s m args below meth c D g A post (wp_Pr_addFound post n) := by
  intro n
  induction n with
  | zero => exact ⟨fun _ _ _ _ _ _ _ _ h => h.elim, fun _ _ _ _ _ _ _ _ h => h.elim, fun _ _ _ _ _ _ _ _ _ h => h.elim⟩
  | succ n ih => exact ⟨fun x1 x2 σ H locs ls hl hst h => b_Pr_addFound_1 (F := wp_Pr_addFound post n) C (ih.1) (ih.2.1) x1 x2 σ H locs ls hl hst h, fun x1 x2 σ H locs ls hl hst h => b_Pr_addFound_2 (F := wp_Pr_addFound post n) C (ih.2.2) x1 x2 σ H locs ls hl hst h, fun x1 x2 x3 σ H locs ls hl hst h => b_Pr_addFound_3 (F := wp_Pr_addFound post n) C (ih.2.2) x1 x2 x3 σ H locs ls hl hst h⟩
set_option maxRecDepth 100000 in
set_option maxHeartbeats 4000000 in
theorem c_Pr_addFound (l : Launch) {D : va_G} {g : Gm} {sz : Nat} (x1 : Int32) {σ : Sg} {post : Sg → Prop} (h : wq_Pr_addFound x1 σ post) : Met l y_Pr_addFound (.code y_Pr_addFound k_Pr_addFound 4 (none) :: GW) { frames := 1, cells := 0, slots := 0, locals := 26 } (PcW D vwCl (WS g) g (Zk g) σ sz [.ref (g.1 45), .int x1]) (QvW D vwCl (WS g) post (va_A (WS g σ) sz)) 0 0 (va_A (WS g σ) sz) := by
  refine kw_entry (own := R_Pr) (by decide) rfl rfl (Nat.le_of_ble_eq_true rfl) ?_
  intro p e s m below meth c ls hsz C hin hl hst
  obtain ⟨n, h⟩ := h
  cases n with
  | zero => exact h.elim
  | succ n =>
    have ih := a_Pr_addFound (l := l) (e := e) (below := below) (post := post) C n
    exact b_Pr_addFound_0 (F := wp_Pr_addFound post n) C (ih.1) x1 σ _ _ ls hl hst h
/-! SchemaDesk$Proposals.keepFound ()V -/
abbrev k_Pr_keepFound : ByteArray := prog_4_method_10_code
abbrev y_Pr_keepFound : MethodName := ⟨"SchemaDesk$Proposals", "keepFound", "()V"⟩
theorem d_Pr_keepFound_0 : decode k_Pr_keepFound 0 = .ok (.aload_n 0, 1) := by decide +kernel
theorem d_Pr_keepFound_1 : decode k_Pr_keepFound 1 = .ok (.aload_n 0, 1) := by decide +kernel
theorem d_Pr_keepFound_2 : decode k_Pr_keepFound 2 = .ok (.getfield 53, 3) := by decide +kernel
theorem d_Pr_keepFound_5 : decode k_Pr_keepFound 5 = .ok (.putfield 139, 3) := by decide +kernel
theorem d_Pr_keepFound_8 : decode k_Pr_keepFound 8 = .ok (.iconst 0, 1) := by decide +kernel
theorem d_Pr_keepFound_9 : decode k_Pr_keepFound 9 = .ok (.istore_n 1, 1) := by decide +kernel
theorem d_Pr_keepFound_10 : decode k_Pr_keepFound 10 = .ok (.iload_n 1, 1) := by decide +kernel
theorem d_Pr_keepFound_11 : decode k_Pr_keepFound 11 = .ok (.aload_n 0, 1) := by decide +kernel
theorem d_Pr_keepFound_12 : decode k_Pr_keepFound 12 = .ok (.getfield 139, 3) := by decide +kernel
theorem d_Pr_keepFound_15 : decode k_Pr_keepFound 15 = .ok (.if_icmp .ge 79, 3) := by decide +kernel
theorem d_Pr_keepFound_18 : decode k_Pr_keepFound 18 = .ok (.aload_n 0, 1) := by decide +kernel
theorem d_Pr_keepFound_19 : decode k_Pr_keepFound 19 = .ok (.getfield 44, 3) := by decide +kernel
theorem d_Pr_keepFound_22 : decode k_Pr_keepFound 22 = .ok (.getfield 119, 3) := by decide +kernel
theorem d_Pr_keepFound_25 : decode k_Pr_keepFound 25 = .ok (.aload_n 0, 1) := by decide +kernel
theorem d_Pr_keepFound_26 : decode k_Pr_keepFound 26 = .ok (.getfield 19, 3) := by decide +kernel
theorem d_Pr_keepFound_29 : decode k_Pr_keepFound 29 = .ok (.iload_n 1, 1) := by decide +kernel
theorem d_Pr_keepFound_30 : decode k_Pr_keepFound 30 = .ok (.iaload, 1) := by decide +kernel
theorem d_Pr_keepFound_31 : decode k_Pr_keepFound 31 = .ok (.invokevirtual 142, 3) := by decide +kernel
theorem d_Pr_keepFound_34 : decode k_Pr_keepFound 34 = .ok (.aload_n 0, 1) := by decide +kernel
theorem d_Pr_keepFound_35 : decode k_Pr_keepFound 35 = .ok (.getfield 19, 3) := by decide +kernel
theorem d_Pr_keepFound_38 : decode k_Pr_keepFound 38 = .ok (.iload_n 1, 1) := by decide +kernel
theorem d_Pr_keepFound_39 : decode k_Pr_keepFound 39 = .ok (.iaload, 1) := by decide +kernel
theorem d_Pr_keepFound_40 : decode k_Pr_keepFound 40 = .ok (.isub, 1) := by decide +kernel
theorem d_Pr_keepFound_41 : decode k_Pr_keepFound 41 = .ok (.istore_n 2, 1) := by decide +kernel
theorem d_Pr_keepFound_42 : decode k_Pr_keepFound 42 = .ok (.aload_n 0, 1) := by decide +kernel
theorem d_Pr_keepFound_43 : decode k_Pr_keepFound 43 = .ok (.getfield 44, 3) := by decide +kernel
theorem d_Pr_keepFound_46 : decode k_Pr_keepFound 46 = .ok (.getfield 119, 3) := by decide +kernel
theorem d_Pr_keepFound_49 : decode k_Pr_keepFound 49 = .ok (.getfield 146, 3) := by decide +kernel
theorem d_Pr_keepFound_52 : decode k_Pr_keepFound 52 = .ok (.aload_n 0, 1) := by decide +kernel
theorem d_Pr_keepFound_53 : decode k_Pr_keepFound 53 = .ok (.getfield 19, 3) := by decide +kernel
theorem d_Pr_keepFound_56 : decode k_Pr_keepFound 56 = .ok (.iload_n 1, 1) := by decide +kernel
theorem d_Pr_keepFound_57 : decode k_Pr_keepFound 57 = .ok (.iaload, 1) := by decide +kernel
theorem d_Pr_keepFound_58 : decode k_Pr_keepFound 58 = .ok (.aload_n 0, 1) := by decide +kernel
theorem d_Pr_keepFound_59 : decode k_Pr_keepFound 59 = .ok (.getfield 9, 3) := by decide +kernel
theorem d_Pr_keepFound_62 : decode k_Pr_keepFound 62 = .ok (.aload_n 0, 1) := by decide +kernel
theorem d_Pr_keepFound_63 : decode k_Pr_keepFound 63 = .ok (.getfield 15, 3) := by decide +kernel
theorem d_Pr_keepFound_66 : decode k_Pr_keepFound 66 = .ok (.iload_n 1, 1) := by decide +kernel
theorem d_Pr_keepFound_67 : decode k_Pr_keepFound 67 = .ok (.iaload, 1) := by decide +kernel
theorem d_Pr_keepFound_68 : decode k_Pr_keepFound 68 = .ok (.iload_n 2, 1) := by decide +kernel
theorem d_Pr_keepFound_69 : decode k_Pr_keepFound 69 = .ok (.invokestatic 147, 3) := by decide +kernel
theorem d_Pr_keepFound_72 : decode k_Pr_keepFound 72 = .ok (.aload_n 0, 1) := by decide +kernel
theorem d_Pr_keepFound_73 : decode k_Pr_keepFound 73 = .ok (.getfield 15, 3) := by decide +kernel
theorem d_Pr_keepFound_76 : decode k_Pr_keepFound 76 = .ok (.iload_n 1, 1) := by decide +kernel
theorem d_Pr_keepFound_77 : decode k_Pr_keepFound 77 = .ok (.iconst 1, 1) := by decide +kernel
theorem d_Pr_keepFound_78 : decode k_Pr_keepFound 78 = .ok (.iadd, 1) := by decide +kernel
theorem d_Pr_keepFound_79 : decode k_Pr_keepFound 79 = .ok (.aload_n 0, 1) := by decide +kernel
theorem d_Pr_keepFound_80 : decode k_Pr_keepFound 80 = .ok (.getfield 15, 3) := by decide +kernel
theorem d_Pr_keepFound_83 : decode k_Pr_keepFound 83 = .ok (.iload_n 1, 1) := by decide +kernel
theorem d_Pr_keepFound_84 : decode k_Pr_keepFound 84 = .ok (.iaload, 1) := by decide +kernel
theorem d_Pr_keepFound_85 : decode k_Pr_keepFound 85 = .ok (.iload_n 2, 1) := by decide +kernel
theorem d_Pr_keepFound_86 : decode k_Pr_keepFound 86 = .ok (.iadd, 1) := by decide +kernel
theorem d_Pr_keepFound_87 : decode k_Pr_keepFound 87 = .ok (.iastore, 1) := by decide +kernel
theorem d_Pr_keepFound_88 : decode k_Pr_keepFound 88 = .ok (.iinc 1 1, 3) := by decide +kernel
theorem d_Pr_keepFound_91 : decode k_Pr_keepFound 91 = .ok (.goto (-81), 3) := by decide +kernel
theorem d_Pr_keepFound_94 : decode k_Pr_keepFound 94 = .ok (.return_, 1) := by decide +kernel
theorem gw367 : (Jvm.Cond.fieldLink "SchemaDesk$Proposals" (139 : Nat) "SchemaDesk$Proposals" "count" "I") ∈ GW := gw_t2 (List.mem_of_getElem? (i := 127) rfl) rfl
theorem gw1018 : (Jvm.Cond.methodLink "SchemaDesk$Proposals" (142 : Nat) ({ cls := "SchemaDesk$Text", name := "quotedEnd", desc := "(I)I" } : Jvm.MethodName)) ∈ GW := gw_t5 (List.mem_of_getElem? (i := 58) rfl) rfl
theorem gw111 : (Jvm.Cond.fieldLink "SchemaDesk$Proposals" (146 : Nat) "SchemaDesk$Text" "letters" "[C") ∈ GW := gw_t1 (List.mem_of_getElem? (i := 111) rfl) rfl
theorem gw1019 : (Jvm.Cond.methodLink "SchemaDesk$Proposals" (147 : Nat) ({ cls := "java/lang/System", name := "arraycopy", desc := "(Ljava/lang/Object;ILjava/lang/Object;II)V" } : Jvm.MethodName)) ∈ GW := gw_t5 (List.mem_of_getElem? (i := 59) rfl) rfl
def wb_Pr_keepFound_0 (F : Nat → Int32 → Sg → Prop) (post : Sg → Prop) (σ : Sg) : Prop := (∀ σ1, σ1 = si σ 45 0 (σ.1 45 4) → F 1 (0 : Int32) σ1)
def wb_Pr_keepFound_1 (F : Nat → Int32 → Sg → Prop) (post : Sg → Prop) (x1 : Int32) (σ : Sg) : Prop := (((σ.1 45 0) ≤ x1 → post σ) ∧ (¬ (σ.1 45 0) ≤ x1 → (vp_in x1 160 ∧ (wq_Tx_quotedEnd 0 (σ.1 48 x1.toNatClampNeg) σ (fun r1 σ1 => (vp_in x1 160 ∧ (vp_in x1 160 ∧ (vp_in x1 161 ∧ (¬ (σ1.1 48 x1.toNatClampNeg) < 0 ∧ ¬ (σ1.1 47 x1.toNatClampNeg) < 0 ∧ ¬ (r1 - (σ1.1 48 x1.toNatClampNeg)) < 0 ∧ ((σ1.1 48 x1.toNatClampNeg) : Int32).toNatClampNeg + ((r1 - (σ1.1 48 x1.toNatClampNeg)) : Int32).toNatClampNeg ≤ 160 ∧ ((σ1.1 47 x1.toNatClampNeg) : Int32).toNatClampNeg + ((r1 - (σ1.1 48 x1.toNatClampNeg)) : Int32).toNatClampNeg ≤ 160 ∧ (∀ i, i < ((r1 - (σ1.1 48 x1.toNatClampNeg)) : Int32).toNatClampNeg → fits .char (.int (σ1.1 11 (((σ1.1 48 x1.toNatClampNeg) : Int32).toNatClampNeg + i))) = true) ∧ (∀ σ2, σ2 = sw σ1 46 (va_cpy (σ1.1 11) (σ1.1 46) ((σ1.1 48 x1.toNatClampNeg) : Int32).toNatClampNeg ((σ1.1 47 x1.toNatClampNeg) : Int32).toNatClampNeg ((r1 - (σ1.1 48 x1.toNatClampNeg)) : Int32).toNatClampNeg) → (vp_in x1 161 ∧ (vp_in (x1 + (1 : Int32)) 161 ∧ (∀ σ3, σ3 = si σ2 47 ((x1 + (1 : Int32)) : Int32).toNatClampNeg ((σ2.1 47 x1.toNatClampNeg) + (r1 - (σ1.1 48 x1.toNatClampNeg))) → F 1 (x1 + 1) σ3)))))))))))))
def wp_Pr_keepFound (post : Sg → Prop) : Nat → Nat → Int32 → Sg → Prop
  | 0, _, _, _ => False
  | n + 1, k, x1, σ => match k with
    | 0 => wb_Pr_keepFound_0 (wp_Pr_keepFound post n) post σ
    | 1 => wb_Pr_keepFound_1 (wp_Pr_keepFound post n) post x1 σ
    | _ => False
def wq_Pr_keepFound (σ : Sg) (post : Sg → Prop) : Prop := ∃ n, wp_Pr_keepFound post n 0 0 σ
def J_Pr_keepFound_1 (p : Program) (l : Launch) (e : Env) (s : State) (m : MethodId) (args : Array Value) (below : List Frame) (meth : Method) (c : Code) (D : va_G) (g : Gm) (A : Nat → Prop) (post : Sg → Prop) (F : Nat → Int32 → Sg → Prop) : Prop := ∀ (x1 : Int32) (σ : Sg) (H : Heap) (locs : List Loc) (ls : Array Slot), lv_has ls 3 [(0, .ref (g.1 45)), (1, .int x1)] → Wst D vwCl (WS g) A s σ H locs → F 1 x1 σ → W p l e { frames := 1, cells := 0, slots := 0, locals := 60 } s m args below meth c H locs 0 0 (MQ below (QvW D vwCl (WS g) post A) args s 0 0 A) (F0 m 10 ls [])
set_option maxRecDepth 100000 in
set_option maxHeartbeats 4000000 in
theorem b_Pr_keepFound_0 {p : Program} {l : Launch} {e : Env} {s : State} {m : MethodId} {args : Array Value} {below : List Frame} {meth : Method} {c : Code} {D : va_G} {g : Gm} {A : Nat → Prop} {post : Sg → Prop} {F : Nat → Int32 → Sg → Prop} (C : kC p s m args meth c k_Pr_keepFound 3 (none) GW R_Pr D vwCl g (Zk g) A) (j1 : J_Pr_keepFound_1 p l e s m args below meth c D g A post F) (σ : Sg) (H : Heap) (locs : List Loc) (ls : Array Slot) (hl : lv_has ls 3 [(0, .ref (g.1 45))]) (hst : Wst D vwCl (WS g) A s σ H locs) (h : wb_Pr_keepFound_0 F post σ) : W p l e { frames := 1, cells := 0, slots := 0, locals := 60 } s m args below meth c H locs 0 0 (MQ below (QvW D vwCl (WS g) post A) args s 0 0 A) (F0 m 0 ls []) := by
  obtain ⟨hx, hb, hr, hml, hown, hts, hlocks, hK, hZ, hA⟩ := C
  unfold wb_Pr_keepFound_0 at h
  refine lv_aload_n hx hb d_Pr_keepFound_0 rfl (lv_at hl 0 rfl) ?_
  refine lv_aload_n hx hb d_Pr_keepFound_1 rfl (lv_at hl 0 rfl) ?_
  refine va_get (D := D) (ci := 8) (C := R_Pr) (T := T_Pr) (N := 10) hx hb hts in_Pr hown hK hst.1 45 (WS_o45 g σ) rfl 4 (by decide) (hts _ gw372) (fun _ h9 => h9) rfl d_Pr_keepFound_2 ?_
  refine kw_put (D := D) (ci := 8) (ty := .int) (C := R_Pr) (T := T_Pr) (N := 10) hx hb hts in_Pr ty_Pr ty_Pr_ok nm_Pr hown hK hst 45 (WS_o45 g σ) rfl 0 (by decide) (hts _ gw367) (fun _ h9 => h9) rfl (by decide +kernel) rfl rfl (Nat.le_of_ble_eq_true rfl) (WS_p45_0 g σ _) d_Pr_keepFound_5 (fun σ1 H locs e1 hst => ?_)
  replace h := h σ1 e1
  refine lv_iconst (v := (0 : Int32)) hx hb d_Pr_keepFound_8 (by decide) ?_
  refine lv_istore_n hx hb d_Pr_keepFound_9 rfl hl (by decide) rfl (fun ls hl => ?_)
  have hl : lv_has ls 3 [(1, .int (0 : Int32)), (0, .ref (g.1 45))] := hl
  exact j1 (0 : Int32) σ1 _ _ _ (lv_sub hl [1, 0] rfl) hst h
set_option maxRecDepth 100000 in
set_option maxHeartbeats 4000000 in
theorem b_Pr_keepFound_1 {p : Program} {l : Launch} {e : Env} {s : State} {m : MethodId} {args : Array Value} {below : List Frame} {meth : Method} {c : Code} {D : va_G} {g : Gm} {A : Nat → Prop} {post : Sg → Prop} {F : Nat → Int32 → Sg → Prop} (C : kC p s m args meth c k_Pr_keepFound 3 (none) GW R_Pr D vwCl g (Zk g) A) (j1 : J_Pr_keepFound_1 p l e s m args below meth c D g A post F) (x1 : Int32) (σ : Sg) (H : Heap) (locs : List Loc) (ls : Array Slot) (hl : lv_has ls 3 [(0, .ref (g.1 45)), (1, .int x1)]) (hst : Wst D vwCl (WS g) A s σ H locs) (h : wb_Pr_keepFound_1 F post x1 σ) : W p l e { frames := 1, cells := 0, slots := 0, locals := 60 } s m args below meth c H locs 0 0 (MQ below (QvW D vwCl (WS g) post A) args s 0 0 A) (F0 m 10 ls []) := by
  obtain ⟨hx, hb, hr, hml, hown, hts, hlocks, hK, hZ, hA⟩ := C
  unfold wb_Pr_keepFound_1 at h
  refine lv_iload_n hx hb d_Pr_keepFound_10 rfl (lv_at hl 1 rfl) ?_
  refine lv_aload_n hx hb d_Pr_keepFound_11 rfl (lv_at hl 0 rfl) ?_
  refine va_get (D := D) (ci := 8) (C := R_Pr) (T := T_Pr) (N := 10) hx hb hts in_Pr hown hK hst.1 45 (WS_o45 g σ) rfl 0 (by decide) (hts _ gw367) (fun _ h9 => h9) rfl d_Pr_keepFound_12 ?_
  refine lv_icmp_ge (tgt := 94) hx hb d_Pr_keepFound_15 (by decide) (fun hc => ?_) (fun hc => ?_)
  · replace h := h.1 hc
    exact kw_vret hx hb hr hlocks hst h d_Pr_keepFound_94
  · replace h := h.2 hc
    refine lv_aload_n hx hb d_Pr_keepFound_18 rfl (lv_at hl 0 rfl) ?_
    refine va_get (D := D) (ci := 8) (C := R_Pr) (T := T_Pr) (N := 10) hx hb hts in_Pr hown hK hst.1 45 (WS_o45 g σ) rfl 7 (by decide) (hts _ gw375) (fun _ h9 => h9) rfl d_Pr_keepFound_19 ?_
    refine va_get (D := D) (ci := 0) (C := R_Tr) (T := T_Tr) (N := 12) hx hb hts in_Tr hown hK hst.1 0 (WS_o0 g σ) rfl 0 (by decide) (hts _ gw128) (fun _ h9 => h9) rfl d_Pr_keepFound_22 ?_
    refine lv_aload_n hx hb d_Pr_keepFound_25 rfl (lv_at hl 0 rfl) ?_
    refine va_get (D := D) (ci := 8) (C := R_Pr) (T := T_Pr) (N := 10) hx hb hts in_Pr hown hK hst.1 45 (WS_o45 g σ) rfl 3 (by decide) (hts _ gw371) (fun _ h9 => h9) rfl d_Pr_keepFound_26 ?_
    refine lv_iload_n hx hb d_Pr_keepFound_29 rfl (lv_at hl 1 rfl) ?_
    obtain ⟨hi, h⟩ := h
    refine va_iald hx hb hK hst.1 48 0 (WS_a48 g σ) rfl hi d_Pr_keepFound_30 ?_
    refine kw_calli (va_runV (As := [.int (σ.1 48 x1.toNatClampNeg)]) (rest := []) (b := g.1 10) ⟨hx, hb, hml, hown, hts⟩ (c_Tx_quotedEnd_0 l (σ.1 48 x1.toNatClampNeg) h) (cwV 1 hts (gd_v gw1018 gw666 gw667 gw8 gw668) rfl rfl rfl (by decide +kernel) ⟨Nat.le_of_ble_eq_true rfl, Nat.le_of_ble_eq_true rfl⟩) ⟨kw_blind (Zk_ok g), va_recv hK hst.1 rfl (WS_o10 g σ), kw_pre (Zk_ok g) hK hZ hA hst⟩ rfl rfl hl.1 rfl (lv_room (Nat.le_of_ble_eq_true rfl)) d_Pr_keepFound_31 ⟨Nat.le_of_ble_eq_true rfl, Nat.le_of_ble_eq_true rfl⟩) hst hA (fun r1 σ1 H locs h hst => ?_)
    refine lv_aload_n hx hb d_Pr_keepFound_34 rfl (lv_at hl 0 rfl) ?_
    refine va_get (D := D) (ci := 8) (C := R_Pr) (T := T_Pr) (N := 10) hx hb hts in_Pr hown hK hst.1 45 (WS_o45 g σ1) rfl 3 (by decide) (hts _ gw371) (fun _ h9 => h9) rfl d_Pr_keepFound_35 ?_
    refine lv_iload_n hx hb d_Pr_keepFound_38 rfl (lv_at hl 1 rfl) ?_
    obtain ⟨hi, h⟩ := h
    refine va_iald hx hb hK hst.1 48 0 (WS_a48 g σ1) rfl hi d_Pr_keepFound_39 ?_
    refine lv_isub hx hb d_Pr_keepFound_40 ?_
    refine lv_istore_n hx hb d_Pr_keepFound_41 rfl hl (by decide) rfl (fun ls hl => ?_)
    have hl : lv_has ls 3 [(2, .int (r1 - (σ1.1 48 x1.toNatClampNeg))), (0, .ref (g.1 45)), (1, .int x1)] := hl
    refine lv_aload_n hx hb d_Pr_keepFound_42 rfl (lv_at hl 1 rfl) ?_
    refine va_get (D := D) (ci := 8) (C := R_Pr) (T := T_Pr) (N := 10) hx hb hts in_Pr hown hK hst.1 45 (WS_o45 g σ1) rfl 7 (by decide) (hts _ gw375) (fun _ h9 => h9) rfl d_Pr_keepFound_43 ?_
    refine va_get (D := D) (ci := 0) (C := R_Tr) (T := T_Tr) (N := 12) hx hb hts in_Tr hown hK hst.1 0 (WS_o0 g σ1) rfl 0 (by decide) (hts _ gw128) (fun _ h9 => h9) rfl d_Pr_keepFound_46 ?_
    refine va_get (D := D) (ci := 1) (C := R_Tx) (T := T_Tx) (N := 2) hx hb hts in_Tx hown hK hst.1 10 (WS_o10 g σ1) rfl 0 (by decide) (hts _ gw111) (fun _ h9 => h9) rfl d_Pr_keepFound_49 ?_
    refine lv_aload_n hx hb d_Pr_keepFound_52 rfl (lv_at hl 1 rfl) ?_
    refine va_get (D := D) (ci := 8) (C := R_Pr) (T := T_Pr) (N := 10) hx hb hts in_Pr hown hK hst.1 45 (WS_o45 g σ1) rfl 3 (by decide) (hts _ gw371) (fun _ h9 => h9) rfl d_Pr_keepFound_53 ?_
    refine lv_iload_n hx hb d_Pr_keepFound_56 rfl (lv_at hl 2 rfl) ?_
    obtain ⟨hi, h⟩ := h
    refine va_iald hx hb hK hst.1 48 0 (WS_a48 g σ1) rfl hi d_Pr_keepFound_57 ?_
    refine lv_aload_n hx hb d_Pr_keepFound_58 rfl (lv_at hl 1 rfl) ?_
    refine va_get (D := D) (ci := 8) (C := R_Pr) (T := T_Pr) (N := 10) hx hb hts in_Pr hown hK hst.1 45 (WS_o45 g σ1) rfl 1 (by decide) (hts _ gw369) (fun _ h9 => h9) rfl d_Pr_keepFound_59 ?_
    refine lv_aload_n hx hb d_Pr_keepFound_62 rfl (lv_at hl 1 rfl) ?_
    refine va_get (D := D) (ci := 8) (C := R_Pr) (T := T_Pr) (N := 10) hx hb hts in_Pr hown hK hst.1 45 (WS_o45 g σ1) rfl 2 (by decide) (hts _ gw370) (fun _ h9 => h9) rfl d_Pr_keepFound_63 ?_
    refine lv_iload_n hx hb d_Pr_keepFound_66 rfl (lv_at hl 2 rfl) ?_
    obtain ⟨hi, h⟩ := h
    refine va_iald hx hb hK hst.1 47 0 (WS_a47 g σ1) rfl hi d_Pr_keepFound_67 ?_
    refine lv_iload_n hx hb d_Pr_keepFound_68 rfl (lv_at hl 0 rfl) ?_
    obtain ⟨hi1, hi2, hi3, hi4, hi5, hi6, h⟩ := h
    refine kw_copy hx hb (hml.trans hl.1.symm) hown (hts _ gw1019) (hts _ gw451) (hts _ gw450) (hts _ gw16) hK hst 11 46 1 (WS_a11 g σ1) (WS_a46 g σ1) rfl rfl hi1 hi2 hi3 hi4 hi5 hi6 (Nat.le_of_ble_eq_true rfl) (Nat.le_of_ble_eq_true rfl) (WS_w46 g σ1 _) d_Pr_keepFound_69 (fun σ2 H locs e2 hst => ?_)
    replace h := h σ2 e2
    refine lv_aload_n hx hb d_Pr_keepFound_72 rfl (lv_at hl 1 rfl) ?_
    refine va_get (D := D) (ci := 8) (C := R_Pr) (T := T_Pr) (N := 10) hx hb hts in_Pr hown hK hst.1 45 (WS_o45 g σ2) rfl 2 (by decide) (hts _ gw370) (fun _ h9 => h9) rfl d_Pr_keepFound_73 ?_
    refine lv_iload_n hx hb d_Pr_keepFound_76 rfl (lv_at hl 2 rfl) ?_
    refine lv_iconst (v := (1 : Int32)) hx hb d_Pr_keepFound_77 (by decide) ?_
    refine lv_iadd hx hb d_Pr_keepFound_78 ?_
    refine lv_aload_n hx hb d_Pr_keepFound_79 rfl (lv_at hl 1 rfl) ?_
    refine va_get (D := D) (ci := 8) (C := R_Pr) (T := T_Pr) (N := 10) hx hb hts in_Pr hown hK hst.1 45 (WS_o45 g σ2) rfl 2 (by decide) (hts _ gw370) (fun _ h9 => h9) rfl d_Pr_keepFound_80 ?_
    refine lv_iload_n hx hb d_Pr_keepFound_83 rfl (lv_at hl 2 rfl) ?_
    obtain ⟨hi, h⟩ := h
    refine va_iald hx hb hK hst.1 47 0 (WS_a47 g σ2) rfl hi d_Pr_keepFound_84 ?_
    refine lv_iload_n hx hb d_Pr_keepFound_85 rfl (lv_at hl 0 rfl) ?_
    refine lv_iadd hx hb d_Pr_keepFound_86 ?_
    obtain ⟨hi, h⟩ := h
    refine kw_iast hx hb hK hst 47 (WS_a47 g σ2) hi (WS_s47 g σ2 _ _) d_Pr_keepFound_87 (fun σ3 H locs e3 hst => ?_)
    replace h := h σ3 e3
    refine lv_iinc (k := 2) (v := (x1 + 1)) hx hb d_Pr_keepFound_88 hl rfl (kw_inc _ (by decide)) (by decide) rfl (fun ls hl => ?_)
    have hl : lv_has ls 3 [(1, .int (x1 + 1)), (2, .int (r1 - (σ1.1 48 x1.toNatClampNeg))), (0, .ref (g.1 45))] := hl
    refine lv_goto (tgt := 10) hx hb d_Pr_keepFound_91 (by decide) ?_
    exact j1 (x1 + 1) σ3 _ _ _ (lv_sub hl [2, 0] rfl) hst h
set_option maxRecDepth 100000 in
set_option maxHeartbeats 4000000 in
theorem a_Pr_keepFound {p : Program} {l : Launch} {e : Env} {s : State} {m : MethodId} {args : Array Value} {below : List Frame} {meth : Method} {c : Code} {D : va_G} {g : Gm} {A : Nat → Prop} {post : Sg → Prop} (C : kC p s m args meth c k_Pr_keepFound 3 (none) GW R_Pr D vwCl g (Zk g) A) : ∀ n : Nat, J_Pr_keepFound_1 p l e s m args below meth c D g A post (wp_Pr_keepFound post n) := by
  intro n
  induction n with
  | zero => exact fun _ _ _ _ _ _ _ h => h.elim
  | succ n ih => exact fun x1 σ H locs ls hl hst h => b_Pr_keepFound_1 (F := wp_Pr_keepFound post n) C (ih) x1 σ H locs ls hl hst h
set_option maxRecDepth 100000 in
set_option maxHeartbeats 4000000 in
theorem c_Pr_keepFound (l : Launch) {D : va_G} {g : Gm} {sz : Nat} {σ : Sg} {post : Sg → Prop} (h : wq_Pr_keepFound σ post) : Met l y_Pr_keepFound (.code y_Pr_keepFound k_Pr_keepFound 3 (none) :: GW) { frames := 1, cells := 0, slots := 0, locals := 60 } (PcW D vwCl (WS g) g (Zk g) σ sz [.ref (g.1 45)]) (QvW D vwCl (WS g) post (va_A (WS g σ) sz)) 0 0 (va_A (WS g σ) sz) := by
  refine kw_entry (own := R_Pr) (by decide) rfl rfl (Nat.le_of_ble_eq_true rfl) ?_
  intro p e s m below meth c ls hsz C hin hl hst
  obtain ⟨n, h⟩ := h
  cases n with
  | zero => exact h.elim
  | succ n =>
    have ih := a_Pr_keepFound (l := l) (e := e) (below := below) (post := post) C n
    exact b_Pr_keepFound_0 (F := wp_Pr_keepFound post n) C (ih) σ _ _ ls hl hst h
/-! SchemaDesk$Report.report (II)V -/
abbrev k_Rp_report : ByteArray := prog_6_method_6_code
abbrev y_Rp_report : MethodName := ⟨"SchemaDesk$Report", "report", "(II)V"⟩
theorem d_Rp_report_0 : decode k_Rp_report 0 = .ok (.aload_n 0, 1) := by decide +kernel
theorem d_Rp_report_1 : decode k_Rp_report 1 = .ok (.getfield 25, 3) := by decide +kernel
theorem d_Rp_report_4 : decode k_Rp_report 4 = .ok (.iload_n 1, 1) := by decide +kernel
theorem d_Rp_report_5 : decode k_Rp_report 5 = .ok (.iload_n 2, 1) := by decide +kernel
theorem d_Rp_report_6 : decode k_Rp_report 6 = .ok (.invokevirtual 76, 3) := by decide +kernel
theorem d_Rp_report_9 : decode k_Rp_report 9 = .ok (.ifCond .ne 12, 3) := by decide +kernel
theorem d_Rp_report_12 : decode k_Rp_report 12 = .ok (.aload_n 0, 1) := by decide +kernel
theorem d_Rp_report_13 : decode k_Rp_report 13 = .ok (.getfield 18, 3) := by decide +kernel
theorem d_Rp_report_16 : decode k_Rp_report 16 = .ok (.iload_n 1, 1) := by decide +kernel
theorem d_Rp_report_17 : decode k_Rp_report 17 = .ok (.iload_n 2, 1) := by decide +kernel
theorem d_Rp_report_18 : decode k_Rp_report 18 = .ok (.invokevirtual 79, 3) := by decide +kernel
theorem d_Rp_report_21 : decode k_Rp_report 21 = .ok (.return_, 1) := by decide +kernel
theorem gw336 : (Jvm.Cond.fieldLink "SchemaDesk$Report" (25 : Nat) "SchemaDesk$Report" "verdicts" "LSchemaDesk$Verdicts;") ∈ GW := gw_t2 (List.mem_of_getElem? (i := 96) rfl) rfl
theorem gw907 : (Jvm.Cond.methodLink "SchemaDesk$Report" (76 : Nat) ({ cls := "SchemaDesk$Verdicts", name := "isHeld", desc := "(II)Z" } : Jvm.MethodName)) ∈ GW := gw_t4 (List.mem_of_getElem? (i := 187) rfl) rfl
theorem gw340 : (Jvm.Cond.fieldLink "SchemaDesk$Report" (18 : Nat) "SchemaDesk$Report" "reported" "LSchemaDesk$Marks;") ∈ GW := gw_t2 (List.mem_of_getElem? (i := 100) rfl) rfl
theorem gw908 : (Jvm.Cond.methodLink "SchemaDesk$Report" (79 : Nat) ({ cls := "SchemaDesk$Marks", name := "put", desc := "(II)V" } : Jvm.MethodName)) ∈ GW := gw_t4 (List.mem_of_getElem? (i := 188) rfl) rfl
def wq_Rp_report (x1 : Int32) (x2 : Int32) (σ : Sg) (post : Sg → Prop) : Prop := (wq_Vd_isHeld x1 x2 σ (fun r1 σ1 => ((¬ r1 = 0 → post σ1) ∧ (r1 = 0 → (wq_Mk_put 41 x1 x2 σ1 (fun σ2 => post σ2))))))
set_option maxRecDepth 100000 in
set_option maxHeartbeats 4000000 in
theorem b_Rp_report_0 {p : Program} {l : Launch} {e : Env} {s : State} {m : MethodId} {args : Array Value} {below : List Frame} {meth : Method} {c : Code} {D : va_G} {g : Gm} {A : Nat → Prop} {post : Sg → Prop} (C : kC p s m args meth c k_Rp_report 3 (none) GW R_Rp D vwCl g (Zk g) A) (x1 : Int32) (x2 : Int32) (σ : Sg) (H : Heap) (locs : List Loc) (ls : Array Slot) (hl : lv_has ls 3 [(0, .ref (g.1 40)), (1, .int x1), (2, .int x2)]) (hst : Wst D vwCl (WS g) A s σ H locs) (h : wq_Rp_report x1 x2 σ post) : W p l e { frames := 2, cells := 0, slots := 0, locals := 44 } s m args below meth c H locs 0 0 (MQ below (QvW D vwCl (WS g) post A) args s 0 0 A) (F0 m 0 ls []) := by
  obtain ⟨hx, hb, hr, hml, hown, hts, hlocks, hK, hZ, hA⟩ := C
  unfold wq_Rp_report at h
  refine lv_aload_n hx hb d_Rp_report_0 rfl (lv_at hl 0 rfl) ?_
  refine va_get (D := D) (ci := 7) (C := R_Rp) (T := T_Rp) (N := 8) hx hb hts in_Rp hown hK hst.1 40 (WS_o40 g σ) rfl 2 (by decide) (hts _ gw336) (fun _ h9 => h9) rfl d_Rp_report_1 ?_
  refine lv_iload_n hx hb d_Rp_report_4 rfl (lv_at hl 1 rfl) ?_
  refine lv_iload_n hx hb d_Rp_report_5 rfl (lv_at hl 2 rfl) ?_
  refine kw_calli (va_runV (As := [.int x1, .int x2]) (rest := []) (b := g.1 35) ⟨hx, hb, hml, hown, hts⟩ (c_Vd_isHeld l x1 x2 h) (cwV 2 hts (gd_v gw907 gw883 gw884 gw11 gw885) rfl rfl rfl (by decide +kernel) ⟨Nat.le_of_ble_eq_true rfl, Nat.le_of_ble_eq_true rfl⟩) ⟨kw_blind (Zk_ok g), va_recv hK hst.1 rfl (WS_o35 g σ), kw_pre (Zk_ok g) hK hZ hA hst⟩ rfl rfl hl.1 rfl (lv_room (Nat.le_of_ble_eq_true rfl)) d_Rp_report_6 ⟨Nat.le_of_ble_eq_true rfl, Nat.le_of_ble_eq_true rfl⟩) hst hA (fun r1 σ1 H locs h hst => ?_)
  refine lv_if_ne (tgt := 21) hx hb d_Rp_report_9 (by decide) (fun hc => ?_) (fun hc => ?_)
  · replace h := h.1 hc
    exact kw_vret hx hb hr hlocks hst h d_Rp_report_21
  · replace h := h.2 hc
    refine lv_aload_n hx hb d_Rp_report_12 rfl (lv_at hl 0 rfl) ?_
    refine va_get (D := D) (ci := 7) (C := R_Rp) (T := T_Rp) (N := 8) hx hb hts in_Rp hown hK hst.1 40 (WS_o40 g σ1) rfl 6 (by decide) (hts _ gw340) (fun _ h9 => h9) rfl d_Rp_report_13 ?_
    refine lv_iload_n hx hb d_Rp_report_16 rfl (lv_at hl 1 rfl) ?_
    refine lv_iload_n hx hb d_Rp_report_17 rfl (lv_at hl 2 rfl) ?_
    refine kw_callv (va_runV (As := [.int x1, .int x2]) (rest := []) (b := g.1 41) ⟨hx, hb, hml, hown, hts⟩ (c_Mk_put_41 l x1 x2 h) (cwV 2 hts (gd_v gw908 gw838 gw839 gw12 gw840) rfl rfl rfl (by decide +kernel) ⟨Nat.le_of_ble_eq_true rfl, Nat.le_of_ble_eq_true rfl⟩) ⟨kw_blind (Zk_ok g), va_recv hK hst.1 rfl (WS_o41 g σ1), kw_pre (Zk_ok g) hK hZ hA hst⟩ rfl rfl hl.1 rfl (lv_room (Nat.le_of_ble_eq_true rfl)) d_Rp_report_18 ⟨Nat.le_of_ble_eq_true rfl, Nat.le_of_ble_eq_true rfl⟩) hst hA (fun σ2 H locs h hst => ?_)
    exact kw_vret hx hb hr hlocks hst h d_Rp_report_21
set_option maxRecDepth 100000 in
set_option maxHeartbeats 4000000 in
theorem c_Rp_report (l : Launch) {D : va_G} {g : Gm} {sz : Nat} (x1 : Int32) (x2 : Int32) {σ : Sg} {post : Sg → Prop} (h : wq_Rp_report x1 x2 σ post) : Met l y_Rp_report (.code y_Rp_report k_Rp_report 3 (none) :: GW) { frames := 2, cells := 0, slots := 0, locals := 44 } (PcW D vwCl (WS g) g (Zk g) σ sz [.ref (g.1 40), .int x1, .int x2]) (QvW D vwCl (WS g) post (va_A (WS g σ) sz)) 0 0 (va_A (WS g σ) sz) := by
  refine kw_entry (own := R_Rp) (by decide) rfl rfl (Nat.le_of_ble_eq_true rfl) ?_
  intro p e s m below meth c ls hsz C hin hl hst
  exact b_Rp_report_0 C x1 x2 σ _ _ ls hl hst h
/-! SchemaDesk$Report.reportForChildren (III)V -/
abbrev k_Rp_reportForChildren : ByteArray := prog_6_method_9_code
abbrev y_Rp_reportForChildren : MethodName := ⟨"SchemaDesk$Report", "reportForChildren", "(III)V"⟩
theorem d_Rp_reportForChildren_0 : decode k_Rp_reportForChildren 0 = .ok (.iconst 0, 1) := by decide +kernel
theorem d_Rp_reportForChildren_1 : decode k_Rp_reportForChildren 1 = .ok (.istore 4, 2) := by decide +kernel
theorem d_Rp_reportForChildren_3 : decode k_Rp_reportForChildren 3 = .ok (.iload_n 3, 1) := by decide +kernel
theorem d_Rp_reportForChildren_4 : decode k_Rp_reportForChildren 4 = .ok (.iconst 1, 1) := by decide +kernel
theorem d_Rp_reportForChildren_5 : decode k_Rp_reportForChildren 5 = .ok (.iadd, 1) := by decide +kernel
theorem d_Rp_reportForChildren_6 : decode k_Rp_reportForChildren 6 = .ok (.istore 5, 2) := by decide +kernel
theorem d_Rp_reportForChildren_8 : decode k_Rp_reportForChildren 8 = .ok (.iload 4, 2) := by decide +kernel
theorem d_Rp_reportForChildren_10 : decode k_Rp_reportForChildren 10 = .ok (.aload_n 0, 1) := by decide +kernel
theorem d_Rp_reportForChildren_11 : decode k_Rp_reportForChildren 11 = .ok (.getfield 44, 3) := by decide +kernel
theorem d_Rp_reportForChildren_14 : decode k_Rp_reportForChildren 14 = .ok (.getfield 82, 3) := by decide +kernel
theorem d_Rp_reportForChildren_17 : decode k_Rp_reportForChildren 17 = .ok (.iload_n 3, 1) := by decide +kernel
theorem d_Rp_reportForChildren_18 : decode k_Rp_reportForChildren 18 = .ok (.iaload, 1) := by decide +kernel
theorem d_Rp_reportForChildren_19 : decode k_Rp_reportForChildren 19 = .ok (.if_icmp .ge 49, 3) := by decide +kernel
theorem d_Rp_reportForChildren_22 : decode k_Rp_reportForChildren 22 = .ok (.aload_n 0, 1) := by decide +kernel
theorem d_Rp_reportForChildren_23 : decode k_Rp_reportForChildren 23 = .ok (.getfield 25, 3) := by decide +kernel
theorem d_Rp_reportForChildren_26 : decode k_Rp_reportForChildren 26 = .ok (.iload_n 1, 1) := by decide +kernel
theorem d_Rp_reportForChildren_27 : decode k_Rp_reportForChildren 27 = .ok (.iload_n 2, 1) := by decide +kernel
theorem d_Rp_reportForChildren_28 : decode k_Rp_reportForChildren 28 = .ok (.iload_n 3, 1) := by decide +kernel
theorem d_Rp_reportForChildren_29 : decode k_Rp_reportForChildren 29 = .ok (.iload 5, 2) := by decide +kernel
theorem d_Rp_reportForChildren_31 : decode k_Rp_reportForChildren 31 = .ok (.invokevirtual 108, 3) := by decide +kernel
theorem d_Rp_reportForChildren_34 : decode k_Rp_reportForChildren 34 = .ok (.istore 6, 2) := by decide +kernel
theorem d_Rp_reportForChildren_36 : decode k_Rp_reportForChildren 36 = .ok (.iload 6, 2) := by decide +kernel
theorem d_Rp_reportForChildren_38 : decode k_Rp_reportForChildren 38 = .ok (.iconst (-1), 1) := by decide +kernel
theorem d_Rp_reportForChildren_39 : decode k_Rp_reportForChildren 39 = .ok (.if_icmp .eq 11, 3) := by decide +kernel
theorem d_Rp_reportForChildren_42 : decode k_Rp_reportForChildren 42 = .ok (.aload_n 0, 1) := by decide +kernel
theorem d_Rp_reportForChildren_43 : decode k_Rp_reportForChildren 43 = .ok (.iload 6, 2) := by decide +kernel
theorem d_Rp_reportForChildren_45 : decode k_Rp_reportForChildren 45 = .ok (.iload 5, 2) := by decide +kernel
theorem d_Rp_reportForChildren_47 : decode k_Rp_reportForChildren 47 = .ok (.invokevirtual 48, 3) := by decide +kernel
theorem d_Rp_reportForChildren_50 : decode k_Rp_reportForChildren 50 = .ok (.iinc 4 1, 3) := by decide +kernel
theorem d_Rp_reportForChildren_53 : decode k_Rp_reportForChildren 53 = .ok (.aload_n 0, 1) := by decide +kernel
theorem d_Rp_reportForChildren_54 : decode k_Rp_reportForChildren 54 = .ok (.getfield 44, 3) := by decide +kernel
theorem d_Rp_reportForChildren_57 : decode k_Rp_reportForChildren 57 = .ok (.getfield 93, 3) := by decide +kernel
theorem d_Rp_reportForChildren_60 : decode k_Rp_reportForChildren 60 = .ok (.iload 5, 2) := by decide +kernel
theorem d_Rp_reportForChildren_62 : decode k_Rp_reportForChildren 62 = .ok (.iaload, 1) := by decide +kernel
theorem d_Rp_reportForChildren_63 : decode k_Rp_reportForChildren 63 = .ok (.istore 5, 2) := by decide +kernel
theorem d_Rp_reportForChildren_65 : decode k_Rp_reportForChildren 65 = .ok (.goto (-57), 3) := by decide +kernel
theorem d_Rp_reportForChildren_68 : decode k_Rp_reportForChildren 68 = .ok (.return_, 1) := by decide +kernel
theorem gw339 : (Jvm.Cond.fieldLink "SchemaDesk$Report" (44 : Nat) "SchemaDesk$Report" "document" "LSchemaDesk$Tree;") ∈ GW := gw_t2 (List.mem_of_getElem? (i := 99) rfl) rfl
theorem gw152 : (Jvm.Cond.fieldLink "SchemaDesk$Report" (82 : Nat) "SchemaDesk$Tree" "children" "[I") ∈ GW := gw_t1 (List.mem_of_getElem? (i := 152) rfl) rfl
theorem gw923 : (Jvm.Cond.methodLink "SchemaDesk$Report" (108 : Nat) ({ cls := "SchemaDesk$Verdicts", name := "nodeFor", desc := "(IIII)I" } : Jvm.MethodName)) ∈ GW := gw_t4 (List.mem_of_getElem? (i := 203) rfl) rfl
theorem gw167 : (Jvm.Cond.fieldLink "SchemaDesk$Report" (93 : Nat) "SchemaDesk$Tree" "behind" "[I") ∈ GW := gw_t1 (List.mem_of_getElem? (i := 167) rfl) rfl
theorem gw903 : (Jvm.Cond.methodLink "SchemaDesk$Report" (48 : Nat) ({ cls := "SchemaDesk$Report", name := "report", desc := "(II)V" } : Jvm.MethodName)) ∈ GW := gw_t4 (List.mem_of_getElem? (i := 183) rfl) rfl
theorem gw905 : (Jvm.Cond.instanceMethod ({ cls := "SchemaDesk$Report", name := "report", desc := "(II)V" } : Jvm.MethodName)) ∈ GW := gw_t4 (List.mem_of_getElem? (i := 185) rfl) rfl
theorem gs32 : Cond.selects "SchemaDesk$Report" ⟨"SchemaDesk$Report", "report", "(II)V"⟩ ⟨"SchemaDesk$Report", "report", "(II)V"⟩ ∈ GW := gw_p3 (q := (⟨"SchemaDesk$Report", "report", "(II)V"⟩, 8)) (List.mem_of_getElem? (i := 0) rfl)
theorem gw13 : (Jvm.Cond.initialized "SchemaDesk$Report") ∈ GW := gw_t1 (List.mem_of_getElem? (i := 13) rfl) rfl
theorem gw906 : (Jvm.Cond.code ({ cls := "SchemaDesk$Report", name := "report", desc := "(II)V" } : Jvm.MethodName) prog_6_method_6_code (3 : Nat) (Option.none : Option Jvm.ClassFile.FieldType)) ∈ GW := gw_t4 (List.mem_of_getElem? (i := 186) rfl) rfl
def wb_Rp_reportForChildren_0 (F : Nat → Int32 → Int32 → Int32 → Int32 → Int32 → Sg → Prop) (post : Sg → Prop) (x1 : Int32) (x2 : Int32) (x3 : Int32) (σ : Sg) : Prop := F 1 x1 x2 x3 (0 : Int32) (x3 + (1 : Int32)) σ
def wb_Rp_reportForChildren_1 (F : Nat → Int32 → Int32 → Int32 → Int32 → Int32 → Sg → Prop) (post : Sg → Prop) (x1 : Int32) (x2 : Int32) (x3 : Int32) (x4 : Int32) (x5 : Int32) (σ : Sg) : Prop := (vp_in x3 80 ∧ (((σ.1 18 x3.toNatClampNeg) ≤ x4 → post σ) ∧ (¬ (σ.1 18 x3.toNatClampNeg) ≤ x4 → (wq_Vd_nodeFor x1 x2 x3 x5 σ (fun r1 σ1 => ((r1 = (-1 : Int32) → (vp_in x5 80 ∧ F 1 x1 x2 x3 (x4 + 1) (σ1.1 21 x5.toNatClampNeg) σ1)) ∧ (¬ r1 = (-1 : Int32) → (wq_Rp_report r1 x5 σ1 (fun σ2 => (vp_in x5 80 ∧ F 1 x1 x2 x3 (x4 + 1) (σ2.1 21 x5.toNatClampNeg) σ2))))))))))
def wp_Rp_reportForChildren (post : Sg → Prop) : Nat → Nat → Int32 → Int32 → Int32 → Int32 → Int32 → Sg → Prop
  | 0, _, _, _, _, _, _, _ => False
  | n + 1, k, x1, x2, x3, x4, x5, σ => match k with
    | 0 => wb_Rp_reportForChildren_0 (wp_Rp_reportForChildren post n) post x1 x2 x3 σ
    | 1 => wb_Rp_reportForChildren_1 (wp_Rp_reportForChildren post n) post x1 x2 x3 x4 x5 σ
    | _ => False
def wq_Rp_reportForChildren (x1 : Int32) (x2 : Int32) (x3 : Int32) (σ : Sg) (post : Sg → Prop) : Prop := ∃ n, wp_Rp_reportForChildren post n 0 x1 x2 x3 0 0 σ
def J_Rp_reportForChildren_1 (p : Program) (l : Launch) (e : Env) (s : State) (m : MethodId) (args : Array Value) (below : List Frame) (meth : Method) (c : Code) (D : va_G) (g : Gm) (A : Nat → Prop) (post : Sg → Prop) (F : Nat → Int32 → Int32 → Int32 → Int32 → Int32 → Sg → Prop) : Prop := ∀ (x1 : Int32) (x2 : Int32) (x3 : Int32) (x4 : Int32) (x5 : Int32) (σ : Sg) (H : Heap) (locs : List Loc) (ls : Array Slot), lv_has ls 7 [(0, .ref (g.1 40)), (1, .int x1), (2, .int x2), (3, .int x3), (4, .int x4), (5, .int x5)] → Wst D vwCl (WS g) A s σ H locs → F 1 x1 x2 x3 x4 x5 σ → W p l e { frames := 3, cells := 0, slots := 0, locals := 78 } s m args below meth c H locs 0 0 (MQ below (QvW D vwCl (WS g) post A) args s 0 0 A) (F0 m 8 ls [])
set_option maxRecDepth 100000 in
set_option maxHeartbeats 4000000 in
theorem b_Rp_reportForChildren_0 {p : Program} {l : Launch} {e : Env} {s : State} {m : MethodId} {args : Array Value} {below : List Frame} {meth : Method} {c : Code} {D : va_G} {g : Gm} {A : Nat → Prop} {post : Sg → Prop} {F : Nat → Int32 → Int32 → Int32 → Int32 → Int32 → Sg → Prop} (C : kC p s m args meth c k_Rp_reportForChildren 7 (none) GW R_Rp D vwCl g (Zk g) A) (j1 : J_Rp_reportForChildren_1 p l e s m args below meth c D g A post F) (x1 : Int32) (x2 : Int32) (x3 : Int32) (σ : Sg) (H : Heap) (locs : List Loc) (ls : Array Slot) (hl : lv_has ls 7 [(0, .ref (g.1 40)), (1, .int x1), (2, .int x2), (3, .int x3)]) (hst : Wst D vwCl (WS g) A s σ H locs) (h : wb_Rp_reportForChildren_0 F post x1 x2 x3 σ) : W p l e { frames := 3, cells := 0, slots := 0, locals := 78 } s m args below meth c H locs 0 0 (MQ below (QvW D vwCl (WS g) post A) args s 0 0 A) (F0 m 0 ls []) := by
  obtain ⟨hx, hb, hr, hml, hown, hts, hlocks, hK, hZ, hA⟩ := C
  unfold wb_Rp_reportForChildren_0 at h
  refine lv_iconst (v := (0 : Int32)) hx hb d_Rp_reportForChildren_0 (by decide) ?_
  refine lv_istore hx hb d_Rp_reportForChildren_1 hl (by decide) rfl (fun ls hl => ?_)
  have hl : lv_has ls 7 [(4, .int (0 : Int32)), (0, .ref (g.1 40)), (1, .int x1), (2, .int x2), (3, .int x3)] := hl
  refine lv_iload_n hx hb d_Rp_reportForChildren_3 rfl (lv_at hl 4 rfl) ?_
  refine lv_iconst (v := (1 : Int32)) hx hb d_Rp_reportForChildren_4 (by decide) ?_
  refine lv_iadd hx hb d_Rp_reportForChildren_5 ?_
  refine lv_istore hx hb d_Rp_reportForChildren_6 hl (by decide) rfl (fun ls hl => ?_)
  have hl : lv_has ls 7 [(5, .int (x3 + (1 : Int32))), (4, .int (0 : Int32)), (0, .ref (g.1 40)), (1, .int x1), (2, .int x2), (3, .int x3)] := hl
  exact j1 x1 x2 x3 (0 : Int32) (x3 + (1 : Int32)) σ _ _ _ (lv_sub hl [2, 3, 4, 5, 1, 0] rfl) hst h
set_option maxRecDepth 100000 in
set_option maxHeartbeats 4000000 in
theorem b_Rp_reportForChildren_1 {p : Program} {l : Launch} {e : Env} {s : State} {m : MethodId} {args : Array Value} {below : List Frame} {meth : Method} {c : Code} {D : va_G} {g : Gm} {A : Nat → Prop} {post : Sg → Prop} {F : Nat → Int32 → Int32 → Int32 → Int32 → Int32 → Sg → Prop} (C : kC p s m args meth c k_Rp_reportForChildren 7 (none) GW R_Rp D vwCl g (Zk g) A) (j1 : J_Rp_reportForChildren_1 p l e s m args below meth c D g A post F) (x1 : Int32) (x2 : Int32) (x3 : Int32) (x4 : Int32) (x5 : Int32) (σ : Sg) (H : Heap) (locs : List Loc) (ls : Array Slot) (hl : lv_has ls 7 [(0, .ref (g.1 40)), (1, .int x1), (2, .int x2), (3, .int x3), (4, .int x4), (5, .int x5)]) (hst : Wst D vwCl (WS g) A s σ H locs) (h : wb_Rp_reportForChildren_1 F post x1 x2 x3 x4 x5 σ) : W p l e { frames := 3, cells := 0, slots := 0, locals := 78 } s m args below meth c H locs 0 0 (MQ below (QvW D vwCl (WS g) post A) args s 0 0 A) (F0 m 8 ls []) := by
  obtain ⟨hx, hb, hr, hml, hown, hts, hlocks, hK, hZ, hA⟩ := C
  unfold wb_Rp_reportForChildren_1 at h
  refine lv_iload hx hb d_Rp_reportForChildren_8 (lv_at hl 4 rfl) ?_
  refine lv_aload_n hx hb d_Rp_reportForChildren_10 rfl (lv_at hl 0 rfl) ?_
  refine va_get (D := D) (ci := 7) (C := R_Rp) (T := T_Rp) (N := 8) hx hb hts in_Rp hown hK hst.1 40 (WS_o40 g σ) rfl 5 (by decide) (hts _ gw339) (fun _ h9 => h9) rfl d_Rp_reportForChildren_11 ?_
  refine va_get (D := D) (ci := 0) (C := R_Tr) (T := T_Tr) (N := 12) hx hb hts in_Tr hown hK hst.1 13 (WS_o13 g σ) rfl 5 (by decide) (hts _ gw152) (fun _ h9 => h9) rfl d_Rp_reportForChildren_14 ?_
  refine lv_iload_n hx hb d_Rp_reportForChildren_17 rfl (lv_at hl 3 rfl) ?_
  obtain ⟨hi, h⟩ := h
  refine va_iald hx hb hK hst.1 18 0 (WS_a18 g σ) rfl hi d_Rp_reportForChildren_18 ?_
  refine lv_icmp_ge (tgt := 68) hx hb d_Rp_reportForChildren_19 (by decide) (fun hc => ?_) (fun hc => ?_)
  · replace h := h.1 hc
    exact kw_vret hx hb hr hlocks hst h d_Rp_reportForChildren_68
  · replace h := h.2 hc
    refine lv_aload_n hx hb d_Rp_reportForChildren_22 rfl (lv_at hl 0 rfl) ?_
    refine va_get (D := D) (ci := 7) (C := R_Rp) (T := T_Rp) (N := 8) hx hb hts in_Rp hown hK hst.1 40 (WS_o40 g σ) rfl 2 (by decide) (hts _ gw336) (fun _ h9 => h9) rfl d_Rp_reportForChildren_23 ?_
    refine lv_iload_n hx hb d_Rp_reportForChildren_26 rfl (lv_at hl 1 rfl) ?_
    refine lv_iload_n hx hb d_Rp_reportForChildren_27 rfl (lv_at hl 2 rfl) ?_
    refine lv_iload_n hx hb d_Rp_reportForChildren_28 rfl (lv_at hl 3 rfl) ?_
    refine lv_iload hx hb d_Rp_reportForChildren_29 (lv_at hl 5 rfl) ?_
    refine kw_calli (va_runV (As := [.int x1, .int x2, .int x3, .int x5]) (rest := []) (b := g.1 35) ⟨hx, hb, hml, hown, hts⟩ (c_Vd_nodeFor l x1 x2 x3 x5 h) (cwV 4 hts (gd_v gw923 gw820 gw821 gw11 gw822) rfl rfl rfl (by decide +kernel) ⟨Nat.le_of_ble_eq_true rfl, Nat.le_of_ble_eq_true rfl⟩) ⟨kw_blind (Zk_ok g), va_recv hK hst.1 rfl (WS_o35 g σ), kw_pre (Zk_ok g) hK hZ hA hst⟩ rfl rfl hl.1 rfl (lv_room (Nat.le_of_ble_eq_true rfl)) d_Rp_reportForChildren_31 ⟨Nat.le_of_ble_eq_true rfl, Nat.le_of_ble_eq_true rfl⟩) hst hA (fun r1 σ1 H locs h hst => ?_)
    refine lv_istore hx hb d_Rp_reportForChildren_34 hl (by decide) rfl (fun ls hl => ?_)
    have hl : lv_has ls 7 [(6, .int r1), (0, .ref (g.1 40)), (1, .int x1), (2, .int x2), (3, .int x3), (4, .int x4), (5, .int x5)] := hl
    refine lv_iload hx hb d_Rp_reportForChildren_36 (lv_at hl 0 rfl) ?_
    refine lv_iconst (v := (-1 : Int32)) hx hb d_Rp_reportForChildren_38 (by decide) ?_
    refine lv_icmp_eq (tgt := 50) hx hb d_Rp_reportForChildren_39 (by decide) (fun hc => ?_) (fun hc => ?_)
    · replace h := h.1 hc
      refine lv_iinc (k := 5) (v := (x4 + 1)) hx hb d_Rp_reportForChildren_50 hl rfl (kw_inc _ (by decide)) (by decide) rfl (fun ls hl => ?_)
      have hl : lv_has ls 7 [(4, .int (x4 + 1)), (6, .int r1), (0, .ref (g.1 40)), (1, .int x1), (2, .int x2), (3, .int x3), (5, .int x5)] := hl
      refine lv_aload_n hx hb d_Rp_reportForChildren_53 rfl (lv_at hl 2 rfl) ?_
      refine va_get (D := D) (ci := 7) (C := R_Rp) (T := T_Rp) (N := 8) hx hb hts in_Rp hown hK hst.1 40 (WS_o40 g σ1) rfl 5 (by decide) (hts _ gw339) (fun _ h9 => h9) rfl d_Rp_reportForChildren_54 ?_
      refine va_get (D := D) (ci := 0) (C := R_Tr) (T := T_Tr) (N := 12) hx hb hts in_Tr hown hK hst.1 13 (WS_o13 g σ1) rfl 8 (by decide) (hts _ gw167) (fun _ h9 => h9) rfl d_Rp_reportForChildren_57 ?_
      refine lv_iload hx hb d_Rp_reportForChildren_60 (lv_at hl 6 rfl) ?_
      obtain ⟨hi, h⟩ := h
      refine va_iald hx hb hK hst.1 21 0 (WS_a21 g σ1) rfl hi d_Rp_reportForChildren_62 ?_
      refine lv_istore hx hb d_Rp_reportForChildren_63 hl (by decide) rfl (fun ls hl => ?_)
      have hl : lv_has ls 7 [(5, .int (σ1.1 21 x5.toNatClampNeg)), (4, .int (x4 + 1)), (6, .int r1), (0, .ref (g.1 40)), (1, .int x1), (2, .int x2), (3, .int x3)] := hl
      refine lv_goto (tgt := 8) hx hb d_Rp_reportForChildren_65 (by decide) ?_
      exact j1 x1 x2 x3 (x4 + 1) (σ1.1 21 x5.toNatClampNeg) σ1 _ _ _ (lv_sub hl [3, 4, 5, 6, 1, 0] rfl) hst h
    · replace h := h.2 hc
      refine lv_aload_n hx hb d_Rp_reportForChildren_42 rfl (lv_at hl 1 rfl) ?_
      refine lv_iload hx hb d_Rp_reportForChildren_43 (lv_at hl 0 rfl) ?_
      refine lv_iload hx hb d_Rp_reportForChildren_45 (lv_at hl 6 rfl) ?_
      refine kw_callv (va_runV (As := [.int r1, .int x5]) (rest := []) (b := g.1 40) ⟨hx, hb, hml, hown, hts⟩ (c_Rp_report l r1 x5 h) (cwV 2 hts (gd_v gw903 gw905 gs32 gw13 gw906) rfl rfl rfl (by decide +kernel) ⟨Nat.le_of_ble_eq_true rfl, Nat.le_of_ble_eq_true rfl⟩) ⟨kw_blind (Zk_ok g), va_recv hK hst.1 rfl (WS_o40 g σ1), kw_pre (Zk_ok g) hK hZ hA hst⟩ rfl rfl hl.1 rfl (lv_room (Nat.le_of_ble_eq_true rfl)) d_Rp_reportForChildren_47 ⟨Nat.le_of_ble_eq_true rfl, Nat.le_of_ble_eq_true rfl⟩) hst hA (fun σ2 H locs h hst => ?_)
      refine lv_iinc (k := 5) (v := (x4 + 1)) hx hb d_Rp_reportForChildren_50 hl rfl (kw_inc _ (by decide)) (by decide) rfl (fun ls hl => ?_)
      have hl : lv_has ls 7 [(4, .int (x4 + 1)), (6, .int r1), (0, .ref (g.1 40)), (1, .int x1), (2, .int x2), (3, .int x3), (5, .int x5)] := hl
      refine lv_aload_n hx hb d_Rp_reportForChildren_53 rfl (lv_at hl 2 rfl) ?_
      refine va_get (D := D) (ci := 7) (C := R_Rp) (T := T_Rp) (N := 8) hx hb hts in_Rp hown hK hst.1 40 (WS_o40 g σ2) rfl 5 (by decide) (hts _ gw339) (fun _ h9 => h9) rfl d_Rp_reportForChildren_54 ?_
      refine va_get (D := D) (ci := 0) (C := R_Tr) (T := T_Tr) (N := 12) hx hb hts in_Tr hown hK hst.1 13 (WS_o13 g σ2) rfl 8 (by decide) (hts _ gw167) (fun _ h9 => h9) rfl d_Rp_reportForChildren_57 ?_
      refine lv_iload hx hb d_Rp_reportForChildren_60 (lv_at hl 6 rfl) ?_
      obtain ⟨hi, h⟩ := h
      refine va_iald hx hb hK hst.1 21 0 (WS_a21 g σ2) rfl hi d_Rp_reportForChildren_62 ?_
      refine lv_istore hx hb d_Rp_reportForChildren_63 hl (by decide) rfl (fun ls hl => ?_)
      have hl : lv_has ls 7 [(5, .int (σ2.1 21 x5.toNatClampNeg)), (4, .int (x4 + 1)), (6, .int r1), (0, .ref (g.1 40)), (1, .int x1), (2, .int x2), (3, .int x3)] := hl
      refine lv_goto (tgt := 8) hx hb d_Rp_reportForChildren_65 (by decide) ?_
      exact j1 x1 x2 x3 (x4 + 1) (σ2.1 21 x5.toNatClampNeg) σ2 _ _ _ (lv_sub hl [3, 4, 5, 6, 1, 0] rfl) hst h
set_option maxRecDepth 100000 in
set_option maxHeartbeats 4000000 in
theorem a_Rp_reportForChildren {p : Program} {l : Launch} {e : Env} {s : State} {m : MethodId} {args : Array Value} {below : List Frame} {meth : Method} {c : Code} {D : va_G} {g : Gm} {A : Nat → Prop} {post : Sg → Prop} (C : kC p s m args meth c k_Rp_reportForChildren 7 (none) GW R_Rp D vwCl g (Zk g) A) : ∀ n : Nat, J_Rp_reportForChildren_1 p l e s m args below meth c D g A post (wp_Rp_reportForChildren post n) := by
  intro n
  induction n with
  | zero => exact fun _ _ _ _ _ _ _ _ _ _ _ h => h.elim
  | succ n ih => exact fun x1 x2 x3 x4 x5 σ H locs ls hl hst h => b_Rp_reportForChildren_1 (F := wp_Rp_reportForChildren post n) C (ih) x1 x2 x3 x4 x5 σ H locs ls hl hst h
set_option maxRecDepth 100000 in
set_option maxHeartbeats 4000000 in
theorem c_Rp_reportForChildren (l : Launch) {D : va_G} {g : Gm} {sz : Nat} (x1 : Int32) (x2 : Int32) (x3 : Int32) {σ : Sg} {post : Sg → Prop} (h : wq_Rp_reportForChildren x1 x2 x3 σ post) : Met l y_Rp_reportForChildren (.code y_Rp_reportForChildren k_Rp_reportForChildren 7 (none) :: GW) { frames := 3, cells := 0, slots := 0, locals := 78 } (PcW D vwCl (WS g) g (Zk g) σ sz [.ref (g.1 40), .int x1, .int x2, .int x3]) (QvW D vwCl (WS g) post (va_A (WS g σ) sz)) 0 0 (va_A (WS g σ) sz) := by
  refine kw_entry (own := R_Rp) (by decide) rfl rfl (Nat.le_of_ble_eq_true rfl) ?_
  intro p e s m below meth c ls hsz C hin hl hst
  obtain ⟨n, h⟩ := h
  cases n with
  | zero => exact h.elim
  | succ n =>
    have ih := a_Rp_reportForChildren (l := l) (e := e) (below := below) (post := post) C n
    exact b_Rp_reportForChildren_0 (F := wp_Rp_reportForChildren post n) C (ih) x1 x2 x3 σ _ _ ls hl hst h
/-! SchemaDesk$Report.reportInside (II)V -/
abbrev k_Rp_reportInside : ByteArray := prog_6_method_10_code
abbrev y_Rp_reportInside : MethodName := ⟨"SchemaDesk$Report", "reportInside", "(II)V"⟩
theorem d_Rp_reportInside_0 : decode k_Rp_reportInside 0 = .ok (.iconst 0, 1) := by decide +kernel
theorem d_Rp_reportInside_1 : decode k_Rp_reportInside 1 = .ok (.istore_n 3, 1) := by decide +kernel
theorem d_Rp_reportInside_2 : decode k_Rp_reportInside 2 = .ok (.iload_n 1, 1) := by decide +kernel
theorem d_Rp_reportInside_3 : decode k_Rp_reportInside 3 = .ok (.iconst 1, 1) := by decide +kernel
theorem d_Rp_reportInside_4 : decode k_Rp_reportInside 4 = .ok (.iadd, 1) := by decide +kernel
theorem d_Rp_reportInside_5 : decode k_Rp_reportInside 5 = .ok (.istore 4, 2) := by decide +kernel
theorem d_Rp_reportInside_7 : decode k_Rp_reportInside 7 = .ok (.iload_n 3, 1) := by decide +kernel
theorem d_Rp_reportInside_8 : decode k_Rp_reportInside 8 = .ok (.aload_n 0, 1) := by decide +kernel
theorem d_Rp_reportInside_9 : decode k_Rp_reportInside 9 = .ok (.getfield 40, 3) := by decide +kernel
theorem d_Rp_reportInside_12 : decode k_Rp_reportInside 12 = .ok (.getfield 82, 3) := by decide +kernel
theorem d_Rp_reportInside_15 : decode k_Rp_reportInside 15 = .ok (.iload_n 1, 1) := by decide +kernel
theorem d_Rp_reportInside_16 : decode k_Rp_reportInside 16 = .ok (.iaload, 1) := by decide +kernel
theorem d_Rp_reportInside_17 : decode k_Rp_reportInside 17 = .ok (.if_icmp .ge 28, 3) := by decide +kernel
theorem d_Rp_reportInside_20 : decode k_Rp_reportInside 20 = .ok (.aload_n 0, 1) := by decide +kernel
theorem d_Rp_reportInside_21 : decode k_Rp_reportInside 21 = .ok (.iload 4, 2) := by decide +kernel
theorem d_Rp_reportInside_23 : decode k_Rp_reportInside 23 = .ok (.iload_n 2, 1) := by decide +kernel
theorem d_Rp_reportInside_24 : decode k_Rp_reportInside 24 = .ok (.invokevirtual 48, 3) := by decide +kernel
theorem d_Rp_reportInside_27 : decode k_Rp_reportInside 27 = .ok (.iinc 3 1, 3) := by decide +kernel
theorem d_Rp_reportInside_30 : decode k_Rp_reportInside 30 = .ok (.aload_n 0, 1) := by decide +kernel
theorem d_Rp_reportInside_31 : decode k_Rp_reportInside 31 = .ok (.getfield 40, 3) := by decide +kernel
theorem d_Rp_reportInside_34 : decode k_Rp_reportInside 34 = .ok (.getfield 93, 3) := by decide +kernel
theorem d_Rp_reportInside_37 : decode k_Rp_reportInside 37 = .ok (.iload 4, 2) := by decide +kernel
theorem d_Rp_reportInside_39 : decode k_Rp_reportInside 39 = .ok (.iaload, 1) := by decide +kernel
theorem d_Rp_reportInside_40 : decode k_Rp_reportInside 40 = .ok (.istore 4, 2) := by decide +kernel
theorem d_Rp_reportInside_42 : decode k_Rp_reportInside 42 = .ok (.goto (-35), 3) := by decide +kernel
theorem d_Rp_reportInside_45 : decode k_Rp_reportInside 45 = .ok (.return_, 1) := by decide +kernel
theorem gw338 : (Jvm.Cond.fieldLink "SchemaDesk$Report" (40 : Nat) "SchemaDesk$Report" "schema" "LSchemaDesk$Tree;") ∈ GW := gw_t2 (List.mem_of_getElem? (i := 98) rfl) rfl
def wb_Rp_reportInside_0 (F : Nat → Int32 → Int32 → Int32 → Int32 → Sg → Prop) (post : Sg → Prop) (x1 : Int32) (x2 : Int32) (σ : Sg) : Prop := F 1 x1 x2 (0 : Int32) (x1 + (1 : Int32)) σ
def wb_Rp_reportInside_1 (F : Nat → Int32 → Int32 → Int32 → Int32 → Sg → Prop) (post : Sg → Prop) (x1 : Int32) (x2 : Int32) (x3 : Int32) (x4 : Int32) (σ : Sg) : Prop := (vp_in x1 160 ∧ (((σ.1 5 x1.toNatClampNeg) ≤ x3 → post σ) ∧ (¬ (σ.1 5 x1.toNatClampNeg) ≤ x3 → (wq_Rp_report x4 x2 σ (fun σ1 => (vp_in x4 160 ∧ F 1 x1 x2 (x3 + 1) (σ1.1 8 x4.toNatClampNeg) σ1))))))
def wp_Rp_reportInside (post : Sg → Prop) : Nat → Nat → Int32 → Int32 → Int32 → Int32 → Sg → Prop
  | 0, _, _, _, _, _, _ => False
  | n + 1, k, x1, x2, x3, x4, σ => match k with
    | 0 => wb_Rp_reportInside_0 (wp_Rp_reportInside post n) post x1 x2 σ
    | 1 => wb_Rp_reportInside_1 (wp_Rp_reportInside post n) post x1 x2 x3 x4 σ
    | _ => False
def wq_Rp_reportInside (x1 : Int32) (x2 : Int32) (σ : Sg) (post : Sg → Prop) : Prop := ∃ n, wp_Rp_reportInside post n 0 x1 x2 0 0 σ
def J_Rp_reportInside_1 (p : Program) (l : Launch) (e : Env) (s : State) (m : MethodId) (args : Array Value) (below : List Frame) (meth : Method) (c : Code) (D : va_G) (g : Gm) (A : Nat → Prop) (post : Sg → Prop) (F : Nat → Int32 → Int32 → Int32 → Int32 → Sg → Prop) : Prop := ∀ (x1 : Int32) (x2 : Int32) (x3 : Int32) (x4 : Int32) (σ : Sg) (H : Heap) (locs : List Loc) (ls : Array Slot), lv_has ls 5 [(0, .ref (g.1 40)), (1, .int x1), (2, .int x2), (3, .int x3), (4, .int x4)] → Wst D vwCl (WS g) A s σ H locs → F 1 x1 x2 x3 x4 σ → W p l e { frames := 3, cells := 0, slots := 0, locals := 66 } s m args below meth c H locs 0 0 (MQ below (QvW D vwCl (WS g) post A) args s 0 0 A) (F0 m 7 ls [])
set_option maxRecDepth 100000 in
set_option maxHeartbeats 4000000 in
theorem b_Rp_reportInside_0 {p : Program} {l : Launch} {e : Env} {s : State} {m : MethodId} {args : Array Value} {below : List Frame} {meth : Method} {c : Code} {D : va_G} {g : Gm} {A : Nat → Prop} {post : Sg → Prop} {F : Nat → Int32 → Int32 → Int32 → Int32 → Sg → Prop} (C : kC p s m args meth c k_Rp_reportInside 5 (none) GW R_Rp D vwCl g (Zk g) A) (j1 : J_Rp_reportInside_1 p l e s m args below meth c D g A post F) (x1 : Int32) (x2 : Int32) (σ : Sg) (H : Heap) (locs : List Loc) (ls : Array Slot) (hl : lv_has ls 5 [(0, .ref (g.1 40)), (1, .int x1), (2, .int x2)]) (hst : Wst D vwCl (WS g) A s σ H locs) (h : wb_Rp_reportInside_0 F post x1 x2 σ) : W p l e { frames := 3, cells := 0, slots := 0, locals := 66 } s m args below meth c H locs 0 0 (MQ below (QvW D vwCl (WS g) post A) args s 0 0 A) (F0 m 0 ls []) := by
  obtain ⟨hx, hb, hr, hml, hown, hts, hlocks, hK, hZ, hA⟩ := C
  unfold wb_Rp_reportInside_0 at h
  refine lv_iconst (v := (0 : Int32)) hx hb d_Rp_reportInside_0 (by decide) ?_
  refine lv_istore_n hx hb d_Rp_reportInside_1 rfl hl (by decide) rfl (fun ls hl => ?_)
  have hl : lv_has ls 5 [(3, .int (0 : Int32)), (0, .ref (g.1 40)), (1, .int x1), (2, .int x2)] := hl
  refine lv_iload_n hx hb d_Rp_reportInside_2 rfl (lv_at hl 2 rfl) ?_
  refine lv_iconst (v := (1 : Int32)) hx hb d_Rp_reportInside_3 (by decide) ?_
  refine lv_iadd hx hb d_Rp_reportInside_4 ?_
  refine lv_istore hx hb d_Rp_reportInside_5 hl (by decide) rfl (fun ls hl => ?_)
  have hl : lv_has ls 5 [(4, .int (x1 + (1 : Int32))), (3, .int (0 : Int32)), (0, .ref (g.1 40)), (1, .int x1), (2, .int x2)] := hl
  exact j1 x1 x2 (0 : Int32) (x1 + (1 : Int32)) σ _ _ _ (lv_sub hl [2, 3, 4, 1, 0] rfl) hst h
set_option maxRecDepth 100000 in
set_option maxHeartbeats 4000000 in
theorem b_Rp_reportInside_1 {p : Program} {l : Launch} {e : Env} {s : State} {m : MethodId} {args : Array Value} {below : List Frame} {meth : Method} {c : Code} {D : va_G} {g : Gm} {A : Nat → Prop} {post : Sg → Prop} {F : Nat → Int32 → Int32 → Int32 → Int32 → Sg → Prop} (C : kC p s m args meth c k_Rp_reportInside 5 (none) GW R_Rp D vwCl g (Zk g) A) (j1 : J_Rp_reportInside_1 p l e s m args below meth c D g A post F) (x1 : Int32) (x2 : Int32) (x3 : Int32) (x4 : Int32) (σ : Sg) (H : Heap) (locs : List Loc) (ls : Array Slot) (hl : lv_has ls 5 [(0, .ref (g.1 40)), (1, .int x1), (2, .int x2), (3, .int x3), (4, .int x4)]) (hst : Wst D vwCl (WS g) A s σ H locs) (h : wb_Rp_reportInside_1 F post x1 x2 x3 x4 σ) : W p l e { frames := 3, cells := 0, slots := 0, locals := 66 } s m args below meth c H locs 0 0 (MQ below (QvW D vwCl (WS g) post A) args s 0 0 A) (F0 m 7 ls []) := by
  obtain ⟨hx, hb, hr, hml, hown, hts, hlocks, hK, hZ, hA⟩ := C
  unfold wb_Rp_reportInside_1 at h
  refine lv_iload_n hx hb d_Rp_reportInside_7 rfl (lv_at hl 3 rfl) ?_
  refine lv_aload_n hx hb d_Rp_reportInside_8 rfl (lv_at hl 0 rfl) ?_
  refine va_get (D := D) (ci := 7) (C := R_Rp) (T := T_Rp) (N := 8) hx hb hts in_Rp hown hK hst.1 40 (WS_o40 g σ) rfl 4 (by decide) (hts _ gw338) (fun _ h9 => h9) rfl d_Rp_reportInside_9 ?_
  refine va_get (D := D) (ci := 0) (C := R_Tr) (T := T_Tr) (N := 12) hx hb hts in_Tr hown hK hst.1 0 (WS_o0 g σ) rfl 5 (by decide) (hts _ gw152) (fun _ h9 => h9) rfl d_Rp_reportInside_12 ?_
  refine lv_iload_n hx hb d_Rp_reportInside_15 rfl (lv_at hl 1 rfl) ?_
  obtain ⟨hi, h⟩ := h
  refine va_iald hx hb hK hst.1 5 0 (WS_a5 g σ) rfl hi d_Rp_reportInside_16 ?_
  refine lv_icmp_ge (tgt := 45) hx hb d_Rp_reportInside_17 (by decide) (fun hc => ?_) (fun hc => ?_)
  · replace h := h.1 hc
    exact kw_vret hx hb hr hlocks hst h d_Rp_reportInside_45
  · replace h := h.2 hc
    refine lv_aload_n hx hb d_Rp_reportInside_20 rfl (lv_at hl 0 rfl) ?_
    refine lv_iload hx hb d_Rp_reportInside_21 (lv_at hl 4 rfl) ?_
    refine lv_iload_n hx hb d_Rp_reportInside_23 rfl (lv_at hl 2 rfl) ?_
    refine kw_callv (va_runV (As := [.int x4, .int x2]) (rest := []) (b := g.1 40) ⟨hx, hb, hml, hown, hts⟩ (c_Rp_report l x4 x2 h) (cwV 2 hts (gd_v gw903 gw905 gs32 gw13 gw906) rfl rfl rfl (by decide +kernel) ⟨Nat.le_of_ble_eq_true rfl, Nat.le_of_ble_eq_true rfl⟩) ⟨kw_blind (Zk_ok g), va_recv hK hst.1 rfl (WS_o40 g σ), kw_pre (Zk_ok g) hK hZ hA hst⟩ rfl rfl hl.1 rfl (lv_room (Nat.le_of_ble_eq_true rfl)) d_Rp_reportInside_24 ⟨Nat.le_of_ble_eq_true rfl, Nat.le_of_ble_eq_true rfl⟩) hst hA (fun σ1 H locs h hst => ?_)
    refine lv_iinc (k := 3) (v := (x3 + 1)) hx hb d_Rp_reportInside_27 hl rfl (kw_inc _ (by decide)) (by decide) rfl (fun ls hl => ?_)
    have hl : lv_has ls 5 [(3, .int (x3 + 1)), (0, .ref (g.1 40)), (1, .int x1), (2, .int x2), (4, .int x4)] := hl
    refine lv_aload_n hx hb d_Rp_reportInside_30 rfl (lv_at hl 1 rfl) ?_
    refine va_get (D := D) (ci := 7) (C := R_Rp) (T := T_Rp) (N := 8) hx hb hts in_Rp hown hK hst.1 40 (WS_o40 g σ1) rfl 4 (by decide) (hts _ gw338) (fun _ h9 => h9) rfl d_Rp_reportInside_31 ?_
    refine va_get (D := D) (ci := 0) (C := R_Tr) (T := T_Tr) (N := 12) hx hb hts in_Tr hown hK hst.1 0 (WS_o0 g σ1) rfl 8 (by decide) (hts _ gw167) (fun _ h9 => h9) rfl d_Rp_reportInside_34 ?_
    refine lv_iload hx hb d_Rp_reportInside_37 (lv_at hl 4 rfl) ?_
    obtain ⟨hi, h⟩ := h
    refine va_iald hx hb hK hst.1 8 0 (WS_a8 g σ1) rfl hi d_Rp_reportInside_39 ?_
    refine lv_istore hx hb d_Rp_reportInside_40 hl (by decide) rfl (fun ls hl => ?_)
    have hl : lv_has ls 5 [(4, .int (σ1.1 8 x4.toNatClampNeg)), (3, .int (x3 + 1)), (0, .ref (g.1 40)), (1, .int x1), (2, .int x2)] := hl
    refine lv_goto (tgt := 7) hx hb d_Rp_reportInside_42 (by decide) ?_
    exact j1 x1 x2 (x3 + 1) (σ1.1 8 x4.toNatClampNeg) σ1 _ _ _ (lv_sub hl [2, 3, 4, 1, 0] rfl) hst h
set_option maxRecDepth 100000 in
set_option maxHeartbeats 4000000 in
theorem a_Rp_reportInside {p : Program} {l : Launch} {e : Env} {s : State} {m : MethodId} {args : Array Value} {below : List Frame} {meth : Method} {c : Code} {D : va_G} {g : Gm} {A : Nat → Prop} {post : Sg → Prop} (C : kC p s m args meth c k_Rp_reportInside 5 (none) GW R_Rp D vwCl g (Zk g) A) : ∀ n : Nat, J_Rp_reportInside_1 p l e s m args below meth c D g A post (wp_Rp_reportInside post n) := by
  intro n
  induction n with
  | zero => exact fun _ _ _ _ _ _ _ _ _ _ h => h.elim
  | succ n ih => exact fun x1 x2 x3 x4 σ H locs ls hl hst h => b_Rp_reportInside_1 (F := wp_Rp_reportInside post n) C (ih) x1 x2 x3 x4 σ H locs ls hl hst h
set_option maxRecDepth 100000 in
set_option maxHeartbeats 4000000 in
theorem c_Rp_reportInside (l : Launch) {D : va_G} {g : Gm} {sz : Nat} (x1 : Int32) (x2 : Int32) {σ : Sg} {post : Sg → Prop} (h : wq_Rp_reportInside x1 x2 σ post) : Met l y_Rp_reportInside (.code y_Rp_reportInside k_Rp_reportInside 5 (none) :: GW) { frames := 3, cells := 0, slots := 0, locals := 66 } (PcW D vwCl (WS g) g (Zk g) σ sz [.ref (g.1 40), .int x1, .int x2]) (QvW D vwCl (WS g) post (va_A (WS g σ) sz)) 0 0 (va_A (WS g σ) sz) := by
  refine kw_entry (own := R_Rp) (by decide) rfl rfl (Nat.le_of_ble_eq_true rfl) ?_
  intro p e s m below meth c ls hsz C hin hl hst
  obtain ⟨n, h⟩ := h
  cases n with
  | zero => exact h.elim
  | succ n =>
    have ih := a_Rp_reportInside (l := l) (e := e) (below := below) (post := post) C n
    exact b_Rp_reportInside_0 (F := wp_Rp_reportInside post n) C (ih) x1 x2 σ _ _ ls hl hst h
/-! SchemaDesk$Proposals.reachFrom (II)V -/
abbrev k_Pr_reachFrom : ByteArray := prog_4_method_5_code
abbrev y_Pr_reachFrom : MethodName := ⟨"SchemaDesk$Proposals", "reachFrom", "(II)V"⟩
theorem d_Pr_reachFrom_0 : decode k_Pr_reachFrom 0 = .ok (.iconst 0, 1) := by decide +kernel
theorem d_Pr_reachFrom_1 : decode k_Pr_reachFrom 1 = .ok (.istore_n 3, 1) := by decide +kernel
theorem d_Pr_reachFrom_2 : decode k_Pr_reachFrom 2 = .ok (.iload_n 1, 1) := by decide +kernel
theorem d_Pr_reachFrom_3 : decode k_Pr_reachFrom 3 = .ok (.iconst 1, 1) := by decide +kernel
theorem d_Pr_reachFrom_4 : decode k_Pr_reachFrom 4 = .ok (.iadd, 1) := by decide +kernel
theorem d_Pr_reachFrom_5 : decode k_Pr_reachFrom 5 = .ok (.istore 4, 2) := by decide +kernel
theorem d_Pr_reachFrom_7 : decode k_Pr_reachFrom 7 = .ok (.iload_n 3, 1) := by decide +kernel
theorem d_Pr_reachFrom_8 : decode k_Pr_reachFrom 8 = .ok (.aload_n 0, 1) := by decide +kernel
theorem d_Pr_reachFrom_9 : decode k_Pr_reachFrom 9 = .ok (.getfield 44, 3) := by decide +kernel
theorem d_Pr_reachFrom_12 : decode k_Pr_reachFrom 12 = .ok (.getfield 88, 3) := by decide +kernel
theorem d_Pr_reachFrom_15 : decode k_Pr_reachFrom 15 = .ok (.iload_n 1, 1) := by decide +kernel
theorem d_Pr_reachFrom_16 : decode k_Pr_reachFrom 16 = .ok (.iaload, 1) := by decide +kernel
theorem d_Pr_reachFrom_17 : decode k_Pr_reachFrom 17 = .ok (.if_icmp .ge 133, 3) := by decide +kernel
theorem d_Pr_reachFrom_20 : decode k_Pr_reachFrom 20 = .ok (.aload_n 0, 1) := by decide +kernel
theorem d_Pr_reachFrom_21 : decode k_Pr_reachFrom 21 = .ok (.getfield 39, 3) := by decide +kernel
theorem d_Pr_reachFrom_24 : decode k_Pr_reachFrom 24 = .ok (.getfield 93, 3) := by decide +kernel
theorem d_Pr_reachFrom_27 : decode k_Pr_reachFrom 27 = .ok (.iload 4, 2) := by decide +kernel
theorem d_Pr_reachFrom_29 : decode k_Pr_reachFrom 29 = .ok (.iaload, 1) := by decide +kernel
theorem d_Pr_reachFrom_30 : decode k_Pr_reachFrom 30 = .ok (.tableswitch 102 12 19 #[46, 46, 46, 57, 57, 57, 102, 67], 46) := by decide +kernel
theorem d_Pr_reachFrom_76 : decode k_Pr_reachFrom 76 = .ok (.aload_n 0, 1) := by decide +kernel
theorem d_Pr_reachFrom_77 : decode k_Pr_reachFrom 77 = .ok (.iload_n 1, 1) := by decide +kernel
theorem d_Pr_reachFrom_78 : decode k_Pr_reachFrom 78 = .ok (.iload 4, 2) := by decide +kernel
theorem d_Pr_reachFrom_80 : decode k_Pr_reachFrom 80 = .ok (.iload_n 2, 1) := by decide +kernel
theorem d_Pr_reachFrom_81 : decode k_Pr_reachFrom 81 = .ok (.invokevirtual 96, 3) := by decide +kernel
theorem d_Pr_reachFrom_84 : decode k_Pr_reachFrom 84 = .ok (.goto 48, 3) := by decide +kernel
theorem d_Pr_reachFrom_87 : decode k_Pr_reachFrom 87 = .ok (.aload_n 0, 1) := by decide +kernel
theorem d_Pr_reachFrom_88 : decode k_Pr_reachFrom 88 = .ok (.iload 4, 2) := by decide +kernel
theorem d_Pr_reachFrom_90 : decode k_Pr_reachFrom 90 = .ok (.iload_n 2, 1) := by decide +kernel
theorem d_Pr_reachFrom_91 : decode k_Pr_reachFrom 91 = .ok (.invokevirtual 100, 3) := by decide +kernel
theorem d_Pr_reachFrom_94 : decode k_Pr_reachFrom 94 = .ok (.goto 38, 3) := by decide +kernel
theorem d_Pr_reachFrom_97 : decode k_Pr_reachFrom 97 = .ok (.aload_n 0, 1) := by decide +kernel
theorem d_Pr_reachFrom_98 : decode k_Pr_reachFrom 98 = .ok (.getfield 39, 3) := by decide +kernel
theorem d_Pr_reachFrom_101 : decode k_Pr_reachFrom 101 = .ok (.getfield 103, 3) := by decide +kernel
theorem d_Pr_reachFrom_104 : decode k_Pr_reachFrom 104 = .ok (.iload 4, 2) := by decide +kernel
theorem d_Pr_reachFrom_106 : decode k_Pr_reachFrom 106 = .ok (.iaload, 1) := by decide +kernel
theorem d_Pr_reachFrom_107 : decode k_Pr_reachFrom 107 = .ok (.iconst (-1), 1) := by decide +kernel
theorem d_Pr_reachFrom_108 : decode k_Pr_reachFrom 108 = .ok (.if_icmp .eq 24, 3) := by decide +kernel
theorem d_Pr_reachFrom_111 : decode k_Pr_reachFrom 111 = .ok (.aload_n 0, 1) := by decide +kernel
theorem d_Pr_reachFrom_112 : decode k_Pr_reachFrom 112 = .ok (.getfield 25, 3) := by decide +kernel
theorem d_Pr_reachFrom_115 : decode k_Pr_reachFrom 115 = .ok (.aload_n 0, 1) := by decide +kernel
theorem d_Pr_reachFrom_116 : decode k_Pr_reachFrom 116 = .ok (.getfield 39, 3) := by decide +kernel
theorem d_Pr_reachFrom_119 : decode k_Pr_reachFrom 119 = .ok (.getfield 103, 3) := by decide +kernel
theorem d_Pr_reachFrom_122 : decode k_Pr_reachFrom 122 = .ok (.iload 4, 2) := by decide +kernel
theorem d_Pr_reachFrom_124 : decode k_Pr_reachFrom 124 = .ok (.iaload, 1) := by decide +kernel
theorem d_Pr_reachFrom_125 : decode k_Pr_reachFrom 125 = .ok (.iload_n 2, 1) := by decide +kernel
theorem d_Pr_reachFrom_126 : decode k_Pr_reachFrom 126 = .ok (.invokevirtual 82, 3) := by decide +kernel
theorem d_Pr_reachFrom_129 : decode k_Pr_reachFrom 129 = .ok (.goto 3, 3) := by decide +kernel
theorem d_Pr_reachFrom_132 : decode k_Pr_reachFrom 132 = .ok (.iinc 3 1, 3) := by decide +kernel
theorem d_Pr_reachFrom_135 : decode k_Pr_reachFrom 135 = .ok (.aload_n 0, 1) := by decide +kernel
theorem d_Pr_reachFrom_136 : decode k_Pr_reachFrom 136 = .ok (.getfield 44, 3) := by decide +kernel
theorem d_Pr_reachFrom_139 : decode k_Pr_reachFrom 139 = .ok (.getfield 106, 3) := by decide +kernel
theorem d_Pr_reachFrom_142 : decode k_Pr_reachFrom 142 = .ok (.iload 4, 2) := by decide +kernel
theorem d_Pr_reachFrom_144 : decode k_Pr_reachFrom 144 = .ok (.iaload, 1) := by decide +kernel
theorem d_Pr_reachFrom_145 : decode k_Pr_reachFrom 145 = .ok (.istore 4, 2) := by decide +kernel
theorem d_Pr_reachFrom_147 : decode k_Pr_reachFrom 147 = .ok (.goto (-140), 3) := by decide +kernel
theorem d_Pr_reachFrom_150 : decode k_Pr_reachFrom 150 = .ok (.return_, 1) := by decide +kernel
theorem gw374 : (Jvm.Cond.fieldLink "SchemaDesk$Proposals" (39 : Nat) "SchemaDesk$Proposals" "plan" "LSchemaDesk$Plan;") ∈ GW := gw_t2 (List.mem_of_getElem? (i := 134) rfl) rfl
theorem gw237 : (Jvm.Cond.fieldLink "SchemaDesk$Proposals" (93 : Nat) "SchemaDesk$Plan" "word" "[I") ∈ GW := gw_t1 (List.mem_of_getElem? (i := 237) rfl) rfl
theorem gw991 : (Jvm.Cond.methodLink "SchemaDesk$Proposals" (96 : Nat) ({ cls := "SchemaDesk$Proposals", name := "reachForChildren", desc := "(III)V" } : Jvm.MethodName)) ∈ GW := gw_t5 (List.mem_of_getElem? (i := 31) rfl) rfl
theorem gw993 : (Jvm.Cond.instanceMethod ({ cls := "SchemaDesk$Proposals", name := "reachForChildren", desc := "(III)V" } : Jvm.MethodName)) ∈ GW := gw_t5 (List.mem_of_getElem? (i := 33) rfl) rfl
theorem gs41 : Cond.selects "SchemaDesk$Proposals" ⟨"SchemaDesk$Proposals", "reachForChildren", "(III)V"⟩ ⟨"SchemaDesk$Proposals", "reachForChildren", "(III)V"⟩ ∈ GW := gw_p3 (q := (⟨"SchemaDesk$Proposals", "reachForChildren", "(III)V"⟩, 10)) (List.mem_of_getElem? (i := 9) rfl)
theorem gw14 : (Jvm.Cond.initialized "SchemaDesk$Proposals") ∈ GW := gw_t1 (List.mem_of_getElem? (i := 14) rfl) rfl
theorem gw994 : (Jvm.Cond.code ({ cls := "SchemaDesk$Proposals", name := "reachForChildren", desc := "(III)V" } : Jvm.MethodName) prog_4_method_6_code (7 : Nat) (Option.none : Option Jvm.ClassFile.FieldType)) ∈ GW := gw_t5 (List.mem_of_getElem? (i := 34) rfl) rfl
theorem gw996 : (Jvm.Cond.methodLink "SchemaDesk$Proposals" (100 : Nat) ({ cls := "SchemaDesk$Proposals", name := "reachInside", desc := "(II)V" } : Jvm.MethodName)) ∈ GW := gw_t5 (List.mem_of_getElem? (i := 36) rfl) rfl
theorem gw998 : (Jvm.Cond.instanceMethod ({ cls := "SchemaDesk$Proposals", name := "reachInside", desc := "(II)V" } : Jvm.MethodName)) ∈ GW := gw_t5 (List.mem_of_getElem? (i := 38) rfl) rfl
theorem gs42 : Cond.selects "SchemaDesk$Proposals" ⟨"SchemaDesk$Proposals", "reachInside", "(II)V"⟩ ⟨"SchemaDesk$Proposals", "reachInside", "(II)V"⟩ ∈ GW := gw_p3 (q := (⟨"SchemaDesk$Proposals", "reachInside", "(II)V"⟩, 10)) (List.mem_of_getElem? (i := 10) rfl)
theorem gw999 : (Jvm.Cond.code ({ cls := "SchemaDesk$Proposals", name := "reachInside", desc := "(II)V" } : Jvm.MethodName) prog_4_method_7_code (5 : Nat) (Option.none : Option Jvm.ClassFile.FieldType)) ∈ GW := gw_t5 (List.mem_of_getElem? (i := 39) rfl) rfl
theorem gw241 : (Jvm.Cond.fieldLink "SchemaDesk$Proposals" (103 : Nat) "SchemaDesk$Plan" "target" "[I") ∈ GW := gw_t2 (List.mem_of_getElem? (i := 1) rfl) rfl
def wb_Pr_reachFrom_0 (F : Nat → Int32 → Int32 → Int32 → Int32 → Sg → Prop) (post : Sg → Prop) (x1 : Int32) (x2 : Int32) (σ : Sg) : Prop := F 1 x1 x2 (0 : Int32) (x1 + (1 : Int32)) σ
def wb_Pr_reachFrom_1 (F : Nat → Int32 → Int32 → Int32 → Int32 → Sg → Prop) (post : Sg → Prop) (x1 : Int32) (x2 : Int32) (x3 : Int32) (x4 : Int32) (σ : Sg) : Prop := (vp_in x1 160 ∧ (((σ.1 5 x1.toNatClampNeg) ≤ x3 → post σ) ∧ (¬ (σ.1 5 x1.toNatClampNeg) ≤ x3 → (vp_in x4 160 ∧ (((σ.1 30 x4.toNatClampNeg) = 12 → (wq_Pr_reachForChildren x1 x4 x2 σ (fun σ1 => (vp_in x4 160 ∧ F 1 x1 x2 (x3 + 1) (σ1.1 8 x4.toNatClampNeg) σ1)))) ∧ ((σ.1 30 x4.toNatClampNeg) = 13 → (wq_Pr_reachForChildren x1 x4 x2 σ (fun σ1 => (vp_in x4 160 ∧ F 1 x1 x2 (x3 + 1) (σ1.1 8 x4.toNatClampNeg) σ1)))) ∧ ((σ.1 30 x4.toNatClampNeg) = 14 → (wq_Pr_reachForChildren x1 x4 x2 σ (fun σ1 => (vp_in x4 160 ∧ F 1 x1 x2 (x3 + 1) (σ1.1 8 x4.toNatClampNeg) σ1)))) ∧ ((σ.1 30 x4.toNatClampNeg) = 15 → (wq_Pr_reachInside x4 x2 σ (fun σ1 => (vp_in x4 160 ∧ F 1 x1 x2 (x3 + 1) (σ1.1 8 x4.toNatClampNeg) σ1)))) ∧ ((σ.1 30 x4.toNatClampNeg) = 16 → (wq_Pr_reachInside x4 x2 σ (fun σ1 => (vp_in x4 160 ∧ F 1 x1 x2 (x3 + 1) (σ1.1 8 x4.toNatClampNeg) σ1)))) ∧ ((σ.1 30 x4.toNatClampNeg) = 17 → (wq_Pr_reachInside x4 x2 σ (fun σ1 => (vp_in x4 160 ∧ F 1 x1 x2 (x3 + 1) (σ1.1 8 x4.toNatClampNeg) σ1)))) ∧ ((σ.1 30 x4.toNatClampNeg) = 18 → (vp_in x4 160 ∧ F 1 x1 x2 (x3 + 1) (σ.1 8 x4.toNatClampNeg) σ)) ∧ ((σ.1 30 x4.toNatClampNeg) = 19 → (vp_in x4 160 ∧ (((σ.1 31 x4.toNatClampNeg) = (-1 : Int32) → (vp_in x4 160 ∧ F 1 x1 x2 (x3 + 1) (σ.1 8 x4.toNatClampNeg) σ)) ∧ (¬ (σ.1 31 x4.toNatClampNeg) = (-1 : Int32) → (vp_in x4 160 ∧ (wq_Mk_put 49 (σ.1 31 x4.toNatClampNeg) x2 σ (fun σ1 => (vp_in x4 160 ∧ F 1 x1 x2 (x3 + 1) (σ1.1 8 x4.toNatClampNeg) σ1)))))))) ∧ ((¬ (σ.1 30 x4.toNatClampNeg) = 12 ∧ ¬ (σ.1 30 x4.toNatClampNeg) = 13 ∧ ¬ (σ.1 30 x4.toNatClampNeg) = 14 ∧ ¬ (σ.1 30 x4.toNatClampNeg) = 15 ∧ ¬ (σ.1 30 x4.toNatClampNeg) = 16 ∧ ¬ (σ.1 30 x4.toNatClampNeg) = 17 ∧ ¬ (σ.1 30 x4.toNatClampNeg) = 18 ∧ ¬ (σ.1 30 x4.toNatClampNeg) = 19) → (vp_in x4 160 ∧ F 1 x1 x2 (x3 + 1) (σ.1 8 x4.toNatClampNeg) σ)))))))
def wp_Pr_reachFrom (post : Sg → Prop) : Nat → Nat → Int32 → Int32 → Int32 → Int32 → Sg → Prop
  | 0, _, _, _, _, _, _ => False
  | n + 1, k, x1, x2, x3, x4, σ => match k with
    | 0 => wb_Pr_reachFrom_0 (wp_Pr_reachFrom post n) post x1 x2 σ
    | 1 => wb_Pr_reachFrom_1 (wp_Pr_reachFrom post n) post x1 x2 x3 x4 σ
    | _ => False
def wq_Pr_reachFrom (x1 : Int32) (x2 : Int32) (σ : Sg) (post : Sg → Prop) : Prop := ∃ n, wp_Pr_reachFrom post n 0 x1 x2 0 0 σ
def J_Pr_reachFrom_1 (p : Program) (l : Launch) (e : Env) (s : State) (m : MethodId) (args : Array Value) (below : List Frame) (meth : Method) (c : Code) (D : va_G) (g : Gm) (A : Nat → Prop) (post : Sg → Prop) (F : Nat → Int32 → Int32 → Int32 → Int32 → Sg → Prop) : Prop := ∀ (x1 : Int32) (x2 : Int32) (x3 : Int32) (x4 : Int32) (σ : Sg) (H : Heap) (locs : List Loc) (ls : Array Slot), lv_has ls 5 [(0, .ref (g.1 45)), (1, .int x1), (2, .int x2), (3, .int x3), (4, .int x4)] → Wst D vwCl (WS g) A s σ H locs → F 1 x1 x2 x3 x4 σ → W p l e { frames := 4, cells := 0, slots := 0, locals := 104 } s m args below meth c H locs 0 0 (MQ below (QvW D vwCl (WS g) post A) args s 0 0 A) (F0 m 7 ls [])
set_option maxRecDepth 100000 in
set_option maxHeartbeats 4000000 in
theorem b_Pr_reachFrom_0 {p : Program} {l : Launch} {e : Env} {s : State} {m : MethodId} {args : Array Value} {below : List Frame} {meth : Method} {c : Code} {D : va_G} {g : Gm} {A : Nat → Prop} {post : Sg → Prop} {F : Nat → Int32 → Int32 → Int32 → Int32 → Sg → Prop} (C : kC p s m args meth c k_Pr_reachFrom 5 (none) GW R_Pr D vwCl g (Zk g) A) (j1 : J_Pr_reachFrom_1 p l e s m args below meth c D g A post F) (x1 : Int32) (x2 : Int32) (σ : Sg) (H : Heap) (locs : List Loc) (ls : Array Slot) (hl : lv_has ls 5 [(0, .ref (g.1 45)), (1, .int x1), (2, .int x2)]) (hst : Wst D vwCl (WS g) A s σ H locs) (h : wb_Pr_reachFrom_0 F post x1 x2 σ) : W p l e { frames := 4, cells := 0, slots := 0, locals := 104 } s m args below meth c H locs 0 0 (MQ below (QvW D vwCl (WS g) post A) args s 0 0 A) (F0 m 0 ls []) := by
  obtain ⟨hx, hb, hr, hml, hown, hts, hlocks, hK, hZ, hA⟩ := C
  unfold wb_Pr_reachFrom_0 at h
  refine lv_iconst (v := (0 : Int32)) hx hb d_Pr_reachFrom_0 (by decide) ?_
  refine lv_istore_n hx hb d_Pr_reachFrom_1 rfl hl (by decide) rfl (fun ls hl => ?_)
  have hl : lv_has ls 5 [(3, .int (0 : Int32)), (0, .ref (g.1 45)), (1, .int x1), (2, .int x2)] := hl
  refine lv_iload_n hx hb d_Pr_reachFrom_2 rfl (lv_at hl 2 rfl) ?_
  refine lv_iconst (v := (1 : Int32)) hx hb d_Pr_reachFrom_3 (by decide) ?_
  refine lv_iadd hx hb d_Pr_reachFrom_4 ?_
  refine lv_istore hx hb d_Pr_reachFrom_5 hl (by decide) rfl (fun ls hl => ?_)
  have hl : lv_has ls 5 [(4, .int (x1 + (1 : Int32))), (3, .int (0 : Int32)), (0, .ref (g.1 45)), (1, .int x1), (2, .int x2)] := hl
  exact j1 x1 x2 (0 : Int32) (x1 + (1 : Int32)) σ _ _ _ (lv_sub hl [2, 3, 4, 1, 0] rfl) hst h
set_option maxRecDepth 100000 in
set_option maxHeartbeats 4000000 in
theorem b_Pr_reachFrom_1 {p : Program} {l : Launch} {e : Env} {s : State} {m : MethodId} {args : Array Value} {below : List Frame} {meth : Method} {c : Code} {D : va_G} {g : Gm} {A : Nat → Prop} {post : Sg → Prop} {F : Nat → Int32 → Int32 → Int32 → Int32 → Sg → Prop} (C : kC p s m args meth c k_Pr_reachFrom 5 (none) GW R_Pr D vwCl g (Zk g) A) (j1 : J_Pr_reachFrom_1 p l e s m args below meth c D g A post F) (x1 : Int32) (x2 : Int32) (x3 : Int32) (x4 : Int32) (σ : Sg) (H : Heap) (locs : List Loc) (ls : Array Slot) (hl : lv_has ls 5 [(0, .ref (g.1 45)), (1, .int x1), (2, .int x2), (3, .int x3), (4, .int x4)]) (hst : Wst D vwCl (WS g) A s σ H locs) (h : wb_Pr_reachFrom_1 F post x1 x2 x3 x4 σ) : W p l e { frames := 4, cells := 0, slots := 0, locals := 104 } s m args below meth c H locs 0 0 (MQ below (QvW D vwCl (WS g) post A) args s 0 0 A) (F0 m 7 ls []) := by
  obtain ⟨hx, hb, hr, hml, hown, hts, hlocks, hK, hZ, hA⟩ := C
  unfold wb_Pr_reachFrom_1 at h
  refine lv_iload_n hx hb d_Pr_reachFrom_7 rfl (lv_at hl 3 rfl) ?_
  refine lv_aload_n hx hb d_Pr_reachFrom_8 rfl (lv_at hl 0 rfl) ?_
  refine va_get (D := D) (ci := 8) (C := R_Pr) (T := T_Pr) (N := 10) hx hb hts in_Pr hown hK hst.1 45 (WS_o45 g σ) rfl 7 (by decide) (hts _ gw375) (fun _ h9 => h9) rfl d_Pr_reachFrom_9 ?_
  refine va_get (D := D) (ci := 0) (C := R_Tr) (T := T_Tr) (N := 12) hx hb hts in_Tr hown hK hst.1 0 (WS_o0 g σ) rfl 5 (by decide) (hts _ gw151) (fun _ h9 => h9) rfl d_Pr_reachFrom_12 ?_
  refine lv_iload_n hx hb d_Pr_reachFrom_15 rfl (lv_at hl 1 rfl) ?_
  obtain ⟨hi, h⟩ := h
  refine va_iald hx hb hK hst.1 5 0 (WS_a5 g σ) rfl hi d_Pr_reachFrom_16 ?_
  refine lv_icmp_ge (tgt := 150) hx hb d_Pr_reachFrom_17 (by decide) (fun hc => ?_) (fun hc => ?_)
  · replace h := h.1 hc
    exact kw_vret hx hb hr hlocks hst h d_Pr_reachFrom_150
  · replace h := h.2 hc
    refine lv_aload_n hx hb d_Pr_reachFrom_20 rfl (lv_at hl 0 rfl) ?_
    refine va_get (D := D) (ci := 8) (C := R_Pr) (T := T_Pr) (N := 10) hx hb hts in_Pr hown hK hst.1 45 (WS_o45 g σ) rfl 6 (by decide) (hts _ gw374) (fun _ h9 => h9) rfl d_Pr_reachFrom_21 ?_
    refine va_get (D := D) (ci := 5) (C := R_Pl) (T := T_Pl) (N := 10) hx hb hts in_Pl hown hK hst.1 29 (WS_o29 g σ) rfl 2 (by decide) (hts _ gw237) (fun _ h9 => h9) rfl d_Pr_reachFrom_24 ?_
    refine lv_iload hx hb d_Pr_reachFrom_27 (lv_at hl 4 rfl) ?_
    obtain ⟨hi, h⟩ := h
    refine va_iald hx hb hK hst.1 30 0 (WS_a30 g σ) rfl hi d_Pr_reachFrom_29 ?_
    by_cases hc0 : (σ.1 30 x4.toNatClampNeg) = 12
    · refine kw_tin (k := 12) (tgt := 76) hx hb d_Pr_reachFrom_30 hc0 (by decide) (by decide) rfl (by decide) ?_
      replace h := h.1 hc0
      refine lv_aload_n hx hb d_Pr_reachFrom_76 rfl (lv_at hl 0 rfl) ?_
      refine lv_iload_n hx hb d_Pr_reachFrom_77 rfl (lv_at hl 1 rfl) ?_
      refine lv_iload hx hb d_Pr_reachFrom_78 (lv_at hl 4 rfl) ?_
      refine lv_iload_n hx hb d_Pr_reachFrom_80 rfl (lv_at hl 2 rfl) ?_
      refine kw_callv (va_runV (As := [.int x1, .int x4, .int x2]) (rest := []) (b := g.1 45) ⟨hx, hb, hml, hown, hts⟩ (c_Pr_reachForChildren l x1 x4 x2 h) (cwV 3 hts (gd_v gw991 gw993 gs41 gw14 gw994) rfl rfl rfl (by decide +kernel) ⟨Nat.le_of_ble_eq_true rfl, Nat.le_of_ble_eq_true rfl⟩) ⟨kw_blind (Zk_ok g), va_recv hK hst.1 rfl (WS_o45 g σ), kw_pre (Zk_ok g) hK hZ hA hst⟩ rfl rfl hl.1 rfl (lv_room (Nat.le_of_ble_eq_true rfl)) d_Pr_reachFrom_81 ⟨Nat.le_of_ble_eq_true rfl, Nat.le_of_ble_eq_true rfl⟩) hst hA (fun σ1 H locs h hst => ?_)
      refine lv_goto (tgt := 132) hx hb d_Pr_reachFrom_84 (by decide) ?_
      refine lv_iinc (k := 3) (v := (x3 + 1)) hx hb d_Pr_reachFrom_132 hl rfl (kw_inc _ (by decide)) (by decide) rfl (fun ls hl => ?_)
      have hl : lv_has ls 5 [(3, .int (x3 + 1)), (0, .ref (g.1 45)), (1, .int x1), (2, .int x2), (4, .int x4)] := hl
      refine lv_aload_n hx hb d_Pr_reachFrom_135 rfl (lv_at hl 1 rfl) ?_
      refine va_get (D := D) (ci := 8) (C := R_Pr) (T := T_Pr) (N := 10) hx hb hts in_Pr hown hK hst.1 45 (WS_o45 g σ1) rfl 7 (by decide) (hts _ gw375) (fun _ h9 => h9) rfl d_Pr_reachFrom_136 ?_
      refine va_get (D := D) (ci := 0) (C := R_Tr) (T := T_Tr) (N := 12) hx hb hts in_Tr hown hK hst.1 0 (WS_o0 g σ1) rfl 8 (by decide) (hts _ gw166) (fun _ h9 => h9) rfl d_Pr_reachFrom_139 ?_
      refine lv_iload hx hb d_Pr_reachFrom_142 (lv_at hl 4 rfl) ?_
      obtain ⟨hi, h⟩ := h
      refine va_iald hx hb hK hst.1 8 0 (WS_a8 g σ1) rfl hi d_Pr_reachFrom_144 ?_
      refine lv_istore hx hb d_Pr_reachFrom_145 hl (by decide) rfl (fun ls hl => ?_)
      have hl : lv_has ls 5 [(4, .int (σ1.1 8 x4.toNatClampNeg)), (3, .int (x3 + 1)), (0, .ref (g.1 45)), (1, .int x1), (2, .int x2)] := hl
      refine lv_goto (tgt := 7) hx hb d_Pr_reachFrom_147 (by decide) ?_
      exact j1 x1 x2 (x3 + 1) (σ1.1 8 x4.toNatClampNeg) σ1 _ _ _ (lv_sub hl [2, 3, 4, 1, 0] rfl) hst h
    by_cases hc1 : (σ.1 30 x4.toNatClampNeg) = 13
    · refine kw_tin (k := 13) (tgt := 76) hx hb d_Pr_reachFrom_30 hc1 (by decide) (by decide) rfl (by decide) ?_
      replace h := h.2.1 hc1
      refine lv_aload_n hx hb d_Pr_reachFrom_76 rfl (lv_at hl 0 rfl) ?_
      refine lv_iload_n hx hb d_Pr_reachFrom_77 rfl (lv_at hl 1 rfl) ?_
      refine lv_iload hx hb d_Pr_reachFrom_78 (lv_at hl 4 rfl) ?_
      refine lv_iload_n hx hb d_Pr_reachFrom_80 rfl (lv_at hl 2 rfl) ?_
      refine kw_callv (va_runV (As := [.int x1, .int x4, .int x2]) (rest := []) (b := g.1 45) ⟨hx, hb, hml, hown, hts⟩ (c_Pr_reachForChildren l x1 x4 x2 h) (cwV 3 hts (gd_v gw991 gw993 gs41 gw14 gw994) rfl rfl rfl (by decide +kernel) ⟨Nat.le_of_ble_eq_true rfl, Nat.le_of_ble_eq_true rfl⟩) ⟨kw_blind (Zk_ok g), va_recv hK hst.1 rfl (WS_o45 g σ), kw_pre (Zk_ok g) hK hZ hA hst⟩ rfl rfl hl.1 rfl (lv_room (Nat.le_of_ble_eq_true rfl)) d_Pr_reachFrom_81 ⟨Nat.le_of_ble_eq_true rfl, Nat.le_of_ble_eq_true rfl⟩) hst hA (fun σ1 H locs h hst => ?_)
      refine lv_goto (tgt := 132) hx hb d_Pr_reachFrom_84 (by decide) ?_
      refine lv_iinc (k := 3) (v := (x3 + 1)) hx hb d_Pr_reachFrom_132 hl rfl (kw_inc _ (by decide)) (by decide) rfl (fun ls hl => ?_)
      have hl : lv_has ls 5 [(3, .int (x3 + 1)), (0, .ref (g.1 45)), (1, .int x1), (2, .int x2), (4, .int x4)] := hl
      refine lv_aload_n hx hb d_Pr_reachFrom_135 rfl (lv_at hl 1 rfl) ?_
      refine va_get (D := D) (ci := 8) (C := R_Pr) (T := T_Pr) (N := 10) hx hb hts in_Pr hown hK hst.1 45 (WS_o45 g σ1) rfl 7 (by decide) (hts _ gw375) (fun _ h9 => h9) rfl d_Pr_reachFrom_136 ?_
      refine va_get (D := D) (ci := 0) (C := R_Tr) (T := T_Tr) (N := 12) hx hb hts in_Tr hown hK hst.1 0 (WS_o0 g σ1) rfl 8 (by decide) (hts _ gw166) (fun _ h9 => h9) rfl d_Pr_reachFrom_139 ?_
      refine lv_iload hx hb d_Pr_reachFrom_142 (lv_at hl 4 rfl) ?_
      obtain ⟨hi, h⟩ := h
      refine va_iald hx hb hK hst.1 8 0 (WS_a8 g σ1) rfl hi d_Pr_reachFrom_144 ?_
      refine lv_istore hx hb d_Pr_reachFrom_145 hl (by decide) rfl (fun ls hl => ?_)
      have hl : lv_has ls 5 [(4, .int (σ1.1 8 x4.toNatClampNeg)), (3, .int (x3 + 1)), (0, .ref (g.1 45)), (1, .int x1), (2, .int x2)] := hl
      refine lv_goto (tgt := 7) hx hb d_Pr_reachFrom_147 (by decide) ?_
      exact j1 x1 x2 (x3 + 1) (σ1.1 8 x4.toNatClampNeg) σ1 _ _ _ (lv_sub hl [2, 3, 4, 1, 0] rfl) hst h
    by_cases hc2 : (σ.1 30 x4.toNatClampNeg) = 14
    · refine kw_tin (k := 14) (tgt := 76) hx hb d_Pr_reachFrom_30 hc2 (by decide) (by decide) rfl (by decide) ?_
      replace h := h.2.2.1 hc2
      refine lv_aload_n hx hb d_Pr_reachFrom_76 rfl (lv_at hl 0 rfl) ?_
      refine lv_iload_n hx hb d_Pr_reachFrom_77 rfl (lv_at hl 1 rfl) ?_
      refine lv_iload hx hb d_Pr_reachFrom_78 (lv_at hl 4 rfl) ?_
      refine lv_iload_n hx hb d_Pr_reachFrom_80 rfl (lv_at hl 2 rfl) ?_
      refine kw_callv (va_runV (As := [.int x1, .int x4, .int x2]) (rest := []) (b := g.1 45) ⟨hx, hb, hml, hown, hts⟩ (c_Pr_reachForChildren l x1 x4 x2 h) (cwV 3 hts (gd_v gw991 gw993 gs41 gw14 gw994) rfl rfl rfl (by decide +kernel) ⟨Nat.le_of_ble_eq_true rfl, Nat.le_of_ble_eq_true rfl⟩) ⟨kw_blind (Zk_ok g), va_recv hK hst.1 rfl (WS_o45 g σ), kw_pre (Zk_ok g) hK hZ hA hst⟩ rfl rfl hl.1 rfl (lv_room (Nat.le_of_ble_eq_true rfl)) d_Pr_reachFrom_81 ⟨Nat.le_of_ble_eq_true rfl, Nat.le_of_ble_eq_true rfl⟩) hst hA (fun σ1 H locs h hst => ?_)
      refine lv_goto (tgt := 132) hx hb d_Pr_reachFrom_84 (by decide) ?_
      refine lv_iinc (k := 3) (v := (x3 + 1)) hx hb d_Pr_reachFrom_132 hl rfl (kw_inc _ (by decide)) (by decide) rfl (fun ls hl => ?_)
      have hl : lv_has ls 5 [(3, .int (x3 + 1)), (0, .ref (g.1 45)), (1, .int x1), (2, .int x2), (4, .int x4)] := hl
      refine lv_aload_n hx hb d_Pr_reachFrom_135 rfl (lv_at hl 1 rfl) ?_
      refine va_get (D := D) (ci := 8) (C := R_Pr) (T := T_Pr) (N := 10) hx hb hts in_Pr hown hK hst.1 45 (WS_o45 g σ1) rfl 7 (by decide) (hts _ gw375) (fun _ h9 => h9) rfl d_Pr_reachFrom_136 ?_
      refine va_get (D := D) (ci := 0) (C := R_Tr) (T := T_Tr) (N := 12) hx hb hts in_Tr hown hK hst.1 0 (WS_o0 g σ1) rfl 8 (by decide) (hts _ gw166) (fun _ h9 => h9) rfl d_Pr_reachFrom_139 ?_
      refine lv_iload hx hb d_Pr_reachFrom_142 (lv_at hl 4 rfl) ?_
      obtain ⟨hi, h⟩ := h
      refine va_iald hx hb hK hst.1 8 0 (WS_a8 g σ1) rfl hi d_Pr_reachFrom_144 ?_
      refine lv_istore hx hb d_Pr_reachFrom_145 hl (by decide) rfl (fun ls hl => ?_)
      have hl : lv_has ls 5 [(4, .int (σ1.1 8 x4.toNatClampNeg)), (3, .int (x3 + 1)), (0, .ref (g.1 45)), (1, .int x1), (2, .int x2)] := hl
      refine lv_goto (tgt := 7) hx hb d_Pr_reachFrom_147 (by decide) ?_
      exact j1 x1 x2 (x3 + 1) (σ1.1 8 x4.toNatClampNeg) σ1 _ _ _ (lv_sub hl [2, 3, 4, 1, 0] rfl) hst h
    by_cases hc3 : (σ.1 30 x4.toNatClampNeg) = 15
    · refine kw_tin (k := 15) (tgt := 87) hx hb d_Pr_reachFrom_30 hc3 (by decide) (by decide) rfl (by decide) ?_
      replace h := h.2.2.2.1 hc3
      refine lv_aload_n hx hb d_Pr_reachFrom_87 rfl (lv_at hl 0 rfl) ?_
      refine lv_iload hx hb d_Pr_reachFrom_88 (lv_at hl 4 rfl) ?_
      refine lv_iload_n hx hb d_Pr_reachFrom_90 rfl (lv_at hl 2 rfl) ?_
      refine kw_callv (va_runV (As := [.int x4, .int x2]) (rest := []) (b := g.1 45) ⟨hx, hb, hml, hown, hts⟩ (c_Pr_reachInside l x4 x2 h) (cwV 2 hts (gd_v gw996 gw998 gs42 gw14 gw999) rfl rfl rfl (by decide +kernel) ⟨Nat.le_of_ble_eq_true rfl, Nat.le_of_ble_eq_true rfl⟩) ⟨kw_blind (Zk_ok g), va_recv hK hst.1 rfl (WS_o45 g σ), kw_pre (Zk_ok g) hK hZ hA hst⟩ rfl rfl hl.1 rfl (lv_room (Nat.le_of_ble_eq_true rfl)) d_Pr_reachFrom_91 ⟨Nat.le_of_ble_eq_true rfl, Nat.le_of_ble_eq_true rfl⟩) hst hA (fun σ1 H locs h hst => ?_)
      refine lv_goto (tgt := 132) hx hb d_Pr_reachFrom_94 (by decide) ?_
      refine lv_iinc (k := 3) (v := (x3 + 1)) hx hb d_Pr_reachFrom_132 hl rfl (kw_inc _ (by decide)) (by decide) rfl (fun ls hl => ?_)
      have hl : lv_has ls 5 [(3, .int (x3 + 1)), (0, .ref (g.1 45)), (1, .int x1), (2, .int x2), (4, .int x4)] := hl
      refine lv_aload_n hx hb d_Pr_reachFrom_135 rfl (lv_at hl 1 rfl) ?_
      refine va_get (D := D) (ci := 8) (C := R_Pr) (T := T_Pr) (N := 10) hx hb hts in_Pr hown hK hst.1 45 (WS_o45 g σ1) rfl 7 (by decide) (hts _ gw375) (fun _ h9 => h9) rfl d_Pr_reachFrom_136 ?_
      refine va_get (D := D) (ci := 0) (C := R_Tr) (T := T_Tr) (N := 12) hx hb hts in_Tr hown hK hst.1 0 (WS_o0 g σ1) rfl 8 (by decide) (hts _ gw166) (fun _ h9 => h9) rfl d_Pr_reachFrom_139 ?_
      refine lv_iload hx hb d_Pr_reachFrom_142 (lv_at hl 4 rfl) ?_
      obtain ⟨hi, h⟩ := h
      refine va_iald hx hb hK hst.1 8 0 (WS_a8 g σ1) rfl hi d_Pr_reachFrom_144 ?_
      refine lv_istore hx hb d_Pr_reachFrom_145 hl (by decide) rfl (fun ls hl => ?_)
      have hl : lv_has ls 5 [(4, .int (σ1.1 8 x4.toNatClampNeg)), (3, .int (x3 + 1)), (0, .ref (g.1 45)), (1, .int x1), (2, .int x2)] := hl
      refine lv_goto (tgt := 7) hx hb d_Pr_reachFrom_147 (by decide) ?_
      exact j1 x1 x2 (x3 + 1) (σ1.1 8 x4.toNatClampNeg) σ1 _ _ _ (lv_sub hl [2, 3, 4, 1, 0] rfl) hst h
    by_cases hc4 : (σ.1 30 x4.toNatClampNeg) = 16
    · refine kw_tin (k := 16) (tgt := 87) hx hb d_Pr_reachFrom_30 hc4 (by decide) (by decide) rfl (by decide) ?_
      replace h := h.2.2.2.2.1 hc4
      refine lv_aload_n hx hb d_Pr_reachFrom_87 rfl (lv_at hl 0 rfl) ?_
      refine lv_iload hx hb d_Pr_reachFrom_88 (lv_at hl 4 rfl) ?_
      refine lv_iload_n hx hb d_Pr_reachFrom_90 rfl (lv_at hl 2 rfl) ?_
      refine kw_callv (va_runV (As := [.int x4, .int x2]) (rest := []) (b := g.1 45) ⟨hx, hb, hml, hown, hts⟩ (c_Pr_reachInside l x4 x2 h) (cwV 2 hts (gd_v gw996 gw998 gs42 gw14 gw999) rfl rfl rfl (by decide +kernel) ⟨Nat.le_of_ble_eq_true rfl, Nat.le_of_ble_eq_true rfl⟩) ⟨kw_blind (Zk_ok g), va_recv hK hst.1 rfl (WS_o45 g σ), kw_pre (Zk_ok g) hK hZ hA hst⟩ rfl rfl hl.1 rfl (lv_room (Nat.le_of_ble_eq_true rfl)) d_Pr_reachFrom_91 ⟨Nat.le_of_ble_eq_true rfl, Nat.le_of_ble_eq_true rfl⟩) hst hA (fun σ1 H locs h hst => ?_)
      refine lv_goto (tgt := 132) hx hb d_Pr_reachFrom_94 (by decide) ?_
      refine lv_iinc (k := 3) (v := (x3 + 1)) hx hb d_Pr_reachFrom_132 hl rfl (kw_inc _ (by decide)) (by decide) rfl (fun ls hl => ?_)
      have hl : lv_has ls 5 [(3, .int (x3 + 1)), (0, .ref (g.1 45)), (1, .int x1), (2, .int x2), (4, .int x4)] := hl
      refine lv_aload_n hx hb d_Pr_reachFrom_135 rfl (lv_at hl 1 rfl) ?_
      refine va_get (D := D) (ci := 8) (C := R_Pr) (T := T_Pr) (N := 10) hx hb hts in_Pr hown hK hst.1 45 (WS_o45 g σ1) rfl 7 (by decide) (hts _ gw375) (fun _ h9 => h9) rfl d_Pr_reachFrom_136 ?_
      refine va_get (D := D) (ci := 0) (C := R_Tr) (T := T_Tr) (N := 12) hx hb hts in_Tr hown hK hst.1 0 (WS_o0 g σ1) rfl 8 (by decide) (hts _ gw166) (fun _ h9 => h9) rfl d_Pr_reachFrom_139 ?_
      refine lv_iload hx hb d_Pr_reachFrom_142 (lv_at hl 4 rfl) ?_
      obtain ⟨hi, h⟩ := h
      refine va_iald hx hb hK hst.1 8 0 (WS_a8 g σ1) rfl hi d_Pr_reachFrom_144 ?_
      refine lv_istore hx hb d_Pr_reachFrom_145 hl (by decide) rfl (fun ls hl => ?_)
      have hl : lv_has ls 5 [(4, .int (σ1.1 8 x4.toNatClampNeg)), (3, .int (x3 + 1)), (0, .ref (g.1 45)), (1, .int x1), (2, .int x2)] := hl
      refine lv_goto (tgt := 7) hx hb d_Pr_reachFrom_147 (by decide) ?_
      exact j1 x1 x2 (x3 + 1) (σ1.1 8 x4.toNatClampNeg) σ1 _ _ _ (lv_sub hl [2, 3, 4, 1, 0] rfl) hst h
    by_cases hc5 : (σ.1 30 x4.toNatClampNeg) = 17
    · refine kw_tin (k := 17) (tgt := 87) hx hb d_Pr_reachFrom_30 hc5 (by decide) (by decide) rfl (by decide) ?_
      replace h := h.2.2.2.2.2.1 hc5
      refine lv_aload_n hx hb d_Pr_reachFrom_87 rfl (lv_at hl 0 rfl) ?_
      refine lv_iload hx hb d_Pr_reachFrom_88 (lv_at hl 4 rfl) ?_
      refine lv_iload_n hx hb d_Pr_reachFrom_90 rfl (lv_at hl 2 rfl) ?_
      refine kw_callv (va_runV (As := [.int x4, .int x2]) (rest := []) (b := g.1 45) ⟨hx, hb, hml, hown, hts⟩ (c_Pr_reachInside l x4 x2 h) (cwV 2 hts (gd_v gw996 gw998 gs42 gw14 gw999) rfl rfl rfl (by decide +kernel) ⟨Nat.le_of_ble_eq_true rfl, Nat.le_of_ble_eq_true rfl⟩) ⟨kw_blind (Zk_ok g), va_recv hK hst.1 rfl (WS_o45 g σ), kw_pre (Zk_ok g) hK hZ hA hst⟩ rfl rfl hl.1 rfl (lv_room (Nat.le_of_ble_eq_true rfl)) d_Pr_reachFrom_91 ⟨Nat.le_of_ble_eq_true rfl, Nat.le_of_ble_eq_true rfl⟩) hst hA (fun σ1 H locs h hst => ?_)
      refine lv_goto (tgt := 132) hx hb d_Pr_reachFrom_94 (by decide) ?_
      refine lv_iinc (k := 3) (v := (x3 + 1)) hx hb d_Pr_reachFrom_132 hl rfl (kw_inc _ (by decide)) (by decide) rfl (fun ls hl => ?_)
      have hl : lv_has ls 5 [(3, .int (x3 + 1)), (0, .ref (g.1 45)), (1, .int x1), (2, .int x2), (4, .int x4)] := hl
      refine lv_aload_n hx hb d_Pr_reachFrom_135 rfl (lv_at hl 1 rfl) ?_
      refine va_get (D := D) (ci := 8) (C := R_Pr) (T := T_Pr) (N := 10) hx hb hts in_Pr hown hK hst.1 45 (WS_o45 g σ1) rfl 7 (by decide) (hts _ gw375) (fun _ h9 => h9) rfl d_Pr_reachFrom_136 ?_
      refine va_get (D := D) (ci := 0) (C := R_Tr) (T := T_Tr) (N := 12) hx hb hts in_Tr hown hK hst.1 0 (WS_o0 g σ1) rfl 8 (by decide) (hts _ gw166) (fun _ h9 => h9) rfl d_Pr_reachFrom_139 ?_
      refine lv_iload hx hb d_Pr_reachFrom_142 (lv_at hl 4 rfl) ?_
      obtain ⟨hi, h⟩ := h
      refine va_iald hx hb hK hst.1 8 0 (WS_a8 g σ1) rfl hi d_Pr_reachFrom_144 ?_
      refine lv_istore hx hb d_Pr_reachFrom_145 hl (by decide) rfl (fun ls hl => ?_)
      have hl : lv_has ls 5 [(4, .int (σ1.1 8 x4.toNatClampNeg)), (3, .int (x3 + 1)), (0, .ref (g.1 45)), (1, .int x1), (2, .int x2)] := hl
      refine lv_goto (tgt := 7) hx hb d_Pr_reachFrom_147 (by decide) ?_
      exact j1 x1 x2 (x3 + 1) (σ1.1 8 x4.toNatClampNeg) σ1 _ _ _ (lv_sub hl [2, 3, 4, 1, 0] rfl) hst h
    by_cases hc6 : (σ.1 30 x4.toNatClampNeg) = 18
    · refine kw_tin (k := 18) (tgt := 132) hx hb d_Pr_reachFrom_30 hc6 (by decide) (by decide) rfl (by decide) ?_
      replace h := h.2.2.2.2.2.2.1 hc6
      refine lv_iinc (k := 3) (v := (x3 + 1)) hx hb d_Pr_reachFrom_132 hl rfl (kw_inc _ (by decide)) (by decide) rfl (fun ls hl => ?_)
      have hl : lv_has ls 5 [(3, .int (x3 + 1)), (0, .ref (g.1 45)), (1, .int x1), (2, .int x2), (4, .int x4)] := hl
      refine lv_aload_n hx hb d_Pr_reachFrom_135 rfl (lv_at hl 1 rfl) ?_
      refine va_get (D := D) (ci := 8) (C := R_Pr) (T := T_Pr) (N := 10) hx hb hts in_Pr hown hK hst.1 45 (WS_o45 g σ) rfl 7 (by decide) (hts _ gw375) (fun _ h9 => h9) rfl d_Pr_reachFrom_136 ?_
      refine va_get (D := D) (ci := 0) (C := R_Tr) (T := T_Tr) (N := 12) hx hb hts in_Tr hown hK hst.1 0 (WS_o0 g σ) rfl 8 (by decide) (hts _ gw166) (fun _ h9 => h9) rfl d_Pr_reachFrom_139 ?_
      refine lv_iload hx hb d_Pr_reachFrom_142 (lv_at hl 4 rfl) ?_
      obtain ⟨hi, h⟩ := h
      refine va_iald hx hb hK hst.1 8 0 (WS_a8 g σ) rfl hi d_Pr_reachFrom_144 ?_
      refine lv_istore hx hb d_Pr_reachFrom_145 hl (by decide) rfl (fun ls hl => ?_)
      have hl : lv_has ls 5 [(4, .int (σ.1 8 x4.toNatClampNeg)), (3, .int (x3 + 1)), (0, .ref (g.1 45)), (1, .int x1), (2, .int x2)] := hl
      refine lv_goto (tgt := 7) hx hb d_Pr_reachFrom_147 (by decide) ?_
      exact j1 x1 x2 (x3 + 1) (σ.1 8 x4.toNatClampNeg) σ _ _ _ (lv_sub hl [2, 3, 4, 1, 0] rfl) hst h
    by_cases hc7 : (σ.1 30 x4.toNatClampNeg) = 19
    · refine kw_tin (k := 19) (tgt := 97) hx hb d_Pr_reachFrom_30 hc7 (by decide) (by decide) rfl (by decide) ?_
      replace h := h.2.2.2.2.2.2.2.1 hc7
      refine lv_aload_n hx hb d_Pr_reachFrom_97 rfl (lv_at hl 0 rfl) ?_
      refine va_get (D := D) (ci := 8) (C := R_Pr) (T := T_Pr) (N := 10) hx hb hts in_Pr hown hK hst.1 45 (WS_o45 g σ) rfl 6 (by decide) (hts _ gw374) (fun _ h9 => h9) rfl d_Pr_reachFrom_98 ?_
      refine va_get (D := D) (ci := 5) (C := R_Pl) (T := T_Pl) (N := 10) hx hb hts in_Pl hown hK hst.1 29 (WS_o29 g σ) rfl 3 (by decide) (hts _ gw241) (fun _ h9 => h9) rfl d_Pr_reachFrom_101 ?_
      refine lv_iload hx hb d_Pr_reachFrom_104 (lv_at hl 4 rfl) ?_
      obtain ⟨hi, h⟩ := h
      refine va_iald hx hb hK hst.1 31 0 (WS_a31 g σ) rfl hi d_Pr_reachFrom_106 ?_
      refine lv_iconst (v := (-1 : Int32)) hx hb d_Pr_reachFrom_107 (by decide) ?_
      refine lv_icmp_eq (tgt := 132) hx hb d_Pr_reachFrom_108 (by decide) (fun hc => ?_) (fun hc => ?_)
      · replace h := h.1 hc
        refine lv_iinc (k := 3) (v := (x3 + 1)) hx hb d_Pr_reachFrom_132 hl rfl (kw_inc _ (by decide)) (by decide) rfl (fun ls hl => ?_)
        have hl : lv_has ls 5 [(3, .int (x3 + 1)), (0, .ref (g.1 45)), (1, .int x1), (2, .int x2), (4, .int x4)] := hl
        refine lv_aload_n hx hb d_Pr_reachFrom_135 rfl (lv_at hl 1 rfl) ?_
        refine va_get (D := D) (ci := 8) (C := R_Pr) (T := T_Pr) (N := 10) hx hb hts in_Pr hown hK hst.1 45 (WS_o45 g σ) rfl 7 (by decide) (hts _ gw375) (fun _ h9 => h9) rfl d_Pr_reachFrom_136 ?_
        refine va_get (D := D) (ci := 0) (C := R_Tr) (T := T_Tr) (N := 12) hx hb hts in_Tr hown hK hst.1 0 (WS_o0 g σ) rfl 8 (by decide) (hts _ gw166) (fun _ h9 => h9) rfl d_Pr_reachFrom_139 ?_
        refine lv_iload hx hb d_Pr_reachFrom_142 (lv_at hl 4 rfl) ?_
        obtain ⟨hi, h⟩ := h
        refine va_iald hx hb hK hst.1 8 0 (WS_a8 g σ) rfl hi d_Pr_reachFrom_144 ?_
        refine lv_istore hx hb d_Pr_reachFrom_145 hl (by decide) rfl (fun ls hl => ?_)
        have hl : lv_has ls 5 [(4, .int (σ.1 8 x4.toNatClampNeg)), (3, .int (x3 + 1)), (0, .ref (g.1 45)), (1, .int x1), (2, .int x2)] := hl
        refine lv_goto (tgt := 7) hx hb d_Pr_reachFrom_147 (by decide) ?_
        exact j1 x1 x2 (x3 + 1) (σ.1 8 x4.toNatClampNeg) σ _ _ _ (lv_sub hl [2, 3, 4, 1, 0] rfl) hst h
      · replace h := h.2 hc
        refine lv_aload_n hx hb d_Pr_reachFrom_111 rfl (lv_at hl 0 rfl) ?_
        refine va_get (D := D) (ci := 8) (C := R_Pr) (T := T_Pr) (N := 10) hx hb hts in_Pr hown hK hst.1 45 (WS_o45 g σ) rfl 9 (by decide) (hts _ gw377) (fun _ h9 => h9) rfl d_Pr_reachFrom_112 ?_
        refine lv_aload_n hx hb d_Pr_reachFrom_115 rfl (lv_at hl 0 rfl) ?_
        refine va_get (D := D) (ci := 8) (C := R_Pr) (T := T_Pr) (N := 10) hx hb hts in_Pr hown hK hst.1 45 (WS_o45 g σ) rfl 6 (by decide) (hts _ gw374) (fun _ h9 => h9) rfl d_Pr_reachFrom_116 ?_
        refine va_get (D := D) (ci := 5) (C := R_Pl) (T := T_Pl) (N := 10) hx hb hts in_Pl hown hK hst.1 29 (WS_o29 g σ) rfl 3 (by decide) (hts _ gw241) (fun _ h9 => h9) rfl d_Pr_reachFrom_119 ?_
        refine lv_iload hx hb d_Pr_reachFrom_122 (lv_at hl 4 rfl) ?_
        obtain ⟨hi, h⟩ := h
        refine va_iald hx hb hK hst.1 31 0 (WS_a31 g σ) rfl hi d_Pr_reachFrom_124 ?_
        refine lv_iload_n hx hb d_Pr_reachFrom_125 rfl (lv_at hl 2 rfl) ?_
        refine kw_callv (va_runV (As := [.int (σ.1 31 x4.toNatClampNeg), .int x2]) (rest := []) (b := g.1 49) ⟨hx, hb, hml, hown, hts⟩ (c_Mk_put_49 l (σ.1 31 x4.toNatClampNeg) x2 h) (cwV 2 hts (gd_v gw985 gw838 gw839 gw12 gw840) rfl rfl rfl (by decide +kernel) ⟨Nat.le_of_ble_eq_true rfl, Nat.le_of_ble_eq_true rfl⟩) ⟨kw_blind (Zk_ok g), va_recv hK hst.1 rfl (WS_o49 g σ), kw_pre (Zk_ok g) hK hZ hA hst⟩ rfl rfl hl.1 rfl (lv_room (Nat.le_of_ble_eq_true rfl)) d_Pr_reachFrom_126 ⟨Nat.le_of_ble_eq_true rfl, Nat.le_of_ble_eq_true rfl⟩) hst hA (fun σ1 H locs h hst => ?_)
        refine lv_goto (tgt := 132) hx hb d_Pr_reachFrom_129 (by decide) ?_
        refine lv_iinc (k := 3) (v := (x3 + 1)) hx hb d_Pr_reachFrom_132 hl rfl (kw_inc _ (by decide)) (by decide) rfl (fun ls hl => ?_)
        have hl : lv_has ls 5 [(3, .int (x3 + 1)), (0, .ref (g.1 45)), (1, .int x1), (2, .int x2), (4, .int x4)] := hl
        refine lv_aload_n hx hb d_Pr_reachFrom_135 rfl (lv_at hl 1 rfl) ?_
        refine va_get (D := D) (ci := 8) (C := R_Pr) (T := T_Pr) (N := 10) hx hb hts in_Pr hown hK hst.1 45 (WS_o45 g σ1) rfl 7 (by decide) (hts _ gw375) (fun _ h9 => h9) rfl d_Pr_reachFrom_136 ?_
        refine va_get (D := D) (ci := 0) (C := R_Tr) (T := T_Tr) (N := 12) hx hb hts in_Tr hown hK hst.1 0 (WS_o0 g σ1) rfl 8 (by decide) (hts _ gw166) (fun _ h9 => h9) rfl d_Pr_reachFrom_139 ?_
        refine lv_iload hx hb d_Pr_reachFrom_142 (lv_at hl 4 rfl) ?_
        obtain ⟨hi, h⟩ := h
        refine va_iald hx hb hK hst.1 8 0 (WS_a8 g σ1) rfl hi d_Pr_reachFrom_144 ?_
        refine lv_istore hx hb d_Pr_reachFrom_145 hl (by decide) rfl (fun ls hl => ?_)
        have hl : lv_has ls 5 [(4, .int (σ1.1 8 x4.toNatClampNeg)), (3, .int (x3 + 1)), (0, .ref (g.1 45)), (1, .int x1), (2, .int x2)] := hl
        refine lv_goto (tgt := 7) hx hb d_Pr_reachFrom_147 (by decide) ?_
        exact j1 x1 x2 (x3 + 1) (σ1.1 8 x4.toNatClampNeg) σ1 _ _ _ (lv_sub hl [2, 3, 4, 1, 0] rfl) hst h
    refine lv_tableOut (tgt := 132) hx hb d_Pr_reachFrom_30 (by have q0 := lv_neT (a := 12) hc0 (by decide); have q1 := lv_neT (a := 13) hc1 (by decide); have q2 := lv_neT (a := 14) hc2 (by decide); have q3 := lv_neT (a := 15) hc3 (by decide); have q4 := lv_neT (a := 16) hc4 (by decide); have q5 := lv_neT (a := 17) hc5 (by decide); have q6 := lv_neT (a := 18) hc6 (by decide); have q7 := lv_neT (a := 19) hc7 (by decide); omega) (by decide) ?_
    replace h := h.2.2.2.2.2.2.2.2 ⟨hc0, hc1, hc2, hc3, hc4, hc5, hc6, hc7⟩
    refine lv_iinc (k := 3) (v := (x3 + 1)) hx hb d_Pr_reachFrom_132 hl rfl (kw_inc _ (by decide)) (by decide) rfl (fun ls hl => ?_)
    have hl : lv_has ls 5 [(3, .int (x3 + 1)), (0, .ref (g.1 45)), (1, .int x1), (2, .int x2), (4, .int x4)] := hl
    refine lv_aload_n hx hb d_Pr_reachFrom_135 rfl (lv_at hl 1 rfl) ?_
    refine va_get (D := D) (ci := 8) (C := R_Pr) (T := T_Pr) (N := 10) hx hb hts in_Pr hown hK hst.1 45 (WS_o45 g σ) rfl 7 (by decide) (hts _ gw375) (fun _ h9 => h9) rfl d_Pr_reachFrom_136 ?_
    refine va_get (D := D) (ci := 0) (C := R_Tr) (T := T_Tr) (N := 12) hx hb hts in_Tr hown hK hst.1 0 (WS_o0 g σ) rfl 8 (by decide) (hts _ gw166) (fun _ h9 => h9) rfl d_Pr_reachFrom_139 ?_
    refine lv_iload hx hb d_Pr_reachFrom_142 (lv_at hl 4 rfl) ?_
    obtain ⟨hi, h⟩ := h
    refine va_iald hx hb hK hst.1 8 0 (WS_a8 g σ) rfl hi d_Pr_reachFrom_144 ?_
    refine lv_istore hx hb d_Pr_reachFrom_145 hl (by decide) rfl (fun ls hl => ?_)
    have hl : lv_has ls 5 [(4, .int (σ.1 8 x4.toNatClampNeg)), (3, .int (x3 + 1)), (0, .ref (g.1 45)), (1, .int x1), (2, .int x2)] := hl
    refine lv_goto (tgt := 7) hx hb d_Pr_reachFrom_147 (by decide) ?_
    exact j1 x1 x2 (x3 + 1) (σ.1 8 x4.toNatClampNeg) σ _ _ _ (lv_sub hl [2, 3, 4, 1, 0] rfl) hst h
set_option maxRecDepth 100000 in
set_option maxHeartbeats 4000000 in
theorem a_Pr_reachFrom {p : Program} {l : Launch} {e : Env} {s : State} {m : MethodId} {args : Array Value} {below : List Frame} {meth : Method} {c : Code} {D : va_G} {g : Gm} {A : Nat → Prop} {post : Sg → Prop} (C : kC p s m args meth c k_Pr_reachFrom 5 (none) GW R_Pr D vwCl g (Zk g) A) : ∀ n : Nat, J_Pr_reachFrom_1 p l e s m args below meth c D g A post (wp_Pr_reachFrom post n) := by
  intro n
  induction n with
  | zero => exact fun _ _ _ _ _ _ _ _ _ _ h => h.elim
  | succ n ih => exact fun x1 x2 x3 x4 σ H locs ls hl hst h => b_Pr_reachFrom_1 (F := wp_Pr_reachFrom post n) C (ih) x1 x2 x3 x4 σ H locs ls hl hst h
set_option maxRecDepth 100000 in
set_option maxHeartbeats 4000000 in
theorem c_Pr_reachFrom (l : Launch) {D : va_G} {g : Gm} {sz : Nat} (x1 : Int32) (x2 : Int32) {σ : Sg} {post : Sg → Prop} (h : wq_Pr_reachFrom x1 x2 σ post) : Met l y_Pr_reachFrom (.code y_Pr_reachFrom k_Pr_reachFrom 5 (none) :: GW) { frames := 4, cells := 0, slots := 0, locals := 104 } (PcW D vwCl (WS g) g (Zk g) σ sz [.ref (g.1 45), .int x1, .int x2]) (QvW D vwCl (WS g) post (va_A (WS g σ) sz)) 0 0 (va_A (WS g σ) sz) := by
  refine kw_entry (own := R_Pr) (by decide) rfl rfl (Nat.le_of_ble_eq_true rfl) ?_
  intro p e s m below meth c ls hsz C hin hl hst
  obtain ⟨n, h⟩ := h
  cases n with
  | zero => exact h.elim
  | succ n =>
    have ih := a_Pr_reachFrom (l := l) (e := e) (below := below) (post := post) C n
    exact b_Pr_reachFrom_0 (F := wp_Pr_reachFrom post n) C (ih) x1 x2 σ _ _ ls hl hst h
/-! SchemaDesk$Proposals.findNames (II)V -/
abbrev k_Pr_findNames : ByteArray := prog_4_method_8_code
abbrev y_Pr_findNames : MethodName := ⟨"SchemaDesk$Proposals", "findNames", "(II)V"⟩
theorem d_Pr_findNames_0 : decode k_Pr_findNames 0 = .ok (.aload_n 0, 1) := by decide +kernel
theorem d_Pr_findNames_1 : decode k_Pr_findNames 1 = .ok (.getfield 44, 3) := by decide +kernel
theorem d_Pr_findNames_4 : decode k_Pr_findNames 4 = .ok (.getfield 88, 3) := by decide +kernel
theorem d_Pr_findNames_7 : decode k_Pr_findNames 7 = .ok (.iload_n 1, 1) := by decide +kernel
theorem d_Pr_findNames_8 : decode k_Pr_findNames 8 = .ok (.iaload, 1) := by decide +kernel
theorem d_Pr_findNames_9 : decode k_Pr_findNames 9 = .ok (.istore_n 3, 1) := by decide +kernel
theorem d_Pr_findNames_10 : decode k_Pr_findNames 10 = .ok (.iconst 0, 1) := by decide +kernel
theorem d_Pr_findNames_11 : decode k_Pr_findNames 11 = .ok (.istore 4, 2) := by decide +kernel
theorem d_Pr_findNames_13 : decode k_Pr_findNames 13 = .ok (.iload_n 1, 1) := by decide +kernel
theorem d_Pr_findNames_14 : decode k_Pr_findNames 14 = .ok (.iconst 1, 1) := by decide +kernel
theorem d_Pr_findNames_15 : decode k_Pr_findNames 15 = .ok (.iadd, 1) := by decide +kernel
theorem d_Pr_findNames_16 : decode k_Pr_findNames 16 = .ok (.istore 5, 2) := by decide +kernel
theorem d_Pr_findNames_18 : decode k_Pr_findNames 18 = .ok (.iload 4, 2) := by decide +kernel
theorem d_Pr_findNames_20 : decode k_Pr_findNames 20 = .ok (.iload_n 3, 1) := by decide +kernel
theorem d_Pr_findNames_21 : decode k_Pr_findNames 21 = .ok (.if_icmp .ge 62, 3) := by decide +kernel
theorem d_Pr_findNames_24 : decode k_Pr_findNames 24 = .ok (.aload_n 0, 1) := by decide +kernel
theorem d_Pr_findNames_25 : decode k_Pr_findNames 25 = .ok (.getfield 44, 3) := by decide +kernel
theorem d_Pr_findNames_28 : decode k_Pr_findNames 28 = .ok (.getfield 116, 3) := by decide +kernel
theorem d_Pr_findNames_31 : decode k_Pr_findNames 31 = .ok (.iload 5, 2) := by decide +kernel
theorem d_Pr_findNames_33 : decode k_Pr_findNames 33 = .ok (.iaload, 1) := by decide +kernel
theorem d_Pr_findNames_34 : decode k_Pr_findNames 34 = .ok (.iconst 1, 1) := by decide +kernel
theorem d_Pr_findNames_35 : decode k_Pr_findNames 35 = .ok (.iadd, 1) := by decide +kernel
theorem d_Pr_findNames_36 : decode k_Pr_findNames 36 = .ok (.istore 6, 2) := by decide +kernel
theorem d_Pr_findNames_38 : decode k_Pr_findNames 38 = .ok (.aload_n 0, 1) := by decide +kernel
theorem d_Pr_findNames_39 : decode k_Pr_findNames 39 = .ok (.getfield 48, 3) := by decide +kernel
theorem d_Pr_findNames_42 : decode k_Pr_findNames 42 = .ok (.iload_n 2, 1) := by decide +kernel
theorem d_Pr_findNames_43 : decode k_Pr_findNames 43 = .ok (.aload_n 0, 1) := by decide +kernel
theorem d_Pr_findNames_44 : decode k_Pr_findNames 44 = .ok (.getfield 44, 3) := by decide +kernel
theorem d_Pr_findNames_47 : decode k_Pr_findNames 47 = .ok (.getfield 119, 3) := by decide +kernel
theorem d_Pr_findNames_50 : decode k_Pr_findNames 50 = .ok (.iload 6, 2) := by decide +kernel
theorem d_Pr_findNames_52 : decode k_Pr_findNames 52 = .ok (.invokevirtual 123, 3) := by decide +kernel
theorem d_Pr_findNames_55 : decode k_Pr_findNames 55 = .ok (.iconst (-1), 1) := by decide +kernel
theorem d_Pr_findNames_56 : decode k_Pr_findNames 56 = .ok (.if_icmp .ne 9, 3) := by decide +kernel
theorem d_Pr_findNames_59 : decode k_Pr_findNames 59 = .ok (.aload_n 0, 1) := by decide +kernel
theorem d_Pr_findNames_60 : decode k_Pr_findNames 60 = .ok (.iload 6, 2) := by decide +kernel
theorem d_Pr_findNames_62 : decode k_Pr_findNames 62 = .ok (.invokevirtual 127, 3) := by decide +kernel
theorem d_Pr_findNames_65 : decode k_Pr_findNames 65 = .ok (.iinc 4 1, 3) := by decide +kernel
theorem d_Pr_findNames_68 : decode k_Pr_findNames 68 = .ok (.aload_n 0, 1) := by decide +kernel
theorem d_Pr_findNames_69 : decode k_Pr_findNames 69 = .ok (.getfield 44, 3) := by decide +kernel
theorem d_Pr_findNames_72 : decode k_Pr_findNames 72 = .ok (.getfield 106, 3) := by decide +kernel
theorem d_Pr_findNames_75 : decode k_Pr_findNames 75 = .ok (.iload 5, 2) := by decide +kernel
theorem d_Pr_findNames_77 : decode k_Pr_findNames 77 = .ok (.iaload, 1) := by decide +kernel
theorem d_Pr_findNames_78 : decode k_Pr_findNames 78 = .ok (.istore 5, 2) := by decide +kernel
theorem d_Pr_findNames_80 : decode k_Pr_findNames 80 = .ok (.goto (-62), 3) := by decide +kernel
theorem d_Pr_findNames_83 : decode k_Pr_findNames 83 = .ok (.return_, 1) := by decide +kernel
theorem gw156 : (Jvm.Cond.fieldLink "SchemaDesk$Proposals" (116 : Nat) "SchemaDesk$Tree" "name" "[I") ∈ GW := gw_t1 (List.mem_of_getElem? (i := 156) rfl) rfl
theorem gw1004 : (Jvm.Cond.methodLink "SchemaDesk$Proposals" (123 : Nat) ({ cls := "SchemaDesk$Tree", name := "childNamed", desc := "(ILSchemaDesk$Text;I)I" } : Jvm.MethodName)) ∈ GW := gw_t5 (List.mem_of_getElem? (i := 44) rfl) rfl
theorem gw1005 : (Jvm.Cond.methodLink "SchemaDesk$Proposals" (127 : Nat) ({ cls := "SchemaDesk$Proposals", name := "addFound", desc := "(I)V" } : Jvm.MethodName)) ∈ GW := gw_t5 (List.mem_of_getElem? (i := 45) rfl) rfl
theorem gw1007 : (Jvm.Cond.instanceMethod ({ cls := "SchemaDesk$Proposals", name := "addFound", desc := "(I)V" } : Jvm.MethodName)) ∈ GW := gw_t5 (List.mem_of_getElem? (i := 47) rfl) rfl
theorem gs44 : Cond.selects "SchemaDesk$Proposals" ⟨"SchemaDesk$Proposals", "addFound", "(I)V"⟩ ⟨"SchemaDesk$Proposals", "addFound", "(I)V"⟩ ∈ GW := gw_p3 (q := (⟨"SchemaDesk$Proposals", "addFound", "(I)V"⟩, 10)) (List.mem_of_getElem? (i := 12) rfl)
theorem gw1008 : (Jvm.Cond.code ({ cls := "SchemaDesk$Proposals", name := "addFound", desc := "(I)V" } : Jvm.MethodName) prog_4_method_9_code (4 : Nat) (Option.none : Option Jvm.ClassFile.FieldType)) ∈ GW := gw_t5 (List.mem_of_getElem? (i := 48) rfl) rfl
def wb_Pr_findNames_0 (F : Nat → Int32 → Int32 → Int32 → Int32 → Int32 → Sg → Prop) (post : Sg → Prop) (x1 : Int32) (x2 : Int32) (σ : Sg) : Prop := (vp_in x1 160 ∧ F 1 0 x2 (σ.1 5 x1.toNatClampNeg) (0 : Int32) (x1 + (1 : Int32)) σ)
def wb_Pr_findNames_1 (F : Nat → Int32 → Int32 → Int32 → Int32 → Int32 → Sg → Prop) (post : Sg → Prop) (x2 : Int32) (x3 : Int32) (x4 : Int32) (x5 : Int32) (σ : Sg) : Prop := ((x3 ≤ x4 → post σ) ∧ (¬ x3 ≤ x4 → (vp_in x5 160 ∧ (wq_Tr_childNamed 13 0 x2 ((σ.1 6 x5.toNatClampNeg) + (1 : Int32)) σ (fun r1 σ1 => ((¬ r1 = (-1 : Int32) → (vp_in x5 160 ∧ F 1 0 x2 x3 (x4 + 1) (σ1.1 8 x5.toNatClampNeg) σ1)) ∧ (r1 = (-1 : Int32) → (wq_Pr_addFound ((σ.1 6 x5.toNatClampNeg) + (1 : Int32)) σ1 (fun σ2 => (vp_in x5 160 ∧ F 1 0 x2 x3 (x4 + 1) (σ2.1 8 x5.toNatClampNeg) σ2))))))))))
def wp_Pr_findNames (post : Sg → Prop) : Nat → Nat → Int32 → Int32 → Int32 → Int32 → Int32 → Sg → Prop
  | 0, _, _, _, _, _, _, _ => False
  | n + 1, k, x1, x2, x3, x4, x5, σ => match k with
    | 0 => wb_Pr_findNames_0 (wp_Pr_findNames post n) post x1 x2 σ
    | 1 => wb_Pr_findNames_1 (wp_Pr_findNames post n) post x2 x3 x4 x5 σ
    | _ => False
def wq_Pr_findNames (x1 : Int32) (x2 : Int32) (σ : Sg) (post : Sg → Prop) : Prop := ∃ n, wp_Pr_findNames post n 0 x1 x2 0 0 0 σ
def J_Pr_findNames_1 (p : Program) (l : Launch) (e : Env) (s : State) (m : MethodId) (args : Array Value) (below : List Frame) (meth : Method) (c : Code) (D : va_G) (g : Gm) (A : Nat → Prop) (post : Sg → Prop) (F : Nat → Int32 → Int32 → Int32 → Int32 → Int32 → Sg → Prop) : Prop := ∀ (x2 : Int32) (x3 : Int32) (x4 : Int32) (x5 : Int32) (σ : Sg) (H : Heap) (locs : List Loc) (ls : Array Slot), lv_has ls 7 [(0, .ref (g.1 45)), (2, .int x2), (3, .int x3), (4, .int x4), (5, .int x5)] → Wst D vwCl (WS g) A s σ H locs → F 1 0 x2 x3 x4 x5 σ → W p l e { frames := 2, cells := 0, slots := 0, locals := 51 } s m args below meth c H locs 0 0 (MQ below (QvW D vwCl (WS g) post A) args s 0 0 A) (F0 m 18 ls [])
set_option maxRecDepth 100000 in
set_option maxHeartbeats 4000000 in
theorem b_Pr_findNames_0 {p : Program} {l : Launch} {e : Env} {s : State} {m : MethodId} {args : Array Value} {below : List Frame} {meth : Method} {c : Code} {D : va_G} {g : Gm} {A : Nat → Prop} {post : Sg → Prop} {F : Nat → Int32 → Int32 → Int32 → Int32 → Int32 → Sg → Prop} (C : kC p s m args meth c k_Pr_findNames 7 (none) GW R_Pr D vwCl g (Zk g) A) (j1 : J_Pr_findNames_1 p l e s m args below meth c D g A post F) (x1 : Int32) (x2 : Int32) (σ : Sg) (H : Heap) (locs : List Loc) (ls : Array Slot) (hl : lv_has ls 7 [(0, .ref (g.1 45)), (1, .int x1), (2, .int x2)]) (hst : Wst D vwCl (WS g) A s σ H locs) (h : wb_Pr_findNames_0 F post x1 x2 σ) : W p l e { frames := 2, cells := 0, slots := 0, locals := 51 } s m args below meth c H locs 0 0 (MQ below (QvW D vwCl (WS g) post A) args s 0 0 A) (F0 m 0 ls []) := by
  obtain ⟨hx, hb, hr, hml, hown, hts, hlocks, hK, hZ, hA⟩ := C
  unfold wb_Pr_findNames_0 at h
  refine lv_aload_n hx hb d_Pr_findNames_0 rfl (lv_at hl 0 rfl) ?_
  refine va_get (D := D) (ci := 8) (C := R_Pr) (T := T_Pr) (N := 10) hx hb hts in_Pr hown hK hst.1 45 (WS_o45 g σ) rfl 7 (by decide) (hts _ gw375) (fun _ h9 => h9) rfl d_Pr_findNames_1 ?_
  refine va_get (D := D) (ci := 0) (C := R_Tr) (T := T_Tr) (N := 12) hx hb hts in_Tr hown hK hst.1 0 (WS_o0 g σ) rfl 5 (by decide) (hts _ gw151) (fun _ h9 => h9) rfl d_Pr_findNames_4 ?_
  refine lv_iload_n hx hb d_Pr_findNames_7 rfl (lv_at hl 1 rfl) ?_
  obtain ⟨hi, h⟩ := h
  refine va_iald hx hb hK hst.1 5 0 (WS_a5 g σ) rfl hi d_Pr_findNames_8 ?_
  refine lv_istore_n hx hb d_Pr_findNames_9 rfl hl (by decide) rfl (fun ls hl => ?_)
  have hl : lv_has ls 7 [(3, .int (σ.1 5 x1.toNatClampNeg)), (0, .ref (g.1 45)), (1, .int x1), (2, .int x2)] := hl
  refine lv_iconst (v := (0 : Int32)) hx hb d_Pr_findNames_10 (by decide) ?_
  refine lv_istore hx hb d_Pr_findNames_11 hl (by decide) rfl (fun ls hl => ?_)
  have hl : lv_has ls 7 [(4, .int (0 : Int32)), (3, .int (σ.1 5 x1.toNatClampNeg)), (0, .ref (g.1 45)), (1, .int x1), (2, .int x2)] := hl
  refine lv_iload_n hx hb d_Pr_findNames_13 rfl (lv_at hl 3 rfl) ?_
  refine lv_iconst (v := (1 : Int32)) hx hb d_Pr_findNames_14 (by decide) ?_
  refine lv_iadd hx hb d_Pr_findNames_15 ?_
  refine lv_istore hx hb d_Pr_findNames_16 hl (by decide) rfl (fun ls hl => ?_)
  have hl : lv_has ls 7 [(5, .int (x1 + (1 : Int32))), (4, .int (0 : Int32)), (3, .int (σ.1 5 x1.toNatClampNeg)), (0, .ref (g.1 45)), (1, .int x1), (2, .int x2)] := hl
  exact j1 x2 (σ.1 5 x1.toNatClampNeg) (0 : Int32) (x1 + (1 : Int32)) σ _ _ _ (lv_sub hl [3, 5, 2, 1, 0] rfl) hst h
set_option maxRecDepth 100000 in
set_option maxHeartbeats 4000000 in
theorem b_Pr_findNames_1 {p : Program} {l : Launch} {e : Env} {s : State} {m : MethodId} {args : Array Value} {below : List Frame} {meth : Method} {c : Code} {D : va_G} {g : Gm} {A : Nat → Prop} {post : Sg → Prop} {F : Nat → Int32 → Int32 → Int32 → Int32 → Int32 → Sg → Prop} (C : kC p s m args meth c k_Pr_findNames 7 (none) GW R_Pr D vwCl g (Zk g) A) (j1 : J_Pr_findNames_1 p l e s m args below meth c D g A post F) (x2 : Int32) (x3 : Int32) (x4 : Int32) (x5 : Int32) (σ : Sg) (H : Heap) (locs : List Loc) (ls : Array Slot) (hl : lv_has ls 7 [(0, .ref (g.1 45)), (2, .int x2), (3, .int x3), (4, .int x4), (5, .int x5)]) (hst : Wst D vwCl (WS g) A s σ H locs) (h : wb_Pr_findNames_1 F post x2 x3 x4 x5 σ) : W p l e { frames := 2, cells := 0, slots := 0, locals := 51 } s m args below meth c H locs 0 0 (MQ below (QvW D vwCl (WS g) post A) args s 0 0 A) (F0 m 18 ls []) := by
  obtain ⟨hx, hb, hr, hml, hown, hts, hlocks, hK, hZ, hA⟩ := C
  unfold wb_Pr_findNames_1 at h
  refine lv_iload hx hb d_Pr_findNames_18 (lv_at hl 3 rfl) ?_
  refine lv_iload_n hx hb d_Pr_findNames_20 rfl (lv_at hl 2 rfl) ?_
  refine lv_icmp_ge (tgt := 83) hx hb d_Pr_findNames_21 (by decide) (fun hc => ?_) (fun hc => ?_)
  · replace h := h.1 hc
    exact kw_vret hx hb hr hlocks hst h d_Pr_findNames_83
  · replace h := h.2 hc
    refine lv_aload_n hx hb d_Pr_findNames_24 rfl (lv_at hl 0 rfl) ?_
    refine va_get (D := D) (ci := 8) (C := R_Pr) (T := T_Pr) (N := 10) hx hb hts in_Pr hown hK hst.1 45 (WS_o45 g σ) rfl 7 (by decide) (hts _ gw375) (fun _ h9 => h9) rfl d_Pr_findNames_25 ?_
    refine va_get (D := D) (ci := 0) (C := R_Tr) (T := T_Tr) (N := 12) hx hb hts in_Tr hown hK hst.1 0 (WS_o0 g σ) rfl 6 (by decide) (hts _ gw156) (fun _ h9 => h9) rfl d_Pr_findNames_28 ?_
    refine lv_iload hx hb d_Pr_findNames_31 (lv_at hl 4 rfl) ?_
    obtain ⟨hi, h⟩ := h
    refine va_iald hx hb hK hst.1 6 0 (WS_a6 g σ) rfl hi d_Pr_findNames_33 ?_
    refine lv_iconst (v := (1 : Int32)) hx hb d_Pr_findNames_34 (by decide) ?_
    refine lv_iadd hx hb d_Pr_findNames_35 ?_
    refine lv_istore hx hb d_Pr_findNames_36 hl (by decide) rfl (fun ls hl => ?_)
    have hl : lv_has ls 7 [(6, .int ((σ.1 6 x5.toNatClampNeg) + (1 : Int32))), (0, .ref (g.1 45)), (2, .int x2), (3, .int x3), (4, .int x4), (5, .int x5)] := hl
    refine lv_aload_n hx hb d_Pr_findNames_38 rfl (lv_at hl 1 rfl) ?_
    refine va_get (D := D) (ci := 8) (C := R_Pr) (T := T_Pr) (N := 10) hx hb hts in_Pr hown hK hst.1 45 (WS_o45 g σ) rfl 8 (by decide) (hts _ gw376) (fun _ h9 => h9) rfl d_Pr_findNames_39 ?_
    refine lv_iload_n hx hb d_Pr_findNames_42 rfl (lv_at hl 2 rfl) ?_
    refine lv_aload_n hx hb d_Pr_findNames_43 rfl (lv_at hl 1 rfl) ?_
    refine va_get (D := D) (ci := 8) (C := R_Pr) (T := T_Pr) (N := 10) hx hb hts in_Pr hown hK hst.1 45 (WS_o45 g σ) rfl 7 (by decide) (hts _ gw375) (fun _ h9 => h9) rfl d_Pr_findNames_44 ?_
    refine va_get (D := D) (ci := 0) (C := R_Tr) (T := T_Tr) (N := 12) hx hb hts in_Tr hown hK hst.1 0 (WS_o0 g σ) rfl 0 (by decide) (hts _ gw128) (fun _ h9 => h9) rfl d_Pr_findNames_47 ?_
    refine lv_iload hx hb d_Pr_findNames_50 (lv_at hl 0 rfl) ?_
    refine kw_calli (va_runV (As := [.int x2, .ref (g.1 10), .int ((σ.1 6 x5.toNatClampNeg) + (1 : Int32))]) (rest := []) (b := g.1 13) ⟨hx, hb, hml, hown, hts⟩ (c_Tr_childNamed_13_0 l x2 ((σ.1 6 x5.toNatClampNeg) + (1 : Int32)) h) (cwV 3 hts (gd_v gw1004 gw670 gw671 gw7 gw672) rfl rfl rfl (by decide +kernel) ⟨Nat.le_of_ble_eq_true rfl, Nat.le_of_ble_eq_true rfl⟩) ⟨kw_blind (Zk_ok g), va_recv hK hst.1 rfl (WS_o13 g σ), kw_pre (Zk_ok g) hK hZ hA hst⟩ rfl rfl hl.1 rfl (lv_room (Nat.le_of_ble_eq_true rfl)) d_Pr_findNames_52 ⟨Nat.le_of_ble_eq_true rfl, Nat.le_of_ble_eq_true rfl⟩) hst hA (fun r1 σ1 H locs h hst => ?_)
    refine lv_iconst (v := (-1 : Int32)) hx hb d_Pr_findNames_55 (by decide) ?_
    refine lv_icmp_ne (tgt := 65) hx hb d_Pr_findNames_56 (by decide) (fun hc => ?_) (fun hc => ?_)
    · replace h := h.1 hc
      refine lv_iinc (k := 4) (v := (x4 + 1)) hx hb d_Pr_findNames_65 hl rfl (kw_inc _ (by decide)) (by decide) rfl (fun ls hl => ?_)
      have hl : lv_has ls 7 [(4, .int (x4 + 1)), (6, .int ((σ.1 6 x5.toNatClampNeg) + (1 : Int32))), (0, .ref (g.1 45)), (2, .int x2), (3, .int x3), (5, .int x5)] := hl
      refine lv_aload_n hx hb d_Pr_findNames_68 rfl (lv_at hl 2 rfl) ?_
      refine va_get (D := D) (ci := 8) (C := R_Pr) (T := T_Pr) (N := 10) hx hb hts in_Pr hown hK hst.1 45 (WS_o45 g σ1) rfl 7 (by decide) (hts _ gw375) (fun _ h9 => h9) rfl d_Pr_findNames_69 ?_
      refine va_get (D := D) (ci := 0) (C := R_Tr) (T := T_Tr) (N := 12) hx hb hts in_Tr hown hK hst.1 0 (WS_o0 g σ1) rfl 8 (by decide) (hts _ gw166) (fun _ h9 => h9) rfl d_Pr_findNames_72 ?_
      refine lv_iload hx hb d_Pr_findNames_75 (lv_at hl 5 rfl) ?_
      obtain ⟨hi, h⟩ := h
      refine va_iald hx hb hK hst.1 8 0 (WS_a8 g σ1) rfl hi d_Pr_findNames_77 ?_
      refine lv_istore hx hb d_Pr_findNames_78 hl (by decide) rfl (fun ls hl => ?_)
      have hl : lv_has ls 7 [(5, .int (σ1.1 8 x5.toNatClampNeg)), (4, .int (x4 + 1)), (6, .int ((σ.1 6 x5.toNatClampNeg) + (1 : Int32))), (0, .ref (g.1 45)), (2, .int x2), (3, .int x3)] := hl
      refine lv_goto (tgt := 18) hx hb d_Pr_findNames_80 (by decide) ?_
      exact j1 x2 x3 (x4 + 1) (σ1.1 8 x5.toNatClampNeg) σ1 _ _ _ (lv_sub hl [3, 4, 5, 1, 0] rfl) hst h
    · replace h := h.2 hc
      refine lv_aload_n hx hb d_Pr_findNames_59 rfl (lv_at hl 1 rfl) ?_
      refine lv_iload hx hb d_Pr_findNames_60 (lv_at hl 0 rfl) ?_
      refine kw_callv (va_runV (As := [.int ((σ.1 6 x5.toNatClampNeg) + (1 : Int32))]) (rest := []) (b := g.1 45) ⟨hx, hb, hml, hown, hts⟩ (c_Pr_addFound l ((σ.1 6 x5.toNatClampNeg) + (1 : Int32)) h) (cwV 1 hts (gd_v gw1005 gw1007 gs44 gw14 gw1008) rfl rfl rfl (by decide +kernel) ⟨Nat.le_of_ble_eq_true rfl, Nat.le_of_ble_eq_true rfl⟩) ⟨kw_blind (Zk_ok g), va_recv hK hst.1 rfl (WS_o45 g σ1), kw_pre (Zk_ok g) hK hZ hA hst⟩ rfl rfl hl.1 rfl (lv_room (Nat.le_of_ble_eq_true rfl)) d_Pr_findNames_62 ⟨Nat.le_of_ble_eq_true rfl, Nat.le_of_ble_eq_true rfl⟩) hst hA (fun σ2 H locs h hst => ?_)
      refine lv_iinc (k := 4) (v := (x4 + 1)) hx hb d_Pr_findNames_65 hl rfl (kw_inc _ (by decide)) (by decide) rfl (fun ls hl => ?_)
      have hl : lv_has ls 7 [(4, .int (x4 + 1)), (6, .int ((σ.1 6 x5.toNatClampNeg) + (1 : Int32))), (0, .ref (g.1 45)), (2, .int x2), (3, .int x3), (5, .int x5)] := hl
      refine lv_aload_n hx hb d_Pr_findNames_68 rfl (lv_at hl 2 rfl) ?_
      refine va_get (D := D) (ci := 8) (C := R_Pr) (T := T_Pr) (N := 10) hx hb hts in_Pr hown hK hst.1 45 (WS_o45 g σ2) rfl 7 (by decide) (hts _ gw375) (fun _ h9 => h9) rfl d_Pr_findNames_69 ?_
      refine va_get (D := D) (ci := 0) (C := R_Tr) (T := T_Tr) (N := 12) hx hb hts in_Tr hown hK hst.1 0 (WS_o0 g σ2) rfl 8 (by decide) (hts _ gw166) (fun _ h9 => h9) rfl d_Pr_findNames_72 ?_
      refine lv_iload hx hb d_Pr_findNames_75 (lv_at hl 5 rfl) ?_
      obtain ⟨hi, h⟩ := h
      refine va_iald hx hb hK hst.1 8 0 (WS_a8 g σ2) rfl hi d_Pr_findNames_77 ?_
      refine lv_istore hx hb d_Pr_findNames_78 hl (by decide) rfl (fun ls hl => ?_)
      have hl : lv_has ls 7 [(5, .int (σ2.1 8 x5.toNatClampNeg)), (4, .int (x4 + 1)), (6, .int ((σ.1 6 x5.toNatClampNeg) + (1 : Int32))), (0, .ref (g.1 45)), (2, .int x2), (3, .int x3)] := hl
      refine lv_goto (tgt := 18) hx hb d_Pr_findNames_80 (by decide) ?_
      exact j1 x2 x3 (x4 + 1) (σ2.1 8 x5.toNatClampNeg) σ2 _ _ _ (lv_sub hl [3, 4, 5, 1, 0] rfl) hst h
set_option maxRecDepth 100000 in
set_option maxHeartbeats 4000000 in
theorem a_Pr_findNames {p : Program} {l : Launch} {e : Env} {s : State} {m : MethodId} {args : Array Value} {below : List Frame} {meth : Method} {c : Code} {D : va_G} {g : Gm} {A : Nat → Prop} {post : Sg → Prop} (C : kC p s m args meth c k_Pr_findNames 7 (none) GW R_Pr D vwCl g (Zk g) A) : ∀ n : Nat, J_Pr_findNames_1 p l e s m args below meth c D g A post (wp_Pr_findNames post n) := by
  intro n
  induction n with
  | zero => exact fun _ _ _ _ _ _ _ _ _ _ h => h.elim
  | succ n ih => exact fun x2 x3 x4 x5 σ H locs ls hl hst h => b_Pr_findNames_1 (F := wp_Pr_findNames post n) C (ih) x2 x3 x4 x5 σ H locs ls hl hst h
set_option maxRecDepth 100000 in
set_option maxHeartbeats 4000000 in
theorem c_Pr_findNames (l : Launch) {D : va_G} {g : Gm} {sz : Nat} (x1 : Int32) (x2 : Int32) {σ : Sg} {post : Sg → Prop} (h : wq_Pr_findNames x1 x2 σ post) : Met l y_Pr_findNames (.code y_Pr_findNames k_Pr_findNames 7 (none) :: GW) { frames := 2, cells := 0, slots := 0, locals := 51 } (PcW D vwCl (WS g) g (Zk g) σ sz [.ref (g.1 45), .int x1, .int x2]) (QvW D vwCl (WS g) post (va_A (WS g σ) sz)) 0 0 (va_A (WS g σ) sz) := by
  refine kw_entry (own := R_Pr) (by decide) rfl rfl (Nat.le_of_ble_eq_true rfl) ?_
  intro p e s m below meth c ls hsz C hin hl hst
  obtain ⟨n, h⟩ := h
  cases n with
  | zero => exact h.elim
  | succ n =>
    have ih := a_Pr_findNames (l := l) (e := e) (below := below) (post := post) C n
    exact b_Pr_findNames_0 (F := wp_Pr_findNames post n) C (ih) x1 x2 σ _ _ ls hl hst h
/-! SchemaDesk$Report.explainChild (III)V -/
abbrev k_Rp_explainChild : ByteArray := prog_6_method_8_code
abbrev y_Rp_explainChild : MethodName := ⟨"SchemaDesk$Report", "explainChild", "(III)V"⟩
theorem d_Rp_explainChild_0 : decode k_Rp_explainChild 0 = .ok (.aload_n 0, 1) := by decide +kernel
theorem d_Rp_explainChild_1 : decode k_Rp_explainChild 1 = .ok (.getfield 35, 3) := by decide +kernel
theorem d_Rp_explainChild_4 : decode k_Rp_explainChild 4 = .ok (.getfield 96, 3) := by decide +kernel
theorem d_Rp_explainChild_7 : decode k_Rp_explainChild 7 = .ok (.iload_n 2, 1) := by decide +kernel
theorem d_Rp_explainChild_8 : decode k_Rp_explainChild 8 = .ok (.iaload, 1) := by decide +kernel
theorem d_Rp_explainChild_9 : decode k_Rp_explainChild 9 = .ok (.tableswitch 112 12 20 #[51, 51, 51, 61, 112, 112, 112, 70, 51], 51) := by decide +kernel
theorem d_Rp_explainChild_60 : decode k_Rp_explainChild 60 = .ok (.aload_n 0, 1) := by decide +kernel
theorem d_Rp_explainChild_61 : decode k_Rp_explainChild 61 = .ok (.iload_n 1, 1) := by decide +kernel
theorem d_Rp_explainChild_62 : decode k_Rp_explainChild 62 = .ok (.iload_n 2, 1) := by decide +kernel
theorem d_Rp_explainChild_63 : decode k_Rp_explainChild 63 = .ok (.iload_n 3, 1) := by decide +kernel
theorem d_Rp_explainChild_64 : decode k_Rp_explainChild 64 = .ok (.invokevirtual 99, 3) := by decide +kernel
theorem d_Rp_explainChild_67 : decode k_Rp_explainChild 67 = .ok (.goto 63, 3) := by decide +kernel
theorem d_Rp_explainChild_70 : decode k_Rp_explainChild 70 = .ok (.aload_n 0, 1) := by decide +kernel
theorem d_Rp_explainChild_71 : decode k_Rp_explainChild 71 = .ok (.iload_n 2, 1) := by decide +kernel
theorem d_Rp_explainChild_72 : decode k_Rp_explainChild 72 = .ok (.iload_n 3, 1) := by decide +kernel
theorem d_Rp_explainChild_73 : decode k_Rp_explainChild 73 = .ok (.invokevirtual 102, 3) := by decide +kernel
theorem d_Rp_explainChild_76 : decode k_Rp_explainChild 76 = .ok (.goto 54, 3) := by decide +kernel
theorem d_Rp_explainChild_79 : decode k_Rp_explainChild 79 = .ok (.aload_n 0, 1) := by decide +kernel
theorem d_Rp_explainChild_80 : decode k_Rp_explainChild 80 = .ok (.getfield 35, 3) := by decide +kernel
theorem d_Rp_explainChild_83 : decode k_Rp_explainChild 83 = .ok (.getfield 105, 3) := by decide +kernel
theorem d_Rp_explainChild_86 : decode k_Rp_explainChild 86 = .ok (.iload_n 2, 1) := by decide +kernel
theorem d_Rp_explainChild_87 : decode k_Rp_explainChild 87 = .ok (.iaload, 1) := by decide +kernel
theorem d_Rp_explainChild_88 : decode k_Rp_explainChild 88 = .ok (.iconst (-1), 1) := by decide +kernel
theorem d_Rp_explainChild_89 : decode k_Rp_explainChild 89 = .ok (.if_icmp .eq 20, 3) := by decide +kernel
theorem d_Rp_explainChild_92 : decode k_Rp_explainChild 92 = .ok (.aload_n 0, 1) := by decide +kernel
theorem d_Rp_explainChild_93 : decode k_Rp_explainChild 93 = .ok (.aload_n 0, 1) := by decide +kernel
theorem d_Rp_explainChild_94 : decode k_Rp_explainChild 94 = .ok (.getfield 35, 3) := by decide +kernel
theorem d_Rp_explainChild_97 : decode k_Rp_explainChild 97 = .ok (.getfield 105, 3) := by decide +kernel
theorem d_Rp_explainChild_100 : decode k_Rp_explainChild 100 = .ok (.iload_n 2, 1) := by decide +kernel
theorem d_Rp_explainChild_101 : decode k_Rp_explainChild 101 = .ok (.iaload, 1) := by decide +kernel
theorem d_Rp_explainChild_102 : decode k_Rp_explainChild 102 = .ok (.iload_n 3, 1) := by decide +kernel
theorem d_Rp_explainChild_103 : decode k_Rp_explainChild 103 = .ok (.invokevirtual 48, 3) := by decide +kernel
theorem d_Rp_explainChild_106 : decode k_Rp_explainChild 106 = .ok (.goto 24, 3) := by decide +kernel
theorem d_Rp_explainChild_109 : decode k_Rp_explainChild 109 = .ok (.aload_n 0, 1) := by decide +kernel
theorem d_Rp_explainChild_110 : decode k_Rp_explainChild 110 = .ok (.getfield 22, 3) := by decide +kernel
theorem d_Rp_explainChild_113 : decode k_Rp_explainChild 113 = .ok (.iload_n 2, 1) := by decide +kernel
theorem d_Rp_explainChild_114 : decode k_Rp_explainChild 114 = .ok (.iload_n 3, 1) := by decide +kernel
theorem d_Rp_explainChild_115 : decode k_Rp_explainChild 115 = .ok (.invokevirtual 79, 3) := by decide +kernel
theorem d_Rp_explainChild_118 : decode k_Rp_explainChild 118 = .ok (.goto 12, 3) := by decide +kernel
theorem d_Rp_explainChild_121 : decode k_Rp_explainChild 121 = .ok (.aload_n 0, 1) := by decide +kernel
theorem d_Rp_explainChild_122 : decode k_Rp_explainChild 122 = .ok (.getfield 22, 3) := by decide +kernel
theorem d_Rp_explainChild_125 : decode k_Rp_explainChild 125 = .ok (.iload_n 2, 1) := by decide +kernel
theorem d_Rp_explainChild_126 : decode k_Rp_explainChild 126 = .ok (.iload_n 3, 1) := by decide +kernel
theorem d_Rp_explainChild_127 : decode k_Rp_explainChild 127 = .ok (.invokevirtual 79, 3) := by decide +kernel
theorem d_Rp_explainChild_130 : decode k_Rp_explainChild 130 = .ok (.return_, 1) := by decide +kernel
theorem gw337 : (Jvm.Cond.fieldLink "SchemaDesk$Report" (35 : Nat) "SchemaDesk$Report" "plan" "LSchemaDesk$Plan;") ∈ GW := gw_t2 (List.mem_of_getElem? (i := 97) rfl) rfl
theorem gw239 : (Jvm.Cond.fieldLink "SchemaDesk$Report" (96 : Nat) "SchemaDesk$Plan" "word" "[I") ∈ GW := gw_t1 (List.mem_of_getElem? (i := 239) rfl) rfl
theorem gw919 : (Jvm.Cond.methodLink "SchemaDesk$Report" (99 : Nat) ({ cls := "SchemaDesk$Report", name := "reportForChildren", desc := "(III)V" } : Jvm.MethodName)) ∈ GW := gw_t4 (List.mem_of_getElem? (i := 199) rfl) rfl
theorem gw921 : (Jvm.Cond.instanceMethod ({ cls := "SchemaDesk$Report", name := "reportForChildren", desc := "(III)V" } : Jvm.MethodName)) ∈ GW := gw_t4 (List.mem_of_getElem? (i := 201) rfl) rfl
theorem gs35 : Cond.selects "SchemaDesk$Report" ⟨"SchemaDesk$Report", "reportForChildren", "(III)V"⟩ ⟨"SchemaDesk$Report", "reportForChildren", "(III)V"⟩ ∈ GW := gw_p3 (q := (⟨"SchemaDesk$Report", "reportForChildren", "(III)V"⟩, 8)) (List.mem_of_getElem? (i := 3) rfl)
theorem gw922 : (Jvm.Cond.code ({ cls := "SchemaDesk$Report", name := "reportForChildren", desc := "(III)V" } : Jvm.MethodName) prog_6_method_9_code (7 : Nat) (Option.none : Option Jvm.ClassFile.FieldType)) ∈ GW := gw_t4 (List.mem_of_getElem? (i := 202) rfl) rfl
theorem gw924 : (Jvm.Cond.methodLink "SchemaDesk$Report" (102 : Nat) ({ cls := "SchemaDesk$Report", name := "reportInside", desc := "(II)V" } : Jvm.MethodName)) ∈ GW := gw_t4 (List.mem_of_getElem? (i := 204) rfl) rfl
theorem gw926 : (Jvm.Cond.instanceMethod ({ cls := "SchemaDesk$Report", name := "reportInside", desc := "(II)V" } : Jvm.MethodName)) ∈ GW := gw_t4 (List.mem_of_getElem? (i := 206) rfl) rfl
theorem gs36 : Cond.selects "SchemaDesk$Report" ⟨"SchemaDesk$Report", "reportInside", "(II)V"⟩ ⟨"SchemaDesk$Report", "reportInside", "(II)V"⟩ ∈ GW := gw_p3 (q := (⟨"SchemaDesk$Report", "reportInside", "(II)V"⟩, 8)) (List.mem_of_getElem? (i := 4) rfl)
theorem gw927 : (Jvm.Cond.code ({ cls := "SchemaDesk$Report", name := "reportInside", desc := "(II)V" } : Jvm.MethodName) prog_6_method_10_code (5 : Nat) (Option.none : Option Jvm.ClassFile.FieldType)) ∈ GW := gw_t4 (List.mem_of_getElem? (i := 207) rfl) rfl
theorem gw341 : (Jvm.Cond.fieldLink "SchemaDesk$Report" (22 : Nat) "SchemaDesk$Report" "wrong" "LSchemaDesk$Marks;") ∈ GW := gw_t2 (List.mem_of_getElem? (i := 101) rfl) rfl
theorem gw243 : (Jvm.Cond.fieldLink "SchemaDesk$Report" (105 : Nat) "SchemaDesk$Plan" "target" "[I") ∈ GW := gw_t2 (List.mem_of_getElem? (i := 3) rfl) rfl
def wq_Rp_explainChild (x1 : Int32) (x2 : Int32) (x3 : Int32) (σ : Sg) (post : Sg → Prop) : Prop := (vp_in x2 160 ∧ (((σ.1 30 x2.toNatClampNeg) = 12 → (wq_Rp_reportForChildren x1 x2 x3 σ (fun σ1 => post σ1))) ∧ ((σ.1 30 x2.toNatClampNeg) = 13 → (wq_Rp_reportForChildren x1 x2 x3 σ (fun σ1 => post σ1))) ∧ ((σ.1 30 x2.toNatClampNeg) = 14 → (wq_Rp_reportForChildren x1 x2 x3 σ (fun σ1 => post σ1))) ∧ ((σ.1 30 x2.toNatClampNeg) = 15 → (wq_Rp_reportInside x2 x3 σ (fun σ1 => post σ1))) ∧ ((σ.1 30 x2.toNatClampNeg) = 16 → (wq_Mk_put 43 x2 x3 σ (fun σ1 => post σ1))) ∧ ((σ.1 30 x2.toNatClampNeg) = 17 → (wq_Mk_put 43 x2 x3 σ (fun σ1 => post σ1))) ∧ ((σ.1 30 x2.toNatClampNeg) = 18 → (wq_Mk_put 43 x2 x3 σ (fun σ1 => post σ1))) ∧ ((σ.1 30 x2.toNatClampNeg) = 19 → (vp_in x2 160 ∧ (((σ.1 31 x2.toNatClampNeg) = (-1 : Int32) → (wq_Mk_put 43 x2 x3 σ (fun σ1 => post σ1))) ∧ (¬ (σ.1 31 x2.toNatClampNeg) = (-1 : Int32) → (vp_in x2 160 ∧ (wq_Rp_report (σ.1 31 x2.toNatClampNeg) x3 σ (fun σ1 => post σ1))))))) ∧ ((σ.1 30 x2.toNatClampNeg) = 20 → (wq_Rp_reportForChildren x1 x2 x3 σ (fun σ1 => post σ1))) ∧ ((¬ (σ.1 30 x2.toNatClampNeg) = 12 ∧ ¬ (σ.1 30 x2.toNatClampNeg) = 13 ∧ ¬ (σ.1 30 x2.toNatClampNeg) = 14 ∧ ¬ (σ.1 30 x2.toNatClampNeg) = 15 ∧ ¬ (σ.1 30 x2.toNatClampNeg) = 16 ∧ ¬ (σ.1 30 x2.toNatClampNeg) = 17 ∧ ¬ (σ.1 30 x2.toNatClampNeg) = 18 ∧ ¬ (σ.1 30 x2.toNatClampNeg) = 19 ∧ ¬ (σ.1 30 x2.toNatClampNeg) = 20) → (wq_Mk_put 43 x2 x3 σ (fun σ1 => post σ1)))))
set_option maxRecDepth 100000 in
set_option maxHeartbeats 4000000 in
theorem b_Rp_explainChild_0 {p : Program} {l : Launch} {e : Env} {s : State} {m : MethodId} {args : Array Value} {below : List Frame} {meth : Method} {c : Code} {D : va_G} {g : Gm} {A : Nat → Prop} {post : Sg → Prop} (C : kC p s m args meth c k_Rp_explainChild 4 (none) GW R_Rp D vwCl g (Zk g) A) (x1 : Int32) (x2 : Int32) (x3 : Int32) (σ : Sg) (H : Heap) (locs : List Loc) (ls : Array Slot) (hl : lv_has ls 4 [(0, .ref (g.1 40)), (1, .int x1), (2, .int x2), (3, .int x3)]) (hst : Wst D vwCl (WS g) A s σ H locs) (h : wq_Rp_explainChild x1 x2 x3 σ post) : W p l e { frames := 4, cells := 0, slots := 0, locals := 104 } s m args below meth c H locs 0 0 (MQ below (QvW D vwCl (WS g) post A) args s 0 0 A) (F0 m 0 ls []) := by
  obtain ⟨hx, hb, hr, hml, hown, hts, hlocks, hK, hZ, hA⟩ := C
  unfold wq_Rp_explainChild at h
  refine lv_aload_n hx hb d_Rp_explainChild_0 rfl (lv_at hl 0 rfl) ?_
  refine va_get (D := D) (ci := 7) (C := R_Rp) (T := T_Rp) (N := 8) hx hb hts in_Rp hown hK hst.1 40 (WS_o40 g σ) rfl 3 (by decide) (hts _ gw337) (fun _ h9 => h9) rfl d_Rp_explainChild_1 ?_
  refine va_get (D := D) (ci := 5) (C := R_Pl) (T := T_Pl) (N := 10) hx hb hts in_Pl hown hK hst.1 29 (WS_o29 g σ) rfl 2 (by decide) (hts _ gw239) (fun _ h9 => h9) rfl d_Rp_explainChild_4 ?_
  refine lv_iload_n hx hb d_Rp_explainChild_7 rfl (lv_at hl 2 rfl) ?_
  obtain ⟨hi, h⟩ := h
  refine va_iald hx hb hK hst.1 30 0 (WS_a30 g σ) rfl hi d_Rp_explainChild_8 ?_
  by_cases hc0 : (σ.1 30 x2.toNatClampNeg) = 12
  · refine kw_tin (k := 12) (tgt := 60) hx hb d_Rp_explainChild_9 hc0 (by decide) (by decide) rfl (by decide) ?_
    replace h := h.1 hc0
    refine lv_aload_n hx hb d_Rp_explainChild_60 rfl (lv_at hl 0 rfl) ?_
    refine lv_iload_n hx hb d_Rp_explainChild_61 rfl (lv_at hl 1 rfl) ?_
    refine lv_iload_n hx hb d_Rp_explainChild_62 rfl (lv_at hl 2 rfl) ?_
    refine lv_iload_n hx hb d_Rp_explainChild_63 rfl (lv_at hl 3 rfl) ?_
    refine kw_callv (va_runV (As := [.int x1, .int x2, .int x3]) (rest := []) (b := g.1 40) ⟨hx, hb, hml, hown, hts⟩ (c_Rp_reportForChildren l x1 x2 x3 h) (cwV 3 hts (gd_v gw919 gw921 gs35 gw13 gw922) rfl rfl rfl (by decide +kernel) ⟨Nat.le_of_ble_eq_true rfl, Nat.le_of_ble_eq_true rfl⟩) ⟨kw_blind (Zk_ok g), va_recv hK hst.1 rfl (WS_o40 g σ), kw_pre (Zk_ok g) hK hZ hA hst⟩ rfl rfl hl.1 rfl (lv_room (Nat.le_of_ble_eq_true rfl)) d_Rp_explainChild_64 ⟨Nat.le_of_ble_eq_true rfl, Nat.le_of_ble_eq_true rfl⟩) hst hA (fun σ1 H locs h hst => ?_)
    refine lv_goto (tgt := 130) hx hb d_Rp_explainChild_67 (by decide) ?_
    exact kw_vret hx hb hr hlocks hst h d_Rp_explainChild_130
  by_cases hc1 : (σ.1 30 x2.toNatClampNeg) = 13
  · refine kw_tin (k := 13) (tgt := 60) hx hb d_Rp_explainChild_9 hc1 (by decide) (by decide) rfl (by decide) ?_
    replace h := h.2.1 hc1
    refine lv_aload_n hx hb d_Rp_explainChild_60 rfl (lv_at hl 0 rfl) ?_
    refine lv_iload_n hx hb d_Rp_explainChild_61 rfl (lv_at hl 1 rfl) ?_
    refine lv_iload_n hx hb d_Rp_explainChild_62 rfl (lv_at hl 2 rfl) ?_
    refine lv_iload_n hx hb d_Rp_explainChild_63 rfl (lv_at hl 3 rfl) ?_
    refine kw_callv (va_runV (As := [.int x1, .int x2, .int x3]) (rest := []) (b := g.1 40) ⟨hx, hb, hml, hown, hts⟩ (c_Rp_reportForChildren l x1 x2 x3 h) (cwV 3 hts (gd_v gw919 gw921 gs35 gw13 gw922) rfl rfl rfl (by decide +kernel) ⟨Nat.le_of_ble_eq_true rfl, Nat.le_of_ble_eq_true rfl⟩) ⟨kw_blind (Zk_ok g), va_recv hK hst.1 rfl (WS_o40 g σ), kw_pre (Zk_ok g) hK hZ hA hst⟩ rfl rfl hl.1 rfl (lv_room (Nat.le_of_ble_eq_true rfl)) d_Rp_explainChild_64 ⟨Nat.le_of_ble_eq_true rfl, Nat.le_of_ble_eq_true rfl⟩) hst hA (fun σ1 H locs h hst => ?_)
    refine lv_goto (tgt := 130) hx hb d_Rp_explainChild_67 (by decide) ?_
    exact kw_vret hx hb hr hlocks hst h d_Rp_explainChild_130
  by_cases hc2 : (σ.1 30 x2.toNatClampNeg) = 14
  · refine kw_tin (k := 14) (tgt := 60) hx hb d_Rp_explainChild_9 hc2 (by decide) (by decide) rfl (by decide) ?_
    replace h := h.2.2.1 hc2
    refine lv_aload_n hx hb d_Rp_explainChild_60 rfl (lv_at hl 0 rfl) ?_
    refine lv_iload_n hx hb d_Rp_explainChild_61 rfl (lv_at hl 1 rfl) ?_
    refine lv_iload_n hx hb d_Rp_explainChild_62 rfl (lv_at hl 2 rfl) ?_
    refine lv_iload_n hx hb d_Rp_explainChild_63 rfl (lv_at hl 3 rfl) ?_
    refine kw_callv (va_runV (As := [.int x1, .int x2, .int x3]) (rest := []) (b := g.1 40) ⟨hx, hb, hml, hown, hts⟩ (c_Rp_reportForChildren l x1 x2 x3 h) (cwV 3 hts (gd_v gw919 gw921 gs35 gw13 gw922) rfl rfl rfl (by decide +kernel) ⟨Nat.le_of_ble_eq_true rfl, Nat.le_of_ble_eq_true rfl⟩) ⟨kw_blind (Zk_ok g), va_recv hK hst.1 rfl (WS_o40 g σ), kw_pre (Zk_ok g) hK hZ hA hst⟩ rfl rfl hl.1 rfl (lv_room (Nat.le_of_ble_eq_true rfl)) d_Rp_explainChild_64 ⟨Nat.le_of_ble_eq_true rfl, Nat.le_of_ble_eq_true rfl⟩) hst hA (fun σ1 H locs h hst => ?_)
    refine lv_goto (tgt := 130) hx hb d_Rp_explainChild_67 (by decide) ?_
    exact kw_vret hx hb hr hlocks hst h d_Rp_explainChild_130
  by_cases hc3 : (σ.1 30 x2.toNatClampNeg) = 15
  · refine kw_tin (k := 15) (tgt := 70) hx hb d_Rp_explainChild_9 hc3 (by decide) (by decide) rfl (by decide) ?_
    replace h := h.2.2.2.1 hc3
    refine lv_aload_n hx hb d_Rp_explainChild_70 rfl (lv_at hl 0 rfl) ?_
    refine lv_iload_n hx hb d_Rp_explainChild_71 rfl (lv_at hl 2 rfl) ?_
    refine lv_iload_n hx hb d_Rp_explainChild_72 rfl (lv_at hl 3 rfl) ?_
    refine kw_callv (va_runV (As := [.int x2, .int x3]) (rest := []) (b := g.1 40) ⟨hx, hb, hml, hown, hts⟩ (c_Rp_reportInside l x2 x3 h) (cwV 2 hts (gd_v gw924 gw926 gs36 gw13 gw927) rfl rfl rfl (by decide +kernel) ⟨Nat.le_of_ble_eq_true rfl, Nat.le_of_ble_eq_true rfl⟩) ⟨kw_blind (Zk_ok g), va_recv hK hst.1 rfl (WS_o40 g σ), kw_pre (Zk_ok g) hK hZ hA hst⟩ rfl rfl hl.1 rfl (lv_room (Nat.le_of_ble_eq_true rfl)) d_Rp_explainChild_73 ⟨Nat.le_of_ble_eq_true rfl, Nat.le_of_ble_eq_true rfl⟩) hst hA (fun σ1 H locs h hst => ?_)
    refine lv_goto (tgt := 130) hx hb d_Rp_explainChild_76 (by decide) ?_
    exact kw_vret hx hb hr hlocks hst h d_Rp_explainChild_130
  by_cases hc4 : (σ.1 30 x2.toNatClampNeg) = 16
  · refine kw_tin (k := 16) (tgt := 121) hx hb d_Rp_explainChild_9 hc4 (by decide) (by decide) rfl (by decide) ?_
    replace h := h.2.2.2.2.1 hc4
    refine lv_aload_n hx hb d_Rp_explainChild_121 rfl (lv_at hl 0 rfl) ?_
    refine va_get (D := D) (ci := 7) (C := R_Rp) (T := T_Rp) (N := 8) hx hb hts in_Rp hown hK hst.1 40 (WS_o40 g σ) rfl 7 (by decide) (hts _ gw341) (fun _ h9 => h9) rfl d_Rp_explainChild_122 ?_
    refine lv_iload_n hx hb d_Rp_explainChild_125 rfl (lv_at hl 2 rfl) ?_
    refine lv_iload_n hx hb d_Rp_explainChild_126 rfl (lv_at hl 3 rfl) ?_
    refine kw_callv (va_runV (As := [.int x2, .int x3]) (rest := []) (b := g.1 43) ⟨hx, hb, hml, hown, hts⟩ (c_Mk_put_43 l x2 x3 h) (cwV 2 hts (gd_v gw908 gw838 gw839 gw12 gw840) rfl rfl rfl (by decide +kernel) ⟨Nat.le_of_ble_eq_true rfl, Nat.le_of_ble_eq_true rfl⟩) ⟨kw_blind (Zk_ok g), va_recv hK hst.1 rfl (WS_o43 g σ), kw_pre (Zk_ok g) hK hZ hA hst⟩ rfl rfl hl.1 rfl (lv_room (Nat.le_of_ble_eq_true rfl)) d_Rp_explainChild_127 ⟨Nat.le_of_ble_eq_true rfl, Nat.le_of_ble_eq_true rfl⟩) hst hA (fun σ1 H locs h hst => ?_)
    exact kw_vret hx hb hr hlocks hst h d_Rp_explainChild_130
  by_cases hc5 : (σ.1 30 x2.toNatClampNeg) = 17
  · refine kw_tin (k := 17) (tgt := 121) hx hb d_Rp_explainChild_9 hc5 (by decide) (by decide) rfl (by decide) ?_
    replace h := h.2.2.2.2.2.1 hc5
    refine lv_aload_n hx hb d_Rp_explainChild_121 rfl (lv_at hl 0 rfl) ?_
    refine va_get (D := D) (ci := 7) (C := R_Rp) (T := T_Rp) (N := 8) hx hb hts in_Rp hown hK hst.1 40 (WS_o40 g σ) rfl 7 (by decide) (hts _ gw341) (fun _ h9 => h9) rfl d_Rp_explainChild_122 ?_
    refine lv_iload_n hx hb d_Rp_explainChild_125 rfl (lv_at hl 2 rfl) ?_
    refine lv_iload_n hx hb d_Rp_explainChild_126 rfl (lv_at hl 3 rfl) ?_
    refine kw_callv (va_runV (As := [.int x2, .int x3]) (rest := []) (b := g.1 43) ⟨hx, hb, hml, hown, hts⟩ (c_Mk_put_43 l x2 x3 h) (cwV 2 hts (gd_v gw908 gw838 gw839 gw12 gw840) rfl rfl rfl (by decide +kernel) ⟨Nat.le_of_ble_eq_true rfl, Nat.le_of_ble_eq_true rfl⟩) ⟨kw_blind (Zk_ok g), va_recv hK hst.1 rfl (WS_o43 g σ), kw_pre (Zk_ok g) hK hZ hA hst⟩ rfl rfl hl.1 rfl (lv_room (Nat.le_of_ble_eq_true rfl)) d_Rp_explainChild_127 ⟨Nat.le_of_ble_eq_true rfl, Nat.le_of_ble_eq_true rfl⟩) hst hA (fun σ1 H locs h hst => ?_)
    exact kw_vret hx hb hr hlocks hst h d_Rp_explainChild_130
  by_cases hc6 : (σ.1 30 x2.toNatClampNeg) = 18
  · refine kw_tin (k := 18) (tgt := 121) hx hb d_Rp_explainChild_9 hc6 (by decide) (by decide) rfl (by decide) ?_
    replace h := h.2.2.2.2.2.2.1 hc6
    refine lv_aload_n hx hb d_Rp_explainChild_121 rfl (lv_at hl 0 rfl) ?_
    refine va_get (D := D) (ci := 7) (C := R_Rp) (T := T_Rp) (N := 8) hx hb hts in_Rp hown hK hst.1 40 (WS_o40 g σ) rfl 7 (by decide) (hts _ gw341) (fun _ h9 => h9) rfl d_Rp_explainChild_122 ?_
    refine lv_iload_n hx hb d_Rp_explainChild_125 rfl (lv_at hl 2 rfl) ?_
    refine lv_iload_n hx hb d_Rp_explainChild_126 rfl (lv_at hl 3 rfl) ?_
    refine kw_callv (va_runV (As := [.int x2, .int x3]) (rest := []) (b := g.1 43) ⟨hx, hb, hml, hown, hts⟩ (c_Mk_put_43 l x2 x3 h) (cwV 2 hts (gd_v gw908 gw838 gw839 gw12 gw840) rfl rfl rfl (by decide +kernel) ⟨Nat.le_of_ble_eq_true rfl, Nat.le_of_ble_eq_true rfl⟩) ⟨kw_blind (Zk_ok g), va_recv hK hst.1 rfl (WS_o43 g σ), kw_pre (Zk_ok g) hK hZ hA hst⟩ rfl rfl hl.1 rfl (lv_room (Nat.le_of_ble_eq_true rfl)) d_Rp_explainChild_127 ⟨Nat.le_of_ble_eq_true rfl, Nat.le_of_ble_eq_true rfl⟩) hst hA (fun σ1 H locs h hst => ?_)
    exact kw_vret hx hb hr hlocks hst h d_Rp_explainChild_130
  by_cases hc7 : (σ.1 30 x2.toNatClampNeg) = 19
  · refine kw_tin (k := 19) (tgt := 79) hx hb d_Rp_explainChild_9 hc7 (by decide) (by decide) rfl (by decide) ?_
    replace h := h.2.2.2.2.2.2.2.1 hc7
    refine lv_aload_n hx hb d_Rp_explainChild_79 rfl (lv_at hl 0 rfl) ?_
    refine va_get (D := D) (ci := 7) (C := R_Rp) (T := T_Rp) (N := 8) hx hb hts in_Rp hown hK hst.1 40 (WS_o40 g σ) rfl 3 (by decide) (hts _ gw337) (fun _ h9 => h9) rfl d_Rp_explainChild_80 ?_
    refine va_get (D := D) (ci := 5) (C := R_Pl) (T := T_Pl) (N := 10) hx hb hts in_Pl hown hK hst.1 29 (WS_o29 g σ) rfl 3 (by decide) (hts _ gw243) (fun _ h9 => h9) rfl d_Rp_explainChild_83 ?_
    refine lv_iload_n hx hb d_Rp_explainChild_86 rfl (lv_at hl 2 rfl) ?_
    obtain ⟨hi, h⟩ := h
    refine va_iald hx hb hK hst.1 31 0 (WS_a31 g σ) rfl hi d_Rp_explainChild_87 ?_
    refine lv_iconst (v := (-1 : Int32)) hx hb d_Rp_explainChild_88 (by decide) ?_
    refine lv_icmp_eq (tgt := 109) hx hb d_Rp_explainChild_89 (by decide) (fun hc => ?_) (fun hc => ?_)
    · replace h := h.1 hc
      refine lv_aload_n hx hb d_Rp_explainChild_109 rfl (lv_at hl 0 rfl) ?_
      refine va_get (D := D) (ci := 7) (C := R_Rp) (T := T_Rp) (N := 8) hx hb hts in_Rp hown hK hst.1 40 (WS_o40 g σ) rfl 7 (by decide) (hts _ gw341) (fun _ h9 => h9) rfl d_Rp_explainChild_110 ?_
      refine lv_iload_n hx hb d_Rp_explainChild_113 rfl (lv_at hl 2 rfl) ?_
      refine lv_iload_n hx hb d_Rp_explainChild_114 rfl (lv_at hl 3 rfl) ?_
      refine kw_callv (va_runV (As := [.int x2, .int x3]) (rest := []) (b := g.1 43) ⟨hx, hb, hml, hown, hts⟩ (c_Mk_put_43 l x2 x3 h) (cwV 2 hts (gd_v gw908 gw838 gw839 gw12 gw840) rfl rfl rfl (by decide +kernel) ⟨Nat.le_of_ble_eq_true rfl, Nat.le_of_ble_eq_true rfl⟩) ⟨kw_blind (Zk_ok g), va_recv hK hst.1 rfl (WS_o43 g σ), kw_pre (Zk_ok g) hK hZ hA hst⟩ rfl rfl hl.1 rfl (lv_room (Nat.le_of_ble_eq_true rfl)) d_Rp_explainChild_115 ⟨Nat.le_of_ble_eq_true rfl, Nat.le_of_ble_eq_true rfl⟩) hst hA (fun σ1 H locs h hst => ?_)
      refine lv_goto (tgt := 130) hx hb d_Rp_explainChild_118 (by decide) ?_
      exact kw_vret hx hb hr hlocks hst h d_Rp_explainChild_130
    · replace h := h.2 hc
      refine lv_aload_n hx hb d_Rp_explainChild_92 rfl (lv_at hl 0 rfl) ?_
      refine lv_aload_n hx hb d_Rp_explainChild_93 rfl (lv_at hl 0 rfl) ?_
      refine va_get (D := D) (ci := 7) (C := R_Rp) (T := T_Rp) (N := 8) hx hb hts in_Rp hown hK hst.1 40 (WS_o40 g σ) rfl 3 (by decide) (hts _ gw337) (fun _ h9 => h9) rfl d_Rp_explainChild_94 ?_
      refine va_get (D := D) (ci := 5) (C := R_Pl) (T := T_Pl) (N := 10) hx hb hts in_Pl hown hK hst.1 29 (WS_o29 g σ) rfl 3 (by decide) (hts _ gw243) (fun _ h9 => h9) rfl d_Rp_explainChild_97 ?_
      refine lv_iload_n hx hb d_Rp_explainChild_100 rfl (lv_at hl 2 rfl) ?_
      obtain ⟨hi, h⟩ := h
      refine va_iald hx hb hK hst.1 31 0 (WS_a31 g σ) rfl hi d_Rp_explainChild_101 ?_
      refine lv_iload_n hx hb d_Rp_explainChild_102 rfl (lv_at hl 3 rfl) ?_
      refine kw_callv (va_runV (As := [.int (σ.1 31 x2.toNatClampNeg), .int x3]) (rest := []) (b := g.1 40) ⟨hx, hb, hml, hown, hts⟩ (c_Rp_report l (σ.1 31 x2.toNatClampNeg) x3 h) (cwV 2 hts (gd_v gw903 gw905 gs32 gw13 gw906) rfl rfl rfl (by decide +kernel) ⟨Nat.le_of_ble_eq_true rfl, Nat.le_of_ble_eq_true rfl⟩) ⟨kw_blind (Zk_ok g), va_recv hK hst.1 rfl (WS_o40 g σ), kw_pre (Zk_ok g) hK hZ hA hst⟩ rfl rfl hl.1 rfl (lv_room (Nat.le_of_ble_eq_true rfl)) d_Rp_explainChild_103 ⟨Nat.le_of_ble_eq_true rfl, Nat.le_of_ble_eq_true rfl⟩) hst hA (fun σ1 H locs h hst => ?_)
      refine lv_goto (tgt := 130) hx hb d_Rp_explainChild_106 (by decide) ?_
      exact kw_vret hx hb hr hlocks hst h d_Rp_explainChild_130
  by_cases hc8 : (σ.1 30 x2.toNatClampNeg) = 20
  · refine kw_tin (k := 20) (tgt := 60) hx hb d_Rp_explainChild_9 hc8 (by decide) (by decide) rfl (by decide) ?_
    replace h := h.2.2.2.2.2.2.2.2.1 hc8
    refine lv_aload_n hx hb d_Rp_explainChild_60 rfl (lv_at hl 0 rfl) ?_
    refine lv_iload_n hx hb d_Rp_explainChild_61 rfl (lv_at hl 1 rfl) ?_
    refine lv_iload_n hx hb d_Rp_explainChild_62 rfl (lv_at hl 2 rfl) ?_
    refine lv_iload_n hx hb d_Rp_explainChild_63 rfl (lv_at hl 3 rfl) ?_
    refine kw_callv (va_runV (As := [.int x1, .int x2, .int x3]) (rest := []) (b := g.1 40) ⟨hx, hb, hml, hown, hts⟩ (c_Rp_reportForChildren l x1 x2 x3 h) (cwV 3 hts (gd_v gw919 gw921 gs35 gw13 gw922) rfl rfl rfl (by decide +kernel) ⟨Nat.le_of_ble_eq_true rfl, Nat.le_of_ble_eq_true rfl⟩) ⟨kw_blind (Zk_ok g), va_recv hK hst.1 rfl (WS_o40 g σ), kw_pre (Zk_ok g) hK hZ hA hst⟩ rfl rfl hl.1 rfl (lv_room (Nat.le_of_ble_eq_true rfl)) d_Rp_explainChild_64 ⟨Nat.le_of_ble_eq_true rfl, Nat.le_of_ble_eq_true rfl⟩) hst hA (fun σ1 H locs h hst => ?_)
    refine lv_goto (tgt := 130) hx hb d_Rp_explainChild_67 (by decide) ?_
    exact kw_vret hx hb hr hlocks hst h d_Rp_explainChild_130
  refine lv_tableOut (tgt := 121) hx hb d_Rp_explainChild_9 (by have q0 := lv_neT (a := 12) hc0 (by decide); have q1 := lv_neT (a := 13) hc1 (by decide); have q2 := lv_neT (a := 14) hc2 (by decide); have q3 := lv_neT (a := 15) hc3 (by decide); have q4 := lv_neT (a := 16) hc4 (by decide); have q5 := lv_neT (a := 17) hc5 (by decide); have q6 := lv_neT (a := 18) hc6 (by decide); have q7 := lv_neT (a := 19) hc7 (by decide); have q8 := lv_neT (a := 20) hc8 (by decide); omega) (by decide) ?_
  replace h := h.2.2.2.2.2.2.2.2.2 ⟨hc0, hc1, hc2, hc3, hc4, hc5, hc6, hc7, hc8⟩
  refine lv_aload_n hx hb d_Rp_explainChild_121 rfl (lv_at hl 0 rfl) ?_
  refine va_get (D := D) (ci := 7) (C := R_Rp) (T := T_Rp) (N := 8) hx hb hts in_Rp hown hK hst.1 40 (WS_o40 g σ) rfl 7 (by decide) (hts _ gw341) (fun _ h9 => h9) rfl d_Rp_explainChild_122 ?_
  refine lv_iload_n hx hb d_Rp_explainChild_125 rfl (lv_at hl 2 rfl) ?_
  refine lv_iload_n hx hb d_Rp_explainChild_126 rfl (lv_at hl 3 rfl) ?_
  refine kw_callv (va_runV (As := [.int x2, .int x3]) (rest := []) (b := g.1 43) ⟨hx, hb, hml, hown, hts⟩ (c_Mk_put_43 l x2 x3 h) (cwV 2 hts (gd_v gw908 gw838 gw839 gw12 gw840) rfl rfl rfl (by decide +kernel) ⟨Nat.le_of_ble_eq_true rfl, Nat.le_of_ble_eq_true rfl⟩) ⟨kw_blind (Zk_ok g), va_recv hK hst.1 rfl (WS_o43 g σ), kw_pre (Zk_ok g) hK hZ hA hst⟩ rfl rfl hl.1 rfl (lv_room (Nat.le_of_ble_eq_true rfl)) d_Rp_explainChild_127 ⟨Nat.le_of_ble_eq_true rfl, Nat.le_of_ble_eq_true rfl⟩) hst hA (fun σ1 H locs h hst => ?_)
  exact kw_vret hx hb hr hlocks hst h d_Rp_explainChild_130
set_option maxRecDepth 100000 in
set_option maxHeartbeats 4000000 in
theorem c_Rp_explainChild (l : Launch) {D : va_G} {g : Gm} {sz : Nat} (x1 : Int32) (x2 : Int32) (x3 : Int32) {σ : Sg} {post : Sg → Prop} (h : wq_Rp_explainChild x1 x2 x3 σ post) : Met l y_Rp_explainChild (.code y_Rp_explainChild k_Rp_explainChild 4 (none) :: GW) { frames := 4, cells := 0, slots := 0, locals := 104 } (PcW D vwCl (WS g) g (Zk g) σ sz [.ref (g.1 40), .int x1, .int x2, .int x3]) (QvW D vwCl (WS g) post (va_A (WS g σ) sz)) 0 0 (va_A (WS g σ) sz) := by
  refine kw_entry (own := R_Rp) (by decide) rfl rfl (Nat.le_of_ble_eq_true rfl) ?_
  intro p e s m below meth c ls hsz C hin hl hst
  exact b_Rp_explainChild_0 C x1 x2 x3 σ _ _ ls hl hst h
