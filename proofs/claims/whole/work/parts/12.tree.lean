/-! SchemaDesk$Marks.has (II)Z -/
abbrev k_Mk_has : ByteArray := prog_2_method_3_code
abbrev y_Mk_has : MethodName := ⟨"SchemaDesk$Marks", "has", "(II)Z"⟩
theorem d_Mk_has_0 : decode k_Mk_has 0 = .ok (.aload_n 0, 1) := by decide +kernel
theorem d_Mk_has_1 : decode k_Mk_has 1 = .ok (.getfield 9, 3) := by decide +kernel
theorem d_Mk_has_4 : decode k_Mk_has 4 = .ok (.iconst 2, 1) := by decide +kernel
theorem d_Mk_has_5 : decode k_Mk_has 5 = .ok (.iload_n 1, 1) := by decide +kernel
theorem d_Mk_has_6 : decode k_Mk_has 6 = .ok (.imul, 1) := by decide +kernel
theorem d_Mk_has_7 : decode k_Mk_has 7 = .ok (.iload_n 2, 1) := by decide +kernel
theorem d_Mk_has_8 : decode k_Mk_has 8 = .ok (.bipush 6, 2) := by decide +kernel
theorem d_Mk_has_10 : decode k_Mk_has 10 = .ok (.ishr, 1) := by decide +kernel
theorem d_Mk_has_11 : decode k_Mk_has 11 = .ok (.iadd, 1) := by decide +kernel
theorem d_Mk_has_12 : decode k_Mk_has 12 = .ok (.laload, 1) := by decide +kernel
theorem d_Mk_has_13 : decode k_Mk_has 13 = .ok (.iload_n 2, 1) := by decide +kernel
theorem d_Mk_has_14 : decode k_Mk_has 14 = .ok (.bipush 63, 2) := by decide +kernel
theorem d_Mk_has_16 : decode k_Mk_has 16 = .ok (.iand, 1) := by decide +kernel
theorem d_Mk_has_17 : decode k_Mk_has 17 = .ok (.lushr, 1) := by decide +kernel
theorem d_Mk_has_18 : decode k_Mk_has 18 = .ok (.lconst 1, 1) := by decide +kernel
theorem d_Mk_has_19 : decode k_Mk_has 19 = .ok (.land, 1) := by decide +kernel
theorem d_Mk_has_20 : decode k_Mk_has 20 = .ok (.lconst 0, 1) := by decide +kernel
theorem d_Mk_has_21 : decode k_Mk_has 21 = .ok (.lcmp, 1) := by decide +kernel
theorem d_Mk_has_22 : decode k_Mk_has 22 = .ok (.ifCond .eq 7, 3) := by decide +kernel
theorem d_Mk_has_25 : decode k_Mk_has 25 = .ok (.iconst 1, 1) := by decide +kernel
theorem d_Mk_has_26 : decode k_Mk_has 26 = .ok (.goto 4, 3) := by decide +kernel
theorem d_Mk_has_29 : decode k_Mk_has 29 = .ok (.iconst 0, 1) := by decide +kernel
theorem d_Mk_has_30 : decode k_Mk_has 30 = .ok (.ireturn, 1) := by decide +kernel
theorem gw294 : (Jvm.Cond.fieldLink "SchemaDesk$Marks" (9 : Nat) "SchemaDesk$Marks" "bits" "[J") ∈ GW := gw_t2 (List.mem_of_getElem? (i := 54) rfl) rfl
def wq_Mk_has (b : Nat) (x1 : Int32) (x2 : Int32) (σ : Sg) (post : Int32 → Sg → Prop) : Prop := (vp_in (((2 : Int32) * x1) + (x2 >>> ((6 : Int32) &&& 31))) 320 ∧ (((lg_cmp (((((σ.2.1 (b + 1) ((((2 : Int32) * x1) + (x2 >>> ((6 : Int32) &&& 31))) : Int32).toNatClampNeg) : Int64).toUInt64 >>> (((x2 &&& (63 : Int32)) : Int32).toInt64.toUInt64 &&& Int64.toUInt64 63)).toInt64) &&& (1 : Int64)) (0 : Int64)) = 0 → (narrow .boolean (.int (0 : Int32)) = .int (0 : Int32) ∧ post (0 : Int32) σ)) ∧ (¬ (lg_cmp (((((σ.2.1 (b + 1) ((((2 : Int32) * x1) + (x2 >>> ((6 : Int32) &&& 31))) : Int32).toNatClampNeg) : Int64).toUInt64 >>> (((x2 &&& (63 : Int32)) : Int32).toInt64.toUInt64 &&& Int64.toUInt64 63)).toInt64) &&& (1 : Int64)) (0 : Int64)) = 0 → (narrow .boolean (.int (1 : Int32)) = .int (1 : Int32) ∧ post (1 : Int32) σ))))
set_option maxRecDepth 100000 in
set_option maxHeartbeats 4000000 in
theorem b_Mk_has_36_0 {p : Program} {l : Launch} {e : Env} {s : State} {m : MethodId} {args : Array Value} {below : List Frame} {meth : Method} {c : Code} {D : va_G} {g : Gm} {A : Nat → Prop} {post : Int32 → Sg → Prop} (C : kC p s m args meth c k_Mk_has 3 (some .boolean) GW R_Mk D vwCl g (Zk g) A) (x1 : Int32) (x2 : Int32) (σ : Sg) (H : Heap) (locs : List Loc) (ls : Array Slot) (hl : lv_has ls 3 [(0, .ref (g.1 36)), (1, .int x1), (2, .int x2)]) (hst : Wst D vwCl (WS g) A s σ H locs) (h : wq_Mk_has 36 x1 x2 σ post) : W p l e { frames := 0, cells := 0, slots := 0, locals := 0 } s m args below meth c H locs 0 0 (MQ below (QiW D vwCl (WS g) post A) args s 0 0 A) (F0 m 0 ls []) := by
  obtain ⟨hx, hb, hr, hml, hown, hts, hlocks, hK, hZ, hA⟩ := C
  unfold wq_Mk_has at h
  refine lv_aload_n hx hb d_Mk_has_0 rfl (lv_at hl 0 rfl) ?_
  refine va_get (D := D) (ci := 3) (C := R_Mk) (T := T_Mk) (N := 1) hx hb hts in_Mk hown hK hst.1 36 (WS_o36 g σ) rfl 0 (by decide) (hts _ gw294) (fun _ h9 => h9) rfl d_Mk_has_1 ?_
  refine lv_iconst (v := (2 : Int32)) hx hb d_Mk_has_4 (by decide) ?_
  refine lv_iload_n hx hb d_Mk_has_5 rfl (lv_at hl 1 rfl) ?_
  refine lv_imul hx hb d_Mk_has_6 ?_
  refine lv_iload_n hx hb d_Mk_has_7 rfl (lv_at hl 2 rfl) ?_
  refine lv_bipush (v := (6 : Int32)) hx hb d_Mk_has_8 (by decide) ?_
  refine lv_ishr hx hb d_Mk_has_10 ?_
  refine lv_iadd hx hb d_Mk_has_11 ?_
  obtain ⟨hi, h⟩ := h
  refine va_lald hx hb hK hst.1 37 3 (WS_a37 g σ) rfl hi d_Mk_has_12 ?_
  refine lv_iload_n hx hb d_Mk_has_13 rfl (lv_at hl 2 rfl) ?_
  refine lv_bipush (v := (63 : Int32)) hx hb d_Mk_has_14 (by decide) ?_
  refine lv_iand hx hb d_Mk_has_16 ?_
  refine lv_lushr hx hb d_Mk_has_17 rfl ?_
  refine lv_lconst (v := (1 : Int64)) hx hb d_Mk_has_18 (by decide) ?_
  refine lv_land hx hb d_Mk_has_19 ?_
  refine lv_lconst (v := (0 : Int64)) hx hb d_Mk_has_20 (by decide) ?_
  refine W.lcmp hx hb d_Mk_has_21 ?_
  refine lv_if_eq (tgt := 29) hx hb d_Mk_has_22 (by decide) (fun hc => ?_) (fun hc => ?_)
  · replace h := h.1 hc
    refine lv_iconst (v := (0 : Int32)) hx hb d_Mk_has_29 (by decide) ?_
    exact kw_zret hx hb hr hlocks hst h d_Mk_has_30
  · replace h := h.2 hc
    refine lv_iconst (v := (1 : Int32)) hx hb d_Mk_has_25 (by decide) ?_
    refine lv_goto (tgt := 30) hx hb d_Mk_has_26 (by decide) ?_
    exact kw_zret hx hb hr hlocks hst h d_Mk_has_30
set_option maxRecDepth 100000 in
set_option maxHeartbeats 4000000 in
theorem c_Mk_has_36 (l : Launch) {D : va_G} {g : Gm} {sz : Nat} (x1 : Int32) (x2 : Int32) {σ : Sg} {post : Int32 → Sg → Prop} (h : wq_Mk_has 36 x1 x2 σ post) : Met l y_Mk_has (.code y_Mk_has k_Mk_has 3 (some .boolean) :: GW) { frames := 0, cells := 0, slots := 0, locals := 0 } (PcW D vwCl (WS g) g (Zk g) σ sz [.ref (g.1 36), .int x1, .int x2]) (QiW D vwCl (WS g) post (va_A (WS g σ) sz)) 0 0 (va_A (WS g σ) sz) := by
  refine kw_entry (own := R_Mk) (by decide) rfl rfl (Nat.le_of_ble_eq_true rfl) ?_
  intro p e s m below meth c ls hsz C hin hl hst
  exact b_Mk_has_36_0 C x1 x2 σ _ _ ls hl hst h
set_option maxRecDepth 100000 in
set_option maxHeartbeats 4000000 in
theorem b_Mk_has_38_0 {p : Program} {l : Launch} {e : Env} {s : State} {m : MethodId} {args : Array Value} {below : List Frame} {meth : Method} {c : Code} {D : va_G} {g : Gm} {A : Nat → Prop} {post : Int32 → Sg → Prop} (C : kC p s m args meth c k_Mk_has 3 (some .boolean) GW R_Mk D vwCl g (Zk g) A) (x1 : Int32) (x2 : Int32) (σ : Sg) (H : Heap) (locs : List Loc) (ls : Array Slot) (hl : lv_has ls 3 [(0, .ref (g.1 38)), (1, .int x1), (2, .int x2)]) (hst : Wst D vwCl (WS g) A s σ H locs) (h : wq_Mk_has 38 x1 x2 σ post) : W p l e { frames := 0, cells := 0, slots := 0, locals := 0 } s m args below meth c H locs 0 0 (MQ below (QiW D vwCl (WS g) post A) args s 0 0 A) (F0 m 0 ls []) := by
  obtain ⟨hx, hb, hr, hml, hown, hts, hlocks, hK, hZ, hA⟩ := C
  unfold wq_Mk_has at h
  refine lv_aload_n hx hb d_Mk_has_0 rfl (lv_at hl 0 rfl) ?_
  refine va_get (D := D) (ci := 3) (C := R_Mk) (T := T_Mk) (N := 1) hx hb hts in_Mk hown hK hst.1 38 (WS_o38 g σ) rfl 0 (by decide) (hts _ gw294) (fun _ h9 => h9) rfl d_Mk_has_1 ?_
  refine lv_iconst (v := (2 : Int32)) hx hb d_Mk_has_4 (by decide) ?_
  refine lv_iload_n hx hb d_Mk_has_5 rfl (lv_at hl 1 rfl) ?_
  refine lv_imul hx hb d_Mk_has_6 ?_
  refine lv_iload_n hx hb d_Mk_has_7 rfl (lv_at hl 2 rfl) ?_
  refine lv_bipush (v := (6 : Int32)) hx hb d_Mk_has_8 (by decide) ?_
  refine lv_ishr hx hb d_Mk_has_10 ?_
  refine lv_iadd hx hb d_Mk_has_11 ?_
  obtain ⟨hi, h⟩ := h
  refine va_lald hx hb hK hst.1 39 3 (WS_a39 g σ) rfl hi d_Mk_has_12 ?_
  refine lv_iload_n hx hb d_Mk_has_13 rfl (lv_at hl 2 rfl) ?_
  refine lv_bipush (v := (63 : Int32)) hx hb d_Mk_has_14 (by decide) ?_
  refine lv_iand hx hb d_Mk_has_16 ?_
  refine lv_lushr hx hb d_Mk_has_17 rfl ?_
  refine lv_lconst (v := (1 : Int64)) hx hb d_Mk_has_18 (by decide) ?_
  refine lv_land hx hb d_Mk_has_19 ?_
  refine lv_lconst (v := (0 : Int64)) hx hb d_Mk_has_20 (by decide) ?_
  refine W.lcmp hx hb d_Mk_has_21 ?_
  refine lv_if_eq (tgt := 29) hx hb d_Mk_has_22 (by decide) (fun hc => ?_) (fun hc => ?_)
  · replace h := h.1 hc
    refine lv_iconst (v := (0 : Int32)) hx hb d_Mk_has_29 (by decide) ?_
    exact kw_zret hx hb hr hlocks hst h d_Mk_has_30
  · replace h := h.2 hc
    refine lv_iconst (v := (1 : Int32)) hx hb d_Mk_has_25 (by decide) ?_
    refine lv_goto (tgt := 30) hx hb d_Mk_has_26 (by decide) ?_
    exact kw_zret hx hb hr hlocks hst h d_Mk_has_30
set_option maxRecDepth 100000 in
set_option maxHeartbeats 4000000 in
theorem c_Mk_has_38 (l : Launch) {D : va_G} {g : Gm} {sz : Nat} (x1 : Int32) (x2 : Int32) {σ : Sg} {post : Int32 → Sg → Prop} (h : wq_Mk_has 38 x1 x2 σ post) : Met l y_Mk_has (.code y_Mk_has k_Mk_has 3 (some .boolean) :: GW) { frames := 0, cells := 0, slots := 0, locals := 0 } (PcW D vwCl (WS g) g (Zk g) σ sz [.ref (g.1 38), .int x1, .int x2]) (QiW D vwCl (WS g) post (va_A (WS g σ) sz)) 0 0 (va_A (WS g σ) sz) := by
  refine kw_entry (own := R_Mk) (by decide) rfl rfl (Nat.le_of_ble_eq_true rfl) ?_
  intro p e s m below meth c ls hsz C hin hl hst
  exact b_Mk_has_38_0 C x1 x2 σ _ _ ls hl hst h
set_option maxRecDepth 100000 in
set_option maxHeartbeats 4000000 in
theorem b_Mk_has_41_0 {p : Program} {l : Launch} {e : Env} {s : State} {m : MethodId} {args : Array Value} {below : List Frame} {meth : Method} {c : Code} {D : va_G} {g : Gm} {A : Nat → Prop} {post : Int32 → Sg → Prop} (C : kC p s m args meth c k_Mk_has 3 (some .boolean) GW R_Mk D vwCl g (Zk g) A) (x1 : Int32) (x2 : Int32) (σ : Sg) (H : Heap) (locs : List Loc) (ls : Array Slot) (hl : lv_has ls 3 [(0, .ref (g.1 41)), (1, .int x1), (2, .int x2)]) (hst : Wst D vwCl (WS g) A s σ H locs) (h : wq_Mk_has 41 x1 x2 σ post) : W p l e { frames := 0, cells := 0, slots := 0, locals := 0 } s m args below meth c H locs 0 0 (MQ below (QiW D vwCl (WS g) post A) args s 0 0 A) (F0 m 0 ls []) := by
  obtain ⟨hx, hb, hr, hml, hown, hts, hlocks, hK, hZ, hA⟩ := C
  unfold wq_Mk_has at h
  refine lv_aload_n hx hb d_Mk_has_0 rfl (lv_at hl 0 rfl) ?_
  refine va_get (D := D) (ci := 3) (C := R_Mk) (T := T_Mk) (N := 1) hx hb hts in_Mk hown hK hst.1 41 (WS_o41 g σ) rfl 0 (by decide) (hts _ gw294) (fun _ h9 => h9) rfl d_Mk_has_1 ?_
  refine lv_iconst (v := (2 : Int32)) hx hb d_Mk_has_4 (by decide) ?_
  refine lv_iload_n hx hb d_Mk_has_5 rfl (lv_at hl 1 rfl) ?_
  refine lv_imul hx hb d_Mk_has_6 ?_
  refine lv_iload_n hx hb d_Mk_has_7 rfl (lv_at hl 2 rfl) ?_
  refine lv_bipush (v := (6 : Int32)) hx hb d_Mk_has_8 (by decide) ?_
  refine lv_ishr hx hb d_Mk_has_10 ?_
  refine lv_iadd hx hb d_Mk_has_11 ?_
  obtain ⟨hi, h⟩ := h
  refine va_lald hx hb hK hst.1 42 3 (WS_a42 g σ) rfl hi d_Mk_has_12 ?_
  refine lv_iload_n hx hb d_Mk_has_13 rfl (lv_at hl 2 rfl) ?_
  refine lv_bipush (v := (63 : Int32)) hx hb d_Mk_has_14 (by decide) ?_
  refine lv_iand hx hb d_Mk_has_16 ?_
  refine lv_lushr hx hb d_Mk_has_17 rfl ?_
  refine lv_lconst (v := (1 : Int64)) hx hb d_Mk_has_18 (by decide) ?_
  refine lv_land hx hb d_Mk_has_19 ?_
  refine lv_lconst (v := (0 : Int64)) hx hb d_Mk_has_20 (by decide) ?_
  refine W.lcmp hx hb d_Mk_has_21 ?_
  refine lv_if_eq (tgt := 29) hx hb d_Mk_has_22 (by decide) (fun hc => ?_) (fun hc => ?_)
  · replace h := h.1 hc
    refine lv_iconst (v := (0 : Int32)) hx hb d_Mk_has_29 (by decide) ?_
    exact kw_zret hx hb hr hlocks hst h d_Mk_has_30
  · replace h := h.2 hc
    refine lv_iconst (v := (1 : Int32)) hx hb d_Mk_has_25 (by decide) ?_
    refine lv_goto (tgt := 30) hx hb d_Mk_has_26 (by decide) ?_
    exact kw_zret hx hb hr hlocks hst h d_Mk_has_30
set_option maxRecDepth 100000 in
set_option maxHeartbeats 4000000 in
theorem c_Mk_has_41 (l : Launch) {D : va_G} {g : Gm} {sz : Nat} (x1 : Int32) (x2 : Int32) {σ : Sg} {post : Int32 → Sg → Prop} (h : wq_Mk_has 41 x1 x2 σ post) : Met l y_Mk_has (.code y_Mk_has k_Mk_has 3 (some .boolean) :: GW) { frames := 0, cells := 0, slots := 0, locals := 0 } (PcW D vwCl (WS g) g (Zk g) σ sz [.ref (g.1 41), .int x1, .int x2]) (QiW D vwCl (WS g) post (va_A (WS g σ) sz)) 0 0 (va_A (WS g σ) sz) := by
  refine kw_entry (own := R_Mk) (by decide) rfl rfl (Nat.le_of_ble_eq_true rfl) ?_
  intro p e s m below meth c ls hsz C hin hl hst
  exact b_Mk_has_41_0 C x1 x2 σ _ _ ls hl hst h
set_option maxRecDepth 100000 in
set_option maxHeartbeats 4000000 in
theorem b_Mk_has_43_0 {p : Program} {l : Launch} {e : Env} {s : State} {m : MethodId} {args : Array Value} {below : List Frame} {meth : Method} {c : Code} {D : va_G} {g : Gm} {A : Nat → Prop} {post : Int32 → Sg → Prop} (C : kC p s m args meth c k_Mk_has 3 (some .boolean) GW R_Mk D vwCl g (Zk g) A) (x1 : Int32) (x2 : Int32) (σ : Sg) (H : Heap) (locs : List Loc) (ls : Array Slot) (hl : lv_has ls 3 [(0, .ref (g.1 43)), (1, .int x1), (2, .int x2)]) (hst : Wst D vwCl (WS g) A s σ H locs) (h : wq_Mk_has 43 x1 x2 σ post) : W p l e { frames := 0, cells := 0, slots := 0, locals := 0 } s m args below meth c H locs 0 0 (MQ below (QiW D vwCl (WS g) post A) args s 0 0 A) (F0 m 0 ls []) := by
  obtain ⟨hx, hb, hr, hml, hown, hts, hlocks, hK, hZ, hA⟩ := C
  unfold wq_Mk_has at h
  refine lv_aload_n hx hb d_Mk_has_0 rfl (lv_at hl 0 rfl) ?_
  refine va_get (D := D) (ci := 3) (C := R_Mk) (T := T_Mk) (N := 1) hx hb hts in_Mk hown hK hst.1 43 (WS_o43 g σ) rfl 0 (by decide) (hts _ gw294) (fun _ h9 => h9) rfl d_Mk_has_1 ?_
  refine lv_iconst (v := (2 : Int32)) hx hb d_Mk_has_4 (by decide) ?_
  refine lv_iload_n hx hb d_Mk_has_5 rfl (lv_at hl 1 rfl) ?_
  refine lv_imul hx hb d_Mk_has_6 ?_
  refine lv_iload_n hx hb d_Mk_has_7 rfl (lv_at hl 2 rfl) ?_
  refine lv_bipush (v := (6 : Int32)) hx hb d_Mk_has_8 (by decide) ?_
  refine lv_ishr hx hb d_Mk_has_10 ?_
  refine lv_iadd hx hb d_Mk_has_11 ?_
  obtain ⟨hi, h⟩ := h
  refine va_lald hx hb hK hst.1 44 3 (WS_a44 g σ) rfl hi d_Mk_has_12 ?_
  refine lv_iload_n hx hb d_Mk_has_13 rfl (lv_at hl 2 rfl) ?_
  refine lv_bipush (v := (63 : Int32)) hx hb d_Mk_has_14 (by decide) ?_
  refine lv_iand hx hb d_Mk_has_16 ?_
  refine lv_lushr hx hb d_Mk_has_17 rfl ?_
  refine lv_lconst (v := (1 : Int64)) hx hb d_Mk_has_18 (by decide) ?_
  refine lv_land hx hb d_Mk_has_19 ?_
  refine lv_lconst (v := (0 : Int64)) hx hb d_Mk_has_20 (by decide) ?_
  refine W.lcmp hx hb d_Mk_has_21 ?_
  refine lv_if_eq (tgt := 29) hx hb d_Mk_has_22 (by decide) (fun hc => ?_) (fun hc => ?_)
  · replace h := h.1 hc
    refine lv_iconst (v := (0 : Int32)) hx hb d_Mk_has_29 (by decide) ?_
    exact kw_zret hx hb hr hlocks hst h d_Mk_has_30
  · replace h := h.2 hc
    refine lv_iconst (v := (1 : Int32)) hx hb d_Mk_has_25 (by decide) ?_
    refine lv_goto (tgt := 30) hx hb d_Mk_has_26 (by decide) ?_
    exact kw_zret hx hb hr hlocks hst h d_Mk_has_30
set_option maxRecDepth 100000 in
set_option maxHeartbeats 4000000 in
theorem c_Mk_has_43 (l : Launch) {D : va_G} {g : Gm} {sz : Nat} (x1 : Int32) (x2 : Int32) {σ : Sg} {post : Int32 → Sg → Prop} (h : wq_Mk_has 43 x1 x2 σ post) : Met l y_Mk_has (.code y_Mk_has k_Mk_has 3 (some .boolean) :: GW) { frames := 0, cells := 0, slots := 0, locals := 0 } (PcW D vwCl (WS g) g (Zk g) σ sz [.ref (g.1 43), .int x1, .int x2]) (QiW D vwCl (WS g) post (va_A (WS g σ) sz)) 0 0 (va_A (WS g σ) sz) := by
  refine kw_entry (own := R_Mk) (by decide) rfl rfl (Nat.le_of_ble_eq_true rfl) ?_
  intro p e s m below meth c ls hsz C hin hl hst
  exact b_Mk_has_43_0 C x1 x2 σ _ _ ls hl hst h
set_option maxRecDepth 100000 in
set_option maxHeartbeats 4000000 in
theorem b_Mk_has_49_0 {p : Program} {l : Launch} {e : Env} {s : State} {m : MethodId} {args : Array Value} {below : List Frame} {meth : Method} {c : Code} {D : va_G} {g : Gm} {A : Nat → Prop} {post : Int32 → Sg → Prop} (C : kC p s m args meth c k_Mk_has 3 (some .boolean) GW R_Mk D vwCl g (Zk g) A) (x1 : Int32) (x2 : Int32) (σ : Sg) (H : Heap) (locs : List Loc) (ls : Array Slot) (hl : lv_has ls 3 [(0, .ref (g.1 49)), (1, .int x1), (2, .int x2)]) (hst : Wst D vwCl (WS g) A s σ H locs) (h : wq_Mk_has 49 x1 x2 σ post) : W p l e { frames := 0, cells := 0, slots := 0, locals := 0 } s m args below meth c H locs 0 0 (MQ below (QiW D vwCl (WS g) post A) args s 0 0 A) (F0 m 0 ls []) := by
  obtain ⟨hx, hb, hr, hml, hown, hts, hlocks, hK, hZ, hA⟩ := C
  unfold wq_Mk_has at h
  refine lv_aload_n hx hb d_Mk_has_0 rfl (lv_at hl 0 rfl) ?_
  refine va_get (D := D) (ci := 3) (C := R_Mk) (T := T_Mk) (N := 1) hx hb hts in_Mk hown hK hst.1 49 (WS_o49 g σ) rfl 0 (by decide) (hts _ gw294) (fun _ h9 => h9) rfl d_Mk_has_1 ?_
  refine lv_iconst (v := (2 : Int32)) hx hb d_Mk_has_4 (by decide) ?_
  refine lv_iload_n hx hb d_Mk_has_5 rfl (lv_at hl 1 rfl) ?_
  refine lv_imul hx hb d_Mk_has_6 ?_
  refine lv_iload_n hx hb d_Mk_has_7 rfl (lv_at hl 2 rfl) ?_
  refine lv_bipush (v := (6 : Int32)) hx hb d_Mk_has_8 (by decide) ?_
  refine lv_ishr hx hb d_Mk_has_10 ?_
  refine lv_iadd hx hb d_Mk_has_11 ?_
  obtain ⟨hi, h⟩ := h
  refine va_lald hx hb hK hst.1 50 3 (WS_a50 g σ) rfl hi d_Mk_has_12 ?_
  refine lv_iload_n hx hb d_Mk_has_13 rfl (lv_at hl 2 rfl) ?_
  refine lv_bipush (v := (63 : Int32)) hx hb d_Mk_has_14 (by decide) ?_
  refine lv_iand hx hb d_Mk_has_16 ?_
  refine lv_lushr hx hb d_Mk_has_17 rfl ?_
  refine lv_lconst (v := (1 : Int64)) hx hb d_Mk_has_18 (by decide) ?_
  refine lv_land hx hb d_Mk_has_19 ?_
  refine lv_lconst (v := (0 : Int64)) hx hb d_Mk_has_20 (by decide) ?_
  refine W.lcmp hx hb d_Mk_has_21 ?_
  refine lv_if_eq (tgt := 29) hx hb d_Mk_has_22 (by decide) (fun hc => ?_) (fun hc => ?_)
  · replace h := h.1 hc
    refine lv_iconst (v := (0 : Int32)) hx hb d_Mk_has_29 (by decide) ?_
    exact kw_zret hx hb hr hlocks hst h d_Mk_has_30
  · replace h := h.2 hc
    refine lv_iconst (v := (1 : Int32)) hx hb d_Mk_has_25 (by decide) ?_
    refine lv_goto (tgt := 30) hx hb d_Mk_has_26 (by decide) ?_
    exact kw_zret hx hb hr hlocks hst h d_Mk_has_30
set_option maxRecDepth 100000 in
set_option maxHeartbeats 4000000 in
theorem c_Mk_has_49 (l : Launch) {D : va_G} {g : Gm} {sz : Nat} (x1 : Int32) (x2 : Int32) {σ : Sg} {post : Int32 → Sg → Prop} (h : wq_Mk_has 49 x1 x2 σ post) : Met l y_Mk_has (.code y_Mk_has k_Mk_has 3 (some .boolean) :: GW) { frames := 0, cells := 0, slots := 0, locals := 0 } (PcW D vwCl (WS g) g (Zk g) σ sz [.ref (g.1 49), .int x1, .int x2]) (QiW D vwCl (WS g) post (va_A (WS g σ) sz)) 0 0 (va_A (WS g σ) sz) := by
  refine kw_entry (own := R_Mk) (by decide) rfl rfl (Nat.le_of_ble_eq_true rfl) ?_
  intro p e s m below meth c ls hsz C hin hl hst
  exact b_Mk_has_49_0 C x1 x2 σ _ _ ls hl hst h
/-! SchemaDesk$Marks.put (II)V -/
abbrev k_Mk_put : ByteArray := prog_2_method_4_code
abbrev y_Mk_put : MethodName := ⟨"SchemaDesk$Marks", "put", "(II)V"⟩
theorem d_Mk_put_0 : decode k_Mk_put 0 = .ok (.aload_n 0, 1) := by decide +kernel
theorem d_Mk_put_1 : decode k_Mk_put 1 = .ok (.getfield 9, 3) := by decide +kernel
theorem d_Mk_put_4 : decode k_Mk_put 4 = .ok (.iconst 2, 1) := by decide +kernel
theorem d_Mk_put_5 : decode k_Mk_put 5 = .ok (.iload_n 1, 1) := by decide +kernel
theorem d_Mk_put_6 : decode k_Mk_put 6 = .ok (.imul, 1) := by decide +kernel
theorem d_Mk_put_7 : decode k_Mk_put 7 = .ok (.iload_n 2, 1) := by decide +kernel
theorem d_Mk_put_8 : decode k_Mk_put 8 = .ok (.bipush 6, 2) := by decide +kernel
theorem d_Mk_put_10 : decode k_Mk_put 10 = .ok (.ishr, 1) := by decide +kernel
theorem d_Mk_put_11 : decode k_Mk_put 11 = .ok (.iadd, 1) := by decide +kernel
theorem d_Mk_put_12 : decode k_Mk_put 12 = .ok (.dup2, 1) := by decide +kernel
theorem d_Mk_put_13 : decode k_Mk_put 13 = .ok (.laload, 1) := by decide +kernel
theorem d_Mk_put_14 : decode k_Mk_put 14 = .ok (.lconst 1, 1) := by decide +kernel
theorem d_Mk_put_15 : decode k_Mk_put 15 = .ok (.iload_n 2, 1) := by decide +kernel
theorem d_Mk_put_16 : decode k_Mk_put 16 = .ok (.bipush 63, 2) := by decide +kernel
theorem d_Mk_put_18 : decode k_Mk_put 18 = .ok (.iand, 1) := by decide +kernel
theorem d_Mk_put_19 : decode k_Mk_put 19 = .ok (.lshl, 1) := by decide +kernel
theorem d_Mk_put_20 : decode k_Mk_put 20 = .ok (.lor, 1) := by decide +kernel
theorem d_Mk_put_21 : decode k_Mk_put 21 = .ok (.lastore, 1) := by decide +kernel
theorem d_Mk_put_22 : decode k_Mk_put 22 = .ok (.return_, 1) := by decide +kernel
def wq_Mk_put (b : Nat) (x1 : Int32) (x2 : Int32) (σ : Sg) (post : Sg → Prop) : Prop := (vp_in (((2 : Int32) * x1) + (x2 >>> ((6 : Int32) &&& 31))) 320 ∧ (vp_in (((2 : Int32) * x1) + (x2 >>> ((6 : Int32) &&& 31))) 320 ∧ (∀ σ1, σ1 = sl σ (b + 1) ((((2 : Int32) * x1) + (x2 >>> ((6 : Int32) &&& 31))) : Int32).toNatClampNeg ((σ.2.1 (b + 1) ((((2 : Int32) * x1) + (x2 >>> ((6 : Int32) &&& 31))) : Int32).toNatClampNeg) ||| ((1 : Int64) <<< (((x2 &&& (63 : Int32)) : Int32).toInt64 &&& 63))) → post σ1)))
set_option maxRecDepth 100000 in
set_option maxHeartbeats 4000000 in
theorem b_Mk_put_36_0 {p : Program} {l : Launch} {e : Env} {s : State} {m : MethodId} {args : Array Value} {below : List Frame} {meth : Method} {c : Code} {D : va_G} {g : Gm} {A : Nat → Prop} {post : Sg → Prop} (C : kC p s m args meth c k_Mk_put 3 (none) GW R_Mk D vwCl g (Zk g) A) (x1 : Int32) (x2 : Int32) (σ : Sg) (H : Heap) (locs : List Loc) (ls : Array Slot) (hl : lv_has ls 3 [(0, .ref (g.1 36)), (1, .int x1), (2, .int x2)]) (hst : Wst D vwCl (WS g) A s σ H locs) (h : wq_Mk_put 36 x1 x2 σ post) : W p l e { frames := 0, cells := 0, slots := 0, locals := 0 } s m args below meth c H locs 0 0 (MQ below (QvW D vwCl (WS g) post A) args s 0 0 A) (F0 m 0 ls []) := by
  obtain ⟨hx, hb, hr, hml, hown, hts, hlocks, hK, hZ, hA⟩ := C
  unfold wq_Mk_put at h
  refine lv_aload_n hx hb d_Mk_put_0 rfl (lv_at hl 0 rfl) ?_
  refine va_get (D := D) (ci := 3) (C := R_Mk) (T := T_Mk) (N := 1) hx hb hts in_Mk hown hK hst.1 36 (WS_o36 g σ) rfl 0 (by decide) (hts _ gw294) (fun _ h9 => h9) rfl d_Mk_put_1 ?_
  refine lv_iconst (v := (2 : Int32)) hx hb d_Mk_put_4 (by decide) ?_
  refine lv_iload_n hx hb d_Mk_put_5 rfl (lv_at hl 1 rfl) ?_
  refine lv_imul hx hb d_Mk_put_6 ?_
  refine lv_iload_n hx hb d_Mk_put_7 rfl (lv_at hl 2 rfl) ?_
  refine lv_bipush (v := (6 : Int32)) hx hb d_Mk_put_8 (by decide) ?_
  refine lv_ishr hx hb d_Mk_put_10 ?_
  refine lv_iadd hx hb d_Mk_put_11 ?_
  refine lv_dup2_11 hx hb d_Mk_put_12 rfl rfl ?_
  obtain ⟨hi, h⟩ := h
  refine va_lald hx hb hK hst.1 37 3 (WS_a37 g σ) rfl hi d_Mk_put_13 ?_
  refine lv_lconst (v := (1 : Int64)) hx hb d_Mk_put_14 (by decide) ?_
  refine lv_iload_n hx hb d_Mk_put_15 rfl (lv_at hl 2 rfl) ?_
  refine lv_bipush (v := (63 : Int32)) hx hb d_Mk_put_16 (by decide) ?_
  refine lv_iand hx hb d_Mk_put_18 ?_
  refine lv_lshl hx hb d_Mk_put_19 rfl ?_
  refine lv_lor hx hb d_Mk_put_20 ?_
  obtain ⟨hi, h⟩ := h
  refine kw_last hx hb hK hst 37 (WS_a37 g σ) hi (WS_s37 g σ _ _) d_Mk_put_21 (fun σ1 H locs e1 hst => ?_)
  replace h := h σ1 e1
  exact kw_vret hx hb hr hlocks hst h d_Mk_put_22
set_option maxRecDepth 100000 in
set_option maxHeartbeats 4000000 in
theorem c_Mk_put_36 (l : Launch) {D : va_G} {g : Gm} {sz : Nat} (x1 : Int32) (x2 : Int32) {σ : Sg} {post : Sg → Prop} (h : wq_Mk_put 36 x1 x2 σ post) : Met l y_Mk_put (.code y_Mk_put k_Mk_put 3 (none) :: GW) { frames := 0, cells := 0, slots := 0, locals := 0 } (PcW D vwCl (WS g) g (Zk g) σ sz [.ref (g.1 36), .int x1, .int x2]) (QvW D vwCl (WS g) post (va_A (WS g σ) sz)) 0 0 (va_A (WS g σ) sz) := by
  refine kw_entry (own := R_Mk) (by decide) rfl rfl (Nat.le_of_ble_eq_true rfl) ?_
  intro p e s m below meth c ls hsz C hin hl hst
  exact b_Mk_put_36_0 C x1 x2 σ _ _ ls hl hst h
set_option maxRecDepth 100000 in
set_option maxHeartbeats 4000000 in
theorem b_Mk_put_38_0 {p : Program} {l : Launch} {e : Env} {s : State} {m : MethodId} {args : Array Value} {below : List Frame} {meth : Method} {c : Code} {D : va_G} {g : Gm} {A : Nat → Prop} {post : Sg → Prop} (C : kC p s m args meth c k_Mk_put 3 (none) GW R_Mk D vwCl g (Zk g) A) (x1 : Int32) (x2 : Int32) (σ : Sg) (H : Heap) (locs : List Loc) (ls : Array Slot) (hl : lv_has ls 3 [(0, .ref (g.1 38)), (1, .int x1), (2, .int x2)]) (hst : Wst D vwCl (WS g) A s σ H locs) (h : wq_Mk_put 38 x1 x2 σ post) : W p l e { frames := 0, cells := 0, slots := 0, locals := 0 } s m args below meth c H locs 0 0 (MQ below (QvW D vwCl (WS g) post A) args s 0 0 A) (F0 m 0 ls []) := by
  obtain ⟨hx, hb, hr, hml, hown, hts, hlocks, hK, hZ, hA⟩ := C
  unfold wq_Mk_put at h
  refine lv_aload_n hx hb d_Mk_put_0 rfl (lv_at hl 0 rfl) ?_
  refine va_get (D := D) (ci := 3) (C := R_Mk) (T := T_Mk) (N := 1) hx hb hts in_Mk hown hK hst.1 38 (WS_o38 g σ) rfl 0 (by decide) (hts _ gw294) (fun _ h9 => h9) rfl d_Mk_put_1 ?_
  refine lv_iconst (v := (2 : Int32)) hx hb d_Mk_put_4 (by decide) ?_
  refine lv_iload_n hx hb d_Mk_put_5 rfl (lv_at hl 1 rfl) ?_
  refine lv_imul hx hb d_Mk_put_6 ?_
  refine lv_iload_n hx hb d_Mk_put_7 rfl (lv_at hl 2 rfl) ?_
  refine lv_bipush (v := (6 : Int32)) hx hb d_Mk_put_8 (by decide) ?_
  refine lv_ishr hx hb d_Mk_put_10 ?_
  refine lv_iadd hx hb d_Mk_put_11 ?_
  refine lv_dup2_11 hx hb d_Mk_put_12 rfl rfl ?_
  obtain ⟨hi, h⟩ := h
  refine va_lald hx hb hK hst.1 39 3 (WS_a39 g σ) rfl hi d_Mk_put_13 ?_
  refine lv_lconst (v := (1 : Int64)) hx hb d_Mk_put_14 (by decide) ?_
  refine lv_iload_n hx hb d_Mk_put_15 rfl (lv_at hl 2 rfl) ?_
  refine lv_bipush (v := (63 : Int32)) hx hb d_Mk_put_16 (by decide) ?_
  refine lv_iand hx hb d_Mk_put_18 ?_
  refine lv_lshl hx hb d_Mk_put_19 rfl ?_
  refine lv_lor hx hb d_Mk_put_20 ?_
  obtain ⟨hi, h⟩ := h
  refine kw_last hx hb hK hst 39 (WS_a39 g σ) hi (WS_s39 g σ _ _) d_Mk_put_21 (fun σ1 H locs e1 hst => ?_)
  replace h := h σ1 e1
  exact kw_vret hx hb hr hlocks hst h d_Mk_put_22
set_option maxRecDepth 100000 in
set_option maxHeartbeats 4000000 in
theorem c_Mk_put_38 (l : Launch) {D : va_G} {g : Gm} {sz : Nat} (x1 : Int32) (x2 : Int32) {σ : Sg} {post : Sg → Prop} (h : wq_Mk_put 38 x1 x2 σ post) : Met l y_Mk_put (.code y_Mk_put k_Mk_put 3 (none) :: GW) { frames := 0, cells := 0, slots := 0, locals := 0 } (PcW D vwCl (WS g) g (Zk g) σ sz [.ref (g.1 38), .int x1, .int x2]) (QvW D vwCl (WS g) post (va_A (WS g σ) sz)) 0 0 (va_A (WS g σ) sz) := by
  refine kw_entry (own := R_Mk) (by decide) rfl rfl (Nat.le_of_ble_eq_true rfl) ?_
  intro p e s m below meth c ls hsz C hin hl hst
  exact b_Mk_put_38_0 C x1 x2 σ _ _ ls hl hst h
set_option maxRecDepth 100000 in
set_option maxHeartbeats 4000000 in
theorem b_Mk_put_41_0 {p : Program} {l : Launch} {e : Env} {s : State} {m : MethodId} {args : Array Value} {below : List Frame} {meth : Method} {c : Code} {D : va_G} {g : Gm} {A : Nat → Prop} {post : Sg → Prop} (C : kC p s m args meth c k_Mk_put 3 (none) GW R_Mk D vwCl g (Zk g) A) (x1 : Int32) (x2 : Int32) (σ : Sg) (H : Heap) (locs : List Loc) (ls : Array Slot) (hl : lv_has ls 3 [(0, .ref (g.1 41)), (1, .int x1), (2, .int x2)]) (hst : Wst D vwCl (WS g) A s σ H locs) (h : wq_Mk_put 41 x1 x2 σ post) : W p l e { frames := 0, cells := 0, slots := 0, locals := 0 } s m args below meth c H locs 0 0 (MQ below (QvW D vwCl (WS g) post A) args s 0 0 A) (F0 m 0 ls []) := by
  obtain ⟨hx, hb, hr, hml, hown, hts, hlocks, hK, hZ, hA⟩ := C
  unfold wq_Mk_put at h
  refine lv_aload_n hx hb d_Mk_put_0 rfl (lv_at hl 0 rfl) ?_
  refine va_get (D := D) (ci := 3) (C := R_Mk) (T := T_Mk) (N := 1) hx hb hts in_Mk hown hK hst.1 41 (WS_o41 g σ) rfl 0 (by decide) (hts _ gw294) (fun _ h9 => h9) rfl d_Mk_put_1 ?_
  refine lv_iconst (v := (2 : Int32)) hx hb d_Mk_put_4 (by decide) ?_
  refine lv_iload_n hx hb d_Mk_put_5 rfl (lv_at hl 1 rfl) ?_
  refine lv_imul hx hb d_Mk_put_6 ?_
  refine lv_iload_n hx hb d_Mk_put_7 rfl (lv_at hl 2 rfl) ?_
  refine lv_bipush (v := (6 : Int32)) hx hb d_Mk_put_8 (by decide) ?_
  refine lv_ishr hx hb d_Mk_put_10 ?_
  refine lv_iadd hx hb d_Mk_put_11 ?_
  refine lv_dup2_11 hx hb d_Mk_put_12 rfl rfl ?_
  obtain ⟨hi, h⟩ := h
  refine va_lald hx hb hK hst.1 42 3 (WS_a42 g σ) rfl hi d_Mk_put_13 ?_
  refine lv_lconst (v := (1 : Int64)) hx hb d_Mk_put_14 (by decide) ?_
  refine lv_iload_n hx hb d_Mk_put_15 rfl (lv_at hl 2 rfl) ?_
  refine lv_bipush (v := (63 : Int32)) hx hb d_Mk_put_16 (by decide) ?_
  refine lv_iand hx hb d_Mk_put_18 ?_
  refine lv_lshl hx hb d_Mk_put_19 rfl ?_
  refine lv_lor hx hb d_Mk_put_20 ?_
  obtain ⟨hi, h⟩ := h
  refine kw_last hx hb hK hst 42 (WS_a42 g σ) hi (WS_s42 g σ _ _) d_Mk_put_21 (fun σ1 H locs e1 hst => ?_)
  replace h := h σ1 e1
  exact kw_vret hx hb hr hlocks hst h d_Mk_put_22
set_option maxRecDepth 100000 in
set_option maxHeartbeats 4000000 in
theorem c_Mk_put_41 (l : Launch) {D : va_G} {g : Gm} {sz : Nat} (x1 : Int32) (x2 : Int32) {σ : Sg} {post : Sg → Prop} (h : wq_Mk_put 41 x1 x2 σ post) : Met l y_Mk_put (.code y_Mk_put k_Mk_put 3 (none) :: GW) { frames := 0, cells := 0, slots := 0, locals := 0 } (PcW D vwCl (WS g) g (Zk g) σ sz [.ref (g.1 41), .int x1, .int x2]) (QvW D vwCl (WS g) post (va_A (WS g σ) sz)) 0 0 (va_A (WS g σ) sz) := by
  refine kw_entry (own := R_Mk) (by decide) rfl rfl (Nat.le_of_ble_eq_true rfl) ?_
  intro p e s m below meth c ls hsz C hin hl hst
  exact b_Mk_put_41_0 C x1 x2 σ _ _ ls hl hst h
set_option maxRecDepth 100000 in
set_option maxHeartbeats 4000000 in
theorem b_Mk_put_43_0 {p : Program} {l : Launch} {e : Env} {s : State} {m : MethodId} {args : Array Value} {below : List Frame} {meth : Method} {c : Code} {D : va_G} {g : Gm} {A : Nat → Prop} {post : Sg → Prop} (C : kC p s m args meth c k_Mk_put 3 (none) GW R_Mk D vwCl g (Zk g) A) (x1 : Int32) (x2 : Int32) (σ : Sg) (H : Heap) (locs : List Loc) (ls : Array Slot) (hl : lv_has ls 3 [(0, .ref (g.1 43)), (1, .int x1), (2, .int x2)]) (hst : Wst D vwCl (WS g) A s σ H locs) (h : wq_Mk_put 43 x1 x2 σ post) : W p l e { frames := 0, cells := 0, slots := 0, locals := 0 } s m args below meth c H locs 0 0 (MQ below (QvW D vwCl (WS g) post A) args s 0 0 A) (F0 m 0 ls []) := by
  obtain ⟨hx, hb, hr, hml, hown, hts, hlocks, hK, hZ, hA⟩ := C
  unfold wq_Mk_put at h
  refine lv_aload_n hx hb d_Mk_put_0 rfl (lv_at hl 0 rfl) ?_
  refine va_get (D := D) (ci := 3) (C := R_Mk) (T := T_Mk) (N := 1) hx hb hts in_Mk hown hK hst.1 43 (WS_o43 g σ) rfl 0 (by decide) (hts _ gw294) (fun _ h9 => h9) rfl d_Mk_put_1 ?_
  refine lv_iconst (v := (2 : Int32)) hx hb d_Mk_put_4 (by decide) ?_
  refine lv_iload_n hx hb d_Mk_put_5 rfl (lv_at hl 1 rfl) ?_
  refine lv_imul hx hb d_Mk_put_6 ?_
  refine lv_iload_n hx hb d_Mk_put_7 rfl (lv_at hl 2 rfl) ?_
  refine lv_bipush (v := (6 : Int32)) hx hb d_Mk_put_8 (by decide) ?_
  refine lv_ishr hx hb d_Mk_put_10 ?_
  refine lv_iadd hx hb d_Mk_put_11 ?_
  refine lv_dup2_11 hx hb d_Mk_put_12 rfl rfl ?_
  obtain ⟨hi, h⟩ := h
  refine va_lald hx hb hK hst.1 44 3 (WS_a44 g σ) rfl hi d_Mk_put_13 ?_
  refine lv_lconst (v := (1 : Int64)) hx hb d_Mk_put_14 (by decide) ?_
  refine lv_iload_n hx hb d_Mk_put_15 rfl (lv_at hl 2 rfl) ?_
  refine lv_bipush (v := (63 : Int32)) hx hb d_Mk_put_16 (by decide) ?_
  refine lv_iand hx hb d_Mk_put_18 ?_
  refine lv_lshl hx hb d_Mk_put_19 rfl ?_
  refine lv_lor hx hb d_Mk_put_20 ?_
  obtain ⟨hi, h⟩ := h
  refine kw_last hx hb hK hst 44 (WS_a44 g σ) hi (WS_s44 g σ _ _) d_Mk_put_21 (fun σ1 H locs e1 hst => ?_)
  replace h := h σ1 e1
  exact kw_vret hx hb hr hlocks hst h d_Mk_put_22
set_option maxRecDepth 100000 in
set_option maxHeartbeats 4000000 in
theorem c_Mk_put_43 (l : Launch) {D : va_G} {g : Gm} {sz : Nat} (x1 : Int32) (x2 : Int32) {σ : Sg} {post : Sg → Prop} (h : wq_Mk_put 43 x1 x2 σ post) : Met l y_Mk_put (.code y_Mk_put k_Mk_put 3 (none) :: GW) { frames := 0, cells := 0, slots := 0, locals := 0 } (PcW D vwCl (WS g) g (Zk g) σ sz [.ref (g.1 43), .int x1, .int x2]) (QvW D vwCl (WS g) post (va_A (WS g σ) sz)) 0 0 (va_A (WS g σ) sz) := by
  refine kw_entry (own := R_Mk) (by decide) rfl rfl (Nat.le_of_ble_eq_true rfl) ?_
  intro p e s m below meth c ls hsz C hin hl hst
  exact b_Mk_put_43_0 C x1 x2 σ _ _ ls hl hst h
set_option maxRecDepth 100000 in
set_option maxHeartbeats 4000000 in
theorem b_Mk_put_49_0 {p : Program} {l : Launch} {e : Env} {s : State} {m : MethodId} {args : Array Value} {below : List Frame} {meth : Method} {c : Code} {D : va_G} {g : Gm} {A : Nat → Prop} {post : Sg → Prop} (C : kC p s m args meth c k_Mk_put 3 (none) GW R_Mk D vwCl g (Zk g) A) (x1 : Int32) (x2 : Int32) (σ : Sg) (H : Heap) (locs : List Loc) (ls : Array Slot) (hl : lv_has ls 3 [(0, .ref (g.1 49)), (1, .int x1), (2, .int x2)]) (hst : Wst D vwCl (WS g) A s σ H locs) (h : wq_Mk_put 49 x1 x2 σ post) : W p l e { frames := 0, cells := 0, slots := 0, locals := 0 } s m args below meth c H locs 0 0 (MQ below (QvW D vwCl (WS g) post A) args s 0 0 A) (F0 m 0 ls []) := by
  obtain ⟨hx, hb, hr, hml, hown, hts, hlocks, hK, hZ, hA⟩ := C
  unfold wq_Mk_put at h
  refine lv_aload_n hx hb d_Mk_put_0 rfl (lv_at hl 0 rfl) ?_
  refine va_get (D := D) (ci := 3) (C := R_Mk) (T := T_Mk) (N := 1) hx hb hts in_Mk hown hK hst.1 49 (WS_o49 g σ) rfl 0 (by decide) (hts _ gw294) (fun _ h9 => h9) rfl d_Mk_put_1 ?_
  refine lv_iconst (v := (2 : Int32)) hx hb d_Mk_put_4 (by decide) ?_
  refine lv_iload_n hx hb d_Mk_put_5 rfl (lv_at hl 1 rfl) ?_
  refine lv_imul hx hb d_Mk_put_6 ?_
  refine lv_iload_n hx hb d_Mk_put_7 rfl (lv_at hl 2 rfl) ?_
  refine lv_bipush (v := (6 : Int32)) hx hb d_Mk_put_8 (by decide) ?_
  refine lv_ishr hx hb d_Mk_put_10 ?_
  refine lv_iadd hx hb d_Mk_put_11 ?_
  refine lv_dup2_11 hx hb d_Mk_put_12 rfl rfl ?_
  obtain ⟨hi, h⟩ := h
  refine va_lald hx hb hK hst.1 50 3 (WS_a50 g σ) rfl hi d_Mk_put_13 ?_
  refine lv_lconst (v := (1 : Int64)) hx hb d_Mk_put_14 (by decide) ?_
  refine lv_iload_n hx hb d_Mk_put_15 rfl (lv_at hl 2 rfl) ?_
  refine lv_bipush (v := (63 : Int32)) hx hb d_Mk_put_16 (by decide) ?_
  refine lv_iand hx hb d_Mk_put_18 ?_
  refine lv_lshl hx hb d_Mk_put_19 rfl ?_
  refine lv_lor hx hb d_Mk_put_20 ?_
  obtain ⟨hi, h⟩ := h
  refine kw_last hx hb hK hst 50 (WS_a50 g σ) hi (WS_s50 g σ _ _) d_Mk_put_21 (fun σ1 H locs e1 hst => ?_)
  replace h := h σ1 e1
  exact kw_vret hx hb hr hlocks hst h d_Mk_put_22
set_option maxRecDepth 100000 in
set_option maxHeartbeats 4000000 in
theorem c_Mk_put_49 (l : Launch) {D : va_G} {g : Gm} {sz : Nat} (x1 : Int32) (x2 : Int32) {σ : Sg} {post : Sg → Prop} (h : wq_Mk_put 49 x1 x2 σ post) : Met l y_Mk_put (.code y_Mk_put k_Mk_put 3 (none) :: GW) { frames := 0, cells := 0, slots := 0, locals := 0 } (PcW D vwCl (WS g) g (Zk g) σ sz [.ref (g.1 49), .int x1, .int x2]) (QvW D vwCl (WS g) post (va_A (WS g σ) sz)) 0 0 (va_A (WS g σ) sz) := by
  refine kw_entry (own := R_Mk) (by decide) rfl rfl (Nat.le_of_ble_eq_true rfl) ?_
  intro p e s m below meth c ls hsz C hin hl hst
  exact b_Mk_put_49_0 C x1 x2 σ _ _ ls hl hst h
/-! SchemaDesk$Tree.clear ()V -/
abbrev k_Tr_clear : ByteArray := prog_8_method_2_code
abbrev y_Tr_clear : MethodName := ⟨"SchemaDesk$Tree", "clear", "()V"⟩
theorem d_Tr_clear_0 : decode k_Tr_clear 0 = .ok (.aload_n 0, 1) := by decide +kernel
theorem d_Tr_clear_1 : decode k_Tr_clear 1 = .ok (.iconst 0, 1) := by decide +kernel
theorem d_Tr_clear_2 : decode k_Tr_clear 2 = .ok (.putfield 49, 3) := by decide +kernel
theorem d_Tr_clear_5 : decode k_Tr_clear 5 = .ok (.aload_n 0, 1) := by decide +kernel
theorem d_Tr_clear_6 : decode k_Tr_clear 6 = .ok (.iconst 0, 1) := by decide +kernel
theorem d_Tr_clear_7 : decode k_Tr_clear 7 = .ok (.putfield 53, 3) := by decide +kernel
theorem d_Tr_clear_10 : decode k_Tr_clear 10 = .ok (.return_, 1) := by decide +kernel
theorem gw168 : (Jvm.Cond.fieldLink "SchemaDesk$Tree" (49 : Nat) "SchemaDesk$Tree" "size" "I") ∈ GW := gw_t1 (List.mem_of_getElem? (i := 168) rfl) rfl
theorem gw175 : (Jvm.Cond.fieldLink "SchemaDesk$Tree" (53 : Nat) "SchemaDesk$Tree" "faultCount" "I") ∈ GW := gw_t1 (List.mem_of_getElem? (i := 175) rfl) rfl
def wq_Tr_clear (b : Nat) (σ : Sg) (post : Sg → Prop) : Prop := (∀ σ1, σ1 = si σ b 9 (0 : Int32) → (∀ σ2, σ2 = si σ1 b 11 (0 : Int32) → post σ2))
set_option maxRecDepth 100000 in
set_option maxHeartbeats 4000000 in
theorem b_Tr_clear_0_0 {p : Program} {l : Launch} {e : Env} {s : State} {m : MethodId} {args : Array Value} {below : List Frame} {meth : Method} {c : Code} {D : va_G} {g : Gm} {A : Nat → Prop} {post : Sg → Prop} (C : kC p s m args meth c k_Tr_clear 1 (none) GW R_Tr D vwCl g (Zk g) A) (σ : Sg) (H : Heap) (locs : List Loc) (ls : Array Slot) (hl : lv_has ls 1 [(0, .ref (g.1 0))]) (hst : Wst D vwCl (WS g) A s σ H locs) (h : wq_Tr_clear 0  σ post) : W p l e { frames := 0, cells := 0, slots := 0, locals := 0 } s m args below meth c H locs 0 0 (MQ below (QvW D vwCl (WS g) post A) args s 0 0 A) (F0 m 0 ls []) := by
  obtain ⟨hx, hb, hr, hml, hown, hts, hlocks, hK, hZ, hA⟩ := C
  unfold wq_Tr_clear at h
  refine lv_aload_n hx hb d_Tr_clear_0 rfl (lv_at hl 0 rfl) ?_
  refine lv_iconst (v := (0 : Int32)) hx hb d_Tr_clear_1 (by decide) ?_
  refine kw_put (D := D) (ci := 0) (ty := .int) (C := R_Tr) (T := T_Tr) (N := 12) hx hb hts in_Tr ty_Tr ty_Tr_ok nm_Tr hown hK hst 0 (WS_o0 g σ) rfl 9 (by decide) (hts _ gw168) (fun _ h9 => h9) rfl (by decide +kernel) rfl rfl (Nat.le_of_ble_eq_true rfl) (WS_p0_9 g σ _) d_Tr_clear_2 (fun σ1 H locs e1 hst => ?_)
  replace h := h σ1 e1
  refine lv_aload_n hx hb d_Tr_clear_5 rfl (lv_at hl 0 rfl) ?_
  refine lv_iconst (v := (0 : Int32)) hx hb d_Tr_clear_6 (by decide) ?_
  refine kw_put (D := D) (ci := 0) (ty := .int) (C := R_Tr) (T := T_Tr) (N := 12) hx hb hts in_Tr ty_Tr ty_Tr_ok nm_Tr hown hK hst 0 (WS_o0 g σ1) rfl 11 (by decide) (hts _ gw175) (fun _ h9 => h9) rfl (by decide +kernel) rfl rfl (Nat.le_of_ble_eq_true rfl) (WS_p0_11 g σ1 _) d_Tr_clear_7 (fun σ2 H locs e2 hst => ?_)
  replace h := h σ2 e2
  exact kw_vret hx hb hr hlocks hst h d_Tr_clear_10
set_option maxRecDepth 100000 in
set_option maxHeartbeats 4000000 in
theorem c_Tr_clear_0 (l : Launch) {D : va_G} {g : Gm} {sz : Nat} {σ : Sg} {post : Sg → Prop} (h : wq_Tr_clear 0 σ post) : Met l y_Tr_clear (.code y_Tr_clear k_Tr_clear 1 (none) :: GW) { frames := 0, cells := 0, slots := 0, locals := 0 } (PcW D vwCl (WS g) g (Zk g) σ sz [.ref (g.1 0)]) (QvW D vwCl (WS g) post (va_A (WS g σ) sz)) 0 0 (va_A (WS g σ) sz) := by
  refine kw_entry (own := R_Tr) (by decide) rfl rfl (Nat.le_of_ble_eq_true rfl) ?_
  intro p e s m below meth c ls hsz C hin hl hst
  exact b_Tr_clear_0_0 C σ _ _ ls hl hst h
set_option maxRecDepth 100000 in
set_option maxHeartbeats 4000000 in
theorem b_Tr_clear_13_0 {p : Program} {l : Launch} {e : Env} {s : State} {m : MethodId} {args : Array Value} {below : List Frame} {meth : Method} {c : Code} {D : va_G} {g : Gm} {A : Nat → Prop} {post : Sg → Prop} (C : kC p s m args meth c k_Tr_clear 1 (none) GW R_Tr D vwCl g (Zk g) A) (σ : Sg) (H : Heap) (locs : List Loc) (ls : Array Slot) (hl : lv_has ls 1 [(0, .ref (g.1 13))]) (hst : Wst D vwCl (WS g) A s σ H locs) (h : wq_Tr_clear 13  σ post) : W p l e { frames := 0, cells := 0, slots := 0, locals := 0 } s m args below meth c H locs 0 0 (MQ below (QvW D vwCl (WS g) post A) args s 0 0 A) (F0 m 0 ls []) := by
  obtain ⟨hx, hb, hr, hml, hown, hts, hlocks, hK, hZ, hA⟩ := C
  unfold wq_Tr_clear at h
  refine lv_aload_n hx hb d_Tr_clear_0 rfl (lv_at hl 0 rfl) ?_
  refine lv_iconst (v := (0 : Int32)) hx hb d_Tr_clear_1 (by decide) ?_
  refine kw_put (D := D) (ci := 0) (ty := .int) (C := R_Tr) (T := T_Tr) (N := 12) hx hb hts in_Tr ty_Tr ty_Tr_ok nm_Tr hown hK hst 13 (WS_o13 g σ) rfl 9 (by decide) (hts _ gw168) (fun _ h9 => h9) rfl (by decide +kernel) rfl rfl (Nat.le_of_ble_eq_true rfl) (WS_p13_9 g σ _) d_Tr_clear_2 (fun σ1 H locs e1 hst => ?_)
  replace h := h σ1 e1
  refine lv_aload_n hx hb d_Tr_clear_5 rfl (lv_at hl 0 rfl) ?_
  refine lv_iconst (v := (0 : Int32)) hx hb d_Tr_clear_6 (by decide) ?_
  refine kw_put (D := D) (ci := 0) (ty := .int) (C := R_Tr) (T := T_Tr) (N := 12) hx hb hts in_Tr ty_Tr ty_Tr_ok nm_Tr hown hK hst 13 (WS_o13 g σ1) rfl 11 (by decide) (hts _ gw175) (fun _ h9 => h9) rfl (by decide +kernel) rfl rfl (Nat.le_of_ble_eq_true rfl) (WS_p13_11 g σ1 _) d_Tr_clear_7 (fun σ2 H locs e2 hst => ?_)
  replace h := h σ2 e2
  exact kw_vret hx hb hr hlocks hst h d_Tr_clear_10
set_option maxRecDepth 100000 in
set_option maxHeartbeats 4000000 in
theorem c_Tr_clear_13 (l : Launch) {D : va_G} {g : Gm} {sz : Nat} {σ : Sg} {post : Sg → Prop} (h : wq_Tr_clear 13 σ post) : Met l y_Tr_clear (.code y_Tr_clear k_Tr_clear 1 (none) :: GW) { frames := 0, cells := 0, slots := 0, locals := 0 } (PcW D vwCl (WS g) g (Zk g) σ sz [.ref (g.1 13)]) (QvW D vwCl (WS g) post (va_A (WS g σ) sz)) 0 0 (va_A (WS g σ) sz) := by
  refine kw_entry (own := R_Tr) (by decide) rfl rfl (Nat.le_of_ble_eq_true rfl) ?_
  intro p e s m below meth c ls hsz C hin hl hst
  exact b_Tr_clear_13_0 C σ _ _ ls hl hst h
/-! SchemaDesk$Tree.has (I)Z -/
abbrev k_Tr_has : ByteArray := prog_8_method_3_code
abbrev y_Tr_has : MethodName := ⟨"SchemaDesk$Tree", "has", "(I)Z"⟩
theorem d_Tr_has_0 : decode k_Tr_has 0 = .ok (.iload_n 1, 1) := by decide +kernel
theorem d_Tr_has_1 : decode k_Tr_has 1 = .ok (.ifCond .lt 15, 3) := by decide +kernel
theorem d_Tr_has_4 : decode k_Tr_has 4 = .ok (.iload_n 1, 1) := by decide +kernel
theorem d_Tr_has_5 : decode k_Tr_has 5 = .ok (.aload_n 0, 1) := by decide +kernel
theorem d_Tr_has_6 : decode k_Tr_has 6 = .ok (.getfield 49, 3) := by decide +kernel
theorem d_Tr_has_9 : decode k_Tr_has 9 = .ok (.if_icmp .ge 7, 3) := by decide +kernel
theorem d_Tr_has_12 : decode k_Tr_has 12 = .ok (.iconst 1, 1) := by decide +kernel
theorem d_Tr_has_13 : decode k_Tr_has 13 = .ok (.goto 4, 3) := by decide +kernel
theorem d_Tr_has_16 : decode k_Tr_has 16 = .ok (.iconst 0, 1) := by decide +kernel
theorem d_Tr_has_17 : decode k_Tr_has 17 = .ok (.ireturn, 1) := by decide +kernel
def wq_Tr_has (b : Nat) (x1 : Int32) (σ : Sg) (post : Int32 → Sg → Prop) : Prop := ((x1 < 0 → (narrow .boolean (.int (0 : Int32)) = .int (0 : Int32) ∧ post (0 : Int32) σ)) ∧ (¬ x1 < 0 → (((σ.1 b 9) ≤ x1 → (narrow .boolean (.int (0 : Int32)) = .int (0 : Int32) ∧ post (0 : Int32) σ)) ∧ (¬ (σ.1 b 9) ≤ x1 → (narrow .boolean (.int (1 : Int32)) = .int (1 : Int32) ∧ post (1 : Int32) σ)))))
set_option maxRecDepth 100000 in
set_option maxHeartbeats 4000000 in
theorem b_Tr_has_0_0 {p : Program} {l : Launch} {e : Env} {s : State} {m : MethodId} {args : Array Value} {below : List Frame} {meth : Method} {c : Code} {D : va_G} {g : Gm} {A : Nat → Prop} {post : Int32 → Sg → Prop} (C : kC p s m args meth c k_Tr_has 2 (some .boolean) GW R_Tr D vwCl g (Zk g) A) (x1 : Int32) (σ : Sg) (H : Heap) (locs : List Loc) (ls : Array Slot) (hl : lv_has ls 2 [(0, .ref (g.1 0)), (1, .int x1)]) (hst : Wst D vwCl (WS g) A s σ H locs) (h : wq_Tr_has 0 x1 σ post) : W p l e { frames := 0, cells := 0, slots := 0, locals := 0 } s m args below meth c H locs 0 0 (MQ below (QiW D vwCl (WS g) post A) args s 0 0 A) (F0 m 0 ls []) := by
  obtain ⟨hx, hb, hr, hml, hown, hts, hlocks, hK, hZ, hA⟩ := C
  unfold wq_Tr_has at h
  refine lv_iload_n hx hb d_Tr_has_0 rfl (lv_at hl 1 rfl) ?_
  refine lv_if_lt (tgt := 16) hx hb d_Tr_has_1 (by decide) (fun hc => ?_) (fun hc => ?_)
  · replace h := h.1 hc
    refine lv_iconst (v := (0 : Int32)) hx hb d_Tr_has_16 (by decide) ?_
    exact kw_zret hx hb hr hlocks hst h d_Tr_has_17
  · replace h := h.2 hc
    refine lv_iload_n hx hb d_Tr_has_4 rfl (lv_at hl 1 rfl) ?_
    refine lv_aload_n hx hb d_Tr_has_5 rfl (lv_at hl 0 rfl) ?_
    refine va_get (D := D) (ci := 0) (C := R_Tr) (T := T_Tr) (N := 12) hx hb hts in_Tr hown hK hst.1 0 (WS_o0 g σ) rfl 9 (by decide) (hts _ gw168) (fun _ h9 => h9) rfl d_Tr_has_6 ?_
    refine lv_icmp_ge (tgt := 16) hx hb d_Tr_has_9 (by decide) (fun hc => ?_) (fun hc => ?_)
    · replace h := h.1 hc
      refine lv_iconst (v := (0 : Int32)) hx hb d_Tr_has_16 (by decide) ?_
      exact kw_zret hx hb hr hlocks hst h d_Tr_has_17
    · replace h := h.2 hc
      refine lv_iconst (v := (1 : Int32)) hx hb d_Tr_has_12 (by decide) ?_
      refine lv_goto (tgt := 17) hx hb d_Tr_has_13 (by decide) ?_
      exact kw_zret hx hb hr hlocks hst h d_Tr_has_17
set_option maxRecDepth 100000 in
set_option maxHeartbeats 4000000 in
theorem c_Tr_has_0 (l : Launch) {D : va_G} {g : Gm} {sz : Nat} (x1 : Int32) {σ : Sg} {post : Int32 → Sg → Prop} (h : wq_Tr_has 0 x1 σ post) : Met l y_Tr_has (.code y_Tr_has k_Tr_has 2 (some .boolean) :: GW) { frames := 0, cells := 0, slots := 0, locals := 0 } (PcW D vwCl (WS g) g (Zk g) σ sz [.ref (g.1 0), .int x1]) (QiW D vwCl (WS g) post (va_A (WS g σ) sz)) 0 0 (va_A (WS g σ) sz) := by
  refine kw_entry (own := R_Tr) (by decide) rfl rfl (Nat.le_of_ble_eq_true rfl) ?_
  intro p e s m below meth c ls hsz C hin hl hst
  exact b_Tr_has_0_0 C x1 σ _ _ ls hl hst h
set_option maxRecDepth 100000 in
set_option maxHeartbeats 4000000 in
theorem b_Tr_has_13_0 {p : Program} {l : Launch} {e : Env} {s : State} {m : MethodId} {args : Array Value} {below : List Frame} {meth : Method} {c : Code} {D : va_G} {g : Gm} {A : Nat → Prop} {post : Int32 → Sg → Prop} (C : kC p s m args meth c k_Tr_has 2 (some .boolean) GW R_Tr D vwCl g (Zk g) A) (x1 : Int32) (σ : Sg) (H : Heap) (locs : List Loc) (ls : Array Slot) (hl : lv_has ls 2 [(0, .ref (g.1 13)), (1, .int x1)]) (hst : Wst D vwCl (WS g) A s σ H locs) (h : wq_Tr_has 13 x1 σ post) : W p l e { frames := 0, cells := 0, slots := 0, locals := 0 } s m args below meth c H locs 0 0 (MQ below (QiW D vwCl (WS g) post A) args s 0 0 A) (F0 m 0 ls []) := by
  obtain ⟨hx, hb, hr, hml, hown, hts, hlocks, hK, hZ, hA⟩ := C
  unfold wq_Tr_has at h
  refine lv_iload_n hx hb d_Tr_has_0 rfl (lv_at hl 1 rfl) ?_
  refine lv_if_lt (tgt := 16) hx hb d_Tr_has_1 (by decide) (fun hc => ?_) (fun hc => ?_)
  · replace h := h.1 hc
    refine lv_iconst (v := (0 : Int32)) hx hb d_Tr_has_16 (by decide) ?_
    exact kw_zret hx hb hr hlocks hst h d_Tr_has_17
  · replace h := h.2 hc
    refine lv_iload_n hx hb d_Tr_has_4 rfl (lv_at hl 1 rfl) ?_
    refine lv_aload_n hx hb d_Tr_has_5 rfl (lv_at hl 0 rfl) ?_
    refine va_get (D := D) (ci := 0) (C := R_Tr) (T := T_Tr) (N := 12) hx hb hts in_Tr hown hK hst.1 13 (WS_o13 g σ) rfl 9 (by decide) (hts _ gw168) (fun _ h9 => h9) rfl d_Tr_has_6 ?_
    refine lv_icmp_ge (tgt := 16) hx hb d_Tr_has_9 (by decide) (fun hc => ?_) (fun hc => ?_)
    · replace h := h.1 hc
      refine lv_iconst (v := (0 : Int32)) hx hb d_Tr_has_16 (by decide) ?_
      exact kw_zret hx hb hr hlocks hst h d_Tr_has_17
    · replace h := h.2 hc
      refine lv_iconst (v := (1 : Int32)) hx hb d_Tr_has_12 (by decide) ?_
      refine lv_goto (tgt := 17) hx hb d_Tr_has_13 (by decide) ?_
      exact kw_zret hx hb hr hlocks hst h d_Tr_has_17
set_option maxRecDepth 100000 in
set_option maxHeartbeats 4000000 in
theorem c_Tr_has_13 (l : Launch) {D : va_G} {g : Gm} {sz : Nat} (x1 : Int32) {σ : Sg} {post : Int32 → Sg → Prop} (h : wq_Tr_has 13 x1 σ post) : Met l y_Tr_has (.code y_Tr_has k_Tr_has 2 (some .boolean) :: GW) { frames := 0, cells := 0, slots := 0, locals := 0 } (PcW D vwCl (WS g) g (Zk g) σ sz [.ref (g.1 13), .int x1]) (QiW D vwCl (WS g) post (va_A (WS g σ) sz)) 0 0 (va_A (WS g σ) sz) := by
  refine kw_entry (own := R_Tr) (by decide) rfl rfl (Nat.le_of_ble_eq_true rfl) ?_
  intro p e s m below meth c ls hsz C hin hl hst
  exact b_Tr_has_13_0 C x1 σ _ _ ls hl hst h
/-! SchemaDesk$Tree.open (IIII)I -/
abbrev k_Tr_open : ByteArray := prog_8_method_4_code
abbrev y_Tr_open : MethodName := ⟨"SchemaDesk$Tree", "open", "(IIII)I"⟩
theorem d_Tr_open_0 : decode k_Tr_open 0 = .ok (.aload_n 0, 1) := by decide +kernel
theorem d_Tr_open_1 : decode k_Tr_open 1 = .ok (.getfield 49, 3) := by decide +kernel
theorem d_Tr_open_4 : decode k_Tr_open 4 = .ok (.istore 5, 2) := by decide +kernel
theorem d_Tr_open_6 : decode k_Tr_open 6 = .ok (.aload_n 0, 1) := by decide +kernel
theorem d_Tr_open_7 : decode k_Tr_open 7 = .ok (.dup, 1) := by decide +kernel
theorem d_Tr_open_8 : decode k_Tr_open 8 = .ok (.getfield 49, 3) := by decide +kernel
theorem d_Tr_open_11 : decode k_Tr_open 11 = .ok (.iconst 1, 1) := by decide +kernel
theorem d_Tr_open_12 : decode k_Tr_open 12 = .ok (.iadd, 1) := by decide +kernel
theorem d_Tr_open_13 : decode k_Tr_open 13 = .ok (.putfield 49, 3) := by decide +kernel
theorem d_Tr_open_16 : decode k_Tr_open 16 = .ok (.aload_n 0, 1) := by decide +kernel
theorem d_Tr_open_17 : decode k_Tr_open 17 = .ok (.getfield 21, 3) := by decide +kernel
theorem d_Tr_open_20 : decode k_Tr_open 20 = .ok (.iload 5, 2) := by decide +kernel
theorem d_Tr_open_22 : decode k_Tr_open 22 = .ok (.iload_n 1, 1) := by decide +kernel
theorem d_Tr_open_23 : decode k_Tr_open 23 = .ok (.iastore, 1) := by decide +kernel
theorem d_Tr_open_24 : decode k_Tr_open 24 = .ok (.aload_n 0, 1) := by decide +kernel
theorem d_Tr_open_25 : decode k_Tr_open 25 = .ok (.getfield 25, 3) := by decide +kernel
theorem d_Tr_open_28 : decode k_Tr_open 28 = .ok (.iload 5, 2) := by decide +kernel
theorem d_Tr_open_30 : decode k_Tr_open 30 = .ok (.iload_n 2, 1) := by decide +kernel
theorem d_Tr_open_31 : decode k_Tr_open 31 = .ok (.iastore, 1) := by decide +kernel
theorem d_Tr_open_32 : decode k_Tr_open 32 = .ok (.aload_n 0, 1) := by decide +kernel
theorem d_Tr_open_33 : decode k_Tr_open 33 = .ok (.getfield 31, 3) := by decide +kernel
theorem d_Tr_open_36 : decode k_Tr_open 36 = .ok (.iload 5, 2) := by decide +kernel
theorem d_Tr_open_38 : decode k_Tr_open 38 = .ok (.iload_n 3, 1) := by decide +kernel
theorem d_Tr_open_39 : decode k_Tr_open 39 = .ok (.iastore, 1) := by decide +kernel
theorem d_Tr_open_40 : decode k_Tr_open 40 = .ok (.aload_n 0, 1) := by decide +kernel
theorem d_Tr_open_41 : decode k_Tr_open 41 = .ok (.getfield 34, 3) := by decide +kernel
theorem d_Tr_open_44 : decode k_Tr_open 44 = .ok (.iload 5, 2) := by decide +kernel
theorem d_Tr_open_46 : decode k_Tr_open 46 = .ok (.iconst 0, 1) := by decide +kernel
theorem d_Tr_open_47 : decode k_Tr_open 47 = .ok (.iastore, 1) := by decide +kernel
theorem d_Tr_open_48 : decode k_Tr_open 48 = .ok (.aload_n 0, 1) := by decide +kernel
theorem d_Tr_open_49 : decode k_Tr_open 49 = .ok (.getfield 37, 3) := by decide +kernel
theorem d_Tr_open_52 : decode k_Tr_open 52 = .ok (.iload 5, 2) := by decide +kernel
theorem d_Tr_open_54 : decode k_Tr_open 54 = .ok (.iload 4, 2) := by decide +kernel
theorem d_Tr_open_56 : decode k_Tr_open 56 = .ok (.iastore, 1) := by decide +kernel
theorem d_Tr_open_57 : decode k_Tr_open 57 = .ok (.aload_n 0, 1) := by decide +kernel
theorem d_Tr_open_58 : decode k_Tr_open 58 = .ok (.getfield 40, 3) := by decide +kernel
theorem d_Tr_open_61 : decode k_Tr_open 61 = .ok (.iload 5, 2) := by decide +kernel
theorem d_Tr_open_63 : decode k_Tr_open 63 = .ok (.iconst 0, 1) := by decide +kernel
theorem d_Tr_open_64 : decode k_Tr_open 64 = .ok (.iastore, 1) := by decide +kernel
theorem d_Tr_open_65 : decode k_Tr_open 65 = .ok (.iload_n 3, 1) := by decide +kernel
theorem d_Tr_open_66 : decode k_Tr_open 66 = .ok (.iconst (-1), 1) := by decide +kernel
theorem d_Tr_open_67 : decode k_Tr_open 67 = .ok (.if_icmp .eq 13, 3) := by decide +kernel
theorem d_Tr_open_70 : decode k_Tr_open 70 = .ok (.aload_n 0, 1) := by decide +kernel
theorem d_Tr_open_71 : decode k_Tr_open 71 = .ok (.getfield 34, 3) := by decide +kernel
theorem d_Tr_open_74 : decode k_Tr_open 74 = .ok (.iload_n 3, 1) := by decide +kernel
theorem d_Tr_open_75 : decode k_Tr_open 75 = .ok (.dup2, 1) := by decide +kernel
theorem d_Tr_open_76 : decode k_Tr_open 76 = .ok (.iaload, 1) := by decide +kernel
theorem d_Tr_open_77 : decode k_Tr_open 77 = .ok (.iconst 1, 1) := by decide +kernel
theorem d_Tr_open_78 : decode k_Tr_open 78 = .ok (.iadd, 1) := by decide +kernel
theorem d_Tr_open_79 : decode k_Tr_open 79 = .ok (.iastore, 1) := by decide +kernel
theorem d_Tr_open_80 : decode k_Tr_open 80 = .ok (.iload 5, 2) := by decide +kernel
theorem d_Tr_open_82 : decode k_Tr_open 82 = .ok (.ireturn, 1) := by decide +kernel
theorem gw131 : (Jvm.Cond.fieldLink "SchemaDesk$Tree" (21 : Nat) "SchemaDesk$Tree" "kind" "[I") ∈ GW := gw_t1 (List.mem_of_getElem? (i := 131) rfl) rfl
theorem gw138 : (Jvm.Cond.fieldLink "SchemaDesk$Tree" (25 : Nat) "SchemaDesk$Tree" "from" "[I") ∈ GW := gw_t1 (List.mem_of_getElem? (i := 138) rfl) rfl
theorem gw145 : (Jvm.Cond.fieldLink "SchemaDesk$Tree" (31 : Nat) "SchemaDesk$Tree" "parent" "[I") ∈ GW := gw_t1 (List.mem_of_getElem? (i := 145) rfl) rfl
theorem gw148 : (Jvm.Cond.fieldLink "SchemaDesk$Tree" (34 : Nat) "SchemaDesk$Tree" "children" "[I") ∈ GW := gw_t1 (List.mem_of_getElem? (i := 148) rfl) rfl
theorem gw154 : (Jvm.Cond.fieldLink "SchemaDesk$Tree" (37 : Nat) "SchemaDesk$Tree" "name" "[I") ∈ GW := gw_t1 (List.mem_of_getElem? (i := 154) rfl) rfl
theorem gw159 : (Jvm.Cond.fieldLink "SchemaDesk$Tree" (40 : Nat) "SchemaDesk$Tree" "number" "[I") ∈ GW := gw_t1 (List.mem_of_getElem? (i := 159) rfl) rfl
def wq_Tr_open (b : Nat) (x1 : Int32) (x2 : Int32) (x3 : Int32) (x4 : Int32) (σ : Sg) (post : Int32 → Sg → Prop) : Prop := (∀ σ1, σ1 = si σ b 9 ((σ.1 b 9) + (1 : Int32)) → (vp_in (σ.1 b 9) (tl b) ∧ (∀ σ2, σ2 = si σ1 (b + 1) ((σ.1 b 9) : Int32).toNatClampNeg x1 → (vp_in (σ.1 b 9) (tl b) ∧ (∀ σ3, σ3 = si σ2 (b + 2) ((σ.1 b 9) : Int32).toNatClampNeg x2 → (vp_in (σ.1 b 9) (tl b) ∧ (∀ σ4, σ4 = si σ3 (b + 4) ((σ.1 b 9) : Int32).toNatClampNeg x3 → (vp_in (σ.1 b 9) (tl b) ∧ (∀ σ5, σ5 = si σ4 (b + 5) ((σ.1 b 9) : Int32).toNatClampNeg (0 : Int32) → (vp_in (σ.1 b 9) (tl b) ∧ (∀ σ6, σ6 = si σ5 (b + 6) ((σ.1 b 9) : Int32).toNatClampNeg x4 → (vp_in (σ.1 b 9) (tl b) ∧ (∀ σ7, σ7 = si σ6 (b + 7) ((σ.1 b 9) : Int32).toNatClampNeg (0 : Int32) → ((x3 = (-1 : Int32) → post (σ.1 b 9) σ7) ∧ (¬ x3 = (-1 : Int32) → (vp_in x3 (tl b) ∧ (vp_in x3 (tl b) ∧ (∀ σ8, σ8 = si σ7 (b + 5) x3.toNatClampNeg ((σ7.1 (b + 5) x3.toNatClampNeg) + (1 : Int32)) → post (σ.1 b 9) σ8))))))))))))))))))
set_option maxRecDepth 100000 in
set_option maxHeartbeats 4000000 in
theorem b_Tr_open_0_0 {p : Program} {l : Launch} {e : Env} {s : State} {m : MethodId} {args : Array Value} {below : List Frame} {meth : Method} {c : Code} {D : va_G} {g : Gm} {A : Nat → Prop} {post : Int32 → Sg → Prop} (C : kC p s m args meth c k_Tr_open 6 (some .int) GW R_Tr D vwCl g (Zk g) A) (x1 : Int32) (x2 : Int32) (x3 : Int32) (x4 : Int32) (σ : Sg) (H : Heap) (locs : List Loc) (ls : Array Slot) (hl : lv_has ls 6 [(0, .ref (g.1 0)), (1, .int x1), (2, .int x2), (3, .int x3), (4, .int x4)]) (hst : Wst D vwCl (WS g) A s σ H locs) (h : wq_Tr_open 0 x1 x2 x3 x4 σ post) : W p l e { frames := 0, cells := 0, slots := 0, locals := 0 } s m args below meth c H locs 0 0 (MQ below (QiW D vwCl (WS g) post A) args s 0 0 A) (F0 m 0 ls []) := by
  obtain ⟨hx, hb, hr, hml, hown, hts, hlocks, hK, hZ, hA⟩ := C
  unfold wq_Tr_open at h
  refine lv_aload_n hx hb d_Tr_open_0 rfl (lv_at hl 0 rfl) ?_
  refine va_get (D := D) (ci := 0) (C := R_Tr) (T := T_Tr) (N := 12) hx hb hts in_Tr hown hK hst.1 0 (WS_o0 g σ) rfl 9 (by decide) (hts _ gw168) (fun _ h9 => h9) rfl d_Tr_open_1 ?_
  refine lv_istore hx hb d_Tr_open_4 hl (by decide) rfl (fun ls hl => ?_)
  have hl : lv_has ls 6 [(5, .int (σ.1 0 9)), (0, .ref (g.1 0)), (1, .int x1), (2, .int x2), (3, .int x3), (4, .int x4)] := hl
  refine lv_aload_n hx hb d_Tr_open_6 rfl (lv_at hl 1 rfl) ?_
  refine lv_dup hx hb d_Tr_open_7 rfl ?_
  refine va_get (D := D) (ci := 0) (C := R_Tr) (T := T_Tr) (N := 12) hx hb hts in_Tr hown hK hst.1 0 (WS_o0 g σ) rfl 9 (by decide) (hts _ gw168) (fun _ h9 => h9) rfl d_Tr_open_8 ?_
  refine lv_iconst (v := (1 : Int32)) hx hb d_Tr_open_11 (by decide) ?_
  refine lv_iadd hx hb d_Tr_open_12 ?_
  refine kw_put (D := D) (ci := 0) (ty := .int) (C := R_Tr) (T := T_Tr) (N := 12) hx hb hts in_Tr ty_Tr ty_Tr_ok nm_Tr hown hK hst 0 (WS_o0 g σ) rfl 9 (by decide) (hts _ gw168) (fun _ h9 => h9) rfl (by decide +kernel) rfl rfl (Nat.le_of_ble_eq_true rfl) (WS_p0_9 g σ _) d_Tr_open_13 (fun σ1 H locs e1 hst => ?_)
  replace h := h σ1 e1
  refine lv_aload_n hx hb d_Tr_open_16 rfl (lv_at hl 1 rfl) ?_
  refine va_get (D := D) (ci := 0) (C := R_Tr) (T := T_Tr) (N := 12) hx hb hts in_Tr hown hK hst.1 0 (WS_o0 g σ1) rfl 1 (by decide) (hts _ gw131) (fun _ h9 => h9) rfl d_Tr_open_17 ?_
  refine lv_iload hx hb d_Tr_open_20 (lv_at hl 0 rfl) ?_
  refine lv_iload_n hx hb d_Tr_open_22 rfl (lv_at hl 2 rfl) ?_
  obtain ⟨hi, h⟩ := h
  refine kw_iast hx hb hK hst 1 (WS_a1 g σ1) hi (WS_s1 g σ1 _ _) d_Tr_open_23 (fun σ2 H locs e2 hst => ?_)
  replace h := h σ2 e2
  refine lv_aload_n hx hb d_Tr_open_24 rfl (lv_at hl 1 rfl) ?_
  refine va_get (D := D) (ci := 0) (C := R_Tr) (T := T_Tr) (N := 12) hx hb hts in_Tr hown hK hst.1 0 (WS_o0 g σ2) rfl 2 (by decide) (hts _ gw138) (fun _ h9 => h9) rfl d_Tr_open_25 ?_
  refine lv_iload hx hb d_Tr_open_28 (lv_at hl 0 rfl) ?_
  refine lv_iload_n hx hb d_Tr_open_30 rfl (lv_at hl 3 rfl) ?_
  obtain ⟨hi, h⟩ := h
  refine kw_iast hx hb hK hst 2 (WS_a2 g σ2) hi (WS_s2 g σ2 _ _) d_Tr_open_31 (fun σ3 H locs e3 hst => ?_)
  replace h := h σ3 e3
  refine lv_aload_n hx hb d_Tr_open_32 rfl (lv_at hl 1 rfl) ?_
  refine va_get (D := D) (ci := 0) (C := R_Tr) (T := T_Tr) (N := 12) hx hb hts in_Tr hown hK hst.1 0 (WS_o0 g σ3) rfl 4 (by decide) (hts _ gw145) (fun _ h9 => h9) rfl d_Tr_open_33 ?_
  refine lv_iload hx hb d_Tr_open_36 (lv_at hl 0 rfl) ?_
  refine lv_iload_n hx hb d_Tr_open_38 rfl (lv_at hl 4 rfl) ?_
  obtain ⟨hi, h⟩ := h
  refine kw_iast hx hb hK hst 4 (WS_a4 g σ3) hi (WS_s4 g σ3 _ _) d_Tr_open_39 (fun σ4 H locs e4 hst => ?_)
  replace h := h σ4 e4
  refine lv_aload_n hx hb d_Tr_open_40 rfl (lv_at hl 1 rfl) ?_
  refine va_get (D := D) (ci := 0) (C := R_Tr) (T := T_Tr) (N := 12) hx hb hts in_Tr hown hK hst.1 0 (WS_o0 g σ4) rfl 5 (by decide) (hts _ gw148) (fun _ h9 => h9) rfl d_Tr_open_41 ?_
  refine lv_iload hx hb d_Tr_open_44 (lv_at hl 0 rfl) ?_
  refine lv_iconst (v := (0 : Int32)) hx hb d_Tr_open_46 (by decide) ?_
  obtain ⟨hi, h⟩ := h
  refine kw_iast hx hb hK hst 5 (WS_a5 g σ4) hi (WS_s5 g σ4 _ _) d_Tr_open_47 (fun σ5 H locs e5 hst => ?_)
  replace h := h σ5 e5
  refine lv_aload_n hx hb d_Tr_open_48 rfl (lv_at hl 1 rfl) ?_
  refine va_get (D := D) (ci := 0) (C := R_Tr) (T := T_Tr) (N := 12) hx hb hts in_Tr hown hK hst.1 0 (WS_o0 g σ5) rfl 6 (by decide) (hts _ gw154) (fun _ h9 => h9) rfl d_Tr_open_49 ?_
  refine lv_iload hx hb d_Tr_open_52 (lv_at hl 0 rfl) ?_
  refine lv_iload hx hb d_Tr_open_54 (lv_at hl 5 rfl) ?_
  obtain ⟨hi, h⟩ := h
  refine kw_iast hx hb hK hst 6 (WS_a6 g σ5) hi (WS_s6 g σ5 _ _) d_Tr_open_56 (fun σ6 H locs e6 hst => ?_)
  replace h := h σ6 e6
  refine lv_aload_n hx hb d_Tr_open_57 rfl (lv_at hl 1 rfl) ?_
  refine va_get (D := D) (ci := 0) (C := R_Tr) (T := T_Tr) (N := 12) hx hb hts in_Tr hown hK hst.1 0 (WS_o0 g σ6) rfl 7 (by decide) (hts _ gw159) (fun _ h9 => h9) rfl d_Tr_open_58 ?_
  refine lv_iload hx hb d_Tr_open_61 (lv_at hl 0 rfl) ?_
  refine lv_iconst (v := (0 : Int32)) hx hb d_Tr_open_63 (by decide) ?_
  obtain ⟨hi, h⟩ := h
  refine kw_iast hx hb hK hst 7 (WS_a7 g σ6) hi (WS_s7 g σ6 _ _) d_Tr_open_64 (fun σ7 H locs e7 hst => ?_)
  replace h := h σ7 e7
  refine lv_iload_n hx hb d_Tr_open_65 rfl (lv_at hl 4 rfl) ?_
  refine lv_iconst (v := (-1 : Int32)) hx hb d_Tr_open_66 (by decide) ?_
  refine lv_icmp_eq (tgt := 80) hx hb d_Tr_open_67 (by decide) (fun hc => ?_) (fun hc => ?_)
  · replace h := h.1 hc
    refine lv_iload hx hb d_Tr_open_80 (lv_at hl 0 rfl) ?_
    exact kw_iret hx hb hr hlocks hst h d_Tr_open_82
  · replace h := h.2 hc
    refine lv_aload_n hx hb d_Tr_open_70 rfl (lv_at hl 1 rfl) ?_
    refine va_get (D := D) (ci := 0) (C := R_Tr) (T := T_Tr) (N := 12) hx hb hts in_Tr hown hK hst.1 0 (WS_o0 g σ7) rfl 5 (by decide) (hts _ gw148) (fun _ h9 => h9) rfl d_Tr_open_71 ?_
    refine lv_iload_n hx hb d_Tr_open_74 rfl (lv_at hl 4 rfl) ?_
    refine lv_dup2_11 hx hb d_Tr_open_75 rfl rfl ?_
    obtain ⟨hi, h⟩ := h
    refine va_iald hx hb hK hst.1 5 0 (WS_a5 g σ7) rfl hi d_Tr_open_76 ?_
    refine lv_iconst (v := (1 : Int32)) hx hb d_Tr_open_77 (by decide) ?_
    refine lv_iadd hx hb d_Tr_open_78 ?_
    obtain ⟨hi, h⟩ := h
    refine kw_iast hx hb hK hst 5 (WS_a5 g σ7) hi (WS_s5 g σ7 _ _) d_Tr_open_79 (fun σ8 H locs e8 hst => ?_)
    replace h := h σ8 e8
    refine lv_iload hx hb d_Tr_open_80 (lv_at hl 0 rfl) ?_
    exact kw_iret hx hb hr hlocks hst h d_Tr_open_82
set_option maxRecDepth 100000 in
set_option maxHeartbeats 4000000 in
theorem c_Tr_open_0 (l : Launch) {D : va_G} {g : Gm} {sz : Nat} (x1 : Int32) (x2 : Int32) (x3 : Int32) (x4 : Int32) {σ : Sg} {post : Int32 → Sg → Prop} (h : wq_Tr_open 0 x1 x2 x3 x4 σ post) : Met l y_Tr_open (.code y_Tr_open k_Tr_open 6 (some .int) :: GW) { frames := 0, cells := 0, slots := 0, locals := 0 } (PcW D vwCl (WS g) g (Zk g) σ sz [.ref (g.1 0), .int x1, .int x2, .int x3, .int x4]) (QiW D vwCl (WS g) post (va_A (WS g σ) sz)) 0 0 (va_A (WS g σ) sz) := by
  refine kw_entry (own := R_Tr) (by decide) rfl rfl (Nat.le_of_ble_eq_true rfl) ?_
  intro p e s m below meth c ls hsz C hin hl hst
  exact b_Tr_open_0_0 C x1 x2 x3 x4 σ _ _ ls hl hst h
set_option maxRecDepth 100000 in
set_option maxHeartbeats 4000000 in
theorem b_Tr_open_13_0 {p : Program} {l : Launch} {e : Env} {s : State} {m : MethodId} {args : Array Value} {below : List Frame} {meth : Method} {c : Code} {D : va_G} {g : Gm} {A : Nat → Prop} {post : Int32 → Sg → Prop} (C : kC p s m args meth c k_Tr_open 6 (some .int) GW R_Tr D vwCl g (Zk g) A) (x1 : Int32) (x2 : Int32) (x3 : Int32) (x4 : Int32) (σ : Sg) (H : Heap) (locs : List Loc) (ls : Array Slot) (hl : lv_has ls 6 [(0, .ref (g.1 13)), (1, .int x1), (2, .int x2), (3, .int x3), (4, .int x4)]) (hst : Wst D vwCl (WS g) A s σ H locs) (h : wq_Tr_open 13 x1 x2 x3 x4 σ post) : W p l e { frames := 0, cells := 0, slots := 0, locals := 0 } s m args below meth c H locs 0 0 (MQ below (QiW D vwCl (WS g) post A) args s 0 0 A) (F0 m 0 ls []) := by
  obtain ⟨hx, hb, hr, hml, hown, hts, hlocks, hK, hZ, hA⟩ := C
  unfold wq_Tr_open at h
  refine lv_aload_n hx hb d_Tr_open_0 rfl (lv_at hl 0 rfl) ?_
  refine va_get (D := D) (ci := 0) (C := R_Tr) (T := T_Tr) (N := 12) hx hb hts in_Tr hown hK hst.1 13 (WS_o13 g σ) rfl 9 (by decide) (hts _ gw168) (fun _ h9 => h9) rfl d_Tr_open_1 ?_
  refine lv_istore hx hb d_Tr_open_4 hl (by decide) rfl (fun ls hl => ?_)
  have hl : lv_has ls 6 [(5, .int (σ.1 13 9)), (0, .ref (g.1 13)), (1, .int x1), (2, .int x2), (3, .int x3), (4, .int x4)] := hl
  refine lv_aload_n hx hb d_Tr_open_6 rfl (lv_at hl 1 rfl) ?_
  refine lv_dup hx hb d_Tr_open_7 rfl ?_
  refine va_get (D := D) (ci := 0) (C := R_Tr) (T := T_Tr) (N := 12) hx hb hts in_Tr hown hK hst.1 13 (WS_o13 g σ) rfl 9 (by decide) (hts _ gw168) (fun _ h9 => h9) rfl d_Tr_open_8 ?_
  refine lv_iconst (v := (1 : Int32)) hx hb d_Tr_open_11 (by decide) ?_
  refine lv_iadd hx hb d_Tr_open_12 ?_
  refine kw_put (D := D) (ci := 0) (ty := .int) (C := R_Tr) (T := T_Tr) (N := 12) hx hb hts in_Tr ty_Tr ty_Tr_ok nm_Tr hown hK hst 13 (WS_o13 g σ) rfl 9 (by decide) (hts _ gw168) (fun _ h9 => h9) rfl (by decide +kernel) rfl rfl (Nat.le_of_ble_eq_true rfl) (WS_p13_9 g σ _) d_Tr_open_13 (fun σ1 H locs e1 hst => ?_)
  replace h := h σ1 e1
  refine lv_aload_n hx hb d_Tr_open_16 rfl (lv_at hl 1 rfl) ?_
  refine va_get (D := D) (ci := 0) (C := R_Tr) (T := T_Tr) (N := 12) hx hb hts in_Tr hown hK hst.1 13 (WS_o13 g σ1) rfl 1 (by decide) (hts _ gw131) (fun _ h9 => h9) rfl d_Tr_open_17 ?_
  refine lv_iload hx hb d_Tr_open_20 (lv_at hl 0 rfl) ?_
  refine lv_iload_n hx hb d_Tr_open_22 rfl (lv_at hl 2 rfl) ?_
  obtain ⟨hi, h⟩ := h
  refine kw_iast hx hb hK hst 14 (WS_a14 g σ1) hi (WS_s14 g σ1 _ _) d_Tr_open_23 (fun σ2 H locs e2 hst => ?_)
  replace h := h σ2 e2
  refine lv_aload_n hx hb d_Tr_open_24 rfl (lv_at hl 1 rfl) ?_
  refine va_get (D := D) (ci := 0) (C := R_Tr) (T := T_Tr) (N := 12) hx hb hts in_Tr hown hK hst.1 13 (WS_o13 g σ2) rfl 2 (by decide) (hts _ gw138) (fun _ h9 => h9) rfl d_Tr_open_25 ?_
  refine lv_iload hx hb d_Tr_open_28 (lv_at hl 0 rfl) ?_
  refine lv_iload_n hx hb d_Tr_open_30 rfl (lv_at hl 3 rfl) ?_
  obtain ⟨hi, h⟩ := h
  refine kw_iast hx hb hK hst 15 (WS_a15 g σ2) hi (WS_s15 g σ2 _ _) d_Tr_open_31 (fun σ3 H locs e3 hst => ?_)
  replace h := h σ3 e3
  refine lv_aload_n hx hb d_Tr_open_32 rfl (lv_at hl 1 rfl) ?_
  refine va_get (D := D) (ci := 0) (C := R_Tr) (T := T_Tr) (N := 12) hx hb hts in_Tr hown hK hst.1 13 (WS_o13 g σ3) rfl 4 (by decide) (hts _ gw145) (fun _ h9 => h9) rfl d_Tr_open_33 ?_
  refine lv_iload hx hb d_Tr_open_36 (lv_at hl 0 rfl) ?_
  refine lv_iload_n hx hb d_Tr_open_38 rfl (lv_at hl 4 rfl) ?_
  obtain ⟨hi, h⟩ := h
  refine kw_iast hx hb hK hst 17 (WS_a17 g σ3) hi (WS_s17 g σ3 _ _) d_Tr_open_39 (fun σ4 H locs e4 hst => ?_)
  replace h := h σ4 e4
  refine lv_aload_n hx hb d_Tr_open_40 rfl (lv_at hl 1 rfl) ?_
  refine va_get (D := D) (ci := 0) (C := R_Tr) (T := T_Tr) (N := 12) hx hb hts in_Tr hown hK hst.1 13 (WS_o13 g σ4) rfl 5 (by decide) (hts _ gw148) (fun _ h9 => h9) rfl d_Tr_open_41 ?_
  refine lv_iload hx hb d_Tr_open_44 (lv_at hl 0 rfl) ?_
  refine lv_iconst (v := (0 : Int32)) hx hb d_Tr_open_46 (by decide) ?_
  obtain ⟨hi, h⟩ := h
  refine kw_iast hx hb hK hst 18 (WS_a18 g σ4) hi (WS_s18 g σ4 _ _) d_Tr_open_47 (fun σ5 H locs e5 hst => ?_)
  replace h := h σ5 e5
  refine lv_aload_n hx hb d_Tr_open_48 rfl (lv_at hl 1 rfl) ?_
  refine va_get (D := D) (ci := 0) (C := R_Tr) (T := T_Tr) (N := 12) hx hb hts in_Tr hown hK hst.1 13 (WS_o13 g σ5) rfl 6 (by decide) (hts _ gw154) (fun _ h9 => h9) rfl d_Tr_open_49 ?_
  refine lv_iload hx hb d_Tr_open_52 (lv_at hl 0 rfl) ?_
  refine lv_iload hx hb d_Tr_open_54 (lv_at hl 5 rfl) ?_
  obtain ⟨hi, h⟩ := h
  refine kw_iast hx hb hK hst 19 (WS_a19 g σ5) hi (WS_s19 g σ5 _ _) d_Tr_open_56 (fun σ6 H locs e6 hst => ?_)
  replace h := h σ6 e6
  refine lv_aload_n hx hb d_Tr_open_57 rfl (lv_at hl 1 rfl) ?_
  refine va_get (D := D) (ci := 0) (C := R_Tr) (T := T_Tr) (N := 12) hx hb hts in_Tr hown hK hst.1 13 (WS_o13 g σ6) rfl 7 (by decide) (hts _ gw159) (fun _ h9 => h9) rfl d_Tr_open_58 ?_
  refine lv_iload hx hb d_Tr_open_61 (lv_at hl 0 rfl) ?_
  refine lv_iconst (v := (0 : Int32)) hx hb d_Tr_open_63 (by decide) ?_
  obtain ⟨hi, h⟩ := h
  refine kw_iast hx hb hK hst 20 (WS_a20 g σ6) hi (WS_s20 g σ6 _ _) d_Tr_open_64 (fun σ7 H locs e7 hst => ?_)
  replace h := h σ7 e7
  refine lv_iload_n hx hb d_Tr_open_65 rfl (lv_at hl 4 rfl) ?_
  refine lv_iconst (v := (-1 : Int32)) hx hb d_Tr_open_66 (by decide) ?_
  refine lv_icmp_eq (tgt := 80) hx hb d_Tr_open_67 (by decide) (fun hc => ?_) (fun hc => ?_)
  · replace h := h.1 hc
    refine lv_iload hx hb d_Tr_open_80 (lv_at hl 0 rfl) ?_
    exact kw_iret hx hb hr hlocks hst h d_Tr_open_82
  · replace h := h.2 hc
    refine lv_aload_n hx hb d_Tr_open_70 rfl (lv_at hl 1 rfl) ?_
    refine va_get (D := D) (ci := 0) (C := R_Tr) (T := T_Tr) (N := 12) hx hb hts in_Tr hown hK hst.1 13 (WS_o13 g σ7) rfl 5 (by decide) (hts _ gw148) (fun _ h9 => h9) rfl d_Tr_open_71 ?_
    refine lv_iload_n hx hb d_Tr_open_74 rfl (lv_at hl 4 rfl) ?_
    refine lv_dup2_11 hx hb d_Tr_open_75 rfl rfl ?_
    obtain ⟨hi, h⟩ := h
    refine va_iald hx hb hK hst.1 18 0 (WS_a18 g σ7) rfl hi d_Tr_open_76 ?_
    refine lv_iconst (v := (1 : Int32)) hx hb d_Tr_open_77 (by decide) ?_
    refine lv_iadd hx hb d_Tr_open_78 ?_
    obtain ⟨hi, h⟩ := h
    refine kw_iast hx hb hK hst 18 (WS_a18 g σ7) hi (WS_s18 g σ7 _ _) d_Tr_open_79 (fun σ8 H locs e8 hst => ?_)
    replace h := h σ8 e8
    refine lv_iload hx hb d_Tr_open_80 (lv_at hl 0 rfl) ?_
    exact kw_iret hx hb hr hlocks hst h d_Tr_open_82
set_option maxRecDepth 100000 in
set_option maxHeartbeats 4000000 in
theorem c_Tr_open_13 (l : Launch) {D : va_G} {g : Gm} {sz : Nat} (x1 : Int32) (x2 : Int32) (x3 : Int32) (x4 : Int32) {σ : Sg} {post : Int32 → Sg → Prop} (h : wq_Tr_open 13 x1 x2 x3 x4 σ post) : Met l y_Tr_open (.code y_Tr_open k_Tr_open 6 (some .int) :: GW) { frames := 0, cells := 0, slots := 0, locals := 0 } (PcW D vwCl (WS g) g (Zk g) σ sz [.ref (g.1 13), .int x1, .int x2, .int x3, .int x4]) (QiW D vwCl (WS g) post (va_A (WS g σ) sz)) 0 0 (va_A (WS g σ) sz) := by
  refine kw_entry (own := R_Tr) (by decide) rfl rfl (Nat.le_of_ble_eq_true rfl) ?_
  intro p e s m below meth c ls hsz C hin hl hst
  exact b_Tr_open_13_0 C x1 x2 x3 x4 σ _ _ ls hl hst h
/-! SchemaDesk$Tree.close (II)V -/
abbrev k_Tr_close : ByteArray := prog_8_method_5_code
abbrev y_Tr_close : MethodName := ⟨"SchemaDesk$Tree", "close", "(II)V"⟩
theorem d_Tr_close_0 : decode k_Tr_close 0 = .ok (.aload_n 0, 1) := by decide +kernel
theorem d_Tr_close_1 : decode k_Tr_close 1 = .ok (.getfield 28, 3) := by decide +kernel
theorem d_Tr_close_4 : decode k_Tr_close 4 = .ok (.iload_n 1, 1) := by decide +kernel
theorem d_Tr_close_5 : decode k_Tr_close 5 = .ok (.iload_n 2, 1) := by decide +kernel
theorem d_Tr_close_6 : decode k_Tr_close 6 = .ok (.iastore, 1) := by decide +kernel
theorem d_Tr_close_7 : decode k_Tr_close 7 = .ok (.aload_n 0, 1) := by decide +kernel
theorem d_Tr_close_8 : decode k_Tr_close 8 = .ok (.getfield 43, 3) := by decide +kernel
theorem d_Tr_close_11 : decode k_Tr_close 11 = .ok (.iload_n 1, 1) := by decide +kernel
theorem d_Tr_close_12 : decode k_Tr_close 12 = .ok (.aload_n 0, 1) := by decide +kernel
theorem d_Tr_close_13 : decode k_Tr_close 13 = .ok (.getfield 49, 3) := by decide +kernel
theorem d_Tr_close_16 : decode k_Tr_close 16 = .ok (.iastore, 1) := by decide +kernel
theorem d_Tr_close_17 : decode k_Tr_close 17 = .ok (.return_, 1) := by decide +kernel
theorem gw143 : (Jvm.Cond.fieldLink "SchemaDesk$Tree" (28 : Nat) "SchemaDesk$Tree" "to" "[I") ∈ GW := gw_t1 (List.mem_of_getElem? (i := 143) rfl) rfl
theorem gw163 : (Jvm.Cond.fieldLink "SchemaDesk$Tree" (43 : Nat) "SchemaDesk$Tree" "behind" "[I") ∈ GW := gw_t1 (List.mem_of_getElem? (i := 163) rfl) rfl
def wq_Tr_close (b : Nat) (x1 : Int32) (x2 : Int32) (σ : Sg) (post : Sg → Prop) : Prop := (vp_in x1 (tl b) ∧ (∀ σ1, σ1 = si σ (b + 3) x1.toNatClampNeg x2 → (vp_in x1 (tl b) ∧ (∀ σ2, σ2 = si σ1 (b + 8) x1.toNatClampNeg (σ1.1 b 9) → post σ2))))
set_option maxRecDepth 100000 in
set_option maxHeartbeats 4000000 in
theorem b_Tr_close_0_0 {p : Program} {l : Launch} {e : Env} {s : State} {m : MethodId} {args : Array Value} {below : List Frame} {meth : Method} {c : Code} {D : va_G} {g : Gm} {A : Nat → Prop} {post : Sg → Prop} (C : kC p s m args meth c k_Tr_close 3 (none) GW R_Tr D vwCl g (Zk g) A) (x1 : Int32) (x2 : Int32) (σ : Sg) (H : Heap) (locs : List Loc) (ls : Array Slot) (hl : lv_has ls 3 [(0, .ref (g.1 0)), (1, .int x1), (2, .int x2)]) (hst : Wst D vwCl (WS g) A s σ H locs) (h : wq_Tr_close 0 x1 x2 σ post) : W p l e { frames := 0, cells := 0, slots := 0, locals := 0 } s m args below meth c H locs 0 0 (MQ below (QvW D vwCl (WS g) post A) args s 0 0 A) (F0 m 0 ls []) := by
  obtain ⟨hx, hb, hr, hml, hown, hts, hlocks, hK, hZ, hA⟩ := C
  unfold wq_Tr_close at h
  refine lv_aload_n hx hb d_Tr_close_0 rfl (lv_at hl 0 rfl) ?_
  refine va_get (D := D) (ci := 0) (C := R_Tr) (T := T_Tr) (N := 12) hx hb hts in_Tr hown hK hst.1 0 (WS_o0 g σ) rfl 3 (by decide) (hts _ gw143) (fun _ h9 => h9) rfl d_Tr_close_1 ?_
  refine lv_iload_n hx hb d_Tr_close_4 rfl (lv_at hl 1 rfl) ?_
  refine lv_iload_n hx hb d_Tr_close_5 rfl (lv_at hl 2 rfl) ?_
  obtain ⟨hi, h⟩ := h
  refine kw_iast hx hb hK hst 3 (WS_a3 g σ) hi (WS_s3 g σ _ _) d_Tr_close_6 (fun σ1 H locs e1 hst => ?_)
  replace h := h σ1 e1
  refine lv_aload_n hx hb d_Tr_close_7 rfl (lv_at hl 0 rfl) ?_
  refine va_get (D := D) (ci := 0) (C := R_Tr) (T := T_Tr) (N := 12) hx hb hts in_Tr hown hK hst.1 0 (WS_o0 g σ1) rfl 8 (by decide) (hts _ gw163) (fun _ h9 => h9) rfl d_Tr_close_8 ?_
  refine lv_iload_n hx hb d_Tr_close_11 rfl (lv_at hl 1 rfl) ?_
  refine lv_aload_n hx hb d_Tr_close_12 rfl (lv_at hl 0 rfl) ?_
  refine va_get (D := D) (ci := 0) (C := R_Tr) (T := T_Tr) (N := 12) hx hb hts in_Tr hown hK hst.1 0 (WS_o0 g σ1) rfl 9 (by decide) (hts _ gw168) (fun _ h9 => h9) rfl d_Tr_close_13 ?_
  obtain ⟨hi, h⟩ := h
  refine kw_iast hx hb hK hst 8 (WS_a8 g σ1) hi (WS_s8 g σ1 _ _) d_Tr_close_16 (fun σ2 H locs e2 hst => ?_)
  replace h := h σ2 e2
  exact kw_vret hx hb hr hlocks hst h d_Tr_close_17
set_option maxRecDepth 100000 in
set_option maxHeartbeats 4000000 in
theorem c_Tr_close_0 (l : Launch) {D : va_G} {g : Gm} {sz : Nat} (x1 : Int32) (x2 : Int32) {σ : Sg} {post : Sg → Prop} (h : wq_Tr_close 0 x1 x2 σ post) : Met l y_Tr_close (.code y_Tr_close k_Tr_close 3 (none) :: GW) { frames := 0, cells := 0, slots := 0, locals := 0 } (PcW D vwCl (WS g) g (Zk g) σ sz [.ref (g.1 0), .int x1, .int x2]) (QvW D vwCl (WS g) post (va_A (WS g σ) sz)) 0 0 (va_A (WS g σ) sz) := by
  refine kw_entry (own := R_Tr) (by decide) rfl rfl (Nat.le_of_ble_eq_true rfl) ?_
  intro p e s m below meth c ls hsz C hin hl hst
  exact b_Tr_close_0_0 C x1 x2 σ _ _ ls hl hst h
set_option maxRecDepth 100000 in
set_option maxHeartbeats 4000000 in
theorem b_Tr_close_13_0 {p : Program} {l : Launch} {e : Env} {s : State} {m : MethodId} {args : Array Value} {below : List Frame} {meth : Method} {c : Code} {D : va_G} {g : Gm} {A : Nat → Prop} {post : Sg → Prop} (C : kC p s m args meth c k_Tr_close 3 (none) GW R_Tr D vwCl g (Zk g) A) (x1 : Int32) (x2 : Int32) (σ : Sg) (H : Heap) (locs : List Loc) (ls : Array Slot) (hl : lv_has ls 3 [(0, .ref (g.1 13)), (1, .int x1), (2, .int x2)]) (hst : Wst D vwCl (WS g) A s σ H locs) (h : wq_Tr_close 13 x1 x2 σ post) : W p l e { frames := 0, cells := 0, slots := 0, locals := 0 } s m args below meth c H locs 0 0 (MQ below (QvW D vwCl (WS g) post A) args s 0 0 A) (F0 m 0 ls []) := by
  obtain ⟨hx, hb, hr, hml, hown, hts, hlocks, hK, hZ, hA⟩ := C
  unfold wq_Tr_close at h
  refine lv_aload_n hx hb d_Tr_close_0 rfl (lv_at hl 0 rfl) ?_
  refine va_get (D := D) (ci := 0) (C := R_Tr) (T := T_Tr) (N := 12) hx hb hts in_Tr hown hK hst.1 13 (WS_o13 g σ) rfl 3 (by decide) (hts _ gw143) (fun _ h9 => h9) rfl d_Tr_close_1 ?_
  refine lv_iload_n hx hb d_Tr_close_4 rfl (lv_at hl 1 rfl) ?_
  refine lv_iload_n hx hb d_Tr_close_5 rfl (lv_at hl 2 rfl) ?_
  obtain ⟨hi, h⟩ := h
  refine kw_iast hx hb hK hst 16 (WS_a16 g σ) hi (WS_s16 g σ _ _) d_Tr_close_6 (fun σ1 H locs e1 hst => ?_)
  replace h := h σ1 e1
  refine lv_aload_n hx hb d_Tr_close_7 rfl (lv_at hl 0 rfl) ?_
  refine va_get (D := D) (ci := 0) (C := R_Tr) (T := T_Tr) (N := 12) hx hb hts in_Tr hown hK hst.1 13 (WS_o13 g σ1) rfl 8 (by decide) (hts _ gw163) (fun _ h9 => h9) rfl d_Tr_close_8 ?_
  refine lv_iload_n hx hb d_Tr_close_11 rfl (lv_at hl 1 rfl) ?_
  refine lv_aload_n hx hb d_Tr_close_12 rfl (lv_at hl 0 rfl) ?_
  refine va_get (D := D) (ci := 0) (C := R_Tr) (T := T_Tr) (N := 12) hx hb hts in_Tr hown hK hst.1 13 (WS_o13 g σ1) rfl 9 (by decide) (hts _ gw168) (fun _ h9 => h9) rfl d_Tr_close_13 ?_
  obtain ⟨hi, h⟩ := h
  refine kw_iast hx hb hK hst 21 (WS_a21 g σ1) hi (WS_s21 g σ1 _ _) d_Tr_close_16 (fun σ2 H locs e2 hst => ?_)
  replace h := h σ2 e2
  exact kw_vret hx hb hr hlocks hst h d_Tr_close_17
set_option maxRecDepth 100000 in
set_option maxHeartbeats 4000000 in
theorem c_Tr_close_13 (l : Launch) {D : va_G} {g : Gm} {sz : Nat} (x1 : Int32) (x2 : Int32) {σ : Sg} {post : Sg → Prop} (h : wq_Tr_close 13 x1 x2 σ post) : Met l y_Tr_close (.code y_Tr_close k_Tr_close 3 (none) :: GW) { frames := 0, cells := 0, slots := 0, locals := 0 } (PcW D vwCl (WS g) g (Zk g) σ sz [.ref (g.1 13), .int x1, .int x2]) (QvW D vwCl (WS g) post (va_A (WS g σ) sz)) 0 0 (va_A (WS g σ) sz) := by
  refine kw_entry (own := R_Tr) (by decide) rfl rfl (Nat.le_of_ble_eq_true rfl) ?_
  intro p e s m below meth c ls hsz C hin hl hst
  exact b_Tr_close_13_0 C x1 x2 σ _ _ ls hl hst h
/-! SchemaDesk$Tree.blame (II)V -/
abbrev k_Tr_blame : ByteArray := prog_8_method_6_code
abbrev y_Tr_blame : MethodName := ⟨"SchemaDesk$Tree", "blame", "(II)V"⟩
theorem d_Tr_blame_0 : decode k_Tr_blame 0 = .ok (.aload_n 0, 1) := by decide +kernel
theorem d_Tr_blame_1 : decode k_Tr_blame 1 = .ok (.getfield 53, 3) := by decide +kernel
theorem d_Tr_blame_4 : decode k_Tr_blame 4 = .ok (.aload_n 0, 1) := by decide +kernel
theorem d_Tr_blame_5 : decode k_Tr_blame 5 = .ok (.getfield 46, 3) := by decide +kernel
theorem d_Tr_blame_8 : decode k_Tr_blame 8 = .ok (.arraylength, 1) := by decide +kernel
theorem d_Tr_blame_9 : decode k_Tr_blame 9 = .ok (.if_icmp .ge 28, 3) := by decide +kernel
theorem d_Tr_blame_12 : decode k_Tr_blame 12 = .ok (.aload_n 0, 1) := by decide +kernel
theorem d_Tr_blame_13 : decode k_Tr_blame 13 = .ok (.getfield 46, 3) := by decide +kernel
theorem d_Tr_blame_16 : decode k_Tr_blame 16 = .ok (.aload_n 0, 1) := by decide +kernel
theorem d_Tr_blame_17 : decode k_Tr_blame 17 = .ok (.getfield 53, 3) := by decide +kernel
theorem d_Tr_blame_20 : decode k_Tr_blame 20 = .ok (.iload_n 1, 1) := by decide +kernel
theorem d_Tr_blame_21 : decode k_Tr_blame 21 = .ok (.bipush 16, 2) := by decide +kernel
theorem d_Tr_blame_23 : decode k_Tr_blame 23 = .ok (.iload_n 2, 1) := by decide +kernel
theorem d_Tr_blame_24 : decode k_Tr_blame 24 = .ok (.imul, 1) := by decide +kernel
theorem d_Tr_blame_25 : decode k_Tr_blame 25 = .ok (.iadd, 1) := by decide +kernel
theorem d_Tr_blame_26 : decode k_Tr_blame 26 = .ok (.iastore, 1) := by decide +kernel
theorem d_Tr_blame_27 : decode k_Tr_blame 27 = .ok (.aload_n 0, 1) := by decide +kernel
theorem d_Tr_blame_28 : decode k_Tr_blame 28 = .ok (.dup, 1) := by decide +kernel
theorem d_Tr_blame_29 : decode k_Tr_blame 29 = .ok (.getfield 53, 3) := by decide +kernel
theorem d_Tr_blame_32 : decode k_Tr_blame 32 = .ok (.iconst 1, 1) := by decide +kernel
theorem d_Tr_blame_33 : decode k_Tr_blame 33 = .ok (.iadd, 1) := by decide +kernel
theorem d_Tr_blame_34 : decode k_Tr_blame 34 = .ok (.putfield 53, 3) := by decide +kernel
theorem d_Tr_blame_37 : decode k_Tr_blame 37 = .ok (.return_, 1) := by decide +kernel
theorem gw173 : (Jvm.Cond.fieldLink "SchemaDesk$Tree" (46 : Nat) "SchemaDesk$Tree" "faultRow" "[I") ∈ GW := gw_t1 (List.mem_of_getElem? (i := 173) rfl) rfl
def wq_Tr_blame (b : Nat) (x1 : Int32) (x2 : Int32) (σ : Sg) (post : Sg → Prop) : Prop := (((nI (tf b)) ≤ (σ.1 b 11) → post σ) ∧ (¬ (nI (tf b)) ≤ (σ.1 b 11) → (vp_in (σ.1 b 11) (tf b) ∧ (∀ σ1, σ1 = si σ (b + 9) ((σ.1 b 11) : Int32).toNatClampNeg (x1 + ((16 : Int32) * x2)) → (∀ σ2, σ2 = si σ1 b 11 ((σ1.1 b 11) + (1 : Int32)) → post σ2)))))
set_option maxRecDepth 100000 in
set_option maxHeartbeats 4000000 in
theorem b_Tr_blame_0_0 {p : Program} {l : Launch} {e : Env} {s : State} {m : MethodId} {args : Array Value} {below : List Frame} {meth : Method} {c : Code} {D : va_G} {g : Gm} {A : Nat → Prop} {post : Sg → Prop} (C : kC p s m args meth c k_Tr_blame 3 (none) GW R_Tr D vwCl g (Zk g) A) (x1 : Int32) (x2 : Int32) (σ : Sg) (H : Heap) (locs : List Loc) (ls : Array Slot) (hl : lv_has ls 3 [(0, .ref (g.1 0)), (1, .int x1), (2, .int x2)]) (hst : Wst D vwCl (WS g) A s σ H locs) (h : wq_Tr_blame 0 x1 x2 σ post) : W p l e { frames := 0, cells := 0, slots := 0, locals := 0 } s m args below meth c H locs 0 0 (MQ below (QvW D vwCl (WS g) post A) args s 0 0 A) (F0 m 0 ls []) := by
  obtain ⟨hx, hb, hr, hml, hown, hts, hlocks, hK, hZ, hA⟩ := C
  unfold wq_Tr_blame at h
  refine lv_aload_n hx hb d_Tr_blame_0 rfl (lv_at hl 0 rfl) ?_
  refine va_get (D := D) (ci := 0) (C := R_Tr) (T := T_Tr) (N := 12) hx hb hts in_Tr hown hK hst.1 0 (WS_o0 g σ) rfl 11 (by decide) (hts _ gw175) (fun _ h9 => h9) rfl d_Tr_blame_1 ?_
  refine lv_aload_n hx hb d_Tr_blame_4 rfl (lv_at hl 0 rfl) ?_
  refine va_get (D := D) (ci := 0) (C := R_Tr) (T := T_Tr) (N := 12) hx hb hts in_Tr hown hK hst.1 0 (WS_o0 g σ) rfl 10 (by decide) (hts _ gw173) (fun _ h9 => h9) rfl d_Tr_blame_5 ?_
  refine va_alen (v := (480 : Int32)) hx hb hK hst.1 9 0 (WS_a9 g σ) rfl rfl d_Tr_blame_8 ?_
  refine lv_icmp_ge (tgt := 37) hx hb d_Tr_blame_9 (by decide) (fun hc => ?_) (fun hc => ?_)
  · replace h := h.1 hc
    exact kw_vret hx hb hr hlocks hst h d_Tr_blame_37
  · replace h := h.2 hc
    refine lv_aload_n hx hb d_Tr_blame_12 rfl (lv_at hl 0 rfl) ?_
    refine va_get (D := D) (ci := 0) (C := R_Tr) (T := T_Tr) (N := 12) hx hb hts in_Tr hown hK hst.1 0 (WS_o0 g σ) rfl 10 (by decide) (hts _ gw173) (fun _ h9 => h9) rfl d_Tr_blame_13 ?_
    refine lv_aload_n hx hb d_Tr_blame_16 rfl (lv_at hl 0 rfl) ?_
    refine va_get (D := D) (ci := 0) (C := R_Tr) (T := T_Tr) (N := 12) hx hb hts in_Tr hown hK hst.1 0 (WS_o0 g σ) rfl 11 (by decide) (hts _ gw175) (fun _ h9 => h9) rfl d_Tr_blame_17 ?_
    refine lv_iload_n hx hb d_Tr_blame_20 rfl (lv_at hl 1 rfl) ?_
    refine lv_bipush (v := (16 : Int32)) hx hb d_Tr_blame_21 (by decide) ?_
    refine lv_iload_n hx hb d_Tr_blame_23 rfl (lv_at hl 2 rfl) ?_
    refine lv_imul hx hb d_Tr_blame_24 ?_
    refine lv_iadd hx hb d_Tr_blame_25 ?_
    obtain ⟨hi, h⟩ := h
    refine kw_iast hx hb hK hst 9 (WS_a9 g σ) hi (WS_s9 g σ _ _) d_Tr_blame_26 (fun σ1 H locs e1 hst => ?_)
    replace h := h σ1 e1
    refine lv_aload_n hx hb d_Tr_blame_27 rfl (lv_at hl 0 rfl) ?_
    refine lv_dup hx hb d_Tr_blame_28 rfl ?_
    refine va_get (D := D) (ci := 0) (C := R_Tr) (T := T_Tr) (N := 12) hx hb hts in_Tr hown hK hst.1 0 (WS_o0 g σ1) rfl 11 (by decide) (hts _ gw175) (fun _ h9 => h9) rfl d_Tr_blame_29 ?_
    refine lv_iconst (v := (1 : Int32)) hx hb d_Tr_blame_32 (by decide) ?_
    refine lv_iadd hx hb d_Tr_blame_33 ?_
    refine kw_put (D := D) (ci := 0) (ty := .int) (C := R_Tr) (T := T_Tr) (N := 12) hx hb hts in_Tr ty_Tr ty_Tr_ok nm_Tr hown hK hst 0 (WS_o0 g σ1) rfl 11 (by decide) (hts _ gw175) (fun _ h9 => h9) rfl (by decide +kernel) rfl rfl (Nat.le_of_ble_eq_true rfl) (WS_p0_11 g σ1 _) d_Tr_blame_34 (fun σ2 H locs e2 hst => ?_)
    replace h := h σ2 e2
    exact kw_vret hx hb hr hlocks hst h d_Tr_blame_37
set_option maxRecDepth 100000 in
set_option maxHeartbeats 4000000 in
theorem c_Tr_blame_0 (l : Launch) {D : va_G} {g : Gm} {sz : Nat} (x1 : Int32) (x2 : Int32) {σ : Sg} {post : Sg → Prop} (h : wq_Tr_blame 0 x1 x2 σ post) : Met l y_Tr_blame (.code y_Tr_blame k_Tr_blame 3 (none) :: GW) { frames := 0, cells := 0, slots := 0, locals := 0 } (PcW D vwCl (WS g) g (Zk g) σ sz [.ref (g.1 0), .int x1, .int x2]) (QvW D vwCl (WS g) post (va_A (WS g σ) sz)) 0 0 (va_A (WS g σ) sz) := by
  refine kw_entry (own := R_Tr) (by decide) rfl rfl (Nat.le_of_ble_eq_true rfl) ?_
  intro p e s m below meth c ls hsz C hin hl hst
  exact b_Tr_blame_0_0 C x1 x2 σ _ _ ls hl hst h
set_option maxRecDepth 100000 in
set_option maxHeartbeats 4000000 in
theorem b_Tr_blame_13_0 {p : Program} {l : Launch} {e : Env} {s : State} {m : MethodId} {args : Array Value} {below : List Frame} {meth : Method} {c : Code} {D : va_G} {g : Gm} {A : Nat → Prop} {post : Sg → Prop} (C : kC p s m args meth c k_Tr_blame 3 (none) GW R_Tr D vwCl g (Zk g) A) (x1 : Int32) (x2 : Int32) (σ : Sg) (H : Heap) (locs : List Loc) (ls : Array Slot) (hl : lv_has ls 3 [(0, .ref (g.1 13)), (1, .int x1), (2, .int x2)]) (hst : Wst D vwCl (WS g) A s σ H locs) (h : wq_Tr_blame 13 x1 x2 σ post) : W p l e { frames := 0, cells := 0, slots := 0, locals := 0 } s m args below meth c H locs 0 0 (MQ below (QvW D vwCl (WS g) post A) args s 0 0 A) (F0 m 0 ls []) := by
  obtain ⟨hx, hb, hr, hml, hown, hts, hlocks, hK, hZ, hA⟩ := C
  unfold wq_Tr_blame at h
  refine lv_aload_n hx hb d_Tr_blame_0 rfl (lv_at hl 0 rfl) ?_
  refine va_get (D := D) (ci := 0) (C := R_Tr) (T := T_Tr) (N := 12) hx hb hts in_Tr hown hK hst.1 13 (WS_o13 g σ) rfl 11 (by decide) (hts _ gw175) (fun _ h9 => h9) rfl d_Tr_blame_1 ?_
  refine lv_aload_n hx hb d_Tr_blame_4 rfl (lv_at hl 0 rfl) ?_
  refine va_get (D := D) (ci := 0) (C := R_Tr) (T := T_Tr) (N := 12) hx hb hts in_Tr hown hK hst.1 13 (WS_o13 g σ) rfl 10 (by decide) (hts _ gw173) (fun _ h9 => h9) rfl d_Tr_blame_5 ?_
  refine va_alen (v := (240 : Int32)) hx hb hK hst.1 22 0 (WS_a22 g σ) rfl rfl d_Tr_blame_8 ?_
  refine lv_icmp_ge (tgt := 37) hx hb d_Tr_blame_9 (by decide) (fun hc => ?_) (fun hc => ?_)
  · replace h := h.1 hc
    exact kw_vret hx hb hr hlocks hst h d_Tr_blame_37
  · replace h := h.2 hc
    refine lv_aload_n hx hb d_Tr_blame_12 rfl (lv_at hl 0 rfl) ?_
    refine va_get (D := D) (ci := 0) (C := R_Tr) (T := T_Tr) (N := 12) hx hb hts in_Tr hown hK hst.1 13 (WS_o13 g σ) rfl 10 (by decide) (hts _ gw173) (fun _ h9 => h9) rfl d_Tr_blame_13 ?_
    refine lv_aload_n hx hb d_Tr_blame_16 rfl (lv_at hl 0 rfl) ?_
    refine va_get (D := D) (ci := 0) (C := R_Tr) (T := T_Tr) (N := 12) hx hb hts in_Tr hown hK hst.1 13 (WS_o13 g σ) rfl 11 (by decide) (hts _ gw175) (fun _ h9 => h9) rfl d_Tr_blame_17 ?_
    refine lv_iload_n hx hb d_Tr_blame_20 rfl (lv_at hl 1 rfl) ?_
    refine lv_bipush (v := (16 : Int32)) hx hb d_Tr_blame_21 (by decide) ?_
    refine lv_iload_n hx hb d_Tr_blame_23 rfl (lv_at hl 2 rfl) ?_
    refine lv_imul hx hb d_Tr_blame_24 ?_
    refine lv_iadd hx hb d_Tr_blame_25 ?_
    obtain ⟨hi, h⟩ := h
    refine kw_iast hx hb hK hst 22 (WS_a22 g σ) hi (WS_s22 g σ _ _) d_Tr_blame_26 (fun σ1 H locs e1 hst => ?_)
    replace h := h σ1 e1
    refine lv_aload_n hx hb d_Tr_blame_27 rfl (lv_at hl 0 rfl) ?_
    refine lv_dup hx hb d_Tr_blame_28 rfl ?_
    refine va_get (D := D) (ci := 0) (C := R_Tr) (T := T_Tr) (N := 12) hx hb hts in_Tr hown hK hst.1 13 (WS_o13 g σ1) rfl 11 (by decide) (hts _ gw175) (fun _ h9 => h9) rfl d_Tr_blame_29 ?_
    refine lv_iconst (v := (1 : Int32)) hx hb d_Tr_blame_32 (by decide) ?_
    refine lv_iadd hx hb d_Tr_blame_33 ?_
    refine kw_put (D := D) (ci := 0) (ty := .int) (C := R_Tr) (T := T_Tr) (N := 12) hx hb hts in_Tr ty_Tr ty_Tr_ok nm_Tr hown hK hst 13 (WS_o13 g σ1) rfl 11 (by decide) (hts _ gw175) (fun _ h9 => h9) rfl (by decide +kernel) rfl rfl (Nat.le_of_ble_eq_true rfl) (WS_p13_11 g σ1 _) d_Tr_blame_34 (fun σ2 H locs e2 hst => ?_)
    replace h := h σ2 e2
    exact kw_vret hx hb hr hlocks hst h d_Tr_blame_37
set_option maxRecDepth 100000 in
set_option maxHeartbeats 4000000 in
theorem c_Tr_blame_13 (l : Launch) {D : va_G} {g : Gm} {sz : Nat} (x1 : Int32) (x2 : Int32) {σ : Sg} {post : Sg → Prop} (h : wq_Tr_blame 13 x1 x2 σ post) : Met l y_Tr_blame (.code y_Tr_blame k_Tr_blame 3 (none) :: GW) { frames := 0, cells := 0, slots := 0, locals := 0 } (PcW D vwCl (WS g) g (Zk g) σ sz [.ref (g.1 13), .int x1, .int x2]) (QvW D vwCl (WS g) post (va_A (WS g σ) sz)) 0 0 (va_A (WS g σ) sz) := by
  refine kw_entry (own := R_Tr) (by decide) rfl rfl (Nat.le_of_ble_eq_true rfl) ?_
  intro p e s m below meth c ls hsz C hin hl hst
  exact b_Tr_blame_13_0 C x1 x2 σ _ _ ls hl hst h
/-! SchemaDesk$Tree.childNamed (ILSchemaDesk$Text;I)I -/
abbrev k_Tr_childNamed : ByteArray := prog_8_method_7_code
abbrev y_Tr_childNamed : MethodName := ⟨"SchemaDesk$Tree", "childNamed", "(ILSchemaDesk$Text;I)I"⟩
theorem d_Tr_childNamed_0 : decode k_Tr_childNamed 0 = .ok (.aload_n 0, 1) := by decide +kernel
theorem d_Tr_childNamed_1 : decode k_Tr_childNamed 1 = .ok (.getfield 21, 3) := by decide +kernel
theorem d_Tr_childNamed_4 : decode k_Tr_childNamed 4 = .ok (.iload_n 1, 1) := by decide +kernel
theorem d_Tr_childNamed_5 : decode k_Tr_childNamed 5 = .ok (.iaload, 1) := by decide +kernel
theorem d_Tr_childNamed_6 : decode k_Tr_childNamed 6 = .ok (.bipush 6, 2) := by decide +kernel
theorem d_Tr_childNamed_8 : decode k_Tr_childNamed 8 = .ok (.if_icmp .eq 5, 3) := by decide +kernel
theorem d_Tr_childNamed_11 : decode k_Tr_childNamed 11 = .ok (.iconst (-1), 1) := by decide +kernel
theorem d_Tr_childNamed_12 : decode k_Tr_childNamed 12 = .ok (.ireturn, 1) := by decide +kernel
theorem d_Tr_childNamed_13 : decode k_Tr_childNamed 13 = .ok (.iconst 0, 1) := by decide +kernel
theorem d_Tr_childNamed_14 : decode k_Tr_childNamed 14 = .ok (.istore 4, 2) := by decide +kernel
theorem d_Tr_childNamed_16 : decode k_Tr_childNamed 16 = .ok (.iload_n 1, 1) := by decide +kernel
theorem d_Tr_childNamed_17 : decode k_Tr_childNamed 17 = .ok (.iconst 1, 1) := by decide +kernel
theorem d_Tr_childNamed_18 : decode k_Tr_childNamed 18 = .ok (.iadd, 1) := by decide +kernel
theorem d_Tr_childNamed_19 : decode k_Tr_childNamed 19 = .ok (.istore 5, 2) := by decide +kernel
theorem d_Tr_childNamed_21 : decode k_Tr_childNamed 21 = .ok (.iload 4, 2) := by decide +kernel
theorem d_Tr_childNamed_23 : decode k_Tr_childNamed 23 = .ok (.aload_n 0, 1) := by decide +kernel
theorem d_Tr_childNamed_24 : decode k_Tr_childNamed 24 = .ok (.getfield 34, 3) := by decide +kernel
theorem d_Tr_childNamed_27 : decode k_Tr_childNamed 27 = .ok (.iload_n 1, 1) := by decide +kernel
theorem d_Tr_childNamed_28 : decode k_Tr_childNamed 28 = .ok (.iaload, 1) := by decide +kernel
theorem d_Tr_childNamed_29 : decode k_Tr_childNamed 29 = .ok (.if_icmp .ge 42, 3) := by decide +kernel
theorem d_Tr_childNamed_32 : decode k_Tr_childNamed 32 = .ok (.aload_n 0, 1) := by decide +kernel
theorem d_Tr_childNamed_33 : decode k_Tr_childNamed 33 = .ok (.getfield 15, 3) := by decide +kernel
theorem d_Tr_childNamed_36 : decode k_Tr_childNamed 36 = .ok (.aload_n 0, 1) := by decide +kernel
theorem d_Tr_childNamed_37 : decode k_Tr_childNamed 37 = .ok (.getfield 37, 3) := by decide +kernel
theorem d_Tr_childNamed_40 : decode k_Tr_childNamed 40 = .ok (.iload 5, 2) := by decide +kernel
theorem d_Tr_childNamed_42 : decode k_Tr_childNamed 42 = .ok (.iaload, 1) := by decide +kernel
theorem d_Tr_childNamed_43 : decode k_Tr_childNamed 43 = .ok (.iconst 1, 1) := by decide +kernel
theorem d_Tr_childNamed_44 : decode k_Tr_childNamed 44 = .ok (.iadd, 1) := by decide +kernel
theorem d_Tr_childNamed_45 : decode k_Tr_childNamed 45 = .ok (.aload_n 2, 1) := by decide +kernel
theorem d_Tr_childNamed_46 : decode k_Tr_childNamed 46 = .ok (.iload_n 3, 1) := by decide +kernel
theorem d_Tr_childNamed_47 : decode k_Tr_childNamed 47 = .ok (.invokevirtual 56, 3) := by decide +kernel
theorem d_Tr_childNamed_50 : decode k_Tr_childNamed 50 = .ok (.ifCond .eq 6, 3) := by decide +kernel
theorem d_Tr_childNamed_53 : decode k_Tr_childNamed 53 = .ok (.iload 5, 2) := by decide +kernel
theorem d_Tr_childNamed_55 : decode k_Tr_childNamed 55 = .ok (.ireturn, 1) := by decide +kernel
theorem d_Tr_childNamed_56 : decode k_Tr_childNamed 56 = .ok (.iinc 4 1, 3) := by decide +kernel
theorem d_Tr_childNamed_59 : decode k_Tr_childNamed 59 = .ok (.aload_n 0, 1) := by decide +kernel
theorem d_Tr_childNamed_60 : decode k_Tr_childNamed 60 = .ok (.getfield 43, 3) := by decide +kernel
theorem d_Tr_childNamed_63 : decode k_Tr_childNamed 63 = .ok (.iload 5, 2) := by decide +kernel
theorem d_Tr_childNamed_65 : decode k_Tr_childNamed 65 = .ok (.iaload, 1) := by decide +kernel
theorem d_Tr_childNamed_66 : decode k_Tr_childNamed 66 = .ok (.istore 5, 2) := by decide +kernel
theorem d_Tr_childNamed_68 : decode k_Tr_childNamed 68 = .ok (.goto (-47), 3) := by decide +kernel
theorem d_Tr_childNamed_71 : decode k_Tr_childNamed 71 = .ok (.iconst (-1), 1) := by decide +kernel
theorem d_Tr_childNamed_72 : decode k_Tr_childNamed 72 = .ok (.ireturn, 1) := by decide +kernel
theorem gw126 : (Jvm.Cond.fieldLink "SchemaDesk$Tree" (15 : Nat) "SchemaDesk$Tree" "text" "LSchemaDesk$Text;") ∈ GW := gw_t1 (List.mem_of_getElem? (i := 126) rfl) rfl
theorem gw673 : (Jvm.Cond.methodLink "SchemaDesk$Tree" (56 : Nat) ({ cls := "SchemaDesk$Text", name := "sameQuoted", desc := "(ILSchemaDesk$Text;I)Z" } : Jvm.MethodName)) ∈ GW := gw_t3 (List.mem_of_getElem? (i := 193) rfl) rfl
theorem gw674 : (Jvm.Cond.instanceMethod ({ cls := "SchemaDesk$Text", name := "sameQuoted", desc := "(ILSchemaDesk$Text;I)Z" } : Jvm.MethodName)) ∈ GW := gw_t3 (List.mem_of_getElem? (i := 194) rfl) rfl
theorem gw675 : (Jvm.Cond.selects "SchemaDesk$Text" ({ cls := "SchemaDesk$Text", name := "sameQuoted", desc := "(ILSchemaDesk$Text;I)Z" } : Jvm.MethodName) ({ cls := "SchemaDesk$Text", name := "sameQuoted", desc := "(ILSchemaDesk$Text;I)Z" } : Jvm.MethodName)) ∈ GW := gw_t3 (List.mem_of_getElem? (i := 195) rfl) rfl
theorem gw8 : (Jvm.Cond.initialized "SchemaDesk$Text") ∈ GW := gw_t1 (List.mem_of_getElem? (i := 8) rfl) rfl
theorem gw676 : (Jvm.Cond.code ({ cls := "SchemaDesk$Text", name := "sameQuoted", desc := "(ILSchemaDesk$Text;I)Z" } : Jvm.MethodName) prog_7_method_6_code (7 : Nat) (Option.some Jvm.ClassFile.FieldType.boolean)) ∈ GW := gw_t3 (List.mem_of_getElem? (i := 196) rfl) rfl
def wb_Tr_childNamed_0 (b : Nat) (b1 : Nat) (F : Nat → Int32 → Int32 → Int32 → Int32 → Sg → Prop) (post : Int32 → Sg → Prop) (x1 : Int32) (x3 : Int32) (σ : Sg) : Prop := (vp_in x1 (tl b) ∧ (((σ.1 (b + 1) x1.toNatClampNeg) = (6 : Int32) → F 1 x1 x3 (0 : Int32) (x1 + (1 : Int32)) σ) ∧ (¬ (σ.1 (b + 1) x1.toNatClampNeg) = (6 : Int32) → post (-1 : Int32) σ)))
def wb_Tr_childNamed_1 (b : Nat) (b1 : Nat) (F : Nat → Int32 → Int32 → Int32 → Int32 → Sg → Prop) (post : Int32 → Sg → Prop) (x1 : Int32) (x3 : Int32) (x4 : Int32) (x5 : Int32) (σ : Sg) : Prop := (vp_in x1 (tl b) ∧ (((σ.1 (b + 5) x1.toNatClampNeg) ≤ x4 → post (-1 : Int32) σ) ∧ (¬ (σ.1 (b + 5) x1.toNatClampNeg) ≤ x4 → (vp_in x5 (tl b) ∧ (wq_Tx_sameQuoted b b1 ((σ.1 (b + 6) x5.toNatClampNeg) + (1 : Int32)) x3 σ (fun r1 σ1 => ((r1 = 0 → (vp_in x5 (tl b) ∧ F 1 x1 x3 (x4 + 1) (σ1.1 (b + 8) x5.toNatClampNeg) σ1)) ∧ (¬ r1 = 0 → post x5 σ1))))))))
def wp_Tr_childNamed (b : Nat) (b1 : Nat) (post : Int32 → Sg → Prop) : Nat → Nat → Int32 → Int32 → Int32 → Int32 → Sg → Prop
  | 0, _, _, _, _, _, _ => False
  | n + 1, k, x1, x3, x4, x5, σ => match k with
    | 0 => wb_Tr_childNamed_0 b b1 (wp_Tr_childNamed b b1 post n) post x1 x3 σ
    | 1 => wb_Tr_childNamed_1 b b1 (wp_Tr_childNamed b b1 post n) post x1 x3 x4 x5 σ
    | _ => False
def wq_Tr_childNamed (b : Nat) (b1 : Nat) (x1 : Int32) (x3 : Int32) (σ : Sg) (post : Int32 → Sg → Prop) : Prop := ∃ n, wp_Tr_childNamed b b1 post n 0 x1 x3 0 0 σ
def J_Tr_childNamed_0_0_1 (p : Program) (l : Launch) (e : Env) (s : State) (m : MethodId) (args : Array Value) (below : List Frame) (meth : Method) (c : Code) (D : va_G) (g : Gm) (A : Nat → Prop) (post : Int32 → Sg → Prop) (F : Nat → Int32 → Int32 → Int32 → Int32 → Sg → Prop) : Prop := ∀ (x1 : Int32) (x3 : Int32) (x4 : Int32) (x5 : Int32) (σ : Sg) (H : Heap) (locs : List Loc) (ls : Array Slot), lv_has ls 6 [(0, .ref (g.1 0)), (1, .int x1), (2, .ref (g.1 10)), (3, .int x3), (4, .int x4), (5, .int x5)] → Wst D vwCl (WS g) A s σ H locs → F 1 x1 x3 x4 x5 σ → W p l e { frames := 1, cells := 0, slots := 0, locals := 26 } s m args below meth c H locs 0 0 (MQ below (QiW D vwCl (WS g) post A) args s 0 0 A) (F0 m 21 ls [])
set_option maxRecDepth 100000 in
set_option maxHeartbeats 4000000 in
theorem b_Tr_childNamed_0_0_0 {p : Program} {l : Launch} {e : Env} {s : State} {m : MethodId} {args : Array Value} {below : List Frame} {meth : Method} {c : Code} {D : va_G} {g : Gm} {A : Nat → Prop} {post : Int32 → Sg → Prop} {F : Nat → Int32 → Int32 → Int32 → Int32 → Sg → Prop} (C : kC p s m args meth c k_Tr_childNamed 6 (some .int) GW R_Tr D vwCl g (Zk g) A) (j1 : J_Tr_childNamed_0_0_1 p l e s m args below meth c D g A post F) (x1 : Int32) (x3 : Int32) (σ : Sg) (H : Heap) (locs : List Loc) (ls : Array Slot) (hl : lv_has ls 6 [(0, .ref (g.1 0)), (1, .int x1), (2, .ref (g.1 10)), (3, .int x3)]) (hst : Wst D vwCl (WS g) A s σ H locs) (h : wb_Tr_childNamed_0 0 0 F post x1 x3 σ) : W p l e { frames := 1, cells := 0, slots := 0, locals := 26 } s m args below meth c H locs 0 0 (MQ below (QiW D vwCl (WS g) post A) args s 0 0 A) (F0 m 0 ls []) := by
  obtain ⟨hx, hb, hr, hml, hown, hts, hlocks, hK, hZ, hA⟩ := C
  unfold wb_Tr_childNamed_0 at h
  refine lv_aload_n hx hb d_Tr_childNamed_0 rfl (lv_at hl 0 rfl) ?_
  refine va_get (D := D) (ci := 0) (C := R_Tr) (T := T_Tr) (N := 12) hx hb hts in_Tr hown hK hst.1 0 (WS_o0 g σ) rfl 1 (by decide) (hts _ gw131) (fun _ h9 => h9) rfl d_Tr_childNamed_1 ?_
  refine lv_iload_n hx hb d_Tr_childNamed_4 rfl (lv_at hl 1 rfl) ?_
  obtain ⟨hi, h⟩ := h
  refine va_iald hx hb hK hst.1 1 0 (WS_a1 g σ) rfl hi d_Tr_childNamed_5 ?_
  refine lv_bipush (v := (6 : Int32)) hx hb d_Tr_childNamed_6 (by decide) ?_
  refine lv_icmp_eq (tgt := 13) hx hb d_Tr_childNamed_8 (by decide) (fun hc => ?_) (fun hc => ?_)
  · replace h := h.1 hc
    refine lv_iconst (v := (0 : Int32)) hx hb d_Tr_childNamed_13 (by decide) ?_
    refine lv_istore hx hb d_Tr_childNamed_14 hl (by decide) rfl (fun ls hl => ?_)
    have hl : lv_has ls 6 [(4, .int (0 : Int32)), (0, .ref (g.1 0)), (1, .int x1), (2, .ref (g.1 10)), (3, .int x3)] := hl
    refine lv_iload_n hx hb d_Tr_childNamed_16 rfl (lv_at hl 2 rfl) ?_
    refine lv_iconst (v := (1 : Int32)) hx hb d_Tr_childNamed_17 (by decide) ?_
    refine lv_iadd hx hb d_Tr_childNamed_18 ?_
    refine lv_istore hx hb d_Tr_childNamed_19 hl (by decide) rfl (fun ls hl => ?_)
    have hl : lv_has ls 6 [(5, .int (x1 + (1 : Int32))), (4, .int (0 : Int32)), (0, .ref (g.1 0)), (1, .int x1), (2, .ref (g.1 10)), (3, .int x3)] := hl
    exact j1 x1 x3 (0 : Int32) (x1 + (1 : Int32)) σ _ _ _ (lv_sub hl [2, 3, 4, 5, 1, 0] rfl) hst h
  · replace h := h.2 hc
    refine lv_iconst (v := (-1 : Int32)) hx hb d_Tr_childNamed_11 (by decide) ?_
    exact kw_iret hx hb hr hlocks hst h d_Tr_childNamed_12
set_option maxRecDepth 100000 in
set_option maxHeartbeats 4000000 in
theorem b_Tr_childNamed_0_0_1 {p : Program} {l : Launch} {e : Env} {s : State} {m : MethodId} {args : Array Value} {below : List Frame} {meth : Method} {c : Code} {D : va_G} {g : Gm} {A : Nat → Prop} {post : Int32 → Sg → Prop} {F : Nat → Int32 → Int32 → Int32 → Int32 → Sg → Prop} (C : kC p s m args meth c k_Tr_childNamed 6 (some .int) GW R_Tr D vwCl g (Zk g) A) (j1 : J_Tr_childNamed_0_0_1 p l e s m args below meth c D g A post F) (x1 : Int32) (x3 : Int32) (x4 : Int32) (x5 : Int32) (σ : Sg) (H : Heap) (locs : List Loc) (ls : Array Slot) (hl : lv_has ls 6 [(0, .ref (g.1 0)), (1, .int x1), (2, .ref (g.1 10)), (3, .int x3), (4, .int x4), (5, .int x5)]) (hst : Wst D vwCl (WS g) A s σ H locs) (h : wb_Tr_childNamed_1 0 0 F post x1 x3 x4 x5 σ) : W p l e { frames := 1, cells := 0, slots := 0, locals := 26 } s m args below meth c H locs 0 0 (MQ below (QiW D vwCl (WS g) post A) args s 0 0 A) (F0 m 21 ls []) := by
  obtain ⟨hx, hb, hr, hml, hown, hts, hlocks, hK, hZ, hA⟩ := C
  unfold wb_Tr_childNamed_1 at h
  refine lv_iload hx hb d_Tr_childNamed_21 (lv_at hl 4 rfl) ?_
  refine lv_aload_n hx hb d_Tr_childNamed_23 rfl (lv_at hl 0 rfl) ?_
  refine va_get (D := D) (ci := 0) (C := R_Tr) (T := T_Tr) (N := 12) hx hb hts in_Tr hown hK hst.1 0 (WS_o0 g σ) rfl 5 (by decide) (hts _ gw148) (fun _ h9 => h9) rfl d_Tr_childNamed_24 ?_
  refine lv_iload_n hx hb d_Tr_childNamed_27 rfl (lv_at hl 1 rfl) ?_
  obtain ⟨hi, h⟩ := h
  refine va_iald hx hb hK hst.1 5 0 (WS_a5 g σ) rfl hi d_Tr_childNamed_28 ?_
  refine lv_icmp_ge (tgt := 71) hx hb d_Tr_childNamed_29 (by decide) (fun hc => ?_) (fun hc => ?_)
  · replace h := h.1 hc
    refine lv_iconst (v := (-1 : Int32)) hx hb d_Tr_childNamed_71 (by decide) ?_
    exact kw_iret hx hb hr hlocks hst h d_Tr_childNamed_72
  · replace h := h.2 hc
    refine lv_aload_n hx hb d_Tr_childNamed_32 rfl (lv_at hl 0 rfl) ?_
    refine va_get (D := D) (ci := 0) (C := R_Tr) (T := T_Tr) (N := 12) hx hb hts in_Tr hown hK hst.1 0 (WS_o0 g σ) rfl 0 (by decide) (hts _ gw126) (fun _ h9 => h9) rfl d_Tr_childNamed_33 ?_
    refine lv_aload_n hx hb d_Tr_childNamed_36 rfl (lv_at hl 0 rfl) ?_
    refine va_get (D := D) (ci := 0) (C := R_Tr) (T := T_Tr) (N := 12) hx hb hts in_Tr hown hK hst.1 0 (WS_o0 g σ) rfl 6 (by decide) (hts _ gw154) (fun _ h9 => h9) rfl d_Tr_childNamed_37 ?_
    refine lv_iload hx hb d_Tr_childNamed_40 (lv_at hl 5 rfl) ?_
    obtain ⟨hi, h⟩ := h
    refine va_iald hx hb hK hst.1 6 0 (WS_a6 g σ) rfl hi d_Tr_childNamed_42 ?_
    refine lv_iconst (v := (1 : Int32)) hx hb d_Tr_childNamed_43 (by decide) ?_
    refine lv_iadd hx hb d_Tr_childNamed_44 ?_
    refine lv_aload_n hx hb d_Tr_childNamed_45 rfl (lv_at hl 2 rfl) ?_
    refine lv_iload_n hx hb d_Tr_childNamed_46 rfl (lv_at hl 3 rfl) ?_
    refine kw_calli (va_runV (As := [.int ((σ.1 6 x5.toNatClampNeg) + (1 : Int32)), .ref (g.1 10), .int x3]) (rest := []) (b := g.1 10) ⟨hx, hb, hml, hown, hts⟩ (c_Tx_sameQuoted_0_0 l ((σ.1 6 x5.toNatClampNeg) + (1 : Int32)) x3 h) (cwV 3 hts (gd_v gw673 gw674 gw675 gw8 gw676) rfl rfl rfl (by decide +kernel) ⟨Nat.le_of_ble_eq_true rfl, Nat.le_of_ble_eq_true rfl⟩) ⟨kw_blind (Zk_ok g), va_recv hK hst.1 rfl (WS_o10 g σ), kw_pre (Zk_ok g) hK hZ hA hst⟩ rfl rfl hl.1 rfl (lv_room (Nat.le_of_ble_eq_true rfl)) d_Tr_childNamed_47 ⟨Nat.le_of_ble_eq_true rfl, Nat.le_of_ble_eq_true rfl⟩) hst hA (fun r1 σ1 H locs h hst => ?_)
    refine lv_if_eq (tgt := 56) hx hb d_Tr_childNamed_50 (by decide) (fun hc => ?_) (fun hc => ?_)
    · replace h := h.1 hc
      refine lv_iinc (k := 4) (v := (x4 + 1)) hx hb d_Tr_childNamed_56 hl rfl (kw_inc _ (by decide)) (by decide) rfl (fun ls hl => ?_)
      have hl : lv_has ls 6 [(4, .int (x4 + 1)), (0, .ref (g.1 0)), (1, .int x1), (2, .ref (g.1 10)), (3, .int x3), (5, .int x5)] := hl
      refine lv_aload_n hx hb d_Tr_childNamed_59 rfl (lv_at hl 1 rfl) ?_
      refine va_get (D := D) (ci := 0) (C := R_Tr) (T := T_Tr) (N := 12) hx hb hts in_Tr hown hK hst.1 0 (WS_o0 g σ1) rfl 8 (by decide) (hts _ gw163) (fun _ h9 => h9) rfl d_Tr_childNamed_60 ?_
      refine lv_iload hx hb d_Tr_childNamed_63 (lv_at hl 5 rfl) ?_
      obtain ⟨hi, h⟩ := h
      refine va_iald hx hb hK hst.1 8 0 (WS_a8 g σ1) rfl hi d_Tr_childNamed_65 ?_
      refine lv_istore hx hb d_Tr_childNamed_66 hl (by decide) rfl (fun ls hl => ?_)
      have hl : lv_has ls 6 [(5, .int (σ1.1 8 x5.toNatClampNeg)), (4, .int (x4 + 1)), (0, .ref (g.1 0)), (1, .int x1), (2, .ref (g.1 10)), (3, .int x3)] := hl
      refine lv_goto (tgt := 21) hx hb d_Tr_childNamed_68 (by decide) ?_
      exact j1 x1 x3 (x4 + 1) (σ1.1 8 x5.toNatClampNeg) σ1 _ _ _ (lv_sub hl [2, 3, 4, 5, 1, 0] rfl) hst h
    · replace h := h.2 hc
      refine lv_iload hx hb d_Tr_childNamed_53 (lv_at hl 5 rfl) ?_
      exact kw_iret hx hb hr hlocks hst h d_Tr_childNamed_55
set_option maxRecDepth 100000 in
set_option maxHeartbeats 4000000 in
theorem a_Tr_childNamed_0_0 {p : Program} {l : Launch} {e : Env} {s : State} {m : MethodId} {args : Array Value} {below : List Frame} {meth : Method} {c : Code} {D : va_G} {g : Gm} {A : Nat → Prop} {post : Int32 → Sg → Prop} (C : kC p s m args meth c k_Tr_childNamed 6 (some .int) GW R_Tr D vwCl g (Zk g) A) : ∀ n : Nat, J_Tr_childNamed_0_0_1 p l e s m args below meth c D g A post (wp_Tr_childNamed 0 0 post n) := by
  intro n
  induction n with
  | zero => exact fun _ _ _ _ _ _ _ _ _ _ h => h.elim
  | succ n ih => exact fun x1 x3 x4 x5 σ H locs ls hl hst h => b_Tr_childNamed_0_0_1 (F := wp_Tr_childNamed 0 0 post n) C (ih) x1 x3 x4 x5 σ H locs ls hl hst h
set_option maxRecDepth 100000 in
set_option maxHeartbeats 4000000 in
theorem c_Tr_childNamed_0_0 (l : Launch) {D : va_G} {g : Gm} {sz : Nat} (x1 : Int32) (x3 : Int32) {σ : Sg} {post : Int32 → Sg → Prop} (h : wq_Tr_childNamed 0 0 x1 x3 σ post) : Met l y_Tr_childNamed (.code y_Tr_childNamed k_Tr_childNamed 6 (some .int) :: GW) { frames := 1, cells := 0, slots := 0, locals := 26 } (PcW D vwCl (WS g) g (Zk g) σ sz [.ref (g.1 0), .int x1, .ref (g.1 10), .int x3]) (QiW D vwCl (WS g) post (va_A (WS g σ) sz)) 0 0 (va_A (WS g σ) sz) := by
  refine kw_entry (own := R_Tr) (by decide) rfl rfl (Nat.le_of_ble_eq_true rfl) ?_
  intro p e s m below meth c ls hsz C hin hl hst
  obtain ⟨n, h⟩ := h
  cases n with
  | zero => exact h.elim
  | succ n =>
    have ih := a_Tr_childNamed_0_0 (l := l) (e := e) (below := below) (post := post) C n
    exact b_Tr_childNamed_0_0_0 (F := wp_Tr_childNamed 0 0 post n) C (ih) x1 x3 σ _ _ ls hl hst h
def J_Tr_childNamed_0_13_1 (p : Program) (l : Launch) (e : Env) (s : State) (m : MethodId) (args : Array Value) (below : List Frame) (meth : Method) (c : Code) (D : va_G) (g : Gm) (A : Nat → Prop) (post : Int32 → Sg → Prop) (F : Nat → Int32 → Int32 → Int32 → Int32 → Sg → Prop) : Prop := ∀ (x1 : Int32) (x3 : Int32) (x4 : Int32) (x5 : Int32) (σ : Sg) (H : Heap) (locs : List Loc) (ls : Array Slot), lv_has ls 6 [(0, .ref (g.1 0)), (1, .int x1), (2, .ref (g.1 23)), (3, .int x3), (4, .int x4), (5, .int x5)] → Wst D vwCl (WS g) A s σ H locs → F 1 x1 x3 x4 x5 σ → W p l e { frames := 1, cells := 0, slots := 0, locals := 26 } s m args below meth c H locs 0 0 (MQ below (QiW D vwCl (WS g) post A) args s 0 0 A) (F0 m 21 ls [])
set_option maxRecDepth 100000 in
set_option maxHeartbeats 4000000 in
theorem b_Tr_childNamed_0_13_0 {p : Program} {l : Launch} {e : Env} {s : State} {m : MethodId} {args : Array Value} {below : List Frame} {meth : Method} {c : Code} {D : va_G} {g : Gm} {A : Nat → Prop} {post : Int32 → Sg → Prop} {F : Nat → Int32 → Int32 → Int32 → Int32 → Sg → Prop} (C : kC p s m args meth c k_Tr_childNamed 6 (some .int) GW R_Tr D vwCl g (Zk g) A) (j1 : J_Tr_childNamed_0_13_1 p l e s m args below meth c D g A post F) (x1 : Int32) (x3 : Int32) (σ : Sg) (H : Heap) (locs : List Loc) (ls : Array Slot) (hl : lv_has ls 6 [(0, .ref (g.1 0)), (1, .int x1), (2, .ref (g.1 23)), (3, .int x3)]) (hst : Wst D vwCl (WS g) A s σ H locs) (h : wb_Tr_childNamed_0 0 13 F post x1 x3 σ) : W p l e { frames := 1, cells := 0, slots := 0, locals := 26 } s m args below meth c H locs 0 0 (MQ below (QiW D vwCl (WS g) post A) args s 0 0 A) (F0 m 0 ls []) := by
  obtain ⟨hx, hb, hr, hml, hown, hts, hlocks, hK, hZ, hA⟩ := C
  unfold wb_Tr_childNamed_0 at h
  refine lv_aload_n hx hb d_Tr_childNamed_0 rfl (lv_at hl 0 rfl) ?_
  refine va_get (D := D) (ci := 0) (C := R_Tr) (T := T_Tr) (N := 12) hx hb hts in_Tr hown hK hst.1 0 (WS_o0 g σ) rfl 1 (by decide) (hts _ gw131) (fun _ h9 => h9) rfl d_Tr_childNamed_1 ?_
  refine lv_iload_n hx hb d_Tr_childNamed_4 rfl (lv_at hl 1 rfl) ?_
  obtain ⟨hi, h⟩ := h
  refine va_iald hx hb hK hst.1 1 0 (WS_a1 g σ) rfl hi d_Tr_childNamed_5 ?_
  refine lv_bipush (v := (6 : Int32)) hx hb d_Tr_childNamed_6 (by decide) ?_
  refine lv_icmp_eq (tgt := 13) hx hb d_Tr_childNamed_8 (by decide) (fun hc => ?_) (fun hc => ?_)
  · replace h := h.1 hc
    refine lv_iconst (v := (0 : Int32)) hx hb d_Tr_childNamed_13 (by decide) ?_
    refine lv_istore hx hb d_Tr_childNamed_14 hl (by decide) rfl (fun ls hl => ?_)
    have hl : lv_has ls 6 [(4, .int (0 : Int32)), (0, .ref (g.1 0)), (1, .int x1), (2, .ref (g.1 23)), (3, .int x3)] := hl
    refine lv_iload_n hx hb d_Tr_childNamed_16 rfl (lv_at hl 2 rfl) ?_
    refine lv_iconst (v := (1 : Int32)) hx hb d_Tr_childNamed_17 (by decide) ?_
    refine lv_iadd hx hb d_Tr_childNamed_18 ?_
    refine lv_istore hx hb d_Tr_childNamed_19 hl (by decide) rfl (fun ls hl => ?_)
    have hl : lv_has ls 6 [(5, .int (x1 + (1 : Int32))), (4, .int (0 : Int32)), (0, .ref (g.1 0)), (1, .int x1), (2, .ref (g.1 23)), (3, .int x3)] := hl
    exact j1 x1 x3 (0 : Int32) (x1 + (1 : Int32)) σ _ _ _ (lv_sub hl [2, 3, 4, 5, 1, 0] rfl) hst h
  · replace h := h.2 hc
    refine lv_iconst (v := (-1 : Int32)) hx hb d_Tr_childNamed_11 (by decide) ?_
    exact kw_iret hx hb hr hlocks hst h d_Tr_childNamed_12
set_option maxRecDepth 100000 in
set_option maxHeartbeats 4000000 in
theorem b_Tr_childNamed_0_13_1 {p : Program} {l : Launch} {e : Env} {s : State} {m : MethodId} {args : Array Value} {below : List Frame} {meth : Method} {c : Code} {D : va_G} {g : Gm} {A : Nat → Prop} {post : Int32 → Sg → Prop} {F : Nat → Int32 → Int32 → Int32 → Int32 → Sg → Prop} (C : kC p s m args meth c k_Tr_childNamed 6 (some .int) GW R_Tr D vwCl g (Zk g) A) (j1 : J_Tr_childNamed_0_13_1 p l e s m args below meth c D g A post F) (x1 : Int32) (x3 : Int32) (x4 : Int32) (x5 : Int32) (σ : Sg) (H : Heap) (locs : List Loc) (ls : Array Slot) (hl : lv_has ls 6 [(0, .ref (g.1 0)), (1, .int x1), (2, .ref (g.1 23)), (3, .int x3), (4, .int x4), (5, .int x5)]) (hst : Wst D vwCl (WS g) A s σ H locs) (h : wb_Tr_childNamed_1 0 13 F post x1 x3 x4 x5 σ) : W p l e { frames := 1, cells := 0, slots := 0, locals := 26 } s m args below meth c H locs 0 0 (MQ below (QiW D vwCl (WS g) post A) args s 0 0 A) (F0 m 21 ls []) := by
  obtain ⟨hx, hb, hr, hml, hown, hts, hlocks, hK, hZ, hA⟩ := C
  unfold wb_Tr_childNamed_1 at h
  refine lv_iload hx hb d_Tr_childNamed_21 (lv_at hl 4 rfl) ?_
  refine lv_aload_n hx hb d_Tr_childNamed_23 rfl (lv_at hl 0 rfl) ?_
  refine va_get (D := D) (ci := 0) (C := R_Tr) (T := T_Tr) (N := 12) hx hb hts in_Tr hown hK hst.1 0 (WS_o0 g σ) rfl 5 (by decide) (hts _ gw148) (fun _ h9 => h9) rfl d_Tr_childNamed_24 ?_
  refine lv_iload_n hx hb d_Tr_childNamed_27 rfl (lv_at hl 1 rfl) ?_
  obtain ⟨hi, h⟩ := h
  refine va_iald hx hb hK hst.1 5 0 (WS_a5 g σ) rfl hi d_Tr_childNamed_28 ?_
  refine lv_icmp_ge (tgt := 71) hx hb d_Tr_childNamed_29 (by decide) (fun hc => ?_) (fun hc => ?_)
  · replace h := h.1 hc
    refine lv_iconst (v := (-1 : Int32)) hx hb d_Tr_childNamed_71 (by decide) ?_
    exact kw_iret hx hb hr hlocks hst h d_Tr_childNamed_72
  · replace h := h.2 hc
    refine lv_aload_n hx hb d_Tr_childNamed_32 rfl (lv_at hl 0 rfl) ?_
    refine va_get (D := D) (ci := 0) (C := R_Tr) (T := T_Tr) (N := 12) hx hb hts in_Tr hown hK hst.1 0 (WS_o0 g σ) rfl 0 (by decide) (hts _ gw126) (fun _ h9 => h9) rfl d_Tr_childNamed_33 ?_
    refine lv_aload_n hx hb d_Tr_childNamed_36 rfl (lv_at hl 0 rfl) ?_
    refine va_get (D := D) (ci := 0) (C := R_Tr) (T := T_Tr) (N := 12) hx hb hts in_Tr hown hK hst.1 0 (WS_o0 g σ) rfl 6 (by decide) (hts _ gw154) (fun _ h9 => h9) rfl d_Tr_childNamed_37 ?_
    refine lv_iload hx hb d_Tr_childNamed_40 (lv_at hl 5 rfl) ?_
    obtain ⟨hi, h⟩ := h
    refine va_iald hx hb hK hst.1 6 0 (WS_a6 g σ) rfl hi d_Tr_childNamed_42 ?_
    refine lv_iconst (v := (1 : Int32)) hx hb d_Tr_childNamed_43 (by decide) ?_
    refine lv_iadd hx hb d_Tr_childNamed_44 ?_
    refine lv_aload_n hx hb d_Tr_childNamed_45 rfl (lv_at hl 2 rfl) ?_
    refine lv_iload_n hx hb d_Tr_childNamed_46 rfl (lv_at hl 3 rfl) ?_
    refine kw_calli (va_runV (As := [.int ((σ.1 6 x5.toNatClampNeg) + (1 : Int32)), .ref (g.1 23), .int x3]) (rest := []) (b := g.1 10) ⟨hx, hb, hml, hown, hts⟩ (c_Tx_sameQuoted_0_13 l ((σ.1 6 x5.toNatClampNeg) + (1 : Int32)) x3 h) (cwV 3 hts (gd_v gw673 gw674 gw675 gw8 gw676) rfl rfl rfl (by decide +kernel) ⟨Nat.le_of_ble_eq_true rfl, Nat.le_of_ble_eq_true rfl⟩) ⟨kw_blind (Zk_ok g), va_recv hK hst.1 rfl (WS_o10 g σ), kw_pre (Zk_ok g) hK hZ hA hst⟩ rfl rfl hl.1 rfl (lv_room (Nat.le_of_ble_eq_true rfl)) d_Tr_childNamed_47 ⟨Nat.le_of_ble_eq_true rfl, Nat.le_of_ble_eq_true rfl⟩) hst hA (fun r1 σ1 H locs h hst => ?_)
    refine lv_if_eq (tgt := 56) hx hb d_Tr_childNamed_50 (by decide) (fun hc => ?_) (fun hc => ?_)
    · replace h := h.1 hc
      refine lv_iinc (k := 4) (v := (x4 + 1)) hx hb d_Tr_childNamed_56 hl rfl (kw_inc _ (by decide)) (by decide) rfl (fun ls hl => ?_)
      have hl : lv_has ls 6 [(4, .int (x4 + 1)), (0, .ref (g.1 0)), (1, .int x1), (2, .ref (g.1 23)), (3, .int x3), (5, .int x5)] := hl
      refine lv_aload_n hx hb d_Tr_childNamed_59 rfl (lv_at hl 1 rfl) ?_
      refine va_get (D := D) (ci := 0) (C := R_Tr) (T := T_Tr) (N := 12) hx hb hts in_Tr hown hK hst.1 0 (WS_o0 g σ1) rfl 8 (by decide) (hts _ gw163) (fun _ h9 => h9) rfl d_Tr_childNamed_60 ?_
      refine lv_iload hx hb d_Tr_childNamed_63 (lv_at hl 5 rfl) ?_
      obtain ⟨hi, h⟩ := h
      refine va_iald hx hb hK hst.1 8 0 (WS_a8 g σ1) rfl hi d_Tr_childNamed_65 ?_
      refine lv_istore hx hb d_Tr_childNamed_66 hl (by decide) rfl (fun ls hl => ?_)
      have hl : lv_has ls 6 [(5, .int (σ1.1 8 x5.toNatClampNeg)), (4, .int (x4 + 1)), (0, .ref (g.1 0)), (1, .int x1), (2, .ref (g.1 23)), (3, .int x3)] := hl
      refine lv_goto (tgt := 21) hx hb d_Tr_childNamed_68 (by decide) ?_
      exact j1 x1 x3 (x4 + 1) (σ1.1 8 x5.toNatClampNeg) σ1 _ _ _ (lv_sub hl [2, 3, 4, 5, 1, 0] rfl) hst h
    · replace h := h.2 hc
      refine lv_iload hx hb d_Tr_childNamed_53 (lv_at hl 5 rfl) ?_
      exact kw_iret hx hb hr hlocks hst h d_Tr_childNamed_55
set_option maxRecDepth 100000 in
set_option maxHeartbeats 4000000 in
theorem a_Tr_childNamed_0_13 {p : Program} {l : Launch} {e : Env} {s : State} {m : MethodId} {args : Array Value} {below : List Frame} {meth : Method} {c : Code} {D : va_G} {g : Gm} {A : Nat → Prop} {post : Int32 → Sg → Prop} (C : kC p s m args meth c k_Tr_childNamed 6 (some .int) GW R_Tr D vwCl g (Zk g) A) : ∀ n : Nat, J_Tr_childNamed_0_13_1 p l e s m args below meth c D g A post (wp_Tr_childNamed 0 13 post n) := by
  intro n
  induction n with
  | zero => exact fun _ _ _ _ _ _ _ _ _ _ h => h.elim
  | succ n ih => exact fun x1 x3 x4 x5 σ H locs ls hl hst h => b_Tr_childNamed_0_13_1 (F := wp_Tr_childNamed 0 13 post n) C (ih) x1 x3 x4 x5 σ H locs ls hl hst h
set_option maxRecDepth 100000 in
set_option maxHeartbeats 4000000 in
theorem c_Tr_childNamed_0_13 (l : Launch) {D : va_G} {g : Gm} {sz : Nat} (x1 : Int32) (x3 : Int32) {σ : Sg} {post : Int32 → Sg → Prop} (h : wq_Tr_childNamed 0 13 x1 x3 σ post) : Met l y_Tr_childNamed (.code y_Tr_childNamed k_Tr_childNamed 6 (some .int) :: GW) { frames := 1, cells := 0, slots := 0, locals := 26 } (PcW D vwCl (WS g) g (Zk g) σ sz [.ref (g.1 0), .int x1, .ref (g.1 23), .int x3]) (QiW D vwCl (WS g) post (va_A (WS g σ) sz)) 0 0 (va_A (WS g σ) sz) := by
  refine kw_entry (own := R_Tr) (by decide) rfl rfl (Nat.le_of_ble_eq_true rfl) ?_
  intro p e s m below meth c ls hsz C hin hl hst
  obtain ⟨n, h⟩ := h
  cases n with
  | zero => exact h.elim
  | succ n =>
    have ih := a_Tr_childNamed_0_13 (l := l) (e := e) (below := below) (post := post) C n
    exact b_Tr_childNamed_0_13_0 (F := wp_Tr_childNamed 0 13 post n) C (ih) x1 x3 σ _ _ ls hl hst h
def J_Tr_childNamed_13_0_1 (p : Program) (l : Launch) (e : Env) (s : State) (m : MethodId) (args : Array Value) (below : List Frame) (meth : Method) (c : Code) (D : va_G) (g : Gm) (A : Nat → Prop) (post : Int32 → Sg → Prop) (F : Nat → Int32 → Int32 → Int32 → Int32 → Sg → Prop) : Prop := ∀ (x1 : Int32) (x3 : Int32) (x4 : Int32) (x5 : Int32) (σ : Sg) (H : Heap) (locs : List Loc) (ls : Array Slot), lv_has ls 6 [(0, .ref (g.1 13)), (1, .int x1), (2, .ref (g.1 10)), (3, .int x3), (4, .int x4), (5, .int x5)] → Wst D vwCl (WS g) A s σ H locs → F 1 x1 x3 x4 x5 σ → W p l e { frames := 1, cells := 0, slots := 0, locals := 26 } s m args below meth c H locs 0 0 (MQ below (QiW D vwCl (WS g) post A) args s 0 0 A) (F0 m 21 ls [])
set_option maxRecDepth 100000 in
set_option maxHeartbeats 4000000 in
theorem b_Tr_childNamed_13_0_0 {p : Program} {l : Launch} {e : Env} {s : State} {m : MethodId} {args : Array Value} {below : List Frame} {meth : Method} {c : Code} {D : va_G} {g : Gm} {A : Nat → Prop} {post : Int32 → Sg → Prop} {F : Nat → Int32 → Int32 → Int32 → Int32 → Sg → Prop} (C : kC p s m args meth c k_Tr_childNamed 6 (some .int) GW R_Tr D vwCl g (Zk g) A) (j1 : J_Tr_childNamed_13_0_1 p l e s m args below meth c D g A post F) (x1 : Int32) (x3 : Int32) (σ : Sg) (H : Heap) (locs : List Loc) (ls : Array Slot) (hl : lv_has ls 6 [(0, .ref (g.1 13)), (1, .int x1), (2, .ref (g.1 10)), (3, .int x3)]) (hst : Wst D vwCl (WS g) A s σ H locs) (h : wb_Tr_childNamed_0 13 0 F post x1 x3 σ) : W p l e { frames := 1, cells := 0, slots := 0, locals := 26 } s m args below meth c H locs 0 0 (MQ below (QiW D vwCl (WS g) post A) args s 0 0 A) (F0 m 0 ls []) := by
  obtain ⟨hx, hb, hr, hml, hown, hts, hlocks, hK, hZ, hA⟩ := C
  unfold wb_Tr_childNamed_0 at h
  refine lv_aload_n hx hb d_Tr_childNamed_0 rfl (lv_at hl 0 rfl) ?_
  refine va_get (D := D) (ci := 0) (C := R_Tr) (T := T_Tr) (N := 12) hx hb hts in_Tr hown hK hst.1 13 (WS_o13 g σ) rfl 1 (by decide) (hts _ gw131) (fun _ h9 => h9) rfl d_Tr_childNamed_1 ?_
  refine lv_iload_n hx hb d_Tr_childNamed_4 rfl (lv_at hl 1 rfl) ?_
  obtain ⟨hi, h⟩ := h
  refine va_iald hx hb hK hst.1 14 0 (WS_a14 g σ) rfl hi d_Tr_childNamed_5 ?_
  refine lv_bipush (v := (6 : Int32)) hx hb d_Tr_childNamed_6 (by decide) ?_
  refine lv_icmp_eq (tgt := 13) hx hb d_Tr_childNamed_8 (by decide) (fun hc => ?_) (fun hc => ?_)
  · replace h := h.1 hc
    refine lv_iconst (v := (0 : Int32)) hx hb d_Tr_childNamed_13 (by decide) ?_
    refine lv_istore hx hb d_Tr_childNamed_14 hl (by decide) rfl (fun ls hl => ?_)
    have hl : lv_has ls 6 [(4, .int (0 : Int32)), (0, .ref (g.1 13)), (1, .int x1), (2, .ref (g.1 10)), (3, .int x3)] := hl
    refine lv_iload_n hx hb d_Tr_childNamed_16 rfl (lv_at hl 2 rfl) ?_
    refine lv_iconst (v := (1 : Int32)) hx hb d_Tr_childNamed_17 (by decide) ?_
    refine lv_iadd hx hb d_Tr_childNamed_18 ?_
    refine lv_istore hx hb d_Tr_childNamed_19 hl (by decide) rfl (fun ls hl => ?_)
    have hl : lv_has ls 6 [(5, .int (x1 + (1 : Int32))), (4, .int (0 : Int32)), (0, .ref (g.1 13)), (1, .int x1), (2, .ref (g.1 10)), (3, .int x3)] := hl
    exact j1 x1 x3 (0 : Int32) (x1 + (1 : Int32)) σ _ _ _ (lv_sub hl [2, 3, 4, 5, 1, 0] rfl) hst h
  · replace h := h.2 hc
    refine lv_iconst (v := (-1 : Int32)) hx hb d_Tr_childNamed_11 (by decide) ?_
    exact kw_iret hx hb hr hlocks hst h d_Tr_childNamed_12
set_option maxRecDepth 100000 in
set_option maxHeartbeats 4000000 in
theorem b_Tr_childNamed_13_0_1 {p : Program} {l : Launch} {e : Env} {s : State} {m : MethodId} {args : Array Value} {below : List Frame} {meth : Method} {c : Code} {D : va_G} {g : Gm} {A : Nat → Prop} {post : Int32 → Sg → Prop} {F : Nat → Int32 → Int32 → Int32 → Int32 → Sg → Prop} (C : kC p s m args meth c k_Tr_childNamed 6 (some .int) GW R_Tr D vwCl g (Zk g) A) (j1 : J_Tr_childNamed_13_0_1 p l e s m args below meth c D g A post F) (x1 : Int32) (x3 : Int32) (x4 : Int32) (x5 : Int32) (σ : Sg) (H : Heap) (locs : List Loc) (ls : Array Slot) (hl : lv_has ls 6 [(0, .ref (g.1 13)), (1, .int x1), (2, .ref (g.1 10)), (3, .int x3), (4, .int x4), (5, .int x5)]) (hst : Wst D vwCl (WS g) A s σ H locs) (h : wb_Tr_childNamed_1 13 0 F post x1 x3 x4 x5 σ) : W p l e { frames := 1, cells := 0, slots := 0, locals := 26 } s m args below meth c H locs 0 0 (MQ below (QiW D vwCl (WS g) post A) args s 0 0 A) (F0 m 21 ls []) := by
  obtain ⟨hx, hb, hr, hml, hown, hts, hlocks, hK, hZ, hA⟩ := C
  unfold wb_Tr_childNamed_1 at h
  refine lv_iload hx hb d_Tr_childNamed_21 (lv_at hl 4 rfl) ?_
  refine lv_aload_n hx hb d_Tr_childNamed_23 rfl (lv_at hl 0 rfl) ?_
  refine va_get (D := D) (ci := 0) (C := R_Tr) (T := T_Tr) (N := 12) hx hb hts in_Tr hown hK hst.1 13 (WS_o13 g σ) rfl 5 (by decide) (hts _ gw148) (fun _ h9 => h9) rfl d_Tr_childNamed_24 ?_
  refine lv_iload_n hx hb d_Tr_childNamed_27 rfl (lv_at hl 1 rfl) ?_
  obtain ⟨hi, h⟩ := h
  refine va_iald hx hb hK hst.1 18 0 (WS_a18 g σ) rfl hi d_Tr_childNamed_28 ?_
  refine lv_icmp_ge (tgt := 71) hx hb d_Tr_childNamed_29 (by decide) (fun hc => ?_) (fun hc => ?_)
  · replace h := h.1 hc
    refine lv_iconst (v := (-1 : Int32)) hx hb d_Tr_childNamed_71 (by decide) ?_
    exact kw_iret hx hb hr hlocks hst h d_Tr_childNamed_72
  · replace h := h.2 hc
    refine lv_aload_n hx hb d_Tr_childNamed_32 rfl (lv_at hl 0 rfl) ?_
    refine va_get (D := D) (ci := 0) (C := R_Tr) (T := T_Tr) (N := 12) hx hb hts in_Tr hown hK hst.1 13 (WS_o13 g σ) rfl 0 (by decide) (hts _ gw126) (fun _ h9 => h9) rfl d_Tr_childNamed_33 ?_
    refine lv_aload_n hx hb d_Tr_childNamed_36 rfl (lv_at hl 0 rfl) ?_
    refine va_get (D := D) (ci := 0) (C := R_Tr) (T := T_Tr) (N := 12) hx hb hts in_Tr hown hK hst.1 13 (WS_o13 g σ) rfl 6 (by decide) (hts _ gw154) (fun _ h9 => h9) rfl d_Tr_childNamed_37 ?_
    refine lv_iload hx hb d_Tr_childNamed_40 (lv_at hl 5 rfl) ?_
    obtain ⟨hi, h⟩ := h
    refine va_iald hx hb hK hst.1 19 0 (WS_a19 g σ) rfl hi d_Tr_childNamed_42 ?_
    refine lv_iconst (v := (1 : Int32)) hx hb d_Tr_childNamed_43 (by decide) ?_
    refine lv_iadd hx hb d_Tr_childNamed_44 ?_
    refine lv_aload_n hx hb d_Tr_childNamed_45 rfl (lv_at hl 2 rfl) ?_
    refine lv_iload_n hx hb d_Tr_childNamed_46 rfl (lv_at hl 3 rfl) ?_
    refine kw_calli (va_runV (As := [.int ((σ.1 19 x5.toNatClampNeg) + (1 : Int32)), .ref (g.1 10), .int x3]) (rest := []) (b := g.1 23) ⟨hx, hb, hml, hown, hts⟩ (c_Tx_sameQuoted_13_0 l ((σ.1 19 x5.toNatClampNeg) + (1 : Int32)) x3 h) (cwV 3 hts (gd_v gw673 gw674 gw675 gw8 gw676) rfl rfl rfl (by decide +kernel) ⟨Nat.le_of_ble_eq_true rfl, Nat.le_of_ble_eq_true rfl⟩) ⟨kw_blind (Zk_ok g), va_recv hK hst.1 rfl (WS_o23 g σ), kw_pre (Zk_ok g) hK hZ hA hst⟩ rfl rfl hl.1 rfl (lv_room (Nat.le_of_ble_eq_true rfl)) d_Tr_childNamed_47 ⟨Nat.le_of_ble_eq_true rfl, Nat.le_of_ble_eq_true rfl⟩) hst hA (fun r1 σ1 H locs h hst => ?_)
    refine lv_if_eq (tgt := 56) hx hb d_Tr_childNamed_50 (by decide) (fun hc => ?_) (fun hc => ?_)
    · replace h := h.1 hc
      refine lv_iinc (k := 4) (v := (x4 + 1)) hx hb d_Tr_childNamed_56 hl rfl (kw_inc _ (by decide)) (by decide) rfl (fun ls hl => ?_)
      have hl : lv_has ls 6 [(4, .int (x4 + 1)), (0, .ref (g.1 13)), (1, .int x1), (2, .ref (g.1 10)), (3, .int x3), (5, .int x5)] := hl
      refine lv_aload_n hx hb d_Tr_childNamed_59 rfl (lv_at hl 1 rfl) ?_
      refine va_get (D := D) (ci := 0) (C := R_Tr) (T := T_Tr) (N := 12) hx hb hts in_Tr hown hK hst.1 13 (WS_o13 g σ1) rfl 8 (by decide) (hts _ gw163) (fun _ h9 => h9) rfl d_Tr_childNamed_60 ?_
      refine lv_iload hx hb d_Tr_childNamed_63 (lv_at hl 5 rfl) ?_
      obtain ⟨hi, h⟩ := h
      refine va_iald hx hb hK hst.1 21 0 (WS_a21 g σ1) rfl hi d_Tr_childNamed_65 ?_
      refine lv_istore hx hb d_Tr_childNamed_66 hl (by decide) rfl (fun ls hl => ?_)
      have hl : lv_has ls 6 [(5, .int (σ1.1 21 x5.toNatClampNeg)), (4, .int (x4 + 1)), (0, .ref (g.1 13)), (1, .int x1), (2, .ref (g.1 10)), (3, .int x3)] := hl
      refine lv_goto (tgt := 21) hx hb d_Tr_childNamed_68 (by decide) ?_
      exact j1 x1 x3 (x4 + 1) (σ1.1 21 x5.toNatClampNeg) σ1 _ _ _ (lv_sub hl [2, 3, 4, 5, 1, 0] rfl) hst h
    · replace h := h.2 hc
      refine lv_iload hx hb d_Tr_childNamed_53 (lv_at hl 5 rfl) ?_
      exact kw_iret hx hb hr hlocks hst h d_Tr_childNamed_55
set_option maxRecDepth 100000 in
set_option maxHeartbeats 4000000 in
theorem a_Tr_childNamed_13_0 {p : Program} {l : Launch} {e : Env} {s : State} {m : MethodId} {args : Array Value} {below : List Frame} {meth : Method} {c : Code} {D : va_G} {g : Gm} {A : Nat → Prop} {post : Int32 → Sg → Prop} (C : kC p s m args meth c k_Tr_childNamed 6 (some .int) GW R_Tr D vwCl g (Zk g) A) : ∀ n : Nat, J_Tr_childNamed_13_0_1 p l e s m args below meth c D g A post (wp_Tr_childNamed 13 0 post n) := by
  intro n
  induction n with
  | zero => exact fun _ _ _ _ _ _ _ _ _ _ h => h.elim
  | succ n ih => exact fun x1 x3 x4 x5 σ H locs ls hl hst h => b_Tr_childNamed_13_0_1 (F := wp_Tr_childNamed 13 0 post n) C (ih) x1 x3 x4 x5 σ H locs ls hl hst h
set_option maxRecDepth 100000 in
set_option maxHeartbeats 4000000 in
theorem c_Tr_childNamed_13_0 (l : Launch) {D : va_G} {g : Gm} {sz : Nat} (x1 : Int32) (x3 : Int32) {σ : Sg} {post : Int32 → Sg → Prop} (h : wq_Tr_childNamed 13 0 x1 x3 σ post) : Met l y_Tr_childNamed (.code y_Tr_childNamed k_Tr_childNamed 6 (some .int) :: GW) { frames := 1, cells := 0, slots := 0, locals := 26 } (PcW D vwCl (WS g) g (Zk g) σ sz [.ref (g.1 13), .int x1, .ref (g.1 10), .int x3]) (QiW D vwCl (WS g) post (va_A (WS g σ) sz)) 0 0 (va_A (WS g σ) sz) := by
  refine kw_entry (own := R_Tr) (by decide) rfl rfl (Nat.le_of_ble_eq_true rfl) ?_
  intro p e s m below meth c ls hsz C hin hl hst
  obtain ⟨n, h⟩ := h
  cases n with
  | zero => exact h.elim
  | succ n =>
    have ih := a_Tr_childNamed_13_0 (l := l) (e := e) (below := below) (post := post) C n
    exact b_Tr_childNamed_13_0_0 (F := wp_Tr_childNamed 13 0 post n) C (ih) x1 x3 σ _ _ ls hl hst h
def J_Tr_childNamed_13_13_1 (p : Program) (l : Launch) (e : Env) (s : State) (m : MethodId) (args : Array Value) (below : List Frame) (meth : Method) (c : Code) (D : va_G) (g : Gm) (A : Nat → Prop) (post : Int32 → Sg → Prop) (F : Nat → Int32 → Int32 → Int32 → Int32 → Sg → Prop) : Prop := ∀ (x1 : Int32) (x3 : Int32) (x4 : Int32) (x5 : Int32) (σ : Sg) (H : Heap) (locs : List Loc) (ls : Array Slot), lv_has ls 6 [(0, .ref (g.1 13)), (1, .int x1), (2, .ref (g.1 23)), (3, .int x3), (4, .int x4), (5, .int x5)] → Wst D vwCl (WS g) A s σ H locs → F 1 x1 x3 x4 x5 σ → W p l e { frames := 1, cells := 0, slots := 0, locals := 26 } s m args below meth c H locs 0 0 (MQ below (QiW D vwCl (WS g) post A) args s 0 0 A) (F0 m 21 ls [])
set_option maxRecDepth 100000 in
set_option maxHeartbeats 4000000 in
theorem b_Tr_childNamed_13_13_0 {p : Program} {l : Launch} {e : Env} {s : State} {m : MethodId} {args : Array Value} {below : List Frame} {meth : Method} {c : Code} {D : va_G} {g : Gm} {A : Nat → Prop} {post : Int32 → Sg → Prop} {F : Nat → Int32 → Int32 → Int32 → Int32 → Sg → Prop} (C : kC p s m args meth c k_Tr_childNamed 6 (some .int) GW R_Tr D vwCl g (Zk g) A) (j1 : J_Tr_childNamed_13_13_1 p l e s m args below meth c D g A post F) (x1 : Int32) (x3 : Int32) (σ : Sg) (H : Heap) (locs : List Loc) (ls : Array Slot) (hl : lv_has ls 6 [(0, .ref (g.1 13)), (1, .int x1), (2, .ref (g.1 23)), (3, .int x3)]) (hst : Wst D vwCl (WS g) A s σ H locs) (h : wb_Tr_childNamed_0 13 13 F post x1 x3 σ) : W p l e { frames := 1, cells := 0, slots := 0, locals := 26 } s m args below meth c H locs 0 0 (MQ below (QiW D vwCl (WS g) post A) args s 0 0 A) (F0 m 0 ls []) := by
  obtain ⟨hx, hb, hr, hml, hown, hts, hlocks, hK, hZ, hA⟩ := C
  unfold wb_Tr_childNamed_0 at h
  refine lv_aload_n hx hb d_Tr_childNamed_0 rfl (lv_at hl 0 rfl) ?_
  refine va_get (D := D) (ci := 0) (C := R_Tr) (T := T_Tr) (N := 12) hx hb hts in_Tr hown hK hst.1 13 (WS_o13 g σ) rfl 1 (by decide) (hts _ gw131) (fun _ h9 => h9) rfl d_Tr_childNamed_1 ?_
  refine lv_iload_n hx hb d_Tr_childNamed_4 rfl (lv_at hl 1 rfl) ?_
  obtain ⟨hi, h⟩ := h
  refine va_iald hx hb hK hst.1 14 0 (WS_a14 g σ) rfl hi d_Tr_childNamed_5 ?_
  refine lv_bipush (v := (6 : Int32)) hx hb d_Tr_childNamed_6 (by decide) ?_
  refine lv_icmp_eq (tgt := 13) hx hb d_Tr_childNamed_8 (by decide) (fun hc => ?_) (fun hc => ?_)
  · replace h := h.1 hc
    refine lv_iconst (v := (0 : Int32)) hx hb d_Tr_childNamed_13 (by decide) ?_
    refine lv_istore hx hb d_Tr_childNamed_14 hl (by decide) rfl (fun ls hl => ?_)
    have hl : lv_has ls 6 [(4, .int (0 : Int32)), (0, .ref (g.1 13)), (1, .int x1), (2, .ref (g.1 23)), (3, .int x3)] := hl
    refine lv_iload_n hx hb d_Tr_childNamed_16 rfl (lv_at hl 2 rfl) ?_
    refine lv_iconst (v := (1 : Int32)) hx hb d_Tr_childNamed_17 (by decide) ?_
    refine lv_iadd hx hb d_Tr_childNamed_18 ?_
    refine lv_istore hx hb d_Tr_childNamed_19 hl (by decide) rfl (fun ls hl => ?_)
    have hl : lv_has ls 6 [(5, .int (x1 + (1 : Int32))), (4, .int (0 : Int32)), (0, .ref (g.1 13)), (1, .int x1), (2, .ref (g.1 23)), (3, .int x3)] := hl
    exact j1 x1 x3 (0 : Int32) (x1 + (1 : Int32)) σ _ _ _ (lv_sub hl [2, 3, 4, 5, 1, 0] rfl) hst h
  · replace h := h.2 hc
    refine lv_iconst (v := (-1 : Int32)) hx hb d_Tr_childNamed_11 (by decide) ?_
    exact kw_iret hx hb hr hlocks hst h d_Tr_childNamed_12
set_option maxRecDepth 100000 in
set_option maxHeartbeats 4000000 in
theorem b_Tr_childNamed_13_13_1 {p : Program} {l : Launch} {e : Env} {s : State} {m : MethodId} {args : Array Value} {below : List Frame} {meth : Method} {c : Code} {D : va_G} {g : Gm} {A : Nat → Prop} {post : Int32 → Sg → Prop} {F : Nat → Int32 → Int32 → Int32 → Int32 → Sg → Prop} (C : kC p s m args meth c k_Tr_childNamed 6 (some .int) GW R_Tr D vwCl g (Zk g) A) (j1 : J_Tr_childNamed_13_13_1 p l e s m args below meth c D g A post F) (x1 : Int32) (x3 : Int32) (x4 : Int32) (x5 : Int32) (σ : Sg) (H : Heap) (locs : List Loc) (ls : Array Slot) (hl : lv_has ls 6 [(0, .ref (g.1 13)), (1, .int x1), (2, .ref (g.1 23)), (3, .int x3), (4, .int x4), (5, .int x5)]) (hst : Wst D vwCl (WS g) A s σ H locs) (h : wb_Tr_childNamed_1 13 13 F post x1 x3 x4 x5 σ) : W p l e { frames := 1, cells := 0, slots := 0, locals := 26 } s m args below meth c H locs 0 0 (MQ below (QiW D vwCl (WS g) post A) args s 0 0 A) (F0 m 21 ls []) := by
  obtain ⟨hx, hb, hr, hml, hown, hts, hlocks, hK, hZ, hA⟩ := C
  unfold wb_Tr_childNamed_1 at h
  refine lv_iload hx hb d_Tr_childNamed_21 (lv_at hl 4 rfl) ?_
  refine lv_aload_n hx hb d_Tr_childNamed_23 rfl (lv_at hl 0 rfl) ?_
  refine va_get (D := D) (ci := 0) (C := R_Tr) (T := T_Tr) (N := 12) hx hb hts in_Tr hown hK hst.1 13 (WS_o13 g σ) rfl 5 (by decide) (hts _ gw148) (fun _ h9 => h9) rfl d_Tr_childNamed_24 ?_
  refine lv_iload_n hx hb d_Tr_childNamed_27 rfl (lv_at hl 1 rfl) ?_
  obtain ⟨hi, h⟩ := h
  refine va_iald hx hb hK hst.1 18 0 (WS_a18 g σ) rfl hi d_Tr_childNamed_28 ?_
  refine lv_icmp_ge (tgt := 71) hx hb d_Tr_childNamed_29 (by decide) (fun hc => ?_) (fun hc => ?_)
  · replace h := h.1 hc
    refine lv_iconst (v := (-1 : Int32)) hx hb d_Tr_childNamed_71 (by decide) ?_
    exact kw_iret hx hb hr hlocks hst h d_Tr_childNamed_72
  · replace h := h.2 hc
    refine lv_aload_n hx hb d_Tr_childNamed_32 rfl (lv_at hl 0 rfl) ?_
    refine va_get (D := D) (ci := 0) (C := R_Tr) (T := T_Tr) (N := 12) hx hb hts in_Tr hown hK hst.1 13 (WS_o13 g σ) rfl 0 (by decide) (hts _ gw126) (fun _ h9 => h9) rfl d_Tr_childNamed_33 ?_
    refine lv_aload_n hx hb d_Tr_childNamed_36 rfl (lv_at hl 0 rfl) ?_
    refine va_get (D := D) (ci := 0) (C := R_Tr) (T := T_Tr) (N := 12) hx hb hts in_Tr hown hK hst.1 13 (WS_o13 g σ) rfl 6 (by decide) (hts _ gw154) (fun _ h9 => h9) rfl d_Tr_childNamed_37 ?_
    refine lv_iload hx hb d_Tr_childNamed_40 (lv_at hl 5 rfl) ?_
    obtain ⟨hi, h⟩ := h
    refine va_iald hx hb hK hst.1 19 0 (WS_a19 g σ) rfl hi d_Tr_childNamed_42 ?_
    refine lv_iconst (v := (1 : Int32)) hx hb d_Tr_childNamed_43 (by decide) ?_
    refine lv_iadd hx hb d_Tr_childNamed_44 ?_
    refine lv_aload_n hx hb d_Tr_childNamed_45 rfl (lv_at hl 2 rfl) ?_
    refine lv_iload_n hx hb d_Tr_childNamed_46 rfl (lv_at hl 3 rfl) ?_
    refine kw_calli (va_runV (As := [.int ((σ.1 19 x5.toNatClampNeg) + (1 : Int32)), .ref (g.1 23), .int x3]) (rest := []) (b := g.1 23) ⟨hx, hb, hml, hown, hts⟩ (c_Tx_sameQuoted_13_13 l ((σ.1 19 x5.toNatClampNeg) + (1 : Int32)) x3 h) (cwV 3 hts (gd_v gw673 gw674 gw675 gw8 gw676) rfl rfl rfl (by decide +kernel) ⟨Nat.le_of_ble_eq_true rfl, Nat.le_of_ble_eq_true rfl⟩) ⟨kw_blind (Zk_ok g), va_recv hK hst.1 rfl (WS_o23 g σ), kw_pre (Zk_ok g) hK hZ hA hst⟩ rfl rfl hl.1 rfl (lv_room (Nat.le_of_ble_eq_true rfl)) d_Tr_childNamed_47 ⟨Nat.le_of_ble_eq_true rfl, Nat.le_of_ble_eq_true rfl⟩) hst hA (fun r1 σ1 H locs h hst => ?_)
    refine lv_if_eq (tgt := 56) hx hb d_Tr_childNamed_50 (by decide) (fun hc => ?_) (fun hc => ?_)
    · replace h := h.1 hc
      refine lv_iinc (k := 4) (v := (x4 + 1)) hx hb d_Tr_childNamed_56 hl rfl (kw_inc _ (by decide)) (by decide) rfl (fun ls hl => ?_)
      have hl : lv_has ls 6 [(4, .int (x4 + 1)), (0, .ref (g.1 13)), (1, .int x1), (2, .ref (g.1 23)), (3, .int x3), (5, .int x5)] := hl
      refine lv_aload_n hx hb d_Tr_childNamed_59 rfl (lv_at hl 1 rfl) ?_
      refine va_get (D := D) (ci := 0) (C := R_Tr) (T := T_Tr) (N := 12) hx hb hts in_Tr hown hK hst.1 13 (WS_o13 g σ1) rfl 8 (by decide) (hts _ gw163) (fun _ h9 => h9) rfl d_Tr_childNamed_60 ?_
      refine lv_iload hx hb d_Tr_childNamed_63 (lv_at hl 5 rfl) ?_
      obtain ⟨hi, h⟩ := h
      refine va_iald hx hb hK hst.1 21 0 (WS_a21 g σ1) rfl hi d_Tr_childNamed_65 ?_
      refine lv_istore hx hb d_Tr_childNamed_66 hl (by decide) rfl (fun ls hl => ?_)
      have hl : lv_has ls 6 [(5, .int (σ1.1 21 x5.toNatClampNeg)), (4, .int (x4 + 1)), (0, .ref (g.1 13)), (1, .int x1), (2, .ref (g.1 23)), (3, .int x3)] := hl
      refine lv_goto (tgt := 21) hx hb d_Tr_childNamed_68 (by decide) ?_
      exact j1 x1 x3 (x4 + 1) (σ1.1 21 x5.toNatClampNeg) σ1 _ _ _ (lv_sub hl [2, 3, 4, 5, 1, 0] rfl) hst h
    · replace h := h.2 hc
      refine lv_iload hx hb d_Tr_childNamed_53 (lv_at hl 5 rfl) ?_
      exact kw_iret hx hb hr hlocks hst h d_Tr_childNamed_55
set_option maxRecDepth 100000 in
set_option maxHeartbeats 4000000 in
theorem a_Tr_childNamed_13_13 {p : Program} {l : Launch} {e : Env} {s : State} {m : MethodId} {args : Array Value} {below : List Frame} {meth : Method} {c : Code} {D : va_G} {g : Gm} {A : Nat → Prop} {post : Int32 → Sg → Prop} (C : kC p s m args meth c k_Tr_childNamed 6 (some .int) GW R_Tr D vwCl g (Zk g) A) : ∀ n : Nat, J_Tr_childNamed_13_13_1 p l e s m args below meth c D g A post (wp_Tr_childNamed 13 13 post n) := by
  intro n
  induction n with
  | zero => exact fun _ _ _ _ _ _ _ _ _ _ h => h.elim
  | succ n ih => exact fun x1 x3 x4 x5 σ H locs ls hl hst h => b_Tr_childNamed_13_13_1 (F := wp_Tr_childNamed 13 13 post n) C (ih) x1 x3 x4 x5 σ H locs ls hl hst h
set_option maxRecDepth 100000 in
set_option maxHeartbeats 4000000 in
theorem c_Tr_childNamed_13_13 (l : Launch) {D : va_G} {g : Gm} {sz : Nat} (x1 : Int32) (x3 : Int32) {σ : Sg} {post : Int32 → Sg → Prop} (h : wq_Tr_childNamed 13 13 x1 x3 σ post) : Met l y_Tr_childNamed (.code y_Tr_childNamed k_Tr_childNamed 6 (some .int) :: GW) { frames := 1, cells := 0, slots := 0, locals := 26 } (PcW D vwCl (WS g) g (Zk g) σ sz [.ref (g.1 13), .int x1, .ref (g.1 23), .int x3]) (QiW D vwCl (WS g) post (va_A (WS g σ) sz)) 0 0 (va_A (WS g σ) sz) := by
  refine kw_entry (own := R_Tr) (by decide) rfl rfl (Nat.le_of_ble_eq_true rfl) ?_
  intro p e s m below meth c ls hsz C hin hl hst
  obtain ⟨n, h⟩ := h
  cases n with
  | zero => exact h.elim
  | succ n =>
    have ih := a_Tr_childNamed_13_13 (l := l) (e := e) (below := below) (post := post) C n
    exact b_Tr_childNamed_13_13_0 (F := wp_Tr_childNamed 13 13 post n) C (ih) x1 x3 σ _ _ ls hl hst h
/-! SchemaDesk$Tree.charactersOf (I)I -/
abbrev k_Tr_charactersOf : ByteArray := prog_8_method_8_code
abbrev y_Tr_charactersOf : MethodName := ⟨"SchemaDesk$Tree", "charactersOf", "(I)I"⟩
theorem d_Tr_charactersOf_0 : decode k_Tr_charactersOf 0 = .ok (.aload_n 0, 1) := by decide +kernel
theorem d_Tr_charactersOf_1 : decode k_Tr_charactersOf 1 = .ok (.getfield 25, 3) := by decide +kernel
theorem d_Tr_charactersOf_4 : decode k_Tr_charactersOf 4 = .ok (.iload_n 1, 1) := by decide +kernel
theorem d_Tr_charactersOf_5 : decode k_Tr_charactersOf 5 = .ok (.iaload, 1) := by decide +kernel
theorem d_Tr_charactersOf_6 : decode k_Tr_charactersOf 6 = .ok (.iconst 1, 1) := by decide +kernel
theorem d_Tr_charactersOf_7 : decode k_Tr_charactersOf 7 = .ok (.iadd, 1) := by decide +kernel
theorem d_Tr_charactersOf_8 : decode k_Tr_charactersOf 8 = .ok (.istore_n 2, 1) := by decide +kernel
theorem d_Tr_charactersOf_9 : decode k_Tr_charactersOf 9 = .ok (.aload_n 0, 1) := by decide +kernel
theorem d_Tr_charactersOf_10 : decode k_Tr_charactersOf 10 = .ok (.getfield 15, 3) := by decide +kernel
theorem d_Tr_charactersOf_13 : decode k_Tr_charactersOf 13 = .ok (.iload_n 2, 1) := by decide +kernel
theorem d_Tr_charactersOf_14 : decode k_Tr_charactersOf 14 = .ok (.invokevirtual 60, 3) := by decide +kernel
theorem d_Tr_charactersOf_17 : decode k_Tr_charactersOf 17 = .ok (.iload_n 2, 1) := by decide +kernel
theorem d_Tr_charactersOf_18 : decode k_Tr_charactersOf 18 = .ok (.isub, 1) := by decide +kernel
theorem d_Tr_charactersOf_19 : decode k_Tr_charactersOf 19 = .ok (.ireturn, 1) := by decide +kernel
theorem gw873 : (Jvm.Cond.methodLink "SchemaDesk$Tree" (60 : Nat) ({ cls := "SchemaDesk$Text", name := "quotedEnd", desc := "(I)I" } : Jvm.MethodName)) ∈ GW := gw_t4 (List.mem_of_getElem? (i := 153) rfl) rfl
theorem gw666 : (Jvm.Cond.instanceMethod ({ cls := "SchemaDesk$Text", name := "quotedEnd", desc := "(I)I" } : Jvm.MethodName)) ∈ GW := gw_t3 (List.mem_of_getElem? (i := 186) rfl) rfl
theorem gw667 : (Jvm.Cond.selects "SchemaDesk$Text" ({ cls := "SchemaDesk$Text", name := "quotedEnd", desc := "(I)I" } : Jvm.MethodName) ({ cls := "SchemaDesk$Text", name := "quotedEnd", desc := "(I)I" } : Jvm.MethodName)) ∈ GW := gw_t3 (List.mem_of_getElem? (i := 187) rfl) rfl
theorem gw668 : (Jvm.Cond.code ({ cls := "SchemaDesk$Text", name := "quotedEnd", desc := "(I)I" } : Jvm.MethodName) prog_7_method_5_code (3 : Nat) (Option.some Jvm.ClassFile.FieldType.int)) ∈ GW := gw_t3 (List.mem_of_getElem? (i := 188) rfl) rfl
def wq_Tr_charactersOf (b : Nat) (x1 : Int32) (σ : Sg) (post : Int32 → Sg → Prop) : Prop := (vp_in x1 (tl b) ∧ (wq_Tx_quotedEnd b ((σ.1 (b + 2) x1.toNatClampNeg) + (1 : Int32)) σ (fun r1 σ1 => post (r1 - ((σ.1 (b + 2) x1.toNatClampNeg) + (1 : Int32))) σ1)))
set_option maxRecDepth 100000 in
set_option maxHeartbeats 4000000 in
theorem b_Tr_charactersOf_0_0 {p : Program} {l : Launch} {e : Env} {s : State} {m : MethodId} {args : Array Value} {below : List Frame} {meth : Method} {c : Code} {D : va_G} {g : Gm} {A : Nat → Prop} {post : Int32 → Sg → Prop} (C : kC p s m args meth c k_Tr_charactersOf 3 (some .int) GW R_Tr D vwCl g (Zk g) A) (x1 : Int32) (σ : Sg) (H : Heap) (locs : List Loc) (ls : Array Slot) (hl : lv_has ls 3 [(0, .ref (g.1 0)), (1, .int x1)]) (hst : Wst D vwCl (WS g) A s σ H locs) (h : wq_Tr_charactersOf 0 x1 σ post) : W p l e { frames := 1, cells := 0, slots := 0, locals := 22 } s m args below meth c H locs 0 0 (MQ below (QiW D vwCl (WS g) post A) args s 0 0 A) (F0 m 0 ls []) := by
  obtain ⟨hx, hb, hr, hml, hown, hts, hlocks, hK, hZ, hA⟩ := C
  unfold wq_Tr_charactersOf at h
  refine lv_aload_n hx hb d_Tr_charactersOf_0 rfl (lv_at hl 0 rfl) ?_
  refine va_get (D := D) (ci := 0) (C := R_Tr) (T := T_Tr) (N := 12) hx hb hts in_Tr hown hK hst.1 0 (WS_o0 g σ) rfl 2 (by decide) (hts _ gw138) (fun _ h9 => h9) rfl d_Tr_charactersOf_1 ?_
  refine lv_iload_n hx hb d_Tr_charactersOf_4 rfl (lv_at hl 1 rfl) ?_
  obtain ⟨hi, h⟩ := h
  refine va_iald hx hb hK hst.1 2 0 (WS_a2 g σ) rfl hi d_Tr_charactersOf_5 ?_
  refine lv_iconst (v := (1 : Int32)) hx hb d_Tr_charactersOf_6 (by decide) ?_
  refine lv_iadd hx hb d_Tr_charactersOf_7 ?_
  refine lv_istore_n hx hb d_Tr_charactersOf_8 rfl hl (by decide) rfl (fun ls hl => ?_)
  have hl : lv_has ls 3 [(2, .int ((σ.1 2 x1.toNatClampNeg) + (1 : Int32))), (0, .ref (g.1 0)), (1, .int x1)] := hl
  refine lv_aload_n hx hb d_Tr_charactersOf_9 rfl (lv_at hl 1 rfl) ?_
  refine va_get (D := D) (ci := 0) (C := R_Tr) (T := T_Tr) (N := 12) hx hb hts in_Tr hown hK hst.1 0 (WS_o0 g σ) rfl 0 (by decide) (hts _ gw126) (fun _ h9 => h9) rfl d_Tr_charactersOf_10 ?_
  refine lv_iload_n hx hb d_Tr_charactersOf_13 rfl (lv_at hl 0 rfl) ?_
  refine kw_calli (va_runV (As := [.int ((σ.1 2 x1.toNatClampNeg) + (1 : Int32))]) (rest := []) (b := g.1 10) ⟨hx, hb, hml, hown, hts⟩ (c_Tx_quotedEnd_0 l ((σ.1 2 x1.toNatClampNeg) + (1 : Int32)) h) (cwV 1 hts (gd_v gw873 gw666 gw667 gw8 gw668) rfl rfl rfl (by decide +kernel) ⟨Nat.le_of_ble_eq_true rfl, Nat.le_of_ble_eq_true rfl⟩) ⟨kw_blind (Zk_ok g), va_recv hK hst.1 rfl (WS_o10 g σ), kw_pre (Zk_ok g) hK hZ hA hst⟩ rfl rfl hl.1 rfl (lv_room (Nat.le_of_ble_eq_true rfl)) d_Tr_charactersOf_14 ⟨Nat.le_of_ble_eq_true rfl, Nat.le_of_ble_eq_true rfl⟩) hst hA (fun r1 σ1 H locs h hst => ?_)
  refine lv_iload_n hx hb d_Tr_charactersOf_17 rfl (lv_at hl 0 rfl) ?_
  refine lv_isub hx hb d_Tr_charactersOf_18 ?_
  exact kw_iret hx hb hr hlocks hst h d_Tr_charactersOf_19
set_option maxRecDepth 100000 in
set_option maxHeartbeats 4000000 in
theorem c_Tr_charactersOf_0 (l : Launch) {D : va_G} {g : Gm} {sz : Nat} (x1 : Int32) {σ : Sg} {post : Int32 → Sg → Prop} (h : wq_Tr_charactersOf 0 x1 σ post) : Met l y_Tr_charactersOf (.code y_Tr_charactersOf k_Tr_charactersOf 3 (some .int) :: GW) { frames := 1, cells := 0, slots := 0, locals := 22 } (PcW D vwCl (WS g) g (Zk g) σ sz [.ref (g.1 0), .int x1]) (QiW D vwCl (WS g) post (va_A (WS g σ) sz)) 0 0 (va_A (WS g σ) sz) := by
  refine kw_entry (own := R_Tr) (by decide) rfl rfl (Nat.le_of_ble_eq_true rfl) ?_
  intro p e s m below meth c ls hsz C hin hl hst
  exact b_Tr_charactersOf_0_0 C x1 σ _ _ ls hl hst h
set_option maxRecDepth 100000 in
set_option maxHeartbeats 4000000 in
theorem b_Tr_charactersOf_13_0 {p : Program} {l : Launch} {e : Env} {s : State} {m : MethodId} {args : Array Value} {below : List Frame} {meth : Method} {c : Code} {D : va_G} {g : Gm} {A : Nat → Prop} {post : Int32 → Sg → Prop} (C : kC p s m args meth c k_Tr_charactersOf 3 (some .int) GW R_Tr D vwCl g (Zk g) A) (x1 : Int32) (σ : Sg) (H : Heap) (locs : List Loc) (ls : Array Slot) (hl : lv_has ls 3 [(0, .ref (g.1 13)), (1, .int x1)]) (hst : Wst D vwCl (WS g) A s σ H locs) (h : wq_Tr_charactersOf 13 x1 σ post) : W p l e { frames := 1, cells := 0, slots := 0, locals := 22 } s m args below meth c H locs 0 0 (MQ below (QiW D vwCl (WS g) post A) args s 0 0 A) (F0 m 0 ls []) := by
  obtain ⟨hx, hb, hr, hml, hown, hts, hlocks, hK, hZ, hA⟩ := C
  unfold wq_Tr_charactersOf at h
  refine lv_aload_n hx hb d_Tr_charactersOf_0 rfl (lv_at hl 0 rfl) ?_
  refine va_get (D := D) (ci := 0) (C := R_Tr) (T := T_Tr) (N := 12) hx hb hts in_Tr hown hK hst.1 13 (WS_o13 g σ) rfl 2 (by decide) (hts _ gw138) (fun _ h9 => h9) rfl d_Tr_charactersOf_1 ?_
  refine lv_iload_n hx hb d_Tr_charactersOf_4 rfl (lv_at hl 1 rfl) ?_
  obtain ⟨hi, h⟩ := h
  refine va_iald hx hb hK hst.1 15 0 (WS_a15 g σ) rfl hi d_Tr_charactersOf_5 ?_
  refine lv_iconst (v := (1 : Int32)) hx hb d_Tr_charactersOf_6 (by decide) ?_
  refine lv_iadd hx hb d_Tr_charactersOf_7 ?_
  refine lv_istore_n hx hb d_Tr_charactersOf_8 rfl hl (by decide) rfl (fun ls hl => ?_)
  have hl : lv_has ls 3 [(2, .int ((σ.1 15 x1.toNatClampNeg) + (1 : Int32))), (0, .ref (g.1 13)), (1, .int x1)] := hl
  refine lv_aload_n hx hb d_Tr_charactersOf_9 rfl (lv_at hl 1 rfl) ?_
  refine va_get (D := D) (ci := 0) (C := R_Tr) (T := T_Tr) (N := 12) hx hb hts in_Tr hown hK hst.1 13 (WS_o13 g σ) rfl 0 (by decide) (hts _ gw126) (fun _ h9 => h9) rfl d_Tr_charactersOf_10 ?_
  refine lv_iload_n hx hb d_Tr_charactersOf_13 rfl (lv_at hl 0 rfl) ?_
  refine kw_calli (va_runV (As := [.int ((σ.1 15 x1.toNatClampNeg) + (1 : Int32))]) (rest := []) (b := g.1 23) ⟨hx, hb, hml, hown, hts⟩ (c_Tx_quotedEnd_13 l ((σ.1 15 x1.toNatClampNeg) + (1 : Int32)) h) (cwV 1 hts (gd_v gw873 gw666 gw667 gw8 gw668) rfl rfl rfl (by decide +kernel) ⟨Nat.le_of_ble_eq_true rfl, Nat.le_of_ble_eq_true rfl⟩) ⟨kw_blind (Zk_ok g), va_recv hK hst.1 rfl (WS_o23 g σ), kw_pre (Zk_ok g) hK hZ hA hst⟩ rfl rfl hl.1 rfl (lv_room (Nat.le_of_ble_eq_true rfl)) d_Tr_charactersOf_14 ⟨Nat.le_of_ble_eq_true rfl, Nat.le_of_ble_eq_true rfl⟩) hst hA (fun r1 σ1 H locs h hst => ?_)
  refine lv_iload_n hx hb d_Tr_charactersOf_17 rfl (lv_at hl 0 rfl) ?_
  refine lv_isub hx hb d_Tr_charactersOf_18 ?_
  exact kw_iret hx hb hr hlocks hst h d_Tr_charactersOf_19
set_option maxRecDepth 100000 in
set_option maxHeartbeats 4000000 in
theorem c_Tr_charactersOf_13 (l : Launch) {D : va_G} {g : Gm} {sz : Nat} (x1 : Int32) {σ : Sg} {post : Int32 → Sg → Prop} (h : wq_Tr_charactersOf 13 x1 σ post) : Met l y_Tr_charactersOf (.code y_Tr_charactersOf k_Tr_charactersOf 3 (some .int) :: GW) { frames := 1, cells := 0, slots := 0, locals := 22 } (PcW D vwCl (WS g) g (Zk g) σ sz [.ref (g.1 13), .int x1]) (QiW D vwCl (WS g) post (va_A (WS g σ) sz)) 0 0 (va_A (WS g σ) sz) := by
  refine kw_entry (own := R_Tr) (by decide) rfl rfl (Nat.le_of_ble_eq_true rfl) ?_
  intro p e s m below meth c ls hsz C hin hl hst
  exact b_Tr_charactersOf_13_0 C x1 σ _ _ ls hl hst h
