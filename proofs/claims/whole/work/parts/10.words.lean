/-! SchemaDesk$WordBook.sizeOf (I)I -/
abbrev k_Wb_sizeOf : ByteArray := prog_10_method_2_code
abbrev y_Wb_sizeOf : MethodName := ⟨"SchemaDesk$WordBook", "sizeOf", "(I)I"⟩
theorem d_Wb_sizeOf_0 : decode k_Wb_sizeOf 0 = .ok (.aload_n 0, 1) := by decide +kernel
theorem d_Wb_sizeOf_1 : decode k_Wb_sizeOf 1 = .ok (.getfield 23, 3) := by decide +kernel
theorem d_Wb_sizeOf_4 : decode k_Wb_sizeOf 4 = .ok (.iload_n 1, 1) := by decide +kernel
theorem d_Wb_sizeOf_5 : decode k_Wb_sizeOf 5 = .ok (.iconst 1, 1) := by decide +kernel
theorem d_Wb_sizeOf_6 : decode k_Wb_sizeOf 6 = .ok (.iadd, 1) := by decide +kernel
theorem d_Wb_sizeOf_7 : decode k_Wb_sizeOf 7 = .ok (.iaload, 1) := by decide +kernel
theorem d_Wb_sizeOf_8 : decode k_Wb_sizeOf 8 = .ok (.iconst 1, 1) := by decide +kernel
theorem d_Wb_sizeOf_9 : decode k_Wb_sizeOf 9 = .ok (.isub, 1) := by decide +kernel
theorem d_Wb_sizeOf_10 : decode k_Wb_sizeOf 10 = .ok (.aload_n 0, 1) := by decide +kernel
theorem d_Wb_sizeOf_11 : decode k_Wb_sizeOf 11 = .ok (.getfield 23, 3) := by decide +kernel
theorem d_Wb_sizeOf_14 : decode k_Wb_sizeOf 14 = .ok (.iload_n 1, 1) := by decide +kernel
theorem d_Wb_sizeOf_15 : decode k_Wb_sizeOf 15 = .ok (.iaload, 1) := by decide +kernel
theorem d_Wb_sizeOf_16 : decode k_Wb_sizeOf 16 = .ok (.isub, 1) := by decide +kernel
theorem d_Wb_sizeOf_17 : decode k_Wb_sizeOf 17 = .ok (.ireturn, 1) := by decide +kernel
theorem gw88 : (Jvm.Cond.fieldLink "SchemaDesk$WordBook" (23 : Nat) "SchemaDesk$WordBook" "starts" "[I") ∈ GW := gw_t1 (List.mem_of_getElem? (i := 88) rfl) rfl
def wq_Wb_sizeOf (x1 : Int32) (σ : Sg) (post : Int32 → Sg → Prop) : Prop := (vp_in (x1 + (1 : Int32)) 31 ∧ (vp_in x1 31 ∧ post (((σ.1 28 ((x1 + (1 : Int32)) : Int32).toNatClampNeg) - (1 : Int32)) - (σ.1 28 x1.toNatClampNeg)) σ))
set_option maxRecDepth 100000 in
set_option maxHeartbeats 4000000 in
theorem b_Wb_sizeOf_0 {p : Program} {l : Launch} {e : Env} {s : State} {m : MethodId} {args : Array Value} {below : List Frame} {meth : Method} {c : Code} {D : va_G} {g : Gm} {A : Nat → Prop} {post : Int32 → Sg → Prop} (C : kC p s m args meth c k_Wb_sizeOf 2 (some .int) GW R_Wb D vwCl g (Zk g) A) (x1 : Int32) (σ : Sg) (H : Heap) (locs : List Loc) (ls : Array Slot) (hl : lv_has ls 2 [(0, .ref (g.1 26)), (1, .int x1)]) (hst : Wst D vwCl (WS g) A s σ H locs) (h : wq_Wb_sizeOf x1 σ post) : W p l e { frames := 0, cells := 0, slots := 0, locals := 0 } s m args below meth c H locs 0 0 (MQ below (QiW D vwCl (WS g) post A) args s 0 0 A) (F0 m 0 ls []) := by
  obtain ⟨hx, hb, hr, hml, hown, hts, hlocks, hK, hZ, hA⟩ := C
  unfold wq_Wb_sizeOf at h
  refine lv_aload_n hx hb d_Wb_sizeOf_0 rfl (lv_at hl 0 rfl) ?_
  refine va_get (D := D) (ci := 4) (C := R_Wb) (T := T_Wb) (N := 2) hx hb hts in_Wb hown hK hst.1 26 (WS_o26 g σ) rfl 1 (by decide) (hts _ gw88) (fun _ h9 => h9) rfl d_Wb_sizeOf_1 ?_
  refine lv_iload_n hx hb d_Wb_sizeOf_4 rfl (lv_at hl 1 rfl) ?_
  refine lv_iconst (v := (1 : Int32)) hx hb d_Wb_sizeOf_5 (by decide) ?_
  refine lv_iadd hx hb d_Wb_sizeOf_6 ?_
  obtain ⟨hi, h⟩ := h
  refine va_iald hx hb hK hst.1 28 0 (WS_a28 g σ) rfl hi d_Wb_sizeOf_7 ?_
  refine lv_iconst (v := (1 : Int32)) hx hb d_Wb_sizeOf_8 (by decide) ?_
  refine lv_isub hx hb d_Wb_sizeOf_9 ?_
  refine lv_aload_n hx hb d_Wb_sizeOf_10 rfl (lv_at hl 0 rfl) ?_
  refine va_get (D := D) (ci := 4) (C := R_Wb) (T := T_Wb) (N := 2) hx hb hts in_Wb hown hK hst.1 26 (WS_o26 g σ) rfl 1 (by decide) (hts _ gw88) (fun _ h9 => h9) rfl d_Wb_sizeOf_11 ?_
  refine lv_iload_n hx hb d_Wb_sizeOf_14 rfl (lv_at hl 1 rfl) ?_
  obtain ⟨hi, h⟩ := h
  refine va_iald hx hb hK hst.1 28 0 (WS_a28 g σ) rfl hi d_Wb_sizeOf_15 ?_
  refine lv_isub hx hb d_Wb_sizeOf_16 ?_
  exact kw_iret hx hb hr hlocks hst h d_Wb_sizeOf_17
set_option maxRecDepth 100000 in
set_option maxHeartbeats 4000000 in
theorem c_Wb_sizeOf (l : Launch) {D : va_G} {g : Gm} {sz : Nat} (x1 : Int32) {σ : Sg} {post : Int32 → Sg → Prop} (h : wq_Wb_sizeOf x1 σ post) : Met l y_Wb_sizeOf (.code y_Wb_sizeOf k_Wb_sizeOf 2 (some .int) :: GW) { frames := 0, cells := 0, slots := 0, locals := 0 } (PcW D vwCl (WS g) g (Zk g) σ sz [.ref (g.1 26), .int x1]) (QiW D vwCl (WS g) post (va_A (WS g σ) sz)) 0 0 (va_A (WS g σ) sz) := by
  refine kw_entry (own := R_Wb) (by decide) rfl rfl (Nat.le_of_ble_eq_true rfl) ?_
  intro p e s m below meth c ls hsz C hin hl hst
  exact b_Wb_sizeOf_0 C x1 σ _ _ ls hl hst h
/-! SchemaDesk$WordBook.characterOf (II)C -/
abbrev k_Wb_characterOf : ByteArray := prog_10_method_3_code
abbrev y_Wb_characterOf : MethodName := ⟨"SchemaDesk$WordBook", "characterOf", "(II)C"⟩
theorem d_Wb_characterOf_0 : decode k_Wb_characterOf 0 = .ok (.aload_n 0, 1) := by decide +kernel
theorem d_Wb_characterOf_1 : decode k_Wb_characterOf 1 = .ok (.getfield 17, 3) := by decide +kernel
theorem d_Wb_characterOf_4 : decode k_Wb_characterOf 4 = .ok (.aload_n 0, 1) := by decide +kernel
theorem d_Wb_characterOf_5 : decode k_Wb_characterOf 5 = .ok (.getfield 23, 3) := by decide +kernel
theorem d_Wb_characterOf_8 : decode k_Wb_characterOf 8 = .ok (.iload_n 1, 1) := by decide +kernel
theorem d_Wb_characterOf_9 : decode k_Wb_characterOf 9 = .ok (.iaload, 1) := by decide +kernel
theorem d_Wb_characterOf_10 : decode k_Wb_characterOf 10 = .ok (.iload_n 2, 1) := by decide +kernel
theorem d_Wb_characterOf_11 : decode k_Wb_characterOf 11 = .ok (.iadd, 1) := by decide +kernel
theorem d_Wb_characterOf_12 : decode k_Wb_characterOf 12 = .ok (.caload, 1) := by decide +kernel
theorem d_Wb_characterOf_13 : decode k_Wb_characterOf 13 = .ok (.ireturn, 1) := by decide +kernel
theorem gw87 : (Jvm.Cond.fieldLink "SchemaDesk$WordBook" (17 : Nat) "SchemaDesk$WordBook" "letters" "[C") ∈ GW := gw_t1 (List.mem_of_getElem? (i := 87) rfl) rfl
def wq_Wb_characterOf (x1 : Int32) (x2 : Int32) (σ : Sg) (post : Int32 → Sg → Prop) : Prop := (vp_in x1 31 ∧ (vp_in ((σ.1 28 x1.toNatClampNeg) + x2) 202 ∧ (narrow .char (.int (σ.1 27 (((σ.1 28 x1.toNatClampNeg) + x2) : Int32).toNatClampNeg)) = .int (σ.1 27 (((σ.1 28 x1.toNatClampNeg) + x2) : Int32).toNatClampNeg) ∧ post (σ.1 27 (((σ.1 28 x1.toNatClampNeg) + x2) : Int32).toNatClampNeg) σ)))
set_option maxRecDepth 100000 in
set_option maxHeartbeats 4000000 in
theorem b_Wb_characterOf_0 {p : Program} {l : Launch} {e : Env} {s : State} {m : MethodId} {args : Array Value} {below : List Frame} {meth : Method} {c : Code} {D : va_G} {g : Gm} {A : Nat → Prop} {post : Int32 → Sg → Prop} (C : kC p s m args meth c k_Wb_characterOf 3 (some .char) GW R_Wb D vwCl g (Zk g) A) (x1 : Int32) (x2 : Int32) (σ : Sg) (H : Heap) (locs : List Loc) (ls : Array Slot) (hl : lv_has ls 3 [(0, .ref (g.1 26)), (1, .int x1), (2, .int x2)]) (hst : Wst D vwCl (WS g) A s σ H locs) (h : wq_Wb_characterOf x1 x2 σ post) : W p l e { frames := 0, cells := 0, slots := 0, locals := 0 } s m args below meth c H locs 0 0 (MQ below (QiW D vwCl (WS g) post A) args s 0 0 A) (F0 m 0 ls []) := by
  obtain ⟨hx, hb, hr, hml, hown, hts, hlocks, hK, hZ, hA⟩ := C
  unfold wq_Wb_characterOf at h
  refine lv_aload_n hx hb d_Wb_characterOf_0 rfl (lv_at hl 0 rfl) ?_
  refine va_get (D := D) (ci := 4) (C := R_Wb) (T := T_Wb) (N := 2) hx hb hts in_Wb hown hK hst.1 26 (WS_o26 g σ) rfl 0 (by decide) (hts _ gw87) (fun _ h9 => h9) rfl d_Wb_characterOf_1 ?_
  refine lv_aload_n hx hb d_Wb_characterOf_4 rfl (lv_at hl 0 rfl) ?_
  refine va_get (D := D) (ci := 4) (C := R_Wb) (T := T_Wb) (N := 2) hx hb hts in_Wb hown hK hst.1 26 (WS_o26 g σ) rfl 1 (by decide) (hts _ gw88) (fun _ h9 => h9) rfl d_Wb_characterOf_5 ?_
  refine lv_iload_n hx hb d_Wb_characterOf_8 rfl (lv_at hl 1 rfl) ?_
  obtain ⟨hi, h⟩ := h
  refine va_iald hx hb hK hst.1 28 0 (WS_a28 g σ) rfl hi d_Wb_characterOf_9 ?_
  refine lv_iload_n hx hb d_Wb_characterOf_10 rfl (lv_at hl 2 rfl) ?_
  refine lv_iadd hx hb d_Wb_characterOf_11 ?_
  obtain ⟨hi, h⟩ := h
  refine va_cald hx hb hK hst.1 27 1 (WS_a27 g σ) rfl hi d_Wb_characterOf_12 ?_
  exact kw_zret hx hb hr hlocks hst h d_Wb_characterOf_13
set_option maxRecDepth 100000 in
set_option maxHeartbeats 4000000 in
theorem c_Wb_characterOf (l : Launch) {D : va_G} {g : Gm} {sz : Nat} (x1 : Int32) (x2 : Int32) {σ : Sg} {post : Int32 → Sg → Prop} (h : wq_Wb_characterOf x1 x2 σ post) : Met l y_Wb_characterOf (.code y_Wb_characterOf k_Wb_characterOf 3 (some .char) :: GW) { frames := 0, cells := 0, slots := 0, locals := 0 } (PcW D vwCl (WS g) g (Zk g) σ sz [.ref (g.1 26), .int x1, .int x2]) (QiW D vwCl (WS g) post (va_A (WS g σ) sz)) 0 0 (va_A (WS g σ) sz) := by
  refine kw_entry (own := R_Wb) (by decide) rfl rfl (Nat.le_of_ble_eq_true rfl) ?_
  intro p e s m below meth c ls hsz C hin hl hst
  exact b_Wb_characterOf_0 C x1 x2 σ _ _ ls hl hst h
/-! SchemaDesk$WordBook.isWord (ILSchemaDesk$Text;II)Z -/
abbrev k_Wb_isWord : ByteArray := prog_10_method_4_code
abbrev y_Wb_isWord : MethodName := ⟨"SchemaDesk$WordBook", "isWord", "(ILSchemaDesk$Text;II)Z"⟩
theorem d_Wb_isWord_0 : decode k_Wb_isWord 0 = .ok (.aload_n 0, 1) := by decide +kernel
theorem d_Wb_isWord_1 : decode k_Wb_isWord 1 = .ok (.getfield 23, 3) := by decide +kernel
theorem d_Wb_isWord_4 : decode k_Wb_isWord 4 = .ok (.iload_n 1, 1) := by decide +kernel
theorem d_Wb_isWord_5 : decode k_Wb_isWord 5 = .ok (.iaload, 1) := by decide +kernel
theorem d_Wb_isWord_6 : decode k_Wb_isWord 6 = .ok (.istore 5, 2) := by decide +kernel
theorem d_Wb_isWord_8 : decode k_Wb_isWord 8 = .ok (.iload 4, 2) := by decide +kernel
theorem d_Wb_isWord_10 : decode k_Wb_isWord 10 = .ok (.iload_n 3, 1) := by decide +kernel
theorem d_Wb_isWord_11 : decode k_Wb_isWord 11 = .ok (.isub, 1) := by decide +kernel
theorem d_Wb_isWord_12 : decode k_Wb_isWord 12 = .ok (.aload_n 0, 1) := by decide +kernel
theorem d_Wb_isWord_13 : decode k_Wb_isWord 13 = .ok (.getfield 23, 3) := by decide +kernel
theorem d_Wb_isWord_16 : decode k_Wb_isWord 16 = .ok (.iload_n 1, 1) := by decide +kernel
theorem d_Wb_isWord_17 : decode k_Wb_isWord 17 = .ok (.iconst 1, 1) := by decide +kernel
theorem d_Wb_isWord_18 : decode k_Wb_isWord 18 = .ok (.iadd, 1) := by decide +kernel
theorem d_Wb_isWord_19 : decode k_Wb_isWord 19 = .ok (.iaload, 1) := by decide +kernel
theorem d_Wb_isWord_20 : decode k_Wb_isWord 20 = .ok (.iconst 1, 1) := by decide +kernel
theorem d_Wb_isWord_21 : decode k_Wb_isWord 21 = .ok (.isub, 1) := by decide +kernel
theorem d_Wb_isWord_22 : decode k_Wb_isWord 22 = .ok (.iload 5, 2) := by decide +kernel
theorem d_Wb_isWord_24 : decode k_Wb_isWord 24 = .ok (.isub, 1) := by decide +kernel
theorem d_Wb_isWord_25 : decode k_Wb_isWord 25 = .ok (.if_icmp .eq 5, 3) := by decide +kernel
theorem d_Wb_isWord_28 : decode k_Wb_isWord 28 = .ok (.iconst 0, 1) := by decide +kernel
theorem d_Wb_isWord_29 : decode k_Wb_isWord 29 = .ok (.ireturn, 1) := by decide +kernel
theorem d_Wb_isWord_30 : decode k_Wb_isWord 30 = .ok (.iconst 0, 1) := by decide +kernel
theorem d_Wb_isWord_31 : decode k_Wb_isWord 31 = .ok (.istore 6, 2) := by decide +kernel
theorem d_Wb_isWord_33 : decode k_Wb_isWord 33 = .ok (.iload 6, 2) := by decide +kernel
theorem d_Wb_isWord_35 : decode k_Wb_isWord 35 = .ok (.iload 4, 2) := by decide +kernel
theorem d_Wb_isWord_37 : decode k_Wb_isWord 37 = .ok (.iload_n 3, 1) := by decide +kernel
theorem d_Wb_isWord_38 : decode k_Wb_isWord 38 = .ok (.isub, 1) := by decide +kernel
theorem d_Wb_isWord_39 : decode k_Wb_isWord 39 = .ok (.if_icmp .ge 33, 3) := by decide +kernel
theorem d_Wb_isWord_42 : decode k_Wb_isWord 42 = .ok (.aload_n 2, 1) := by decide +kernel
theorem d_Wb_isWord_43 : decode k_Wb_isWord 43 = .ok (.getfield 27, 3) := by decide +kernel
theorem d_Wb_isWord_46 : decode k_Wb_isWord 46 = .ok (.iload_n 3, 1) := by decide +kernel
theorem d_Wb_isWord_47 : decode k_Wb_isWord 47 = .ok (.iload 6, 2) := by decide +kernel
theorem d_Wb_isWord_49 : decode k_Wb_isWord 49 = .ok (.iadd, 1) := by decide +kernel
theorem d_Wb_isWord_50 : decode k_Wb_isWord 50 = .ok (.caload, 1) := by decide +kernel
theorem d_Wb_isWord_51 : decode k_Wb_isWord 51 = .ok (.aload_n 0, 1) := by decide +kernel
theorem d_Wb_isWord_52 : decode k_Wb_isWord 52 = .ok (.getfield 17, 3) := by decide +kernel
theorem d_Wb_isWord_55 : decode k_Wb_isWord 55 = .ok (.iload 5, 2) := by decide +kernel
theorem d_Wb_isWord_57 : decode k_Wb_isWord 57 = .ok (.iload 6, 2) := by decide +kernel
theorem d_Wb_isWord_59 : decode k_Wb_isWord 59 = .ok (.iadd, 1) := by decide +kernel
theorem d_Wb_isWord_60 : decode k_Wb_isWord 60 = .ok (.caload, 1) := by decide +kernel
theorem d_Wb_isWord_61 : decode k_Wb_isWord 61 = .ok (.if_icmp .eq 5, 3) := by decide +kernel
theorem d_Wb_isWord_64 : decode k_Wb_isWord 64 = .ok (.iconst 0, 1) := by decide +kernel
theorem d_Wb_isWord_65 : decode k_Wb_isWord 65 = .ok (.ireturn, 1) := by decide +kernel
theorem d_Wb_isWord_66 : decode k_Wb_isWord 66 = .ok (.iinc 6 1, 3) := by decide +kernel
theorem d_Wb_isWord_69 : decode k_Wb_isWord 69 = .ok (.goto (-36), 3) := by decide +kernel
theorem d_Wb_isWord_72 : decode k_Wb_isWord 72 = .ok (.iconst 1, 1) := by decide +kernel
theorem d_Wb_isWord_73 : decode k_Wb_isWord 73 = .ok (.ireturn, 1) := by decide +kernel
theorem gw108 : (Jvm.Cond.fieldLink "SchemaDesk$WordBook" (27 : Nat) "SchemaDesk$Text" "letters" "[C") ∈ GW := gw_t1 (List.mem_of_getElem? (i := 108) rfl) rfl
def wb_Wb_isWord_0 (b : Nat) (F : Nat → Int32 → Int32 → Int32 → Int32 → Int32 → Sg → Prop) (post : Int32 → Sg → Prop) (x1 : Int32) (x3 : Int32) (x4 : Int32) (σ : Sg) : Prop := (vp_in x1 31 ∧ (vp_in (x1 + (1 : Int32)) 31 ∧ (((x4 - x3) = (((σ.1 28 ((x1 + (1 : Int32)) : Int32).toNatClampNeg) - (1 : Int32)) - (σ.1 28 x1.toNatClampNeg)) → F 1 0 x3 x4 (σ.1 28 x1.toNatClampNeg) (0 : Int32) σ) ∧ (¬ (x4 - x3) = (((σ.1 28 ((x1 + (1 : Int32)) : Int32).toNatClampNeg) - (1 : Int32)) - (σ.1 28 x1.toNatClampNeg)) → (narrow .boolean (.int (0 : Int32)) = .int (0 : Int32) ∧ post (0 : Int32) σ)))))
def wb_Wb_isWord_1 (b : Nat) (F : Nat → Int32 → Int32 → Int32 → Int32 → Int32 → Sg → Prop) (post : Int32 → Sg → Prop) (x3 : Int32) (x4 : Int32) (x5 : Int32) (x6 : Int32) (σ : Sg) : Prop := (((x4 - x3) ≤ x6 → (narrow .boolean (.int (1 : Int32)) = .int (1 : Int32) ∧ post (1 : Int32) σ)) ∧ (¬ (x4 - x3) ≤ x6 → (vp_in (x3 + x6) (tl b) ∧ (vp_in (x5 + x6) 202 ∧ (((σ.1 (b + 11) ((x3 + x6) : Int32).toNatClampNeg) = (σ.1 27 ((x5 + x6) : Int32).toNatClampNeg) → F 1 0 x3 x4 x5 (x6 + 1) σ) ∧ (¬ (σ.1 (b + 11) ((x3 + x6) : Int32).toNatClampNeg) = (σ.1 27 ((x5 + x6) : Int32).toNatClampNeg) → (narrow .boolean (.int (0 : Int32)) = .int (0 : Int32) ∧ post (0 : Int32) σ)))))))
def wp_Wb_isWord (b : Nat) (post : Int32 → Sg → Prop) : Nat → Nat → Int32 → Int32 → Int32 → Int32 → Int32 → Sg → Prop
  | 0, _, _, _, _, _, _, _ => False
  | n + 1, k, x1, x3, x4, x5, x6, σ => match k with
    | 0 => wb_Wb_isWord_0 b (wp_Wb_isWord b post n) post x1 x3 x4 σ
    | 1 => wb_Wb_isWord_1 b (wp_Wb_isWord b post n) post x3 x4 x5 x6 σ
    | _ => False
def wq_Wb_isWord (b : Nat) (x1 : Int32) (x3 : Int32) (x4 : Int32) (σ : Sg) (post : Int32 → Sg → Prop) : Prop := ∃ n, wp_Wb_isWord b post n 0 x1 x3 x4 0 0 σ
def J_Wb_isWord_0_1 (p : Program) (l : Launch) (e : Env) (s : State) (m : MethodId) (args : Array Value) (below : List Frame) (meth : Method) (c : Code) (D : va_G) (g : Gm) (A : Nat → Prop) (post : Int32 → Sg → Prop) (F : Nat → Int32 → Int32 → Int32 → Int32 → Int32 → Sg → Prop) : Prop := ∀ (x3 : Int32) (x4 : Int32) (x5 : Int32) (x6 : Int32) (σ : Sg) (H : Heap) (locs : List Loc) (ls : Array Slot), lv_has ls 7 [(0, .ref (g.1 26)), (2, .ref (g.1 10)), (3, .int x3), (4, .int x4), (5, .int x5), (6, .int x6)] → Wst D vwCl (WS g) A s σ H locs → F 1 0 x3 x4 x5 x6 σ → W p l e { frames := 0, cells := 0, slots := 0, locals := 0 } s m args below meth c H locs 0 0 (MQ below (QiW D vwCl (WS g) post A) args s 0 0 A) (F0 m 33 ls [])
set_option maxRecDepth 100000 in
set_option maxHeartbeats 4000000 in
theorem b_Wb_isWord_0_0 {p : Program} {l : Launch} {e : Env} {s : State} {m : MethodId} {args : Array Value} {below : List Frame} {meth : Method} {c : Code} {D : va_G} {g : Gm} {A : Nat → Prop} {post : Int32 → Sg → Prop} {F : Nat → Int32 → Int32 → Int32 → Int32 → Int32 → Sg → Prop} (C : kC p s m args meth c k_Wb_isWord 7 (some .boolean) GW R_Wb D vwCl g (Zk g) A) (j1 : J_Wb_isWord_0_1 p l e s m args below meth c D g A post F) (x1 : Int32) (x3 : Int32) (x4 : Int32) (σ : Sg) (H : Heap) (locs : List Loc) (ls : Array Slot) (hl : lv_has ls 7 [(0, .ref (g.1 26)), (1, .int x1), (2, .ref (g.1 10)), (3, .int x3), (4, .int x4)]) (hst : Wst D vwCl (WS g) A s σ H locs) (h : wb_Wb_isWord_0 0 F post x1 x3 x4 σ) : W p l e { frames := 0, cells := 0, slots := 0, locals := 0 } s m args below meth c H locs 0 0 (MQ below (QiW D vwCl (WS g) post A) args s 0 0 A) (F0 m 0 ls []) := by
  obtain ⟨hx, hb, hr, hml, hown, hts, hlocks, hK, hZ, hA⟩ := C
  unfold wb_Wb_isWord_0 at h
  refine lv_aload_n hx hb d_Wb_isWord_0 rfl (lv_at hl 0 rfl) ?_
  refine va_get (D := D) (ci := 4) (C := R_Wb) (T := T_Wb) (N := 2) hx hb hts in_Wb hown hK hst.1 26 (WS_o26 g σ) rfl 1 (by decide) (hts _ gw88) (fun _ h9 => h9) rfl d_Wb_isWord_1 ?_
  refine lv_iload_n hx hb d_Wb_isWord_4 rfl (lv_at hl 1 rfl) ?_
  obtain ⟨hi, h⟩ := h
  refine va_iald hx hb hK hst.1 28 0 (WS_a28 g σ) rfl hi d_Wb_isWord_5 ?_
  refine lv_istore hx hb d_Wb_isWord_6 hl (by decide) rfl (fun ls hl => ?_)
  have hl : lv_has ls 7 [(5, .int (σ.1 28 x1.toNatClampNeg)), (0, .ref (g.1 26)), (1, .int x1), (2, .ref (g.1 10)), (3, .int x3), (4, .int x4)] := hl
  refine lv_iload hx hb d_Wb_isWord_8 (lv_at hl 5 rfl) ?_
  refine lv_iload_n hx hb d_Wb_isWord_10 rfl (lv_at hl 4 rfl) ?_
  refine lv_isub hx hb d_Wb_isWord_11 ?_
  refine lv_aload_n hx hb d_Wb_isWord_12 rfl (lv_at hl 1 rfl) ?_
  refine va_get (D := D) (ci := 4) (C := R_Wb) (T := T_Wb) (N := 2) hx hb hts in_Wb hown hK hst.1 26 (WS_o26 g σ) rfl 1 (by decide) (hts _ gw88) (fun _ h9 => h9) rfl d_Wb_isWord_13 ?_
  refine lv_iload_n hx hb d_Wb_isWord_16 rfl (lv_at hl 2 rfl) ?_
  refine lv_iconst (v := (1 : Int32)) hx hb d_Wb_isWord_17 (by decide) ?_
  refine lv_iadd hx hb d_Wb_isWord_18 ?_
  obtain ⟨hi, h⟩ := h
  refine va_iald hx hb hK hst.1 28 0 (WS_a28 g σ) rfl hi d_Wb_isWord_19 ?_
  refine lv_iconst (v := (1 : Int32)) hx hb d_Wb_isWord_20 (by decide) ?_
  refine lv_isub hx hb d_Wb_isWord_21 ?_
  refine lv_iload hx hb d_Wb_isWord_22 (lv_at hl 0 rfl) ?_
  refine lv_isub hx hb d_Wb_isWord_24 ?_
  refine lv_icmp_eq (tgt := 30) hx hb d_Wb_isWord_25 (by decide) (fun hc => ?_) (fun hc => ?_)
  · replace h := h.1 hc
    refine lv_iconst (v := (0 : Int32)) hx hb d_Wb_isWord_30 (by decide) ?_
    refine lv_istore hx hb d_Wb_isWord_31 hl (by decide) rfl (fun ls hl => ?_)
    have hl : lv_has ls 7 [(6, .int (0 : Int32)), (5, .int (σ.1 28 x1.toNatClampNeg)), (0, .ref (g.1 26)), (1, .int x1), (2, .ref (g.1 10)), (3, .int x3), (4, .int x4)] := hl
    exact j1 x3 x4 (σ.1 28 x1.toNatClampNeg) (0 : Int32) σ _ _ _ (lv_sub hl [2, 4, 5, 6, 1, 0] rfl) hst h
  · replace h := h.2 hc
    refine lv_iconst (v := (0 : Int32)) hx hb d_Wb_isWord_28 (by decide) ?_
    exact kw_zret hx hb hr hlocks hst h d_Wb_isWord_29
set_option maxRecDepth 100000 in
set_option maxHeartbeats 4000000 in
theorem b_Wb_isWord_0_1 {p : Program} {l : Launch} {e : Env} {s : State} {m : MethodId} {args : Array Value} {below : List Frame} {meth : Method} {c : Code} {D : va_G} {g : Gm} {A : Nat → Prop} {post : Int32 → Sg → Prop} {F : Nat → Int32 → Int32 → Int32 → Int32 → Int32 → Sg → Prop} (C : kC p s m args meth c k_Wb_isWord 7 (some .boolean) GW R_Wb D vwCl g (Zk g) A) (j1 : J_Wb_isWord_0_1 p l e s m args below meth c D g A post F) (x3 : Int32) (x4 : Int32) (x5 : Int32) (x6 : Int32) (σ : Sg) (H : Heap) (locs : List Loc) (ls : Array Slot) (hl : lv_has ls 7 [(0, .ref (g.1 26)), (2, .ref (g.1 10)), (3, .int x3), (4, .int x4), (5, .int x5), (6, .int x6)]) (hst : Wst D vwCl (WS g) A s σ H locs) (h : wb_Wb_isWord_1 0 F post x3 x4 x5 x6 σ) : W p l e { frames := 0, cells := 0, slots := 0, locals := 0 } s m args below meth c H locs 0 0 (MQ below (QiW D vwCl (WS g) post A) args s 0 0 A) (F0 m 33 ls []) := by
  obtain ⟨hx, hb, hr, hml, hown, hts, hlocks, hK, hZ, hA⟩ := C
  unfold wb_Wb_isWord_1 at h
  refine lv_iload hx hb d_Wb_isWord_33 (lv_at hl 5 rfl) ?_
  refine lv_iload hx hb d_Wb_isWord_35 (lv_at hl 3 rfl) ?_
  refine lv_iload_n hx hb d_Wb_isWord_37 rfl (lv_at hl 2 rfl) ?_
  refine lv_isub hx hb d_Wb_isWord_38 ?_
  refine lv_icmp_ge (tgt := 72) hx hb d_Wb_isWord_39 (by decide) (fun hc => ?_) (fun hc => ?_)
  · replace h := h.1 hc
    refine lv_iconst (v := (1 : Int32)) hx hb d_Wb_isWord_72 (by decide) ?_
    exact kw_zret hx hb hr hlocks hst h d_Wb_isWord_73
  · replace h := h.2 hc
    refine lv_aload_n hx hb d_Wb_isWord_42 rfl (lv_at hl 1 rfl) ?_
    refine va_get (D := D) (ci := 1) (C := R_Tx) (T := T_Tx) (N := 2) hx hb hts in_Tx hown hK hst.1 10 (WS_o10 g σ) rfl 0 (by decide) (hts _ gw108) (fun _ h9 => h9) rfl d_Wb_isWord_43 ?_
    refine lv_iload_n hx hb d_Wb_isWord_46 rfl (lv_at hl 2 rfl) ?_
    refine lv_iload hx hb d_Wb_isWord_47 (lv_at hl 5 rfl) ?_
    refine lv_iadd hx hb d_Wb_isWord_49 ?_
    obtain ⟨hi, h⟩ := h
    refine va_cald hx hb hK hst.1 11 1 (WS_a11 g σ) rfl hi d_Wb_isWord_50 ?_
    refine lv_aload_n hx hb d_Wb_isWord_51 rfl (lv_at hl 0 rfl) ?_
    refine va_get (D := D) (ci := 4) (C := R_Wb) (T := T_Wb) (N := 2) hx hb hts in_Wb hown hK hst.1 26 (WS_o26 g σ) rfl 0 (by decide) (hts _ gw87) (fun _ h9 => h9) rfl d_Wb_isWord_52 ?_
    refine lv_iload hx hb d_Wb_isWord_55 (lv_at hl 4 rfl) ?_
    refine lv_iload hx hb d_Wb_isWord_57 (lv_at hl 5 rfl) ?_
    refine lv_iadd hx hb d_Wb_isWord_59 ?_
    obtain ⟨hi, h⟩ := h
    refine va_cald hx hb hK hst.1 27 1 (WS_a27 g σ) rfl hi d_Wb_isWord_60 ?_
    refine lv_icmp_eq (tgt := 66) hx hb d_Wb_isWord_61 (by decide) (fun hc => ?_) (fun hc => ?_)
    · replace h := h.1 hc
      refine lv_iinc (k := 5) (v := (x6 + 1)) hx hb d_Wb_isWord_66 hl rfl (kw_inc _ (by decide)) (by decide) rfl (fun ls hl => ?_)
      have hl : lv_has ls 7 [(6, .int (x6 + 1)), (0, .ref (g.1 26)), (2, .ref (g.1 10)), (3, .int x3), (4, .int x4), (5, .int x5)] := hl
      refine lv_goto (tgt := 33) hx hb d_Wb_isWord_69 (by decide) ?_
      exact j1 x3 x4 x5 (x6 + 1) σ _ _ _ (lv_sub hl [1, 2, 3, 4, 5, 0] rfl) hst h
    · replace h := h.2 hc
      refine lv_iconst (v := (0 : Int32)) hx hb d_Wb_isWord_64 (by decide) ?_
      exact kw_zret hx hb hr hlocks hst h d_Wb_isWord_65
set_option maxRecDepth 100000 in
set_option maxHeartbeats 4000000 in
theorem a_Wb_isWord_0 {p : Program} {l : Launch} {e : Env} {s : State} {m : MethodId} {args : Array Value} {below : List Frame} {meth : Method} {c : Code} {D : va_G} {g : Gm} {A : Nat → Prop} {post : Int32 → Sg → Prop} (C : kC p s m args meth c k_Wb_isWord 7 (some .boolean) GW R_Wb D vwCl g (Zk g) A) : ∀ n : Nat, J_Wb_isWord_0_1 p l e s m args below meth c D g A post (wp_Wb_isWord 0 post n) := by
  intro n
  induction n with
  | zero => exact fun _ _ _ _ _ _ _ _ _ _ h => h.elim
  | succ n ih => exact fun x3 x4 x5 x6 σ H locs ls hl hst h => b_Wb_isWord_0_1 (F := wp_Wb_isWord 0 post n) C (ih) x3 x4 x5 x6 σ H locs ls hl hst h
set_option maxRecDepth 100000 in
set_option maxHeartbeats 4000000 in
theorem c_Wb_isWord_0 (l : Launch) {D : va_G} {g : Gm} {sz : Nat} (x1 : Int32) (x3 : Int32) (x4 : Int32) {σ : Sg} {post : Int32 → Sg → Prop} (h : wq_Wb_isWord 0 x1 x3 x4 σ post) : Met l y_Wb_isWord (.code y_Wb_isWord k_Wb_isWord 7 (some .boolean) :: GW) { frames := 0, cells := 0, slots := 0, locals := 0 } (PcW D vwCl (WS g) g (Zk g) σ sz [.ref (g.1 26), .int x1, .ref (g.1 10), .int x3, .int x4]) (QiW D vwCl (WS g) post (va_A (WS g σ) sz)) 0 0 (va_A (WS g σ) sz) := by
  refine kw_entry (own := R_Wb) (by decide) rfl rfl (Nat.le_of_ble_eq_true rfl) ?_
  intro p e s m below meth c ls hsz C hin hl hst
  obtain ⟨n, h⟩ := h
  cases n with
  | zero => exact h.elim
  | succ n =>
    have ih := a_Wb_isWord_0 (l := l) (e := e) (below := below) (post := post) C n
    exact b_Wb_isWord_0_0 (F := wp_Wb_isWord 0 post n) C (ih) x1 x3 x4 σ _ _ ls hl hst h
def J_Wb_isWord_13_1 (p : Program) (l : Launch) (e : Env) (s : State) (m : MethodId) (args : Array Value) (below : List Frame) (meth : Method) (c : Code) (D : va_G) (g : Gm) (A : Nat → Prop) (post : Int32 → Sg → Prop) (F : Nat → Int32 → Int32 → Int32 → Int32 → Int32 → Sg → Prop) : Prop := ∀ (x3 : Int32) (x4 : Int32) (x5 : Int32) (x6 : Int32) (σ : Sg) (H : Heap) (locs : List Loc) (ls : Array Slot), lv_has ls 7 [(0, .ref (g.1 26)), (2, .ref (g.1 23)), (3, .int x3), (4, .int x4), (5, .int x5), (6, .int x6)] → Wst D vwCl (WS g) A s σ H locs → F 1 0 x3 x4 x5 x6 σ → W p l e { frames := 0, cells := 0, slots := 0, locals := 0 } s m args below meth c H locs 0 0 (MQ below (QiW D vwCl (WS g) post A) args s 0 0 A) (F0 m 33 ls [])
set_option maxRecDepth 100000 in
set_option maxHeartbeats 4000000 in
theorem b_Wb_isWord_13_0 {p : Program} {l : Launch} {e : Env} {s : State} {m : MethodId} {args : Array Value} {below : List Frame} {meth : Method} {c : Code} {D : va_G} {g : Gm} {A : Nat → Prop} {post : Int32 → Sg → Prop} {F : Nat → Int32 → Int32 → Int32 → Int32 → Int32 → Sg → Prop} (C : kC p s m args meth c k_Wb_isWord 7 (some .boolean) GW R_Wb D vwCl g (Zk g) A) (j1 : J_Wb_isWord_13_1 p l e s m args below meth c D g A post F) (x1 : Int32) (x3 : Int32) (x4 : Int32) (σ : Sg) (H : Heap) (locs : List Loc) (ls : Array Slot) (hl : lv_has ls 7 [(0, .ref (g.1 26)), (1, .int x1), (2, .ref (g.1 23)), (3, .int x3), (4, .int x4)]) (hst : Wst D vwCl (WS g) A s σ H locs) (h : wb_Wb_isWord_0 13 F post x1 x3 x4 σ) : W p l e { frames := 0, cells := 0, slots := 0, locals := 0 } s m args below meth c H locs 0 0 (MQ below (QiW D vwCl (WS g) post A) args s 0 0 A) (F0 m 0 ls []) := by
  obtain ⟨hx, hb, hr, hml, hown, hts, hlocks, hK, hZ, hA⟩ := C
  unfold wb_Wb_isWord_0 at h
  refine lv_aload_n hx hb d_Wb_isWord_0 rfl (lv_at hl 0 rfl) ?_
  refine va_get (D := D) (ci := 4) (C := R_Wb) (T := T_Wb) (N := 2) hx hb hts in_Wb hown hK hst.1 26 (WS_o26 g σ) rfl 1 (by decide) (hts _ gw88) (fun _ h9 => h9) rfl d_Wb_isWord_1 ?_
  refine lv_iload_n hx hb d_Wb_isWord_4 rfl (lv_at hl 1 rfl) ?_
  obtain ⟨hi, h⟩ := h
  refine va_iald hx hb hK hst.1 28 0 (WS_a28 g σ) rfl hi d_Wb_isWord_5 ?_
  refine lv_istore hx hb d_Wb_isWord_6 hl (by decide) rfl (fun ls hl => ?_)
  have hl : lv_has ls 7 [(5, .int (σ.1 28 x1.toNatClampNeg)), (0, .ref (g.1 26)), (1, .int x1), (2, .ref (g.1 23)), (3, .int x3), (4, .int x4)] := hl
  refine lv_iload hx hb d_Wb_isWord_8 (lv_at hl 5 rfl) ?_
  refine lv_iload_n hx hb d_Wb_isWord_10 rfl (lv_at hl 4 rfl) ?_
  refine lv_isub hx hb d_Wb_isWord_11 ?_
  refine lv_aload_n hx hb d_Wb_isWord_12 rfl (lv_at hl 1 rfl) ?_
  refine va_get (D := D) (ci := 4) (C := R_Wb) (T := T_Wb) (N := 2) hx hb hts in_Wb hown hK hst.1 26 (WS_o26 g σ) rfl 1 (by decide) (hts _ gw88) (fun _ h9 => h9) rfl d_Wb_isWord_13 ?_
  refine lv_iload_n hx hb d_Wb_isWord_16 rfl (lv_at hl 2 rfl) ?_
  refine lv_iconst (v := (1 : Int32)) hx hb d_Wb_isWord_17 (by decide) ?_
  refine lv_iadd hx hb d_Wb_isWord_18 ?_
  obtain ⟨hi, h⟩ := h
  refine va_iald hx hb hK hst.1 28 0 (WS_a28 g σ) rfl hi d_Wb_isWord_19 ?_
  refine lv_iconst (v := (1 : Int32)) hx hb d_Wb_isWord_20 (by decide) ?_
  refine lv_isub hx hb d_Wb_isWord_21 ?_
  refine lv_iload hx hb d_Wb_isWord_22 (lv_at hl 0 rfl) ?_
  refine lv_isub hx hb d_Wb_isWord_24 ?_
  refine lv_icmp_eq (tgt := 30) hx hb d_Wb_isWord_25 (by decide) (fun hc => ?_) (fun hc => ?_)
  · replace h := h.1 hc
    refine lv_iconst (v := (0 : Int32)) hx hb d_Wb_isWord_30 (by decide) ?_
    refine lv_istore hx hb d_Wb_isWord_31 hl (by decide) rfl (fun ls hl => ?_)
    have hl : lv_has ls 7 [(6, .int (0 : Int32)), (5, .int (σ.1 28 x1.toNatClampNeg)), (0, .ref (g.1 26)), (1, .int x1), (2, .ref (g.1 23)), (3, .int x3), (4, .int x4)] := hl
    exact j1 x3 x4 (σ.1 28 x1.toNatClampNeg) (0 : Int32) σ _ _ _ (lv_sub hl [2, 4, 5, 6, 1, 0] rfl) hst h
  · replace h := h.2 hc
    refine lv_iconst (v := (0 : Int32)) hx hb d_Wb_isWord_28 (by decide) ?_
    exact kw_zret hx hb hr hlocks hst h d_Wb_isWord_29
set_option maxRecDepth 100000 in
set_option maxHeartbeats 4000000 in
theorem b_Wb_isWord_13_1 {p : Program} {l : Launch} {e : Env} {s : State} {m : MethodId} {args : Array Value} {below : List Frame} {meth : Method} {c : Code} {D : va_G} {g : Gm} {A : Nat → Prop} {post : Int32 → Sg → Prop} {F : Nat → Int32 → Int32 → Int32 → Int32 → Int32 → Sg → Prop} (C : kC p s m args meth c k_Wb_isWord 7 (some .boolean) GW R_Wb D vwCl g (Zk g) A) (j1 : J_Wb_isWord_13_1 p l e s m args below meth c D g A post F) (x3 : Int32) (x4 : Int32) (x5 : Int32) (x6 : Int32) (σ : Sg) (H : Heap) (locs : List Loc) (ls : Array Slot) (hl : lv_has ls 7 [(0, .ref (g.1 26)), (2, .ref (g.1 23)), (3, .int x3), (4, .int x4), (5, .int x5), (6, .int x6)]) (hst : Wst D vwCl (WS g) A s σ H locs) (h : wb_Wb_isWord_1 13 F post x3 x4 x5 x6 σ) : W p l e { frames := 0, cells := 0, slots := 0, locals := 0 } s m args below meth c H locs 0 0 (MQ below (QiW D vwCl (WS g) post A) args s 0 0 A) (F0 m 33 ls []) := by
  obtain ⟨hx, hb, hr, hml, hown, hts, hlocks, hK, hZ, hA⟩ := C
  unfold wb_Wb_isWord_1 at h
  refine lv_iload hx hb d_Wb_isWord_33 (lv_at hl 5 rfl) ?_
  refine lv_iload hx hb d_Wb_isWord_35 (lv_at hl 3 rfl) ?_
  refine lv_iload_n hx hb d_Wb_isWord_37 rfl (lv_at hl 2 rfl) ?_
  refine lv_isub hx hb d_Wb_isWord_38 ?_
  refine lv_icmp_ge (tgt := 72) hx hb d_Wb_isWord_39 (by decide) (fun hc => ?_) (fun hc => ?_)
  · replace h := h.1 hc
    refine lv_iconst (v := (1 : Int32)) hx hb d_Wb_isWord_72 (by decide) ?_
    exact kw_zret hx hb hr hlocks hst h d_Wb_isWord_73
  · replace h := h.2 hc
    refine lv_aload_n hx hb d_Wb_isWord_42 rfl (lv_at hl 1 rfl) ?_
    refine va_get (D := D) (ci := 1) (C := R_Tx) (T := T_Tx) (N := 2) hx hb hts in_Tx hown hK hst.1 23 (WS_o23 g σ) rfl 0 (by decide) (hts _ gw108) (fun _ h9 => h9) rfl d_Wb_isWord_43 ?_
    refine lv_iload_n hx hb d_Wb_isWord_46 rfl (lv_at hl 2 rfl) ?_
    refine lv_iload hx hb d_Wb_isWord_47 (lv_at hl 5 rfl) ?_
    refine lv_iadd hx hb d_Wb_isWord_49 ?_
    obtain ⟨hi, h⟩ := h
    refine va_cald hx hb hK hst.1 24 1 (WS_a24 g σ) rfl hi d_Wb_isWord_50 ?_
    refine lv_aload_n hx hb d_Wb_isWord_51 rfl (lv_at hl 0 rfl) ?_
    refine va_get (D := D) (ci := 4) (C := R_Wb) (T := T_Wb) (N := 2) hx hb hts in_Wb hown hK hst.1 26 (WS_o26 g σ) rfl 0 (by decide) (hts _ gw87) (fun _ h9 => h9) rfl d_Wb_isWord_52 ?_
    refine lv_iload hx hb d_Wb_isWord_55 (lv_at hl 4 rfl) ?_
    refine lv_iload hx hb d_Wb_isWord_57 (lv_at hl 5 rfl) ?_
    refine lv_iadd hx hb d_Wb_isWord_59 ?_
    obtain ⟨hi, h⟩ := h
    refine va_cald hx hb hK hst.1 27 1 (WS_a27 g σ) rfl hi d_Wb_isWord_60 ?_
    refine lv_icmp_eq (tgt := 66) hx hb d_Wb_isWord_61 (by decide) (fun hc => ?_) (fun hc => ?_)
    · replace h := h.1 hc
      refine lv_iinc (k := 5) (v := (x6 + 1)) hx hb d_Wb_isWord_66 hl rfl (kw_inc _ (by decide)) (by decide) rfl (fun ls hl => ?_)
      have hl : lv_has ls 7 [(6, .int (x6 + 1)), (0, .ref (g.1 26)), (2, .ref (g.1 23)), (3, .int x3), (4, .int x4), (5, .int x5)] := hl
      refine lv_goto (tgt := 33) hx hb d_Wb_isWord_69 (by decide) ?_
      exact j1 x3 x4 x5 (x6 + 1) σ _ _ _ (lv_sub hl [1, 2, 3, 4, 5, 0] rfl) hst h
    · replace h := h.2 hc
      refine lv_iconst (v := (0 : Int32)) hx hb d_Wb_isWord_64 (by decide) ?_
      exact kw_zret hx hb hr hlocks hst h d_Wb_isWord_65
set_option maxRecDepth 100000 in
set_option maxHeartbeats 4000000 in
theorem a_Wb_isWord_13 {p : Program} {l : Launch} {e : Env} {s : State} {m : MethodId} {args : Array Value} {below : List Frame} {meth : Method} {c : Code} {D : va_G} {g : Gm} {A : Nat → Prop} {post : Int32 → Sg → Prop} (C : kC p s m args meth c k_Wb_isWord 7 (some .boolean) GW R_Wb D vwCl g (Zk g) A) : ∀ n : Nat, J_Wb_isWord_13_1 p l e s m args below meth c D g A post (wp_Wb_isWord 13 post n) := by
  intro n
  induction n with
  | zero => exact fun _ _ _ _ _ _ _ _ _ _ h => h.elim
  | succ n ih => exact fun x3 x4 x5 x6 σ H locs ls hl hst h => b_Wb_isWord_13_1 (F := wp_Wb_isWord 13 post n) C (ih) x3 x4 x5 x6 σ H locs ls hl hst h
set_option maxRecDepth 100000 in
set_option maxHeartbeats 4000000 in
theorem c_Wb_isWord_13 (l : Launch) {D : va_G} {g : Gm} {sz : Nat} (x1 : Int32) (x3 : Int32) (x4 : Int32) {σ : Sg} {post : Int32 → Sg → Prop} (h : wq_Wb_isWord 13 x1 x3 x4 σ post) : Met l y_Wb_isWord (.code y_Wb_isWord k_Wb_isWord 7 (some .boolean) :: GW) { frames := 0, cells := 0, slots := 0, locals := 0 } (PcW D vwCl (WS g) g (Zk g) σ sz [.ref (g.1 26), .int x1, .ref (g.1 23), .int x3, .int x4]) (QiW D vwCl (WS g) post (va_A (WS g σ) sz)) 0 0 (va_A (WS g σ) sz) := by
  refine kw_entry (own := R_Wb) (by decide) rfl rfl (Nat.le_of_ble_eq_true rfl) ?_
  intro p e s m below meth c ls hsz C hin hl hst
  obtain ⟨n, h⟩ := h
  cases n with
  | zero => exact h.elim
  | succ n =>
    have ih := a_Wb_isWord_13 (l := l) (e := e) (below := below) (post := post) C n
    exact b_Wb_isWord_13_0 (F := wp_Wb_isWord 13 post n) C (ih) x1 x3 x4 σ _ _ ls hl hst h
