/-! SchemaDesk$Plan.childBy (II)I -/
abbrev k_Pl_childBy : ByteArray := prog_3_method_3_code
abbrev y_Pl_childBy : MethodName := ⟨"SchemaDesk$Plan", "childBy", "(II)I"⟩
theorem d_Pl_childBy_0 : decode k_Pl_childBy 0 = .ok (.iconst 0, 1) := by decide +kernel
theorem d_Pl_childBy_1 : decode k_Pl_childBy 1 = .ok (.istore_n 3, 1) := by decide +kernel
theorem d_Pl_childBy_2 : decode k_Pl_childBy 2 = .ok (.iload_n 1, 1) := by decide +kernel
theorem d_Pl_childBy_3 : decode k_Pl_childBy 3 = .ok (.iconst 1, 1) := by decide +kernel
theorem d_Pl_childBy_4 : decode k_Pl_childBy 4 = .ok (.iadd, 1) := by decide +kernel
theorem d_Pl_childBy_5 : decode k_Pl_childBy 5 = .ok (.istore 4, 2) := by decide +kernel
theorem d_Pl_childBy_7 : decode k_Pl_childBy 7 = .ok (.iload_n 3, 1) := by decide +kernel
theorem d_Pl_childBy_8 : decode k_Pl_childBy 8 = .ok (.aload_n 0, 1) := by decide +kernel
theorem d_Pl_childBy_9 : decode k_Pl_childBy 9 = .ok (.getfield 28, 3) := by decide +kernel
theorem d_Pl_childBy_12 : decode k_Pl_childBy 12 = .ok (.getfield 63, 3) := by decide +kernel
theorem d_Pl_childBy_15 : decode k_Pl_childBy 15 = .ok (.iload_n 1, 1) := by decide +kernel
theorem d_Pl_childBy_16 : decode k_Pl_childBy 16 = .ok (.iaload, 1) := by decide +kernel
theorem d_Pl_childBy_17 : decode k_Pl_childBy 17 = .ok (.if_icmp .ge 35, 3) := by decide +kernel
theorem d_Pl_childBy_20 : decode k_Pl_childBy 20 = .ok (.aload_n 0, 1) := by decide +kernel
theorem d_Pl_childBy_21 : decode k_Pl_childBy 21 = .ok (.getfield 9, 3) := by decide +kernel
theorem d_Pl_childBy_24 : decode k_Pl_childBy 24 = .ok (.iload 4, 2) := by decide +kernel
theorem d_Pl_childBy_26 : decode k_Pl_childBy 26 = .ok (.iaload, 1) := by decide +kernel
theorem d_Pl_childBy_27 : decode k_Pl_childBy 27 = .ok (.iload_n 2, 1) := by decide +kernel
theorem d_Pl_childBy_28 : decode k_Pl_childBy 28 = .ok (.if_icmp .ne 6, 3) := by decide +kernel
theorem d_Pl_childBy_31 : decode k_Pl_childBy 31 = .ok (.iload 4, 2) := by decide +kernel
theorem d_Pl_childBy_33 : decode k_Pl_childBy 33 = .ok (.ireturn, 1) := by decide +kernel
theorem d_Pl_childBy_34 : decode k_Pl_childBy 34 = .ok (.iinc 3 1, 3) := by decide +kernel
theorem d_Pl_childBy_37 : decode k_Pl_childBy 37 = .ok (.aload_n 0, 1) := by decide +kernel
theorem d_Pl_childBy_38 : decode k_Pl_childBy 38 = .ok (.getfield 28, 3) := by decide +kernel
theorem d_Pl_childBy_41 : decode k_Pl_childBy 41 = .ok (.getfield 66, 3) := by decide +kernel
theorem d_Pl_childBy_44 : decode k_Pl_childBy 44 = .ok (.iload 4, 2) := by decide +kernel
theorem d_Pl_childBy_46 : decode k_Pl_childBy 46 = .ok (.iaload, 1) := by decide +kernel
theorem d_Pl_childBy_47 : decode k_Pl_childBy 47 = .ok (.istore 4, 2) := by decide +kernel
theorem d_Pl_childBy_49 : decode k_Pl_childBy 49 = .ok (.goto (-42), 3) := by decide +kernel
theorem d_Pl_childBy_52 : decode k_Pl_childBy 52 = .ok (.iconst (-1), 1) := by decide +kernel
theorem d_Pl_childBy_53 : decode k_Pl_childBy 53 = .ok (.ireturn, 1) := by decide +kernel
theorem gw233 : (Jvm.Cond.fieldLink "SchemaDesk$Plan" (28 : Nat) "SchemaDesk$Plan" "schema" "LSchemaDesk$Tree;") ∈ GW := gw_t1 (List.mem_of_getElem? (i := 233) rfl) rfl
theorem gw149 : (Jvm.Cond.fieldLink "SchemaDesk$Plan" (63 : Nat) "SchemaDesk$Tree" "children" "[I") ∈ GW := gw_t1 (List.mem_of_getElem? (i := 149) rfl) rfl
theorem gw236 : (Jvm.Cond.fieldLink "SchemaDesk$Plan" (9 : Nat) "SchemaDesk$Plan" "word" "[I") ∈ GW := gw_t1 (List.mem_of_getElem? (i := 236) rfl) rfl
theorem gw164 : (Jvm.Cond.fieldLink "SchemaDesk$Plan" (66 : Nat) "SchemaDesk$Tree" "behind" "[I") ∈ GW := gw_t1 (List.mem_of_getElem? (i := 164) rfl) rfl
def wb_Pl_childBy_0 (F : Nat → Int32 → Int32 → Int32 → Int32 → Sg → Prop) (post : Int32 → Sg → Prop) (x1 : Int32) (x2 : Int32) (σ : Sg) : Prop := F 1 x1 x2 (0 : Int32) (x1 + (1 : Int32)) σ
def wb_Pl_childBy_1 (F : Nat → Int32 → Int32 → Int32 → Int32 → Sg → Prop) (post : Int32 → Sg → Prop) (x1 : Int32) (x2 : Int32) (x3 : Int32) (x4 : Int32) (σ : Sg) : Prop := (vp_in x1 160 ∧ (((σ.1 5 x1.toNatClampNeg) ≤ x3 → post (-1 : Int32) σ) ∧ (¬ (σ.1 5 x1.toNatClampNeg) ≤ x3 → (vp_in x4 160 ∧ ((¬ (σ.1 30 x4.toNatClampNeg) = x2 → (vp_in x4 160 ∧ F 1 x1 x2 (x3 + 1) (σ.1 8 x4.toNatClampNeg) σ)) ∧ ((σ.1 30 x4.toNatClampNeg) = x2 → post x4 σ))))))
def wp_Pl_childBy (post : Int32 → Sg → Prop) : Nat → Nat → Int32 → Int32 → Int32 → Int32 → Sg → Prop
  | 0, _, _, _, _, _, _ => False
  | n + 1, k, x1, x2, x3, x4, σ => match k with
    | 0 => wb_Pl_childBy_0 (wp_Pl_childBy post n) post x1 x2 σ
    | 1 => wb_Pl_childBy_1 (wp_Pl_childBy post n) post x1 x2 x3 x4 σ
    | _ => False
def wq_Pl_childBy (x1 : Int32) (x2 : Int32) (σ : Sg) (post : Int32 → Sg → Prop) : Prop := ∃ n, wp_Pl_childBy post n 0 x1 x2 0 0 σ
def J_Pl_childBy_1 (p : Program) (l : Launch) (e : Env) (s : State) (m : MethodId) (args : Array Value) (below : List Frame) (meth : Method) (c : Code) (D : va_G) (g : Gm) (A : Nat → Prop) (post : Int32 → Sg → Prop) (F : Nat → Int32 → Int32 → Int32 → Int32 → Sg → Prop) : Prop := ∀ (x1 : Int32) (x2 : Int32) (x3 : Int32) (x4 : Int32) (σ : Sg) (H : Heap) (locs : List Loc) (ls : Array Slot), lv_has ls 5 [(0, .ref (g.1 29)), (1, .int x1), (2, .int x2), (3, .int x3), (4, .int x4)] → Wst D vwCl (WS g) A s σ H locs → F 1 x1 x2 x3 x4 σ → W p l e { frames := 0, cells := 0, slots := 0, locals := 0 } s m args below meth c H locs 0 0 (MQ below (QiW D vwCl (WS g) post A) args s 0 0 A) (F0 m 7 ls [])
set_option maxRecDepth 100000 in
set_option maxHeartbeats 4000000 in
theorem b_Pl_childBy_0 {p : Program} {l : Launch} {e : Env} {s : State} {m : MethodId} {args : Array Value} {below : List Frame} {meth : Method} {c : Code} {D : va_G} {g : Gm} {A : Nat → Prop} {post : Int32 → Sg → Prop} {F : Nat → Int32 → Int32 → Int32 → Int32 → Sg → Prop} (C : kC p s m args meth c k_Pl_childBy 5 (some .int) GW R_Pl D vwCl g (Zk g) A) (j1 : J_Pl_childBy_1 p l e s m args below meth c D g A post F) (x1 : Int32) (x2 : Int32) (σ : Sg) (H : Heap) (locs : List Loc) (ls : Array Slot) (hl : lv_has ls 5 [(0, .ref (g.1 29)), (1, .int x1), (2, .int x2)]) (hst : Wst D vwCl (WS g) A s σ H locs) (h : wb_Pl_childBy_0 F post x1 x2 σ) : W p l e { frames := 0, cells := 0, slots := 0, locals := 0 } s m args below meth c H locs 0 0 (MQ below (QiW D vwCl (WS g) post A) args s 0 0 A) (F0 m 0 ls []) := by
  obtain ⟨hx, hb, hr, hml, hown, hts, hlocks, hK, hZ, hA⟩ := C
  unfold wb_Pl_childBy_0 at h
  refine lv_iconst (v := (0 : Int32)) hx hb d_Pl_childBy_0 (by decide) ?_
  refine lv_istore_n hx hb d_Pl_childBy_1 rfl hl (by decide) rfl (fun ls hl => ?_)
  have hl : lv_has ls 5 [(3, .int (0 : Int32)), (0, .ref (g.1 29)), (1, .int x1), (2, .int x2)] := hl
  refine lv_iload_n hx hb d_Pl_childBy_2 rfl (lv_at hl 2 rfl) ?_
  refine lv_iconst (v := (1 : Int32)) hx hb d_Pl_childBy_3 (by decide) ?_
  refine lv_iadd hx hb d_Pl_childBy_4 ?_
  refine lv_istore hx hb d_Pl_childBy_5 hl (by decide) rfl (fun ls hl => ?_)
  have hl : lv_has ls 5 [(4, .int (x1 + (1 : Int32))), (3, .int (0 : Int32)), (0, .ref (g.1 29)), (1, .int x1), (2, .int x2)] := hl
  exact j1 x1 x2 (0 : Int32) (x1 + (1 : Int32)) σ _ _ _ (lv_sub hl [2, 3, 4, 1, 0] rfl) hst h
set_option maxRecDepth 100000 in
set_option maxHeartbeats 4000000 in
theorem b_Pl_childBy_1 {p : Program} {l : Launch} {e : Env} {s : State} {m : MethodId} {args : Array Value} {below : List Frame} {meth : Method} {c : Code} {D : va_G} {g : Gm} {A : Nat → Prop} {post : Int32 → Sg → Prop} {F : Nat → Int32 → Int32 → Int32 → Int32 → Sg → Prop} (C : kC p s m args meth c k_Pl_childBy 5 (some .int) GW R_Pl D vwCl g (Zk g) A) (j1 : J_Pl_childBy_1 p l e s m args below meth c D g A post F) (x1 : Int32) (x2 : Int32) (x3 : Int32) (x4 : Int32) (σ : Sg) (H : Heap) (locs : List Loc) (ls : Array Slot) (hl : lv_has ls 5 [(0, .ref (g.1 29)), (1, .int x1), (2, .int x2), (3, .int x3), (4, .int x4)]) (hst : Wst D vwCl (WS g) A s σ H locs) (h : wb_Pl_childBy_1 F post x1 x2 x3 x4 σ) : W p l e { frames := 0, cells := 0, slots := 0, locals := 0 } s m args below meth c H locs 0 0 (MQ below (QiW D vwCl (WS g) post A) args s 0 0 A) (F0 m 7 ls []) := by
  obtain ⟨hx, hb, hr, hml, hown, hts, hlocks, hK, hZ, hA⟩ := C
  unfold wb_Pl_childBy_1 at h
  refine lv_iload_n hx hb d_Pl_childBy_7 rfl (lv_at hl 3 rfl) ?_
  refine lv_aload_n hx hb d_Pl_childBy_8 rfl (lv_at hl 0 rfl) ?_
  refine va_get (D := D) (ci := 5) (C := R_Pl) (T := T_Pl) (N := 10) hx hb hts in_Pl hown hK hst.1 29 (WS_o29 g σ) rfl 0 (by decide) (hts _ gw233) (fun _ h9 => h9) rfl d_Pl_childBy_9 ?_
  refine va_get (D := D) (ci := 0) (C := R_Tr) (T := T_Tr) (N := 12) hx hb hts in_Tr hown hK hst.1 0 (WS_o0 g σ) rfl 5 (by decide) (hts _ gw149) (fun _ h9 => h9) rfl d_Pl_childBy_12 ?_
  refine lv_iload_n hx hb d_Pl_childBy_15 rfl (lv_at hl 1 rfl) ?_
  obtain ⟨hi, h⟩ := h
  refine va_iald hx hb hK hst.1 5 0 (WS_a5 g σ) rfl hi d_Pl_childBy_16 ?_
  refine lv_icmp_ge (tgt := 52) hx hb d_Pl_childBy_17 (by decide) (fun hc => ?_) (fun hc => ?_)
  · replace h := h.1 hc
    refine lv_iconst (v := (-1 : Int32)) hx hb d_Pl_childBy_52 (by decide) ?_
    exact kw_iret hx hb hr hlocks hst h d_Pl_childBy_53
  · replace h := h.2 hc
    refine lv_aload_n hx hb d_Pl_childBy_20 rfl (lv_at hl 0 rfl) ?_
    refine va_get (D := D) (ci := 5) (C := R_Pl) (T := T_Pl) (N := 10) hx hb hts in_Pl hown hK hst.1 29 (WS_o29 g σ) rfl 2 (by decide) (hts _ gw236) (fun _ h9 => h9) rfl d_Pl_childBy_21 ?_
    refine lv_iload hx hb d_Pl_childBy_24 (lv_at hl 4 rfl) ?_
    obtain ⟨hi, h⟩ := h
    refine va_iald hx hb hK hst.1 30 0 (WS_a30 g σ) rfl hi d_Pl_childBy_26 ?_
    refine lv_iload_n hx hb d_Pl_childBy_27 rfl (lv_at hl 2 rfl) ?_
    refine lv_icmp_ne (tgt := 34) hx hb d_Pl_childBy_28 (by decide) (fun hc => ?_) (fun hc => ?_)
    · replace h := h.1 hc
      refine lv_iinc (k := 3) (v := (x3 + 1)) hx hb d_Pl_childBy_34 hl rfl (kw_inc _ (by decide)) (by decide) rfl (fun ls hl => ?_)
      have hl : lv_has ls 5 [(3, .int (x3 + 1)), (0, .ref (g.1 29)), (1, .int x1), (2, .int x2), (4, .int x4)] := hl
      refine lv_aload_n hx hb d_Pl_childBy_37 rfl (lv_at hl 1 rfl) ?_
      refine va_get (D := D) (ci := 5) (C := R_Pl) (T := T_Pl) (N := 10) hx hb hts in_Pl hown hK hst.1 29 (WS_o29 g σ) rfl 0 (by decide) (hts _ gw233) (fun _ h9 => h9) rfl d_Pl_childBy_38 ?_
      refine va_get (D := D) (ci := 0) (C := R_Tr) (T := T_Tr) (N := 12) hx hb hts in_Tr hown hK hst.1 0 (WS_o0 g σ) rfl 8 (by decide) (hts _ gw164) (fun _ h9 => h9) rfl d_Pl_childBy_41 ?_
      refine lv_iload hx hb d_Pl_childBy_44 (lv_at hl 4 rfl) ?_
      obtain ⟨hi, h⟩ := h
      refine va_iald hx hb hK hst.1 8 0 (WS_a8 g σ) rfl hi d_Pl_childBy_46 ?_
      refine lv_istore hx hb d_Pl_childBy_47 hl (by decide) rfl (fun ls hl => ?_)
      have hl : lv_has ls 5 [(4, .int (σ.1 8 x4.toNatClampNeg)), (3, .int (x3 + 1)), (0, .ref (g.1 29)), (1, .int x1), (2, .int x2)] := hl
      refine lv_goto (tgt := 7) hx hb d_Pl_childBy_49 (by decide) ?_
      exact j1 x1 x2 (x3 + 1) (σ.1 8 x4.toNatClampNeg) σ _ _ _ (lv_sub hl [2, 3, 4, 1, 0] rfl) hst h
    · replace h := h.2 hc
      refine lv_iload hx hb d_Pl_childBy_31 (lv_at hl 4 rfl) ?_
      exact kw_iret hx hb hr hlocks hst h d_Pl_childBy_33
set_option maxRecDepth 100000 in
set_option maxHeartbeats 4000000 in
theorem a_Pl_childBy {p : Program} {l : Launch} {e : Env} {s : State} {m : MethodId} {args : Array Value} {below : List Frame} {meth : Method} {c : Code} {D : va_G} {g : Gm} {A : Nat → Prop} {post : Int32 → Sg → Prop} (C : kC p s m args meth c k_Pl_childBy 5 (some .int) GW R_Pl D vwCl g (Zk g) A) : ∀ n : Nat, J_Pl_childBy_1 p l e s m args below meth c D g A post (wp_Pl_childBy post n) := by
  intro n
  induction n with
  | zero => exact fun _ _ _ _ _ _ _ _ _ _ h => h.elim
  | succ n ih => exact fun x1 x2 x3 x4 σ H locs ls hl hst h => b_Pl_childBy_1 (F := wp_Pl_childBy post n) C (ih) x1 x2 x3 x4 σ H locs ls hl hst h
set_option maxRecDepth 100000 in
set_option maxHeartbeats 4000000 in
theorem c_Pl_childBy (l : Launch) {D : va_G} {g : Gm} {sz : Nat} (x1 : Int32) (x2 : Int32) {σ : Sg} {post : Int32 → Sg → Prop} (h : wq_Pl_childBy x1 x2 σ post) : Met l y_Pl_childBy (.code y_Pl_childBy k_Pl_childBy 5 (some .int) :: GW) { frames := 0, cells := 0, slots := 0, locals := 0 } (PcW D vwCl (WS g) g (Zk g) σ sz [.ref (g.1 29), .int x1, .int x2]) (QiW D vwCl (WS g) post (va_A (WS g σ) sz)) 0 0 (va_A (WS g σ) sz) := by
  refine kw_entry (own := R_Pl) (by decide) rfl rfl (Nat.le_of_ble_eq_true rfl) ?_
  intro p e s m below meth c ls hsz C hin hl hst
  obtain ⟨n, h⟩ := h
  cases n with
  | zero => exact h.elim
  | succ n =>
    have ih := a_Pl_childBy (l := l) (e := e) (below := below) (post := post) C n
    exact b_Pl_childBy_0 (F := wp_Pl_childBy post n) C (ih) x1 x2 σ _ _ ls hl hst h
/-! SchemaDesk$Plan.areAllPlaced (I)Z -/
abbrev k_Pl_areAllPlaced : ByteArray := prog_3_method_10_code
abbrev y_Pl_areAllPlaced : MethodName := ⟨"SchemaDesk$Plan", "areAllPlaced", "(I)Z"⟩
theorem d_Pl_areAllPlaced_0 : decode k_Pl_areAllPlaced 0 = .ok (.iconst 0, 1) := by decide +kernel
theorem d_Pl_areAllPlaced_1 : decode k_Pl_areAllPlaced 1 = .ok (.istore_n 2, 1) := by decide +kernel
theorem d_Pl_areAllPlaced_2 : decode k_Pl_areAllPlaced 2 = .ok (.iload_n 1, 1) := by decide +kernel
theorem d_Pl_areAllPlaced_3 : decode k_Pl_areAllPlaced 3 = .ok (.iconst 1, 1) := by decide +kernel
theorem d_Pl_areAllPlaced_4 : decode k_Pl_areAllPlaced 4 = .ok (.iadd, 1) := by decide +kernel
theorem d_Pl_areAllPlaced_5 : decode k_Pl_areAllPlaced 5 = .ok (.istore_n 3, 1) := by decide +kernel
theorem d_Pl_areAllPlaced_6 : decode k_Pl_areAllPlaced 6 = .ok (.iload_n 2, 1) := by decide +kernel
theorem d_Pl_areAllPlaced_7 : decode k_Pl_areAllPlaced 7 = .ok (.aload_n 0, 1) := by decide +kernel
theorem d_Pl_areAllPlaced_8 : decode k_Pl_areAllPlaced 8 = .ok (.getfield 28, 3) := by decide +kernel
theorem d_Pl_areAllPlaced_11 : decode k_Pl_areAllPlaced 11 = .ok (.getfield 63, 3) := by decide +kernel
theorem d_Pl_areAllPlaced_14 : decode k_Pl_areAllPlaced 14 = .ok (.iload_n 1, 1) := by decide +kernel
theorem d_Pl_areAllPlaced_15 : decode k_Pl_areAllPlaced 15 = .ok (.iaload, 1) := by decide +kernel
theorem d_Pl_areAllPlaced_16 : decode k_Pl_areAllPlaced 16 = .ok (.if_icmp .ge 30, 3) := by decide +kernel
theorem d_Pl_areAllPlaced_19 : decode k_Pl_areAllPlaced 19 = .ok (.aload_n 0, 1) := by decide +kernel
theorem d_Pl_areAllPlaced_20 : decode k_Pl_areAllPlaced 20 = .ok (.getfield 24, 3) := by decide +kernel
theorem d_Pl_areAllPlaced_23 : decode k_Pl_areAllPlaced 23 = .ok (.iload_n 3, 1) := by decide +kernel
theorem d_Pl_areAllPlaced_24 : decode k_Pl_areAllPlaced 24 = .ok (.baload, 1) := by decide +kernel
theorem d_Pl_areAllPlaced_25 : decode k_Pl_areAllPlaced 25 = .ok (.ifCond .ne 5, 3) := by decide +kernel
theorem d_Pl_areAllPlaced_28 : decode k_Pl_areAllPlaced 28 = .ok (.iconst 0, 1) := by decide +kernel
theorem d_Pl_areAllPlaced_29 : decode k_Pl_areAllPlaced 29 = .ok (.ireturn, 1) := by decide +kernel
theorem d_Pl_areAllPlaced_30 : decode k_Pl_areAllPlaced 30 = .ok (.iinc 2 1, 3) := by decide +kernel
theorem d_Pl_areAllPlaced_33 : decode k_Pl_areAllPlaced 33 = .ok (.aload_n 0, 1) := by decide +kernel
theorem d_Pl_areAllPlaced_34 : decode k_Pl_areAllPlaced 34 = .ok (.getfield 28, 3) := by decide +kernel
theorem d_Pl_areAllPlaced_37 : decode k_Pl_areAllPlaced 37 = .ok (.getfield 66, 3) := by decide +kernel
theorem d_Pl_areAllPlaced_40 : decode k_Pl_areAllPlaced 40 = .ok (.iload_n 3, 1) := by decide +kernel
theorem d_Pl_areAllPlaced_41 : decode k_Pl_areAllPlaced 41 = .ok (.iaload, 1) := by decide +kernel
theorem d_Pl_areAllPlaced_42 : decode k_Pl_areAllPlaced 42 = .ok (.istore_n 3, 1) := by decide +kernel
theorem d_Pl_areAllPlaced_43 : decode k_Pl_areAllPlaced 43 = .ok (.goto (-37), 3) := by decide +kernel
theorem d_Pl_areAllPlaced_46 : decode k_Pl_areAllPlaced 46 = .ok (.iconst 1, 1) := by decide +kernel
theorem d_Pl_areAllPlaced_47 : decode k_Pl_areAllPlaced 47 = .ok (.ireturn, 1) := by decide +kernel
theorem gw259 : (Jvm.Cond.fieldLink "SchemaDesk$Plan" (24 : Nat) "SchemaDesk$Plan" "placed" "[Z") ∈ GW := gw_t2 (List.mem_of_getElem? (i := 19) rfl) rfl
def wb_Pl_areAllPlaced_0 (F : Nat → Int32 → Int32 → Int32 → Sg → Prop) (post : Int32 → Sg → Prop) (x1 : Int32) (σ : Sg) : Prop := F 1 x1 (0 : Int32) (x1 + (1 : Int32)) σ
def wb_Pl_areAllPlaced_1 (F : Nat → Int32 → Int32 → Int32 → Sg → Prop) (post : Int32 → Sg → Prop) (x1 : Int32) (x2 : Int32) (x3 : Int32) (σ : Sg) : Prop := (vp_in x1 160 ∧ (((σ.1 5 x1.toNatClampNeg) ≤ x2 → (narrow .boolean (.int (1 : Int32)) = .int (1 : Int32) ∧ post (1 : Int32) σ)) ∧ (¬ (σ.1 5 x1.toNatClampNeg) ≤ x2 → (vp_in x3 160 ∧ ((¬ (σ.1 34 x3.toNatClampNeg) = 0 → (vp_in x3 160 ∧ F 1 x1 (x2 + 1) (σ.1 8 x3.toNatClampNeg) σ)) ∧ ((σ.1 34 x3.toNatClampNeg) = 0 → (narrow .boolean (.int (0 : Int32)) = .int (0 : Int32) ∧ post (0 : Int32) σ)))))))
def wp_Pl_areAllPlaced (post : Int32 → Sg → Prop) : Nat → Nat → Int32 → Int32 → Int32 → Sg → Prop
  | 0, _, _, _, _, _ => False
  | n + 1, k, x1, x2, x3, σ => match k with
    | 0 => wb_Pl_areAllPlaced_0 (wp_Pl_areAllPlaced post n) post x1 σ
    | 1 => wb_Pl_areAllPlaced_1 (wp_Pl_areAllPlaced post n) post x1 x2 x3 σ
    | _ => False
def wq_Pl_areAllPlaced (x1 : Int32) (σ : Sg) (post : Int32 → Sg → Prop) : Prop := ∃ n, wp_Pl_areAllPlaced post n 0 x1 0 0 σ
def J_Pl_areAllPlaced_1 (p : Program) (l : Launch) (e : Env) (s : State) (m : MethodId) (args : Array Value) (below : List Frame) (meth : Method) (c : Code) (D : va_G) (g : Gm) (A : Nat → Prop) (post : Int32 → Sg → Prop) (F : Nat → Int32 → Int32 → Int32 → Sg → Prop) : Prop := ∀ (x1 : Int32) (x2 : Int32) (x3 : Int32) (σ : Sg) (H : Heap) (locs : List Loc) (ls : Array Slot), lv_has ls 4 [(0, .ref (g.1 29)), (1, .int x1), (2, .int x2), (3, .int x3)] → Wst D vwCl (WS g) A s σ H locs → F 1 x1 x2 x3 σ → W p l e { frames := 0, cells := 0, slots := 0, locals := 0 } s m args below meth c H locs 0 0 (MQ below (QiW D vwCl (WS g) post A) args s 0 0 A) (F0 m 6 ls [])
set_option maxRecDepth 100000 in
set_option maxHeartbeats 4000000 in
theorem b_Pl_areAllPlaced_0 {p : Program} {l : Launch} {e : Env} {s : State} {m : MethodId} {args : Array Value} {below : List Frame} {meth : Method} {c : Code} {D : va_G} {g : Gm} {A : Nat → Prop} {post : Int32 → Sg → Prop} {F : Nat → Int32 → Int32 → Int32 → Sg → Prop} (C : kC p s m args meth c k_Pl_areAllPlaced 4 (some .boolean) GW R_Pl D vwCl g (Zk g) A) (j1 : J_Pl_areAllPlaced_1 p l e s m args below meth c D g A post F) (x1 : Int32) (σ : Sg) (H : Heap) (locs : List Loc) (ls : Array Slot) (hl : lv_has ls 4 [(0, .ref (g.1 29)), (1, .int x1)]) (hst : Wst D vwCl (WS g) A s σ H locs) (h : wb_Pl_areAllPlaced_0 F post x1 σ) : W p l e { frames := 0, cells := 0, slots := 0, locals := 0 } s m args below meth c H locs 0 0 (MQ below (QiW D vwCl (WS g) post A) args s 0 0 A) (F0 m 0 ls []) := by
  obtain ⟨hx, hb, hr, hml, hown, hts, hlocks, hK, hZ, hA⟩ := C
  unfold wb_Pl_areAllPlaced_0 at h
  refine lv_iconst (v := (0 : Int32)) hx hb d_Pl_areAllPlaced_0 (by decide) ?_
  refine lv_istore_n hx hb d_Pl_areAllPlaced_1 rfl hl (by decide) rfl (fun ls hl => ?_)
  have hl : lv_has ls 4 [(2, .int (0 : Int32)), (0, .ref (g.1 29)), (1, .int x1)] := hl
  refine lv_iload_n hx hb d_Pl_areAllPlaced_2 rfl (lv_at hl 2 rfl) ?_
  refine lv_iconst (v := (1 : Int32)) hx hb d_Pl_areAllPlaced_3 (by decide) ?_
  refine lv_iadd hx hb d_Pl_areAllPlaced_4 ?_
  refine lv_istore_n hx hb d_Pl_areAllPlaced_5 rfl hl (by decide) rfl (fun ls hl => ?_)
  have hl : lv_has ls 4 [(3, .int (x1 + (1 : Int32))), (2, .int (0 : Int32)), (0, .ref (g.1 29)), (1, .int x1)] := hl
  exact j1 x1 (0 : Int32) (x1 + (1 : Int32)) σ _ _ _ (lv_sub hl [2, 3, 1, 0] rfl) hst h
set_option maxRecDepth 100000 in
set_option maxHeartbeats 4000000 in
theorem b_Pl_areAllPlaced_1 {p : Program} {l : Launch} {e : Env} {s : State} {m : MethodId} {args : Array Value} {below : List Frame} {meth : Method} {c : Code} {D : va_G} {g : Gm} {A : Nat → Prop} {post : Int32 → Sg → Prop} {F : Nat → Int32 → Int32 → Int32 → Sg → Prop} (C : kC p s m args meth c k_Pl_areAllPlaced 4 (some .boolean) GW R_Pl D vwCl g (Zk g) A) (j1 : J_Pl_areAllPlaced_1 p l e s m args below meth c D g A post F) (x1 : Int32) (x2 : Int32) (x3 : Int32) (σ : Sg) (H : Heap) (locs : List Loc) (ls : Array Slot) (hl : lv_has ls 4 [(0, .ref (g.1 29)), (1, .int x1), (2, .int x2), (3, .int x3)]) (hst : Wst D vwCl (WS g) A s σ H locs) (h : wb_Pl_areAllPlaced_1 F post x1 x2 x3 σ) : W p l e { frames := 0, cells := 0, slots := 0, locals := 0 } s m args below meth c H locs 0 0 (MQ below (QiW D vwCl (WS g) post A) args s 0 0 A) (F0 m 6 ls []) := by
  obtain ⟨hx, hb, hr, hml, hown, hts, hlocks, hK, hZ, hA⟩ := C
  unfold wb_Pl_areAllPlaced_1 at h
  refine lv_iload_n hx hb d_Pl_areAllPlaced_6 rfl (lv_at hl 2 rfl) ?_
  refine lv_aload_n hx hb d_Pl_areAllPlaced_7 rfl (lv_at hl 0 rfl) ?_
  refine va_get (D := D) (ci := 5) (C := R_Pl) (T := T_Pl) (N := 10) hx hb hts in_Pl hown hK hst.1 29 (WS_o29 g σ) rfl 0 (by decide) (hts _ gw233) (fun _ h9 => h9) rfl d_Pl_areAllPlaced_8 ?_
  refine va_get (D := D) (ci := 0) (C := R_Tr) (T := T_Tr) (N := 12) hx hb hts in_Tr hown hK hst.1 0 (WS_o0 g σ) rfl 5 (by decide) (hts _ gw149) (fun _ h9 => h9) rfl d_Pl_areAllPlaced_11 ?_
  refine lv_iload_n hx hb d_Pl_areAllPlaced_14 rfl (lv_at hl 1 rfl) ?_
  obtain ⟨hi, h⟩ := h
  refine va_iald hx hb hK hst.1 5 0 (WS_a5 g σ) rfl hi d_Pl_areAllPlaced_15 ?_
  refine lv_icmp_ge (tgt := 46) hx hb d_Pl_areAllPlaced_16 (by decide) (fun hc => ?_) (fun hc => ?_)
  · replace h := h.1 hc
    refine lv_iconst (v := (1 : Int32)) hx hb d_Pl_areAllPlaced_46 (by decide) ?_
    exact kw_zret hx hb hr hlocks hst h d_Pl_areAllPlaced_47
  · replace h := h.2 hc
    refine lv_aload_n hx hb d_Pl_areAllPlaced_19 rfl (lv_at hl 0 rfl) ?_
    refine va_get (D := D) (ci := 5) (C := R_Pl) (T := T_Pl) (N := 10) hx hb hts in_Pl hown hK hst.1 29 (WS_o29 g σ) rfl 9 (by decide) (hts _ gw259) (fun _ h9 => h9) rfl d_Pl_areAllPlaced_20 ?_
    refine lv_iload_n hx hb d_Pl_areAllPlaced_23 rfl (lv_at hl 3 rfl) ?_
    obtain ⟨hi, h⟩ := h
    refine va_zald hx hb hK hst.1 34 2 (WS_a34 g σ) rfl hi d_Pl_areAllPlaced_24 ?_
    refine lv_if_ne (tgt := 30) hx hb d_Pl_areAllPlaced_25 (by decide) (fun hc => ?_) (fun hc => ?_)
    · replace h := h.1 hc
      refine lv_iinc (k := 2) (v := (x2 + 1)) hx hb d_Pl_areAllPlaced_30 hl rfl (kw_inc _ (by decide)) (by decide) rfl (fun ls hl => ?_)
      have hl : lv_has ls 4 [(2, .int (x2 + 1)), (0, .ref (g.1 29)), (1, .int x1), (3, .int x3)] := hl
      refine lv_aload_n hx hb d_Pl_areAllPlaced_33 rfl (lv_at hl 1 rfl) ?_
      refine va_get (D := D) (ci := 5) (C := R_Pl) (T := T_Pl) (N := 10) hx hb hts in_Pl hown hK hst.1 29 (WS_o29 g σ) rfl 0 (by decide) (hts _ gw233) (fun _ h9 => h9) rfl d_Pl_areAllPlaced_34 ?_
      refine va_get (D := D) (ci := 0) (C := R_Tr) (T := T_Tr) (N := 12) hx hb hts in_Tr hown hK hst.1 0 (WS_o0 g σ) rfl 8 (by decide) (hts _ gw164) (fun _ h9 => h9) rfl d_Pl_areAllPlaced_37 ?_
      refine lv_iload_n hx hb d_Pl_areAllPlaced_40 rfl (lv_at hl 3 rfl) ?_
      obtain ⟨hi, h⟩ := h
      refine va_iald hx hb hK hst.1 8 0 (WS_a8 g σ) rfl hi d_Pl_areAllPlaced_41 ?_
      refine lv_istore_n hx hb d_Pl_areAllPlaced_42 rfl hl (by decide) rfl (fun ls hl => ?_)
      have hl : lv_has ls 4 [(3, .int (σ.1 8 x3.toNatClampNeg)), (2, .int (x2 + 1)), (0, .ref (g.1 29)), (1, .int x1)] := hl
      refine lv_goto (tgt := 6) hx hb d_Pl_areAllPlaced_43 (by decide) ?_
      exact j1 x1 (x2 + 1) (σ.1 8 x3.toNatClampNeg) σ _ _ _ (lv_sub hl [2, 3, 1, 0] rfl) hst h
    · replace h := h.2 hc
      refine lv_iconst (v := (0 : Int32)) hx hb d_Pl_areAllPlaced_28 (by decide) ?_
      exact kw_zret hx hb hr hlocks hst h d_Pl_areAllPlaced_29
set_option maxRecDepth 100000 in
set_option maxHeartbeats 4000000 in
theorem a_Pl_areAllPlaced {p : Program} {l : Launch} {e : Env} {s : State} {m : MethodId} {args : Array Value} {below : List Frame} {meth : Method} {c : Code} {D : va_G} {g : Gm} {A : Nat → Prop} {post : Int32 → Sg → Prop} (C : kC p s m args meth c k_Pl_areAllPlaced 4 (some .boolean) GW R_Pl D vwCl g (Zk g) A) : ∀ n : Nat, J_Pl_areAllPlaced_1 p l e s m args below meth c D g A post (wp_Pl_areAllPlaced post n) := by
  intro n
  induction n with
  | zero => exact fun _ _ _ _ _ _ _ _ _ h => h.elim
  | succ n ih => exact fun x1 x2 x3 σ H locs ls hl hst h => b_Pl_areAllPlaced_1 (F := wp_Pl_areAllPlaced post n) C (ih) x1 x2 x3 σ H locs ls hl hst h
set_option maxRecDepth 100000 in
set_option maxHeartbeats 4000000 in
theorem c_Pl_areAllPlaced (l : Launch) {D : va_G} {g : Gm} {sz : Nat} (x1 : Int32) {σ : Sg} {post : Int32 → Sg → Prop} (h : wq_Pl_areAllPlaced x1 σ post) : Met l y_Pl_areAllPlaced (.code y_Pl_areAllPlaced k_Pl_areAllPlaced 4 (some .boolean) :: GW) { frames := 0, cells := 0, slots := 0, locals := 0 } (PcW D vwCl (WS g) g (Zk g) σ sz [.ref (g.1 29), .int x1]) (QiW D vwCl (WS g) post (va_A (WS g σ) sz)) 0 0 (va_A (WS g σ) sz) := by
  refine kw_entry (own := R_Pl) (by decide) rfl rfl (Nat.le_of_ble_eq_true rfl) ?_
  intro p e s m below meth c ls hsz C hin hl hst
  obtain ⟨n, h⟩ := h
  cases n with
  | zero => exact h.elim
  | succ n =>
    have ih := a_Pl_areAllPlaced (l := l) (e := e) (below := below) (post := post) C n
    exact b_Pl_areAllPlaced_0 (F := wp_Pl_areAllPlaced post n) C (ih) x1 σ _ _ ls hl hst h
/-! SchemaDesk$Plan.wordOf (I)I -/
abbrev k_Pl_wordOf : ByteArray := prog_3_method_4_code
abbrev y_Pl_wordOf : MethodName := ⟨"SchemaDesk$Plan", "wordOf", "(I)I"⟩
theorem d_Pl_wordOf_0 : decode k_Pl_wordOf 0 = .ok (.aload_n 0, 1) := by decide +kernel
theorem d_Pl_wordOf_1 : decode k_Pl_wordOf 1 = .ok (.getfield 28, 3) := by decide +kernel
theorem d_Pl_wordOf_4 : decode k_Pl_wordOf 4 = .ok (.getfield 69, 3) := by decide +kernel
theorem d_Pl_wordOf_7 : decode k_Pl_wordOf 7 = .ok (.iload_n 1, 1) := by decide +kernel
theorem d_Pl_wordOf_8 : decode k_Pl_wordOf 8 = .ok (.iaload, 1) := by decide +kernel
theorem d_Pl_wordOf_9 : decode k_Pl_wordOf 9 = .ok (.istore_n 2, 1) := by decide +kernel
theorem d_Pl_wordOf_10 : decode k_Pl_wordOf 10 = .ok (.iload_n 2, 1) := by decide +kernel
theorem d_Pl_wordOf_11 : decode k_Pl_wordOf 11 = .ok (.iconst (-1), 1) := by decide +kernel
theorem d_Pl_wordOf_12 : decode k_Pl_wordOf 12 = .ok (.if_icmp .eq 33, 3) := by decide +kernel
theorem d_Pl_wordOf_15 : decode k_Pl_wordOf 15 = .ok (.aload_n 0, 1) := by decide +kernel
theorem d_Pl_wordOf_16 : decode k_Pl_wordOf 16 = .ok (.getfield 28, 3) := by decide +kernel
theorem d_Pl_wordOf_19 : decode k_Pl_wordOf 19 = .ok (.aload_n 0, 1) := by decide +kernel
theorem d_Pl_wordOf_20 : decode k_Pl_wordOf 20 = .ok (.getfield 28, 3) := by decide +kernel
theorem d_Pl_wordOf_23 : decode k_Pl_wordOf 23 = .ok (.getfield 72, 3) := by decide +kernel
theorem d_Pl_wordOf_26 : decode k_Pl_wordOf 26 = .ok (.iload_n 1, 1) := by decide +kernel
theorem d_Pl_wordOf_27 : decode k_Pl_wordOf 27 = .ok (.iaload, 1) := by decide +kernel
theorem d_Pl_wordOf_28 : decode k_Pl_wordOf 28 = .ok (.aload_n 0, 1) := by decide +kernel
theorem d_Pl_wordOf_29 : decode k_Pl_wordOf 29 = .ok (.getfield 28, 3) := by decide +kernel
theorem d_Pl_wordOf_32 : decode k_Pl_wordOf 32 = .ok (.getfield 75, 3) := by decide +kernel
theorem d_Pl_wordOf_35 : decode k_Pl_wordOf 35 = .ok (.iload_n 2, 1) := by decide +kernel
theorem d_Pl_wordOf_36 : decode k_Pl_wordOf 36 = .ok (.iconst 1, 1) := by decide +kernel
theorem d_Pl_wordOf_37 : decode k_Pl_wordOf 37 = .ok (.iadd, 1) := by decide +kernel
theorem d_Pl_wordOf_38 : decode k_Pl_wordOf 38 = .ok (.invokevirtual 79, 3) := by decide +kernel
theorem d_Pl_wordOf_41 : decode k_Pl_wordOf 41 = .ok (.iload_n 1, 1) := by decide +kernel
theorem d_Pl_wordOf_42 : decode k_Pl_wordOf 42 = .ok (.if_icmp .eq 5, 3) := by decide +kernel
theorem d_Pl_wordOf_45 : decode k_Pl_wordOf 45 = .ok (.iconst 0, 1) := by decide +kernel
theorem d_Pl_wordOf_46 : decode k_Pl_wordOf 46 = .ok (.ireturn, 1) := by decide +kernel
theorem d_Pl_wordOf_47 : decode k_Pl_wordOf 47 = .ok (.aload_n 0, 1) := by decide +kernel
theorem d_Pl_wordOf_48 : decode k_Pl_wordOf 48 = .ok (.getfield 28, 3) := by decide +kernel
theorem d_Pl_wordOf_51 : decode k_Pl_wordOf 51 = .ok (.getfield 75, 3) := by decide +kernel
theorem d_Pl_wordOf_54 : decode k_Pl_wordOf 54 = .ok (.iload_n 2, 1) := by decide +kernel
theorem d_Pl_wordOf_55 : decode k_Pl_wordOf 55 = .ok (.iconst 1, 1) := by decide +kernel
theorem d_Pl_wordOf_56 : decode k_Pl_wordOf 56 = .ok (.iadd, 1) := by decide +kernel
theorem d_Pl_wordOf_57 : decode k_Pl_wordOf 57 = .ok (.invokevirtual 83, 3) := by decide +kernel
theorem d_Pl_wordOf_60 : decode k_Pl_wordOf 60 = .ok (.istore_n 3, 1) := by decide +kernel
theorem d_Pl_wordOf_61 : decode k_Pl_wordOf 61 = .ok (.iconst 1, 1) := by decide +kernel
theorem d_Pl_wordOf_62 : decode k_Pl_wordOf 62 = .ok (.istore 4, 2) := by decide +kernel
theorem d_Pl_wordOf_64 : decode k_Pl_wordOf 64 = .ok (.iload 4, 2) := by decide +kernel
theorem d_Pl_wordOf_66 : decode k_Pl_wordOf 66 = .ok (.bipush 21, 2) := by decide +kernel
theorem d_Pl_wordOf_68 : decode k_Pl_wordOf 68 = .ok (.if_icmp .gt 35, 3) := by decide +kernel
theorem d_Pl_wordOf_71 : decode k_Pl_wordOf 71 = .ok (.aload_n 0, 1) := by decide +kernel
theorem d_Pl_wordOf_72 : decode k_Pl_wordOf 72 = .ok (.getfield 32, 3) := by decide +kernel
theorem d_Pl_wordOf_75 : decode k_Pl_wordOf 75 = .ok (.iload 4, 2) := by decide +kernel
theorem d_Pl_wordOf_77 : decode k_Pl_wordOf 77 = .ok (.aload_n 0, 1) := by decide +kernel
theorem d_Pl_wordOf_78 : decode k_Pl_wordOf 78 = .ok (.getfield 28, 3) := by decide +kernel
theorem d_Pl_wordOf_81 : decode k_Pl_wordOf 81 = .ok (.getfield 75, 3) := by decide +kernel
theorem d_Pl_wordOf_84 : decode k_Pl_wordOf 84 = .ok (.iload_n 2, 1) := by decide +kernel
theorem d_Pl_wordOf_85 : decode k_Pl_wordOf 85 = .ok (.iconst 1, 1) := by decide +kernel
theorem d_Pl_wordOf_86 : decode k_Pl_wordOf 86 = .ok (.iadd, 1) := by decide +kernel
theorem d_Pl_wordOf_87 : decode k_Pl_wordOf 87 = .ok (.iload_n 3, 1) := by decide +kernel
theorem d_Pl_wordOf_88 : decode k_Pl_wordOf 88 = .ok (.invokevirtual 88, 3) := by decide +kernel
theorem d_Pl_wordOf_91 : decode k_Pl_wordOf 91 = .ok (.ifCond .eq 6, 3) := by decide +kernel
theorem d_Pl_wordOf_94 : decode k_Pl_wordOf 94 = .ok (.iload 4, 2) := by decide +kernel
theorem d_Pl_wordOf_96 : decode k_Pl_wordOf 96 = .ok (.ireturn, 1) := by decide +kernel
theorem d_Pl_wordOf_97 : decode k_Pl_wordOf 97 = .ok (.iinc 4 1, 3) := by decide +kernel
theorem d_Pl_wordOf_100 : decode k_Pl_wordOf 100 = .ok (.goto (-36), 3) := by decide +kernel
theorem d_Pl_wordOf_103 : decode k_Pl_wordOf 103 = .ok (.iconst 0, 1) := by decide +kernel
theorem d_Pl_wordOf_104 : decode k_Pl_wordOf 104 = .ok (.ireturn, 1) := by decide +kernel
theorem gw155 : (Jvm.Cond.fieldLink "SchemaDesk$Plan" (69 : Nat) "SchemaDesk$Tree" "name" "[I") ∈ GW := gw_t1 (List.mem_of_getElem? (i := 155) rfl) rfl
theorem gw146 : (Jvm.Cond.fieldLink "SchemaDesk$Plan" (72 : Nat) "SchemaDesk$Tree" "parent" "[I") ∈ GW := gw_t1 (List.mem_of_getElem? (i := 146) rfl) rfl
theorem gw127 : (Jvm.Cond.fieldLink "SchemaDesk$Plan" (75 : Nat) "SchemaDesk$Tree" "text" "LSchemaDesk$Text;") ∈ GW := gw_t1 (List.mem_of_getElem? (i := 127) rfl) rfl
theorem gw750 : (Jvm.Cond.methodLink "SchemaDesk$Plan" (79 : Nat) ({ cls := "SchemaDesk$Tree", name := "childNamed", desc := "(ILSchemaDesk$Text;I)I" } : Jvm.MethodName)) ∈ GW := gw_t4 (List.mem_of_getElem? (i := 30) rfl) rfl
theorem gw670 : (Jvm.Cond.instanceMethod ({ cls := "SchemaDesk$Tree", name := "childNamed", desc := "(ILSchemaDesk$Text;I)I" } : Jvm.MethodName)) ∈ GW := gw_t3 (List.mem_of_getElem? (i := 190) rfl) rfl
theorem gw671 : (Jvm.Cond.selects "SchemaDesk$Tree" ({ cls := "SchemaDesk$Tree", name := "childNamed", desc := "(ILSchemaDesk$Text;I)I" } : Jvm.MethodName) ({ cls := "SchemaDesk$Tree", name := "childNamed", desc := "(ILSchemaDesk$Text;I)I" } : Jvm.MethodName)) ∈ GW := gw_t3 (List.mem_of_getElem? (i := 191) rfl) rfl
theorem gw672 : (Jvm.Cond.code ({ cls := "SchemaDesk$Tree", name := "childNamed", desc := "(ILSchemaDesk$Text;I)I" } : Jvm.MethodName) prog_8_method_7_code (6 : Nat) (Option.some Jvm.ClassFile.FieldType.int)) ∈ GW := gw_t3 (List.mem_of_getElem? (i := 192) rfl) rfl
theorem gw751 : (Jvm.Cond.methodLink "SchemaDesk$Plan" (83 : Nat) ({ cls := "SchemaDesk$Text", name := "quotedEnd", desc := "(I)I" } : Jvm.MethodName)) ∈ GW := gw_t4 (List.mem_of_getElem? (i := 31) rfl) rfl
theorem gw257 : (Jvm.Cond.fieldLink "SchemaDesk$Plan" (32 : Nat) "SchemaDesk$Plan" "words" "LSchemaDesk$WordBook;") ∈ GW := gw_t2 (List.mem_of_getElem? (i := 17) rfl) rfl
theorem gw752 : (Jvm.Cond.methodLink "SchemaDesk$Plan" (88 : Nat) ({ cls := "SchemaDesk$WordBook", name := "isWord", desc := "(ILSchemaDesk$Text;II)Z" } : Jvm.MethodName)) ∈ GW := gw_t4 (List.mem_of_getElem? (i := 32) rfl) rfl
def wb_Pl_wordOf_0 (F : Nat → Int32 → Int32 → Int32 → Int32 → Sg → Prop) (post : Int32 → Sg → Prop) (x1 : Int32) (σ : Sg) : Prop := (vp_in x1 160 ∧ (((σ.1 6 x1.toNatClampNeg) = (-1 : Int32) → post (0 : Int32) σ) ∧ (¬ (σ.1 6 x1.toNatClampNeg) = (-1 : Int32) → (vp_in x1 160 ∧ (wq_Tr_childNamed 0 0 (σ.1 4 x1.toNatClampNeg) ((σ.1 6 x1.toNatClampNeg) + (1 : Int32)) σ (fun r1 σ1 => ((r1 = x1 → (wq_Tx_quotedEnd 0 ((σ.1 6 x1.toNatClampNeg) + (1 : Int32)) σ1 (fun r2 σ2 => F 1 0 (σ.1 6 x1.toNatClampNeg) r2 (1 : Int32) σ2))) ∧ (¬ r1 = x1 → post (0 : Int32) σ1))))))))
def wb_Pl_wordOf_1 (F : Nat → Int32 → Int32 → Int32 → Int32 → Sg → Prop) (post : Int32 → Sg → Prop) (x2 : Int32) (x3 : Int32) (x4 : Int32) (σ : Sg) : Prop := (((21 : Int32) < x4 → post (0 : Int32) σ) ∧ (¬ (21 : Int32) < x4 → (wq_Wb_isWord 0 x4 (x2 + (1 : Int32)) x3 σ (fun r1 σ1 => ((r1 = 0 → F 1 0 x2 x3 (x4 + 1) σ1) ∧ (¬ r1 = 0 → post x4 σ1))))))
def wp_Pl_wordOf (post : Int32 → Sg → Prop) : Nat → Nat → Int32 → Int32 → Int32 → Int32 → Sg → Prop
  | 0, _, _, _, _, _, _ => False
  | n + 1, k, x1, x2, x3, x4, σ => match k with
    | 0 => wb_Pl_wordOf_0 (wp_Pl_wordOf post n) post x1 σ
    | 1 => wb_Pl_wordOf_1 (wp_Pl_wordOf post n) post x2 x3 x4 σ
    | _ => False
def wq_Pl_wordOf (x1 : Int32) (σ : Sg) (post : Int32 → Sg → Prop) : Prop := ∃ n, wp_Pl_wordOf post n 0 x1 0 0 0 σ
def J_Pl_wordOf_1 (p : Program) (l : Launch) (e : Env) (s : State) (m : MethodId) (args : Array Value) (below : List Frame) (meth : Method) (c : Code) (D : va_G) (g : Gm) (A : Nat → Prop) (post : Int32 → Sg → Prop) (F : Nat → Int32 → Int32 → Int32 → Int32 → Sg → Prop) : Prop := ∀ (x2 : Int32) (x3 : Int32) (x4 : Int32) (σ : Sg) (H : Heap) (locs : List Loc) (ls : Array Slot), lv_has ls 5 [(0, .ref (g.1 29)), (2, .int x2), (3, .int x3), (4, .int x4)] → Wst D vwCl (WS g) A s σ H locs → F 1 0 x2 x3 x4 σ → W p l e { frames := 2, cells := 0, slots := 0, locals := 51 } s m args below meth c H locs 0 0 (MQ below (QiW D vwCl (WS g) post A) args s 0 0 A) (F0 m 64 ls [])
set_option maxRecDepth 100000 in
set_option maxHeartbeats 4000000 in
theorem b_Pl_wordOf_0 {p : Program} {l : Launch} {e : Env} {s : State} {m : MethodId} {args : Array Value} {below : List Frame} {meth : Method} {c : Code} {D : va_G} {g : Gm} {A : Nat → Prop} {post : Int32 → Sg → Prop} {F : Nat → Int32 → Int32 → Int32 → Int32 → Sg → Prop} (C : kC p s m args meth c k_Pl_wordOf 5 (some .int) GW R_Pl D vwCl g (Zk g) A) (j1 : J_Pl_wordOf_1 p l e s m args below meth c D g A post F) (x1 : Int32) (σ : Sg) (H : Heap) (locs : List Loc) (ls : Array Slot) (hl : lv_has ls 5 [(0, .ref (g.1 29)), (1, .int x1)]) (hst : Wst D vwCl (WS g) A s σ H locs) (h : wb_Pl_wordOf_0 F post x1 σ) : W p l e { frames := 2, cells := 0, slots := 0, locals := 51 } s m args below meth c H locs 0 0 (MQ below (QiW D vwCl (WS g) post A) args s 0 0 A) (F0 m 0 ls []) := by
  obtain ⟨hx, hb, hr, hml, hown, hts, hlocks, hK, hZ, hA⟩ := C
  unfold wb_Pl_wordOf_0 at h
  refine lv_aload_n hx hb d_Pl_wordOf_0 rfl (lv_at hl 0 rfl) ?_
  refine va_get (D := D) (ci := 5) (C := R_Pl) (T := T_Pl) (N := 10) hx hb hts in_Pl hown hK hst.1 29 (WS_o29 g σ) rfl 0 (by decide) (hts _ gw233) (fun _ h9 => h9) rfl d_Pl_wordOf_1 ?_
  refine va_get (D := D) (ci := 0) (C := R_Tr) (T := T_Tr) (N := 12) hx hb hts in_Tr hown hK hst.1 0 (WS_o0 g σ) rfl 6 (by decide) (hts _ gw155) (fun _ h9 => h9) rfl d_Pl_wordOf_4 ?_
  refine lv_iload_n hx hb d_Pl_wordOf_7 rfl (lv_at hl 1 rfl) ?_
  obtain ⟨hi, h⟩ := h
  refine va_iald hx hb hK hst.1 6 0 (WS_a6 g σ) rfl hi d_Pl_wordOf_8 ?_
  refine lv_istore_n hx hb d_Pl_wordOf_9 rfl hl (by decide) rfl (fun ls hl => ?_)
  have hl : lv_has ls 5 [(2, .int (σ.1 6 x1.toNatClampNeg)), (0, .ref (g.1 29)), (1, .int x1)] := hl
  refine lv_iload_n hx hb d_Pl_wordOf_10 rfl (lv_at hl 0 rfl) ?_
  refine lv_iconst (v := (-1 : Int32)) hx hb d_Pl_wordOf_11 (by decide) ?_
  refine lv_icmp_eq (tgt := 45) hx hb d_Pl_wordOf_12 (by decide) (fun hc => ?_) (fun hc => ?_)
  · replace h := h.1 hc
    refine lv_iconst (v := (0 : Int32)) hx hb d_Pl_wordOf_45 (by decide) ?_
    exact kw_iret hx hb hr hlocks hst h d_Pl_wordOf_46
  · replace h := h.2 hc
    refine lv_aload_n hx hb d_Pl_wordOf_15 rfl (lv_at hl 1 rfl) ?_
    refine va_get (D := D) (ci := 5) (C := R_Pl) (T := T_Pl) (N := 10) hx hb hts in_Pl hown hK hst.1 29 (WS_o29 g σ) rfl 0 (by decide) (hts _ gw233) (fun _ h9 => h9) rfl d_Pl_wordOf_16 ?_
    refine lv_aload_n hx hb d_Pl_wordOf_19 rfl (lv_at hl 1 rfl) ?_
    refine va_get (D := D) (ci := 5) (C := R_Pl) (T := T_Pl) (N := 10) hx hb hts in_Pl hown hK hst.1 29 (WS_o29 g σ) rfl 0 (by decide) (hts _ gw233) (fun _ h9 => h9) rfl d_Pl_wordOf_20 ?_
    refine va_get (D := D) (ci := 0) (C := R_Tr) (T := T_Tr) (N := 12) hx hb hts in_Tr hown hK hst.1 0 (WS_o0 g σ) rfl 4 (by decide) (hts _ gw146) (fun _ h9 => h9) rfl d_Pl_wordOf_23 ?_
    refine lv_iload_n hx hb d_Pl_wordOf_26 rfl (lv_at hl 2 rfl) ?_
    obtain ⟨hi, h⟩ := h
    refine va_iald hx hb hK hst.1 4 0 (WS_a4 g σ) rfl hi d_Pl_wordOf_27 ?_
    refine lv_aload_n hx hb d_Pl_wordOf_28 rfl (lv_at hl 1 rfl) ?_
    refine va_get (D := D) (ci := 5) (C := R_Pl) (T := T_Pl) (N := 10) hx hb hts in_Pl hown hK hst.1 29 (WS_o29 g σ) rfl 0 (by decide) (hts _ gw233) (fun _ h9 => h9) rfl d_Pl_wordOf_29 ?_
    refine va_get (D := D) (ci := 0) (C := R_Tr) (T := T_Tr) (N := 12) hx hb hts in_Tr hown hK hst.1 0 (WS_o0 g σ) rfl 0 (by decide) (hts _ gw127) (fun _ h9 => h9) rfl d_Pl_wordOf_32 ?_
    refine lv_iload_n hx hb d_Pl_wordOf_35 rfl (lv_at hl 0 rfl) ?_
    refine lv_iconst (v := (1 : Int32)) hx hb d_Pl_wordOf_36 (by decide) ?_
    refine lv_iadd hx hb d_Pl_wordOf_37 ?_
    refine kw_calli (va_runV (As := [.int (σ.1 4 x1.toNatClampNeg), .ref (g.1 10), .int ((σ.1 6 x1.toNatClampNeg) + (1 : Int32))]) (rest := []) (b := g.1 0) ⟨hx, hb, hml, hown, hts⟩ (c_Tr_childNamed_0_0 l (σ.1 4 x1.toNatClampNeg) ((σ.1 6 x1.toNatClampNeg) + (1 : Int32)) h) (cwV 3 hts (gd_v gw750 gw670 gw671 gw7 gw672) rfl rfl rfl (by decide +kernel) ⟨Nat.le_of_ble_eq_true rfl, Nat.le_of_ble_eq_true rfl⟩) ⟨kw_blind (Zk_ok g), va_recv hK hst.1 rfl (WS_o0 g σ), kw_pre (Zk_ok g) hK hZ hA hst⟩ rfl rfl hl.1 rfl (lv_room (Nat.le_of_ble_eq_true rfl)) d_Pl_wordOf_38 ⟨Nat.le_of_ble_eq_true rfl, Nat.le_of_ble_eq_true rfl⟩) hst hA (fun r1 σ1 H locs h hst => ?_)
    refine lv_iload_n hx hb d_Pl_wordOf_41 rfl (lv_at hl 2 rfl) ?_
    refine lv_icmp_eq (tgt := 47) hx hb d_Pl_wordOf_42 (by decide) (fun hc => ?_) (fun hc => ?_)
    · replace h := h.1 hc
      refine lv_aload_n hx hb d_Pl_wordOf_47 rfl (lv_at hl 1 rfl) ?_
      refine va_get (D := D) (ci := 5) (C := R_Pl) (T := T_Pl) (N := 10) hx hb hts in_Pl hown hK hst.1 29 (WS_o29 g σ1) rfl 0 (by decide) (hts _ gw233) (fun _ h9 => h9) rfl d_Pl_wordOf_48 ?_
      refine va_get (D := D) (ci := 0) (C := R_Tr) (T := T_Tr) (N := 12) hx hb hts in_Tr hown hK hst.1 0 (WS_o0 g σ1) rfl 0 (by decide) (hts _ gw127) (fun _ h9 => h9) rfl d_Pl_wordOf_51 ?_
      refine lv_iload_n hx hb d_Pl_wordOf_54 rfl (lv_at hl 0 rfl) ?_
      refine lv_iconst (v := (1 : Int32)) hx hb d_Pl_wordOf_55 (by decide) ?_
      refine lv_iadd hx hb d_Pl_wordOf_56 ?_
      refine kw_calli (va_runV (As := [.int ((σ.1 6 x1.toNatClampNeg) + (1 : Int32))]) (rest := []) (b := g.1 10) ⟨hx, hb, hml, hown, hts⟩ (c_Tx_quotedEnd_0 l ((σ.1 6 x1.toNatClampNeg) + (1 : Int32)) h) (cwV 1 hts (gd_v gw751 gw666 gw667 gw8 gw668) rfl rfl rfl (by decide +kernel) ⟨Nat.le_of_ble_eq_true rfl, Nat.le_of_ble_eq_true rfl⟩) ⟨kw_blind (Zk_ok g), va_recv hK hst.1 rfl (WS_o10 g σ1), kw_pre (Zk_ok g) hK hZ hA hst⟩ rfl rfl hl.1 rfl (lv_room (Nat.le_of_ble_eq_true rfl)) d_Pl_wordOf_57 ⟨Nat.le_of_ble_eq_true rfl, Nat.le_of_ble_eq_true rfl⟩) hst hA (fun r2 σ2 H locs h hst => ?_)
      refine lv_istore_n hx hb d_Pl_wordOf_60 rfl hl (by decide) rfl (fun ls hl => ?_)
      have hl : lv_has ls 5 [(3, .int r2), (2, .int (σ.1 6 x1.toNatClampNeg)), (0, .ref (g.1 29)), (1, .int x1)] := hl
      refine lv_iconst (v := (1 : Int32)) hx hb d_Pl_wordOf_61 (by decide) ?_
      refine lv_istore hx hb d_Pl_wordOf_62 hl (by decide) rfl (fun ls hl => ?_)
      have hl : lv_has ls 5 [(4, .int (1 : Int32)), (3, .int r2), (2, .int (σ.1 6 x1.toNatClampNeg)), (0, .ref (g.1 29)), (1, .int x1)] := hl
      exact j1 (σ.1 6 x1.toNatClampNeg) r2 (1 : Int32) σ2 _ _ _ (lv_sub hl [3, 2, 1, 0] rfl) hst h
    · replace h := h.2 hc
      refine lv_iconst (v := (0 : Int32)) hx hb d_Pl_wordOf_45 (by decide) ?_
      exact kw_iret hx hb hr hlocks hst h d_Pl_wordOf_46
set_option maxRecDepth 100000 in
set_option maxHeartbeats 4000000 in
theorem b_Pl_wordOf_1 {p : Program} {l : Launch} {e : Env} {s : State} {m : MethodId} {args : Array Value} {below : List Frame} {meth : Method} {c : Code} {D : va_G} {g : Gm} {A : Nat → Prop} {post : Int32 → Sg → Prop} {F : Nat → Int32 → Int32 → Int32 → Int32 → Sg → Prop} (C : kC p s m args meth c k_Pl_wordOf 5 (some .int) GW R_Pl D vwCl g (Zk g) A) (j1 : J_Pl_wordOf_1 p l e s m args below meth c D g A post F) (x2 : Int32) (x3 : Int32) (x4 : Int32) (σ : Sg) (H : Heap) (locs : List Loc) (ls : Array Slot) (hl : lv_has ls 5 [(0, .ref (g.1 29)), (2, .int x2), (3, .int x3), (4, .int x4)]) (hst : Wst D vwCl (WS g) A s σ H locs) (h : wb_Pl_wordOf_1 F post x2 x3 x4 σ) : W p l e { frames := 2, cells := 0, slots := 0, locals := 51 } s m args below meth c H locs 0 0 (MQ below (QiW D vwCl (WS g) post A) args s 0 0 A) (F0 m 64 ls []) := by
  obtain ⟨hx, hb, hr, hml, hown, hts, hlocks, hK, hZ, hA⟩ := C
  unfold wb_Pl_wordOf_1 at h
  refine lv_iload hx hb d_Pl_wordOf_64 (lv_at hl 3 rfl) ?_
  refine lv_bipush (v := (21 : Int32)) hx hb d_Pl_wordOf_66 (by decide) ?_
  refine lv_icmp_gt (tgt := 103) hx hb d_Pl_wordOf_68 (by decide) (fun hc => ?_) (fun hc => ?_)
  · replace h := h.1 hc
    refine lv_iconst (v := (0 : Int32)) hx hb d_Pl_wordOf_103 (by decide) ?_
    exact kw_iret hx hb hr hlocks hst h d_Pl_wordOf_104
  · replace h := h.2 hc
    refine lv_aload_n hx hb d_Pl_wordOf_71 rfl (lv_at hl 0 rfl) ?_
    refine va_get (D := D) (ci := 5) (C := R_Pl) (T := T_Pl) (N := 10) hx hb hts in_Pl hown hK hst.1 29 (WS_o29 g σ) rfl 8 (by decide) (hts _ gw257) (fun _ h9 => h9) rfl d_Pl_wordOf_72 ?_
    refine lv_iload hx hb d_Pl_wordOf_75 (lv_at hl 3 rfl) ?_
    refine lv_aload_n hx hb d_Pl_wordOf_77 rfl (lv_at hl 0 rfl) ?_
    refine va_get (D := D) (ci := 5) (C := R_Pl) (T := T_Pl) (N := 10) hx hb hts in_Pl hown hK hst.1 29 (WS_o29 g σ) rfl 0 (by decide) (hts _ gw233) (fun _ h9 => h9) rfl d_Pl_wordOf_78 ?_
    refine va_get (D := D) (ci := 0) (C := R_Tr) (T := T_Tr) (N := 12) hx hb hts in_Tr hown hK hst.1 0 (WS_o0 g σ) rfl 0 (by decide) (hts _ gw127) (fun _ h9 => h9) rfl d_Pl_wordOf_81 ?_
    refine lv_iload_n hx hb d_Pl_wordOf_84 rfl (lv_at hl 1 rfl) ?_
    refine lv_iconst (v := (1 : Int32)) hx hb d_Pl_wordOf_85 (by decide) ?_
    refine lv_iadd hx hb d_Pl_wordOf_86 ?_
    refine lv_iload_n hx hb d_Pl_wordOf_87 rfl (lv_at hl 2 rfl) ?_
    refine kw_calli (va_runV (As := [.int x4, .ref (g.1 10), .int (x2 + (1 : Int32)), .int x3]) (rest := []) (b := g.1 26) ⟨hx, hb, hml, hown, hts⟩ (c_Wb_isWord_0 l x4 (x2 + (1 : Int32)) x3 h) (cwV 4 hts (gd_v gw752 gw682 gw683 gw2 gw684) rfl rfl rfl (by decide +kernel) ⟨Nat.le_of_ble_eq_true rfl, Nat.le_of_ble_eq_true rfl⟩) ⟨kw_blind (Zk_ok g), va_recv hK hst.1 rfl (WS_o26 g σ), kw_pre (Zk_ok g) hK hZ hA hst⟩ rfl rfl hl.1 rfl (lv_room (Nat.le_of_ble_eq_true rfl)) d_Pl_wordOf_88 ⟨Nat.le_of_ble_eq_true rfl, Nat.le_of_ble_eq_true rfl⟩) hst hA (fun r1 σ1 H locs h hst => ?_)
    refine lv_if_eq (tgt := 97) hx hb d_Pl_wordOf_91 (by decide) (fun hc => ?_) (fun hc => ?_)
    · replace h := h.1 hc
      refine lv_iinc (k := 3) (v := (x4 + 1)) hx hb d_Pl_wordOf_97 hl rfl (kw_inc _ (by decide)) (by decide) rfl (fun ls hl => ?_)
      have hl : lv_has ls 5 [(4, .int (x4 + 1)), (0, .ref (g.1 29)), (2, .int x2), (3, .int x3)] := hl
      refine lv_goto (tgt := 64) hx hb d_Pl_wordOf_100 (by decide) ?_
      exact j1 x2 x3 (x4 + 1) σ1 _ _ _ (lv_sub hl [1, 2, 3, 0] rfl) hst h
    · replace h := h.2 hc
      refine lv_iload hx hb d_Pl_wordOf_94 (lv_at hl 3 rfl) ?_
      exact kw_iret hx hb hr hlocks hst h d_Pl_wordOf_96
set_option maxRecDepth 100000 in
set_option maxHeartbeats 4000000 in
theorem a_Pl_wordOf {p : Program} {l : Launch} {e : Env} {s : State} {m : MethodId} {args : Array Value} {below : List Frame} {meth : Method} {c : Code} {D : va_G} {g : Gm} {A : Nat → Prop} {post : Int32 → Sg → Prop} (C : kC p s m args meth c k_Pl_wordOf 5 (some .int) GW R_Pl D vwCl g (Zk g) A) : ∀ n : Nat, J_Pl_wordOf_1 p l e s m args below meth c D g A post (wp_Pl_wordOf post n) := by
  intro n
  induction n with
  | zero => exact fun _ _ _ _ _ _ _ _ _ h => h.elim
  | succ n ih => exact fun x2 x3 x4 σ H locs ls hl hst h => b_Pl_wordOf_1 (F := wp_Pl_wordOf post n) C (ih) x2 x3 x4 σ H locs ls hl hst h
set_option maxRecDepth 100000 in
set_option maxHeartbeats 4000000 in
theorem c_Pl_wordOf (l : Launch) {D : va_G} {g : Gm} {sz : Nat} (x1 : Int32) {σ : Sg} {post : Int32 → Sg → Prop} (h : wq_Pl_wordOf x1 σ post) : Met l y_Pl_wordOf (.code y_Pl_wordOf k_Pl_wordOf 5 (some .int) :: GW) { frames := 2, cells := 0, slots := 0, locals := 51 } (PcW D vwCl (WS g) g (Zk g) σ sz [.ref (g.1 29), .int x1]) (QiW D vwCl (WS g) post (va_A (WS g σ) sz)) 0 0 (va_A (WS g σ) sz) := by
  refine kw_entry (own := R_Pl) (by decide) rfl rfl (Nat.le_of_ble_eq_true rfl) ?_
  intro p e s m below meth c ls hsz C hin hl hst
  obtain ⟨n, h⟩ := h
  cases n with
  | zero => exact h.elim
  | succ n =>
    have ih := a_Pl_wordOf (l := l) (e := e) (below := below) (post := post) C n
    exact b_Pl_wordOf_0 (F := wp_Pl_wordOf post n) C (ih) x1 σ _ _ ls hl hst h
/-! SchemaDesk$Plan.targetOf (I)I -/
abbrev k_Pl_targetOf : ByteArray := prog_3_method_5_code
abbrev y_Pl_targetOf : MethodName := ⟨"SchemaDesk$Plan", "targetOf", "(I)I"⟩
theorem d_Pl_targetOf_0 : decode k_Pl_targetOf 0 = .ok (.aload_n 0, 1) := by decide +kernel
theorem d_Pl_targetOf_1 : decode k_Pl_targetOf 1 = .ok (.getfield 9, 3) := by decide +kernel
theorem d_Pl_targetOf_4 : decode k_Pl_targetOf 4 = .ok (.iload_n 1, 1) := by decide +kernel
theorem d_Pl_targetOf_5 : decode k_Pl_targetOf 5 = .ok (.iaload, 1) := by decide +kernel
theorem d_Pl_targetOf_6 : decode k_Pl_targetOf 6 = .ok (.bipush 19, 2) := by decide +kernel
theorem d_Pl_targetOf_8 : decode k_Pl_targetOf 8 = .ok (.if_icmp .ne 16, 3) := by decide +kernel
theorem d_Pl_targetOf_11 : decode k_Pl_targetOf 11 = .ok (.aload_n 0, 1) := by decide +kernel
theorem d_Pl_targetOf_12 : decode k_Pl_targetOf 12 = .ok (.getfield 28, 3) := by decide +kernel
theorem d_Pl_targetOf_15 : decode k_Pl_targetOf 15 = .ok (.getfield 57, 3) := by decide +kernel
theorem d_Pl_targetOf_18 : decode k_Pl_targetOf 18 = .ok (.iload_n 1, 1) := by decide +kernel
theorem d_Pl_targetOf_19 : decode k_Pl_targetOf 19 = .ok (.iaload, 1) := by decide +kernel
theorem d_Pl_targetOf_20 : decode k_Pl_targetOf 20 = .ok (.iconst 4, 1) := by decide +kernel
theorem d_Pl_targetOf_21 : decode k_Pl_targetOf 21 = .ok (.if_icmp .eq 5, 3) := by decide +kernel
theorem d_Pl_targetOf_24 : decode k_Pl_targetOf 24 = .ok (.iconst (-1), 1) := by decide +kernel
theorem d_Pl_targetOf_25 : decode k_Pl_targetOf 25 = .ok (.ireturn, 1) := by decide +kernel
theorem d_Pl_targetOf_26 : decode k_Pl_targetOf 26 = .ok (.aload_n 0, 1) := by decide +kernel
theorem d_Pl_targetOf_27 : decode k_Pl_targetOf 27 = .ok (.getfield 28, 3) := by decide +kernel
theorem d_Pl_targetOf_30 : decode k_Pl_targetOf 30 = .ok (.getfield 75, 3) := by decide +kernel
theorem d_Pl_targetOf_33 : decode k_Pl_targetOf 33 = .ok (.astore_n 2, 1) := by decide +kernel
theorem d_Pl_targetOf_34 : decode k_Pl_targetOf 34 = .ok (.aload_n 0, 1) := by decide +kernel
theorem d_Pl_targetOf_35 : decode k_Pl_targetOf 35 = .ok (.getfield 28, 3) := by decide +kernel
theorem d_Pl_targetOf_38 : decode k_Pl_targetOf 38 = .ok (.getfield 94, 3) := by decide +kernel
theorem d_Pl_targetOf_41 : decode k_Pl_targetOf 41 = .ok (.iload_n 1, 1) := by decide +kernel
theorem d_Pl_targetOf_42 : decode k_Pl_targetOf 42 = .ok (.iaload, 1) := by decide +kernel
theorem d_Pl_targetOf_43 : decode k_Pl_targetOf 43 = .ok (.iconst 1, 1) := by decide +kernel
theorem d_Pl_targetOf_44 : decode k_Pl_targetOf 44 = .ok (.iadd, 1) := by decide +kernel
theorem d_Pl_targetOf_45 : decode k_Pl_targetOf 45 = .ok (.istore_n 3, 1) := by decide +kernel
theorem d_Pl_targetOf_46 : decode k_Pl_targetOf 46 = .ok (.iload_n 3, 1) := by decide +kernel
theorem d_Pl_targetOf_47 : decode k_Pl_targetOf 47 = .ok (.aload_n 2, 1) := by decide +kernel
theorem d_Pl_targetOf_48 : decode k_Pl_targetOf 48 = .ok (.getfield 97, 3) := by decide +kernel
theorem d_Pl_targetOf_51 : decode k_Pl_targetOf 51 = .ok (.if_icmp .ge 14, 3) := by decide +kernel
theorem d_Pl_targetOf_54 : decode k_Pl_targetOf 54 = .ok (.aload_n 2, 1) := by decide +kernel
theorem d_Pl_targetOf_55 : decode k_Pl_targetOf 55 = .ok (.getfield 98, 3) := by decide +kernel
theorem d_Pl_targetOf_58 : decode k_Pl_targetOf 58 = .ok (.iload_n 3, 1) := by decide +kernel
theorem d_Pl_targetOf_59 : decode k_Pl_targetOf 59 = .ok (.caload, 1) := by decide +kernel
theorem d_Pl_targetOf_60 : decode k_Pl_targetOf 60 = .ok (.bipush 35, 2) := by decide +kernel
theorem d_Pl_targetOf_62 : decode k_Pl_targetOf 62 = .ok (.if_icmp .eq 5, 3) := by decide +kernel
theorem d_Pl_targetOf_65 : decode k_Pl_targetOf 65 = .ok (.iconst (-1), 1) := by decide +kernel
theorem d_Pl_targetOf_66 : decode k_Pl_targetOf 66 = .ok (.ireturn, 1) := by decide +kernel
theorem d_Pl_targetOf_67 : decode k_Pl_targetOf 67 = .ok (.aload_n 2, 1) := by decide +kernel
theorem d_Pl_targetOf_68 : decode k_Pl_targetOf 68 = .ok (.iload_n 3, 1) := by decide +kernel
theorem d_Pl_targetOf_69 : decode k_Pl_targetOf 69 = .ok (.iconst 1, 1) := by decide +kernel
theorem d_Pl_targetOf_70 : decode k_Pl_targetOf 70 = .ok (.iadd, 1) := by decide +kernel
theorem d_Pl_targetOf_71 : decode k_Pl_targetOf 71 = .ok (.invokevirtual 83, 3) := by decide +kernel
theorem d_Pl_targetOf_74 : decode k_Pl_targetOf 74 = .ok (.iload_n 3, 1) := by decide +kernel
theorem d_Pl_targetOf_75 : decode k_Pl_targetOf 75 = .ok (.iconst 1, 1) := by decide +kernel
theorem d_Pl_targetOf_76 : decode k_Pl_targetOf 76 = .ok (.iadd, 1) := by decide +kernel
theorem d_Pl_targetOf_77 : decode k_Pl_targetOf 77 = .ok (.if_icmp .ne 5, 3) := by decide +kernel
theorem d_Pl_targetOf_80 : decode k_Pl_targetOf 80 = .ok (.iconst 0, 1) := by decide +kernel
theorem d_Pl_targetOf_81 : decode k_Pl_targetOf 81 = .ok (.ireturn, 1) := by decide +kernel
theorem d_Pl_targetOf_82 : decode k_Pl_targetOf 82 = .ok (.aload_n 0, 1) := by decide +kernel
theorem d_Pl_targetOf_83 : decode k_Pl_targetOf 83 = .ok (.iconst 0, 1) := by decide +kernel
theorem d_Pl_targetOf_84 : decode k_Pl_targetOf 84 = .ok (.bipush 21, 2) := by decide +kernel
theorem d_Pl_targetOf_86 : decode k_Pl_targetOf 86 = .ok (.invokevirtual 53, 3) := by decide +kernel
theorem d_Pl_targetOf_89 : decode k_Pl_targetOf 89 = .ok (.istore 4, 2) := by decide +kernel
theorem d_Pl_targetOf_91 : decode k_Pl_targetOf 91 = .ok (.iload 4, 2) := by decide +kernel
theorem d_Pl_targetOf_93 : decode k_Pl_targetOf 93 = .ok (.iconst (-1), 1) := by decide +kernel
theorem d_Pl_targetOf_94 : decode k_Pl_targetOf 94 = .ok (.if_icmp .ne 7, 3) := by decide +kernel
theorem d_Pl_targetOf_97 : decode k_Pl_targetOf 97 = .ok (.iconst (-1), 1) := by decide +kernel
theorem d_Pl_targetOf_98 : decode k_Pl_targetOf 98 = .ok (.goto 16, 3) := by decide +kernel
theorem d_Pl_targetOf_101 : decode k_Pl_targetOf 101 = .ok (.aload_n 0, 1) := by decide +kernel
theorem d_Pl_targetOf_102 : decode k_Pl_targetOf 102 = .ok (.getfield 28, 3) := by decide +kernel
theorem d_Pl_targetOf_105 : decode k_Pl_targetOf 105 = .ok (.iload 4, 2) := by decide +kernel
theorem d_Pl_targetOf_107 : decode k_Pl_targetOf 107 = .ok (.aload_n 2, 1) := by decide +kernel
theorem d_Pl_targetOf_108 : decode k_Pl_targetOf 108 = .ok (.iload_n 3, 1) := by decide +kernel
theorem d_Pl_targetOf_109 : decode k_Pl_targetOf 109 = .ok (.iconst 1, 1) := by decide +kernel
theorem d_Pl_targetOf_110 : decode k_Pl_targetOf 110 = .ok (.iadd, 1) := by decide +kernel
theorem d_Pl_targetOf_111 : decode k_Pl_targetOf 111 = .ok (.invokevirtual 79, 3) := by decide +kernel
theorem d_Pl_targetOf_114 : decode k_Pl_targetOf 114 = .ok (.ireturn, 1) := by decide +kernel
theorem gw132 : (Jvm.Cond.fieldLink "SchemaDesk$Plan" (57 : Nat) "SchemaDesk$Tree" "kind" "[I") ∈ GW := gw_t1 (List.mem_of_getElem? (i := 132) rfl) rfl
theorem gw139 : (Jvm.Cond.fieldLink "SchemaDesk$Plan" (94 : Nat) "SchemaDesk$Tree" "from" "[I") ∈ GW := gw_t1 (List.mem_of_getElem? (i := 139) rfl) rfl
theorem gw115 : (Jvm.Cond.fieldLink "SchemaDesk$Plan" (97 : Nat) "SchemaDesk$Text" "size" "I") ∈ GW := gw_t1 (List.mem_of_getElem? (i := 115) rfl) rfl
theorem gw109 : (Jvm.Cond.fieldLink "SchemaDesk$Plan" (98 : Nat) "SchemaDesk$Text" "letters" "[C") ∈ GW := gw_t1 (List.mem_of_getElem? (i := 109) rfl) rfl
theorem gw757 : (Jvm.Cond.methodLink "SchemaDesk$Plan" (53 : Nat) ({ cls := "SchemaDesk$Plan", name := "childBy", desc := "(II)I" } : Jvm.MethodName)) ∈ GW := gw_t4 (List.mem_of_getElem? (i := 37) rfl) rfl
theorem gw758 : (Jvm.Cond.instanceMethod ({ cls := "SchemaDesk$Plan", name := "childBy", desc := "(II)I" } : Jvm.MethodName)) ∈ GW := gw_t4 (List.mem_of_getElem? (i := 38) rfl) rfl
theorem gw759 : (Jvm.Cond.selects "SchemaDesk$Plan" ({ cls := "SchemaDesk$Plan", name := "childBy", desc := "(II)I" } : Jvm.MethodName) ({ cls := "SchemaDesk$Plan", name := "childBy", desc := "(II)I" } : Jvm.MethodName)) ∈ GW := gw_t4 (List.mem_of_getElem? (i := 39) rfl) rfl
theorem gw10 : (Jvm.Cond.initialized "SchemaDesk$Plan") ∈ GW := gw_t1 (List.mem_of_getElem? (i := 10) rfl) rfl
theorem gw760 : (Jvm.Cond.code ({ cls := "SchemaDesk$Plan", name := "childBy", desc := "(II)I" } : Jvm.MethodName) prog_3_method_3_code (5 : Nat) (Option.some Jvm.ClassFile.FieldType.int)) ∈ GW := gw_t4 (List.mem_of_getElem? (i := 40) rfl) rfl
def wq_Pl_targetOf (x1 : Int32) (σ : Sg) (post : Int32 → Sg → Prop) : Prop := (vp_in x1 160 ∧ ((¬ (σ.1 30 x1.toNatClampNeg) = (19 : Int32) → post (-1 : Int32) σ) ∧ ((σ.1 30 x1.toNatClampNeg) = (19 : Int32) → (vp_in x1 160 ∧ (((σ.1 1 x1.toNatClampNeg) = (4 : Int32) → (vp_in x1 160 ∧ (((σ.1 10 1) ≤ ((σ.1 2 x1.toNatClampNeg) + (1 : Int32)) → post (-1 : Int32) σ) ∧ (¬ (σ.1 10 1) ≤ ((σ.1 2 x1.toNatClampNeg) + (1 : Int32)) → (vp_in ((σ.1 2 x1.toNatClampNeg) + (1 : Int32)) 160 ∧ (((σ.1 11 (((σ.1 2 x1.toNatClampNeg) + (1 : Int32)) : Int32).toNatClampNeg) = (35 : Int32) → (wq_Tx_quotedEnd 0 (((σ.1 2 x1.toNatClampNeg) + (1 : Int32)) + (1 : Int32)) σ (fun r1 σ1 => ((¬ r1 = (((σ.1 2 x1.toNatClampNeg) + (1 : Int32)) + (1 : Int32)) → (wq_Pl_childBy (0 : Int32) (21 : Int32) σ1 (fun r2 σ2 => ((¬ r2 = (-1 : Int32) → (wq_Tr_childNamed 0 0 r2 (((σ.1 2 x1.toNatClampNeg) + (1 : Int32)) + (1 : Int32)) σ2 (fun r3 σ3 => post r3 σ3))) ∧ (r2 = (-1 : Int32) → post (-1 : Int32) σ2))))) ∧ (r1 = (((σ.1 2 x1.toNatClampNeg) + (1 : Int32)) + (1 : Int32)) → post (0 : Int32) σ1))))) ∧ (¬ (σ.1 11 (((σ.1 2 x1.toNatClampNeg) + (1 : Int32)) : Int32).toNatClampNeg) = (35 : Int32) → post (-1 : Int32) σ))))))) ∧ (¬ (σ.1 1 x1.toNatClampNeg) = (4 : Int32) → post (-1 : Int32) σ))))))
set_option maxRecDepth 100000 in
set_option maxHeartbeats 4000000 in
theorem b_Pl_targetOf_0 {p : Program} {l : Launch} {e : Env} {s : State} {m : MethodId} {args : Array Value} {below : List Frame} {meth : Method} {c : Code} {D : va_G} {g : Gm} {A : Nat → Prop} {post : Int32 → Sg → Prop} (C : kC p s m args meth c k_Pl_targetOf 5 (some .int) GW R_Pl D vwCl g (Zk g) A) (x1 : Int32) (σ : Sg) (H : Heap) (locs : List Loc) (ls : Array Slot) (hl : lv_has ls 5 [(0, .ref (g.1 29)), (1, .int x1)]) (hst : Wst D vwCl (WS g) A s σ H locs) (h : wq_Pl_targetOf x1 σ post) : W p l e { frames := 2, cells := 0, slots := 0, locals := 51 } s m args below meth c H locs 0 0 (MQ below (QiW D vwCl (WS g) post A) args s 0 0 A) (F0 m 0 ls []) := by
  obtain ⟨hx, hb, hr, hml, hown, hts, hlocks, hK, hZ, hA⟩ := C
  unfold wq_Pl_targetOf at h
  refine lv_aload_n hx hb d_Pl_targetOf_0 rfl (lv_at hl 0 rfl) ?_
  refine va_get (D := D) (ci := 5) (C := R_Pl) (T := T_Pl) (N := 10) hx hb hts in_Pl hown hK hst.1 29 (WS_o29 g σ) rfl 2 (by decide) (hts _ gw236) (fun _ h9 => h9) rfl d_Pl_targetOf_1 ?_
  refine lv_iload_n hx hb d_Pl_targetOf_4 rfl (lv_at hl 1 rfl) ?_
  obtain ⟨hi, h⟩ := h
  refine va_iald hx hb hK hst.1 30 0 (WS_a30 g σ) rfl hi d_Pl_targetOf_5 ?_
  refine lv_bipush (v := (19 : Int32)) hx hb d_Pl_targetOf_6 (by decide) ?_
  refine lv_icmp_ne (tgt := 24) hx hb d_Pl_targetOf_8 (by decide) (fun hc => ?_) (fun hc => ?_)
  · replace h := h.1 hc
    refine lv_iconst (v := (-1 : Int32)) hx hb d_Pl_targetOf_24 (by decide) ?_
    exact kw_iret hx hb hr hlocks hst h d_Pl_targetOf_25
  · replace h := h.2 hc
    refine lv_aload_n hx hb d_Pl_targetOf_11 rfl (lv_at hl 0 rfl) ?_
    refine va_get (D := D) (ci := 5) (C := R_Pl) (T := T_Pl) (N := 10) hx hb hts in_Pl hown hK hst.1 29 (WS_o29 g σ) rfl 0 (by decide) (hts _ gw233) (fun _ h9 => h9) rfl d_Pl_targetOf_12 ?_
    refine va_get (D := D) (ci := 0) (C := R_Tr) (T := T_Tr) (N := 12) hx hb hts in_Tr hown hK hst.1 0 (WS_o0 g σ) rfl 1 (by decide) (hts _ gw132) (fun _ h9 => h9) rfl d_Pl_targetOf_15 ?_
    refine lv_iload_n hx hb d_Pl_targetOf_18 rfl (lv_at hl 1 rfl) ?_
    obtain ⟨hi, h⟩ := h
    refine va_iald hx hb hK hst.1 1 0 (WS_a1 g σ) rfl hi d_Pl_targetOf_19 ?_
    refine lv_iconst (v := (4 : Int32)) hx hb d_Pl_targetOf_20 (by decide) ?_
    refine lv_icmp_eq (tgt := 26) hx hb d_Pl_targetOf_21 (by decide) (fun hc => ?_) (fun hc => ?_)
    · replace h := h.1 hc
      refine lv_aload_n hx hb d_Pl_targetOf_26 rfl (lv_at hl 0 rfl) ?_
      refine va_get (D := D) (ci := 5) (C := R_Pl) (T := T_Pl) (N := 10) hx hb hts in_Pl hown hK hst.1 29 (WS_o29 g σ) rfl 0 (by decide) (hts _ gw233) (fun _ h9 => h9) rfl d_Pl_targetOf_27 ?_
      refine va_get (D := D) (ci := 0) (C := R_Tr) (T := T_Tr) (N := 12) hx hb hts in_Tr hown hK hst.1 0 (WS_o0 g σ) rfl 0 (by decide) (hts _ gw127) (fun _ h9 => h9) rfl d_Pl_targetOf_30 ?_
      refine lv_astore_n hx hb d_Pl_targetOf_33 rfl hl (by decide) rfl (fun ls hl => ?_)
      have hl : lv_has ls 5 [(2, .ref (g.1 10)), (0, .ref (g.1 29)), (1, .int x1)] := hl
      refine lv_aload_n hx hb d_Pl_targetOf_34 rfl (lv_at hl 1 rfl) ?_
      refine va_get (D := D) (ci := 5) (C := R_Pl) (T := T_Pl) (N := 10) hx hb hts in_Pl hown hK hst.1 29 (WS_o29 g σ) rfl 0 (by decide) (hts _ gw233) (fun _ h9 => h9) rfl d_Pl_targetOf_35 ?_
      refine va_get (D := D) (ci := 0) (C := R_Tr) (T := T_Tr) (N := 12) hx hb hts in_Tr hown hK hst.1 0 (WS_o0 g σ) rfl 2 (by decide) (hts _ gw139) (fun _ h9 => h9) rfl d_Pl_targetOf_38 ?_
      refine lv_iload_n hx hb d_Pl_targetOf_41 rfl (lv_at hl 2 rfl) ?_
      obtain ⟨hi, h⟩ := h
      refine va_iald hx hb hK hst.1 2 0 (WS_a2 g σ) rfl hi d_Pl_targetOf_42 ?_
      refine lv_iconst (v := (1 : Int32)) hx hb d_Pl_targetOf_43 (by decide) ?_
      refine lv_iadd hx hb d_Pl_targetOf_44 ?_
      refine lv_istore_n hx hb d_Pl_targetOf_45 rfl hl (by decide) rfl (fun ls hl => ?_)
      have hl : lv_has ls 5 [(3, .int ((σ.1 2 x1.toNatClampNeg) + (1 : Int32))), (2, .ref (g.1 10)), (0, .ref (g.1 29)), (1, .int x1)] := hl
      refine lv_iload_n hx hb d_Pl_targetOf_46 rfl (lv_at hl 0 rfl) ?_
      refine lv_aload_n hx hb d_Pl_targetOf_47 rfl (lv_at hl 1 rfl) ?_
      refine va_get (D := D) (ci := 1) (C := R_Tx) (T := T_Tx) (N := 2) hx hb hts in_Tx hown hK hst.1 10 (WS_o10 g σ) rfl 1 (by decide) (hts _ gw115) (fun _ h9 => h9) rfl d_Pl_targetOf_48 ?_
      refine lv_icmp_ge (tgt := 65) hx hb d_Pl_targetOf_51 (by decide) (fun hc => ?_) (fun hc => ?_)
      · replace h := h.1 hc
        refine lv_iconst (v := (-1 : Int32)) hx hb d_Pl_targetOf_65 (by decide) ?_
        exact kw_iret hx hb hr hlocks hst h d_Pl_targetOf_66
      · replace h := h.2 hc
        refine lv_aload_n hx hb d_Pl_targetOf_54 rfl (lv_at hl 1 rfl) ?_
        refine va_get (D := D) (ci := 1) (C := R_Tx) (T := T_Tx) (N := 2) hx hb hts in_Tx hown hK hst.1 10 (WS_o10 g σ) rfl 0 (by decide) (hts _ gw109) (fun _ h9 => h9) rfl d_Pl_targetOf_55 ?_
        refine lv_iload_n hx hb d_Pl_targetOf_58 rfl (lv_at hl 0 rfl) ?_
        obtain ⟨hi, h⟩ := h
        refine va_cald hx hb hK hst.1 11 1 (WS_a11 g σ) rfl hi d_Pl_targetOf_59 ?_
        refine lv_bipush (v := (35 : Int32)) hx hb d_Pl_targetOf_60 (by decide) ?_
        refine lv_icmp_eq (tgt := 67) hx hb d_Pl_targetOf_62 (by decide) (fun hc => ?_) (fun hc => ?_)
        · replace h := h.1 hc
          refine lv_aload_n hx hb d_Pl_targetOf_67 rfl (lv_at hl 1 rfl) ?_
          refine lv_iload_n hx hb d_Pl_targetOf_68 rfl (lv_at hl 0 rfl) ?_
          refine lv_iconst (v := (1 : Int32)) hx hb d_Pl_targetOf_69 (by decide) ?_
          refine lv_iadd hx hb d_Pl_targetOf_70 ?_
          refine kw_calli (va_runV (As := [.int (((σ.1 2 x1.toNatClampNeg) + (1 : Int32)) + (1 : Int32))]) (rest := []) (b := g.1 10) ⟨hx, hb, hml, hown, hts⟩ (c_Tx_quotedEnd_0 l (((σ.1 2 x1.toNatClampNeg) + (1 : Int32)) + (1 : Int32)) h) (cwV 1 hts (gd_v gw751 gw666 gw667 gw8 gw668) rfl rfl rfl (by decide +kernel) ⟨Nat.le_of_ble_eq_true rfl, Nat.le_of_ble_eq_true rfl⟩) ⟨kw_blind (Zk_ok g), va_recv hK hst.1 rfl (WS_o10 g σ), kw_pre (Zk_ok g) hK hZ hA hst⟩ rfl rfl hl.1 rfl (lv_room (Nat.le_of_ble_eq_true rfl)) d_Pl_targetOf_71 ⟨Nat.le_of_ble_eq_true rfl, Nat.le_of_ble_eq_true rfl⟩) hst hA (fun r1 σ1 H locs h hst => ?_)
          refine lv_iload_n hx hb d_Pl_targetOf_74 rfl (lv_at hl 0 rfl) ?_
          refine lv_iconst (v := (1 : Int32)) hx hb d_Pl_targetOf_75 (by decide) ?_
          refine lv_iadd hx hb d_Pl_targetOf_76 ?_
          refine lv_icmp_ne (tgt := 82) hx hb d_Pl_targetOf_77 (by decide) (fun hc => ?_) (fun hc => ?_)
          · replace h := h.1 hc
            refine lv_aload_n hx hb d_Pl_targetOf_82 rfl (lv_at hl 2 rfl) ?_
            refine lv_iconst (v := (0 : Int32)) hx hb d_Pl_targetOf_83 (by decide) ?_
            refine lv_bipush (v := (21 : Int32)) hx hb d_Pl_targetOf_84 (by decide) ?_
            refine kw_calli (va_runV (As := [.int (0 : Int32), .int (21 : Int32)]) (rest := []) (b := g.1 29) ⟨hx, hb, hml, hown, hts⟩ (c_Pl_childBy l (0 : Int32) (21 : Int32) h) (cwV 2 hts (gd_v gw757 gw758 gw759 gw10 gw760) rfl rfl rfl (by decide +kernel) ⟨Nat.le_of_ble_eq_true rfl, Nat.le_of_ble_eq_true rfl⟩) ⟨kw_blind (Zk_ok g), va_recv hK hst.1 rfl (WS_o29 g σ1), kw_pre (Zk_ok g) hK hZ hA hst⟩ rfl rfl hl.1 rfl (lv_room (Nat.le_of_ble_eq_true rfl)) d_Pl_targetOf_86 ⟨Nat.le_of_ble_eq_true rfl, Nat.le_of_ble_eq_true rfl⟩) hst hA (fun r2 σ2 H locs h hst => ?_)
            refine lv_istore hx hb d_Pl_targetOf_89 hl (by decide) rfl (fun ls hl => ?_)
            have hl : lv_has ls 5 [(4, .int r2), (3, .int ((σ.1 2 x1.toNatClampNeg) + (1 : Int32))), (2, .ref (g.1 10)), (0, .ref (g.1 29)), (1, .int x1)] := hl
            refine lv_iload hx hb d_Pl_targetOf_91 (lv_at hl 0 rfl) ?_
            refine lv_iconst (v := (-1 : Int32)) hx hb d_Pl_targetOf_93 (by decide) ?_
            refine lv_icmp_ne (tgt := 101) hx hb d_Pl_targetOf_94 (by decide) (fun hc => ?_) (fun hc => ?_)
            · replace h := h.1 hc
              refine lv_aload_n hx hb d_Pl_targetOf_101 rfl (lv_at hl 3 rfl) ?_
              refine va_get (D := D) (ci := 5) (C := R_Pl) (T := T_Pl) (N := 10) hx hb hts in_Pl hown hK hst.1 29 (WS_o29 g σ2) rfl 0 (by decide) (hts _ gw233) (fun _ h9 => h9) rfl d_Pl_targetOf_102 ?_
              refine lv_iload hx hb d_Pl_targetOf_105 (lv_at hl 0 rfl) ?_
              refine lv_aload_n hx hb d_Pl_targetOf_107 rfl (lv_at hl 2 rfl) ?_
              refine lv_iload_n hx hb d_Pl_targetOf_108 rfl (lv_at hl 1 rfl) ?_
              refine lv_iconst (v := (1 : Int32)) hx hb d_Pl_targetOf_109 (by decide) ?_
              refine lv_iadd hx hb d_Pl_targetOf_110 ?_
              refine kw_calli (va_runV (As := [.int r2, .ref (g.1 10), .int (((σ.1 2 x1.toNatClampNeg) + (1 : Int32)) + (1 : Int32))]) (rest := []) (b := g.1 0) ⟨hx, hb, hml, hown, hts⟩ (c_Tr_childNamed_0_0 l r2 (((σ.1 2 x1.toNatClampNeg) + (1 : Int32)) + (1 : Int32)) h) (cwV 3 hts (gd_v gw750 gw670 gw671 gw7 gw672) rfl rfl rfl (by decide +kernel) ⟨Nat.le_of_ble_eq_true rfl, Nat.le_of_ble_eq_true rfl⟩) ⟨kw_blind (Zk_ok g), va_recv hK hst.1 rfl (WS_o0 g σ2), kw_pre (Zk_ok g) hK hZ hA hst⟩ rfl rfl hl.1 rfl (lv_room (Nat.le_of_ble_eq_true rfl)) d_Pl_targetOf_111 ⟨Nat.le_of_ble_eq_true rfl, Nat.le_of_ble_eq_true rfl⟩) hst hA (fun r3 σ3 H locs h hst => ?_)
              exact kw_iret hx hb hr hlocks hst h d_Pl_targetOf_114
            · replace h := h.2 hc
              refine lv_iconst (v := (-1 : Int32)) hx hb d_Pl_targetOf_97 (by decide) ?_
              refine lv_goto (tgt := 114) hx hb d_Pl_targetOf_98 (by decide) ?_
              exact kw_iret hx hb hr hlocks hst h d_Pl_targetOf_114
          · replace h := h.2 hc
            refine lv_iconst (v := (0 : Int32)) hx hb d_Pl_targetOf_80 (by decide) ?_
            exact kw_iret hx hb hr hlocks hst h d_Pl_targetOf_81
        · replace h := h.2 hc
          refine lv_iconst (v := (-1 : Int32)) hx hb d_Pl_targetOf_65 (by decide) ?_
          exact kw_iret hx hb hr hlocks hst h d_Pl_targetOf_66
    · replace h := h.2 hc
      refine lv_iconst (v := (-1 : Int32)) hx hb d_Pl_targetOf_24 (by decide) ?_
      exact kw_iret hx hb hr hlocks hst h d_Pl_targetOf_25
set_option maxRecDepth 100000 in
set_option maxHeartbeats 4000000 in
theorem c_Pl_targetOf (l : Launch) {D : va_G} {g : Gm} {sz : Nat} (x1 : Int32) {σ : Sg} {post : Int32 → Sg → Prop} (h : wq_Pl_targetOf x1 σ post) : Met l y_Pl_targetOf (.code y_Pl_targetOf k_Pl_targetOf 5 (some .int) :: GW) { frames := 2, cells := 0, slots := 0, locals := 51 } (PcW D vwCl (WS g) g (Zk g) σ sz [.ref (g.1 29), .int x1]) (QiW D vwCl (WS g) post (va_A (WS g σ) sz)) 0 0 (va_A (WS g σ) sz) := by
  refine kw_entry (own := R_Pl) (by decide) rfl rfl (Nat.le_of_ble_eq_true rfl) ?_
  intro p e s m below meth c ls hsz C hin hl hst
  exact b_Pl_targetOf_0 C x1 σ _ _ ls hl hst h
/-! SchemaDesk$Plan.leadsToPlaced (I)Z -/
abbrev k_Pl_leadsToPlaced : ByteArray := prog_3_method_9_code
abbrev y_Pl_leadsToPlaced : MethodName := ⟨"SchemaDesk$Plan", "leadsToPlaced", "(I)Z"⟩
theorem d_Pl_leadsToPlaced_0 : decode k_Pl_leadsToPlaced 0 = .ok (.aload_n 0, 1) := by decide +kernel
theorem d_Pl_leadsToPlaced_1 : decode k_Pl_leadsToPlaced 1 = .ok (.getfield 9, 3) := by decide +kernel
theorem d_Pl_leadsToPlaced_4 : decode k_Pl_leadsToPlaced 4 = .ok (.iload_n 1, 1) := by decide +kernel
theorem d_Pl_leadsToPlaced_5 : decode k_Pl_leadsToPlaced 5 = .ok (.iaload, 1) := by decide +kernel
theorem d_Pl_leadsToPlaced_6 : decode k_Pl_leadsToPlaced 6 = .ok (.tableswitch 98 15 19 #[34, 34, 34, 61, 68], 34) := by decide +kernel
theorem d_Pl_leadsToPlaced_40 : decode k_Pl_leadsToPlaced 40 = .ok (.aload_n 0, 1) := by decide +kernel
theorem d_Pl_leadsToPlaced_41 : decode k_Pl_leadsToPlaced 41 = .ok (.getfield 28, 3) := by decide +kernel
theorem d_Pl_leadsToPlaced_44 : decode k_Pl_leadsToPlaced 44 = .ok (.getfield 57, 3) := by decide +kernel
theorem d_Pl_leadsToPlaced_47 : decode k_Pl_leadsToPlaced 47 = .ok (.iload_n 1, 1) := by decide +kernel
theorem d_Pl_leadsToPlaced_48 : decode k_Pl_leadsToPlaced 48 = .ok (.iaload, 1) := by decide +kernel
theorem d_Pl_leadsToPlaced_49 : decode k_Pl_leadsToPlaced 49 = .ok (.iconst 5, 1) := by decide +kernel
theorem d_Pl_leadsToPlaced_50 : decode k_Pl_leadsToPlaced 50 = .ok (.if_icmp .ne 11, 3) := by decide +kernel
theorem d_Pl_leadsToPlaced_53 : decode k_Pl_leadsToPlaced 53 = .ok (.aload_n 0, 1) := by decide +kernel
theorem d_Pl_leadsToPlaced_54 : decode k_Pl_leadsToPlaced 54 = .ok (.iload_n 1, 1) := by decide +kernel
theorem d_Pl_leadsToPlaced_55 : decode k_Pl_leadsToPlaced 55 = .ok (.invokevirtual 118, 3) := by decide +kernel
theorem d_Pl_leadsToPlaced_58 : decode k_Pl_leadsToPlaced 58 = .ok (.ifCond .eq 7, 3) := by decide +kernel
theorem d_Pl_leadsToPlaced_61 : decode k_Pl_leadsToPlaced 61 = .ok (.iconst 1, 1) := by decide +kernel
theorem d_Pl_leadsToPlaced_62 : decode k_Pl_leadsToPlaced 62 = .ok (.goto 4, 3) := by decide +kernel
theorem d_Pl_leadsToPlaced_65 : decode k_Pl_leadsToPlaced 65 = .ok (.iconst 0, 1) := by decide +kernel
theorem d_Pl_leadsToPlaced_66 : decode k_Pl_leadsToPlaced 66 = .ok (.ireturn, 1) := by decide +kernel
theorem d_Pl_leadsToPlaced_67 : decode k_Pl_leadsToPlaced 67 = .ok (.aload_n 0, 1) := by decide +kernel
theorem d_Pl_leadsToPlaced_68 : decode k_Pl_leadsToPlaced 68 = .ok (.getfield 24, 3) := by decide +kernel
theorem d_Pl_leadsToPlaced_71 : decode k_Pl_leadsToPlaced 71 = .ok (.iload_n 1, 1) := by decide +kernel
theorem d_Pl_leadsToPlaced_72 : decode k_Pl_leadsToPlaced 72 = .ok (.baload, 1) := by decide +kernel
theorem d_Pl_leadsToPlaced_73 : decode k_Pl_leadsToPlaced 73 = .ok (.ireturn, 1) := by decide +kernel
theorem d_Pl_leadsToPlaced_74 : decode k_Pl_leadsToPlaced 74 = .ok (.aload_n 0, 1) := by decide +kernel
theorem d_Pl_leadsToPlaced_75 : decode k_Pl_leadsToPlaced 75 = .ok (.getfield 15, 3) := by decide +kernel
theorem d_Pl_leadsToPlaced_78 : decode k_Pl_leadsToPlaced 78 = .ok (.iload_n 1, 1) := by decide +kernel
theorem d_Pl_leadsToPlaced_79 : decode k_Pl_leadsToPlaced 79 = .ok (.iaload, 1) := by decide +kernel
theorem d_Pl_leadsToPlaced_80 : decode k_Pl_leadsToPlaced 80 = .ok (.iconst (-1), 1) := by decide +kernel
theorem d_Pl_leadsToPlaced_81 : decode k_Pl_leadsToPlaced 81 = .ok (.if_icmp .eq 17, 3) := by decide +kernel
theorem d_Pl_leadsToPlaced_84 : decode k_Pl_leadsToPlaced 84 = .ok (.aload_n 0, 1) := by decide +kernel
theorem d_Pl_leadsToPlaced_85 : decode k_Pl_leadsToPlaced 85 = .ok (.getfield 24, 3) := by decide +kernel
theorem d_Pl_leadsToPlaced_88 : decode k_Pl_leadsToPlaced 88 = .ok (.aload_n 0, 1) := by decide +kernel
theorem d_Pl_leadsToPlaced_89 : decode k_Pl_leadsToPlaced 89 = .ok (.getfield 15, 3) := by decide +kernel
theorem d_Pl_leadsToPlaced_92 : decode k_Pl_leadsToPlaced 92 = .ok (.iload_n 1, 1) := by decide +kernel
theorem d_Pl_leadsToPlaced_93 : decode k_Pl_leadsToPlaced 93 = .ok (.iaload, 1) := by decide +kernel
theorem d_Pl_leadsToPlaced_94 : decode k_Pl_leadsToPlaced 94 = .ok (.baload, 1) := by decide +kernel
theorem d_Pl_leadsToPlaced_95 : decode k_Pl_leadsToPlaced 95 = .ok (.ifCond .eq 7, 3) := by decide +kernel
theorem d_Pl_leadsToPlaced_98 : decode k_Pl_leadsToPlaced 98 = .ok (.iconst 1, 1) := by decide +kernel
theorem d_Pl_leadsToPlaced_99 : decode k_Pl_leadsToPlaced 99 = .ok (.goto 4, 3) := by decide +kernel
theorem d_Pl_leadsToPlaced_102 : decode k_Pl_leadsToPlaced 102 = .ok (.iconst 0, 1) := by decide +kernel
theorem d_Pl_leadsToPlaced_103 : decode k_Pl_leadsToPlaced 103 = .ok (.ireturn, 1) := by decide +kernel
theorem d_Pl_leadsToPlaced_104 : decode k_Pl_leadsToPlaced 104 = .ok (.iconst 1, 1) := by decide +kernel
theorem d_Pl_leadsToPlaced_105 : decode k_Pl_leadsToPlaced 105 = .ok (.ireturn, 1) := by decide +kernel
theorem gw777 : (Jvm.Cond.methodLink "SchemaDesk$Plan" (118 : Nat) ({ cls := "SchemaDesk$Plan", name := "areAllPlaced", desc := "(I)Z" } : Jvm.MethodName)) ∈ GW := gw_t4 (List.mem_of_getElem? (i := 57) rfl) rfl
theorem gw779 : (Jvm.Cond.instanceMethod ({ cls := "SchemaDesk$Plan", name := "areAllPlaced", desc := "(I)Z" } : Jvm.MethodName)) ∈ GW := gw_t4 (List.mem_of_getElem? (i := 59) rfl) rfl
theorem gs19 : Cond.selects "SchemaDesk$Plan" ⟨"SchemaDesk$Plan", "areAllPlaced", "(I)Z"⟩ ⟨"SchemaDesk$Plan", "areAllPlaced", "(I)Z"⟩ ∈ GW := gw_p2 (q := (⟨"SchemaDesk$Plan", "areAllPlaced", "(I)Z"⟩, 10)) (List.mem_of_getElem? (i := 3) rfl)
theorem gw780 : (Jvm.Cond.code ({ cls := "SchemaDesk$Plan", name := "areAllPlaced", desc := "(I)Z" } : Jvm.MethodName) prog_3_method_10_code (4 : Nat) (Option.some Jvm.ClassFile.FieldType.boolean)) ∈ GW := gw_t4 (List.mem_of_getElem? (i := 60) rfl) rfl
theorem gw240 : (Jvm.Cond.fieldLink "SchemaDesk$Plan" (15 : Nat) "SchemaDesk$Plan" "target" "[I") ∈ GW := gw_t2 (List.mem_of_getElem? (i := 0) rfl) rfl
def wq_Pl_leadsToPlaced (x1 : Int32) (σ : Sg) (post : Int32 → Sg → Prop) : Prop := (vp_in x1 160 ∧ (((σ.1 30 x1.toNatClampNeg) = 15 → (vp_in x1 160 ∧ ((¬ (σ.1 1 x1.toNatClampNeg) = (5 : Int32) → (narrow .boolean (.int (1 : Int32)) = .int (1 : Int32) ∧ post (1 : Int32) σ)) ∧ ((σ.1 1 x1.toNatClampNeg) = (5 : Int32) → (wq_Pl_areAllPlaced x1 σ (fun r1 σ1 => ((r1 = 0 → (narrow .boolean (.int (0 : Int32)) = .int (0 : Int32) ∧ post (0 : Int32) σ1)) ∧ (¬ r1 = 0 → (narrow .boolean (.int (1 : Int32)) = .int (1 : Int32) ∧ post (1 : Int32) σ1))))))))) ∧ ((σ.1 30 x1.toNatClampNeg) = 16 → (vp_in x1 160 ∧ ((¬ (σ.1 1 x1.toNatClampNeg) = (5 : Int32) → (narrow .boolean (.int (1 : Int32)) = .int (1 : Int32) ∧ post (1 : Int32) σ)) ∧ ((σ.1 1 x1.toNatClampNeg) = (5 : Int32) → (wq_Pl_areAllPlaced x1 σ (fun r1 σ1 => ((r1 = 0 → (narrow .boolean (.int (0 : Int32)) = .int (0 : Int32) ∧ post (0 : Int32) σ1)) ∧ (¬ r1 = 0 → (narrow .boolean (.int (1 : Int32)) = .int (1 : Int32) ∧ post (1 : Int32) σ1))))))))) ∧ ((σ.1 30 x1.toNatClampNeg) = 17 → (vp_in x1 160 ∧ ((¬ (σ.1 1 x1.toNatClampNeg) = (5 : Int32) → (narrow .boolean (.int (1 : Int32)) = .int (1 : Int32) ∧ post (1 : Int32) σ)) ∧ ((σ.1 1 x1.toNatClampNeg) = (5 : Int32) → (wq_Pl_areAllPlaced x1 σ (fun r1 σ1 => ((r1 = 0 → (narrow .boolean (.int (0 : Int32)) = .int (0 : Int32) ∧ post (0 : Int32) σ1)) ∧ (¬ r1 = 0 → (narrow .boolean (.int (1 : Int32)) = .int (1 : Int32) ∧ post (1 : Int32) σ1))))))))) ∧ ((σ.1 30 x1.toNatClampNeg) = 18 → (vp_in x1 160 ∧ (narrow .boolean (.int (σ.1 34 x1.toNatClampNeg)) = .int (σ.1 34 x1.toNatClampNeg) ∧ post (σ.1 34 x1.toNatClampNeg) σ))) ∧ ((σ.1 30 x1.toNatClampNeg) = 19 → (vp_in x1 160 ∧ (((σ.1 31 x1.toNatClampNeg) = (-1 : Int32) → (narrow .boolean (.int (1 : Int32)) = .int (1 : Int32) ∧ post (1 : Int32) σ)) ∧ (¬ (σ.1 31 x1.toNatClampNeg) = (-1 : Int32) → (vp_in x1 160 ∧ (vp_in (σ.1 31 x1.toNatClampNeg) 160 ∧ (((σ.1 34 ((σ.1 31 x1.toNatClampNeg) : Int32).toNatClampNeg) = 0 → (narrow .boolean (.int (0 : Int32)) = .int (0 : Int32) ∧ post (0 : Int32) σ)) ∧ (¬ (σ.1 34 ((σ.1 31 x1.toNatClampNeg) : Int32).toNatClampNeg) = 0 → (narrow .boolean (.int (1 : Int32)) = .int (1 : Int32) ∧ post (1 : Int32) σ))))))))) ∧ ((¬ (σ.1 30 x1.toNatClampNeg) = 15 ∧ ¬ (σ.1 30 x1.toNatClampNeg) = 16 ∧ ¬ (σ.1 30 x1.toNatClampNeg) = 17 ∧ ¬ (σ.1 30 x1.toNatClampNeg) = 18 ∧ ¬ (σ.1 30 x1.toNatClampNeg) = 19) → (narrow .boolean (.int (1 : Int32)) = .int (1 : Int32) ∧ post (1 : Int32) σ))))
set_option maxRecDepth 100000 in
set_option maxHeartbeats 4000000 in
theorem b_Pl_leadsToPlaced_0 {p : Program} {l : Launch} {e : Env} {s : State} {m : MethodId} {args : Array Value} {below : List Frame} {meth : Method} {c : Code} {D : va_G} {g : Gm} {A : Nat → Prop} {post : Int32 → Sg → Prop} (C : kC p s m args meth c k_Pl_leadsToPlaced 2 (some .boolean) GW R_Pl D vwCl g (Zk g) A) (x1 : Int32) (σ : Sg) (H : Heap) (locs : List Loc) (ls : Array Slot) (hl : lv_has ls 2 [(0, .ref (g.1 29)), (1, .int x1)]) (hst : Wst D vwCl (WS g) A s σ H locs) (h : wq_Pl_leadsToPlaced x1 σ post) : W p l e { frames := 1, cells := 0, slots := 0, locals := 23 } s m args below meth c H locs 0 0 (MQ below (QiW D vwCl (WS g) post A) args s 0 0 A) (F0 m 0 ls []) := by
  obtain ⟨hx, hb, hr, hml, hown, hts, hlocks, hK, hZ, hA⟩ := C
  unfold wq_Pl_leadsToPlaced at h
  refine lv_aload_n hx hb d_Pl_leadsToPlaced_0 rfl (lv_at hl 0 rfl) ?_
  refine va_get (D := D) (ci := 5) (C := R_Pl) (T := T_Pl) (N := 10) hx hb hts in_Pl hown hK hst.1 29 (WS_o29 g σ) rfl 2 (by decide) (hts _ gw236) (fun _ h9 => h9) rfl d_Pl_leadsToPlaced_1 ?_
  refine lv_iload_n hx hb d_Pl_leadsToPlaced_4 rfl (lv_at hl 1 rfl) ?_
  obtain ⟨hi, h⟩ := h
  refine va_iald hx hb hK hst.1 30 0 (WS_a30 g σ) rfl hi d_Pl_leadsToPlaced_5 ?_
  by_cases hc0 : (σ.1 30 x1.toNatClampNeg) = 15
  · refine kw_tin (k := 15) (tgt := 40) hx hb d_Pl_leadsToPlaced_6 hc0 (by decide) (by decide) rfl (by decide) ?_
    replace h := h.1 hc0
    refine lv_aload_n hx hb d_Pl_leadsToPlaced_40 rfl (lv_at hl 0 rfl) ?_
    refine va_get (D := D) (ci := 5) (C := R_Pl) (T := T_Pl) (N := 10) hx hb hts in_Pl hown hK hst.1 29 (WS_o29 g σ) rfl 0 (by decide) (hts _ gw233) (fun _ h9 => h9) rfl d_Pl_leadsToPlaced_41 ?_
    refine va_get (D := D) (ci := 0) (C := R_Tr) (T := T_Tr) (N := 12) hx hb hts in_Tr hown hK hst.1 0 (WS_o0 g σ) rfl 1 (by decide) (hts _ gw132) (fun _ h9 => h9) rfl d_Pl_leadsToPlaced_44 ?_
    refine lv_iload_n hx hb d_Pl_leadsToPlaced_47 rfl (lv_at hl 1 rfl) ?_
    obtain ⟨hi, h⟩ := h
    refine va_iald hx hb hK hst.1 1 0 (WS_a1 g σ) rfl hi d_Pl_leadsToPlaced_48 ?_
    refine lv_iconst (v := (5 : Int32)) hx hb d_Pl_leadsToPlaced_49 (by decide) ?_
    refine lv_icmp_ne (tgt := 61) hx hb d_Pl_leadsToPlaced_50 (by decide) (fun hc => ?_) (fun hc => ?_)
    · replace h := h.1 hc
      refine lv_iconst (v := (1 : Int32)) hx hb d_Pl_leadsToPlaced_61 (by decide) ?_
      refine lv_goto (tgt := 66) hx hb d_Pl_leadsToPlaced_62 (by decide) ?_
      exact kw_zret hx hb hr hlocks hst h d_Pl_leadsToPlaced_66
    · replace h := h.2 hc
      refine lv_aload_n hx hb d_Pl_leadsToPlaced_53 rfl (lv_at hl 0 rfl) ?_
      refine lv_iload_n hx hb d_Pl_leadsToPlaced_54 rfl (lv_at hl 1 rfl) ?_
      refine kw_calli (va_runV (As := [.int x1]) (rest := []) (b := g.1 29) ⟨hx, hb, hml, hown, hts⟩ (c_Pl_areAllPlaced l x1 h) (cwV 1 hts (gd_v gw777 gw779 gs19 gw10 gw780) rfl rfl rfl (by decide +kernel) ⟨Nat.le_of_ble_eq_true rfl, Nat.le_of_ble_eq_true rfl⟩) ⟨kw_blind (Zk_ok g), va_recv hK hst.1 rfl (WS_o29 g σ), kw_pre (Zk_ok g) hK hZ hA hst⟩ rfl rfl hl.1 rfl (lv_room (Nat.le_of_ble_eq_true rfl)) d_Pl_leadsToPlaced_55 ⟨Nat.le_of_ble_eq_true rfl, Nat.le_of_ble_eq_true rfl⟩) hst hA (fun r1 σ1 H locs h hst => ?_)
      refine lv_if_eq (tgt := 65) hx hb d_Pl_leadsToPlaced_58 (by decide) (fun hc => ?_) (fun hc => ?_)
      · replace h := h.1 hc
        refine lv_iconst (v := (0 : Int32)) hx hb d_Pl_leadsToPlaced_65 (by decide) ?_
        exact kw_zret hx hb hr hlocks hst h d_Pl_leadsToPlaced_66
      · replace h := h.2 hc
        refine lv_iconst (v := (1 : Int32)) hx hb d_Pl_leadsToPlaced_61 (by decide) ?_
        refine lv_goto (tgt := 66) hx hb d_Pl_leadsToPlaced_62 (by decide) ?_
        exact kw_zret hx hb hr hlocks hst h d_Pl_leadsToPlaced_66
  by_cases hc1 : (σ.1 30 x1.toNatClampNeg) = 16
  · refine kw_tin (k := 16) (tgt := 40) hx hb d_Pl_leadsToPlaced_6 hc1 (by decide) (by decide) rfl (by decide) ?_
    replace h := h.2.1 hc1
    refine lv_aload_n hx hb d_Pl_leadsToPlaced_40 rfl (lv_at hl 0 rfl) ?_
    refine va_get (D := D) (ci := 5) (C := R_Pl) (T := T_Pl) (N := 10) hx hb hts in_Pl hown hK hst.1 29 (WS_o29 g σ) rfl 0 (by decide) (hts _ gw233) (fun _ h9 => h9) rfl d_Pl_leadsToPlaced_41 ?_
    refine va_get (D := D) (ci := 0) (C := R_Tr) (T := T_Tr) (N := 12) hx hb hts in_Tr hown hK hst.1 0 (WS_o0 g σ) rfl 1 (by decide) (hts _ gw132) (fun _ h9 => h9) rfl d_Pl_leadsToPlaced_44 ?_
    refine lv_iload_n hx hb d_Pl_leadsToPlaced_47 rfl (lv_at hl 1 rfl) ?_
    obtain ⟨hi, h⟩ := h
    refine va_iald hx hb hK hst.1 1 0 (WS_a1 g σ) rfl hi d_Pl_leadsToPlaced_48 ?_
    refine lv_iconst (v := (5 : Int32)) hx hb d_Pl_leadsToPlaced_49 (by decide) ?_
    refine lv_icmp_ne (tgt := 61) hx hb d_Pl_leadsToPlaced_50 (by decide) (fun hc => ?_) (fun hc => ?_)
    · replace h := h.1 hc
      refine lv_iconst (v := (1 : Int32)) hx hb d_Pl_leadsToPlaced_61 (by decide) ?_
      refine lv_goto (tgt := 66) hx hb d_Pl_leadsToPlaced_62 (by decide) ?_
      exact kw_zret hx hb hr hlocks hst h d_Pl_leadsToPlaced_66
    · replace h := h.2 hc
      refine lv_aload_n hx hb d_Pl_leadsToPlaced_53 rfl (lv_at hl 0 rfl) ?_
      refine lv_iload_n hx hb d_Pl_leadsToPlaced_54 rfl (lv_at hl 1 rfl) ?_
      refine kw_calli (va_runV (As := [.int x1]) (rest := []) (b := g.1 29) ⟨hx, hb, hml, hown, hts⟩ (c_Pl_areAllPlaced l x1 h) (cwV 1 hts (gd_v gw777 gw779 gs19 gw10 gw780) rfl rfl rfl (by decide +kernel) ⟨Nat.le_of_ble_eq_true rfl, Nat.le_of_ble_eq_true rfl⟩) ⟨kw_blind (Zk_ok g), va_recv hK hst.1 rfl (WS_o29 g σ), kw_pre (Zk_ok g) hK hZ hA hst⟩ rfl rfl hl.1 rfl (lv_room (Nat.le_of_ble_eq_true rfl)) d_Pl_leadsToPlaced_55 ⟨Nat.le_of_ble_eq_true rfl, Nat.le_of_ble_eq_true rfl⟩) hst hA (fun r1 σ1 H locs h hst => ?_)
      refine lv_if_eq (tgt := 65) hx hb d_Pl_leadsToPlaced_58 (by decide) (fun hc => ?_) (fun hc => ?_)
      · replace h := h.1 hc
        refine lv_iconst (v := (0 : Int32)) hx hb d_Pl_leadsToPlaced_65 (by decide) ?_
        exact kw_zret hx hb hr hlocks hst h d_Pl_leadsToPlaced_66
      · replace h := h.2 hc
        refine lv_iconst (v := (1 : Int32)) hx hb d_Pl_leadsToPlaced_61 (by decide) ?_
        refine lv_goto (tgt := 66) hx hb d_Pl_leadsToPlaced_62 (by decide) ?_
        exact kw_zret hx hb hr hlocks hst h d_Pl_leadsToPlaced_66
  by_cases hc2 : (σ.1 30 x1.toNatClampNeg) = 17
  · refine kw_tin (k := 17) (tgt := 40) hx hb d_Pl_leadsToPlaced_6 hc2 (by decide) (by decide) rfl (by decide) ?_
    replace h := h.2.2.1 hc2
    refine lv_aload_n hx hb d_Pl_leadsToPlaced_40 rfl (lv_at hl 0 rfl) ?_
    refine va_get (D := D) (ci := 5) (C := R_Pl) (T := T_Pl) (N := 10) hx hb hts in_Pl hown hK hst.1 29 (WS_o29 g σ) rfl 0 (by decide) (hts _ gw233) (fun _ h9 => h9) rfl d_Pl_leadsToPlaced_41 ?_
    refine va_get (D := D) (ci := 0) (C := R_Tr) (T := T_Tr) (N := 12) hx hb hts in_Tr hown hK hst.1 0 (WS_o0 g σ) rfl 1 (by decide) (hts _ gw132) (fun _ h9 => h9) rfl d_Pl_leadsToPlaced_44 ?_
    refine lv_iload_n hx hb d_Pl_leadsToPlaced_47 rfl (lv_at hl 1 rfl) ?_
    obtain ⟨hi, h⟩ := h
    refine va_iald hx hb hK hst.1 1 0 (WS_a1 g σ) rfl hi d_Pl_leadsToPlaced_48 ?_
    refine lv_iconst (v := (5 : Int32)) hx hb d_Pl_leadsToPlaced_49 (by decide) ?_
    refine lv_icmp_ne (tgt := 61) hx hb d_Pl_leadsToPlaced_50 (by decide) (fun hc => ?_) (fun hc => ?_)
    · replace h := h.1 hc
      refine lv_iconst (v := (1 : Int32)) hx hb d_Pl_leadsToPlaced_61 (by decide) ?_
      refine lv_goto (tgt := 66) hx hb d_Pl_leadsToPlaced_62 (by decide) ?_
      exact kw_zret hx hb hr hlocks hst h d_Pl_leadsToPlaced_66
    · replace h := h.2 hc
      refine lv_aload_n hx hb d_Pl_leadsToPlaced_53 rfl (lv_at hl 0 rfl) ?_
      refine lv_iload_n hx hb d_Pl_leadsToPlaced_54 rfl (lv_at hl 1 rfl) ?_
      refine kw_calli (va_runV (As := [.int x1]) (rest := []) (b := g.1 29) ⟨hx, hb, hml, hown, hts⟩ (c_Pl_areAllPlaced l x1 h) (cwV 1 hts (gd_v gw777 gw779 gs19 gw10 gw780) rfl rfl rfl (by decide +kernel) ⟨Nat.le_of_ble_eq_true rfl, Nat.le_of_ble_eq_true rfl⟩) ⟨kw_blind (Zk_ok g), va_recv hK hst.1 rfl (WS_o29 g σ), kw_pre (Zk_ok g) hK hZ hA hst⟩ rfl rfl hl.1 rfl (lv_room (Nat.le_of_ble_eq_true rfl)) d_Pl_leadsToPlaced_55 ⟨Nat.le_of_ble_eq_true rfl, Nat.le_of_ble_eq_true rfl⟩) hst hA (fun r1 σ1 H locs h hst => ?_)
      refine lv_if_eq (tgt := 65) hx hb d_Pl_leadsToPlaced_58 (by decide) (fun hc => ?_) (fun hc => ?_)
      · replace h := h.1 hc
        refine lv_iconst (v := (0 : Int32)) hx hb d_Pl_leadsToPlaced_65 (by decide) ?_
        exact kw_zret hx hb hr hlocks hst h d_Pl_leadsToPlaced_66
      · replace h := h.2 hc
        refine lv_iconst (v := (1 : Int32)) hx hb d_Pl_leadsToPlaced_61 (by decide) ?_
        refine lv_goto (tgt := 66) hx hb d_Pl_leadsToPlaced_62 (by decide) ?_
        exact kw_zret hx hb hr hlocks hst h d_Pl_leadsToPlaced_66
  by_cases hc3 : (σ.1 30 x1.toNatClampNeg) = 18
  · refine kw_tin (k := 18) (tgt := 67) hx hb d_Pl_leadsToPlaced_6 hc3 (by decide) (by decide) rfl (by decide) ?_
    replace h := h.2.2.2.1 hc3
    refine lv_aload_n hx hb d_Pl_leadsToPlaced_67 rfl (lv_at hl 0 rfl) ?_
    refine va_get (D := D) (ci := 5) (C := R_Pl) (T := T_Pl) (N := 10) hx hb hts in_Pl hown hK hst.1 29 (WS_o29 g σ) rfl 9 (by decide) (hts _ gw259) (fun _ h9 => h9) rfl d_Pl_leadsToPlaced_68 ?_
    refine lv_iload_n hx hb d_Pl_leadsToPlaced_71 rfl (lv_at hl 1 rfl) ?_
    obtain ⟨hi, h⟩ := h
    refine va_zald hx hb hK hst.1 34 2 (WS_a34 g σ) rfl hi d_Pl_leadsToPlaced_72 ?_
    exact kw_zret hx hb hr hlocks hst h d_Pl_leadsToPlaced_73
  by_cases hc4 : (σ.1 30 x1.toNatClampNeg) = 19
  · refine kw_tin (k := 19) (tgt := 74) hx hb d_Pl_leadsToPlaced_6 hc4 (by decide) (by decide) rfl (by decide) ?_
    replace h := h.2.2.2.2.1 hc4
    refine lv_aload_n hx hb d_Pl_leadsToPlaced_74 rfl (lv_at hl 0 rfl) ?_
    refine va_get (D := D) (ci := 5) (C := R_Pl) (T := T_Pl) (N := 10) hx hb hts in_Pl hown hK hst.1 29 (WS_o29 g σ) rfl 3 (by decide) (hts _ gw240) (fun _ h9 => h9) rfl d_Pl_leadsToPlaced_75 ?_
    refine lv_iload_n hx hb d_Pl_leadsToPlaced_78 rfl (lv_at hl 1 rfl) ?_
    obtain ⟨hi, h⟩ := h
    refine va_iald hx hb hK hst.1 31 0 (WS_a31 g σ) rfl hi d_Pl_leadsToPlaced_79 ?_
    refine lv_iconst (v := (-1 : Int32)) hx hb d_Pl_leadsToPlaced_80 (by decide) ?_
    refine lv_icmp_eq (tgt := 98) hx hb d_Pl_leadsToPlaced_81 (by decide) (fun hc => ?_) (fun hc => ?_)
    · replace h := h.1 hc
      refine lv_iconst (v := (1 : Int32)) hx hb d_Pl_leadsToPlaced_98 (by decide) ?_
      refine lv_goto (tgt := 103) hx hb d_Pl_leadsToPlaced_99 (by decide) ?_
      exact kw_zret hx hb hr hlocks hst h d_Pl_leadsToPlaced_103
    · replace h := h.2 hc
      refine lv_aload_n hx hb d_Pl_leadsToPlaced_84 rfl (lv_at hl 0 rfl) ?_
      refine va_get (D := D) (ci := 5) (C := R_Pl) (T := T_Pl) (N := 10) hx hb hts in_Pl hown hK hst.1 29 (WS_o29 g σ) rfl 9 (by decide) (hts _ gw259) (fun _ h9 => h9) rfl d_Pl_leadsToPlaced_85 ?_
      refine lv_aload_n hx hb d_Pl_leadsToPlaced_88 rfl (lv_at hl 0 rfl) ?_
      refine va_get (D := D) (ci := 5) (C := R_Pl) (T := T_Pl) (N := 10) hx hb hts in_Pl hown hK hst.1 29 (WS_o29 g σ) rfl 3 (by decide) (hts _ gw240) (fun _ h9 => h9) rfl d_Pl_leadsToPlaced_89 ?_
      refine lv_iload_n hx hb d_Pl_leadsToPlaced_92 rfl (lv_at hl 1 rfl) ?_
      obtain ⟨hi, h⟩ := h
      refine va_iald hx hb hK hst.1 31 0 (WS_a31 g σ) rfl hi d_Pl_leadsToPlaced_93 ?_
      obtain ⟨hi, h⟩ := h
      refine va_zald hx hb hK hst.1 34 2 (WS_a34 g σ) rfl hi d_Pl_leadsToPlaced_94 ?_
      refine lv_if_eq (tgt := 102) hx hb d_Pl_leadsToPlaced_95 (by decide) (fun hc => ?_) (fun hc => ?_)
      · replace h := h.1 hc
        refine lv_iconst (v := (0 : Int32)) hx hb d_Pl_leadsToPlaced_102 (by decide) ?_
        exact kw_zret hx hb hr hlocks hst h d_Pl_leadsToPlaced_103
      · replace h := h.2 hc
        refine lv_iconst (v := (1 : Int32)) hx hb d_Pl_leadsToPlaced_98 (by decide) ?_
        refine lv_goto (tgt := 103) hx hb d_Pl_leadsToPlaced_99 (by decide) ?_
        exact kw_zret hx hb hr hlocks hst h d_Pl_leadsToPlaced_103
  refine lv_tableOut (tgt := 104) hx hb d_Pl_leadsToPlaced_6 (by have q0 := lv_neT (a := 15) hc0 (by decide); have q1 := lv_neT (a := 16) hc1 (by decide); have q2 := lv_neT (a := 17) hc2 (by decide); have q3 := lv_neT (a := 18) hc3 (by decide); have q4 := lv_neT (a := 19) hc4 (by decide); omega) (by decide) ?_
  replace h := h.2.2.2.2.2 ⟨hc0, hc1, hc2, hc3, hc4⟩
  refine lv_iconst (v := (1 : Int32)) hx hb d_Pl_leadsToPlaced_104 (by decide) ?_
  exact kw_zret hx hb hr hlocks hst h d_Pl_leadsToPlaced_105
set_option maxRecDepth 100000 in
set_option maxHeartbeats 4000000 in
theorem c_Pl_leadsToPlaced (l : Launch) {D : va_G} {g : Gm} {sz : Nat} (x1 : Int32) {σ : Sg} {post : Int32 → Sg → Prop} (h : wq_Pl_leadsToPlaced x1 σ post) : Met l y_Pl_leadsToPlaced (.code y_Pl_leadsToPlaced k_Pl_leadsToPlaced 2 (some .boolean) :: GW) { frames := 1, cells := 0, slots := 0, locals := 23 } (PcW D vwCl (WS g) g (Zk g) σ sz [.ref (g.1 29), .int x1]) (QiW D vwCl (WS g) post (va_A (WS g σ) sz)) 0 0 (va_A (WS g σ) sz) := by
  refine kw_entry (own := R_Pl) (by decide) rfl rfl (Nat.le_of_ble_eq_true rfl) ?_
  intro p e s m below meth c ls hsz C hin hl hst
  exact b_Pl_leadsToPlaced_0 C x1 σ _ _ ls hl hst h
/-! SchemaDesk$Plan.isReady (I)Z -/
abbrev k_Pl_isReady : ByteArray := prog_3_method_8_code
abbrev y_Pl_isReady : MethodName := ⟨"SchemaDesk$Plan", "isReady", "(I)Z"⟩
theorem d_Pl_isReady_0 : decode k_Pl_isReady 0 = .ok (.iconst 0, 1) := by decide +kernel
theorem d_Pl_isReady_1 : decode k_Pl_isReady 1 = .ok (.istore_n 2, 1) := by decide +kernel
theorem d_Pl_isReady_2 : decode k_Pl_isReady 2 = .ok (.iload_n 1, 1) := by decide +kernel
theorem d_Pl_isReady_3 : decode k_Pl_isReady 3 = .ok (.iconst 1, 1) := by decide +kernel
theorem d_Pl_isReady_4 : decode k_Pl_isReady 4 = .ok (.iadd, 1) := by decide +kernel
theorem d_Pl_isReady_5 : decode k_Pl_isReady 5 = .ok (.istore_n 3, 1) := by decide +kernel
theorem d_Pl_isReady_6 : decode k_Pl_isReady 6 = .ok (.iload_n 2, 1) := by decide +kernel
theorem d_Pl_isReady_7 : decode k_Pl_isReady 7 = .ok (.aload_n 0, 1) := by decide +kernel
theorem d_Pl_isReady_8 : decode k_Pl_isReady 8 = .ok (.getfield 28, 3) := by decide +kernel
theorem d_Pl_isReady_11 : decode k_Pl_isReady 11 = .ok (.getfield 63, 3) := by decide +kernel
theorem d_Pl_isReady_14 : decode k_Pl_isReady 14 = .ok (.iload_n 1, 1) := by decide +kernel
theorem d_Pl_isReady_15 : decode k_Pl_isReady 15 = .ok (.iaload, 1) := by decide +kernel
theorem d_Pl_isReady_16 : decode k_Pl_isReady 16 = .ok (.if_icmp .ge 29, 3) := by decide +kernel
theorem d_Pl_isReady_19 : decode k_Pl_isReady 19 = .ok (.aload_n 0, 1) := by decide +kernel
theorem d_Pl_isReady_20 : decode k_Pl_isReady 20 = .ok (.iload_n 3, 1) := by decide +kernel
theorem d_Pl_isReady_21 : decode k_Pl_isReady 21 = .ok (.invokevirtual 115, 3) := by decide +kernel
theorem d_Pl_isReady_24 : decode k_Pl_isReady 24 = .ok (.ifCond .ne 5, 3) := by decide +kernel
theorem d_Pl_isReady_27 : decode k_Pl_isReady 27 = .ok (.iconst 0, 1) := by decide +kernel
theorem d_Pl_isReady_28 : decode k_Pl_isReady 28 = .ok (.ireturn, 1) := by decide +kernel
theorem d_Pl_isReady_29 : decode k_Pl_isReady 29 = .ok (.iinc 2 1, 3) := by decide +kernel
theorem d_Pl_isReady_32 : decode k_Pl_isReady 32 = .ok (.aload_n 0, 1) := by decide +kernel
theorem d_Pl_isReady_33 : decode k_Pl_isReady 33 = .ok (.getfield 28, 3) := by decide +kernel
theorem d_Pl_isReady_36 : decode k_Pl_isReady 36 = .ok (.getfield 66, 3) := by decide +kernel
theorem d_Pl_isReady_39 : decode k_Pl_isReady 39 = .ok (.iload_n 3, 1) := by decide +kernel
theorem d_Pl_isReady_40 : decode k_Pl_isReady 40 = .ok (.iaload, 1) := by decide +kernel
theorem d_Pl_isReady_41 : decode k_Pl_isReady 41 = .ok (.istore_n 3, 1) := by decide +kernel
theorem d_Pl_isReady_42 : decode k_Pl_isReady 42 = .ok (.goto (-36), 3) := by decide +kernel
theorem d_Pl_isReady_45 : decode k_Pl_isReady 45 = .ok (.iconst 1, 1) := by decide +kernel
theorem d_Pl_isReady_46 : decode k_Pl_isReady 46 = .ok (.ireturn, 1) := by decide +kernel
theorem gw773 : (Jvm.Cond.methodLink "SchemaDesk$Plan" (115 : Nat) ({ cls := "SchemaDesk$Plan", name := "leadsToPlaced", desc := "(I)Z" } : Jvm.MethodName)) ∈ GW := gw_t4 (List.mem_of_getElem? (i := 53) rfl) rfl
theorem gw775 : (Jvm.Cond.instanceMethod ({ cls := "SchemaDesk$Plan", name := "leadsToPlaced", desc := "(I)Z" } : Jvm.MethodName)) ∈ GW := gw_t4 (List.mem_of_getElem? (i := 55) rfl) rfl
theorem gs18 : Cond.selects "SchemaDesk$Plan" ⟨"SchemaDesk$Plan", "leadsToPlaced", "(I)Z"⟩ ⟨"SchemaDesk$Plan", "leadsToPlaced", "(I)Z"⟩ ∈ GW := gw_p2 (q := (⟨"SchemaDesk$Plan", "leadsToPlaced", "(I)Z"⟩, 10)) (List.mem_of_getElem? (i := 2) rfl)
theorem gw776 : (Jvm.Cond.code ({ cls := "SchemaDesk$Plan", name := "leadsToPlaced", desc := "(I)Z" } : Jvm.MethodName) prog_3_method_9_code (2 : Nat) (Option.some Jvm.ClassFile.FieldType.boolean)) ∈ GW := gw_t4 (List.mem_of_getElem? (i := 56) rfl) rfl
def wb_Pl_isReady_0 (F : Nat → Int32 → Int32 → Int32 → Sg → Prop) (post : Int32 → Sg → Prop) (x1 : Int32) (σ : Sg) : Prop := F 1 x1 (0 : Int32) (x1 + (1 : Int32)) σ
def wb_Pl_isReady_1 (F : Nat → Int32 → Int32 → Int32 → Sg → Prop) (post : Int32 → Sg → Prop) (x1 : Int32) (x2 : Int32) (x3 : Int32) (σ : Sg) : Prop := (vp_in x1 160 ∧ (((σ.1 5 x1.toNatClampNeg) ≤ x2 → (narrow .boolean (.int (1 : Int32)) = .int (1 : Int32) ∧ post (1 : Int32) σ)) ∧ (¬ (σ.1 5 x1.toNatClampNeg) ≤ x2 → (wq_Pl_leadsToPlaced x3 σ (fun r1 σ1 => ((¬ r1 = 0 → (vp_in x3 160 ∧ F 1 x1 (x2 + 1) (σ1.1 8 x3.toNatClampNeg) σ1)) ∧ (r1 = 0 → (narrow .boolean (.int (0 : Int32)) = .int (0 : Int32) ∧ post (0 : Int32) σ1))))))))
def wp_Pl_isReady (post : Int32 → Sg → Prop) : Nat → Nat → Int32 → Int32 → Int32 → Sg → Prop
  | 0, _, _, _, _, _ => False
  | n + 1, k, x1, x2, x3, σ => match k with
    | 0 => wb_Pl_isReady_0 (wp_Pl_isReady post n) post x1 σ
    | 1 => wb_Pl_isReady_1 (wp_Pl_isReady post n) post x1 x2 x3 σ
    | _ => False
def wq_Pl_isReady (x1 : Int32) (σ : Sg) (post : Int32 → Sg → Prop) : Prop := ∃ n, wp_Pl_isReady post n 0 x1 0 0 σ
def J_Pl_isReady_1 (p : Program) (l : Launch) (e : Env) (s : State) (m : MethodId) (args : Array Value) (below : List Frame) (meth : Method) (c : Code) (D : va_G) (g : Gm) (A : Nat → Prop) (post : Int32 → Sg → Prop) (F : Nat → Int32 → Int32 → Int32 → Sg → Prop) : Prop := ∀ (x1 : Int32) (x2 : Int32) (x3 : Int32) (σ : Sg) (H : Heap) (locs : List Loc) (ls : Array Slot), lv_has ls 4 [(0, .ref (g.1 29)), (1, .int x1), (2, .int x2), (3, .int x3)] → Wst D vwCl (WS g) A s σ H locs → F 1 x1 x2 x3 σ → W p l e { frames := 2, cells := 0, slots := 0, locals := 44 } s m args below meth c H locs 0 0 (MQ below (QiW D vwCl (WS g) post A) args s 0 0 A) (F0 m 6 ls [])
set_option maxRecDepth 100000 in
set_option maxHeartbeats 4000000 in
theorem b_Pl_isReady_0 {p : Program} {l : Launch} {e : Env} {s : State} {m : MethodId} {args : Array Value} {below : List Frame} {meth : Method} {c : Code} {D : va_G} {g : Gm} {A : Nat → Prop} {post : Int32 → Sg → Prop} {F : Nat → Int32 → Int32 → Int32 → Sg → Prop} (C : kC p s m args meth c k_Pl_isReady 4 (some .boolean) GW R_Pl D vwCl g (Zk g) A) (j1 : J_Pl_isReady_1 p l e s m args below meth c D g A post F) (x1 : Int32) (σ : Sg) (H : Heap) (locs : List Loc) (ls : Array Slot) (hl : lv_has ls 4 [(0, .ref (g.1 29)), (1, .int x1)]) (hst : Wst D vwCl (WS g) A s σ H locs) (h : wb_Pl_isReady_0 F post x1 σ) : W p l e { frames := 2, cells := 0, slots := 0, locals := 44 } s m args below meth c H locs 0 0 (MQ below (QiW D vwCl (WS g) post A) args s 0 0 A) (F0 m 0 ls []) := by
  obtain ⟨hx, hb, hr, hml, hown, hts, hlocks, hK, hZ, hA⟩ := C
  unfold wb_Pl_isReady_0 at h
  refine lv_iconst (v := (0 : Int32)) hx hb d_Pl_isReady_0 (by decide) ?_
  refine lv_istore_n hx hb d_Pl_isReady_1 rfl hl (by decide) rfl (fun ls hl => ?_)
  have hl : lv_has ls 4 [(2, .int (0 : Int32)), (0, .ref (g.1 29)), (1, .int x1)] := hl
  refine lv_iload_n hx hb d_Pl_isReady_2 rfl (lv_at hl 2 rfl) ?_
  refine lv_iconst (v := (1 : Int32)) hx hb d_Pl_isReady_3 (by decide) ?_
  refine lv_iadd hx hb d_Pl_isReady_4 ?_
  refine lv_istore_n hx hb d_Pl_isReady_5 rfl hl (by decide) rfl (fun ls hl => ?_)
  have hl : lv_has ls 4 [(3, .int (x1 + (1 : Int32))), (2, .int (0 : Int32)), (0, .ref (g.1 29)), (1, .int x1)] := hl
  exact j1 x1 (0 : Int32) (x1 + (1 : Int32)) σ _ _ _ (lv_sub hl [2, 3, 1, 0] rfl) hst h
set_option maxRecDepth 100000 in
set_option maxHeartbeats 4000000 in
theorem b_Pl_isReady_1 {p : Program} {l : Launch} {e : Env} {s : State} {m : MethodId} {args : Array Value} {below : List Frame} {meth : Method} {c : Code} {D : va_G} {g : Gm} {A : Nat → Prop} {post : Int32 → Sg → Prop} {F : Nat → Int32 → Int32 → Int32 → Sg → Prop} (C : kC p s m args meth c k_Pl_isReady 4 (some .boolean) GW R_Pl D vwCl g (Zk g) A) (j1 : J_Pl_isReady_1 p l e s m args below meth c D g A post F) (x1 : Int32) (x2 : Int32) (x3 : Int32) (σ : Sg) (H : Heap) (locs : List Loc) (ls : Array Slot) (hl : lv_has ls 4 [(0, .ref (g.1 29)), (1, .int x1), (2, .int x2), (3, .int x3)]) (hst : Wst D vwCl (WS g) A s σ H locs) (h : wb_Pl_isReady_1 F post x1 x2 x3 σ) : W p l e { frames := 2, cells := 0, slots := 0, locals := 44 } s m args below meth c H locs 0 0 (MQ below (QiW D vwCl (WS g) post A) args s 0 0 A) (F0 m 6 ls []) := by
  obtain ⟨hx, hb, hr, hml, hown, hts, hlocks, hK, hZ, hA⟩ := C
  unfold wb_Pl_isReady_1 at h
  refine lv_iload_n hx hb d_Pl_isReady_6 rfl (lv_at hl 2 rfl) ?_
  refine lv_aload_n hx hb d_Pl_isReady_7 rfl (lv_at hl 0 rfl) ?_
  refine va_get (D := D) (ci := 5) (C := R_Pl) (T := T_Pl) (N := 10) hx hb hts in_Pl hown hK hst.1 29 (WS_o29 g σ) rfl 0 (by decide) (hts _ gw233) (fun _ h9 => h9) rfl d_Pl_isReady_8 ?_
  refine va_get (D := D) (ci := 0) (C := R_Tr) (T := T_Tr) (N := 12) hx hb hts in_Tr hown hK hst.1 0 (WS_o0 g σ) rfl 5 (by decide) (hts _ gw149) (fun _ h9 => h9) rfl d_Pl_isReady_11 ?_
  refine lv_iload_n hx hb d_Pl_isReady_14 rfl (lv_at hl 1 rfl) ?_
  obtain ⟨hi, h⟩ := h
  refine va_iald hx hb hK hst.1 5 0 (WS_a5 g σ) rfl hi d_Pl_isReady_15 ?_
  refine lv_icmp_ge (tgt := 45) hx hb d_Pl_isReady_16 (by decide) (fun hc => ?_) (fun hc => ?_)
  · replace h := h.1 hc
    refine lv_iconst (v := (1 : Int32)) hx hb d_Pl_isReady_45 (by decide) ?_
    exact kw_zret hx hb hr hlocks hst h d_Pl_isReady_46
  · replace h := h.2 hc
    refine lv_aload_n hx hb d_Pl_isReady_19 rfl (lv_at hl 0 rfl) ?_
    refine lv_iload_n hx hb d_Pl_isReady_20 rfl (lv_at hl 3 rfl) ?_
    refine kw_calli (va_runV (As := [.int x3]) (rest := []) (b := g.1 29) ⟨hx, hb, hml, hown, hts⟩ (c_Pl_leadsToPlaced l x3 h) (cwV 1 hts (gd_v gw773 gw775 gs18 gw10 gw776) rfl rfl rfl (by decide +kernel) ⟨Nat.le_of_ble_eq_true rfl, Nat.le_of_ble_eq_true rfl⟩) ⟨kw_blind (Zk_ok g), va_recv hK hst.1 rfl (WS_o29 g σ), kw_pre (Zk_ok g) hK hZ hA hst⟩ rfl rfl hl.1 rfl (lv_room (Nat.le_of_ble_eq_true rfl)) d_Pl_isReady_21 ⟨Nat.le_of_ble_eq_true rfl, Nat.le_of_ble_eq_true rfl⟩) hst hA (fun r1 σ1 H locs h hst => ?_)
    refine lv_if_ne (tgt := 29) hx hb d_Pl_isReady_24 (by decide) (fun hc => ?_) (fun hc => ?_)
    · replace h := h.1 hc
      refine lv_iinc (k := 2) (v := (x2 + 1)) hx hb d_Pl_isReady_29 hl rfl (kw_inc _ (by decide)) (by decide) rfl (fun ls hl => ?_)
      have hl : lv_has ls 4 [(2, .int (x2 + 1)), (0, .ref (g.1 29)), (1, .int x1), (3, .int x3)] := hl
      refine lv_aload_n hx hb d_Pl_isReady_32 rfl (lv_at hl 1 rfl) ?_
      refine va_get (D := D) (ci := 5) (C := R_Pl) (T := T_Pl) (N := 10) hx hb hts in_Pl hown hK hst.1 29 (WS_o29 g σ1) rfl 0 (by decide) (hts _ gw233) (fun _ h9 => h9) rfl d_Pl_isReady_33 ?_
      refine va_get (D := D) (ci := 0) (C := R_Tr) (T := T_Tr) (N := 12) hx hb hts in_Tr hown hK hst.1 0 (WS_o0 g σ1) rfl 8 (by decide) (hts _ gw164) (fun _ h9 => h9) rfl d_Pl_isReady_36 ?_
      refine lv_iload_n hx hb d_Pl_isReady_39 rfl (lv_at hl 3 rfl) ?_
      obtain ⟨hi, h⟩ := h
      refine va_iald hx hb hK hst.1 8 0 (WS_a8 g σ1) rfl hi d_Pl_isReady_40 ?_
      refine lv_istore_n hx hb d_Pl_isReady_41 rfl hl (by decide) rfl (fun ls hl => ?_)
      have hl : lv_has ls 4 [(3, .int (σ1.1 8 x3.toNatClampNeg)), (2, .int (x2 + 1)), (0, .ref (g.1 29)), (1, .int x1)] := hl
      refine lv_goto (tgt := 6) hx hb d_Pl_isReady_42 (by decide) ?_
      exact j1 x1 (x2 + 1) (σ1.1 8 x3.toNatClampNeg) σ1 _ _ _ (lv_sub hl [2, 3, 1, 0] rfl) hst h
    · replace h := h.2 hc
      refine lv_iconst (v := (0 : Int32)) hx hb d_Pl_isReady_27 (by decide) ?_
      exact kw_zret hx hb hr hlocks hst h d_Pl_isReady_28
set_option maxRecDepth 100000 in
set_option maxHeartbeats 4000000 in
theorem a_Pl_isReady {p : Program} {l : Launch} {e : Env} {s : State} {m : MethodId} {args : Array Value} {below : List Frame} {meth : Method} {c : Code} {D : va_G} {g : Gm} {A : Nat → Prop} {post : Int32 → Sg → Prop} (C : kC p s m args meth c k_Pl_isReady 4 (some .boolean) GW R_Pl D vwCl g (Zk g) A) : ∀ n : Nat, J_Pl_isReady_1 p l e s m args below meth c D g A post (wp_Pl_isReady post n) := by
  intro n
  induction n with
  | zero => exact fun _ _ _ _ _ _ _ _ _ h => h.elim
  | succ n ih => exact fun x1 x2 x3 σ H locs ls hl hst h => b_Pl_isReady_1 (F := wp_Pl_isReady post n) C (ih) x1 x2 x3 σ H locs ls hl hst h
set_option maxRecDepth 100000 in
set_option maxHeartbeats 4000000 in
theorem c_Pl_isReady (l : Launch) {D : va_G} {g : Gm} {sz : Nat} (x1 : Int32) {σ : Sg} {post : Int32 → Sg → Prop} (h : wq_Pl_isReady x1 σ post) : Met l y_Pl_isReady (.code y_Pl_isReady k_Pl_isReady 4 (some .boolean) :: GW) { frames := 2, cells := 0, slots := 0, locals := 44 } (PcW D vwCl (WS g) g (Zk g) σ sz [.ref (g.1 29), .int x1]) (QiW D vwCl (WS g) post (va_A (WS g σ) sz)) 0 0 (va_A (WS g σ) sz) := by
  refine kw_entry (own := R_Pl) (by decide) rfl rfl (Nat.le_of_ble_eq_true rfl) ?_
  intro p e s m below meth c ls hsz C hin hl hst
  obtain ⟨n, h⟩ := h
  cases n with
  | zero => exact h.elim
  | succ n =>
    have ih := a_Pl_isReady (l := l) (e := e) (below := below) (post := post) C n
    exact b_Pl_isReady_0 (F := wp_Pl_isReady post n) C (ih) x1 σ _ _ ls hl hst h
/-! SchemaDesk$Plan.placeAllReady ()V -/
abbrev k_Pl_placeAllReady : ByteArray := prog_3_method_7_code
abbrev y_Pl_placeAllReady : MethodName := ⟨"SchemaDesk$Plan", "placeAllReady", "()V"⟩
theorem d_Pl_placeAllReady_0 : decode k_Pl_placeAllReady 0 = .ok (.aload_n 0, 1) := by decide +kernel
theorem d_Pl_placeAllReady_1 : decode k_Pl_placeAllReady 1 = .ok (.getfield 28, 3) := by decide +kernel
theorem d_Pl_placeAllReady_4 : decode k_Pl_placeAllReady 4 = .ok (.getfield 40, 3) := by decide +kernel
theorem d_Pl_placeAllReady_7 : decode k_Pl_placeAllReady 7 = .ok (.iconst 1, 1) := by decide +kernel
theorem d_Pl_placeAllReady_8 : decode k_Pl_placeAllReady 8 = .ok (.isub, 1) := by decide +kernel
theorem d_Pl_placeAllReady_9 : decode k_Pl_placeAllReady 9 = .ok (.istore_n 1, 1) := by decide +kernel
theorem d_Pl_placeAllReady_10 : decode k_Pl_placeAllReady 10 = .ok (.iload_n 1, 1) := by decide +kernel
theorem d_Pl_placeAllReady_11 : decode k_Pl_placeAllReady 11 = .ok (.ifCond .lt 53, 3) := by decide +kernel
theorem d_Pl_placeAllReady_14 : decode k_Pl_placeAllReady 14 = .ok (.aload_n 0, 1) := by decide +kernel
theorem d_Pl_placeAllReady_15 : decode k_Pl_placeAllReady 15 = .ok (.getfield 24, 3) := by decide +kernel
theorem d_Pl_placeAllReady_18 : decode k_Pl_placeAllReady 18 = .ok (.iload_n 1, 1) := by decide +kernel
theorem d_Pl_placeAllReady_19 : decode k_Pl_placeAllReady 19 = .ok (.baload, 1) := by decide +kernel
theorem d_Pl_placeAllReady_20 : decode k_Pl_placeAllReady 20 = .ok (.ifCond .ne 38, 3) := by decide +kernel
theorem d_Pl_placeAllReady_23 : decode k_Pl_placeAllReady 23 = .ok (.aload_n 0, 1) := by decide +kernel
theorem d_Pl_placeAllReady_24 : decode k_Pl_placeAllReady 24 = .ok (.iload_n 1, 1) := by decide +kernel
theorem d_Pl_placeAllReady_25 : decode k_Pl_placeAllReady 25 = .ok (.invokevirtual 111, 3) := by decide +kernel
theorem d_Pl_placeAllReady_28 : decode k_Pl_placeAllReady 28 = .ok (.ifCond .eq 30, 3) := by decide +kernel
theorem d_Pl_placeAllReady_31 : decode k_Pl_placeAllReady 31 = .ok (.aload_n 0, 1) := by decide +kernel
theorem d_Pl_placeAllReady_32 : decode k_Pl_placeAllReady 32 = .ok (.getfield 24, 3) := by decide +kernel
theorem d_Pl_placeAllReady_35 : decode k_Pl_placeAllReady 35 = .ok (.iload_n 1, 1) := by decide +kernel
theorem d_Pl_placeAllReady_36 : decode k_Pl_placeAllReady 36 = .ok (.iconst 1, 1) := by decide +kernel
theorem d_Pl_placeAllReady_37 : decode k_Pl_placeAllReady 37 = .ok (.bastore, 1) := by decide +kernel
theorem d_Pl_placeAllReady_38 : decode k_Pl_placeAllReady 38 = .ok (.aload_n 0, 1) := by decide +kernel
theorem d_Pl_placeAllReady_39 : decode k_Pl_placeAllReady 39 = .ok (.getfield 21, 3) := by decide +kernel
theorem d_Pl_placeAllReady_42 : decode k_Pl_placeAllReady 42 = .ok (.aload_n 0, 1) := by decide +kernel
theorem d_Pl_placeAllReady_43 : decode k_Pl_placeAllReady 43 = .ok (.getfield 102, 3) := by decide +kernel
theorem d_Pl_placeAllReady_46 : decode k_Pl_placeAllReady 46 = .ok (.iload_n 1, 1) := by decide +kernel
theorem d_Pl_placeAllReady_47 : decode k_Pl_placeAllReady 47 = .ok (.iastore, 1) := by decide +kernel
theorem d_Pl_placeAllReady_48 : decode k_Pl_placeAllReady 48 = .ok (.aload_n 0, 1) := by decide +kernel
theorem d_Pl_placeAllReady_49 : decode k_Pl_placeAllReady 49 = .ok (.dup, 1) := by decide +kernel
theorem d_Pl_placeAllReady_50 : decode k_Pl_placeAllReady 50 = .ok (.getfield 102, 3) := by decide +kernel
theorem d_Pl_placeAllReady_53 : decode k_Pl_placeAllReady 53 = .ok (.iconst 1, 1) := by decide +kernel
theorem d_Pl_placeAllReady_54 : decode k_Pl_placeAllReady 54 = .ok (.iadd, 1) := by decide +kernel
theorem d_Pl_placeAllReady_55 : decode k_Pl_placeAllReady 55 = .ok (.putfield 102, 3) := by decide +kernel
theorem d_Pl_placeAllReady_58 : decode k_Pl_placeAllReady 58 = .ok (.iinc 1 (-1), 3) := by decide +kernel
theorem d_Pl_placeAllReady_61 : decode k_Pl_placeAllReady 61 = .ok (.goto (-51), 3) := by decide +kernel
theorem d_Pl_placeAllReady_64 : decode k_Pl_placeAllReady 64 = .ok (.return_, 1) := by decide +kernel
theorem gw169 : (Jvm.Cond.fieldLink "SchemaDesk$Plan" (40 : Nat) "SchemaDesk$Tree" "size" "I") ∈ GW := gw_t1 (List.mem_of_getElem? (i := 169) rfl) rfl
theorem gw769 : (Jvm.Cond.methodLink "SchemaDesk$Plan" (111 : Nat) ({ cls := "SchemaDesk$Plan", name := "isReady", desc := "(I)Z" } : Jvm.MethodName)) ∈ GW := gw_t4 (List.mem_of_getElem? (i := 49) rfl) rfl
theorem gw771 : (Jvm.Cond.instanceMethod ({ cls := "SchemaDesk$Plan", name := "isReady", desc := "(I)Z" } : Jvm.MethodName)) ∈ GW := gw_t4 (List.mem_of_getElem? (i := 51) rfl) rfl
theorem gs17 : Cond.selects "SchemaDesk$Plan" ⟨"SchemaDesk$Plan", "isReady", "(I)Z"⟩ ⟨"SchemaDesk$Plan", "isReady", "(I)Z"⟩ ∈ GW := gw_p2 (q := (⟨"SchemaDesk$Plan", "isReady", "(I)Z"⟩, 10)) (List.mem_of_getElem? (i := 1) rfl)
theorem gw772 : (Jvm.Cond.code ({ cls := "SchemaDesk$Plan", name := "isReady", desc := "(I)Z" } : Jvm.MethodName) prog_3_method_8_code (4 : Nat) (Option.some Jvm.ClassFile.FieldType.boolean)) ∈ GW := gw_t4 (List.mem_of_getElem? (i := 52) rfl) rfl
theorem gw247 : (Jvm.Cond.fieldLink "SchemaDesk$Plan" (21 : Nat) "SchemaDesk$Plan" "order" "[I") ∈ GW := gw_t2 (List.mem_of_getElem? (i := 7) rfl) rfl
theorem gw254 : (Jvm.Cond.fieldLink "SchemaDesk$Plan" (102 : Nat) "SchemaDesk$Plan" "ordered" "I") ∈ GW := gw_t2 (List.mem_of_getElem? (i := 14) rfl) rfl
def wb_Pl_placeAllReady_0 (F : Nat → Int32 → Sg → Prop) (post : Sg → Prop) (σ : Sg) : Prop := F 1 ((σ.1 0 9) - (1 : Int32)) σ
def wb_Pl_placeAllReady_1 (F : Nat → Int32 → Sg → Prop) (post : Sg → Prop) (x1 : Int32) (σ : Sg) : Prop := ((x1 < 0 → post σ) ∧ (¬ x1 < 0 → (vp_in x1 160 ∧ ((¬ (σ.1 34 x1.toNatClampNeg) = 0 → F 1 (x1 + (-1)) σ) ∧ ((σ.1 34 x1.toNatClampNeg) = 0 → (wq_Pl_isReady x1 σ (fun r1 σ1 => ((r1 = 0 → F 1 (x1 + (-1)) σ1) ∧ (¬ r1 = 0 → (vp_in x1 160 ∧ (∀ σ2, σ2 = si σ1 34 x1.toNatClampNeg (vp_nar .boolean (1 : Int32)) → (vp_in (σ2.1 29 6) 160 ∧ (∀ σ3, σ3 = si σ2 33 ((σ2.1 29 6) : Int32).toNatClampNeg x1 → (∀ σ4, σ4 = si σ3 29 6 ((σ3.1 29 6) + (1 : Int32)) → F 1 (x1 + (-1)) σ4))))))))))))))
def wp_Pl_placeAllReady (post : Sg → Prop) : Nat → Nat → Int32 → Sg → Prop
  | 0, _, _, _ => False
  | n + 1, k, x1, σ => match k with
    | 0 => wb_Pl_placeAllReady_0 (wp_Pl_placeAllReady post n) post σ
    | 1 => wb_Pl_placeAllReady_1 (wp_Pl_placeAllReady post n) post x1 σ
    | _ => False
def wq_Pl_placeAllReady (σ : Sg) (post : Sg → Prop) : Prop := ∃ n, wp_Pl_placeAllReady post n 0 0 σ
def J_Pl_placeAllReady_1 (p : Program) (l : Launch) (e : Env) (s : State) (m : MethodId) (args : Array Value) (below : List Frame) (meth : Method) (c : Code) (D : va_G) (g : Gm) (A : Nat → Prop) (post : Sg → Prop) (F : Nat → Int32 → Sg → Prop) : Prop := ∀ (x1 : Int32) (σ : Sg) (H : Heap) (locs : List Loc) (ls : Array Slot), lv_has ls 2 [(0, .ref (g.1 29)), (1, .int x1)] → Wst D vwCl (WS g) A s σ H locs → F 1 x1 σ → W p l e { frames := 3, cells := 0, slots := 0, locals := 67 } s m args below meth c H locs 0 0 (MQ below (QvW D vwCl (WS g) post A) args s 0 0 A) (F0 m 10 ls [])
set_option maxRecDepth 100000 in
set_option maxHeartbeats 4000000 in
theorem b_Pl_placeAllReady_0 {p : Program} {l : Launch} {e : Env} {s : State} {m : MethodId} {args : Array Value} {below : List Frame} {meth : Method} {c : Code} {D : va_G} {g : Gm} {A : Nat → Prop} {post : Sg → Prop} {F : Nat → Int32 → Sg → Prop} (C : kC p s m args meth c k_Pl_placeAllReady 2 (none) GW R_Pl D vwCl g (Zk g) A) (j1 : J_Pl_placeAllReady_1 p l e s m args below meth c D g A post F) (σ : Sg) (H : Heap) (locs : List Loc) (ls : Array Slot) (hl : lv_has ls 2 [(0, .ref (g.1 29))]) (hst : Wst D vwCl (WS g) A s σ H locs) (h : wb_Pl_placeAllReady_0 F post σ) : W p l e { frames := 3, cells := 0, slots := 0, locals := 67 } s m args below meth c H locs 0 0 (MQ below (QvW D vwCl (WS g) post A) args s 0 0 A) (F0 m 0 ls []) := by
  obtain ⟨hx, hb, hr, hml, hown, hts, hlocks, hK, hZ, hA⟩ := C
  unfold wb_Pl_placeAllReady_0 at h
  refine lv_aload_n hx hb d_Pl_placeAllReady_0 rfl (lv_at hl 0 rfl) ?_
  refine va_get (D := D) (ci := 5) (C := R_Pl) (T := T_Pl) (N := 10) hx hb hts in_Pl hown hK hst.1 29 (WS_o29 g σ) rfl 0 (by decide) (hts _ gw233) (fun _ h9 => h9) rfl d_Pl_placeAllReady_1 ?_
  refine va_get (D := D) (ci := 0) (C := R_Tr) (T := T_Tr) (N := 12) hx hb hts in_Tr hown hK hst.1 0 (WS_o0 g σ) rfl 9 (by decide) (hts _ gw169) (fun _ h9 => h9) rfl d_Pl_placeAllReady_4 ?_
  refine lv_iconst (v := (1 : Int32)) hx hb d_Pl_placeAllReady_7 (by decide) ?_
  refine lv_isub hx hb d_Pl_placeAllReady_8 ?_
  refine lv_istore_n hx hb d_Pl_placeAllReady_9 rfl hl (by decide) rfl (fun ls hl => ?_)
  have hl : lv_has ls 2 [(1, .int ((σ.1 0 9) - (1 : Int32))), (0, .ref (g.1 29))] := hl
  exact j1 ((σ.1 0 9) - (1 : Int32)) σ _ _ _ (lv_sub hl [1, 0] rfl) hst h
set_option maxRecDepth 100000 in
set_option maxHeartbeats 4000000 in
theorem b_Pl_placeAllReady_1 {p : Program} {l : Launch} {e : Env} {s : State} {m : MethodId} {args : Array Value} {below : List Frame} {meth : Method} {c : Code} {D : va_G} {g : Gm} {A : Nat → Prop} {post : Sg → Prop} {F : Nat → Int32 → Sg → Prop} (C : kC p s m args meth c k_Pl_placeAllReady 2 (none) GW R_Pl D vwCl g (Zk g) A) (j1 : J_Pl_placeAllReady_1 p l e s m args below meth c D g A post F) (x1 : Int32) (σ : Sg) (H : Heap) (locs : List Loc) (ls : Array Slot) (hl : lv_has ls 2 [(0, .ref (g.1 29)), (1, .int x1)]) (hst : Wst D vwCl (WS g) A s σ H locs) (h : wb_Pl_placeAllReady_1 F post x1 σ) : W p l e { frames := 3, cells := 0, slots := 0, locals := 67 } s m args below meth c H locs 0 0 (MQ below (QvW D vwCl (WS g) post A) args s 0 0 A) (F0 m 10 ls []) := by
  obtain ⟨hx, hb, hr, hml, hown, hts, hlocks, hK, hZ, hA⟩ := C
  unfold wb_Pl_placeAllReady_1 at h
  refine lv_iload_n hx hb d_Pl_placeAllReady_10 rfl (lv_at hl 1 rfl) ?_
  refine lv_if_lt (tgt := 64) hx hb d_Pl_placeAllReady_11 (by decide) (fun hc => ?_) (fun hc => ?_)
  · replace h := h.1 hc
    exact kw_vret hx hb hr hlocks hst h d_Pl_placeAllReady_64
  · replace h := h.2 hc
    refine lv_aload_n hx hb d_Pl_placeAllReady_14 rfl (lv_at hl 0 rfl) ?_
    refine va_get (D := D) (ci := 5) (C := R_Pl) (T := T_Pl) (N := 10) hx hb hts in_Pl hown hK hst.1 29 (WS_o29 g σ) rfl 9 (by decide) (hts _ gw259) (fun _ h9 => h9) rfl d_Pl_placeAllReady_15 ?_
    refine lv_iload_n hx hb d_Pl_placeAllReady_18 rfl (lv_at hl 1 rfl) ?_
    obtain ⟨hi, h⟩ := h
    refine va_zald hx hb hK hst.1 34 2 (WS_a34 g σ) rfl hi d_Pl_placeAllReady_19 ?_
    refine lv_if_ne (tgt := 58) hx hb d_Pl_placeAllReady_20 (by decide) (fun hc => ?_) (fun hc => ?_)
    · replace h := h.1 hc
      refine lv_iinc (k := 1) (v := (x1 + (-1))) hx hb d_Pl_placeAllReady_58 hl rfl (kw_inc _ (by decide)) (by decide) rfl (fun ls hl => ?_)
      have hl : lv_has ls 2 [(1, .int (x1 + (-1))), (0, .ref (g.1 29))] := hl
      refine lv_goto (tgt := 10) hx hb d_Pl_placeAllReady_61 (by decide) ?_
      exact j1 (x1 + (-1)) σ _ _ _ (lv_sub hl [1, 0] rfl) hst h
    · replace h := h.2 hc
      refine lv_aload_n hx hb d_Pl_placeAllReady_23 rfl (lv_at hl 0 rfl) ?_
      refine lv_iload_n hx hb d_Pl_placeAllReady_24 rfl (lv_at hl 1 rfl) ?_
      refine kw_calli (va_runV (As := [.int x1]) (rest := []) (b := g.1 29) ⟨hx, hb, hml, hown, hts⟩ (c_Pl_isReady l x1 h) (cwV 1 hts (gd_v gw769 gw771 gs17 gw10 gw772) rfl rfl rfl (by decide +kernel) ⟨Nat.le_of_ble_eq_true rfl, Nat.le_of_ble_eq_true rfl⟩) ⟨kw_blind (Zk_ok g), va_recv hK hst.1 rfl (WS_o29 g σ), kw_pre (Zk_ok g) hK hZ hA hst⟩ rfl rfl hl.1 rfl (lv_room (Nat.le_of_ble_eq_true rfl)) d_Pl_placeAllReady_25 ⟨Nat.le_of_ble_eq_true rfl, Nat.le_of_ble_eq_true rfl⟩) hst hA (fun r1 σ1 H locs h hst => ?_)
      refine lv_if_eq (tgt := 58) hx hb d_Pl_placeAllReady_28 (by decide) (fun hc => ?_) (fun hc => ?_)
      · replace h := h.1 hc
        refine lv_iinc (k := 1) (v := (x1 + (-1))) hx hb d_Pl_placeAllReady_58 hl rfl (kw_inc _ (by decide)) (by decide) rfl (fun ls hl => ?_)
        have hl : lv_has ls 2 [(1, .int (x1 + (-1))), (0, .ref (g.1 29))] := hl
        refine lv_goto (tgt := 10) hx hb d_Pl_placeAllReady_61 (by decide) ?_
        exact j1 (x1 + (-1)) σ1 _ _ _ (lv_sub hl [1, 0] rfl) hst h
      · replace h := h.2 hc
        refine lv_aload_n hx hb d_Pl_placeAllReady_31 rfl (lv_at hl 0 rfl) ?_
        refine va_get (D := D) (ci := 5) (C := R_Pl) (T := T_Pl) (N := 10) hx hb hts in_Pl hown hK hst.1 29 (WS_o29 g σ1) rfl 9 (by decide) (hts _ gw259) (fun _ h9 => h9) rfl d_Pl_placeAllReady_32 ?_
        refine lv_iload_n hx hb d_Pl_placeAllReady_35 rfl (lv_at hl 1 rfl) ?_
        refine lv_iconst (v := (1 : Int32)) hx hb d_Pl_placeAllReady_36 (by decide) ?_
        obtain ⟨hi, h⟩ := h
        refine kw_zast hx hb hK hst 34 (WS_a34 g σ1) hi (WS_s34 g σ1 _ _) d_Pl_placeAllReady_37 (fun σ2 H locs e2 hst => ?_)
        replace h := h σ2 e2
        refine lv_aload_n hx hb d_Pl_placeAllReady_38 rfl (lv_at hl 0 rfl) ?_
        refine va_get (D := D) (ci := 5) (C := R_Pl) (T := T_Pl) (N := 10) hx hb hts in_Pl hown hK hst.1 29 (WS_o29 g σ2) rfl 5 (by decide) (hts _ gw247) (fun _ h9 => h9) rfl d_Pl_placeAllReady_39 ?_
        refine lv_aload_n hx hb d_Pl_placeAllReady_42 rfl (lv_at hl 0 rfl) ?_
        refine va_get (D := D) (ci := 5) (C := R_Pl) (T := T_Pl) (N := 10) hx hb hts in_Pl hown hK hst.1 29 (WS_o29 g σ2) rfl 6 (by decide) (hts _ gw254) (fun _ h9 => h9) rfl d_Pl_placeAllReady_43 ?_
        refine lv_iload_n hx hb d_Pl_placeAllReady_46 rfl (lv_at hl 1 rfl) ?_
        obtain ⟨hi, h⟩ := h
        refine kw_iast hx hb hK hst 33 (WS_a33 g σ2) hi (WS_s33 g σ2 _ _) d_Pl_placeAllReady_47 (fun σ3 H locs e3 hst => ?_)
        replace h := h σ3 e3
        refine lv_aload_n hx hb d_Pl_placeAllReady_48 rfl (lv_at hl 0 rfl) ?_
        refine lv_dup hx hb d_Pl_placeAllReady_49 rfl ?_
        refine va_get (D := D) (ci := 5) (C := R_Pl) (T := T_Pl) (N := 10) hx hb hts in_Pl hown hK hst.1 29 (WS_o29 g σ3) rfl 6 (by decide) (hts _ gw254) (fun _ h9 => h9) rfl d_Pl_placeAllReady_50 ?_
        refine lv_iconst (v := (1 : Int32)) hx hb d_Pl_placeAllReady_53 (by decide) ?_
        refine lv_iadd hx hb d_Pl_placeAllReady_54 ?_
        refine kw_put (D := D) (ci := 5) (ty := .int) (C := R_Pl) (T := T_Pl) (N := 10) hx hb hts in_Pl ty_Pl ty_Pl_ok nm_Pl hown hK hst 29 (WS_o29 g σ3) rfl 6 (by decide) (hts _ gw254) (fun _ h9 => h9) rfl (by decide +kernel) rfl rfl (Nat.le_of_ble_eq_true rfl) (WS_p29_6 g σ3 _) d_Pl_placeAllReady_55 (fun σ4 H locs e4 hst => ?_)
        replace h := h σ4 e4
        refine lv_iinc (k := 1) (v := (x1 + (-1))) hx hb d_Pl_placeAllReady_58 hl rfl (kw_inc _ (by decide)) (by decide) rfl (fun ls hl => ?_)
        have hl : lv_has ls 2 [(1, .int (x1 + (-1))), (0, .ref (g.1 29))] := hl
        refine lv_goto (tgt := 10) hx hb d_Pl_placeAllReady_61 (by decide) ?_
        exact j1 (x1 + (-1)) σ4 _ _ _ (lv_sub hl [1, 0] rfl) hst h
set_option maxRecDepth 100000 in
set_option maxHeartbeats 4000000 in
theorem a_Pl_placeAllReady {p : Program} {l : Launch} {e : Env} {s : State} {m : MethodId} {args : Array Value} {below : List Frame} {meth : Method} {c : Code} {D : va_G} {g : Gm} {A : Nat → Prop} {post : Sg → Prop} (C : kC p s m args meth c k_Pl_placeAllReady 2 (none) GW R_Pl D vwCl g (Zk g) A) : ∀ n : Nat, J_Pl_placeAllReady_1 p l e s m args below meth c D g A post (wp_Pl_placeAllReady post n) := by
  intro n
  induction n with
  | zero => exact fun _ _ _ _ _ _ _ h => h.elim
  | succ n ih => exact fun x1 σ H locs ls hl hst h => b_Pl_placeAllReady_1 (F := wp_Pl_placeAllReady post n) C (ih) x1 σ H locs ls hl hst h
set_option maxRecDepth 100000 in
set_option maxHeartbeats 4000000 in
theorem c_Pl_placeAllReady (l : Launch) {D : va_G} {g : Gm} {sz : Nat} {σ : Sg} {post : Sg → Prop} (h : wq_Pl_placeAllReady σ post) : Met l y_Pl_placeAllReady (.code y_Pl_placeAllReady k_Pl_placeAllReady 2 (none) :: GW) { frames := 3, cells := 0, slots := 0, locals := 67 } (PcW D vwCl (WS g) g (Zk g) σ sz [.ref (g.1 29)]) (QvW D vwCl (WS g) post (va_A (WS g σ) sz)) 0 0 (va_A (WS g σ) sz) := by
  refine kw_entry (own := R_Pl) (by decide) rfl rfl (Nat.le_of_ble_eq_true rfl) ?_
  intro p e s m below meth c ls hsz C hin hl hst
  obtain ⟨n, h⟩ := h
  cases n with
  | zero => exact h.elim
  | succ n =>
    have ih := a_Pl_placeAllReady (l := l) (e := e) (below := below) (post := post) C n
    exact b_Pl_placeAllReady_0 (F := wp_Pl_placeAllReady post n) C (ih) σ _ _ ls hl hst h
/-! SchemaDesk$Plan.arrange ()V -/
abbrev k_Pl_arrange : ByteArray := prog_3_method_6_code
abbrev y_Pl_arrange : MethodName := ⟨"SchemaDesk$Plan", "arrange", "()V"⟩
theorem d_Pl_arrange_0 : decode k_Pl_arrange 0 = .ok (.aload_n 0, 1) := by decide +kernel
theorem d_Pl_arrange_1 : decode k_Pl_arrange 1 = .ok (.iconst 0, 1) := by decide +kernel
theorem d_Pl_arrange_2 : decode k_Pl_arrange 2 = .ok (.putfield 102, 3) := by decide +kernel
theorem d_Pl_arrange_5 : decode k_Pl_arrange 5 = .ok (.iconst 0, 1) := by decide +kernel
theorem d_Pl_arrange_6 : decode k_Pl_arrange 6 = .ok (.istore_n 1, 1) := by decide +kernel
theorem d_Pl_arrange_7 : decode k_Pl_arrange 7 = .ok (.iconst 0, 1) := by decide +kernel
theorem d_Pl_arrange_8 : decode k_Pl_arrange 8 = .ok (.istore_n 2, 1) := by decide +kernel
theorem d_Pl_arrange_9 : decode k_Pl_arrange 9 = .ok (.iload_n 2, 1) := by decide +kernel
theorem d_Pl_arrange_10 : decode k_Pl_arrange 10 = .ok (.aload_n 0, 1) := by decide +kernel
theorem d_Pl_arrange_11 : decode k_Pl_arrange 11 = .ok (.getfield 28, 3) := by decide +kernel
theorem d_Pl_arrange_14 : decode k_Pl_arrange 14 = .ok (.getfield 40, 3) := by decide +kernel
theorem d_Pl_arrange_17 : decode k_Pl_arrange 17 = .ok (.if_icmp .ge 56, 3) := by decide +kernel
theorem d_Pl_arrange_20 : decode k_Pl_arrange 20 = .ok (.aload_n 0, 1) := by decide +kernel
theorem d_Pl_arrange_21 : decode k_Pl_arrange 21 = .ok (.getfield 28, 3) := by decide +kernel
theorem d_Pl_arrange_24 : decode k_Pl_arrange 24 = .ok (.getfield 57, 3) := by decide +kernel
theorem d_Pl_arrange_27 : decode k_Pl_arrange 27 = .ok (.iload_n 2, 1) := by decide +kernel
theorem d_Pl_arrange_28 : decode k_Pl_arrange 28 = .ok (.iaload, 1) := by decide +kernel
theorem d_Pl_arrange_29 : decode k_Pl_arrange 29 = .ok (.bipush 6, 2) := by decide +kernel
theorem d_Pl_arrange_31 : decode k_Pl_arrange 31 = .ok (.if_icmp .ne 7, 3) := by decide +kernel
theorem d_Pl_arrange_34 : decode k_Pl_arrange 34 = .ok (.iconst 1, 1) := by decide +kernel
theorem d_Pl_arrange_35 : decode k_Pl_arrange 35 = .ok (.goto 4, 3) := by decide +kernel
theorem d_Pl_arrange_38 : decode k_Pl_arrange 38 = .ok (.iconst 0, 1) := by decide +kernel
theorem d_Pl_arrange_39 : decode k_Pl_arrange 39 = .ok (.istore_n 3, 1) := by decide +kernel
theorem d_Pl_arrange_40 : decode k_Pl_arrange 40 = .ok (.aload_n 0, 1) := by decide +kernel
theorem d_Pl_arrange_41 : decode k_Pl_arrange 41 = .ok (.getfield 24, 3) := by decide +kernel
theorem d_Pl_arrange_44 : decode k_Pl_arrange 44 = .ok (.iload_n 2, 1) := by decide +kernel
theorem d_Pl_arrange_45 : decode k_Pl_arrange 45 = .ok (.iload_n 3, 1) := by decide +kernel
theorem d_Pl_arrange_46 : decode k_Pl_arrange 46 = .ok (.ifCond .ne 7, 3) := by decide +kernel
theorem d_Pl_arrange_49 : decode k_Pl_arrange 49 = .ok (.iconst 1, 1) := by decide +kernel
theorem d_Pl_arrange_50 : decode k_Pl_arrange 50 = .ok (.goto 4, 3) := by decide +kernel
theorem d_Pl_arrange_53 : decode k_Pl_arrange 53 = .ok (.iconst 0, 1) := by decide +kernel
theorem d_Pl_arrange_54 : decode k_Pl_arrange 54 = .ok (.bastore, 1) := by decide +kernel
theorem d_Pl_arrange_55 : decode k_Pl_arrange 55 = .ok (.iload_n 1, 1) := by decide +kernel
theorem d_Pl_arrange_56 : decode k_Pl_arrange 56 = .ok (.iload_n 3, 1) := by decide +kernel
theorem d_Pl_arrange_57 : decode k_Pl_arrange 57 = .ok (.ifCond .eq 7, 3) := by decide +kernel
theorem d_Pl_arrange_60 : decode k_Pl_arrange 60 = .ok (.iconst 1, 1) := by decide +kernel
theorem d_Pl_arrange_61 : decode k_Pl_arrange 61 = .ok (.goto 4, 3) := by decide +kernel
theorem d_Pl_arrange_64 : decode k_Pl_arrange 64 = .ok (.iconst 0, 1) := by decide +kernel
theorem d_Pl_arrange_65 : decode k_Pl_arrange 65 = .ok (.iadd, 1) := by decide +kernel
theorem d_Pl_arrange_66 : decode k_Pl_arrange 66 = .ok (.istore_n 1, 1) := by decide +kernel
theorem d_Pl_arrange_67 : decode k_Pl_arrange 67 = .ok (.iinc 2 1, 3) := by decide +kernel
theorem d_Pl_arrange_70 : decode k_Pl_arrange 70 = .ok (.goto (-61), 3) := by decide +kernel
theorem d_Pl_arrange_73 : decode k_Pl_arrange 73 = .ok (.iconst (-1), 1) := by decide +kernel
theorem d_Pl_arrange_74 : decode k_Pl_arrange 74 = .ok (.istore_n 2, 1) := by decide +kernel
theorem d_Pl_arrange_75 : decode k_Pl_arrange 75 = .ok (.iconst 0, 1) := by decide +kernel
theorem d_Pl_arrange_76 : decode k_Pl_arrange 76 = .ok (.istore_n 3, 1) := by decide +kernel
theorem d_Pl_arrange_77 : decode k_Pl_arrange 77 = .ok (.iload_n 3, 1) := by decide +kernel
theorem d_Pl_arrange_78 : decode k_Pl_arrange 78 = .ok (.iload_n 1, 1) := by decide +kernel
theorem d_Pl_arrange_79 : decode k_Pl_arrange 79 = .ok (.if_icmp .gt 26, 3) := by decide +kernel
theorem d_Pl_arrange_82 : decode k_Pl_arrange 82 = .ok (.aload_n 0, 1) := by decide +kernel
theorem d_Pl_arrange_83 : decode k_Pl_arrange 83 = .ok (.getfield 102, 3) := by decide +kernel
theorem d_Pl_arrange_86 : decode k_Pl_arrange 86 = .ok (.iload_n 2, 1) := by decide +kernel
theorem d_Pl_arrange_87 : decode k_Pl_arrange 87 = .ok (.if_icmp .le 18, 3) := by decide +kernel
theorem d_Pl_arrange_90 : decode k_Pl_arrange 90 = .ok (.aload_n 0, 1) := by decide +kernel
theorem d_Pl_arrange_91 : decode k_Pl_arrange 91 = .ok (.getfield 102, 3) := by decide +kernel
theorem d_Pl_arrange_94 : decode k_Pl_arrange 94 = .ok (.istore_n 2, 1) := by decide +kernel
theorem d_Pl_arrange_95 : decode k_Pl_arrange 95 = .ok (.aload_n 0, 1) := by decide +kernel
theorem d_Pl_arrange_96 : decode k_Pl_arrange 96 = .ok (.invokevirtual 105, 3) := by decide +kernel
theorem d_Pl_arrange_99 : decode k_Pl_arrange 99 = .ok (.iinc 3 1, 3) := by decide +kernel
theorem d_Pl_arrange_102 : decode k_Pl_arrange 102 = .ok (.goto (-25), 3) := by decide +kernel
theorem d_Pl_arrange_105 : decode k_Pl_arrange 105 = .ok (.aload_n 0, 1) := by decide +kernel
theorem d_Pl_arrange_106 : decode k_Pl_arrange 106 = .ok (.aload_n 0, 1) := by decide +kernel
theorem d_Pl_arrange_107 : decode k_Pl_arrange 107 = .ok (.getfield 102, 3) := by decide +kernel
theorem d_Pl_arrange_110 : decode k_Pl_arrange 110 = .ok (.iload_n 1, 1) := by decide +kernel
theorem d_Pl_arrange_111 : decode k_Pl_arrange 111 = .ok (.if_icmp .ge 7, 3) := by decide +kernel
theorem d_Pl_arrange_114 : decode k_Pl_arrange 114 = .ok (.iconst 1, 1) := by decide +kernel
theorem d_Pl_arrange_115 : decode k_Pl_arrange 115 = .ok (.goto 4, 3) := by decide +kernel
theorem d_Pl_arrange_118 : decode k_Pl_arrange 118 = .ok (.iconst 0, 1) := by decide +kernel
theorem d_Pl_arrange_119 : decode k_Pl_arrange 119 = .ok (.putfield 108, 3) := by decide +kernel
theorem d_Pl_arrange_122 : decode k_Pl_arrange 122 = .ok (.return_, 1) := by decide +kernel
theorem gw765 : (Jvm.Cond.methodLink "SchemaDesk$Plan" (105 : Nat) ({ cls := "SchemaDesk$Plan", name := "placeAllReady", desc := "()V" } : Jvm.MethodName)) ∈ GW := gw_t4 (List.mem_of_getElem? (i := 45) rfl) rfl
theorem gw767 : (Jvm.Cond.instanceMethod ({ cls := "SchemaDesk$Plan", name := "placeAllReady", desc := "()V" } : Jvm.MethodName)) ∈ GW := gw_t4 (List.mem_of_getElem? (i := 47) rfl) rfl
theorem gs16 : Cond.selects "SchemaDesk$Plan" ⟨"SchemaDesk$Plan", "placeAllReady", "()V"⟩ ⟨"SchemaDesk$Plan", "placeAllReady", "()V"⟩ ∈ GW := gw_p2 (q := (⟨"SchemaDesk$Plan", "placeAllReady", "()V"⟩, 10)) (List.mem_of_getElem? (i := 0) rfl)
theorem gw768 : (Jvm.Cond.code ({ cls := "SchemaDesk$Plan", name := "placeAllReady", desc := "()V" } : Jvm.MethodName) prog_3_method_7_code (2 : Nat) (Option.none : Option Jvm.ClassFile.FieldType)) ∈ GW := gw_t4 (List.mem_of_getElem? (i := 48) rfl) rfl
theorem gw255 : (Jvm.Cond.fieldLink "SchemaDesk$Plan" (108 : Nat) "SchemaDesk$Plan" "circular" "Z") ∈ GW := gw_t2 (List.mem_of_getElem? (i := 15) rfl) rfl
def wb_Pl_arrange_0 (F : Nat → Int32 → Int32 → Int32 → Sg → Prop) (post : Sg → Prop) (σ : Sg) : Prop := (∀ σ1, σ1 = si σ 29 6 (0 : Int32) → F 1 (0 : Int32) (0 : Int32) 0 σ1)
def wb_Pl_arrange_1 (F : Nat → Int32 → Int32 → Int32 → Sg → Prop) (post : Sg → Prop) (x1 : Int32) (x2 : Int32) (σ : Sg) : Prop := (((σ.1 0 9) ≤ x2 → F 2 x1 (-1 : Int32) (0 : Int32) σ) ∧ (¬ (σ.1 0 9) ≤ x2 → (vp_in x2 160 ∧ ((¬ (σ.1 1 x2.toNatClampNeg) = (6 : Int32) → F 3 x1 x2 (0 : Int32) σ) ∧ ((σ.1 1 x2.toNatClampNeg) = (6 : Int32) → F 3 x1 x2 (1 : Int32) σ)))))
def wb_Pl_arrange_2 (F : Nat → Int32 → Int32 → Int32 → Sg → Prop) (post : Sg → Prop) (x1 : Int32) (x2 : Int32) (x3 : Int32) (σ : Sg) : Prop := ((x1 < x3 → F 5 x1 0 0 σ) ∧ (¬ x1 < x3 → (((σ.1 29 6) ≤ x2 → F 5 x1 0 0 σ) ∧ (¬ (σ.1 29 6) ≤ x2 → (wq_Pl_placeAllReady  σ (fun σ1 => F 2 x1 (σ.1 29 6) (x3 + 1) σ1))))))
def wb_Pl_arrange_3 (F : Nat → Int32 → Int32 → Int32 → Sg → Prop) (post : Sg → Prop) (x1 : Int32) (x2 : Int32) (x3 : Int32) (σ : Sg) : Prop := ((¬ x3 = 0 → (vp_in x2 160 ∧ (∀ σ1, σ1 = si σ 34 x2.toNatClampNeg (vp_nar .boolean (0 : Int32)) → F 4 x1 x2 x3 σ1))) ∧ (x3 = 0 → (vp_in x2 160 ∧ (∀ σ1, σ1 = si σ 34 x2.toNatClampNeg (vp_nar .boolean (1 : Int32)) → F 4 x1 x2 x3 σ1))))
def wb_Pl_arrange_4 (F : Nat → Int32 → Int32 → Int32 → Sg → Prop) (post : Sg → Prop) (x1 : Int32) (x2 : Int32) (x3 : Int32) (σ : Sg) : Prop := ((x3 = 0 → F 1 (x1 + (0 : Int32)) (x2 + 1) 0 σ) ∧ (¬ x3 = 0 → F 1 (x1 + (1 : Int32)) (x2 + 1) 0 σ))
def wb_Pl_arrange_5 (F : Nat → Int32 → Int32 → Int32 → Sg → Prop) (post : Sg → Prop) (x1 : Int32) (σ : Sg) : Prop := ((x1 ≤ (σ.1 29 6) → (narrow .boolean (.int (0 : Int32)) = .int (0 : Int32) ∧ fits .boolean (.int (0 : Int32)) = true ∧ (∀ σ1, σ1 = si σ 29 7 (0 : Int32) → post σ1))) ∧ (¬ x1 ≤ (σ.1 29 6) → (narrow .boolean (.int (1 : Int32)) = .int (1 : Int32) ∧ fits .boolean (.int (1 : Int32)) = true ∧ (∀ σ1, σ1 = si σ 29 7 (1 : Int32) → post σ1))))
def wp_Pl_arrange (post : Sg → Prop) : Nat → Nat → Int32 → Int32 → Int32 → Sg → Prop
  | 0, _, _, _, _, _ => False
  | n + 1, k, x1, x2, x3, σ => match k with
    | 0 => wb_Pl_arrange_0 (wp_Pl_arrange post n) post σ
    | 1 => wb_Pl_arrange_1 (wp_Pl_arrange post n) post x1 x2 σ
    | 2 => wb_Pl_arrange_2 (wp_Pl_arrange post n) post x1 x2 x3 σ
    | 3 => wb_Pl_arrange_3 (wp_Pl_arrange post n) post x1 x2 x3 σ
    | 4 => wb_Pl_arrange_4 (wp_Pl_arrange post n) post x1 x2 x3 σ
    | 5 => wb_Pl_arrange_5 (wp_Pl_arrange post n) post x1 σ
    | _ => False
def wq_Pl_arrange (σ : Sg) (post : Sg → Prop) : Prop := ∃ n, wp_Pl_arrange post n 0 0 0 0 σ
def J_Pl_arrange_1 (p : Program) (l : Launch) (e : Env) (s : State) (m : MethodId) (args : Array Value) (below : List Frame) (meth : Method) (c : Code) (D : va_G) (g : Gm) (A : Nat → Prop) (post : Sg → Prop) (F : Nat → Int32 → Int32 → Int32 → Sg → Prop) : Prop := ∀ (x1 : Int32) (x2 : Int32) (σ : Sg) (H : Heap) (locs : List Loc) (ls : Array Slot), lv_has ls 4 [(0, .ref (g.1 29)), (1, .int x1), (2, .int x2)] → Wst D vwCl (WS g) A s σ H locs → F 1 x1 x2 0 σ → W p l e { frames := 4, cells := 0, slots := 0, locals := 88 } s m args below meth c H locs 0 0 (MQ below (QvW D vwCl (WS g) post A) args s 0 0 A) (F0 m 9 ls [])
def J_Pl_arrange_2 (p : Program) (l : Launch) (e : Env) (s : State) (m : MethodId) (args : Array Value) (below : List Frame) (meth : Method) (c : Code) (D : va_G) (g : Gm) (A : Nat → Prop) (post : Sg → Prop) (F : Nat → Int32 → Int32 → Int32 → Sg → Prop) : Prop := ∀ (x1 : Int32) (x2 : Int32) (x3 : Int32) (σ : Sg) (H : Heap) (locs : List Loc) (ls : Array Slot), lv_has ls 4 [(0, .ref (g.1 29)), (1, .int x1), (2, .int x2), (3, .int x3)] → Wst D vwCl (WS g) A s σ H locs → F 2 x1 x2 x3 σ → W p l e { frames := 4, cells := 0, slots := 0, locals := 88 } s m args below meth c H locs 0 0 (MQ below (QvW D vwCl (WS g) post A) args s 0 0 A) (F0 m 77 ls [])
def J_Pl_arrange_3 (p : Program) (l : Launch) (e : Env) (s : State) (m : MethodId) (args : Array Value) (below : List Frame) (meth : Method) (c : Code) (D : va_G) (g : Gm) (A : Nat → Prop) (post : Sg → Prop) (F : Nat → Int32 → Int32 → Int32 → Sg → Prop) : Prop := ∀ (x1 : Int32) (x2 : Int32) (x3 : Int32) (σ : Sg) (H : Heap) (locs : List Loc) (ls : Array Slot), lv_has ls 4 [(0, .ref (g.1 29)), (1, .int x1), (2, .int x2), (3, .int x3)] → Wst D vwCl (WS g) A s σ H locs → F 3 x1 x2 x3 σ → W p l e { frames := 4, cells := 0, slots := 0, locals := 88 } s m args below meth c H locs 0 0 (MQ below (QvW D vwCl (WS g) post A) args s 0 0 A) (F0 m 40 ls [])
def J_Pl_arrange_4 (p : Program) (l : Launch) (e : Env) (s : State) (m : MethodId) (args : Array Value) (below : List Frame) (meth : Method) (c : Code) (D : va_G) (g : Gm) (A : Nat → Prop) (post : Sg → Prop) (F : Nat → Int32 → Int32 → Int32 → Sg → Prop) : Prop := ∀ (x1 : Int32) (x2 : Int32) (x3 : Int32) (σ : Sg) (H : Heap) (locs : List Loc) (ls : Array Slot), lv_has ls 4 [(0, .ref (g.1 29)), (1, .int x1), (2, .int x2), (3, .int x3)] → Wst D vwCl (WS g) A s σ H locs → F 4 x1 x2 x3 σ → W p l e { frames := 4, cells := 0, slots := 0, locals := 88 } s m args below meth c H locs 0 0 (MQ below (QvW D vwCl (WS g) post A) args s 0 0 A) (F0 m 55 ls [])
def J_Pl_arrange_5 (p : Program) (l : Launch) (e : Env) (s : State) (m : MethodId) (args : Array Value) (below : List Frame) (meth : Method) (c : Code) (D : va_G) (g : Gm) (A : Nat → Prop) (post : Sg → Prop) (F : Nat → Int32 → Int32 → Int32 → Sg → Prop) : Prop := ∀ (x1 : Int32) (σ : Sg) (H : Heap) (locs : List Loc) (ls : Array Slot), lv_has ls 4 [(0, .ref (g.1 29)), (1, .int x1)] → Wst D vwCl (WS g) A s σ H locs → F 5 x1 0 0 σ → W p l e { frames := 4, cells := 0, slots := 0, locals := 88 } s m args below meth c H locs 0 0 (MQ below (QvW D vwCl (WS g) post A) args s 0 0 A) (F0 m 105 ls [])
set_option maxRecDepth 100000 in
set_option maxHeartbeats 4000000 in
theorem b_Pl_arrange_0 {p : Program} {l : Launch} {e : Env} {s : State} {m : MethodId} {args : Array Value} {below : List Frame} {meth : Method} {c : Code} {D : va_G} {g : Gm} {A : Nat → Prop} {post : Sg → Prop} {F : Nat → Int32 → Int32 → Int32 → Sg → Prop} (C : kC p s m args meth c k_Pl_arrange 4 (none) GW R_Pl D vwCl g (Zk g) A) (j1 : J_Pl_arrange_1 p l e s m args below meth c D g A post F) (σ : Sg) (H : Heap) (locs : List Loc) (ls : Array Slot) (hl : lv_has ls 4 [(0, .ref (g.1 29))]) (hst : Wst D vwCl (WS g) A s σ H locs) (h : wb_Pl_arrange_0 F post σ) : W p l e { frames := 4, cells := 0, slots := 0, locals := 88 } s m args below meth c H locs 0 0 (MQ below (QvW D vwCl (WS g) post A) args s 0 0 A) (F0 m 0 ls []) := by
  obtain ⟨hx, hb, hr, hml, hown, hts, hlocks, hK, hZ, hA⟩ := C
  unfold wb_Pl_arrange_0 at h
  refine lv_aload_n hx hb d_Pl_arrange_0 rfl (lv_at hl 0 rfl) ?_
  refine lv_iconst (v := (0 : Int32)) hx hb d_Pl_arrange_1 (by decide) ?_
  refine kw_put (D := D) (ci := 5) (ty := .int) (C := R_Pl) (T := T_Pl) (N := 10) hx hb hts in_Pl ty_Pl ty_Pl_ok nm_Pl hown hK hst 29 (WS_o29 g σ) rfl 6 (by decide) (hts _ gw254) (fun _ h9 => h9) rfl (by decide +kernel) rfl rfl (Nat.le_of_ble_eq_true rfl) (WS_p29_6 g σ _) d_Pl_arrange_2 (fun σ1 H locs e1 hst => ?_)
  replace h := h σ1 e1
  refine lv_iconst (v := (0 : Int32)) hx hb d_Pl_arrange_5 (by decide) ?_
  refine lv_istore_n hx hb d_Pl_arrange_6 rfl hl (by decide) rfl (fun ls hl => ?_)
  have hl : lv_has ls 4 [(1, .int (0 : Int32)), (0, .ref (g.1 29))] := hl
  refine lv_iconst (v := (0 : Int32)) hx hb d_Pl_arrange_7 (by decide) ?_
  refine lv_istore_n hx hb d_Pl_arrange_8 rfl hl (by decide) rfl (fun ls hl => ?_)
  have hl : lv_has ls 4 [(2, .int (0 : Int32)), (1, .int (0 : Int32)), (0, .ref (g.1 29))] := hl
  exact j1 (0 : Int32) (0 : Int32) σ1 _ _ _ (lv_sub hl [2, 1, 0] rfl) hst h
set_option maxRecDepth 100000 in
set_option maxHeartbeats 4000000 in
theorem b_Pl_arrange_1 {p : Program} {l : Launch} {e : Env} {s : State} {m : MethodId} {args : Array Value} {below : List Frame} {meth : Method} {c : Code} {D : va_G} {g : Gm} {A : Nat → Prop} {post : Sg → Prop} {F : Nat → Int32 → Int32 → Int32 → Sg → Prop} (C : kC p s m args meth c k_Pl_arrange 4 (none) GW R_Pl D vwCl g (Zk g) A) (j2 : J_Pl_arrange_2 p l e s m args below meth c D g A post F) (j3 : J_Pl_arrange_3 p l e s m args below meth c D g A post F) (x1 : Int32) (x2 : Int32) (σ : Sg) (H : Heap) (locs : List Loc) (ls : Array Slot) (hl : lv_has ls 4 [(0, .ref (g.1 29)), (1, .int x1), (2, .int x2)]) (hst : Wst D vwCl (WS g) A s σ H locs) (h : wb_Pl_arrange_1 F post x1 x2 σ) : W p l e { frames := 4, cells := 0, slots := 0, locals := 88 } s m args below meth c H locs 0 0 (MQ below (QvW D vwCl (WS g) post A) args s 0 0 A) (F0 m 9 ls []) := by
  obtain ⟨hx, hb, hr, hml, hown, hts, hlocks, hK, hZ, hA⟩ := C
  unfold wb_Pl_arrange_1 at h
  refine lv_iload_n hx hb d_Pl_arrange_9 rfl (lv_at hl 2 rfl) ?_
  refine lv_aload_n hx hb d_Pl_arrange_10 rfl (lv_at hl 0 rfl) ?_
  refine va_get (D := D) (ci := 5) (C := R_Pl) (T := T_Pl) (N := 10) hx hb hts in_Pl hown hK hst.1 29 (WS_o29 g σ) rfl 0 (by decide) (hts _ gw233) (fun _ h9 => h9) rfl d_Pl_arrange_11 ?_
  refine va_get (D := D) (ci := 0) (C := R_Tr) (T := T_Tr) (N := 12) hx hb hts in_Tr hown hK hst.1 0 (WS_o0 g σ) rfl 9 (by decide) (hts _ gw169) (fun _ h9 => h9) rfl d_Pl_arrange_14 ?_
  refine lv_icmp_ge (tgt := 73) hx hb d_Pl_arrange_17 (by decide) (fun hc => ?_) (fun hc => ?_)
  · replace h := h.1 hc
    refine lv_iconst (v := (-1 : Int32)) hx hb d_Pl_arrange_73 (by decide) ?_
    refine lv_istore_n hx hb d_Pl_arrange_74 rfl hl (by decide) rfl (fun ls hl => ?_)
    have hl : lv_has ls 4 [(2, .int (-1 : Int32)), (0, .ref (g.1 29)), (1, .int x1)] := hl
    refine lv_iconst (v := (0 : Int32)) hx hb d_Pl_arrange_75 (by decide) ?_
    refine lv_istore_n hx hb d_Pl_arrange_76 rfl hl (by decide) rfl (fun ls hl => ?_)
    have hl : lv_has ls 4 [(3, .int (0 : Int32)), (2, .int (-1 : Int32)), (0, .ref (g.1 29)), (1, .int x1)] := hl
    exact j2 x1 (-1 : Int32) (0 : Int32) σ _ _ _ (lv_sub hl [2, 3, 1, 0] rfl) hst h
  · replace h := h.2 hc
    refine lv_aload_n hx hb d_Pl_arrange_20 rfl (lv_at hl 0 rfl) ?_
    refine va_get (D := D) (ci := 5) (C := R_Pl) (T := T_Pl) (N := 10) hx hb hts in_Pl hown hK hst.1 29 (WS_o29 g σ) rfl 0 (by decide) (hts _ gw233) (fun _ h9 => h9) rfl d_Pl_arrange_21 ?_
    refine va_get (D := D) (ci := 0) (C := R_Tr) (T := T_Tr) (N := 12) hx hb hts in_Tr hown hK hst.1 0 (WS_o0 g σ) rfl 1 (by decide) (hts _ gw132) (fun _ h9 => h9) rfl d_Pl_arrange_24 ?_
    refine lv_iload_n hx hb d_Pl_arrange_27 rfl (lv_at hl 2 rfl) ?_
    obtain ⟨hi, h⟩ := h
    refine va_iald hx hb hK hst.1 1 0 (WS_a1 g σ) rfl hi d_Pl_arrange_28 ?_
    refine lv_bipush (v := (6 : Int32)) hx hb d_Pl_arrange_29 (by decide) ?_
    refine lv_icmp_ne (tgt := 38) hx hb d_Pl_arrange_31 (by decide) (fun hc => ?_) (fun hc => ?_)
    · replace h := h.1 hc
      refine lv_iconst (v := (0 : Int32)) hx hb d_Pl_arrange_38 (by decide) ?_
      refine lv_istore_n hx hb d_Pl_arrange_39 rfl hl (by decide) rfl (fun ls hl => ?_)
      have hl : lv_has ls 4 [(3, .int (0 : Int32)), (0, .ref (g.1 29)), (1, .int x1), (2, .int x2)] := hl
      exact j3 x1 x2 (0 : Int32) σ _ _ _ (lv_sub hl [1, 2, 3, 0] rfl) hst h
    · replace h := h.2 hc
      refine lv_iconst (v := (1 : Int32)) hx hb d_Pl_arrange_34 (by decide) ?_
      refine lv_goto (tgt := 39) hx hb d_Pl_arrange_35 (by decide) ?_
      refine lv_istore_n hx hb d_Pl_arrange_39 rfl hl (by decide) rfl (fun ls hl => ?_)
      have hl : lv_has ls 4 [(3, .int (1 : Int32)), (0, .ref (g.1 29)), (1, .int x1), (2, .int x2)] := hl
      exact j3 x1 x2 (1 : Int32) σ _ _ _ (lv_sub hl [1, 2, 3, 0] rfl) hst h
set_option maxRecDepth 100000 in
set_option maxHeartbeats 4000000 in
theorem b_Pl_arrange_2 {p : Program} {l : Launch} {e : Env} {s : State} {m : MethodId} {args : Array Value} {below : List Frame} {meth : Method} {c : Code} {D : va_G} {g : Gm} {A : Nat → Prop} {post : Sg → Prop} {F : Nat → Int32 → Int32 → Int32 → Sg → Prop} (C : kC p s m args meth c k_Pl_arrange 4 (none) GW R_Pl D vwCl g (Zk g) A) (j2 : J_Pl_arrange_2 p l e s m args below meth c D g A post F) (j5 : J_Pl_arrange_5 p l e s m args below meth c D g A post F) (x1 : Int32) (x2 : Int32) (x3 : Int32) (σ : Sg) (H : Heap) (locs : List Loc) (ls : Array Slot) (hl : lv_has ls 4 [(0, .ref (g.1 29)), (1, .int x1), (2, .int x2), (3, .int x3)]) (hst : Wst D vwCl (WS g) A s σ H locs) (h : wb_Pl_arrange_2 F post x1 x2 x3 σ) : W p l e { frames := 4, cells := 0, slots := 0, locals := 88 } s m args below meth c H locs 0 0 (MQ below (QvW D vwCl (WS g) post A) args s 0 0 A) (F0 m 77 ls []) := by
  obtain ⟨hx, hb, hr, hml, hown, hts, hlocks, hK, hZ, hA⟩ := C
  unfold wb_Pl_arrange_2 at h
  refine lv_iload_n hx hb d_Pl_arrange_77 rfl (lv_at hl 3 rfl) ?_
  refine lv_iload_n hx hb d_Pl_arrange_78 rfl (lv_at hl 1 rfl) ?_
  refine lv_icmp_gt (tgt := 105) hx hb d_Pl_arrange_79 (by decide) (fun hc => ?_) (fun hc => ?_)
  · replace h := h.1 hc
    exact j5 x1 σ _ _ _ (lv_sub hl [0, 1] rfl) hst h
  · replace h := h.2 hc
    refine lv_aload_n hx hb d_Pl_arrange_82 rfl (lv_at hl 0 rfl) ?_
    refine va_get (D := D) (ci := 5) (C := R_Pl) (T := T_Pl) (N := 10) hx hb hts in_Pl hown hK hst.1 29 (WS_o29 g σ) rfl 6 (by decide) (hts _ gw254) (fun _ h9 => h9) rfl d_Pl_arrange_83 ?_
    refine lv_iload_n hx hb d_Pl_arrange_86 rfl (lv_at hl 2 rfl) ?_
    refine lv_icmp_le (tgt := 105) hx hb d_Pl_arrange_87 (by decide) (fun hc => ?_) (fun hc => ?_)
    · replace h := h.1 hc
      exact j5 x1 σ _ _ _ (lv_sub hl [0, 1] rfl) hst h
    · replace h := h.2 hc
      refine lv_aload_n hx hb d_Pl_arrange_90 rfl (lv_at hl 0 rfl) ?_
      refine va_get (D := D) (ci := 5) (C := R_Pl) (T := T_Pl) (N := 10) hx hb hts in_Pl hown hK hst.1 29 (WS_o29 g σ) rfl 6 (by decide) (hts _ gw254) (fun _ h9 => h9) rfl d_Pl_arrange_91 ?_
      refine lv_istore_n hx hb d_Pl_arrange_94 rfl hl (by decide) rfl (fun ls hl => ?_)
      have hl : lv_has ls 4 [(2, .int (σ.1 29 6)), (0, .ref (g.1 29)), (1, .int x1), (3, .int x3)] := hl
      refine lv_aload_n hx hb d_Pl_arrange_95 rfl (lv_at hl 1 rfl) ?_
      refine kw_callv (va_runV (As := []) (rest := []) (b := g.1 29) ⟨hx, hb, hml, hown, hts⟩ (c_Pl_placeAllReady l h) (cwV 0 hts (gd_v gw765 gw767 gs16 gw10 gw768) rfl rfl rfl (by decide +kernel) ⟨Nat.le_of_ble_eq_true rfl, Nat.le_of_ble_eq_true rfl⟩) ⟨kw_blind (Zk_ok g), va_recv hK hst.1 rfl (WS_o29 g σ), kw_pre (Zk_ok g) hK hZ hA hst⟩ rfl rfl hl.1 rfl (lv_room (Nat.le_of_ble_eq_true rfl)) d_Pl_arrange_96 ⟨Nat.le_of_ble_eq_true rfl, Nat.le_of_ble_eq_true rfl⟩) hst hA (fun σ1 H locs h hst => ?_)
      refine lv_iinc (k := 3) (v := (x3 + 1)) hx hb d_Pl_arrange_99 hl rfl (kw_inc _ (by decide)) (by decide) rfl (fun ls hl => ?_)
      have hl : lv_has ls 4 [(3, .int (x3 + 1)), (2, .int (σ.1 29 6)), (0, .ref (g.1 29)), (1, .int x1)] := hl
      refine lv_goto (tgt := 77) hx hb d_Pl_arrange_102 (by decide) ?_
      exact j2 x1 (σ.1 29 6) (x3 + 1) σ1 _ _ _ (lv_sub hl [2, 3, 1, 0] rfl) hst h
set_option maxRecDepth 100000 in
set_option maxHeartbeats 4000000 in
theorem b_Pl_arrange_3 {p : Program} {l : Launch} {e : Env} {s : State} {m : MethodId} {args : Array Value} {below : List Frame} {meth : Method} {c : Code} {D : va_G} {g : Gm} {A : Nat → Prop} {post : Sg → Prop} {F : Nat → Int32 → Int32 → Int32 → Sg → Prop} (C : kC p s m args meth c k_Pl_arrange 4 (none) GW R_Pl D vwCl g (Zk g) A) (j4 : J_Pl_arrange_4 p l e s m args below meth c D g A post F) (x1 : Int32) (x2 : Int32) (x3 : Int32) (σ : Sg) (H : Heap) (locs : List Loc) (ls : Array Slot) (hl : lv_has ls 4 [(0, .ref (g.1 29)), (1, .int x1), (2, .int x2), (3, .int x3)]) (hst : Wst D vwCl (WS g) A s σ H locs) (h : wb_Pl_arrange_3 F post x1 x2 x3 σ) : W p l e { frames := 4, cells := 0, slots := 0, locals := 88 } s m args below meth c H locs 0 0 (MQ below (QvW D vwCl (WS g) post A) args s 0 0 A) (F0 m 40 ls []) := by
  obtain ⟨hx, hb, hr, hml, hown, hts, hlocks, hK, hZ, hA⟩ := C
  unfold wb_Pl_arrange_3 at h
  refine lv_aload_n hx hb d_Pl_arrange_40 rfl (lv_at hl 0 rfl) ?_
  refine va_get (D := D) (ci := 5) (C := R_Pl) (T := T_Pl) (N := 10) hx hb hts in_Pl hown hK hst.1 29 (WS_o29 g σ) rfl 9 (by decide) (hts _ gw259) (fun _ h9 => h9) rfl d_Pl_arrange_41 ?_
  refine lv_iload_n hx hb d_Pl_arrange_44 rfl (lv_at hl 2 rfl) ?_
  refine lv_iload_n hx hb d_Pl_arrange_45 rfl (lv_at hl 3 rfl) ?_
  refine lv_if_ne (tgt := 53) hx hb d_Pl_arrange_46 (by decide) (fun hc => ?_) (fun hc => ?_)
  · replace h := h.1 hc
    refine lv_iconst (v := (0 : Int32)) hx hb d_Pl_arrange_53 (by decide) ?_
    obtain ⟨hi, h⟩ := h
    refine kw_zast hx hb hK hst 34 (WS_a34 g σ) hi (WS_s34 g σ _ _) d_Pl_arrange_54 (fun σ1 H locs e1 hst => ?_)
    replace h := h σ1 e1
    exact j4 x1 x2 x3 σ1 _ _ _ (lv_sub hl [0, 1, 2, 3] rfl) hst h
  · replace h := h.2 hc
    refine lv_iconst (v := (1 : Int32)) hx hb d_Pl_arrange_49 (by decide) ?_
    refine lv_goto (tgt := 54) hx hb d_Pl_arrange_50 (by decide) ?_
    obtain ⟨hi, h⟩ := h
    refine kw_zast hx hb hK hst 34 (WS_a34 g σ) hi (WS_s34 g σ _ _) d_Pl_arrange_54 (fun σ1 H locs e1 hst => ?_)
    replace h := h σ1 e1
    exact j4 x1 x2 x3 σ1 _ _ _ (lv_sub hl [0, 1, 2, 3] rfl) hst h
set_option maxRecDepth 100000 in
set_option maxHeartbeats 4000000 in
theorem b_Pl_arrange_4 {p : Program} {l : Launch} {e : Env} {s : State} {m : MethodId} {args : Array Value} {below : List Frame} {meth : Method} {c : Code} {D : va_G} {g : Gm} {A : Nat → Prop} {post : Sg → Prop} {F : Nat → Int32 → Int32 → Int32 → Sg → Prop} (C : kC p s m args meth c k_Pl_arrange 4 (none) GW R_Pl D vwCl g (Zk g) A) (j1 : J_Pl_arrange_1 p l e s m args below meth c D g A post F) (x1 : Int32) (x2 : Int32) (x3 : Int32) (σ : Sg) (H : Heap) (locs : List Loc) (ls : Array Slot) (hl : lv_has ls 4 [(0, .ref (g.1 29)), (1, .int x1), (2, .int x2), (3, .int x3)]) (hst : Wst D vwCl (WS g) A s σ H locs) (h : wb_Pl_arrange_4 F post x1 x2 x3 σ) : W p l e { frames := 4, cells := 0, slots := 0, locals := 88 } s m args below meth c H locs 0 0 (MQ below (QvW D vwCl (WS g) post A) args s 0 0 A) (F0 m 55 ls []) := by
  obtain ⟨hx, hb, hr, hml, hown, hts, hlocks, hK, hZ, hA⟩ := C
  unfold wb_Pl_arrange_4 at h
  refine lv_iload_n hx hb d_Pl_arrange_55 rfl (lv_at hl 1 rfl) ?_
  refine lv_iload_n hx hb d_Pl_arrange_56 rfl (lv_at hl 3 rfl) ?_
  refine lv_if_eq (tgt := 64) hx hb d_Pl_arrange_57 (by decide) (fun hc => ?_) (fun hc => ?_)
  · replace h := h.1 hc
    refine lv_iconst (v := (0 : Int32)) hx hb d_Pl_arrange_64 (by decide) ?_
    refine lv_iadd hx hb d_Pl_arrange_65 ?_
    refine lv_istore_n hx hb d_Pl_arrange_66 rfl hl (by decide) rfl (fun ls hl => ?_)
    have hl : lv_has ls 4 [(1, .int (x1 + (0 : Int32))), (0, .ref (g.1 29)), (2, .int x2), (3, .int x3)] := hl
    refine lv_iinc (k := 2) (v := (x2 + 1)) hx hb d_Pl_arrange_67 hl rfl (kw_inc _ (by decide)) (by decide) rfl (fun ls hl => ?_)
    have hl : lv_has ls 4 [(2, .int (x2 + 1)), (1, .int (x1 + (0 : Int32))), (0, .ref (g.1 29)), (3, .int x3)] := hl
    refine lv_goto (tgt := 9) hx hb d_Pl_arrange_70 (by decide) ?_
    exact j1 (x1 + (0 : Int32)) (x2 + 1) σ _ _ _ (lv_sub hl [2, 1, 0] rfl) hst h
  · replace h := h.2 hc
    refine lv_iconst (v := (1 : Int32)) hx hb d_Pl_arrange_60 (by decide) ?_
    refine lv_goto (tgt := 65) hx hb d_Pl_arrange_61 (by decide) ?_
    refine lv_iadd hx hb d_Pl_arrange_65 ?_
    refine lv_istore_n hx hb d_Pl_arrange_66 rfl hl (by decide) rfl (fun ls hl => ?_)
    have hl : lv_has ls 4 [(1, .int (x1 + (1 : Int32))), (0, .ref (g.1 29)), (2, .int x2), (3, .int x3)] := hl
    refine lv_iinc (k := 2) (v := (x2 + 1)) hx hb d_Pl_arrange_67 hl rfl (kw_inc _ (by decide)) (by decide) rfl (fun ls hl => ?_)
    have hl : lv_has ls 4 [(2, .int (x2 + 1)), (1, .int (x1 + (1 : Int32))), (0, .ref (g.1 29)), (3, .int x3)] := hl
    refine lv_goto (tgt := 9) hx hb d_Pl_arrange_70 (by decide) ?_
    exact j1 (x1 + (1 : Int32)) (x2 + 1) σ _ _ _ (lv_sub hl [2, 1, 0] rfl) hst h
set_option maxRecDepth 100000 in
set_option maxHeartbeats 4000000 in
theorem b_Pl_arrange_5 {p : Program} {l : Launch} {e : Env} {s : State} {m : MethodId} {args : Array Value} {below : List Frame} {meth : Method} {c : Code} {D : va_G} {g : Gm} {A : Nat → Prop} {post : Sg → Prop} {F : Nat → Int32 → Int32 → Int32 → Sg → Prop} (C : kC p s m args meth c k_Pl_arrange 4 (none) GW R_Pl D vwCl g (Zk g) A) (x1 : Int32) (σ : Sg) (H : Heap) (locs : List Loc) (ls : Array Slot) (hl : lv_has ls 4 [(0, .ref (g.1 29)), (1, .int x1)]) (hst : Wst D vwCl (WS g) A s σ H locs) (h : wb_Pl_arrange_5 F post x1 σ) : W p l e { frames := 4, cells := 0, slots := 0, locals := 88 } s m args below meth c H locs 0 0 (MQ below (QvW D vwCl (WS g) post A) args s 0 0 A) (F0 m 105 ls []) := by
  obtain ⟨hx, hb, hr, hml, hown, hts, hlocks, hK, hZ, hA⟩ := C
  unfold wb_Pl_arrange_5 at h
  refine lv_aload_n hx hb d_Pl_arrange_105 rfl (lv_at hl 0 rfl) ?_
  refine lv_aload_n hx hb d_Pl_arrange_106 rfl (lv_at hl 0 rfl) ?_
  refine va_get (D := D) (ci := 5) (C := R_Pl) (T := T_Pl) (N := 10) hx hb hts in_Pl hown hK hst.1 29 (WS_o29 g σ) rfl 6 (by decide) (hts _ gw254) (fun _ h9 => h9) rfl d_Pl_arrange_107 ?_
  refine lv_iload_n hx hb d_Pl_arrange_110 rfl (lv_at hl 1 rfl) ?_
  refine lv_icmp_ge (tgt := 118) hx hb d_Pl_arrange_111 (by decide) (fun hc => ?_) (fun hc => ?_)
  · replace h := h.1 hc
    refine lv_iconst (v := (0 : Int32)) hx hb d_Pl_arrange_118 (by decide) ?_
    obtain ⟨hn, hf, h⟩ := h
    refine kw_put (D := D) (ci := 5) (ty := .boolean) (C := R_Pl) (T := T_Pl) (N := 10) hx hb hts in_Pl ty_Pl ty_Pl_ok nm_Pl hown hK hst 29 (WS_o29 g σ) rfl 7 (by decide) (hts _ gw255) (fun _ h9 => h9) rfl (by decide +kernel) hn hf (Nat.le_of_ble_eq_true rfl) (WS_p29_7 g σ _) d_Pl_arrange_119 (fun σ1 H locs e1 hst => ?_)
    replace h := h σ1 e1
    exact kw_vret hx hb hr hlocks hst h d_Pl_arrange_122
  · replace h := h.2 hc
    refine lv_iconst (v := (1 : Int32)) hx hb d_Pl_arrange_114 (by decide) ?_
    refine lv_goto (tgt := 119) hx hb d_Pl_arrange_115 (by decide) ?_
    obtain ⟨hn, hf, h⟩ := h
    refine kw_put (D := D) (ci := 5) (ty := .boolean) (C := R_Pl) (T := T_Pl) (N := 10) hx hb hts in_Pl ty_Pl ty_Pl_ok nm_Pl hown hK hst 29 (WS_o29 g σ) rfl 7 (by decide) (hts _ gw255) (fun _ h9 => h9) rfl (by decide +kernel) hn hf (Nat.le_of_ble_eq_true rfl) (WS_p29_7 g σ _) d_Pl_arrange_119 (fun σ1 H locs e1 hst => ?_)
    replace h := h σ1 e1
    exact kw_vret hx hb hr hlocks hst h d_Pl_arrange_122
set_option maxRecDepth 100000 in
set_option maxHeartbeats 4000000 in
theorem a_Pl_arrange {p : Program} {l : Launch} {e : Env} {s : State} {m : MethodId} {args : Array Value} {below : List Frame} {meth : Method} {c : Code} {D : va_G} {g : Gm} {A : Nat → Prop} {post : Sg → Prop} (C : kC p s m args meth c k_Pl_arrange 4 (none) GW R_Pl D vwCl g (Zk g) A) : ∀ n : Nat, J_Pl_arrange_1 p l e s m args below meth c D g A post (wp_Pl_arrange post n) ∧ J_Pl_arrange_2 p l e s m args below meth c D g A post (wp_Pl_arrange post n) ∧ J_Pl_arrange_3 p l e s m args below meth c D g A post (wp_Pl_arrange post n) ∧ J_Pl_arrange_4 p l e s m args below meth c D g A post (wp_Pl_arrange post n) ∧ J_Pl_arrange_5 p l e s m args below meth c D g A post (wp_Pl_arrange post n) := by
  intro n
  induction n with
  | zero => exact ⟨fun _ _ _ _ _ _ _ _ h => h.elim, fun _ _ _ _ _ _ _ _ _ h => h.elim, fun _ _ _ _ _ _ _ _ _ h => h.elim, fun _ _ _ _ _ _ _ _ _ h => h.elim, fun _ _ _ _ _ _ _ h => h.elim⟩
  | succ n ih => exact ⟨fun x1 x2 σ H locs ls hl hst h => b_Pl_arrange_1 (F := wp_Pl_arrange post n) C (ih.2.1) (ih.2.2.1) x1 x2 σ H locs ls hl hst h, fun x1 x2 x3 σ H locs ls hl hst h => b_Pl_arrange_2 (F := wp_Pl_arrange post n) C (ih.2.1) (ih.2.2.2.2) x1 x2 x3 σ H locs ls hl hst h, fun x1 x2 x3 σ H locs ls hl hst h => b_Pl_arrange_3 (F := wp_Pl_arrange post n) C (ih.2.2.2.1) x1 x2 x3 σ H locs ls hl hst h, fun x1 x2 x3 σ H locs ls hl hst h => b_Pl_arrange_4 (F := wp_Pl_arrange post n) C (ih.1) x1 x2 x3 σ H locs ls hl hst h, fun x1 σ H locs ls hl hst h => b_Pl_arrange_5 (F := wp_Pl_arrange post n) C x1 σ H locs ls hl hst h⟩
set_option maxRecDepth 100000 in
set_option maxHeartbeats 4000000 in
theorem c_Pl_arrange (l : Launch) {D : va_G} {g : Gm} {sz : Nat} {σ : Sg} {post : Sg → Prop} (h : wq_Pl_arrange σ post) : Met l y_Pl_arrange (.code y_Pl_arrange k_Pl_arrange 4 (none) :: GW) { frames := 4, cells := 0, slots := 0, locals := 88 } (PcW D vwCl (WS g) g (Zk g) σ sz [.ref (g.1 29)]) (QvW D vwCl (WS g) post (va_A (WS g σ) sz)) 0 0 (va_A (WS g σ) sz) := by
  refine kw_entry (own := R_Pl) (by decide) rfl rfl (Nat.le_of_ble_eq_true rfl) ?_
  intro p e s m below meth c ls hsz C hin hl hst
  obtain ⟨n, h⟩ := h
  cases n with
  | zero => exact h.elim
  | succ n =>
    have ih := a_Pl_arrange (l := l) (e := e) (below := below) (post := post) C n
    exact b_Pl_arrange_0 (F := wp_Pl_arrange post n) C (ih.1) σ _ _ ls hl hst h
/-! SchemaDesk$Plan.refresh ()V -/
abbrev k_Pl_refresh : ByteArray := prog_3_method_2_code
abbrev y_Pl_refresh : MethodName := ⟨"SchemaDesk$Plan", "refresh", "()V"⟩
theorem d_Pl_refresh_0 : decode k_Pl_refresh 0 = .ok (.aload_n 0, 1) := by decide +kernel
theorem d_Pl_refresh_1 : decode k_Pl_refresh 1 = .ok (.getfield 36, 3) := by decide +kernel
theorem d_Pl_refresh_4 : decode k_Pl_refresh 4 = .ok (.ifCond .eq 4, 3) := by decide +kernel
theorem d_Pl_refresh_7 : decode k_Pl_refresh 7 = .ok (.return_, 1) := by decide +kernel
theorem d_Pl_refresh_8 : decode k_Pl_refresh 8 = .ok (.aload_n 0, 1) := by decide +kernel
theorem d_Pl_refresh_9 : decode k_Pl_refresh 9 = .ok (.iconst 1, 1) := by decide +kernel
theorem d_Pl_refresh_10 : decode k_Pl_refresh 10 = .ok (.putfield 36, 3) := by decide +kernel
theorem d_Pl_refresh_13 : decode k_Pl_refresh 13 = .ok (.iconst 0, 1) := by decide +kernel
theorem d_Pl_refresh_14 : decode k_Pl_refresh 14 = .ok (.istore_n 1, 1) := by decide +kernel
theorem d_Pl_refresh_15 : decode k_Pl_refresh 15 = .ok (.iload_n 1, 1) := by decide +kernel
theorem d_Pl_refresh_16 : decode k_Pl_refresh 16 = .ok (.aload_n 0, 1) := by decide +kernel
theorem d_Pl_refresh_17 : decode k_Pl_refresh 17 = .ok (.getfield 28, 3) := by decide +kernel
theorem d_Pl_refresh_20 : decode k_Pl_refresh 20 = .ok (.getfield 40, 3) := by decide +kernel
theorem d_Pl_refresh_23 : decode k_Pl_refresh 23 = .ok (.if_icmp .ge 20, 3) := by decide +kernel
theorem d_Pl_refresh_26 : decode k_Pl_refresh 26 = .ok (.aload_n 0, 1) := by decide +kernel
theorem d_Pl_refresh_27 : decode k_Pl_refresh 27 = .ok (.getfield 9, 3) := by decide +kernel
theorem d_Pl_refresh_30 : decode k_Pl_refresh 30 = .ok (.iload_n 1, 1) := by decide +kernel
theorem d_Pl_refresh_31 : decode k_Pl_refresh 31 = .ok (.aload_n 0, 1) := by decide +kernel
theorem d_Pl_refresh_32 : decode k_Pl_refresh 32 = .ok (.iload_n 1, 1) := by decide +kernel
theorem d_Pl_refresh_33 : decode k_Pl_refresh 33 = .ok (.invokevirtual 46, 3) := by decide +kernel
theorem d_Pl_refresh_36 : decode k_Pl_refresh 36 = .ok (.iastore, 1) := by decide +kernel
theorem d_Pl_refresh_37 : decode k_Pl_refresh 37 = .ok (.iinc 1 1, 3) := by decide +kernel
theorem d_Pl_refresh_40 : decode k_Pl_refresh 40 = .ok (.goto (-25), 3) := by decide +kernel
theorem d_Pl_refresh_43 : decode k_Pl_refresh 43 = .ok (.iconst 0, 1) := by decide +kernel
theorem d_Pl_refresh_44 : decode k_Pl_refresh 44 = .ok (.istore_n 1, 1) := by decide +kernel
theorem d_Pl_refresh_45 : decode k_Pl_refresh 45 = .ok (.iload_n 1, 1) := by decide +kernel
theorem d_Pl_refresh_46 : decode k_Pl_refresh 46 = .ok (.aload_n 0, 1) := by decide +kernel
theorem d_Pl_refresh_47 : decode k_Pl_refresh 47 = .ok (.getfield 28, 3) := by decide +kernel
theorem d_Pl_refresh_50 : decode k_Pl_refresh 50 = .ok (.getfield 40, 3) := by decide +kernel
theorem d_Pl_refresh_53 : decode k_Pl_refresh 53 = .ok (.if_icmp .ge 58, 3) := by decide +kernel
theorem d_Pl_refresh_56 : decode k_Pl_refresh 56 = .ok (.aload_n 0, 1) := by decide +kernel
theorem d_Pl_refresh_57 : decode k_Pl_refresh 57 = .ok (.getfield 15, 3) := by decide +kernel
theorem d_Pl_refresh_60 : decode k_Pl_refresh 60 = .ok (.iload_n 1, 1) := by decide +kernel
theorem d_Pl_refresh_61 : decode k_Pl_refresh 61 = .ok (.aload_n 0, 1) := by decide +kernel
theorem d_Pl_refresh_62 : decode k_Pl_refresh 62 = .ok (.iload_n 1, 1) := by decide +kernel
theorem d_Pl_refresh_63 : decode k_Pl_refresh 63 = .ok (.invokevirtual 50, 3) := by decide +kernel
theorem d_Pl_refresh_66 : decode k_Pl_refresh 66 = .ok (.iastore, 1) := by decide +kernel
theorem d_Pl_refresh_67 : decode k_Pl_refresh 67 = .ok (.aload_n 0, 1) := by decide +kernel
theorem d_Pl_refresh_68 : decode k_Pl_refresh 68 = .ok (.iload_n 1, 1) := by decide +kernel
theorem d_Pl_refresh_69 : decode k_Pl_refresh 69 = .ok (.bipush 12, 2) := by decide +kernel
theorem d_Pl_refresh_71 : decode k_Pl_refresh 71 = .ok (.invokevirtual 53, 3) := by decide +kernel
theorem d_Pl_refresh_74 : decode k_Pl_refresh 74 = .ok (.istore_n 2, 1) := by decide +kernel
theorem d_Pl_refresh_75 : decode k_Pl_refresh 75 = .ok (.aload_n 0, 1) := by decide +kernel
theorem d_Pl_refresh_76 : decode k_Pl_refresh 76 = .ok (.getfield 18, 3) := by decide +kernel
theorem d_Pl_refresh_79 : decode k_Pl_refresh 79 = .ok (.iload_n 1, 1) := by decide +kernel
theorem d_Pl_refresh_80 : decode k_Pl_refresh 80 = .ok (.iload_n 2, 1) := by decide +kernel
theorem d_Pl_refresh_81 : decode k_Pl_refresh 81 = .ok (.iconst (-1), 1) := by decide +kernel
theorem d_Pl_refresh_82 : decode k_Pl_refresh 82 = .ok (.if_icmp .eq 21, 3) := by decide +kernel
theorem d_Pl_refresh_85 : decode k_Pl_refresh 85 = .ok (.aload_n 0, 1) := by decide +kernel
theorem d_Pl_refresh_86 : decode k_Pl_refresh 86 = .ok (.getfield 28, 3) := by decide +kernel
theorem d_Pl_refresh_89 : decode k_Pl_refresh 89 = .ok (.getfield 57, 3) := by decide +kernel
theorem d_Pl_refresh_92 : decode k_Pl_refresh 92 = .ok (.iload_n 2, 1) := by decide +kernel
theorem d_Pl_refresh_93 : decode k_Pl_refresh 93 = .ok (.iaload, 1) := by decide +kernel
theorem d_Pl_refresh_94 : decode k_Pl_refresh 94 = .ok (.bipush 6, 2) := by decide +kernel
theorem d_Pl_refresh_96 : decode k_Pl_refresh 96 = .ok (.if_icmp .ne 7, 3) := by decide +kernel
theorem d_Pl_refresh_99 : decode k_Pl_refresh 99 = .ok (.iload_n 2, 1) := by decide +kernel
theorem d_Pl_refresh_100 : decode k_Pl_refresh 100 = .ok (.goto 4, 3) := by decide +kernel
theorem d_Pl_refresh_103 : decode k_Pl_refresh 103 = .ok (.iconst (-1), 1) := by decide +kernel
theorem d_Pl_refresh_104 : decode k_Pl_refresh 104 = .ok (.iastore, 1) := by decide +kernel
theorem d_Pl_refresh_105 : decode k_Pl_refresh 105 = .ok (.iinc 1 1, 3) := by decide +kernel
theorem d_Pl_refresh_108 : decode k_Pl_refresh 108 = .ok (.goto (-63), 3) := by decide +kernel
theorem d_Pl_refresh_111 : decode k_Pl_refresh 111 = .ok (.aload_n 0, 1) := by decide +kernel
theorem d_Pl_refresh_112 : decode k_Pl_refresh 112 = .ok (.invokevirtual 60, 3) := by decide +kernel
theorem d_Pl_refresh_115 : decode k_Pl_refresh 115 = .ok (.return_, 1) := by decide +kernel
theorem gw234 : (Jvm.Cond.fieldLink "SchemaDesk$Plan" (36 : Nat) "SchemaDesk$Plan" "fresh" "Z") ∈ GW := gw_t1 (List.mem_of_getElem? (i := 234) rfl) rfl
theorem gw746 : (Jvm.Cond.methodLink "SchemaDesk$Plan" (46 : Nat) ({ cls := "SchemaDesk$Plan", name := "wordOf", desc := "(I)I" } : Jvm.MethodName)) ∈ GW := gw_t4 (List.mem_of_getElem? (i := 26) rfl) rfl
theorem gw748 : (Jvm.Cond.instanceMethod ({ cls := "SchemaDesk$Plan", name := "wordOf", desc := "(I)I" } : Jvm.MethodName)) ∈ GW := gw_t4 (List.mem_of_getElem? (i := 28) rfl) rfl
theorem gs13 : Cond.selects "SchemaDesk$Plan" ⟨"SchemaDesk$Plan", "wordOf", "(I)I"⟩ ⟨"SchemaDesk$Plan", "wordOf", "(I)I"⟩ ∈ GW := gw_p1 (q := (⟨"SchemaDesk$Plan", "wordOf", "(I)I"⟩, 10)) (List.mem_of_getElem? (i := 13) rfl)
theorem gw749 : (Jvm.Cond.code ({ cls := "SchemaDesk$Plan", name := "wordOf", desc := "(I)I" } : Jvm.MethodName) prog_3_method_4_code (5 : Nat) (Option.some Jvm.ClassFile.FieldType.int)) ∈ GW := gw_t4 (List.mem_of_getElem? (i := 29) rfl) rfl
theorem gw761 : (Jvm.Cond.methodLink "SchemaDesk$Plan" (60 : Nat) ({ cls := "SchemaDesk$Plan", name := "arrange", desc := "()V" } : Jvm.MethodName)) ∈ GW := gw_t4 (List.mem_of_getElem? (i := 41) rfl) rfl
theorem gw763 : (Jvm.Cond.instanceMethod ({ cls := "SchemaDesk$Plan", name := "arrange", desc := "()V" } : Jvm.MethodName)) ∈ GW := gw_t4 (List.mem_of_getElem? (i := 43) rfl) rfl
theorem gs15 : Cond.selects "SchemaDesk$Plan" ⟨"SchemaDesk$Plan", "arrange", "()V"⟩ ⟨"SchemaDesk$Plan", "arrange", "()V"⟩ ∈ GW := gw_p1 (q := (⟨"SchemaDesk$Plan", "arrange", "()V"⟩, 10)) (List.mem_of_getElem? (i := 15) rfl)
theorem gw764 : (Jvm.Cond.code ({ cls := "SchemaDesk$Plan", name := "arrange", desc := "()V" } : Jvm.MethodName) prog_3_method_6_code (4 : Nat) (Option.none : Option Jvm.ClassFile.FieldType)) ∈ GW := gw_t4 (List.mem_of_getElem? (i := 44) rfl) rfl
theorem gw753 : (Jvm.Cond.methodLink "SchemaDesk$Plan" (50 : Nat) ({ cls := "SchemaDesk$Plan", name := "targetOf", desc := "(I)I" } : Jvm.MethodName)) ∈ GW := gw_t4 (List.mem_of_getElem? (i := 33) rfl) rfl
theorem gw755 : (Jvm.Cond.instanceMethod ({ cls := "SchemaDesk$Plan", name := "targetOf", desc := "(I)I" } : Jvm.MethodName)) ∈ GW := gw_t4 (List.mem_of_getElem? (i := 35) rfl) rfl
theorem gs14 : Cond.selects "SchemaDesk$Plan" ⟨"SchemaDesk$Plan", "targetOf", "(I)I"⟩ ⟨"SchemaDesk$Plan", "targetOf", "(I)I"⟩ ∈ GW := gw_p1 (q := (⟨"SchemaDesk$Plan", "targetOf", "(I)I"⟩, 10)) (List.mem_of_getElem? (i := 14) rfl)
theorem gw756 : (Jvm.Cond.code ({ cls := "SchemaDesk$Plan", name := "targetOf", desc := "(I)I" } : Jvm.MethodName) prog_3_method_5_code (5 : Nat) (Option.some Jvm.ClassFile.FieldType.int)) ∈ GW := gw_t4 (List.mem_of_getElem? (i := 36) rfl) rfl
theorem gw244 : (Jvm.Cond.fieldLink "SchemaDesk$Plan" (18 : Nat) "SchemaDesk$Plan" "properties" "[I") ∈ GW := gw_t2 (List.mem_of_getElem? (i := 4) rfl) rfl
def wb_Pl_refresh_0 (F : Nat → Int32 → Sg → Prop) (post : Sg → Prop) (σ : Sg) : Prop := (((σ.1 29 1) = 0 → (narrow .boolean (.int (1 : Int32)) = .int (1 : Int32) ∧ fits .boolean (.int (1 : Int32)) = true ∧ (∀ σ1, σ1 = si σ 29 1 (1 : Int32) → F 1 (0 : Int32) σ1))) ∧ (¬ (σ.1 29 1) = 0 → post σ))
def wb_Pl_refresh_1 (F : Nat → Int32 → Sg → Prop) (post : Sg → Prop) (x1 : Int32) (σ : Sg) : Prop := (((σ.1 0 9) ≤ x1 → F 2 (0 : Int32) σ) ∧ (¬ (σ.1 0 9) ≤ x1 → (wq_Pl_wordOf x1 σ (fun r1 σ1 => (vp_in x1 160 ∧ (∀ σ2, σ2 = si σ1 30 x1.toNatClampNeg r1 → F 1 (x1 + 1) σ2))))))
def wb_Pl_refresh_2 (F : Nat → Int32 → Sg → Prop) (post : Sg → Prop) (x1 : Int32) (σ : Sg) : Prop := (((σ.1 0 9) ≤ x1 → (wq_Pl_arrange  σ (fun σ1 => post σ1))) ∧ (¬ (σ.1 0 9) ≤ x1 → (wq_Pl_targetOf x1 σ (fun r1 σ1 => (vp_in x1 160 ∧ (∀ σ2, σ2 = si σ1 31 x1.toNatClampNeg r1 → (wq_Pl_childBy x1 (12 : Int32) σ2 (fun r3 σ3 => ((r3 = (-1 : Int32) → (vp_in x1 160 ∧ (∀ σ4, σ4 = si σ3 32 x1.toNatClampNeg (-1 : Int32) → F 2 (x1 + 1) σ4))) ∧ (¬ r3 = (-1 : Int32) → (vp_in r3 160 ∧ ((¬ (σ3.1 1 r3.toNatClampNeg) = (6 : Int32) → (vp_in x1 160 ∧ (∀ σ4, σ4 = si σ3 32 x1.toNatClampNeg (-1 : Int32) → F 2 (x1 + 1) σ4))) ∧ ((σ3.1 1 r3.toNatClampNeg) = (6 : Int32) → (vp_in x1 160 ∧ (∀ σ4, σ4 = si σ3 32 x1.toNatClampNeg r3 → F 2 (x1 + 1) σ4)))))))))))))))
def wp_Pl_refresh (post : Sg → Prop) : Nat → Nat → Int32 → Sg → Prop
  | 0, _, _, _ => False
  | n + 1, k, x1, σ => match k with
    | 0 => wb_Pl_refresh_0 (wp_Pl_refresh post n) post σ
    | 1 => wb_Pl_refresh_1 (wp_Pl_refresh post n) post x1 σ
    | 2 => wb_Pl_refresh_2 (wp_Pl_refresh post n) post x1 σ
    | _ => False
def wq_Pl_refresh (σ : Sg) (post : Sg → Prop) : Prop := ∃ n, wp_Pl_refresh post n 0 0 σ
def J_Pl_refresh_1 (p : Program) (l : Launch) (e : Env) (s : State) (m : MethodId) (args : Array Value) (below : List Frame) (meth : Method) (c : Code) (D : va_G) (g : Gm) (A : Nat → Prop) (post : Sg → Prop) (F : Nat → Int32 → Sg → Prop) : Prop := ∀ (x1 : Int32) (σ : Sg) (H : Heap) (locs : List Loc) (ls : Array Slot), lv_has ls 3 [(0, .ref (g.1 29)), (1, .int x1)] → Wst D vwCl (WS g) A s σ H locs → F 1 x1 σ → W p l e { frames := 5, cells := 0, slots := 0, locals := 111 } s m args below meth c H locs 0 0 (MQ below (QvW D vwCl (WS g) post A) args s 0 0 A) (F0 m 15 ls [])
def J_Pl_refresh_2 (p : Program) (l : Launch) (e : Env) (s : State) (m : MethodId) (args : Array Value) (below : List Frame) (meth : Method) (c : Code) (D : va_G) (g : Gm) (A : Nat → Prop) (post : Sg → Prop) (F : Nat → Int32 → Sg → Prop) : Prop := ∀ (x1 : Int32) (σ : Sg) (H : Heap) (locs : List Loc) (ls : Array Slot), lv_has ls 3 [(0, .ref (g.1 29)), (1, .int x1)] → Wst D vwCl (WS g) A s σ H locs → F 2 x1 σ → W p l e { frames := 5, cells := 0, slots := 0, locals := 111 } s m args below meth c H locs 0 0 (MQ below (QvW D vwCl (WS g) post A) args s 0 0 A) (F0 m 45 ls [])
set_option maxRecDepth 100000 in
set_option maxHeartbeats 4000000 in
theorem b_Pl_refresh_0 {p : Program} {l : Launch} {e : Env} {s : State} {m : MethodId} {args : Array Value} {below : List Frame} {meth : Method} {c : Code} {D : va_G} {g : Gm} {A : Nat → Prop} {post : Sg → Prop} {F : Nat → Int32 → Sg → Prop} (C : kC p s m args meth c k_Pl_refresh 3 (none) GW R_Pl D vwCl g (Zk g) A) (j1 : J_Pl_refresh_1 p l e s m args below meth c D g A post F) (σ : Sg) (H : Heap) (locs : List Loc) (ls : Array Slot) (hl : lv_has ls 3 [(0, .ref (g.1 29))]) (hst : Wst D vwCl (WS g) A s σ H locs) (h : wb_Pl_refresh_0 F post σ) : W p l e { frames := 5, cells := 0, slots := 0, locals := 111 } s m args below meth c H locs 0 0 (MQ below (QvW D vwCl (WS g) post A) args s 0 0 A) (F0 m 0 ls []) := by
  obtain ⟨hx, hb, hr, hml, hown, hts, hlocks, hK, hZ, hA⟩ := C
  unfold wb_Pl_refresh_0 at h
  refine lv_aload_n hx hb d_Pl_refresh_0 rfl (lv_at hl 0 rfl) ?_
  refine va_get (D := D) (ci := 5) (C := R_Pl) (T := T_Pl) (N := 10) hx hb hts in_Pl hown hK hst.1 29 (WS_o29 g σ) rfl 1 (by decide) (hts _ gw234) (fun _ h9 => h9) rfl d_Pl_refresh_1 ?_
  refine lv_if_eq (tgt := 8) hx hb d_Pl_refresh_4 (by decide) (fun hc => ?_) (fun hc => ?_)
  · replace h := h.1 hc
    refine lv_aload_n hx hb d_Pl_refresh_8 rfl (lv_at hl 0 rfl) ?_
    refine lv_iconst (v := (1 : Int32)) hx hb d_Pl_refresh_9 (by decide) ?_
    obtain ⟨hn, hf, h⟩ := h
    refine kw_put (D := D) (ci := 5) (ty := .boolean) (C := R_Pl) (T := T_Pl) (N := 10) hx hb hts in_Pl ty_Pl ty_Pl_ok nm_Pl hown hK hst 29 (WS_o29 g σ) rfl 1 (by decide) (hts _ gw234) (fun _ h9 => h9) rfl (by decide +kernel) hn hf (Nat.le_of_ble_eq_true rfl) (WS_p29_1 g σ _) d_Pl_refresh_10 (fun σ1 H locs e1 hst => ?_)
    replace h := h σ1 e1
    refine lv_iconst (v := (0 : Int32)) hx hb d_Pl_refresh_13 (by decide) ?_
    refine lv_istore_n hx hb d_Pl_refresh_14 rfl hl (by decide) rfl (fun ls hl => ?_)
    have hl : lv_has ls 3 [(1, .int (0 : Int32)), (0, .ref (g.1 29))] := hl
    exact j1 (0 : Int32) σ1 _ _ _ (lv_sub hl [1, 0] rfl) hst h
  · replace h := h.2 hc
    exact kw_vret hx hb hr hlocks hst h d_Pl_refresh_7
set_option maxRecDepth 100000 in
set_option maxHeartbeats 4000000 in
theorem b_Pl_refresh_1 {p : Program} {l : Launch} {e : Env} {s : State} {m : MethodId} {args : Array Value} {below : List Frame} {meth : Method} {c : Code} {D : va_G} {g : Gm} {A : Nat → Prop} {post : Sg → Prop} {F : Nat → Int32 → Sg → Prop} (C : kC p s m args meth c k_Pl_refresh 3 (none) GW R_Pl D vwCl g (Zk g) A) (j1 : J_Pl_refresh_1 p l e s m args below meth c D g A post F) (j2 : J_Pl_refresh_2 p l e s m args below meth c D g A post F) (x1 : Int32) (σ : Sg) (H : Heap) (locs : List Loc) (ls : Array Slot) (hl : lv_has ls 3 [(0, .ref (g.1 29)), (1, .int x1)]) (hst : Wst D vwCl (WS g) A s σ H locs) (h : wb_Pl_refresh_1 F post x1 σ) : W p l e { frames := 5, cells := 0, slots := 0, locals := 111 } s m args below meth c H locs 0 0 (MQ below (QvW D vwCl (WS g) post A) args s 0 0 A) (F0 m 15 ls []) := by
  obtain ⟨hx, hb, hr, hml, hown, hts, hlocks, hK, hZ, hA⟩ := C
  unfold wb_Pl_refresh_1 at h
  refine lv_iload_n hx hb d_Pl_refresh_15 rfl (lv_at hl 1 rfl) ?_
  refine lv_aload_n hx hb d_Pl_refresh_16 rfl (lv_at hl 0 rfl) ?_
  refine va_get (D := D) (ci := 5) (C := R_Pl) (T := T_Pl) (N := 10) hx hb hts in_Pl hown hK hst.1 29 (WS_o29 g σ) rfl 0 (by decide) (hts _ gw233) (fun _ h9 => h9) rfl d_Pl_refresh_17 ?_
  refine va_get (D := D) (ci := 0) (C := R_Tr) (T := T_Tr) (N := 12) hx hb hts in_Tr hown hK hst.1 0 (WS_o0 g σ) rfl 9 (by decide) (hts _ gw169) (fun _ h9 => h9) rfl d_Pl_refresh_20 ?_
  refine lv_icmp_ge (tgt := 43) hx hb d_Pl_refresh_23 (by decide) (fun hc => ?_) (fun hc => ?_)
  · replace h := h.1 hc
    refine lv_iconst (v := (0 : Int32)) hx hb d_Pl_refresh_43 (by decide) ?_
    refine lv_istore_n hx hb d_Pl_refresh_44 rfl hl (by decide) rfl (fun ls hl => ?_)
    have hl : lv_has ls 3 [(1, .int (0 : Int32)), (0, .ref (g.1 29))] := hl
    exact j2 (0 : Int32) σ _ _ _ (lv_sub hl [1, 0] rfl) hst h
  · replace h := h.2 hc
    refine lv_aload_n hx hb d_Pl_refresh_26 rfl (lv_at hl 0 rfl) ?_
    refine va_get (D := D) (ci := 5) (C := R_Pl) (T := T_Pl) (N := 10) hx hb hts in_Pl hown hK hst.1 29 (WS_o29 g σ) rfl 2 (by decide) (hts _ gw236) (fun _ h9 => h9) rfl d_Pl_refresh_27 ?_
    refine lv_iload_n hx hb d_Pl_refresh_30 rfl (lv_at hl 1 rfl) ?_
    refine lv_aload_n hx hb d_Pl_refresh_31 rfl (lv_at hl 0 rfl) ?_
    refine lv_iload_n hx hb d_Pl_refresh_32 rfl (lv_at hl 1 rfl) ?_
    refine kw_calli (va_runV (As := [.int x1]) (rest := [.int x1, .ref (g.1 30)]) (b := g.1 29) ⟨hx, hb, hml, hown, hts⟩ (c_Pl_wordOf l x1 h) (cwV 1 hts (gd_v gw746 gw748 gs13 gw10 gw749) rfl rfl rfl (by decide +kernel) ⟨Nat.le_of_ble_eq_true rfl, Nat.le_of_ble_eq_true rfl⟩) ⟨kw_blind (Zk_ok g), va_recv hK hst.1 rfl (WS_o29 g σ), kw_pre (Zk_ok g) hK hZ hA hst⟩ rfl rfl hl.1 rfl (lv_room (Nat.le_of_ble_eq_true rfl)) d_Pl_refresh_33 ⟨Nat.le_of_ble_eq_true rfl, Nat.le_of_ble_eq_true rfl⟩) hst hA (fun r1 σ1 H locs h hst => ?_)
    obtain ⟨hi, h⟩ := h
    refine kw_iast hx hb hK hst 30 (WS_a30 g σ1) hi (WS_s30 g σ1 _ _) d_Pl_refresh_36 (fun σ2 H locs e2 hst => ?_)
    replace h := h σ2 e2
    refine lv_iinc (k := 1) (v := (x1 + 1)) hx hb d_Pl_refresh_37 hl rfl (kw_inc _ (by decide)) (by decide) rfl (fun ls hl => ?_)
    have hl : lv_has ls 3 [(1, .int (x1 + 1)), (0, .ref (g.1 29))] := hl
    refine lv_goto (tgt := 15) hx hb d_Pl_refresh_40 (by decide) ?_
    exact j1 (x1 + 1) σ2 _ _ _ (lv_sub hl [1, 0] rfl) hst h
set_option maxRecDepth 100000 in
set_option maxHeartbeats 4000000 in
theorem b_Pl_refresh_2 {p : Program} {l : Launch} {e : Env} {s : State} {m : MethodId} {args : Array Value} {below : List Frame} {meth : Method} {c : Code} {D : va_G} {g : Gm} {A : Nat → Prop} {post : Sg → Prop} {F : Nat → Int32 → Sg → Prop} (C : kC p s m args meth c k_Pl_refresh 3 (none) GW R_Pl D vwCl g (Zk g) A) (j2 : J_Pl_refresh_2 p l e s m args below meth c D g A post F) (x1 : Int32) (σ : Sg) (H : Heap) (locs : List Loc) (ls : Array Slot) (hl : lv_has ls 3 [(0, .ref (g.1 29)), (1, .int x1)]) (hst : Wst D vwCl (WS g) A s σ H locs) (h : wb_Pl_refresh_2 F post x1 σ) : W p l e { frames := 5, cells := 0, slots := 0, locals := 111 } s m args below meth c H locs 0 0 (MQ below (QvW D vwCl (WS g) post A) args s 0 0 A) (F0 m 45 ls []) := by
  obtain ⟨hx, hb, hr, hml, hown, hts, hlocks, hK, hZ, hA⟩ := C
  unfold wb_Pl_refresh_2 at h
  refine lv_iload_n hx hb d_Pl_refresh_45 rfl (lv_at hl 1 rfl) ?_
  refine lv_aload_n hx hb d_Pl_refresh_46 rfl (lv_at hl 0 rfl) ?_
  refine va_get (D := D) (ci := 5) (C := R_Pl) (T := T_Pl) (N := 10) hx hb hts in_Pl hown hK hst.1 29 (WS_o29 g σ) rfl 0 (by decide) (hts _ gw233) (fun _ h9 => h9) rfl d_Pl_refresh_47 ?_
  refine va_get (D := D) (ci := 0) (C := R_Tr) (T := T_Tr) (N := 12) hx hb hts in_Tr hown hK hst.1 0 (WS_o0 g σ) rfl 9 (by decide) (hts _ gw169) (fun _ h9 => h9) rfl d_Pl_refresh_50 ?_
  refine lv_icmp_ge (tgt := 111) hx hb d_Pl_refresh_53 (by decide) (fun hc => ?_) (fun hc => ?_)
  · replace h := h.1 hc
    refine lv_aload_n hx hb d_Pl_refresh_111 rfl (lv_at hl 0 rfl) ?_
    refine kw_callv (va_runV (As := []) (rest := []) (b := g.1 29) ⟨hx, hb, hml, hown, hts⟩ (c_Pl_arrange l h) (cwV 0 hts (gd_v gw761 gw763 gs15 gw10 gw764) rfl rfl rfl (by decide +kernel) ⟨Nat.le_of_ble_eq_true rfl, Nat.le_of_ble_eq_true rfl⟩) ⟨kw_blind (Zk_ok g), va_recv hK hst.1 rfl (WS_o29 g σ), kw_pre (Zk_ok g) hK hZ hA hst⟩ rfl rfl hl.1 rfl (lv_room (Nat.le_of_ble_eq_true rfl)) d_Pl_refresh_112 ⟨Nat.le_of_ble_eq_true rfl, Nat.le_of_ble_eq_true rfl⟩) hst hA (fun σ1 H locs h hst => ?_)
    exact kw_vret hx hb hr hlocks hst h d_Pl_refresh_115
  · replace h := h.2 hc
    refine lv_aload_n hx hb d_Pl_refresh_56 rfl (lv_at hl 0 rfl) ?_
    refine va_get (D := D) (ci := 5) (C := R_Pl) (T := T_Pl) (N := 10) hx hb hts in_Pl hown hK hst.1 29 (WS_o29 g σ) rfl 3 (by decide) (hts _ gw240) (fun _ h9 => h9) rfl d_Pl_refresh_57 ?_
    refine lv_iload_n hx hb d_Pl_refresh_60 rfl (lv_at hl 1 rfl) ?_
    refine lv_aload_n hx hb d_Pl_refresh_61 rfl (lv_at hl 0 rfl) ?_
    refine lv_iload_n hx hb d_Pl_refresh_62 rfl (lv_at hl 1 rfl) ?_
    refine kw_calli (va_runV (As := [.int x1]) (rest := [.int x1, .ref (g.1 31)]) (b := g.1 29) ⟨hx, hb, hml, hown, hts⟩ (c_Pl_targetOf l x1 h) (cwV 1 hts (gd_v gw753 gw755 gs14 gw10 gw756) rfl rfl rfl (by decide +kernel) ⟨Nat.le_of_ble_eq_true rfl, Nat.le_of_ble_eq_true rfl⟩) ⟨kw_blind (Zk_ok g), va_recv hK hst.1 rfl (WS_o29 g σ), kw_pre (Zk_ok g) hK hZ hA hst⟩ rfl rfl hl.1 rfl (lv_room (Nat.le_of_ble_eq_true rfl)) d_Pl_refresh_63 ⟨Nat.le_of_ble_eq_true rfl, Nat.le_of_ble_eq_true rfl⟩) hst hA (fun r1 σ1 H locs h hst => ?_)
    obtain ⟨hi, h⟩ := h
    refine kw_iast hx hb hK hst 31 (WS_a31 g σ1) hi (WS_s31 g σ1 _ _) d_Pl_refresh_66 (fun σ2 H locs e2 hst => ?_)
    replace h := h σ2 e2
    refine lv_aload_n hx hb d_Pl_refresh_67 rfl (lv_at hl 0 rfl) ?_
    refine lv_iload_n hx hb d_Pl_refresh_68 rfl (lv_at hl 1 rfl) ?_
    refine lv_bipush (v := (12 : Int32)) hx hb d_Pl_refresh_69 (by decide) ?_
    refine kw_calli (va_runV (As := [.int x1, .int (12 : Int32)]) (rest := []) (b := g.1 29) ⟨hx, hb, hml, hown, hts⟩ (c_Pl_childBy l x1 (12 : Int32) h) (cwV 2 hts (gd_v gw757 gw758 gw759 gw10 gw760) rfl rfl rfl (by decide +kernel) ⟨Nat.le_of_ble_eq_true rfl, Nat.le_of_ble_eq_true rfl⟩) ⟨kw_blind (Zk_ok g), va_recv hK hst.1 rfl (WS_o29 g σ2), kw_pre (Zk_ok g) hK hZ hA hst⟩ rfl rfl hl.1 rfl (lv_room (Nat.le_of_ble_eq_true rfl)) d_Pl_refresh_71 ⟨Nat.le_of_ble_eq_true rfl, Nat.le_of_ble_eq_true rfl⟩) hst hA (fun r3 σ3 H locs h hst => ?_)
    refine lv_istore_n hx hb d_Pl_refresh_74 rfl hl (by decide) rfl (fun ls hl => ?_)
    have hl : lv_has ls 3 [(2, .int r3), (0, .ref (g.1 29)), (1, .int x1)] := hl
    refine lv_aload_n hx hb d_Pl_refresh_75 rfl (lv_at hl 1 rfl) ?_
    refine va_get (D := D) (ci := 5) (C := R_Pl) (T := T_Pl) (N := 10) hx hb hts in_Pl hown hK hst.1 29 (WS_o29 g σ3) rfl 4 (by decide) (hts _ gw244) (fun _ h9 => h9) rfl d_Pl_refresh_76 ?_
    refine lv_iload_n hx hb d_Pl_refresh_79 rfl (lv_at hl 2 rfl) ?_
    refine lv_iload_n hx hb d_Pl_refresh_80 rfl (lv_at hl 0 rfl) ?_
    refine lv_iconst (v := (-1 : Int32)) hx hb d_Pl_refresh_81 (by decide) ?_
    refine lv_icmp_eq (tgt := 103) hx hb d_Pl_refresh_82 (by decide) (fun hc => ?_) (fun hc => ?_)
    · replace h := h.1 hc
      refine lv_iconst (v := (-1 : Int32)) hx hb d_Pl_refresh_103 (by decide) ?_
      obtain ⟨hi, h⟩ := h
      refine kw_iast hx hb hK hst 32 (WS_a32 g σ3) hi (WS_s32 g σ3 _ _) d_Pl_refresh_104 (fun σ4 H locs e4 hst => ?_)
      replace h := h σ4 e4
      refine lv_iinc (k := 2) (v := (x1 + 1)) hx hb d_Pl_refresh_105 hl rfl (kw_inc _ (by decide)) (by decide) rfl (fun ls hl => ?_)
      have hl : lv_has ls 3 [(1, .int (x1 + 1)), (2, .int r3), (0, .ref (g.1 29))] := hl
      refine lv_goto (tgt := 45) hx hb d_Pl_refresh_108 (by decide) ?_
      exact j2 (x1 + 1) σ4 _ _ _ (lv_sub hl [2, 0] rfl) hst h
    · replace h := h.2 hc
      refine lv_aload_n hx hb d_Pl_refresh_85 rfl (lv_at hl 1 rfl) ?_
      refine va_get (D := D) (ci := 5) (C := R_Pl) (T := T_Pl) (N := 10) hx hb hts in_Pl hown hK hst.1 29 (WS_o29 g σ3) rfl 0 (by decide) (hts _ gw233) (fun _ h9 => h9) rfl d_Pl_refresh_86 ?_
      refine va_get (D := D) (ci := 0) (C := R_Tr) (T := T_Tr) (N := 12) hx hb hts in_Tr hown hK hst.1 0 (WS_o0 g σ3) rfl 1 (by decide) (hts _ gw132) (fun _ h9 => h9) rfl d_Pl_refresh_89 ?_
      refine lv_iload_n hx hb d_Pl_refresh_92 rfl (lv_at hl 0 rfl) ?_
      obtain ⟨hi, h⟩ := h
      refine va_iald hx hb hK hst.1 1 0 (WS_a1 g σ3) rfl hi d_Pl_refresh_93 ?_
      refine lv_bipush (v := (6 : Int32)) hx hb d_Pl_refresh_94 (by decide) ?_
      refine lv_icmp_ne (tgt := 103) hx hb d_Pl_refresh_96 (by decide) (fun hc => ?_) (fun hc => ?_)
      · replace h := h.1 hc
        refine lv_iconst (v := (-1 : Int32)) hx hb d_Pl_refresh_103 (by decide) ?_
        obtain ⟨hi, h⟩ := h
        refine kw_iast hx hb hK hst 32 (WS_a32 g σ3) hi (WS_s32 g σ3 _ _) d_Pl_refresh_104 (fun σ4 H locs e4 hst => ?_)
        replace h := h σ4 e4
        refine lv_iinc (k := 2) (v := (x1 + 1)) hx hb d_Pl_refresh_105 hl rfl (kw_inc _ (by decide)) (by decide) rfl (fun ls hl => ?_)
        have hl : lv_has ls 3 [(1, .int (x1 + 1)), (2, .int r3), (0, .ref (g.1 29))] := hl
        refine lv_goto (tgt := 45) hx hb d_Pl_refresh_108 (by decide) ?_
        exact j2 (x1 + 1) σ4 _ _ _ (lv_sub hl [2, 0] rfl) hst h
      · replace h := h.2 hc
        refine lv_iload_n hx hb d_Pl_refresh_99 rfl (lv_at hl 0 rfl) ?_
        refine lv_goto (tgt := 104) hx hb d_Pl_refresh_100 (by decide) ?_
        obtain ⟨hi, h⟩ := h
        refine kw_iast hx hb hK hst 32 (WS_a32 g σ3) hi (WS_s32 g σ3 _ _) d_Pl_refresh_104 (fun σ4 H locs e4 hst => ?_)
        replace h := h σ4 e4
        refine lv_iinc (k := 2) (v := (x1 + 1)) hx hb d_Pl_refresh_105 hl rfl (kw_inc _ (by decide)) (by decide) rfl (fun ls hl => ?_)
        have hl : lv_has ls 3 [(1, .int (x1 + 1)), (2, .int r3), (0, .ref (g.1 29))] := hl
        refine lv_goto (tgt := 45) hx hb d_Pl_refresh_108 (by decide) ?_
        exact j2 (x1 + 1) σ4 _ _ _ (lv_sub hl [2, 0] rfl) hst h
set_option maxRecDepth 100000 in
set_option maxHeartbeats 4000000 in
theorem a_Pl_refresh {p : Program} {l : Launch} {e : Env} {s : State} {m : MethodId} {args : Array Value} {below : List Frame} {meth : Method} {c : Code} {D : va_G} {g : Gm} {A : Nat → Prop} {post : Sg → Prop} (C : kC p s m args meth c k_Pl_refresh 3 (none) GW R_Pl D vwCl g (Zk g) A) : ∀ n : Nat, J_Pl_refresh_1 p l e s m args below meth c D g A post (wp_Pl_refresh post n) ∧ J_Pl_refresh_2 p l e s m args below meth c D g A post (wp_Pl_refresh post n) := by
  intro n
  induction n with
  | zero => exact ⟨fun _ _ _ _ _ _ _ h => h.elim, fun _ _ _ _ _ _ _ h => h.elim⟩
  | succ n ih => exact ⟨fun x1 σ H locs ls hl hst h => b_Pl_refresh_1 (F := wp_Pl_refresh post n) C (ih.1) (ih.2) x1 σ H locs ls hl hst h, fun x1 σ H locs ls hl hst h => b_Pl_refresh_2 (F := wp_Pl_refresh post n) C (ih.2) x1 σ H locs ls hl hst h⟩
set_option maxRecDepth 100000 in
set_option maxHeartbeats 4000000 in
theorem c_Pl_refresh (l : Launch) {D : va_G} {g : Gm} {sz : Nat} {σ : Sg} {post : Sg → Prop} (h : wq_Pl_refresh σ post) : Met l y_Pl_refresh (.code y_Pl_refresh k_Pl_refresh 3 (none) :: GW) { frames := 5, cells := 0, slots := 0, locals := 111 } (PcW D vwCl (WS g) g (Zk g) σ sz [.ref (g.1 29)]) (QvW D vwCl (WS g) post (va_A (WS g σ) sz)) 0 0 (va_A (WS g σ) sz) := by
  refine kw_entry (own := R_Pl) (by decide) rfl rfl (Nat.le_of_ble_eq_true rfl) ?_
  intro p e s m below meth c ls hsz C hin hl hst
  obtain ⟨n, h⟩ := h
  cases n with
  | zero => exact h.elim
  | succ n =>
    have ih := a_Pl_refresh (l := l) (e := e) (below := below) (post := post) C n
    exact b_Pl_refresh_0 (F := wp_Pl_refresh post n) C (ih.1) σ _ _ ls hl hst h
