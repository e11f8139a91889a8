/-! SchemaDeskModel.isKind (II)Z -/
abbrev k_Md_isKind : ByteArray := prog_12_method_48_code
abbrev y_Md_isKind : MethodName := ⟨"SchemaDeskModel", "isKind", "(II)Z"⟩
theorem d_Md_isKind_0 : decode k_Md_isKind 0 = .ok (.aload_n 0, 1) := by decide +kernel
theorem d_Md_isKind_1 : decode k_Md_isKind 1 = .ok (.aload_n 0, 1) := by decide +kernel
theorem d_Md_isKind_2 : decode k_Md_isKind 2 = .ok (.getfield 80, 3) := by decide +kernel
theorem d_Md_isKind_5 : decode k_Md_isKind 5 = .ok (.iload_n 1, 1) := by decide +kernel
theorem d_Md_isKind_6 : decode k_Md_isKind 6 = .ok (.iaload, 1) := by decide +kernel
theorem d_Md_isKind_7 : decode k_Md_isKind 7 = .ok (.iconst 1, 1) := by decide +kernel
theorem d_Md_isKind_8 : decode k_Md_isKind 8 = .ok (.iadd, 1) := by decide +kernel
theorem d_Md_isKind_9 : decode k_Md_isKind 9 = .ok (.aload_n 0, 1) := by decide +kernel
theorem d_Md_isKind_10 : decode k_Md_isKind 10 = .ok (.getfield 86, 3) := by decide +kernel
theorem d_Md_isKind_13 : decode k_Md_isKind 13 = .ok (.iload_n 1, 1) := by decide +kernel
theorem d_Md_isKind_14 : decode k_Md_isKind 14 = .ok (.iaload, 1) := by decide +kernel
theorem d_Md_isKind_15 : decode k_Md_isKind 15 = .ok (.invokevirtual 231, 3) := by decide +kernel
theorem d_Md_isKind_18 : decode k_Md_isKind 18 = .ok (.lstore_n 3, 1) := by decide +kernel
theorem d_Md_isKind_19 : decode k_Md_isKind 19 = .ok (.aload_n 0, 1) := by decide +kernel
theorem d_Md_isKind_20 : decode k_Md_isKind 20 = .ok (.getfield 77, 3) := by decide +kernel
theorem d_Md_isKind_23 : decode k_Md_isKind 23 = .ok (.iload_n 2, 1) := by decide +kernel
theorem d_Md_isKind_24 : decode k_Md_isKind 24 = .ok (.iaload, 1) := by decide +kernel
theorem d_Md_isKind_25 : decode k_Md_isKind 25 = .ok (.istore 5, 2) := by decide +kernel
theorem d_Md_isKind_27 : decode k_Md_isKind 27 = .ok (.iload 5, 2) := by decide +kernel
theorem d_Md_isKind_29 : decode k_Md_isKind 29 = .ok (.ifCond .ne 8, 3) := by decide +kernel
theorem d_Md_isKind_32 : decode k_Md_isKind 32 = .ok (.bipush 22, 2) := by decide +kernel
theorem d_Md_isKind_34 : decode k_Md_isKind 34 = .ok (.goto 19, 3) := by decide +kernel
theorem d_Md_isKind_37 : decode k_Md_isKind 37 = .ok (.iload 5, 2) := by decide +kernel
theorem d_Md_isKind_39 : decode k_Md_isKind 39 = .ok (.iconst 2, 1) := by decide +kernel
theorem d_Md_isKind_40 : decode k_Md_isKind 40 = .ok (.if_icmp .gt 8, 3) := by decide +kernel
theorem d_Md_isKind_43 : decode k_Md_isKind 43 = .ok (.bipush 23, 2) := by decide +kernel
theorem d_Md_isKind_45 : decode k_Md_isKind 45 = .ok (.goto 8, 3) := by decide +kernel
theorem d_Md_isKind_48 : decode k_Md_isKind 48 = .ok (.iload 5, 2) := by decide +kernel
theorem d_Md_isKind_50 : decode k_Md_isKind 50 = .ok (.bipush 21, 2) := by decide +kernel
theorem d_Md_isKind_52 : decode k_Md_isKind 52 = .ok (.iadd, 1) := by decide +kernel
theorem d_Md_isKind_53 : decode k_Md_isKind 53 = .ok (.istore 6, 2) := by decide +kernel
theorem d_Md_isKind_55 : decode k_Md_isKind 55 = .ok (.lload_n 3, 1) := by decide +kernel
theorem d_Md_isKind_56 : decode k_Md_isKind 56 = .ok (.aload_n 0, 1) := by decide +kernel
theorem d_Md_isKind_57 : decode k_Md_isKind 57 = .ok (.getfield 61, 3) := by decide +kernel
theorem d_Md_isKind_60 : decode k_Md_isKind 60 = .ok (.iload 6, 2) := by decide +kernel
theorem d_Md_isKind_62 : decode k_Md_isKind 62 = .ok (.iconst 1, 1) := by decide +kernel
theorem d_Md_isKind_63 : decode k_Md_isKind 63 = .ok (.isub, 1) := by decide +kernel
theorem d_Md_isKind_64 : decode k_Md_isKind 64 = .ok (.laload, 1) := by decide +kernel
theorem d_Md_isKind_65 : decode k_Md_isKind 65 = .ok (.lcmp, 1) := by decide +kernel
theorem d_Md_isKind_66 : decode k_Md_isKind 66 = .ok (.ifCond .ne 7, 3) := by decide +kernel
theorem d_Md_isKind_69 : decode k_Md_isKind 69 = .ok (.iconst 1, 1) := by decide +kernel
theorem d_Md_isKind_70 : decode k_Md_isKind 70 = .ok (.goto 4, 3) := by decide +kernel
theorem d_Md_isKind_73 : decode k_Md_isKind 73 = .ok (.iconst 0, 1) := by decide +kernel
theorem d_Md_isKind_74 : decode k_Md_isKind 74 = .ok (.ireturn, 1) := by decide +kernel
def wb_Md_isKind_0 (F : Nat → Int32 → Int32 → Int32 → Int64 → Sg → Prop) (post : Int32 → Sg → Prop) (x1 : Int32) (x2 : Int32) (σ : Sg) : Prop := (vp_in x1 240 ∧ (vp_in x1 240 ∧ (wq_Md_packed ((σ.1 60 x1.toNatClampNeg) + (1 : Int32)) (σ.1 62 x1.toNatClampNeg) σ (fun r1 σ1 => (vp_in x2 240 ∧ ((¬ (σ1.1 59 x2.toNatClampNeg) = 0 → (((2 : Int32) < (σ1.1 59 x2.toNatClampNeg) → F 1 0 0 ((σ1.1 59 x2.toNatClampNeg) + (21 : Int32)) r1 σ1) ∧ (¬ (2 : Int32) < (σ1.1 59 x2.toNatClampNeg) → F 1 0 0 (23 : Int32) r1 σ1))) ∧ ((σ1.1 59 x2.toNatClampNeg) = 0 → F 1 0 0 (22 : Int32) r1 σ1)))))))
def wb_Md_isKind_1 (F : Nat → Int32 → Int32 → Int32 → Int64 → Sg → Prop) (post : Int32 → Sg → Prop) (y3 : Int64) (x6 : Int32) (σ : Sg) : Prop := (vp_in (x6 - (1 : Int32)) 27 ∧ ((¬ (lg_cmp y3 (σ.2.1 55 ((x6 - (1 : Int32)) : Int32).toNatClampNeg)) = 0 → (narrow .boolean (.int (0 : Int32)) = .int (0 : Int32) ∧ post (0 : Int32) σ)) ∧ ((lg_cmp y3 (σ.2.1 55 ((x6 - (1 : Int32)) : Int32).toNatClampNeg)) = 0 → (narrow .boolean (.int (1 : Int32)) = .int (1 : Int32) ∧ post (1 : Int32) σ))))
def wp_Md_isKind (post : Int32 → Sg → Prop) : Nat → Nat → Int32 → Int32 → Int32 → Int64 → Sg → Prop
  | 0, _, _, _, _, _, _ => False
  | n + 1, k, x1, x2, x6, y3, σ => match k with
    | 0 => wb_Md_isKind_0 (wp_Md_isKind post n) post x1 x2 σ
    | 1 => wb_Md_isKind_1 (wp_Md_isKind post n) post y3 x6 σ
    | _ => False
def wq_Md_isKind (x1 : Int32) (x2 : Int32) (σ : Sg) (post : Int32 → Sg → Prop) : Prop := ∃ n, wp_Md_isKind post n 0 x1 x2 0 0 σ
def J_Md_isKind_1 (p : Program) (l : Launch) (e : Env) (s : State) (m : MethodId) (args : Array Value) (below : List Frame) (meth : Method) (c : Code) (D : va_G) (g : Gm) (A : Nat → Prop) (post : Int32 → Sg → Prop) (F : Nat → Int32 → Int32 → Int32 → Int64 → Sg → Prop) : Prop := ∀ (y3 : Int64) (x6 : Int32) (σ : Sg) (H : Heap) (locs : List Loc) (ls : Array Slot), lv_has ls 7 [(0, .ref (g.1 54)), (3, .long y3), (6, .int x6)] → Wst D vwCl (WS g) A s σ H locs → F 1 0 0 x6 y3 σ → W p l e { frames := 2, cells := 0, slots := 0, locals := 46 } s m args below meth c H locs 0 0 (MQ below (QiW D vwCl (WS g) post A) args s 0 0 A) (F0 m 55 ls [])
set_option maxRecDepth 100000 in
set_option maxHeartbeats 4000000 in
theorem b_Md_isKind_0 {p : Program} {l : Launch} {e : Env} {s : State} {m : MethodId} {args : Array Value} {below : List Frame} {meth : Method} {c : Code} {D : va_G} {g : Gm} {A : Nat → Prop} {post : Int32 → Sg → Prop} {F : Nat → Int32 → Int32 → Int32 → Int64 → Sg → Prop} (C : kC p s m args meth c k_Md_isKind 7 (some .boolean) GW R_Md D vwCl g (Zk g) A) (j1 : J_Md_isKind_1 p l e s m args below meth c D g A post F) (x1 : Int32) (x2 : Int32) (σ : Sg) (H : Heap) (locs : List Loc) (ls : Array Slot) (hl : lv_has ls 7 [(0, .ref (g.1 54)), (1, .int x1), (2, .int x2)]) (hst : Wst D vwCl (WS g) A s σ H locs) (h : wb_Md_isKind_0 F post x1 x2 σ) : W p l e { frames := 2, cells := 0, slots := 0, locals := 46 } s m args below meth c H locs 0 0 (MQ below (QiW D vwCl (WS g) post A) args s 0 0 A) (F0 m 0 ls []) := by
  obtain ⟨hx, hb, hr, hml, hown, hts, hlocks, hK, hZ, hA⟩ := C
  unfold wb_Md_isKind_0 at h
  refine lv_aload_n hx hb d_Md_isKind_0 rfl (lv_at hl 0 rfl) ?_
  refine lv_aload_n hx hb d_Md_isKind_1 rfl (lv_at hl 0 rfl) ?_
  refine va_get (D := D) (ci := 10) (C := R_Md) (T := T_Md) (N := 46) hx hb hts in_Md hown hK hst.1 54 (WS_o54 g σ) rfl 6 (by decide) (hts _ gw1070) (fun _ h9 => h9) rfl d_Md_isKind_2 ?_
  refine lv_iload_n hx hb d_Md_isKind_5 rfl (lv_at hl 1 rfl) ?_
  obtain ⟨hi, h⟩ := h
  refine va_iald hx hb hK hst.1 60 0 (WS_a60 g σ) rfl hi d_Md_isKind_6 ?_
  refine lv_iconst (v := (1 : Int32)) hx hb d_Md_isKind_7 (by decide) ?_
  refine lv_iadd hx hb d_Md_isKind_8 ?_
  refine lv_aload_n hx hb d_Md_isKind_9 rfl (lv_at hl 0 rfl) ?_
  refine va_get (D := D) (ci := 10) (C := R_Md) (T := T_Md) (N := 46) hx hb hts in_Md hown hK hst.1 54 (WS_o54 g σ) rfl 8 (by decide) (hts _ gw1072) (fun _ h9 => h9) rfl d_Md_isKind_10 ?_
  refine lv_iload_n hx hb d_Md_isKind_13 rfl (lv_at hl 1 rfl) ?_
  obtain ⟨hi, h⟩ := h
  refine va_iald hx hb hK hst.1 62 0 (WS_a62 g σ) rfl hi d_Md_isKind_14 ?_
  refine kw_calll (va_runV (As := [.int ((σ.1 60 x1.toNatClampNeg) + (1 : Int32)), .int (σ.1 62 x1.toNatClampNeg)]) (rest := []) (b := g.1 54) ⟨hx, hb, hml, hown, hts⟩ (c_Md_packed l ((σ.1 60 x1.toNatClampNeg) + (1 : Int32)) (σ.1 62 x1.toNatClampNeg) h) (cwV 2 hts (gd_v gw1294 gw1296 gs56 gw15 gw1297) rfl rfl rfl (by decide +kernel) ⟨Nat.le_of_ble_eq_true rfl, Nat.le_of_ble_eq_true rfl⟩) ⟨kw_blind (Zk_ok g), va_recv hK hst.1 rfl (WS_o54 g σ), kw_pre (Zk_ok g) hK hZ hA hst⟩ rfl rfl hl.1 rfl (lv_room (Nat.le_of_ble_eq_true rfl)) d_Md_isKind_15 ⟨Nat.le_of_ble_eq_true rfl, Nat.le_of_ble_eq_true rfl⟩) hst hA (fun r1 σ1 H locs h hst => ?_)
  refine lv_lstore_n hx hb d_Md_isKind_18 rfl hl (by decide) rfl (fun ls hl => ?_)
  have hl : lv_has ls 7 [(3, .long r1), (0, .ref (g.1 54)), (1, .int x1), (2, .int x2)] := hl
  refine lv_aload_n hx hb d_Md_isKind_19 rfl (lv_at hl 1 rfl) ?_
  refine va_get (D := D) (ci := 10) (C := R_Md) (T := T_Md) (N := 46) hx hb hts in_Md hown hK hst.1 54 (WS_o54 g σ1) rfl 5 (by decide) (hts _ gw1069) (fun _ h9 => h9) rfl d_Md_isKind_20 ?_
  refine lv_iload_n hx hb d_Md_isKind_23 rfl (lv_at hl 3 rfl) ?_
  obtain ⟨hi, h⟩ := h
  refine va_iald hx hb hK hst.1 59 0 (WS_a59 g σ1) rfl hi d_Md_isKind_24 ?_
  refine lv_istore hx hb d_Md_isKind_25 hl (by decide) rfl (fun ls hl => ?_)
  have hl : lv_has ls 7 [(5, .int (σ1.1 59 x2.toNatClampNeg)), (3, .long r1), (0, .ref (g.1 54)), (1, .int x1), (2, .int x2)] := hl
  refine lv_iload hx hb d_Md_isKind_27 (lv_at hl 0 rfl) ?_
  refine lv_if_ne (tgt := 37) hx hb d_Md_isKind_29 (by decide) (fun hc => ?_) (fun hc => ?_)
  · replace h := h.1 hc
    refine lv_iload hx hb d_Md_isKind_37 (lv_at hl 0 rfl) ?_
    refine lv_iconst (v := (2 : Int32)) hx hb d_Md_isKind_39 (by decide) ?_
    refine lv_icmp_gt (tgt := 48) hx hb d_Md_isKind_40 (by decide) (fun hc => ?_) (fun hc => ?_)
    · replace h := h.1 hc
      refine lv_iload hx hb d_Md_isKind_48 (lv_at hl 0 rfl) ?_
      refine lv_bipush (v := (21 : Int32)) hx hb d_Md_isKind_50 (by decide) ?_
      refine lv_iadd hx hb d_Md_isKind_52 ?_
      refine lv_istore hx hb d_Md_isKind_53 hl (by decide) rfl (fun ls hl => ?_)
      have hl : lv_has ls 7 [(6, .int ((σ1.1 59 x2.toNatClampNeg) + (21 : Int32))), (5, .int (σ1.1 59 x2.toNatClampNeg)), (3, .long r1), (0, .ref (g.1 54)), (1, .int x1), (2, .int x2)] := hl
      exact j1 r1 ((σ1.1 59 x2.toNatClampNeg) + (21 : Int32)) σ1 _ _ _ (lv_sub hl [3, 2, 0] rfl) hst h
    · replace h := h.2 hc
      refine lv_bipush (v := (23 : Int32)) hx hb d_Md_isKind_43 (by decide) ?_
      refine lv_goto (tgt := 53) hx hb d_Md_isKind_45 (by decide) ?_
      refine lv_istore hx hb d_Md_isKind_53 hl (by decide) rfl (fun ls hl => ?_)
      have hl : lv_has ls 7 [(6, .int (23 : Int32)), (5, .int (σ1.1 59 x2.toNatClampNeg)), (3, .long r1), (0, .ref (g.1 54)), (1, .int x1), (2, .int x2)] := hl
      exact j1 r1 (23 : Int32) σ1 _ _ _ (lv_sub hl [3, 2, 0] rfl) hst h
  · replace h := h.2 hc
    refine lv_bipush (v := (22 : Int32)) hx hb d_Md_isKind_32 (by decide) ?_
    refine lv_goto (tgt := 53) hx hb d_Md_isKind_34 (by decide) ?_
    refine lv_istore hx hb d_Md_isKind_53 hl (by decide) rfl (fun ls hl => ?_)
    have hl : lv_has ls 7 [(6, .int (22 : Int32)), (5, .int (σ1.1 59 x2.toNatClampNeg)), (3, .long r1), (0, .ref (g.1 54)), (1, .int x1), (2, .int x2)] := hl
    exact j1 r1 (22 : Int32) σ1 _ _ _ (lv_sub hl [3, 2, 0] rfl) hst h
set_option maxRecDepth 100000 in
set_option maxHeartbeats 4000000 in
theorem b_Md_isKind_1 {p : Program} {l : Launch} {e : Env} {s : State} {m : MethodId} {args : Array Value} {below : List Frame} {meth : Method} {c : Code} {D : va_G} {g : Gm} {A : Nat → Prop} {post : Int32 → Sg → Prop} {F : Nat → Int32 → Int32 → Int32 → Int64 → Sg → Prop} (C : kC p s m args meth c k_Md_isKind 7 (some .boolean) GW R_Md D vwCl g (Zk g) A) (y3 : Int64) (x6 : Int32) (σ : Sg) (H : Heap) (locs : List Loc) (ls : Array Slot) (hl : lv_has ls 7 [(0, .ref (g.1 54)), (3, .long y3), (6, .int x6)]) (hst : Wst D vwCl (WS g) A s σ H locs) (h : wb_Md_isKind_1 F post y3 x6 σ) : W p l e { frames := 2, cells := 0, slots := 0, locals := 46 } s m args below meth c H locs 0 0 (MQ below (QiW D vwCl (WS g) post A) args s 0 0 A) (F0 m 55 ls []) := by
  obtain ⟨hx, hb, hr, hml, hown, hts, hlocks, hK, hZ, hA⟩ := C
  unfold wb_Md_isKind_1 at h
  refine lv_lload_n hx hb d_Md_isKind_55 rfl (lv_at hl 1 rfl) ?_
  refine lv_aload_n hx hb d_Md_isKind_56 rfl (lv_at hl 0 rfl) ?_
  refine va_get (D := D) (ci := 10) (C := R_Md) (T := T_Md) (N := 46) hx hb hts in_Md hown hK hst.1 54 (WS_o54 g σ) rfl 0 (by decide) (hts _ gw1064) (fun _ h9 => h9) rfl d_Md_isKind_57 ?_
  refine lv_iload hx hb d_Md_isKind_60 (lv_at hl 2 rfl) ?_
  refine lv_iconst (v := (1 : Int32)) hx hb d_Md_isKind_62 (by decide) ?_
  refine lv_isub hx hb d_Md_isKind_63 ?_
  obtain ⟨hi, h⟩ := h
  refine va_lald hx hb hK hst.1 55 3 (WS_a55 g σ) rfl hi d_Md_isKind_64 ?_
  refine W.lcmp hx hb d_Md_isKind_65 ?_
  refine lv_if_ne (tgt := 73) hx hb d_Md_isKind_66 (by decide) (fun hc => ?_) (fun hc => ?_)
  · replace h := h.1 hc
    refine lv_iconst (v := (0 : Int32)) hx hb d_Md_isKind_73 (by decide) ?_
    exact kw_zret hx hb hr hlocks hst h d_Md_isKind_74
  · replace h := h.2 hc
    refine lv_iconst (v := (1 : Int32)) hx hb d_Md_isKind_69 (by decide) ?_
    refine lv_goto (tgt := 74) hx hb d_Md_isKind_70 (by decide) ?_
    exact kw_zret hx hb hr hlocks hst h d_Md_isKind_74
set_option maxRecDepth 100000 in
set_option maxHeartbeats 4000000 in
theorem a_Md_isKind {p : Program} {l : Launch} {e : Env} {s : State} {m : MethodId} {args : Array Value} {below : List Frame} {meth : Method} {c : Code} {D : va_G} {g : Gm} {A : Nat → Prop} {post : Int32 → Sg → Prop} (C : kC p s m args meth c k_Md_isKind 7 (some .boolean) GW R_Md D vwCl g (Zk g) A) : ∀ n : Nat, J_Md_isKind_1 p l e s m args below meth c D g A post (wp_Md_isKind post n) := by
  intro n
  induction n with
  | zero => exact fun _ _ _ _ _ _ _ _ h => h.elim
  | succ n ih => exact fun y3 x6 σ H locs ls hl hst h => b_Md_isKind_1 (F := wp_Md_isKind post n) C y3 x6 σ H locs ls hl hst h
set_option maxRecDepth 100000 in
set_option maxHeartbeats 4000000 in
theorem c_Md_isKind (l : Launch) {D : va_G} {g : Gm} {sz : Nat} (x1 : Int32) (x2 : Int32) {σ : Sg} {post : Int32 → Sg → Prop} (h : wq_Md_isKind x1 x2 σ post) : Met l y_Md_isKind (.code y_Md_isKind k_Md_isKind 7 (some .boolean) :: GW) { frames := 2, cells := 0, slots := 0, locals := 46 } (PcW D vwCl (WS g) g (Zk g) σ sz [.ref (g.1 54), .int x1, .int x2]) (QiW D vwCl (WS g) post (va_A (WS g σ) sz)) 0 0 (va_A (WS g σ) sz) := by
  refine kw_entry (own := R_Md) (by decide) rfl rfl (Nat.le_of_ble_eq_true rfl) ?_
  intro p e s m below meth c ls hsz C hin hl hst
  obtain ⟨n, h⟩ := h
  cases n with
  | zero => exact h.elim
  | succ n =>
    have ih := a_Md_isKind (l := l) (e := e) (below := below) (post := post) C n
    exact b_Md_isKind_0 (F := wp_Md_isKind post n) C (ih) x1 x2 σ _ _ ls hl hst h
/-! SchemaDeskModel.typed (II)Z -/
abbrev k_Md_typed : ByteArray := prog_12_method_49_code
abbrev y_Md_typed : MethodName := ⟨"SchemaDeskModel", "typed", "(II)Z"⟩
theorem d_Md_typed_0 : decode k_Md_typed 0 = .ok (.aload_n 0, 1) := by decide +kernel
theorem d_Md_typed_1 : decode k_Md_typed 1 = .ok (.getfield 77, 3) := by decide +kernel
theorem d_Md_typed_4 : decode k_Md_typed 4 = .ok (.iload_n 1, 1) := by decide +kernel
theorem d_Md_typed_5 : decode k_Md_typed 5 = .ok (.iaload, 1) := by decide +kernel
theorem d_Md_typed_6 : decode k_Md_typed 6 = .ok (.iconst 4, 1) := by decide +kernel
theorem d_Md_typed_7 : decode k_Md_typed 7 = .ok (.if_icmp .ne 10, 3) := by decide +kernel
theorem d_Md_typed_10 : decode k_Md_typed 10 = .ok (.aload_n 0, 1) := by decide +kernel
theorem d_Md_typed_11 : decode k_Md_typed 11 = .ok (.iload_n 1, 1) := by decide +kernel
theorem d_Md_typed_12 : decode k_Md_typed 12 = .ok (.iload_n 2, 1) := by decide +kernel
theorem d_Md_typed_13 : decode k_Md_typed 13 = .ok (.invokevirtual 310, 3) := by decide +kernel
theorem d_Md_typed_16 : decode k_Md_typed 16 = .ok (.ireturn, 1) := by decide +kernel
theorem d_Md_typed_17 : decode k_Md_typed 17 = .ok (.aload_n 0, 1) := by decide +kernel
theorem d_Md_typed_18 : decode k_Md_typed 18 = .ok (.getfield 77, 3) := by decide +kernel
theorem d_Md_typed_21 : decode k_Md_typed 21 = .ok (.iload_n 1, 1) := by decide +kernel
theorem d_Md_typed_22 : decode k_Md_typed 22 = .ok (.iaload, 1) := by decide +kernel
theorem d_Md_typed_23 : decode k_Md_typed 23 = .ok (.iconst 5, 1) := by decide +kernel
theorem d_Md_typed_24 : decode k_Md_typed 24 = .ok (.if_icmp .eq 7, 3) := by decide +kernel
theorem d_Md_typed_27 : decode k_Md_typed 27 = .ok (.iconst 1, 1) := by decide +kernel
theorem d_Md_typed_28 : decode k_Md_typed 28 = .ok (.goto 4, 3) := by decide +kernel
theorem d_Md_typed_31 : decode k_Md_typed 31 = .ok (.iconst 0, 1) := by decide +kernel
theorem d_Md_typed_32 : decode k_Md_typed 32 = .ok (.istore_n 3, 1) := by decide +kernel
theorem d_Md_typed_33 : decode k_Md_typed 33 = .ok (.aload_n 0, 1) := by decide +kernel
theorem d_Md_typed_34 : decode k_Md_typed 34 = .ok (.getfield 95, 3) := by decide +kernel
theorem d_Md_typed_37 : decode k_Md_typed 37 = .ok (.iload_n 1, 1) := by decide +kernel
theorem d_Md_typed_38 : decode k_Md_typed 38 = .ok (.iaload, 1) := by decide +kernel
theorem d_Md_typed_39 : decode k_Md_typed 39 = .ok (.istore 4, 2) := by decide +kernel
theorem d_Md_typed_41 : decode k_Md_typed 41 = .ok (.iload 4, 2) := by decide +kernel
theorem d_Md_typed_43 : decode k_Md_typed 43 = .ok (.ifCond .lt 46, 3) := by decide +kernel
theorem d_Md_typed_46 : decode k_Md_typed 46 = .ok (.iload_n 3, 1) := by decide +kernel
theorem d_Md_typed_47 : decode k_Md_typed 47 = .ok (.ifCond .ne 24, 3) := by decide +kernel
theorem d_Md_typed_50 : decode k_Md_typed 50 = .ok (.aload_n 0, 1) := by decide +kernel
theorem d_Md_typed_51 : decode k_Md_typed 51 = .ok (.getfield 77, 3) := by decide +kernel
theorem d_Md_typed_54 : decode k_Md_typed 54 = .ok (.iload 4, 2) := by decide +kernel
theorem d_Md_typed_56 : decode k_Md_typed 56 = .ok (.iaload, 1) := by decide +kernel
theorem d_Md_typed_57 : decode k_Md_typed 57 = .ok (.iconst 4, 1) := by decide +kernel
theorem d_Md_typed_58 : decode k_Md_typed 58 = .ok (.if_icmp .ne 17, 3) := by decide +kernel
theorem d_Md_typed_61 : decode k_Md_typed 61 = .ok (.aload_n 0, 1) := by decide +kernel
theorem d_Md_typed_62 : decode k_Md_typed 62 = .ok (.iload 4, 2) := by decide +kernel
theorem d_Md_typed_64 : decode k_Md_typed 64 = .ok (.iload_n 2, 1) := by decide +kernel
theorem d_Md_typed_65 : decode k_Md_typed 65 = .ok (.invokevirtual 310, 3) := by decide +kernel
theorem d_Md_typed_68 : decode k_Md_typed 68 = .ok (.ifCond .eq 7, 3) := by decide +kernel
theorem d_Md_typed_71 : decode k_Md_typed 71 = .ok (.iconst 1, 1) := by decide +kernel
theorem d_Md_typed_72 : decode k_Md_typed 72 = .ok (.goto 4, 3) := by decide +kernel
theorem d_Md_typed_75 : decode k_Md_typed 75 = .ok (.iconst 0, 1) := by decide +kernel
theorem d_Md_typed_76 : decode k_Md_typed 76 = .ok (.istore_n 3, 1) := by decide +kernel
theorem d_Md_typed_77 : decode k_Md_typed 77 = .ok (.aload_n 0, 1) := by decide +kernel
theorem d_Md_typed_78 : decode k_Md_typed 78 = .ok (.getfield 98, 3) := by decide +kernel
theorem d_Md_typed_81 : decode k_Md_typed 81 = .ok (.iload 4, 2) := by decide +kernel
theorem d_Md_typed_83 : decode k_Md_typed 83 = .ok (.iaload, 1) := by decide +kernel
theorem d_Md_typed_84 : decode k_Md_typed 84 = .ok (.istore 4, 2) := by decide +kernel
theorem d_Md_typed_86 : decode k_Md_typed 86 = .ok (.goto (-45), 3) := by decide +kernel
theorem d_Md_typed_89 : decode k_Md_typed 89 = .ok (.iload_n 3, 1) := by decide +kernel
theorem d_Md_typed_90 : decode k_Md_typed 90 = .ok (.ireturn, 1) := by decide +kernel
theorem gw1408 : (Jvm.Cond.methodLink "SchemaDeskModel" (310 : Nat) ({ cls := "SchemaDeskModel", name := "isKind", desc := "(II)Z" } : Jvm.MethodName)) ∈ GW := gw_t6 (List.mem_of_getElem? (i := 208) rfl) rfl
theorem gw1410 : (Jvm.Cond.instanceMethod ({ cls := "SchemaDeskModel", name := "isKind", desc := "(II)Z" } : Jvm.MethodName)) ∈ GW := gw_t6 (List.mem_of_getElem? (i := 210) rfl) rfl
theorem gs79 : Cond.selects "SchemaDeskModel" ⟨"SchemaDeskModel", "isKind", "(II)Z"⟩ ⟨"SchemaDeskModel", "isKind", "(II)Z"⟩ ∈ GW := gw_p5 (q := (⟨"SchemaDeskModel", "isKind", "(II)Z"⟩, 46)) (List.mem_of_getElem? (i := 15) rfl)
theorem gw1411 : (Jvm.Cond.code ({ cls := "SchemaDeskModel", name := "isKind", desc := "(II)Z" } : Jvm.MethodName) prog_12_method_48_code (7 : Nat) (Option.some Jvm.ClassFile.FieldType.boolean)) ∈ GW := gw_t6 (List.mem_of_getElem? (i := 211) rfl) rfl
def wb_Md_typed_0 (F : Nat → Int32 → Int32 → Int32 → Int32 → Sg → Prop) (post : Int32 → Sg → Prop) (x1 : Int32) (x2 : Int32) (σ : Sg) : Prop := (vp_in x1 240 ∧ ((¬ (σ.1 59 x1.toNatClampNeg) = (4 : Int32) → (vp_in x1 240 ∧ (((σ.1 59 x1.toNatClampNeg) = (5 : Int32) → (vp_in x1 240 ∧ F 1 0 x2 (0 : Int32) (σ.1 65 x1.toNatClampNeg) σ)) ∧ (¬ (σ.1 59 x1.toNatClampNeg) = (5 : Int32) → (vp_in x1 240 ∧ F 1 0 x2 (1 : Int32) (σ.1 65 x1.toNatClampNeg) σ))))) ∧ ((σ.1 59 x1.toNatClampNeg) = (4 : Int32) → (wq_Md_isKind x1 x2 σ (fun r1 σ1 => (narrow .boolean (.int r1) = .int r1 ∧ post r1 σ1))))))
def wb_Md_typed_1 (F : Nat → Int32 → Int32 → Int32 → Int32 → Sg → Prop) (post : Int32 → Sg → Prop) (x2 : Int32) (x3 : Int32) (x4 : Int32) (σ : Sg) : Prop := ((x4 < 0 → (narrow .boolean (.int x3) = .int x3 ∧ post x3 σ)) ∧ (¬ x4 < 0 → ((¬ x3 = 0 → (vp_in x4 240 ∧ F 1 0 x2 (1 : Int32) (σ.1 66 x4.toNatClampNeg) σ)) ∧ (x3 = 0 → (vp_in x4 240 ∧ ((¬ (σ.1 59 x4.toNatClampNeg) = (4 : Int32) → (vp_in x4 240 ∧ F 1 0 x2 (0 : Int32) (σ.1 66 x4.toNatClampNeg) σ)) ∧ ((σ.1 59 x4.toNatClampNeg) = (4 : Int32) → (wq_Md_isKind x4 x2 σ (fun r1 σ1 => ((r1 = 0 → (vp_in x4 240 ∧ F 1 0 x2 (0 : Int32) (σ1.1 66 x4.toNatClampNeg) σ1)) ∧ (¬ r1 = 0 → (vp_in x4 240 ∧ F 1 0 x2 (1 : Int32) (σ1.1 66 x4.toNatClampNeg) σ1))))))))))))
def wp_Md_typed (post : Int32 → Sg → Prop) : Nat → Nat → Int32 → Int32 → Int32 → Int32 → Sg → Prop
  | 0, _, _, _, _, _, _ => False
  | n + 1, k, x1, x2, x3, x4, σ => match k with
    | 0 => wb_Md_typed_0 (wp_Md_typed post n) post x1 x2 σ
    | 1 => wb_Md_typed_1 (wp_Md_typed post n) post x2 x3 x4 σ
    | _ => False
def wq_Md_typed (x1 : Int32) (x2 : Int32) (σ : Sg) (post : Int32 → Sg → Prop) : Prop := ∃ n, wp_Md_typed post n 0 x1 x2 0 0 σ
def J_Md_typed_1 (p : Program) (l : Launch) (e : Env) (s : State) (m : MethodId) (args : Array Value) (below : List Frame) (meth : Method) (c : Code) (D : va_G) (g : Gm) (A : Nat → Prop) (post : Int32 → Sg → Prop) (F : Nat → Int32 → Int32 → Int32 → Int32 → Sg → Prop) : Prop := ∀ (x2 : Int32) (x3 : Int32) (x4 : Int32) (σ : Sg) (H : Heap) (locs : List Loc) (ls : Array Slot), lv_has ls 5 [(0, .ref (g.1 54)), (2, .int x2), (3, .int x3), (4, .int x4)] → Wst D vwCl (WS g) A s σ H locs → F 1 0 x2 x3 x4 σ → W p l e { frames := 3, cells := 0, slots := 0, locals := 72 } s m args below meth c H locs 0 0 (MQ below (QiW D vwCl (WS g) post A) args s 0 0 A) (F0 m 41 ls [])
set_option maxRecDepth 100000 in
set_option maxHeartbeats 4000000 in
theorem b_Md_typed_0 {p : Program} {l : Launch} {e : Env} {s : State} {m : MethodId} {args : Array Value} {below : List Frame} {meth : Method} {c : Code} {D : va_G} {g : Gm} {A : Nat → Prop} {post : Int32 → Sg → Prop} {F : Nat → Int32 → Int32 → Int32 → Int32 → Sg → Prop} (C : kC p s m args meth c k_Md_typed 5 (some .boolean) GW R_Md D vwCl g (Zk g) A) (j1 : J_Md_typed_1 p l e s m args below meth c D g A post F) (x1 : Int32) (x2 : Int32) (σ : Sg) (H : Heap) (locs : List Loc) (ls : Array Slot) (hl : lv_has ls 5 [(0, .ref (g.1 54)), (1, .int x1), (2, .int x2)]) (hst : Wst D vwCl (WS g) A s σ H locs) (h : wb_Md_typed_0 F post x1 x2 σ) : W p l e { frames := 3, cells := 0, slots := 0, locals := 72 } s m args below meth c H locs 0 0 (MQ below (QiW D vwCl (WS g) post A) args s 0 0 A) (F0 m 0 ls []) := by
  obtain ⟨hx, hb, hr, hml, hown, hts, hlocks, hK, hZ, hA⟩ := C
  unfold wb_Md_typed_0 at h
  refine lv_aload_n hx hb d_Md_typed_0 rfl (lv_at hl 0 rfl) ?_
  refine va_get (D := D) (ci := 10) (C := R_Md) (T := T_Md) (N := 46) hx hb hts in_Md hown hK hst.1 54 (WS_o54 g σ) rfl 5 (by decide) (hts _ gw1069) (fun _ h9 => h9) rfl d_Md_typed_1 ?_
  refine lv_iload_n hx hb d_Md_typed_4 rfl (lv_at hl 1 rfl) ?_
  obtain ⟨hi, h⟩ := h
  refine va_iald hx hb hK hst.1 59 0 (WS_a59 g σ) rfl hi d_Md_typed_5 ?_
  refine lv_iconst (v := (4 : Int32)) hx hb d_Md_typed_6 (by decide) ?_
  refine lv_icmp_ne (tgt := 17) hx hb d_Md_typed_7 (by decide) (fun hc => ?_) (fun hc => ?_)
  · replace h := h.1 hc
    refine lv_aload_n hx hb d_Md_typed_17 rfl (lv_at hl 0 rfl) ?_
    refine va_get (D := D) (ci := 10) (C := R_Md) (T := T_Md) (N := 46) hx hb hts in_Md hown hK hst.1 54 (WS_o54 g σ) rfl 5 (by decide) (hts _ gw1069) (fun _ h9 => h9) rfl d_Md_typed_18 ?_
    refine lv_iload_n hx hb d_Md_typed_21 rfl (lv_at hl 1 rfl) ?_
    obtain ⟨hi, h⟩ := h
    refine va_iald hx hb hK hst.1 59 0 (WS_a59 g σ) rfl hi d_Md_typed_22 ?_
    refine lv_iconst (v := (5 : Int32)) hx hb d_Md_typed_23 (by decide) ?_
    refine lv_icmp_eq (tgt := 31) hx hb d_Md_typed_24 (by decide) (fun hc => ?_) (fun hc => ?_)
    · replace h := h.1 hc
      refine lv_iconst (v := (0 : Int32)) hx hb d_Md_typed_31 (by decide) ?_
      refine lv_istore_n hx hb d_Md_typed_32 rfl hl (by decide) rfl (fun ls hl => ?_)
      have hl : lv_has ls 5 [(3, .int (0 : Int32)), (0, .ref (g.1 54)), (1, .int x1), (2, .int x2)] := hl
      refine lv_aload_n hx hb d_Md_typed_33 rfl (lv_at hl 1 rfl) ?_
      refine va_get (D := D) (ci := 10) (C := R_Md) (T := T_Md) (N := 46) hx hb hts in_Md hown hK hst.1 54 (WS_o54 g σ) rfl 11 (by decide) (hts _ gw1075) (fun _ h9 => h9) rfl d_Md_typed_34 ?_
      refine lv_iload_n hx hb d_Md_typed_37 rfl (lv_at hl 2 rfl) ?_
      obtain ⟨hi, h⟩ := h
      refine va_iald hx hb hK hst.1 65 0 (WS_a65 g σ) rfl hi d_Md_typed_38 ?_
      refine lv_istore hx hb d_Md_typed_39 hl (by decide) rfl (fun ls hl => ?_)
      have hl : lv_has ls 5 [(4, .int (σ.1 65 x1.toNatClampNeg)), (3, .int (0 : Int32)), (0, .ref (g.1 54)), (1, .int x1), (2, .int x2)] := hl
      exact j1 x2 (0 : Int32) (σ.1 65 x1.toNatClampNeg) σ _ _ _ (lv_sub hl [2, 4, 1, 0] rfl) hst h
    · replace h := h.2 hc
      refine lv_iconst (v := (1 : Int32)) hx hb d_Md_typed_27 (by decide) ?_
      refine lv_goto (tgt := 32) hx hb d_Md_typed_28 (by decide) ?_
      refine lv_istore_n hx hb d_Md_typed_32 rfl hl (by decide) rfl (fun ls hl => ?_)
      have hl : lv_has ls 5 [(3, .int (1 : Int32)), (0, .ref (g.1 54)), (1, .int x1), (2, .int x2)] := hl
      refine lv_aload_n hx hb d_Md_typed_33 rfl (lv_at hl 1 rfl) ?_
      refine va_get (D := D) (ci := 10) (C := R_Md) (T := T_Md) (N := 46) hx hb hts in_Md hown hK hst.1 54 (WS_o54 g σ) rfl 11 (by decide) (hts _ gw1075) (fun _ h9 => h9) rfl d_Md_typed_34 ?_
      refine lv_iload_n hx hb d_Md_typed_37 rfl (lv_at hl 2 rfl) ?_
      obtain ⟨hi, h⟩ := h
      refine va_iald hx hb hK hst.1 65 0 (WS_a65 g σ) rfl hi d_Md_typed_38 ?_
      refine lv_istore hx hb d_Md_typed_39 hl (by decide) rfl (fun ls hl => ?_)
      have hl : lv_has ls 5 [(4, .int (σ.1 65 x1.toNatClampNeg)), (3, .int (1 : Int32)), (0, .ref (g.1 54)), (1, .int x1), (2, .int x2)] := hl
      exact j1 x2 (1 : Int32) (σ.1 65 x1.toNatClampNeg) σ _ _ _ (lv_sub hl [2, 4, 1, 0] rfl) hst h
  · replace h := h.2 hc
    refine lv_aload_n hx hb d_Md_typed_10 rfl (lv_at hl 0 rfl) ?_
    refine lv_iload_n hx hb d_Md_typed_11 rfl (lv_at hl 1 rfl) ?_
    refine lv_iload_n hx hb d_Md_typed_12 rfl (lv_at hl 2 rfl) ?_
    refine kw_calli (va_runV (As := [.int x1, .int x2]) (rest := []) (b := g.1 54) ⟨hx, hb, hml, hown, hts⟩ (c_Md_isKind l x1 x2 h) (cwV 2 hts (gd_v gw1408 gw1410 gs79 gw15 gw1411) rfl rfl rfl (by decide +kernel) ⟨Nat.le_of_ble_eq_true rfl, Nat.le_of_ble_eq_true rfl⟩) ⟨kw_blind (Zk_ok g), va_recv hK hst.1 rfl (WS_o54 g σ), kw_pre (Zk_ok g) hK hZ hA hst⟩ rfl rfl hl.1 rfl (lv_room (Nat.le_of_ble_eq_true rfl)) d_Md_typed_13 ⟨Nat.le_of_ble_eq_true rfl, Nat.le_of_ble_eq_true rfl⟩) hst hA (fun r1 σ1 H locs h hst => ?_)
    exact kw_zret hx hb hr hlocks hst h d_Md_typed_16
set_option maxRecDepth 100000 in
set_option maxHeartbeats 4000000 in
theorem b_Md_typed_1 {p : Program} {l : Launch} {e : Env} {s : State} {m : MethodId} {args : Array Value} {below : List Frame} {meth : Method} {c : Code} {D : va_G} {g : Gm} {A : Nat → Prop} {post : Int32 → Sg → Prop} {F : Nat → Int32 → Int32 → Int32 → Int32 → Sg → Prop} (C : kC p s m args meth c k_Md_typed 5 (some .boolean) GW R_Md D vwCl g (Zk g) A) (j1 : J_Md_typed_1 p l e s m args below meth c D g A post F) (x2 : Int32) (x3 : Int32) (x4 : Int32) (σ : Sg) (H : Heap) (locs : List Loc) (ls : Array Slot) (hl : lv_has ls 5 [(0, .ref (g.1 54)), (2, .int x2), (3, .int x3), (4, .int x4)]) (hst : Wst D vwCl (WS g) A s σ H locs) (h : wb_Md_typed_1 F post x2 x3 x4 σ) : W p l e { frames := 3, cells := 0, slots := 0, locals := 72 } s m args below meth c H locs 0 0 (MQ below (QiW D vwCl (WS g) post A) args s 0 0 A) (F0 m 41 ls []) := by
  obtain ⟨hx, hb, hr, hml, hown, hts, hlocks, hK, hZ, hA⟩ := C
  unfold wb_Md_typed_1 at h
  refine lv_iload hx hb d_Md_typed_41 (lv_at hl 3 rfl) ?_
  refine lv_if_lt (tgt := 89) hx hb d_Md_typed_43 (by decide) (fun hc => ?_) (fun hc => ?_)
  · replace h := h.1 hc
    refine lv_iload_n hx hb d_Md_typed_89 rfl (lv_at hl 2 rfl) ?_
    exact kw_zret hx hb hr hlocks hst h d_Md_typed_90
  · replace h := h.2 hc
    refine lv_iload_n hx hb d_Md_typed_46 rfl (lv_at hl 2 rfl) ?_
    refine lv_if_ne (tgt := 71) hx hb d_Md_typed_47 (by decide) (fun hc => ?_) (fun hc => ?_)
    · replace h := h.1 hc
      refine lv_iconst (v := (1 : Int32)) hx hb d_Md_typed_71 (by decide) ?_
      refine lv_goto (tgt := 76) hx hb d_Md_typed_72 (by decide) ?_
      refine lv_istore_n hx hb d_Md_typed_76 rfl hl (by decide) rfl (fun ls hl => ?_)
      have hl : lv_has ls 5 [(3, .int (1 : Int32)), (0, .ref (g.1 54)), (2, .int x2), (4, .int x4)] := hl
      refine lv_aload_n hx hb d_Md_typed_77 rfl (lv_at hl 1 rfl) ?_
      refine va_get (D := D) (ci := 10) (C := R_Md) (T := T_Md) (N := 46) hx hb hts in_Md hown hK hst.1 54 (WS_o54 g σ) rfl 12 (by decide) (hts _ gw1076) (fun _ h9 => h9) rfl d_Md_typed_78 ?_
      refine lv_iload hx hb d_Md_typed_81 (lv_at hl 3 rfl) ?_
      obtain ⟨hi, h⟩ := h
      refine va_iald hx hb hK hst.1 66 0 (WS_a66 g σ) rfl hi d_Md_typed_83 ?_
      refine lv_istore hx hb d_Md_typed_84 hl (by decide) rfl (fun ls hl => ?_)
      have hl : lv_has ls 5 [(4, .int (σ.1 66 x4.toNatClampNeg)), (3, .int (1 : Int32)), (0, .ref (g.1 54)), (2, .int x2)] := hl
      refine lv_goto (tgt := 41) hx hb d_Md_typed_86 (by decide) ?_
      exact j1 x2 (1 : Int32) (σ.1 66 x4.toNatClampNeg) σ _ _ _ (lv_sub hl [2, 3, 1, 0] rfl) hst h
    · replace h := h.2 hc
      refine lv_aload_n hx hb d_Md_typed_50 rfl (lv_at hl 0 rfl) ?_
      refine va_get (D := D) (ci := 10) (C := R_Md) (T := T_Md) (N := 46) hx hb hts in_Md hown hK hst.1 54 (WS_o54 g σ) rfl 5 (by decide) (hts _ gw1069) (fun _ h9 => h9) rfl d_Md_typed_51 ?_
      refine lv_iload hx hb d_Md_typed_54 (lv_at hl 3 rfl) ?_
      obtain ⟨hi, h⟩ := h
      refine va_iald hx hb hK hst.1 59 0 (WS_a59 g σ) rfl hi d_Md_typed_56 ?_
      refine lv_iconst (v := (4 : Int32)) hx hb d_Md_typed_57 (by decide) ?_
      refine lv_icmp_ne (tgt := 75) hx hb d_Md_typed_58 (by decide) (fun hc => ?_) (fun hc => ?_)
      · replace h := h.1 hc
        refine lv_iconst (v := (0 : Int32)) hx hb d_Md_typed_75 (by decide) ?_
        refine lv_istore_n hx hb d_Md_typed_76 rfl hl (by decide) rfl (fun ls hl => ?_)
        have hl : lv_has ls 5 [(3, .int (0 : Int32)), (0, .ref (g.1 54)), (2, .int x2), (4, .int x4)] := hl
        refine lv_aload_n hx hb d_Md_typed_77 rfl (lv_at hl 1 rfl) ?_
        refine va_get (D := D) (ci := 10) (C := R_Md) (T := T_Md) (N := 46) hx hb hts in_Md hown hK hst.1 54 (WS_o54 g σ) rfl 12 (by decide) (hts _ gw1076) (fun _ h9 => h9) rfl d_Md_typed_78 ?_
        refine lv_iload hx hb d_Md_typed_81 (lv_at hl 3 rfl) ?_
        obtain ⟨hi, h⟩ := h
        refine va_iald hx hb hK hst.1 66 0 (WS_a66 g σ) rfl hi d_Md_typed_83 ?_
        refine lv_istore hx hb d_Md_typed_84 hl (by decide) rfl (fun ls hl => ?_)
        have hl : lv_has ls 5 [(4, .int (σ.1 66 x4.toNatClampNeg)), (3, .int (0 : Int32)), (0, .ref (g.1 54)), (2, .int x2)] := hl
        refine lv_goto (tgt := 41) hx hb d_Md_typed_86 (by decide) ?_
        exact j1 x2 (0 : Int32) (σ.1 66 x4.toNatClampNeg) σ _ _ _ (lv_sub hl [2, 3, 1, 0] rfl) hst h
      · replace h := h.2 hc
        refine lv_aload_n hx hb d_Md_typed_61 rfl (lv_at hl 0 rfl) ?_
        refine lv_iload hx hb d_Md_typed_62 (lv_at hl 3 rfl) ?_
        refine lv_iload_n hx hb d_Md_typed_64 rfl (lv_at hl 1 rfl) ?_
        refine kw_calli (va_runV (As := [.int x4, .int x2]) (rest := []) (b := g.1 54) ⟨hx, hb, hml, hown, hts⟩ (c_Md_isKind l x4 x2 h) (cwV 2 hts (gd_v gw1408 gw1410 gs79 gw15 gw1411) rfl rfl rfl (by decide +kernel) ⟨Nat.le_of_ble_eq_true rfl, Nat.le_of_ble_eq_true rfl⟩) ⟨kw_blind (Zk_ok g), va_recv hK hst.1 rfl (WS_o54 g σ), kw_pre (Zk_ok g) hK hZ hA hst⟩ rfl rfl hl.1 rfl (lv_room (Nat.le_of_ble_eq_true rfl)) d_Md_typed_65 ⟨Nat.le_of_ble_eq_true rfl, Nat.le_of_ble_eq_true rfl⟩) hst hA (fun r1 σ1 H locs h hst => ?_)
        refine lv_if_eq (tgt := 75) hx hb d_Md_typed_68 (by decide) (fun hc => ?_) (fun hc => ?_)
        · replace h := h.1 hc
          refine lv_iconst (v := (0 : Int32)) hx hb d_Md_typed_75 (by decide) ?_
          refine lv_istore_n hx hb d_Md_typed_76 rfl hl (by decide) rfl (fun ls hl => ?_)
          have hl : lv_has ls 5 [(3, .int (0 : Int32)), (0, .ref (g.1 54)), (2, .int x2), (4, .int x4)] := hl
          refine lv_aload_n hx hb d_Md_typed_77 rfl (lv_at hl 1 rfl) ?_
          refine va_get (D := D) (ci := 10) (C := R_Md) (T := T_Md) (N := 46) hx hb hts in_Md hown hK hst.1 54 (WS_o54 g σ1) rfl 12 (by decide) (hts _ gw1076) (fun _ h9 => h9) rfl d_Md_typed_78 ?_
          refine lv_iload hx hb d_Md_typed_81 (lv_at hl 3 rfl) ?_
          obtain ⟨hi, h⟩ := h
          refine va_iald hx hb hK hst.1 66 0 (WS_a66 g σ1) rfl hi d_Md_typed_83 ?_
          refine lv_istore hx hb d_Md_typed_84 hl (by decide) rfl (fun ls hl => ?_)
          have hl : lv_has ls 5 [(4, .int (σ1.1 66 x4.toNatClampNeg)), (3, .int (0 : Int32)), (0, .ref (g.1 54)), (2, .int x2)] := hl
          refine lv_goto (tgt := 41) hx hb d_Md_typed_86 (by decide) ?_
          exact j1 x2 (0 : Int32) (σ1.1 66 x4.toNatClampNeg) σ1 _ _ _ (lv_sub hl [2, 3, 1, 0] rfl) hst h
        · replace h := h.2 hc
          refine lv_iconst (v := (1 : Int32)) hx hb d_Md_typed_71 (by decide) ?_
          refine lv_goto (tgt := 76) hx hb d_Md_typed_72 (by decide) ?_
          refine lv_istore_n hx hb d_Md_typed_76 rfl hl (by decide) rfl (fun ls hl => ?_)
          have hl : lv_has ls 5 [(3, .int (1 : Int32)), (0, .ref (g.1 54)), (2, .int x2), (4, .int x4)] := hl
          refine lv_aload_n hx hb d_Md_typed_77 rfl (lv_at hl 1 rfl) ?_
          refine va_get (D := D) (ci := 10) (C := R_Md) (T := T_Md) (N := 46) hx hb hts in_Md hown hK hst.1 54 (WS_o54 g σ1) rfl 12 (by decide) (hts _ gw1076) (fun _ h9 => h9) rfl d_Md_typed_78 ?_
          refine lv_iload hx hb d_Md_typed_81 (lv_at hl 3 rfl) ?_
          obtain ⟨hi, h⟩ := h
          refine va_iald hx hb hK hst.1 66 0 (WS_a66 g σ1) rfl hi d_Md_typed_83 ?_
          refine lv_istore hx hb d_Md_typed_84 hl (by decide) rfl (fun ls hl => ?_)
          have hl : lv_has ls 5 [(4, .int (σ1.1 66 x4.toNatClampNeg)), (3, .int (1 : Int32)), (0, .ref (g.1 54)), (2, .int x2)] := hl
          refine lv_goto (tgt := 41) hx hb d_Md_typed_86 (by decide) ?_
          exact j1 x2 (1 : Int32) (σ1.1 66 x4.toNatClampNeg) σ1 _ _ _ (lv_sub hl [2, 3, 1, 0] rfl) hst h
set_option maxRecDepth 100000 in
set_option maxHeartbeats 4000000 in
theorem a_Md_typed {p : Program} {l : Launch} {e : Env} {s : State} {m : MethodId} {args : Array Value} {below : List Frame} {meth : Method} {c : Code} {D : va_G} {g : Gm} {A : Nat → Prop} {post : Int32 → Sg → Prop} (C : kC p s m args meth c k_Md_typed 5 (some .boolean) GW R_Md D vwCl g (Zk g) A) : ∀ n : Nat, J_Md_typed_1 p l e s m args below meth c D g A post (wp_Md_typed post n) := by
  intro n
  induction n with
  | zero => exact fun _ _ _ _ _ _ _ _ _ h => h.elim
  | succ n ih => exact fun x2 x3 x4 σ H locs ls hl hst h => b_Md_typed_1 (F := wp_Md_typed post n) C (ih) x2 x3 x4 σ H locs ls hl hst h
set_option maxRecDepth 100000 in
set_option maxHeartbeats 4000000 in
theorem c_Md_typed (l : Launch) {D : va_G} {g : Gm} {sz : Nat} (x1 : Int32) (x2 : Int32) {σ : Sg} {post : Int32 → Sg → Prop} (h : wq_Md_typed x1 x2 σ post) : Met l y_Md_typed (.code y_Md_typed k_Md_typed 5 (some .boolean) :: GW) { frames := 3, cells := 0, slots := 0, locals := 72 } (PcW D vwCl (WS g) g (Zk g) σ sz [.ref (g.1 54), .int x1, .int x2]) (QiW D vwCl (WS g) post (va_A (WS g σ) sz)) 0 0 (va_A (WS g σ) sz) := by
  refine kw_entry (own := R_Md) (by decide) rfl rfl (Nat.le_of_ble_eq_true rfl) ?_
  intro p e s m below meth c ls hsz C hin hl hst
  obtain ⟨n, h⟩ := h
  cases n with
  | zero => exact h.elim
  | succ n =>
    have ih := a_Md_typed (l := l) (e := e) (below := below) (post := post) C n
    exact b_Md_typed_0 (F := wp_Md_typed post n) C (ih) x1 x2 σ _ _ ls hl hst h
/-! SchemaDeskModel.measured (III)Z -/
abbrev k_Md_measured : ByteArray := prog_12_method_50_code
abbrev y_Md_measured : MethodName := ⟨"SchemaDeskModel", "measured", "(III)Z"⟩
theorem d_Md_measured_0 : decode k_Md_measured 0 = .ok (.iload_n 1, 1) := by decide +kernel
theorem d_Md_measured_1 : decode k_Md_measured 1 = .ok (.bipush 7, 2) := by decide +kernel
theorem d_Md_measured_3 : decode k_Md_measured 3 = .ok (.if_icmp .ge 7, 3) := by decide +kernel
theorem d_Md_measured_6 : decode k_Md_measured 6 = .ok (.iconst 3, 1) := by decide +kernel
theorem d_Md_measured_7 : decode k_Md_measured 7 = .ok (.goto 14, 3) := by decide +kernel
theorem d_Md_measured_10 : decode k_Md_measured 10 = .ok (.iload_n 1, 1) := by decide +kernel
theorem d_Md_measured_11 : decode k_Md_measured 11 = .ok (.bipush 9, 2) := by decide +kernel
theorem d_Md_measured_13 : decode k_Md_measured 13 = .ok (.if_icmp .ge 7, 3) := by decide +kernel
theorem d_Md_measured_16 : decode k_Md_measured 16 = .ok (.iconst 4, 1) := by decide +kernel
theorem d_Md_measured_17 : decode k_Md_measured 17 = .ok (.goto 4, 3) := by decide +kernel
theorem d_Md_measured_20 : decode k_Md_measured 20 = .ok (.iconst 5, 1) := by decide +kernel
theorem d_Md_measured_21 : decode k_Md_measured 21 = .ok (.istore 4, 2) := by decide +kernel
theorem d_Md_measured_23 : decode k_Md_measured 23 = .ok (.aload_n 0, 1) := by decide +kernel
theorem d_Md_measured_24 : decode k_Md_measured 24 = .ok (.getfield 77, 3) := by decide +kernel
theorem d_Md_measured_27 : decode k_Md_measured 27 = .ok (.iload_n 2, 1) := by decide +kernel
theorem d_Md_measured_28 : decode k_Md_measured 28 = .ok (.iaload, 1) := by decide +kernel
theorem d_Md_measured_29 : decode k_Md_measured 29 = .ok (.iconst 3, 1) := by decide +kernel
theorem d_Md_measured_30 : decode k_Md_measured 30 = .ok (.if_icmp .ne 14, 3) := by decide +kernel
theorem d_Md_measured_33 : decode k_Md_measured 33 = .ok (.aload_n 0, 1) := by decide +kernel
theorem d_Md_measured_34 : decode k_Md_measured 34 = .ok (.getfield 77, 3) := by decide +kernel
theorem d_Md_measured_37 : decode k_Md_measured 37 = .ok (.iload_n 3, 1) := by decide +kernel
theorem d_Md_measured_38 : decode k_Md_measured 38 = .ok (.iaload, 1) := by decide +kernel
theorem d_Md_measured_39 : decode k_Md_measured 39 = .ok (.iload 4, 2) := by decide +kernel
theorem d_Md_measured_41 : decode k_Md_measured 41 = .ok (.if_icmp .eq 5, 3) := by decide +kernel
theorem d_Md_measured_44 : decode k_Md_measured 44 = .ok (.iconst 1, 1) := by decide +kernel
theorem d_Md_measured_45 : decode k_Md_measured 45 = .ok (.ireturn, 1) := by decide +kernel
theorem d_Md_measured_46 : decode k_Md_measured 46 = .ok (.aload_n 0, 1) := by decide +kernel
theorem d_Md_measured_47 : decode k_Md_measured 47 = .ok (.getfield 107, 3) := by decide +kernel
theorem d_Md_measured_50 : decode k_Md_measured 50 = .ok (.iload_n 2, 1) := by decide +kernel
theorem d_Md_measured_51 : decode k_Md_measured 51 = .ok (.iaload, 1) := by decide +kernel
theorem d_Md_measured_52 : decode k_Md_measured 52 = .ok (.istore 5, 2) := by decide +kernel
theorem d_Md_measured_54 : decode k_Md_measured 54 = .ok (.iload_n 1, 1) := by decide +kernel
theorem d_Md_measured_55 : decode k_Md_measured 55 = .ok (.bipush 7, 2) := by decide +kernel
theorem d_Md_measured_57 : decode k_Md_measured 57 = .ok (.if_icmp .ge 12, 3) := by decide +kernel
theorem d_Md_measured_60 : decode k_Md_measured 60 = .ok (.aload_n 0, 1) := by decide +kernel
theorem d_Md_measured_61 : decode k_Md_measured 61 = .ok (.getfield 107, 3) := by decide +kernel
theorem d_Md_measured_64 : decode k_Md_measured 64 = .ok (.iload_n 3, 1) := by decide +kernel
theorem d_Md_measured_65 : decode k_Md_measured 65 = .ok (.iaload, 1) := by decide +kernel
theorem d_Md_measured_66 : decode k_Md_measured 66 = .ok (.goto 33, 3) := by decide +kernel
theorem d_Md_measured_69 : decode k_Md_measured 69 = .ok (.iload_n 1, 1) := by decide +kernel
theorem d_Md_measured_70 : decode k_Md_measured 70 = .ok (.bipush 9, 2) := by decide +kernel
theorem d_Md_measured_72 : decode k_Md_measured 72 = .ok (.if_icmp .ge 21, 3) := by decide +kernel
theorem d_Md_measured_75 : decode k_Md_measured 75 = .ok (.aload_n 0, 1) := by decide +kernel
theorem d_Md_measured_76 : decode k_Md_measured 76 = .ok (.getfield 86, 3) := by decide +kernel
theorem d_Md_measured_79 : decode k_Md_measured 79 = .ok (.iload_n 3, 1) := by decide +kernel
theorem d_Md_measured_80 : decode k_Md_measured 80 = .ok (.iaload, 1) := by decide +kernel
theorem d_Md_measured_81 : decode k_Md_measured 81 = .ok (.aload_n 0, 1) := by decide +kernel
theorem d_Md_measured_82 : decode k_Md_measured 82 = .ok (.getfield 80, 3) := by decide +kernel
theorem d_Md_measured_85 : decode k_Md_measured 85 = .ok (.iload_n 3, 1) := by decide +kernel
theorem d_Md_measured_86 : decode k_Md_measured 86 = .ok (.iaload, 1) := by decide +kernel
theorem d_Md_measured_87 : decode k_Md_measured 87 = .ok (.isub, 1) := by decide +kernel
theorem d_Md_measured_88 : decode k_Md_measured 88 = .ok (.iconst 1, 1) := by decide +kernel
theorem d_Md_measured_89 : decode k_Md_measured 89 = .ok (.isub, 1) := by decide +kernel
theorem d_Md_measured_90 : decode k_Md_measured 90 = .ok (.goto 9, 3) := by decide +kernel
theorem d_Md_measured_93 : decode k_Md_measured 93 = .ok (.aload_n 0, 1) := by decide +kernel
theorem d_Md_measured_94 : decode k_Md_measured 94 = .ok (.getfield 92, 3) := by decide +kernel
theorem d_Md_measured_97 : decode k_Md_measured 97 = .ok (.iload_n 3, 1) := by decide +kernel
theorem d_Md_measured_98 : decode k_Md_measured 98 = .ok (.iaload, 1) := by decide +kernel
theorem d_Md_measured_99 : decode k_Md_measured 99 = .ok (.istore 6, 2) := by decide +kernel
theorem d_Md_measured_101 : decode k_Md_measured 101 = .ok (.iload_n 1, 1) := by decide +kernel
theorem d_Md_measured_102 : decode k_Md_measured 102 = .ok (.bipush 6, 2) := by decide +kernel
theorem d_Md_measured_104 : decode k_Md_measured 104 = .ok (.if_icmp .ne 22, 3) := by decide +kernel
theorem d_Md_measured_107 : decode k_Md_measured 107 = .ok (.iload 5, 2) := by decide +kernel
theorem d_Md_measured_109 : decode k_Md_measured 109 = .ok (.ifCond .le 11, 3) := by decide +kernel
theorem d_Md_measured_112 : decode k_Md_measured 112 = .ok (.iload 6, 2) := by decide +kernel
theorem d_Md_measured_114 : decode k_Md_measured 114 = .ok (.iload 5, 2) := by decide +kernel
theorem d_Md_measured_116 : decode k_Md_measured 116 = .ok (.irem, 1) := by decide +kernel
theorem d_Md_measured_117 : decode k_Md_measured 117 = .ok (.ifCond .ne 7, 3) := by decide +kernel
theorem d_Md_measured_120 : decode k_Md_measured 120 = .ok (.iconst 1, 1) := by decide +kernel
theorem d_Md_measured_121 : decode k_Md_measured 121 = .ok (.goto 4, 3) := by decide +kernel
theorem d_Md_measured_124 : decode k_Md_measured 124 = .ok (.iconst 0, 1) := by decide +kernel
theorem d_Md_measured_125 : decode k_Md_measured 125 = .ok (.ireturn, 1) := by decide +kernel
theorem d_Md_measured_126 : decode k_Md_measured 126 = .ok (.iload_n 1, 1) := by decide +kernel
theorem d_Md_measured_127 : decode k_Md_measured 127 = .ok (.iconst 4, 1) := by decide +kernel
theorem d_Md_measured_128 : decode k_Md_measured 128 = .ok (.if_icmp .eq 15, 3) := by decide +kernel
theorem d_Md_measured_131 : decode k_Md_measured 131 = .ok (.iload_n 1, 1) := by decide +kernel
theorem d_Md_measured_132 : decode k_Md_measured 132 = .ok (.bipush 7, 2) := by decide +kernel
theorem d_Md_measured_134 : decode k_Md_measured 134 = .ok (.if_icmp .eq 9, 3) := by decide +kernel
theorem d_Md_measured_137 : decode k_Md_measured 137 = .ok (.iload_n 1, 1) := by decide +kernel
theorem d_Md_measured_138 : decode k_Md_measured 138 = .ok (.bipush 9, 2) := by decide +kernel
theorem d_Md_measured_140 : decode k_Md_measured 140 = .ok (.if_icmp .ne 18, 3) := by decide +kernel
theorem d_Md_measured_143 : decode k_Md_measured 143 = .ok (.iload 6, 2) := by decide +kernel
theorem d_Md_measured_145 : decode k_Md_measured 145 = .ok (.iload 5, 2) := by decide +kernel
theorem d_Md_measured_147 : decode k_Md_measured 147 = .ok (.if_icmp .lt 7, 3) := by decide +kernel
theorem d_Md_measured_150 : decode k_Md_measured 150 = .ok (.iconst 1, 1) := by decide +kernel
theorem d_Md_measured_151 : decode k_Md_measured 151 = .ok (.goto 19, 3) := by decide +kernel
theorem d_Md_measured_154 : decode k_Md_measured 154 = .ok (.iconst 0, 1) := by decide +kernel
theorem d_Md_measured_155 : decode k_Md_measured 155 = .ok (.goto 15, 3) := by decide +kernel
theorem d_Md_measured_158 : decode k_Md_measured 158 = .ok (.iload 6, 2) := by decide +kernel
theorem d_Md_measured_160 : decode k_Md_measured 160 = .ok (.iload 5, 2) := by decide +kernel
theorem d_Md_measured_162 : decode k_Md_measured 162 = .ok (.if_icmp .gt 7, 3) := by decide +kernel
theorem d_Md_measured_165 : decode k_Md_measured 165 = .ok (.iconst 1, 1) := by decide +kernel
theorem d_Md_measured_166 : decode k_Md_measured 166 = .ok (.goto 4, 3) := by decide +kernel
theorem d_Md_measured_169 : decode k_Md_measured 169 = .ok (.iconst 0, 1) := by decide +kernel
theorem d_Md_measured_170 : decode k_Md_measured 170 = .ok (.ireturn, 1) := by decide +kernel
def wb_Md_measured_0 (F : Nat → Int32 → Int32 → Int32 → Int32 → Int32 → Int32 → Sg → Prop) (post : Int32 → Sg → Prop) (x1 : Int32) (x2 : Int32) (x3 : Int32) (σ : Sg) : Prop := (((7 : Int32) ≤ x1 → (((9 : Int32) ≤ x1 → F 1 x1 x2 x3 (5 : Int32) 0 0 σ) ∧ (¬ (9 : Int32) ≤ x1 → F 1 x1 x2 x3 (4 : Int32) 0 0 σ))) ∧ (¬ (7 : Int32) ≤ x1 → F 1 x1 x2 x3 (3 : Int32) 0 0 σ))
def wb_Md_measured_1 (F : Nat → Int32 → Int32 → Int32 → Int32 → Int32 → Int32 → Sg → Prop) (post : Int32 → Sg → Prop) (x1 : Int32) (x2 : Int32) (x3 : Int32) (x4 : Int32) (σ : Sg) : Prop := (vp_in x2 240 ∧ ((¬ (σ.1 59 x2.toNatClampNeg) = (3 : Int32) → (narrow .boolean (.int (1 : Int32)) = .int (1 : Int32) ∧ post (1 : Int32) σ)) ∧ ((σ.1 59 x2.toNatClampNeg) = (3 : Int32) → (vp_in x3 240 ∧ (((σ.1 59 x3.toNatClampNeg) = x4 → (vp_in x2 240 ∧ (((7 : Int32) ≤ x1 → (((9 : Int32) ≤ x1 → (vp_in x3 240 ∧ F 2 x1 0 0 0 (σ.1 69 x2.toNatClampNeg) (σ.1 64 x3.toNatClampNeg) σ)) ∧ (¬ (9 : Int32) ≤ x1 → (vp_in x3 240 ∧ (vp_in x3 240 ∧ F 2 x1 0 0 0 (σ.1 69 x2.toNatClampNeg) (((σ.1 62 x3.toNatClampNeg) - (σ.1 60 x3.toNatClampNeg)) - (1 : Int32)) σ))))) ∧ (¬ (7 : Int32) ≤ x1 → (vp_in x3 240 ∧ F 2 x1 0 0 0 (σ.1 69 x2.toNatClampNeg) (σ.1 69 x3.toNatClampNeg) σ))))) ∧ (¬ (σ.1 59 x3.toNatClampNeg) = x4 → (narrow .boolean (.int (1 : Int32)) = .int (1 : Int32) ∧ post (1 : Int32) σ)))))))
def wb_Md_measured_2 (F : Nat → Int32 → Int32 → Int32 → Int32 → Int32 → Int32 → Sg → Prop) (post : Int32 → Sg → Prop) (x1 : Int32) (x5 : Int32) (x6 : Int32) (σ : Sg) : Prop := ((¬ x1 = (6 : Int32) → ((x1 = (4 : Int32) → ((x6 < x5 → (narrow .boolean (.int (0 : Int32)) = .int (0 : Int32) ∧ post (0 : Int32) σ)) ∧ (¬ x6 < x5 → (narrow .boolean (.int (1 : Int32)) = .int (1 : Int32) ∧ post (1 : Int32) σ)))) ∧ (¬ x1 = (4 : Int32) → ((x1 = (7 : Int32) → ((x6 < x5 → (narrow .boolean (.int (0 : Int32)) = .int (0 : Int32) ∧ post (0 : Int32) σ)) ∧ (¬ x6 < x5 → (narrow .boolean (.int (1 : Int32)) = .int (1 : Int32) ∧ post (1 : Int32) σ)))) ∧ (¬ x1 = (7 : Int32) → ((¬ x1 = (9 : Int32) → ((x5 < x6 → (narrow .boolean (.int (0 : Int32)) = .int (0 : Int32) ∧ post (0 : Int32) σ)) ∧ (¬ x5 < x6 → (narrow .boolean (.int (1 : Int32)) = .int (1 : Int32) ∧ post (1 : Int32) σ)))) ∧ (x1 = (9 : Int32) → ((x6 < x5 → (narrow .boolean (.int (0 : Int32)) = .int (0 : Int32) ∧ post (0 : Int32) σ)) ∧ (¬ x6 < x5 → (narrow .boolean (.int (1 : Int32)) = .int (1 : Int32) ∧ post (1 : Int32) σ)))))))))) ∧ (x1 = (6 : Int32) → ((x5 ≤ 0 → (narrow .boolean (.int (1 : Int32)) = .int (1 : Int32) ∧ post (1 : Int32) σ)) ∧ (¬ x5 ≤ 0 → (¬ x5 = 0 ∧ ((¬ (x6 - x6 / x5 * x5) = 0 → (narrow .boolean (.int (0 : Int32)) = .int (0 : Int32) ∧ post (0 : Int32) σ)) ∧ ((x6 - x6 / x5 * x5) = 0 → (narrow .boolean (.int (1 : Int32)) = .int (1 : Int32) ∧ post (1 : Int32) σ))))))))
def wp_Md_measured (post : Int32 → Sg → Prop) : Nat → Nat → Int32 → Int32 → Int32 → Int32 → Int32 → Int32 → Sg → Prop
  | 0, _, _, _, _, _, _, _, _ => False
  | n + 1, k, x1, x2, x3, x4, x5, x6, σ => match k with
    | 0 => wb_Md_measured_0 (wp_Md_measured post n) post x1 x2 x3 σ
    | 1 => wb_Md_measured_1 (wp_Md_measured post n) post x1 x2 x3 x4 σ
    | 2 => wb_Md_measured_2 (wp_Md_measured post n) post x1 x5 x6 σ
    | _ => False
def wq_Md_measured (x1 : Int32) (x2 : Int32) (x3 : Int32) (σ : Sg) (post : Int32 → Sg → Prop) : Prop := ∃ n, wp_Md_measured post n 0 x1 x2 x3 0 0 0 σ
def J_Md_measured_1 (p : Program) (l : Launch) (e : Env) (s : State) (m : MethodId) (args : Array Value) (below : List Frame) (meth : Method) (c : Code) (D : va_G) (g : Gm) (A : Nat → Prop) (post : Int32 → Sg → Prop) (F : Nat → Int32 → Int32 → Int32 → Int32 → Int32 → Int32 → Sg → Prop) : Prop := ∀ (x1 : Int32) (x2 : Int32) (x3 : Int32) (x4 : Int32) (σ : Sg) (H : Heap) (locs : List Loc) (ls : Array Slot), lv_has ls 7 [(0, .ref (g.1 54)), (1, .int x1), (2, .int x2), (3, .int x3), (4, .int x4)] → Wst D vwCl (WS g) A s σ H locs → F 1 x1 x2 x3 x4 0 0 σ → W p l e { frames := 0, cells := 0, slots := 0, locals := 0 } s m args below meth c H locs 0 0 (MQ below (QiW D vwCl (WS g) post A) args s 0 0 A) (F0 m 23 ls [])
def J_Md_measured_2 (p : Program) (l : Launch) (e : Env) (s : State) (m : MethodId) (args : Array Value) (below : List Frame) (meth : Method) (c : Code) (D : va_G) (g : Gm) (A : Nat → Prop) (post : Int32 → Sg → Prop) (F : Nat → Int32 → Int32 → Int32 → Int32 → Int32 → Int32 → Sg → Prop) : Prop := ∀ (x1 : Int32) (x5 : Int32) (x6 : Int32) (σ : Sg) (H : Heap) (locs : List Loc) (ls : Array Slot), lv_has ls 7 [(1, .int x1), (5, .int x5), (6, .int x6)] → Wst D vwCl (WS g) A s σ H locs → F 2 x1 0 0 0 x5 x6 σ → W p l e { frames := 0, cells := 0, slots := 0, locals := 0 } s m args below meth c H locs 0 0 (MQ below (QiW D vwCl (WS g) post A) args s 0 0 A) (F0 m 101 ls [])
set_option maxRecDepth 100000 in
set_option maxHeartbeats 4000000 in
theorem b_Md_measured_0 {p : Program} {l : Launch} {e : Env} {s : State} {m : MethodId} {args : Array Value} {below : List Frame} {meth : Method} {c : Code} {D : va_G} {g : Gm} {A : Nat → Prop} {post : Int32 → Sg → Prop} {F : Nat → Int32 → Int32 → Int32 → Int32 → Int32 → Int32 → Sg → Prop} (C : kC p s m args meth c k_Md_measured 7 (some .boolean) GW R_Md D vwCl g (Zk g) A) (j1 : J_Md_measured_1 p l e s m args below meth c D g A post F) (x1 : Int32) (x2 : Int32) (x3 : Int32) (σ : Sg) (H : Heap) (locs : List Loc) (ls : Array Slot) (hl : lv_has ls 7 [(0, .ref (g.1 54)), (1, .int x1), (2, .int x2), (3, .int x3)]) (hst : Wst D vwCl (WS g) A s σ H locs) (h : wb_Md_measured_0 F post x1 x2 x3 σ) : W p l e { frames := 0, cells := 0, slots := 0, locals := 0 } s m args below meth c H locs 0 0 (MQ below (QiW D vwCl (WS g) post A) args s 0 0 A) (F0 m 0 ls []) := by
  obtain ⟨hx, hb, hr, hml, hown, hts, hlocks, hK, hZ, hA⟩ := C
  unfold wb_Md_measured_0 at h
  refine lv_iload_n hx hb d_Md_measured_0 rfl (lv_at hl 1 rfl) ?_
  refine lv_bipush (v := (7 : Int32)) hx hb d_Md_measured_1 (by decide) ?_
  refine lv_icmp_ge (tgt := 10) hx hb d_Md_measured_3 (by decide) (fun hc => ?_) (fun hc => ?_)
  · replace h := h.1 hc
    refine lv_iload_n hx hb d_Md_measured_10 rfl (lv_at hl 1 rfl) ?_
    refine lv_bipush (v := (9 : Int32)) hx hb d_Md_measured_11 (by decide) ?_
    refine lv_icmp_ge (tgt := 20) hx hb d_Md_measured_13 (by decide) (fun hc => ?_) (fun hc => ?_)
    · replace h := h.1 hc
      refine lv_iconst (v := (5 : Int32)) hx hb d_Md_measured_20 (by decide) ?_
      refine lv_istore hx hb d_Md_measured_21 hl (by decide) rfl (fun ls hl => ?_)
      have hl : lv_has ls 7 [(4, .int (5 : Int32)), (0, .ref (g.1 54)), (1, .int x1), (2, .int x2), (3, .int x3)] := hl
      exact j1 x1 x2 x3 (5 : Int32) σ _ _ _ (lv_sub hl [1, 2, 3, 4, 0] rfl) hst h
    · replace h := h.2 hc
      refine lv_iconst (v := (4 : Int32)) hx hb d_Md_measured_16 (by decide) ?_
      refine lv_goto (tgt := 21) hx hb d_Md_measured_17 (by decide) ?_
      refine lv_istore hx hb d_Md_measured_21 hl (by decide) rfl (fun ls hl => ?_)
      have hl : lv_has ls 7 [(4, .int (4 : Int32)), (0, .ref (g.1 54)), (1, .int x1), (2, .int x2), (3, .int x3)] := hl
      exact j1 x1 x2 x3 (4 : Int32) σ _ _ _ (lv_sub hl [1, 2, 3, 4, 0] rfl) hst h
  · replace h := h.2 hc
    refine lv_iconst (v := (3 : Int32)) hx hb d_Md_measured_6 (by decide) ?_
    refine lv_goto (tgt := 21) hx hb d_Md_measured_7 (by decide) ?_
    refine lv_istore hx hb d_Md_measured_21 hl (by decide) rfl (fun ls hl => ?_)
    have hl : lv_has ls 7 [(4, .int (3 : Int32)), (0, .ref (g.1 54)), (1, .int x1), (2, .int x2), (3, .int x3)] := hl
    exact j1 x1 x2 x3 (3 : Int32) σ _ _ _ (lv_sub hl [1, 2, 3, 4, 0] rfl) hst h
set_option maxRecDepth 100000 in
set_option maxHeartbeats 4000000 in
theorem b_Md_measured_1 {p : Program} {l : Launch} {e : Env} {s : State} {m : MethodId} {args : Array Value} {below : List Frame} {meth : Method} {c : Code} {D : va_G} {g : Gm} {A : Nat → Prop} {post : Int32 → Sg → Prop} {F : Nat → Int32 → Int32 → Int32 → Int32 → Int32 → Int32 → Sg → Prop} (C : kC p s m args meth c k_Md_measured 7 (some .boolean) GW R_Md D vwCl g (Zk g) A) (j2 : J_Md_measured_2 p l e s m args below meth c D g A post F) (x1 : Int32) (x2 : Int32) (x3 : Int32) (x4 : Int32) (σ : Sg) (H : Heap) (locs : List Loc) (ls : Array Slot) (hl : lv_has ls 7 [(0, .ref (g.1 54)), (1, .int x1), (2, .int x2), (3, .int x3), (4, .int x4)]) (hst : Wst D vwCl (WS g) A s σ H locs) (h : wb_Md_measured_1 F post x1 x2 x3 x4 σ) : W p l e { frames := 0, cells := 0, slots := 0, locals := 0 } s m args below meth c H locs 0 0 (MQ below (QiW D vwCl (WS g) post A) args s 0 0 A) (F0 m 23 ls []) := by
  obtain ⟨hx, hb, hr, hml, hown, hts, hlocks, hK, hZ, hA⟩ := C
  unfold wb_Md_measured_1 at h
  refine lv_aload_n hx hb d_Md_measured_23 rfl (lv_at hl 0 rfl) ?_
  refine va_get (D := D) (ci := 10) (C := R_Md) (T := T_Md) (N := 46) hx hb hts in_Md hown hK hst.1 54 (WS_o54 g σ) rfl 5 (by decide) (hts _ gw1069) (fun _ h9 => h9) rfl d_Md_measured_24 ?_
  refine lv_iload_n hx hb d_Md_measured_27 rfl (lv_at hl 2 rfl) ?_
  obtain ⟨hi, h⟩ := h
  refine va_iald hx hb hK hst.1 59 0 (WS_a59 g σ) rfl hi d_Md_measured_28 ?_
  refine lv_iconst (v := (3 : Int32)) hx hb d_Md_measured_29 (by decide) ?_
  refine lv_icmp_ne (tgt := 44) hx hb d_Md_measured_30 (by decide) (fun hc => ?_) (fun hc => ?_)
  · replace h := h.1 hc
    refine lv_iconst (v := (1 : Int32)) hx hb d_Md_measured_44 (by decide) ?_
    exact kw_zret hx hb hr hlocks hst h d_Md_measured_45
  · replace h := h.2 hc
    refine lv_aload_n hx hb d_Md_measured_33 rfl (lv_at hl 0 rfl) ?_
    refine va_get (D := D) (ci := 10) (C := R_Md) (T := T_Md) (N := 46) hx hb hts in_Md hown hK hst.1 54 (WS_o54 g σ) rfl 5 (by decide) (hts _ gw1069) (fun _ h9 => h9) rfl d_Md_measured_34 ?_
    refine lv_iload_n hx hb d_Md_measured_37 rfl (lv_at hl 3 rfl) ?_
    obtain ⟨hi, h⟩ := h
    refine va_iald hx hb hK hst.1 59 0 (WS_a59 g σ) rfl hi d_Md_measured_38 ?_
    refine lv_iload hx hb d_Md_measured_39 (lv_at hl 4 rfl) ?_
    refine lv_icmp_eq (tgt := 46) hx hb d_Md_measured_41 (by decide) (fun hc => ?_) (fun hc => ?_)
    · replace h := h.1 hc
      refine lv_aload_n hx hb d_Md_measured_46 rfl (lv_at hl 0 rfl) ?_
      refine va_get (D := D) (ci := 10) (C := R_Md) (T := T_Md) (N := 46) hx hb hts in_Md hown hK hst.1 54 (WS_o54 g σ) rfl 15 (by decide) (hts _ gw1079) (fun _ h9 => h9) rfl d_Md_measured_47 ?_
      refine lv_iload_n hx hb d_Md_measured_50 rfl (lv_at hl 2 rfl) ?_
      obtain ⟨hi, h⟩ := h
      refine va_iald hx hb hK hst.1 69 0 (WS_a69 g σ) rfl hi d_Md_measured_51 ?_
      refine lv_istore hx hb d_Md_measured_52 hl (by decide) rfl (fun ls hl => ?_)
      have hl : lv_has ls 7 [(5, .int (σ.1 69 x2.toNatClampNeg)), (0, .ref (g.1 54)), (1, .int x1), (2, .int x2), (3, .int x3), (4, .int x4)] := hl
      refine lv_iload_n hx hb d_Md_measured_54 rfl (lv_at hl 2 rfl) ?_
      refine lv_bipush (v := (7 : Int32)) hx hb d_Md_measured_55 (by decide) ?_
      refine lv_icmp_ge (tgt := 69) hx hb d_Md_measured_57 (by decide) (fun hc => ?_) (fun hc => ?_)
      · replace h := h.1 hc
        refine lv_iload_n hx hb d_Md_measured_69 rfl (lv_at hl 2 rfl) ?_
        refine lv_bipush (v := (9 : Int32)) hx hb d_Md_measured_70 (by decide) ?_
        refine lv_icmp_ge (tgt := 93) hx hb d_Md_measured_72 (by decide) (fun hc => ?_) (fun hc => ?_)
        · replace h := h.1 hc
          refine lv_aload_n hx hb d_Md_measured_93 rfl (lv_at hl 1 rfl) ?_
          refine va_get (D := D) (ci := 10) (C := R_Md) (T := T_Md) (N := 46) hx hb hts in_Md hown hK hst.1 54 (WS_o54 g σ) rfl 10 (by decide) (hts _ gw1074) (fun _ h9 => h9) rfl d_Md_measured_94 ?_
          refine lv_iload_n hx hb d_Md_measured_97 rfl (lv_at hl 4 rfl) ?_
          obtain ⟨hi, h⟩ := h
          refine va_iald hx hb hK hst.1 64 0 (WS_a64 g σ) rfl hi d_Md_measured_98 ?_
          refine lv_istore hx hb d_Md_measured_99 hl (by decide) rfl (fun ls hl => ?_)
          have hl : lv_has ls 7 [(6, .int (σ.1 64 x3.toNatClampNeg)), (5, .int (σ.1 69 x2.toNatClampNeg)), (0, .ref (g.1 54)), (1, .int x1), (2, .int x2), (3, .int x3), (4, .int x4)] := hl
          exact j2 x1 (σ.1 69 x2.toNatClampNeg) (σ.1 64 x3.toNatClampNeg) σ _ _ _ (lv_sub hl [3, 1, 0] rfl) hst h
        · replace h := h.2 hc
          refine lv_aload_n hx hb d_Md_measured_75 rfl (lv_at hl 1 rfl) ?_
          refine va_get (D := D) (ci := 10) (C := R_Md) (T := T_Md) (N := 46) hx hb hts in_Md hown hK hst.1 54 (WS_o54 g σ) rfl 8 (by decide) (hts _ gw1072) (fun _ h9 => h9) rfl d_Md_measured_76 ?_
          refine lv_iload_n hx hb d_Md_measured_79 rfl (lv_at hl 4 rfl) ?_
          obtain ⟨hi, h⟩ := h
          refine va_iald hx hb hK hst.1 62 0 (WS_a62 g σ) rfl hi d_Md_measured_80 ?_
          refine lv_aload_n hx hb d_Md_measured_81 rfl (lv_at hl 1 rfl) ?_
          refine va_get (D := D) (ci := 10) (C := R_Md) (T := T_Md) (N := 46) hx hb hts in_Md hown hK hst.1 54 (WS_o54 g σ) rfl 6 (by decide) (hts _ gw1070) (fun _ h9 => h9) rfl d_Md_measured_82 ?_
          refine lv_iload_n hx hb d_Md_measured_85 rfl (lv_at hl 4 rfl) ?_
          obtain ⟨hi, h⟩ := h
          refine va_iald hx hb hK hst.1 60 0 (WS_a60 g σ) rfl hi d_Md_measured_86 ?_
          refine lv_isub hx hb d_Md_measured_87 ?_
          refine lv_iconst (v := (1 : Int32)) hx hb d_Md_measured_88 (by decide) ?_
          refine lv_isub hx hb d_Md_measured_89 ?_
          refine lv_goto (tgt := 99) hx hb d_Md_measured_90 (by decide) ?_
          refine lv_istore hx hb d_Md_measured_99 hl (by decide) rfl (fun ls hl => ?_)
          have hl : lv_has ls 7 [(6, .int (((σ.1 62 x3.toNatClampNeg) - (σ.1 60 x3.toNatClampNeg)) - (1 : Int32))), (5, .int (σ.1 69 x2.toNatClampNeg)), (0, .ref (g.1 54)), (1, .int x1), (2, .int x2), (3, .int x3), (4, .int x4)] := hl
          exact j2 x1 (σ.1 69 x2.toNatClampNeg) (((σ.1 62 x3.toNatClampNeg) - (σ.1 60 x3.toNatClampNeg)) - (1 : Int32)) σ _ _ _ (lv_sub hl [3, 1, 0] rfl) hst h
      · replace h := h.2 hc
        refine lv_aload_n hx hb d_Md_measured_60 rfl (lv_at hl 1 rfl) ?_
        refine va_get (D := D) (ci := 10) (C := R_Md) (T := T_Md) (N := 46) hx hb hts in_Md hown hK hst.1 54 (WS_o54 g σ) rfl 15 (by decide) (hts _ gw1079) (fun _ h9 => h9) rfl d_Md_measured_61 ?_
        refine lv_iload_n hx hb d_Md_measured_64 rfl (lv_at hl 4 rfl) ?_
        obtain ⟨hi, h⟩ := h
        refine va_iald hx hb hK hst.1 69 0 (WS_a69 g σ) rfl hi d_Md_measured_65 ?_
        refine lv_goto (tgt := 99) hx hb d_Md_measured_66 (by decide) ?_
        refine lv_istore hx hb d_Md_measured_99 hl (by decide) rfl (fun ls hl => ?_)
        have hl : lv_has ls 7 [(6, .int (σ.1 69 x3.toNatClampNeg)), (5, .int (σ.1 69 x2.toNatClampNeg)), (0, .ref (g.1 54)), (1, .int x1), (2, .int x2), (3, .int x3), (4, .int x4)] := hl
        exact j2 x1 (σ.1 69 x2.toNatClampNeg) (σ.1 69 x3.toNatClampNeg) σ _ _ _ (lv_sub hl [3, 1, 0] rfl) hst h
    · replace h := h.2 hc
      refine lv_iconst (v := (1 : Int32)) hx hb d_Md_measured_44 (by decide) ?_
      exact kw_zret hx hb hr hlocks hst h d_Md_measured_45
set_option maxRecDepth 100000 in
set_option maxHeartbeats 4000000 in
theorem b_Md_measured_2 {p : Program} {l : Launch} {e : Env} {s : State} {m : MethodId} {args : Array Value} {below : List Frame} {meth : Method} {c : Code} {D : va_G} {g : Gm} {A : Nat → Prop} {post : Int32 → Sg → Prop} {F : Nat → Int32 → Int32 → Int32 → Int32 → Int32 → Int32 → Sg → Prop} (C : kC p s m args meth c k_Md_measured 7 (some .boolean) GW R_Md D vwCl g (Zk g) A) (x1 : Int32) (x5 : Int32) (x6 : Int32) (σ : Sg) (H : Heap) (locs : List Loc) (ls : Array Slot) (hl : lv_has ls 7 [(1, .int x1), (5, .int x5), (6, .int x6)]) (hst : Wst D vwCl (WS g) A s σ H locs) (h : wb_Md_measured_2 F post x1 x5 x6 σ) : W p l e { frames := 0, cells := 0, slots := 0, locals := 0 } s m args below meth c H locs 0 0 (MQ below (QiW D vwCl (WS g) post A) args s 0 0 A) (F0 m 101 ls []) := by
  obtain ⟨hx, hb, hr, hml, hown, hts, hlocks, hK, hZ, hA⟩ := C
  unfold wb_Md_measured_2 at h
  refine lv_iload_n hx hb d_Md_measured_101 rfl (lv_at hl 0 rfl) ?_
  refine lv_bipush (v := (6 : Int32)) hx hb d_Md_measured_102 (by decide) ?_
  refine lv_icmp_ne (tgt := 126) hx hb d_Md_measured_104 (by decide) (fun hc => ?_) (fun hc => ?_)
  · replace h := h.1 hc
    refine lv_iload_n hx hb d_Md_measured_126 rfl (lv_at hl 0 rfl) ?_
    refine lv_iconst (v := (4 : Int32)) hx hb d_Md_measured_127 (by decide) ?_
    refine lv_icmp_eq (tgt := 143) hx hb d_Md_measured_128 (by decide) (fun hc => ?_) (fun hc => ?_)
    · replace h := h.1 hc
      refine lv_iload hx hb d_Md_measured_143 (lv_at hl 2 rfl) ?_
      refine lv_iload hx hb d_Md_measured_145 (lv_at hl 1 rfl) ?_
      refine lv_icmp_lt (tgt := 154) hx hb d_Md_measured_147 (by decide) (fun hc => ?_) (fun hc => ?_)
      · replace h := h.1 hc
        refine lv_iconst (v := (0 : Int32)) hx hb d_Md_measured_154 (by decide) ?_
        refine lv_goto (tgt := 170) hx hb d_Md_measured_155 (by decide) ?_
        exact kw_zret hx hb hr hlocks hst h d_Md_measured_170
      · replace h := h.2 hc
        refine lv_iconst (v := (1 : Int32)) hx hb d_Md_measured_150 (by decide) ?_
        refine lv_goto (tgt := 170) hx hb d_Md_measured_151 (by decide) ?_
        exact kw_zret hx hb hr hlocks hst h d_Md_measured_170
    · replace h := h.2 hc
      refine lv_iload_n hx hb d_Md_measured_131 rfl (lv_at hl 0 rfl) ?_
      refine lv_bipush (v := (7 : Int32)) hx hb d_Md_measured_132 (by decide) ?_
      refine lv_icmp_eq (tgt := 143) hx hb d_Md_measured_134 (by decide) (fun hc => ?_) (fun hc => ?_)
      · replace h := h.1 hc
        refine lv_iload hx hb d_Md_measured_143 (lv_at hl 2 rfl) ?_
        refine lv_iload hx hb d_Md_measured_145 (lv_at hl 1 rfl) ?_
        refine lv_icmp_lt (tgt := 154) hx hb d_Md_measured_147 (by decide) (fun hc => ?_) (fun hc => ?_)
        · replace h := h.1 hc
          refine lv_iconst (v := (0 : Int32)) hx hb d_Md_measured_154 (by decide) ?_
          refine lv_goto (tgt := 170) hx hb d_Md_measured_155 (by decide) ?_
          exact kw_zret hx hb hr hlocks hst h d_Md_measured_170
        · replace h := h.2 hc
          refine lv_iconst (v := (1 : Int32)) hx hb d_Md_measured_150 (by decide) ?_
          refine lv_goto (tgt := 170) hx hb d_Md_measured_151 (by decide) ?_
          exact kw_zret hx hb hr hlocks hst h d_Md_measured_170
      · replace h := h.2 hc
        refine lv_iload_n hx hb d_Md_measured_137 rfl (lv_at hl 0 rfl) ?_
        refine lv_bipush (v := (9 : Int32)) hx hb d_Md_measured_138 (by decide) ?_
        refine lv_icmp_ne (tgt := 158) hx hb d_Md_measured_140 (by decide) (fun hc => ?_) (fun hc => ?_)
        · replace h := h.1 hc
          refine lv_iload hx hb d_Md_measured_158 (lv_at hl 2 rfl) ?_
          refine lv_iload hx hb d_Md_measured_160 (lv_at hl 1 rfl) ?_
          refine lv_icmp_gt (tgt := 169) hx hb d_Md_measured_162 (by decide) (fun hc => ?_) (fun hc => ?_)
          · replace h := h.1 hc
            refine lv_iconst (v := (0 : Int32)) hx hb d_Md_measured_169 (by decide) ?_
            exact kw_zret hx hb hr hlocks hst h d_Md_measured_170
          · replace h := h.2 hc
            refine lv_iconst (v := (1 : Int32)) hx hb d_Md_measured_165 (by decide) ?_
            refine lv_goto (tgt := 170) hx hb d_Md_measured_166 (by decide) ?_
            exact kw_zret hx hb hr hlocks hst h d_Md_measured_170
        · replace h := h.2 hc
          refine lv_iload hx hb d_Md_measured_143 (lv_at hl 2 rfl) ?_
          refine lv_iload hx hb d_Md_measured_145 (lv_at hl 1 rfl) ?_
          refine lv_icmp_lt (tgt := 154) hx hb d_Md_measured_147 (by decide) (fun hc => ?_) (fun hc => ?_)
          · replace h := h.1 hc
            refine lv_iconst (v := (0 : Int32)) hx hb d_Md_measured_154 (by decide) ?_
            refine lv_goto (tgt := 170) hx hb d_Md_measured_155 (by decide) ?_
            exact kw_zret hx hb hr hlocks hst h d_Md_measured_170
          · replace h := h.2 hc
            refine lv_iconst (v := (1 : Int32)) hx hb d_Md_measured_150 (by decide) ?_
            refine lv_goto (tgt := 170) hx hb d_Md_measured_151 (by decide) ?_
            exact kw_zret hx hb hr hlocks hst h d_Md_measured_170
  · replace h := h.2 hc
    refine lv_iload hx hb d_Md_measured_107 (lv_at hl 1 rfl) ?_
    refine lv_if_le (tgt := 120) hx hb d_Md_measured_109 (by decide) (fun hc => ?_) (fun hc => ?_)
    · replace h := h.1 hc
      refine lv_iconst (v := (1 : Int32)) hx hb d_Md_measured_120 (by decide) ?_
      refine lv_goto (tgt := 125) hx hb d_Md_measured_121 (by decide) ?_
      exact kw_zret hx hb hr hlocks hst h d_Md_measured_125
    · replace h := h.2 hc
      refine lv_iload hx hb d_Md_measured_112 (lv_at hl 2 rfl) ?_
      refine lv_iload hx hb d_Md_measured_114 (lv_at hl 1 rfl) ?_
      obtain ⟨hi, h⟩ := h
      refine lv_irem hx hb d_Md_measured_116 hi ?_
      refine lv_if_ne (tgt := 124) hx hb d_Md_measured_117 (by decide) (fun hc => ?_) (fun hc => ?_)
      · replace h := h.1 hc
        refine lv_iconst (v := (0 : Int32)) hx hb d_Md_measured_124 (by decide) ?_
        exact kw_zret hx hb hr hlocks hst h d_Md_measured_125
      · replace h := h.2 hc
        refine lv_iconst (v := (1 : Int32)) hx hb d_Md_measured_120 (by decide) ?_
        refine lv_goto (tgt := 125) hx hb d_Md_measured_121 (by decide) ?_
        exact kw_zret hx hb hr hlocks hst h d_Md_measured_125
set_option maxRecDepth 100000 in
set_option maxHeartbeats 4000000 in
theorem a_Md_measured {p : Program} {l : Launch} {e : Env} {s : State} {m : MethodId} {args : Array Value} {below : List Frame} {meth : Method} {c : Code} {D : va_G} {g : Gm} {A : Nat → Prop} {post : Int32 → Sg → Prop} (C : kC p s m args meth c k_Md_measured 7 (some .boolean) GW R_Md D vwCl g (Zk g) A) : ∀ n : Nat, J_Md_measured_1 p l e s m args below meth c D g A post (wp_Md_measured post n) ∧ J_Md_measured_2 p l e s m args below meth c D g A post (wp_Md_measured post n) := by
  intro n
  induction n with
  | zero => exact ⟨fun _ _ _ _ _ _ _ _ _ _ h => h.elim, fun _ _ _ _ _ _ _ _ _ h => h.elim⟩
  | succ n ih => exact ⟨fun x1 x2 x3 x4 σ H locs ls hl hst h => b_Md_measured_1 (F := wp_Md_measured post n) C (ih.2) x1 x2 x3 x4 σ H locs ls hl hst h, fun x1 x5 x6 σ H locs ls hl hst h => b_Md_measured_2 (F := wp_Md_measured post n) C x1 x5 x6 σ H locs ls hl hst h⟩
set_option maxRecDepth 100000 in
set_option maxHeartbeats 4000000 in
theorem c_Md_measured (l : Launch) {D : va_G} {g : Gm} {sz : Nat} (x1 : Int32) (x2 : Int32) (x3 : Int32) {σ : Sg} {post : Int32 → Sg → Prop} (h : wq_Md_measured x1 x2 x3 σ post) : Met l y_Md_measured (.code y_Md_measured k_Md_measured 7 (some .boolean) :: GW) { frames := 0, cells := 0, slots := 0, locals := 0 } (PcW D vwCl (WS g) g (Zk g) σ sz [.ref (g.1 54), .int x1, .int x2, .int x3]) (QiW D vwCl (WS g) post (va_A (WS g σ) sz)) 0 0 (va_A (WS g σ) sz) := by
  refine kw_entry (own := R_Md) (by decide) rfl rfl (Nat.le_of_ble_eq_true rfl) ?_
  intro p e s m below meth c ls hsz C hin hl hst
  obtain ⟨n, h⟩ := h
  cases n with
  | zero => exact h.elim
  | succ n =>
    have ih := a_Md_measured (l := l) (e := e) (below := below) (post := post) C n
    exact b_Md_measured_0 (F := wp_Md_measured post n) C (ih.1) x1 x2 x3 σ _ _ ls hl hst h
/-! SchemaDeskModel.required (II)Z -/
abbrev k_Md_required : ByteArray := prog_12_method_51_code
abbrev y_Md_required : MethodName := ⟨"SchemaDeskModel", "required", "(II)Z"⟩
theorem d_Md_required_0 : decode k_Md_required 0 = .ok (.iconst 1, 1) := by decide +kernel
theorem d_Md_required_1 : decode k_Md_required 1 = .ok (.istore_n 3, 1) := by decide +kernel
theorem d_Md_required_2 : decode k_Md_required 2 = .ok (.aload_n 0, 1) := by decide +kernel
theorem d_Md_required_3 : decode k_Md_required 3 = .ok (.getfield 77, 3) := by decide +kernel
theorem d_Md_required_6 : decode k_Md_required 6 = .ok (.iload_n 1, 1) := by decide +kernel
theorem d_Md_required_7 : decode k_Md_required 7 = .ok (.iaload, 1) := by decide +kernel
theorem d_Md_required_8 : decode k_Md_required 8 = .ok (.iconst 5, 1) := by decide +kernel
theorem d_Md_required_9 : decode k_Md_required 9 = .ok (.if_icmp .ne 12, 3) := by decide +kernel
theorem d_Md_required_12 : decode k_Md_required 12 = .ok (.aload_n 0, 1) := by decide +kernel
theorem d_Md_required_13 : decode k_Md_required 13 = .ok (.getfield 95, 3) := by decide +kernel
theorem d_Md_required_16 : decode k_Md_required 16 = .ok (.iload_n 1, 1) := by decide +kernel
theorem d_Md_required_17 : decode k_Md_required 17 = .ok (.iaload, 1) := by decide +kernel
theorem d_Md_required_18 : decode k_Md_required 18 = .ok (.goto 4, 3) := by decide +kernel
theorem d_Md_required_21 : decode k_Md_required 21 = .ok (.iconst (-1), 1) := by decide +kernel
theorem d_Md_required_22 : decode k_Md_required 22 = .ok (.istore 4, 2) := by decide +kernel
theorem d_Md_required_24 : decode k_Md_required 24 = .ok (.iload 4, 2) := by decide +kernel
theorem d_Md_required_26 : decode k_Md_required 26 = .ok (.ifCond .lt 60, 3) := by decide +kernel
theorem d_Md_required_29 : decode k_Md_required 29 = .ok (.iload_n 3, 1) := by decide +kernel
theorem d_Md_required_30 : decode k_Md_required 30 = .ok (.ifCond .eq 42, 3) := by decide +kernel
theorem d_Md_required_33 : decode k_Md_required 33 = .ok (.aload_n 0, 1) := by decide +kernel
theorem d_Md_required_34 : decode k_Md_required 34 = .ok (.getfield 77, 3) := by decide +kernel
theorem d_Md_required_37 : decode k_Md_required 37 = .ok (.iload 4, 2) := by decide +kernel
theorem d_Md_required_39 : decode k_Md_required 39 = .ok (.iaload, 1) := by decide +kernel
theorem d_Md_required_40 : decode k_Md_required 40 = .ok (.iconst 4, 1) := by decide +kernel
theorem d_Md_required_41 : decode k_Md_required 41 = .ok (.if_icmp .ne 27, 3) := by decide +kernel
theorem d_Md_required_44 : decode k_Md_required 44 = .ok (.aload_n 0, 1) := by decide +kernel
theorem d_Md_required_45 : decode k_Md_required 45 = .ok (.iload_n 2, 1) := by decide +kernel
theorem d_Md_required_46 : decode k_Md_required 46 = .ok (.aload_n 0, 1) := by decide +kernel
theorem d_Md_required_47 : decode k_Md_required 47 = .ok (.getfield 80, 3) := by decide +kernel
theorem d_Md_required_50 : decode k_Md_required 50 = .ok (.iload 4, 2) := by decide +kernel
theorem d_Md_required_52 : decode k_Md_required 52 = .ok (.iaload, 1) := by decide +kernel
theorem d_Md_required_53 : decode k_Md_required 53 = .ok (.iconst 1, 1) := by decide +kernel
theorem d_Md_required_54 : decode k_Md_required 54 = .ok (.iadd, 1) := by decide +kernel
theorem d_Md_required_55 : decode k_Md_required 55 = .ok (.aload_n 0, 1) := by decide +kernel
theorem d_Md_required_56 : decode k_Md_required 56 = .ok (.getfield 86, 3) := by decide +kernel
theorem d_Md_required_59 : decode k_Md_required 59 = .ok (.iload 4, 2) := by decide +kernel
theorem d_Md_required_61 : decode k_Md_required 61 = .ok (.iaload, 1) := by decide +kernel
theorem d_Md_required_62 : decode k_Md_required 62 = .ok (.invokevirtual 249, 3) := by decide +kernel
theorem d_Md_required_65 : decode k_Md_required 65 = .ok (.ifCond .lt 7, 3) := by decide +kernel
theorem d_Md_required_68 : decode k_Md_required 68 = .ok (.iconst 1, 1) := by decide +kernel
theorem d_Md_required_69 : decode k_Md_required 69 = .ok (.goto 4, 3) := by decide +kernel
theorem d_Md_required_72 : decode k_Md_required 72 = .ok (.iconst 0, 1) := by decide +kernel
theorem d_Md_required_73 : decode k_Md_required 73 = .ok (.istore_n 3, 1) := by decide +kernel
theorem d_Md_required_74 : decode k_Md_required 74 = .ok (.aload_n 0, 1) := by decide +kernel
theorem d_Md_required_75 : decode k_Md_required 75 = .ok (.getfield 98, 3) := by decide +kernel
theorem d_Md_required_78 : decode k_Md_required 78 = .ok (.iload 4, 2) := by decide +kernel
theorem d_Md_required_80 : decode k_Md_required 80 = .ok (.iaload, 1) := by decide +kernel
theorem d_Md_required_81 : decode k_Md_required 81 = .ok (.istore 4, 2) := by decide +kernel
theorem d_Md_required_83 : decode k_Md_required 83 = .ok (.goto (-59), 3) := by decide +kernel
theorem d_Md_required_86 : decode k_Md_required 86 = .ok (.iload_n 3, 1) := by decide +kernel
theorem d_Md_required_87 : decode k_Md_required 87 = .ok (.ireturn, 1) := by decide +kernel
def wb_Md_required_0 (F : Nat → Int32 → Int32 → Int32 → Int32 → Sg → Prop) (post : Int32 → Sg → Prop) (x1 : Int32) (x2 : Int32) (σ : Sg) : Prop := (vp_in x1 240 ∧ ((¬ (σ.1 59 x1.toNatClampNeg) = (5 : Int32) → F 1 0 x2 (1 : Int32) (-1 : Int32) σ) ∧ ((σ.1 59 x1.toNatClampNeg) = (5 : Int32) → (vp_in x1 240 ∧ F 1 0 x2 (1 : Int32) (σ.1 65 x1.toNatClampNeg) σ))))
def wb_Md_required_1 (F : Nat → Int32 → Int32 → Int32 → Int32 → Sg → Prop) (post : Int32 → Sg → Prop) (x2 : Int32) (x3 : Int32) (x4 : Int32) (σ : Sg) : Prop := ((x4 < 0 → (narrow .boolean (.int x3) = .int x3 ∧ post x3 σ)) ∧ (¬ x4 < 0 → ((x3 = 0 → (vp_in x4 240 ∧ F 1 0 x2 (0 : Int32) (σ.1 66 x4.toNatClampNeg) σ)) ∧ (¬ x3 = 0 → (vp_in x4 240 ∧ ((¬ (σ.1 59 x4.toNatClampNeg) = (4 : Int32) → (vp_in x4 240 ∧ F 1 0 x2 (1 : Int32) (σ.1 66 x4.toNatClampNeg) σ)) ∧ ((σ.1 59 x4.toNatClampNeg) = (4 : Int32) → (vp_in x4 240 ∧ (vp_in x4 240 ∧ (wq_Md_childNamed x2 ((σ.1 60 x4.toNatClampNeg) + (1 : Int32)) (σ.1 62 x4.toNatClampNeg) σ (fun r1 σ1 => ((r1 < 0 → (vp_in x4 240 ∧ F 1 0 x2 (0 : Int32) (σ1.1 66 x4.toNatClampNeg) σ1)) ∧ (¬ r1 < 0 → (vp_in x4 240 ∧ F 1 0 x2 (1 : Int32) (σ1.1 66 x4.toNatClampNeg) σ1))))))))))))))
def wp_Md_required (post : Int32 → Sg → Prop) : Nat → Nat → Int32 → Int32 → Int32 → Int32 → Sg → Prop
  | 0, _, _, _, _, _, _ => False
  | n + 1, k, x1, x2, x3, x4, σ => match k with
    | 0 => wb_Md_required_0 (wp_Md_required post n) post x1 x2 σ
    | 1 => wb_Md_required_1 (wp_Md_required post n) post x2 x3 x4 σ
    | _ => False
def wq_Md_required (x1 : Int32) (x2 : Int32) (σ : Sg) (post : Int32 → Sg → Prop) : Prop := ∃ n, wp_Md_required post n 0 x1 x2 0 0 σ
def J_Md_required_1 (p : Program) (l : Launch) (e : Env) (s : State) (m : MethodId) (args : Array Value) (below : List Frame) (meth : Method) (c : Code) (D : va_G) (g : Gm) (A : Nat → Prop) (post : Int32 → Sg → Prop) (F : Nat → Int32 → Int32 → Int32 → Int32 → Sg → Prop) : Prop := ∀ (x2 : Int32) (x3 : Int32) (x4 : Int32) (σ : Sg) (H : Heap) (locs : List Loc) (ls : Array Slot), lv_has ls 5 [(0, .ref (g.1 54)), (2, .int x2), (3, .int x3), (4, .int x4)] → Wst D vwCl (WS g) A s σ H locs → F 1 0 x2 x3 x4 σ → W p l e { frames := 2, cells := 0, slots := 0, locals := 51 } s m args below meth c H locs 0 0 (MQ below (QiW D vwCl (WS g) post A) args s 0 0 A) (F0 m 24 ls [])
set_option maxRecDepth 100000 in
set_option maxHeartbeats 4000000 in
theorem b_Md_required_0 {p : Program} {l : Launch} {e : Env} {s : State} {m : MethodId} {args : Array Value} {below : List Frame} {meth : Method} {c : Code} {D : va_G} {g : Gm} {A : Nat → Prop} {post : Int32 → Sg → Prop} {F : Nat → Int32 → Int32 → Int32 → Int32 → Sg → Prop} (C : kC p s m args meth c k_Md_required 5 (some .boolean) GW R_Md D vwCl g (Zk g) A) (j1 : J_Md_required_1 p l e s m args below meth c D g A post F) (x1 : Int32) (x2 : Int32) (σ : Sg) (H : Heap) (locs : List Loc) (ls : Array Slot) (hl : lv_has ls 5 [(0, .ref (g.1 54)), (1, .int x1), (2, .int x2)]) (hst : Wst D vwCl (WS g) A s σ H locs) (h : wb_Md_required_0 F post x1 x2 σ) : W p l e { frames := 2, cells := 0, slots := 0, locals := 51 } s m args below meth c H locs 0 0 (MQ below (QiW D vwCl (WS g) post A) args s 0 0 A) (F0 m 0 ls []) := by
  obtain ⟨hx, hb, hr, hml, hown, hts, hlocks, hK, hZ, hA⟩ := C
  unfold wb_Md_required_0 at h
  refine lv_iconst (v := (1 : Int32)) hx hb d_Md_required_0 (by decide) ?_
  refine lv_istore_n hx hb d_Md_required_1 rfl hl (by decide) rfl (fun ls hl => ?_)
  have hl : lv_has ls 5 [(3, .int (1 : Int32)), (0, .ref (g.1 54)), (1, .int x1), (2, .int x2)] := hl
  refine lv_aload_n hx hb d_Md_required_2 rfl (lv_at hl 1 rfl) ?_
  refine va_get (D := D) (ci := 10) (C := R_Md) (T := T_Md) (N := 46) hx hb hts in_Md hown hK hst.1 54 (WS_o54 g σ) rfl 5 (by decide) (hts _ gw1069) (fun _ h9 => h9) rfl d_Md_required_3 ?_
  refine lv_iload_n hx hb d_Md_required_6 rfl (lv_at hl 2 rfl) ?_
  obtain ⟨hi, h⟩ := h
  refine va_iald hx hb hK hst.1 59 0 (WS_a59 g σ) rfl hi d_Md_required_7 ?_
  refine lv_iconst (v := (5 : Int32)) hx hb d_Md_required_8 (by decide) ?_
  refine lv_icmp_ne (tgt := 21) hx hb d_Md_required_9 (by decide) (fun hc => ?_) (fun hc => ?_)
  · replace h := h.1 hc
    refine lv_iconst (v := (-1 : Int32)) hx hb d_Md_required_21 (by decide) ?_
    refine lv_istore hx hb d_Md_required_22 hl (by decide) rfl (fun ls hl => ?_)
    have hl : lv_has ls 5 [(4, .int (-1 : Int32)), (3, .int (1 : Int32)), (0, .ref (g.1 54)), (1, .int x1), (2, .int x2)] := hl
    exact j1 x2 (1 : Int32) (-1 : Int32) σ _ _ _ (lv_sub hl [2, 4, 1, 0] rfl) hst h
  · replace h := h.2 hc
    refine lv_aload_n hx hb d_Md_required_12 rfl (lv_at hl 1 rfl) ?_
    refine va_get (D := D) (ci := 10) (C := R_Md) (T := T_Md) (N := 46) hx hb hts in_Md hown hK hst.1 54 (WS_o54 g σ) rfl 11 (by decide) (hts _ gw1075) (fun _ h9 => h9) rfl d_Md_required_13 ?_
    refine lv_iload_n hx hb d_Md_required_16 rfl (lv_at hl 2 rfl) ?_
    obtain ⟨hi, h⟩ := h
    refine va_iald hx hb hK hst.1 65 0 (WS_a65 g σ) rfl hi d_Md_required_17 ?_
    refine lv_goto (tgt := 22) hx hb d_Md_required_18 (by decide) ?_
    refine lv_istore hx hb d_Md_required_22 hl (by decide) rfl (fun ls hl => ?_)
    have hl : lv_has ls 5 [(4, .int (σ.1 65 x1.toNatClampNeg)), (3, .int (1 : Int32)), (0, .ref (g.1 54)), (1, .int x1), (2, .int x2)] := hl
    exact j1 x2 (1 : Int32) (σ.1 65 x1.toNatClampNeg) σ _ _ _ (lv_sub hl [2, 4, 1, 0] rfl) hst h
set_option maxRecDepth 100000 in
set_option maxHeartbeats 4000000 in
theorem b_Md_required_1 {p : Program} {l : Launch} {e : Env} {s : State} {m : MethodId} {args : Array Value} {below : List Frame} {meth : Method} {c : Code} {D : va_G} {g : Gm} {A : Nat → Prop} {post : Int32 → Sg → Prop} {F : Nat → Int32 → Int32 → Int32 → Int32 → Sg → Prop} (C : kC p s m args meth c k_Md_required 5 (some .boolean) GW R_Md D vwCl g (Zk g) A) (j1 : J_Md_required_1 p l e s m args below meth c D g A post F) (x2 : Int32) (x3 : Int32) (x4 : Int32) (σ : Sg) (H : Heap) (locs : List Loc) (ls : Array Slot) (hl : lv_has ls 5 [(0, .ref (g.1 54)), (2, .int x2), (3, .int x3), (4, .int x4)]) (hst : Wst D vwCl (WS g) A s σ H locs) (h : wb_Md_required_1 F post x2 x3 x4 σ) : W p l e { frames := 2, cells := 0, slots := 0, locals := 51 } s m args below meth c H locs 0 0 (MQ below (QiW D vwCl (WS g) post A) args s 0 0 A) (F0 m 24 ls []) := by
  obtain ⟨hx, hb, hr, hml, hown, hts, hlocks, hK, hZ, hA⟩ := C
  unfold wb_Md_required_1 at h
  refine lv_iload hx hb d_Md_required_24 (lv_at hl 3 rfl) ?_
  refine lv_if_lt (tgt := 86) hx hb d_Md_required_26 (by decide) (fun hc => ?_) (fun hc => ?_)
  · replace h := h.1 hc
    refine lv_iload_n hx hb d_Md_required_86 rfl (lv_at hl 2 rfl) ?_
    exact kw_zret hx hb hr hlocks hst h d_Md_required_87
  · replace h := h.2 hc
    refine lv_iload_n hx hb d_Md_required_29 rfl (lv_at hl 2 rfl) ?_
    refine lv_if_eq (tgt := 72) hx hb d_Md_required_30 (by decide) (fun hc => ?_) (fun hc => ?_)
    · replace h := h.1 hc
      refine lv_iconst (v := (0 : Int32)) hx hb d_Md_required_72 (by decide) ?_
      refine lv_istore_n hx hb d_Md_required_73 rfl hl (by decide) rfl (fun ls hl => ?_)
      have hl : lv_has ls 5 [(3, .int (0 : Int32)), (0, .ref (g.1 54)), (2, .int x2), (4, .int x4)] := hl
      refine lv_aload_n hx hb d_Md_required_74 rfl (lv_at hl 1 rfl) ?_
      refine va_get (D := D) (ci := 10) (C := R_Md) (T := T_Md) (N := 46) hx hb hts in_Md hown hK hst.1 54 (WS_o54 g σ) rfl 12 (by decide) (hts _ gw1076) (fun _ h9 => h9) rfl d_Md_required_75 ?_
      refine lv_iload hx hb d_Md_required_78 (lv_at hl 3 rfl) ?_
      obtain ⟨hi, h⟩ := h
      refine va_iald hx hb hK hst.1 66 0 (WS_a66 g σ) rfl hi d_Md_required_80 ?_
      refine lv_istore hx hb d_Md_required_81 hl (by decide) rfl (fun ls hl => ?_)
      have hl : lv_has ls 5 [(4, .int (σ.1 66 x4.toNatClampNeg)), (3, .int (0 : Int32)), (0, .ref (g.1 54)), (2, .int x2)] := hl
      refine lv_goto (tgt := 24) hx hb d_Md_required_83 (by decide) ?_
      exact j1 x2 (0 : Int32) (σ.1 66 x4.toNatClampNeg) σ _ _ _ (lv_sub hl [2, 3, 1, 0] rfl) hst h
    · replace h := h.2 hc
      refine lv_aload_n hx hb d_Md_required_33 rfl (lv_at hl 0 rfl) ?_
      refine va_get (D := D) (ci := 10) (C := R_Md) (T := T_Md) (N := 46) hx hb hts in_Md hown hK hst.1 54 (WS_o54 g σ) rfl 5 (by decide) (hts _ gw1069) (fun _ h9 => h9) rfl d_Md_required_34 ?_
      refine lv_iload hx hb d_Md_required_37 (lv_at hl 3 rfl) ?_
      obtain ⟨hi, h⟩ := h
      refine va_iald hx hb hK hst.1 59 0 (WS_a59 g σ) rfl hi d_Md_required_39 ?_
      refine lv_iconst (v := (4 : Int32)) hx hb d_Md_required_40 (by decide) ?_
      refine lv_icmp_ne (tgt := 68) hx hb d_Md_required_41 (by decide) (fun hc => ?_) (fun hc => ?_)
      · replace h := h.1 hc
        refine lv_iconst (v := (1 : Int32)) hx hb d_Md_required_68 (by decide) ?_
        refine lv_goto (tgt := 73) hx hb d_Md_required_69 (by decide) ?_
        refine lv_istore_n hx hb d_Md_required_73 rfl hl (by decide) rfl (fun ls hl => ?_)
        have hl : lv_has ls 5 [(3, .int (1 : Int32)), (0, .ref (g.1 54)), (2, .int x2), (4, .int x4)] := hl
        refine lv_aload_n hx hb d_Md_required_74 rfl (lv_at hl 1 rfl) ?_
        refine va_get (D := D) (ci := 10) (C := R_Md) (T := T_Md) (N := 46) hx hb hts in_Md hown hK hst.1 54 (WS_o54 g σ) rfl 12 (by decide) (hts _ gw1076) (fun _ h9 => h9) rfl d_Md_required_75 ?_
        refine lv_iload hx hb d_Md_required_78 (lv_at hl 3 rfl) ?_
        obtain ⟨hi, h⟩ := h
        refine va_iald hx hb hK hst.1 66 0 (WS_a66 g σ) rfl hi d_Md_required_80 ?_
        refine lv_istore hx hb d_Md_required_81 hl (by decide) rfl (fun ls hl => ?_)
        have hl : lv_has ls 5 [(4, .int (σ.1 66 x4.toNatClampNeg)), (3, .int (1 : Int32)), (0, .ref (g.1 54)), (2, .int x2)] := hl
        refine lv_goto (tgt := 24) hx hb d_Md_required_83 (by decide) ?_
        exact j1 x2 (1 : Int32) (σ.1 66 x4.toNatClampNeg) σ _ _ _ (lv_sub hl [2, 3, 1, 0] rfl) hst h
      · replace h := h.2 hc
        refine lv_aload_n hx hb d_Md_required_44 rfl (lv_at hl 0 rfl) ?_
        refine lv_iload_n hx hb d_Md_required_45 rfl (lv_at hl 1 rfl) ?_
        refine lv_aload_n hx hb d_Md_required_46 rfl (lv_at hl 0 rfl) ?_
        refine va_get (D := D) (ci := 10) (C := R_Md) (T := T_Md) (N := 46) hx hb hts in_Md hown hK hst.1 54 (WS_o54 g σ) rfl 6 (by decide) (hts _ gw1070) (fun _ h9 => h9) rfl d_Md_required_47 ?_
        refine lv_iload hx hb d_Md_required_50 (lv_at hl 3 rfl) ?_
        obtain ⟨hi, h⟩ := h
        refine va_iald hx hb hK hst.1 60 0 (WS_a60 g σ) rfl hi d_Md_required_52 ?_
        refine lv_iconst (v := (1 : Int32)) hx hb d_Md_required_53 (by decide) ?_
        refine lv_iadd hx hb d_Md_required_54 ?_
        refine lv_aload_n hx hb d_Md_required_55 rfl (lv_at hl 0 rfl) ?_
        refine va_get (D := D) (ci := 10) (C := R_Md) (T := T_Md) (N := 46) hx hb hts in_Md hown hK hst.1 54 (WS_o54 g σ) rfl 8 (by decide) (hts _ gw1072) (fun _ h9 => h9) rfl d_Md_required_56 ?_
        refine lv_iload hx hb d_Md_required_59 (lv_at hl 3 rfl) ?_
        obtain ⟨hi, h⟩ := h
        refine va_iald hx hb hK hst.1 62 0 (WS_a62 g σ) rfl hi d_Md_required_61 ?_
        refine kw_calli (va_runV (As := [.int x2, .int ((σ.1 60 x4.toNatClampNeg) + (1 : Int32)), .int (σ.1 62 x4.toNatClampNeg)]) (rest := []) (b := g.1 54) ⟨hx, hb, hml, hown, hts⟩ (c_Md_childNamed l x2 ((σ.1 60 x4.toNatClampNeg) + (1 : Int32)) (σ.1 62 x4.toNatClampNeg) h) (cwV 3 hts (gd_v gw1313 gw1315 gs60 gw15 gw1316) rfl rfl rfl (by decide +kernel) ⟨Nat.le_of_ble_eq_true rfl, Nat.le_of_ble_eq_true rfl⟩) ⟨kw_blind (Zk_ok g), va_recv hK hst.1 rfl (WS_o54 g σ), kw_pre (Zk_ok g) hK hZ hA hst⟩ rfl rfl hl.1 rfl (lv_room (Nat.le_of_ble_eq_true rfl)) d_Md_required_62 ⟨Nat.le_of_ble_eq_true rfl, Nat.le_of_ble_eq_true rfl⟩) hst hA (fun r1 σ1 H locs h hst => ?_)
        refine lv_if_lt (tgt := 72) hx hb d_Md_required_65 (by decide) (fun hc => ?_) (fun hc => ?_)
        · replace h := h.1 hc
          refine lv_iconst (v := (0 : Int32)) hx hb d_Md_required_72 (by decide) ?_
          refine lv_istore_n hx hb d_Md_required_73 rfl hl (by decide) rfl (fun ls hl => ?_)
          have hl : lv_has ls 5 [(3, .int (0 : Int32)), (0, .ref (g.1 54)), (2, .int x2), (4, .int x4)] := hl
          refine lv_aload_n hx hb d_Md_required_74 rfl (lv_at hl 1 rfl) ?_
          refine va_get (D := D) (ci := 10) (C := R_Md) (T := T_Md) (N := 46) hx hb hts in_Md hown hK hst.1 54 (WS_o54 g σ1) rfl 12 (by decide) (hts _ gw1076) (fun _ h9 => h9) rfl d_Md_required_75 ?_
          refine lv_iload hx hb d_Md_required_78 (lv_at hl 3 rfl) ?_
          obtain ⟨hi, h⟩ := h
          refine va_iald hx hb hK hst.1 66 0 (WS_a66 g σ1) rfl hi d_Md_required_80 ?_
          refine lv_istore hx hb d_Md_required_81 hl (by decide) rfl (fun ls hl => ?_)
          have hl : lv_has ls 5 [(4, .int (σ1.1 66 x4.toNatClampNeg)), (3, .int (0 : Int32)), (0, .ref (g.1 54)), (2, .int x2)] := hl
          refine lv_goto (tgt := 24) hx hb d_Md_required_83 (by decide) ?_
          exact j1 x2 (0 : Int32) (σ1.1 66 x4.toNatClampNeg) σ1 _ _ _ (lv_sub hl [2, 3, 1, 0] rfl) hst h
        · replace h := h.2 hc
          refine lv_iconst (v := (1 : Int32)) hx hb d_Md_required_68 (by decide) ?_
          refine lv_goto (tgt := 73) hx hb d_Md_required_69 (by decide) ?_
          refine lv_istore_n hx hb d_Md_required_73 rfl hl (by decide) rfl (fun ls hl => ?_)
          have hl : lv_has ls 5 [(3, .int (1 : Int32)), (0, .ref (g.1 54)), (2, .int x2), (4, .int x4)] := hl
          refine lv_aload_n hx hb d_Md_required_74 rfl (lv_at hl 1 rfl) ?_
          refine va_get (D := D) (ci := 10) (C := R_Md) (T := T_Md) (N := 46) hx hb hts in_Md hown hK hst.1 54 (WS_o54 g σ1) rfl 12 (by decide) (hts _ gw1076) (fun _ h9 => h9) rfl d_Md_required_75 ?_
          refine lv_iload hx hb d_Md_required_78 (lv_at hl 3 rfl) ?_
          obtain ⟨hi, h⟩ := h
          refine va_iald hx hb hK hst.1 66 0 (WS_a66 g σ1) rfl hi d_Md_required_80 ?_
          refine lv_istore hx hb d_Md_required_81 hl (by decide) rfl (fun ls hl => ?_)
          have hl : lv_has ls 5 [(4, .int (σ1.1 66 x4.toNatClampNeg)), (3, .int (1 : Int32)), (0, .ref (g.1 54)), (2, .int x2)] := hl
          refine lv_goto (tgt := 24) hx hb d_Md_required_83 (by decide) ?_
          exact j1 x2 (1 : Int32) (σ1.1 66 x4.toNatClampNeg) σ1 _ _ _ (lv_sub hl [2, 3, 1, 0] rfl) hst h
set_option maxRecDepth 100000 in
set_option maxHeartbeats 4000000 in
theorem a_Md_required {p : Program} {l : Launch} {e : Env} {s : State} {m : MethodId} {args : Array Value} {below : List Frame} {meth : Method} {c : Code} {D : va_G} {g : Gm} {A : Nat → Prop} {post : Int32 → Sg → Prop} (C : kC p s m args meth c k_Md_required 5 (some .boolean) GW R_Md D vwCl g (Zk g) A) : ∀ n : Nat, J_Md_required_1 p l e s m args below meth c D g A post (wp_Md_required post n) := by
  intro n
  induction n with
  | zero => exact fun _ _ _ _ _ _ _ _ _ h => h.elim
  | succ n ih => exact fun x2 x3 x4 σ H locs ls hl hst h => b_Md_required_1 (F := wp_Md_required post n) C (ih) x2 x3 x4 σ H locs ls hl hst h
set_option maxRecDepth 100000 in
set_option maxHeartbeats 4000000 in
theorem c_Md_required (l : Launch) {D : va_G} {g : Gm} {sz : Nat} (x1 : Int32) (x2 : Int32) {σ : Sg} {post : Int32 → Sg → Prop} (h : wq_Md_required x1 x2 σ post) : Met l y_Md_required (.code y_Md_required k_Md_required 5 (some .boolean) :: GW) { frames := 2, cells := 0, slots := 0, locals := 51 } (PcW D vwCl (WS g) g (Zk g) σ sz [.ref (g.1 54), .int x1, .int x2]) (QiW D vwCl (WS g) post (va_A (WS g σ) sz)) 0 0 (va_A (WS g σ) sz) := by
  refine kw_entry (own := R_Md) (by decide) rfl rfl (Nat.le_of_ble_eq_true rfl) ?_
  intro p e s m below meth c ls hsz C hin hl hst
  obtain ⟨n, h⟩ := h
  cases n with
  | zero => exact h.elim
  | succ n =>
    have ih := a_Md_required (l := l) (e := e) (below := below) (post := post) C n
    exact b_Md_required_0 (F := wp_Md_required post n) C (ih) x1 x2 σ _ _ ls hl hst h
/-! SchemaDeskModel.propertyFor (II)I -/
abbrev k_Md_propertyFor : ByteArray := prog_12_method_52_code
abbrev y_Md_propertyFor : MethodName := ⟨"SchemaDeskModel", "propertyFor", "(II)I"⟩
theorem d_Md_propertyFor_0 : decode k_Md_propertyFor 0 = .ok (.aload_n 0, 1) := by decide +kernel
theorem d_Md_propertyFor_1 : decode k_Md_propertyFor 1 = .ok (.getfield 129, 3) := by decide +kernel
theorem d_Md_propertyFor_4 : decode k_Md_propertyFor 4 = .ok (.bipush 22, 2) := by decide +kernel
theorem d_Md_propertyFor_6 : decode k_Md_propertyFor 6 = .ok (.iload_n 1, 1) := by decide +kernel
theorem d_Md_propertyFor_7 : decode k_Md_propertyFor 7 = .ok (.imul, 1) := by decide +kernel
theorem d_Md_propertyFor_8 : decode k_Md_propertyFor 8 = .ok (.bipush 12, 2) := by decide +kernel
theorem d_Md_propertyFor_10 : decode k_Md_propertyFor 10 = .ok (.iadd, 1) := by decide +kernel
theorem d_Md_propertyFor_11 : decode k_Md_propertyFor 11 = .ok (.iaload, 1) := by decide +kernel
theorem d_Md_propertyFor_12 : decode k_Md_propertyFor 12 = .ok (.istore_n 3, 1) := by decide +kernel
theorem d_Md_propertyFor_13 : decode k_Md_propertyFor 13 = .ok (.iload_n 3, 1) := by decide +kernel
theorem d_Md_propertyFor_14 : decode k_Md_propertyFor 14 = .ok (.ifCond .lt 14, 3) := by decide +kernel
theorem d_Md_propertyFor_17 : decode k_Md_propertyFor 17 = .ok (.aload_n 0, 1) := by decide +kernel
theorem d_Md_propertyFor_18 : decode k_Md_propertyFor 18 = .ok (.getfield 77, 3) := by decide +kernel
theorem d_Md_propertyFor_21 : decode k_Md_propertyFor 21 = .ok (.iload_n 3, 1) := by decide +kernel
theorem d_Md_propertyFor_22 : decode k_Md_propertyFor 22 = .ok (.iaload, 1) := by decide +kernel
theorem d_Md_propertyFor_23 : decode k_Md_propertyFor 23 = .ok (.bipush 6, 2) := by decide +kernel
theorem d_Md_propertyFor_25 : decode k_Md_propertyFor 25 = .ok (.if_icmp .eq 7, 3) := by decide +kernel
theorem d_Md_propertyFor_28 : decode k_Md_propertyFor 28 = .ok (.iconst (-1), 1) := by decide +kernel
theorem d_Md_propertyFor_29 : decode k_Md_propertyFor 29 = .ok (.goto 30, 3) := by decide +kernel
theorem d_Md_propertyFor_32 : decode k_Md_propertyFor 32 = .ok (.aload_n 0, 1) := by decide +kernel
theorem d_Md_propertyFor_33 : decode k_Md_propertyFor 33 = .ok (.iload_n 3, 1) := by decide +kernel
theorem d_Md_propertyFor_34 : decode k_Md_propertyFor 34 = .ok (.sipush 160, 3) := by decide +kernel
theorem d_Md_propertyFor_37 : decode k_Md_propertyFor 37 = .ok (.aload_n 0, 1) := by decide +kernel
theorem d_Md_propertyFor_38 : decode k_Md_propertyFor 38 = .ok (.getfield 101, 3) := by decide +kernel
theorem d_Md_propertyFor_41 : decode k_Md_propertyFor 41 = .ok (.iload_n 2, 1) := by decide +kernel
theorem d_Md_propertyFor_42 : decode k_Md_propertyFor 42 = .ok (.iaload, 1) := by decide +kernel
theorem d_Md_propertyFor_43 : decode k_Md_propertyFor 43 = .ok (.iadd, 1) := by decide +kernel
theorem d_Md_propertyFor_44 : decode k_Md_propertyFor 44 = .ok (.iconst 1, 1) := by decide +kernel
theorem d_Md_propertyFor_45 : decode k_Md_propertyFor 45 = .ok (.iadd, 1) := by decide +kernel
theorem d_Md_propertyFor_46 : decode k_Md_propertyFor 46 = .ok (.sipush 160, 3) := by decide +kernel
theorem d_Md_propertyFor_49 : decode k_Md_propertyFor 49 = .ok (.aload_n 0, 1) := by decide +kernel
theorem d_Md_propertyFor_50 : decode k_Md_propertyFor 50 = .ok (.getfield 104, 3) := by decide +kernel
theorem d_Md_propertyFor_53 : decode k_Md_propertyFor 53 = .ok (.iload_n 2, 1) := by decide +kernel
theorem d_Md_propertyFor_54 : decode k_Md_propertyFor 54 = .ok (.iaload, 1) := by decide +kernel
theorem d_Md_propertyFor_55 : decode k_Md_propertyFor 55 = .ok (.iadd, 1) := by decide +kernel
theorem d_Md_propertyFor_56 : decode k_Md_propertyFor 56 = .ok (.invokevirtual 249, 3) := by decide +kernel
theorem d_Md_propertyFor_59 : decode k_Md_propertyFor 59 = .ok (.ireturn, 1) := by decide +kernel
def wq_Md_propertyFor (x1 : Int32) (x2 : Int32) (σ : Sg) (post : Int32 → Sg → Prop) : Prop := (vp_in (((22 : Int32) * x1) + (12 : Int32)) 3520 ∧ (((σ.1 76 ((((22 : Int32) * x1) + (12 : Int32)) : Int32).toNatClampNeg) < 0 → post (-1 : Int32) σ) ∧ (¬ (σ.1 76 ((((22 : Int32) * x1) + (12 : Int32)) : Int32).toNatClampNeg) < 0 → (vp_in (σ.1 76 ((((22 : Int32) * x1) + (12 : Int32)) : Int32).toNatClampNeg) 240 ∧ (((σ.1 59 ((σ.1 76 ((((22 : Int32) * x1) + (12 : Int32)) : Int32).toNatClampNeg) : Int32).toNatClampNeg) = (6 : Int32) → (vp_in x2 240 ∧ (vp_in x2 240 ∧ (wq_Md_childNamed (σ.1 76 ((((22 : Int32) * x1) + (12 : Int32)) : Int32).toNatClampNeg) (((160 : Int32) + (σ.1 67 x2.toNatClampNeg)) + (1 : Int32)) ((160 : Int32) + (σ.1 68 x2.toNatClampNeg)) σ (fun r1 σ1 => post r1 σ1))))) ∧ (¬ (σ.1 59 ((σ.1 76 ((((22 : Int32) * x1) + (12 : Int32)) : Int32).toNatClampNeg) : Int32).toNatClampNeg) = (6 : Int32) → post (-1 : Int32) σ))))))
set_option maxRecDepth 100000 in
set_option maxHeartbeats 4000000 in
theorem b_Md_propertyFor_0 {p : Program} {l : Launch} {e : Env} {s : State} {m : MethodId} {args : Array Value} {below : List Frame} {meth : Method} {c : Code} {D : va_G} {g : Gm} {A : Nat → Prop} {post : Int32 → Sg → Prop} (C : kC p s m args meth c k_Md_propertyFor 4 (some .int) GW R_Md D vwCl g (Zk g) A) (x1 : Int32) (x2 : Int32) (σ : Sg) (H : Heap) (locs : List Loc) (ls : Array Slot) (hl : lv_has ls 4 [(0, .ref (g.1 54)), (1, .int x1), (2, .int x2)]) (hst : Wst D vwCl (WS g) A s σ H locs) (h : wq_Md_propertyFor x1 x2 σ post) : W p l e { frames := 2, cells := 0, slots := 0, locals := 51 } s m args below meth c H locs 0 0 (MQ below (QiW D vwCl (WS g) post A) args s 0 0 A) (F0 m 0 ls []) := by
  obtain ⟨hx, hb, hr, hml, hown, hts, hlocks, hK, hZ, hA⟩ := C
  unfold wq_Md_propertyFor at h
  refine lv_aload_n hx hb d_Md_propertyFor_0 rfl (lv_at hl 0 rfl) ?_
  refine va_get (D := D) (ci := 10) (C := R_Md) (T := T_Md) (N := 46) hx hb hts in_Md hown hK hst.1 54 (WS_o54 g σ) rfl 25 (by decide) (hts _ gw1089) (fun _ h9 => h9) rfl d_Md_propertyFor_1 ?_
  refine lv_bipush (v := (22 : Int32)) hx hb d_Md_propertyFor_4 (by decide) ?_
  refine lv_iload_n hx hb d_Md_propertyFor_6 rfl (lv_at hl 1 rfl) ?_
  refine lv_imul hx hb d_Md_propertyFor_7 ?_
  refine lv_bipush (v := (12 : Int32)) hx hb d_Md_propertyFor_8 (by decide) ?_
  refine lv_iadd hx hb d_Md_propertyFor_10 ?_
  obtain ⟨hi, h⟩ := h
  refine va_iald hx hb hK hst.1 76 0 (WS_a76 g σ) rfl hi d_Md_propertyFor_11 ?_
  refine lv_istore_n hx hb d_Md_propertyFor_12 rfl hl (by decide) rfl (fun ls hl => ?_)
  have hl : lv_has ls 4 [(3, .int (σ.1 76 ((((22 : Int32) * x1) + (12 : Int32)) : Int32).toNatClampNeg)), (0, .ref (g.1 54)), (1, .int x1), (2, .int x2)] := hl
  refine lv_iload_n hx hb d_Md_propertyFor_13 rfl (lv_at hl 0 rfl) ?_
  refine lv_if_lt (tgt := 28) hx hb d_Md_propertyFor_14 (by decide) (fun hc => ?_) (fun hc => ?_)
  · replace h := h.1 hc
    refine lv_iconst (v := (-1 : Int32)) hx hb d_Md_propertyFor_28 (by decide) ?_
    refine lv_goto (tgt := 59) hx hb d_Md_propertyFor_29 (by decide) ?_
    exact kw_iret hx hb hr hlocks hst h d_Md_propertyFor_59
  · replace h := h.2 hc
    refine lv_aload_n hx hb d_Md_propertyFor_17 rfl (lv_at hl 1 rfl) ?_
    refine va_get (D := D) (ci := 10) (C := R_Md) (T := T_Md) (N := 46) hx hb hts in_Md hown hK hst.1 54 (WS_o54 g σ) rfl 5 (by decide) (hts _ gw1069) (fun _ h9 => h9) rfl d_Md_propertyFor_18 ?_
    refine lv_iload_n hx hb d_Md_propertyFor_21 rfl (lv_at hl 0 rfl) ?_
    obtain ⟨hi, h⟩ := h
    refine va_iald hx hb hK hst.1 59 0 (WS_a59 g σ) rfl hi d_Md_propertyFor_22 ?_
    refine lv_bipush (v := (6 : Int32)) hx hb d_Md_propertyFor_23 (by decide) ?_
    refine lv_icmp_eq (tgt := 32) hx hb d_Md_propertyFor_25 (by decide) (fun hc => ?_) (fun hc => ?_)
    · replace h := h.1 hc
      refine lv_aload_n hx hb d_Md_propertyFor_32 rfl (lv_at hl 1 rfl) ?_
      refine lv_iload_n hx hb d_Md_propertyFor_33 rfl (lv_at hl 0 rfl) ?_
      refine lv_sipush (v := (160 : Int32)) hx hb d_Md_propertyFor_34 (by decide) ?_
      refine lv_aload_n hx hb d_Md_propertyFor_37 rfl (lv_at hl 1 rfl) ?_
      refine va_get (D := D) (ci := 10) (C := R_Md) (T := T_Md) (N := 46) hx hb hts in_Md hown hK hst.1 54 (WS_o54 g σ) rfl 13 (by decide) (hts _ gw1077) (fun _ h9 => h9) rfl d_Md_propertyFor_38 ?_
      refine lv_iload_n hx hb d_Md_propertyFor_41 rfl (lv_at hl 3 rfl) ?_
      obtain ⟨hi, h⟩ := h
      refine va_iald hx hb hK hst.1 67 0 (WS_a67 g σ) rfl hi d_Md_propertyFor_42 ?_
      refine lv_iadd hx hb d_Md_propertyFor_43 ?_
      refine lv_iconst (v := (1 : Int32)) hx hb d_Md_propertyFor_44 (by decide) ?_
      refine lv_iadd hx hb d_Md_propertyFor_45 ?_
      refine lv_sipush (v := (160 : Int32)) hx hb d_Md_propertyFor_46 (by decide) ?_
      refine lv_aload_n hx hb d_Md_propertyFor_49 rfl (lv_at hl 1 rfl) ?_
      refine va_get (D := D) (ci := 10) (C := R_Md) (T := T_Md) (N := 46) hx hb hts in_Md hown hK hst.1 54 (WS_o54 g σ) rfl 14 (by decide) (hts _ gw1078) (fun _ h9 => h9) rfl d_Md_propertyFor_50 ?_
      refine lv_iload_n hx hb d_Md_propertyFor_53 rfl (lv_at hl 3 rfl) ?_
      obtain ⟨hi, h⟩ := h
      refine va_iald hx hb hK hst.1 68 0 (WS_a68 g σ) rfl hi d_Md_propertyFor_54 ?_
      refine lv_iadd hx hb d_Md_propertyFor_55 ?_
      refine kw_calli (va_runV (As := [.int (σ.1 76 ((((22 : Int32) * x1) + (12 : Int32)) : Int32).toNatClampNeg), .int (((160 : Int32) + (σ.1 67 x2.toNatClampNeg)) + (1 : Int32)), .int ((160 : Int32) + (σ.1 68 x2.toNatClampNeg))]) (rest := []) (b := g.1 54) ⟨hx, hb, hml, hown, hts⟩ (c_Md_childNamed l (σ.1 76 ((((22 : Int32) * x1) + (12 : Int32)) : Int32).toNatClampNeg) (((160 : Int32) + (σ.1 67 x2.toNatClampNeg)) + (1 : Int32)) ((160 : Int32) + (σ.1 68 x2.toNatClampNeg)) h) (cwV 3 hts (gd_v gw1313 gw1315 gs60 gw15 gw1316) rfl rfl rfl (by decide +kernel) ⟨Nat.le_of_ble_eq_true rfl, Nat.le_of_ble_eq_true rfl⟩) ⟨kw_blind (Zk_ok g), va_recv hK hst.1 rfl (WS_o54 g σ), kw_pre (Zk_ok g) hK hZ hA hst⟩ rfl rfl hl.1 rfl (lv_room (Nat.le_of_ble_eq_true rfl)) d_Md_propertyFor_56 ⟨Nat.le_of_ble_eq_true rfl, Nat.le_of_ble_eq_true rfl⟩) hst hA (fun r1 σ1 H locs h hst => ?_)
      exact kw_iret hx hb hr hlocks hst h d_Md_propertyFor_59
    · replace h := h.2 hc
      refine lv_iconst (v := (-1 : Int32)) hx hb d_Md_propertyFor_28 (by decide) ?_
      refine lv_goto (tgt := 59) hx hb d_Md_propertyFor_29 (by decide) ?_
      exact kw_iret hx hb hr hlocks hst h d_Md_propertyFor_59
set_option maxRecDepth 100000 in
set_option maxHeartbeats 4000000 in
theorem c_Md_propertyFor (l : Launch) {D : va_G} {g : Gm} {sz : Nat} (x1 : Int32) (x2 : Int32) {σ : Sg} {post : Int32 → Sg → Prop} (h : wq_Md_propertyFor x1 x2 σ post) : Met l y_Md_propertyFor (.code y_Md_propertyFor k_Md_propertyFor 4 (some .int) :: GW) { frames := 2, cells := 0, slots := 0, locals := 51 } (PcW D vwCl (WS g) g (Zk g) σ sz [.ref (g.1 54), .int x1, .int x2]) (QiW D vwCl (WS g) post (va_A (WS g σ) sz)) 0 0 (va_A (WS g σ) sz) := by
  refine kw_entry (own := R_Md) (by decide) rfl rfl (Nat.le_of_ble_eq_true rfl) ?_
  intro p e s m below meth c ls hsz C hin hl hst
  exact b_Md_propertyFor_0 C x1 x2 σ _ _ ls hl hst h
/-! SchemaDeskModel.spokenOf (IIII)I -/
abbrev k_Md_spokenOf : ByteArray := prog_12_method_53_code
abbrev y_Md_spokenOf : MethodName := ⟨"SchemaDeskModel", "spokenOf", "(IIII)I"⟩
theorem d_Md_spokenOf_0 : decode k_Md_spokenOf 0 = .ok (.aload_n 0, 1) := by decide +kernel
theorem d_Md_spokenOf_1 : decode k_Md_spokenOf 1 = .ok (.getfield 129, 3) := by decide +kernel
theorem d_Md_spokenOf_4 : decode k_Md_spokenOf 4 = .ok (.bipush 22, 2) := by decide +kernel
theorem d_Md_spokenOf_6 : decode k_Md_spokenOf 6 = .ok (.iload_n 1, 1) := by decide +kernel
theorem d_Md_spokenOf_7 : decode k_Md_spokenOf 7 = .ok (.imul, 1) := by decide +kernel
theorem d_Md_spokenOf_8 : decode k_Md_spokenOf 8 = .ok (.iload_n 2, 1) := by decide +kernel
theorem d_Md_spokenOf_9 : decode k_Md_spokenOf 9 = .ok (.iadd, 1) := by decide +kernel
theorem d_Md_spokenOf_10 : decode k_Md_spokenOf 10 = .ok (.iaload, 1) := by decide +kernel
theorem d_Md_spokenOf_11 : decode k_Md_spokenOf 11 = .ok (.istore 5, 2) := by decide +kernel
theorem d_Md_spokenOf_13 : decode k_Md_spokenOf 13 = .ok (.iload 5, 2) := by decide +kernel
theorem d_Md_spokenOf_15 : decode k_Md_spokenOf 15 = .ok (.ifCond .ge 5, 3) := by decide +kernel
theorem d_Md_spokenOf_18 : decode k_Md_spokenOf 18 = .ok (.iconst (-1), 1) := by decide +kernel
theorem d_Md_spokenOf_19 : decode k_Md_spokenOf 19 = .ok (.ireturn, 1) := by decide +kernel
theorem d_Md_spokenOf_20 : decode k_Md_spokenOf 20 = .ok (.iload_n 2, 1) := by decide +kernel
theorem d_Md_spokenOf_21 : decode k_Md_spokenOf 21 = .ok (.bipush 14, 2) := by decide +kernel
theorem d_Md_spokenOf_23 : decode k_Md_spokenOf 23 = .ok (.if_icmp .ne 21, 3) := by decide +kernel
theorem d_Md_spokenOf_26 : decode k_Md_spokenOf 26 = .ok (.aload_n 0, 1) := by decide +kernel
theorem d_Md_spokenOf_27 : decode k_Md_spokenOf 27 = .ok (.getfield 77, 3) := by decide +kernel
theorem d_Md_spokenOf_30 : decode k_Md_spokenOf 30 = .ok (.iload 4, 2) := by decide +kernel
theorem d_Md_spokenOf_32 : decode k_Md_spokenOf 32 = .ok (.iaload, 1) := by decide +kernel
theorem d_Md_spokenOf_33 : decode k_Md_spokenOf 33 = .ok (.iconst 5, 1) := by decide +kernel
theorem d_Md_spokenOf_34 : decode k_Md_spokenOf 34 = .ok (.if_icmp .ne 8, 3) := by decide +kernel
theorem d_Md_spokenOf_37 : decode k_Md_spokenOf 37 = .ok (.iload 5, 2) := by decide +kernel
theorem d_Md_spokenOf_39 : decode k_Md_spokenOf 39 = .ok (.goto 4, 3) := by decide +kernel
theorem d_Md_spokenOf_42 : decode k_Md_spokenOf 42 = .ok (.iconst (-1), 1) := by decide +kernel
theorem d_Md_spokenOf_43 : decode k_Md_spokenOf 43 = .ok (.ireturn, 1) := by decide +kernel
theorem d_Md_spokenOf_44 : decode k_Md_spokenOf 44 = .ok (.aload_n 0, 1) := by decide +kernel
theorem d_Md_spokenOf_45 : decode k_Md_spokenOf 45 = .ok (.getfield 77, 3) := by decide +kernel
theorem d_Md_spokenOf_48 : decode k_Md_spokenOf 48 = .ok (.iload 4, 2) := by decide +kernel
theorem d_Md_spokenOf_50 : decode k_Md_spokenOf 50 = .ok (.iaload, 1) := by decide +kernel
theorem d_Md_spokenOf_51 : decode k_Md_spokenOf 51 = .ok (.bipush 6, 2) := by decide +kernel
theorem d_Md_spokenOf_53 : decode k_Md_spokenOf 53 = .ok (.if_icmp .eq 5, 3) := by decide +kernel
theorem d_Md_spokenOf_56 : decode k_Md_spokenOf 56 = .ok (.iconst (-1), 1) := by decide +kernel
theorem d_Md_spokenOf_57 : decode k_Md_spokenOf 57 = .ok (.ireturn, 1) := by decide +kernel
theorem d_Md_spokenOf_58 : decode k_Md_spokenOf 58 = .ok (.aload_n 0, 1) := by decide +kernel
theorem d_Md_spokenOf_59 : decode k_Md_spokenOf 59 = .ok (.iload_n 1, 1) := by decide +kernel
theorem d_Md_spokenOf_60 : decode k_Md_spokenOf 60 = .ok (.iload_n 3, 1) := by decide +kernel
theorem d_Md_spokenOf_61 : decode k_Md_spokenOf 61 = .ok (.invokevirtual 313, 3) := by decide +kernel
theorem d_Md_spokenOf_64 : decode k_Md_spokenOf 64 = .ok (.istore 6, 2) := by decide +kernel
theorem d_Md_spokenOf_66 : decode k_Md_spokenOf 66 = .ok (.iload_n 2, 1) := by decide +kernel
theorem d_Md_spokenOf_67 : decode k_Md_spokenOf 67 = .ok (.bipush 12, 2) := by decide +kernel
theorem d_Md_spokenOf_69 : decode k_Md_spokenOf 69 = .ok (.if_icmp .ne 6, 3) := by decide +kernel
theorem d_Md_spokenOf_72 : decode k_Md_spokenOf 72 = .ok (.iload 6, 2) := by decide +kernel
theorem d_Md_spokenOf_74 : decode k_Md_spokenOf 74 = .ok (.ireturn, 1) := by decide +kernel
theorem d_Md_spokenOf_75 : decode k_Md_spokenOf 75 = .ok (.iload_n 2, 1) := by decide +kernel
theorem d_Md_spokenOf_76 : decode k_Md_spokenOf 76 = .ok (.bipush 13, 2) := by decide +kernel
theorem d_Md_spokenOf_78 : decode k_Md_spokenOf 78 = .ok (.if_icmp .ne 15, 3) := by decide +kernel
theorem d_Md_spokenOf_81 : decode k_Md_spokenOf 81 = .ok (.iload 6, 2) := by decide +kernel
theorem d_Md_spokenOf_83 : decode k_Md_spokenOf 83 = .ok (.ifCond .ge 8, 3) := by decide +kernel
theorem d_Md_spokenOf_86 : decode k_Md_spokenOf 86 = .ok (.iload 5, 2) := by decide +kernel
theorem d_Md_spokenOf_88 : decode k_Md_spokenOf 88 = .ok (.goto 4, 3) := by decide +kernel
theorem d_Md_spokenOf_91 : decode k_Md_spokenOf 91 = .ok (.iconst (-1), 1) := by decide +kernel
theorem d_Md_spokenOf_92 : decode k_Md_spokenOf 92 = .ok (.ireturn, 1) := by decide +kernel
theorem d_Md_spokenOf_93 : decode k_Md_spokenOf 93 = .ok (.aload_n 0, 1) := by decide +kernel
theorem d_Md_spokenOf_94 : decode k_Md_spokenOf 94 = .ok (.getfield 277, 3) := by decide +kernel
theorem d_Md_spokenOf_97 : decode k_Md_spokenOf 97 = .ok (.aload_n 0, 1) := by decide +kernel
theorem d_Md_spokenOf_98 : decode k_Md_spokenOf 98 = .ok (.getfield 281, 3) := by decide +kernel
theorem d_Md_spokenOf_101 : decode k_Md_spokenOf 101 = .ok (.iload_n 3, 1) := by decide +kernel
theorem d_Md_spokenOf_102 : decode k_Md_spokenOf 102 = .ok (.sipush 160, 3) := by decide +kernel
theorem d_Md_spokenOf_105 : decode k_Md_spokenOf 105 = .ok (.isub, 1) := by decide +kernel
theorem d_Md_spokenOf_106 : decode k_Md_spokenOf 106 = .ok (.invokestatic 284, 3) := by decide +kernel
theorem d_Md_spokenOf_109 : decode k_Md_spokenOf 109 = .ok (.ifCond .eq 7, 3) := by decide +kernel
theorem d_Md_spokenOf_112 : decode k_Md_spokenOf 112 = .ok (.iconst (-1), 1) := by decide +kernel
theorem d_Md_spokenOf_113 : decode k_Md_spokenOf 113 = .ok (.goto 5, 3) := by decide +kernel
theorem d_Md_spokenOf_116 : decode k_Md_spokenOf 116 = .ok (.iload 5, 2) := by decide +kernel
theorem d_Md_spokenOf_118 : decode k_Md_spokenOf 118 = .ok (.ireturn, 1) := by decide +kernel
theorem gw1388 : (Jvm.Cond.methodLink "SchemaDeskModel" (313 : Nat) ({ cls := "SchemaDeskModel", name := "propertyFor", desc := "(II)I" } : Jvm.MethodName)) ∈ GW := gw_t6 (List.mem_of_getElem? (i := 188) rfl) rfl
theorem gw1390 : (Jvm.Cond.instanceMethod ({ cls := "SchemaDeskModel", name := "propertyFor", desc := "(II)I" } : Jvm.MethodName)) ∈ GW := gw_t6 (List.mem_of_getElem? (i := 190) rfl) rfl
theorem gs74 : Cond.selects "SchemaDeskModel" ⟨"SchemaDeskModel", "propertyFor", "(II)I"⟩ ⟨"SchemaDeskModel", "propertyFor", "(II)I"⟩ ∈ GW := gw_p5 (q := (⟨"SchemaDeskModel", "propertyFor", "(II)I"⟩, 46)) (List.mem_of_getElem? (i := 10) rfl)
theorem gw1391 : (Jvm.Cond.code ({ cls := "SchemaDeskModel", name := "propertyFor", desc := "(II)I" } : Jvm.MethodName) prog_12_method_52_code (4 : Nat) (Option.some Jvm.ClassFile.FieldType.int)) ∈ GW := gw_t6 (List.mem_of_getElem? (i := 191) rfl) rfl
def wq_Md_spokenOf (x1 : Int32) (x2 : Int32) (x3 : Int32) (x4 : Int32) (σ : Sg) (post : Int32 → Sg → Prop) : Prop := (vp_in (((22 : Int32) * x1) + x2) 3520 ∧ ((0 ≤ (σ.1 76 ((((22 : Int32) * x1) + x2) : Int32).toNatClampNeg) → ((¬ x2 = (14 : Int32) → (vp_in x4 240 ∧ (((σ.1 59 x4.toNatClampNeg) = (6 : Int32) → (wq_Md_propertyFor x1 x3 σ (fun r1 σ1 => ((¬ x2 = (12 : Int32) → ((¬ x2 = (13 : Int32) → (wq_Md_bit (σ1.2.1 54 38) (σ1.2.1 54 39) (x3 - (160 : Int32)) σ1 (fun r2 σ2 => ((r2 = 0 → post (σ.1 76 ((((22 : Int32) * x1) + x2) : Int32).toNatClampNeg) σ2) ∧ (¬ r2 = 0 → post (-1 : Int32) σ2))))) ∧ (x2 = (13 : Int32) → ((0 ≤ r1 → post (-1 : Int32) σ1) ∧ (¬ 0 ≤ r1 → post (σ.1 76 ((((22 : Int32) * x1) + x2) : Int32).toNatClampNeg) σ1))))) ∧ (x2 = (12 : Int32) → post r1 σ1))))) ∧ (¬ (σ.1 59 x4.toNatClampNeg) = (6 : Int32) → post (-1 : Int32) σ)))) ∧ (x2 = (14 : Int32) → (vp_in x4 240 ∧ ((¬ (σ.1 59 x4.toNatClampNeg) = (5 : Int32) → post (-1 : Int32) σ) ∧ ((σ.1 59 x4.toNatClampNeg) = (5 : Int32) → post (σ.1 76 ((((22 : Int32) * x1) + x2) : Int32).toNatClampNeg) σ)))))) ∧ (¬ 0 ≤ (σ.1 76 ((((22 : Int32) * x1) + x2) : Int32).toNatClampNeg) → post (-1 : Int32) σ)))
set_option maxRecDepth 100000 in
set_option maxHeartbeats 4000000 in
theorem b_Md_spokenOf_0 {p : Program} {l : Launch} {e : Env} {s : State} {m : MethodId} {args : Array Value} {below : List Frame} {meth : Method} {c : Code} {D : va_G} {g : Gm} {A : Nat → Prop} {post : Int32 → Sg → Prop} (C : kC p s m args meth c k_Md_spokenOf 7 (some .int) GW R_Md D vwCl g (Zk g) A) (x1 : Int32) (x2 : Int32) (x3 : Int32) (x4 : Int32) (σ : Sg) (H : Heap) (locs : List Loc) (ls : Array Slot) (hl : lv_has ls 7 [(0, .ref (g.1 54)), (1, .int x1), (2, .int x2), (3, .int x3), (4, .int x4)]) (hst : Wst D vwCl (WS g) A s σ H locs) (h : wq_Md_spokenOf x1 x2 x3 x4 σ post) : W p l e { frames := 3, cells := 0, slots := 0, locals := 74 } s m args below meth c H locs 0 0 (MQ below (QiW D vwCl (WS g) post A) args s 0 0 A) (F0 m 0 ls []) := by
  obtain ⟨hx, hb, hr, hml, hown, hts, hlocks, hK, hZ, hA⟩ := C
  unfold wq_Md_spokenOf at h
  refine lv_aload_n hx hb d_Md_spokenOf_0 rfl (lv_at hl 0 rfl) ?_
  refine va_get (D := D) (ci := 10) (C := R_Md) (T := T_Md) (N := 46) hx hb hts in_Md hown hK hst.1 54 (WS_o54 g σ) rfl 25 (by decide) (hts _ gw1089) (fun _ h9 => h9) rfl d_Md_spokenOf_1 ?_
  refine lv_bipush (v := (22 : Int32)) hx hb d_Md_spokenOf_4 (by decide) ?_
  refine lv_iload_n hx hb d_Md_spokenOf_6 rfl (lv_at hl 1 rfl) ?_
  refine lv_imul hx hb d_Md_spokenOf_7 ?_
  refine lv_iload_n hx hb d_Md_spokenOf_8 rfl (lv_at hl 2 rfl) ?_
  refine lv_iadd hx hb d_Md_spokenOf_9 ?_
  obtain ⟨hi, h⟩ := h
  refine va_iald hx hb hK hst.1 76 0 (WS_a76 g σ) rfl hi d_Md_spokenOf_10 ?_
  refine lv_istore hx hb d_Md_spokenOf_11 hl (by decide) rfl (fun ls hl => ?_)
  have hl : lv_has ls 7 [(5, .int (σ.1 76 ((((22 : Int32) * x1) + x2) : Int32).toNatClampNeg)), (0, .ref (g.1 54)), (1, .int x1), (2, .int x2), (3, .int x3), (4, .int x4)] := hl
  refine lv_iload hx hb d_Md_spokenOf_13 (lv_at hl 0 rfl) ?_
  refine lv_if_ge (tgt := 20) hx hb d_Md_spokenOf_15 (by decide) (fun hc => ?_) (fun hc => ?_)
  · replace h := h.1 hc
    refine lv_iload_n hx hb d_Md_spokenOf_20 rfl (lv_at hl 3 rfl) ?_
    refine lv_bipush (v := (14 : Int32)) hx hb d_Md_spokenOf_21 (by decide) ?_
    refine lv_icmp_ne (tgt := 44) hx hb d_Md_spokenOf_23 (by decide) (fun hc => ?_) (fun hc => ?_)
    · replace h := h.1 hc
      refine lv_aload_n hx hb d_Md_spokenOf_44 rfl (lv_at hl 1 rfl) ?_
      refine va_get (D := D) (ci := 10) (C := R_Md) (T := T_Md) (N := 46) hx hb hts in_Md hown hK hst.1 54 (WS_o54 g σ) rfl 5 (by decide) (hts _ gw1069) (fun _ h9 => h9) rfl d_Md_spokenOf_45 ?_
      refine lv_iload hx hb d_Md_spokenOf_48 (lv_at hl 5 rfl) ?_
      obtain ⟨hi, h⟩ := h
      refine va_iald hx hb hK hst.1 59 0 (WS_a59 g σ) rfl hi d_Md_spokenOf_50 ?_
      refine lv_bipush (v := (6 : Int32)) hx hb d_Md_spokenOf_51 (by decide) ?_
      refine lv_icmp_eq (tgt := 58) hx hb d_Md_spokenOf_53 (by decide) (fun hc => ?_) (fun hc => ?_)
      · replace h := h.1 hc
        refine lv_aload_n hx hb d_Md_spokenOf_58 rfl (lv_at hl 1 rfl) ?_
        refine lv_iload_n hx hb d_Md_spokenOf_59 rfl (lv_at hl 2 rfl) ?_
        refine lv_iload_n hx hb d_Md_spokenOf_60 rfl (lv_at hl 4 rfl) ?_
        refine kw_calli (va_runV (As := [.int x1, .int x3]) (rest := []) (b := g.1 54) ⟨hx, hb, hml, hown, hts⟩ (c_Md_propertyFor l x1 x3 h) (cwV 2 hts (gd_v gw1388 gw1390 gs74 gw15 gw1391) rfl rfl rfl (by decide +kernel) ⟨Nat.le_of_ble_eq_true rfl, Nat.le_of_ble_eq_true rfl⟩) ⟨kw_blind (Zk_ok g), va_recv hK hst.1 rfl (WS_o54 g σ), kw_pre (Zk_ok g) hK hZ hA hst⟩ rfl rfl hl.1 rfl (lv_room (Nat.le_of_ble_eq_true rfl)) d_Md_spokenOf_61 ⟨Nat.le_of_ble_eq_true rfl, Nat.le_of_ble_eq_true rfl⟩) hst hA (fun r1 σ1 H locs h hst => ?_)
        refine lv_istore hx hb d_Md_spokenOf_64 hl (by decide) rfl (fun ls hl => ?_)
        have hl : lv_has ls 7 [(6, .int r1), (5, .int (σ.1 76 ((((22 : Int32) * x1) + x2) : Int32).toNatClampNeg)), (0, .ref (g.1 54)), (1, .int x1), (2, .int x2), (3, .int x3), (4, .int x4)] := hl
        refine lv_iload_n hx hb d_Md_spokenOf_66 rfl (lv_at hl 4 rfl) ?_
        refine lv_bipush (v := (12 : Int32)) hx hb d_Md_spokenOf_67 (by decide) ?_
        refine lv_icmp_ne (tgt := 75) hx hb d_Md_spokenOf_69 (by decide) (fun hc => ?_) (fun hc => ?_)
        · replace h := h.1 hc
          refine lv_iload_n hx hb d_Md_spokenOf_75 rfl (lv_at hl 4 rfl) ?_
          refine lv_bipush (v := (13 : Int32)) hx hb d_Md_spokenOf_76 (by decide) ?_
          refine lv_icmp_ne (tgt := 93) hx hb d_Md_spokenOf_78 (by decide) (fun hc => ?_) (fun hc => ?_)
          · replace h := h.1 hc
            refine lv_aload_n hx hb d_Md_spokenOf_93 rfl (lv_at hl 2 rfl) ?_
            refine va_get (D := D) (ci := 10) (C := R_Md) (T := T_Md) (N := 46) hx hb hts in_Md hown hK hst.1 54 (WS_o54 g σ1) rfl 38 (by decide) (hts _ gw1102) (fun _ h9 => h9) rfl d_Md_spokenOf_94 ?_
            refine lv_aload_n hx hb d_Md_spokenOf_97 rfl (lv_at hl 2 rfl) ?_
            refine va_get (D := D) (ci := 10) (C := R_Md) (T := T_Md) (N := 46) hx hb hts in_Md hown hK hst.1 54 (WS_o54 g σ1) rfl 39 (by decide) (hts _ gw1103) (fun _ h9 => h9) rfl d_Md_spokenOf_98 ?_
            refine lv_iload_n hx hb d_Md_spokenOf_101 rfl (lv_at hl 5 rfl) ?_
            refine lv_sipush (v := (160 : Int32)) hx hb d_Md_spokenOf_102 (by decide) ?_
            refine lv_isub hx hb d_Md_spokenOf_105 ?_
            refine kw_calli (va_runS (As := [.long (σ1.2.1 54 38), .long (σ1.2.1 54 39), .int (x3 - (160 : Int32))]) (rest := []) ⟨hx, hb, hml, hown, hts⟩ (c_Md_bit l (σ1.2.1 54 38) (σ1.2.1 54 39) (x3 - (160 : Int32)) h) (cwS 3 hts (gd_s gw1373 gw1374 gw15 gw1375) rfl rfl rfl (by decide +kernel) ⟨Nat.le_of_ble_eq_true rfl, Nat.le_of_ble_eq_true rfl⟩) ⟨kw_blind (Zk_ok g), kw_pre (Zk_ok g) hK hZ hA hst⟩ rfl rfl hl.1 rfl (lv_room (Nat.le_of_ble_eq_true rfl)) d_Md_spokenOf_106 ⟨Nat.le_of_ble_eq_true rfl, Nat.le_of_ble_eq_true rfl⟩) hst hA (fun r2 σ2 H locs h hst => ?_)
            refine lv_if_eq (tgt := 116) hx hb d_Md_spokenOf_109 (by decide) (fun hc => ?_) (fun hc => ?_)
            · replace h := h.1 hc
              refine lv_iload hx hb d_Md_spokenOf_116 (lv_at hl 1 rfl) ?_
              exact kw_iret hx hb hr hlocks hst h d_Md_spokenOf_118
            · replace h := h.2 hc
              refine lv_iconst (v := (-1 : Int32)) hx hb d_Md_spokenOf_112 (by decide) ?_
              refine lv_goto (tgt := 118) hx hb d_Md_spokenOf_113 (by decide) ?_
              exact kw_iret hx hb hr hlocks hst h d_Md_spokenOf_118
          · replace h := h.2 hc
            refine lv_iload hx hb d_Md_spokenOf_81 (lv_at hl 0 rfl) ?_
            refine lv_if_ge (tgt := 91) hx hb d_Md_spokenOf_83 (by decide) (fun hc => ?_) (fun hc => ?_)
            · replace h := h.1 hc
              refine lv_iconst (v := (-1 : Int32)) hx hb d_Md_spokenOf_91 (by decide) ?_
              exact kw_iret hx hb hr hlocks hst h d_Md_spokenOf_92
            · replace h := h.2 hc
              refine lv_iload hx hb d_Md_spokenOf_86 (lv_at hl 1 rfl) ?_
              refine lv_goto (tgt := 92) hx hb d_Md_spokenOf_88 (by decide) ?_
              exact kw_iret hx hb hr hlocks hst h d_Md_spokenOf_92
        · replace h := h.2 hc
          refine lv_iload hx hb d_Md_spokenOf_72 (lv_at hl 0 rfl) ?_
          exact kw_iret hx hb hr hlocks hst h d_Md_spokenOf_74
      · replace h := h.2 hc
        refine lv_iconst (v := (-1 : Int32)) hx hb d_Md_spokenOf_56 (by decide) ?_
        exact kw_iret hx hb hr hlocks hst h d_Md_spokenOf_57
    · replace h := h.2 hc
      refine lv_aload_n hx hb d_Md_spokenOf_26 rfl (lv_at hl 1 rfl) ?_
      refine va_get (D := D) (ci := 10) (C := R_Md) (T := T_Md) (N := 46) hx hb hts in_Md hown hK hst.1 54 (WS_o54 g σ) rfl 5 (by decide) (hts _ gw1069) (fun _ h9 => h9) rfl d_Md_spokenOf_27 ?_
      refine lv_iload hx hb d_Md_spokenOf_30 (lv_at hl 5 rfl) ?_
      obtain ⟨hi, h⟩ := h
      refine va_iald hx hb hK hst.1 59 0 (WS_a59 g σ) rfl hi d_Md_spokenOf_32 ?_
      refine lv_iconst (v := (5 : Int32)) hx hb d_Md_spokenOf_33 (by decide) ?_
      refine lv_icmp_ne (tgt := 42) hx hb d_Md_spokenOf_34 (by decide) (fun hc => ?_) (fun hc => ?_)
      · replace h := h.1 hc
        refine lv_iconst (v := (-1 : Int32)) hx hb d_Md_spokenOf_42 (by decide) ?_
        exact kw_iret hx hb hr hlocks hst h d_Md_spokenOf_43
      · replace h := h.2 hc
        refine lv_iload hx hb d_Md_spokenOf_37 (lv_at hl 0 rfl) ?_
        refine lv_goto (tgt := 43) hx hb d_Md_spokenOf_39 (by decide) ?_
        exact kw_iret hx hb hr hlocks hst h d_Md_spokenOf_43
  · replace h := h.2 hc
    refine lv_iconst (v := (-1 : Int32)) hx hb d_Md_spokenOf_18 (by decide) ?_
    exact kw_iret hx hb hr hlocks hst h d_Md_spokenOf_19
set_option maxRecDepth 100000 in
set_option maxHeartbeats 4000000 in
theorem c_Md_spokenOf (l : Launch) {D : va_G} {g : Gm} {sz : Nat} (x1 : Int32) (x2 : Int32) (x3 : Int32) (x4 : Int32) {σ : Sg} {post : Int32 → Sg → Prop} (h : wq_Md_spokenOf x1 x2 x3 x4 σ post) : Met l y_Md_spokenOf (.code y_Md_spokenOf k_Md_spokenOf 7 (some .int) :: GW) { frames := 3, cells := 0, slots := 0, locals := 74 } (PcW D vwCl (WS g) g (Zk g) σ sz [.ref (g.1 54), .int x1, .int x2, .int x3, .int x4]) (QiW D vwCl (WS g) post (va_A (WS g σ) sz)) 0 0 (va_A (WS g σ) sz) := by
  refine kw_entry (own := R_Md) (by decide) rfl rfl (Nat.le_of_ble_eq_true rfl) ?_
  intro p e s m below meth c ls hsz C hin hl hst
  exact b_Md_spokenOf_0 C x1 x2 x3 x4 σ _ _ ls hl hst h
/-! SchemaDeskModel.children (III)Z -/
abbrev k_Md_children : ByteArray := prog_12_method_54_code
abbrev y_Md_children : MethodName := ⟨"SchemaDeskModel", "children", "(III)Z"⟩
theorem d_Md_children_0 : decode k_Md_children 0 = .ok (.iconst 1, 1) := by decide +kernel
theorem d_Md_children_1 : decode k_Md_children 1 = .ok (.istore 4, 2) := by decide +kernel
theorem d_Md_children_3 : decode k_Md_children 3 = .ok (.aload_n 0, 1) := by decide +kernel
theorem d_Md_children_4 : decode k_Md_children 4 = .ok (.getfield 95, 3) := by decide +kernel
theorem d_Md_children_7 : decode k_Md_children 7 = .ok (.iload_n 3, 1) := by decide +kernel
theorem d_Md_children_8 : decode k_Md_children 8 = .ok (.iaload, 1) := by decide +kernel
theorem d_Md_children_9 : decode k_Md_children 9 = .ok (.istore 5, 2) := by decide +kernel
theorem d_Md_children_11 : decode k_Md_children 11 = .ok (.iload 5, 2) := by decide +kernel
theorem d_Md_children_13 : decode k_Md_children 13 = .ok (.ifCond .lt 54, 3) := by decide +kernel
theorem d_Md_children_16 : decode k_Md_children 16 = .ok (.iload 4, 2) := by decide +kernel
theorem d_Md_children_18 : decode k_Md_children 18 = .ok (.ifCond .eq 49, 3) := by decide +kernel
theorem d_Md_children_21 : decode k_Md_children 21 = .ok (.aload_n 0, 1) := by decide +kernel
theorem d_Md_children_22 : decode k_Md_children 22 = .ok (.iload_n 1, 1) := by decide +kernel
theorem d_Md_children_23 : decode k_Md_children 23 = .ok (.iload_n 2, 1) := by decide +kernel
theorem d_Md_children_24 : decode k_Md_children 24 = .ok (.iload 5, 2) := by decide +kernel
theorem d_Md_children_26 : decode k_Md_children 26 = .ok (.iload_n 3, 1) := by decide +kernel
theorem d_Md_children_27 : decode k_Md_children 27 = .ok (.invokevirtual 316, 3) := by decide +kernel
theorem d_Md_children_30 : decode k_Md_children 30 = .ok (.istore 6, 2) := by decide +kernel
theorem d_Md_children_32 : decode k_Md_children 32 = .ok (.iload 6, 2) := by decide +kernel
theorem d_Md_children_34 : decode k_Md_children 34 = .ok (.ifCond .lt 14, 3) := by decide +kernel
theorem d_Md_children_37 : decode k_Md_children 37 = .ok (.aload_n 0, 1) := by decide +kernel
theorem d_Md_children_38 : decode k_Md_children 38 = .ok (.iload 6, 2) := by decide +kernel
theorem d_Md_children_40 : decode k_Md_children 40 = .ok (.iload 5, 2) := by decide +kernel
theorem d_Md_children_42 : decode k_Md_children 42 = .ok (.invokevirtual 320, 3) := by decide +kernel
theorem d_Md_children_45 : decode k_Md_children 45 = .ok (.ifCond .eq 7, 3) := by decide +kernel
theorem d_Md_children_48 : decode k_Md_children 48 = .ok (.iconst 1, 1) := by decide +kernel
theorem d_Md_children_49 : decode k_Md_children 49 = .ok (.goto 4, 3) := by decide +kernel
theorem d_Md_children_52 : decode k_Md_children 52 = .ok (.iconst 0, 1) := by decide +kernel
theorem d_Md_children_53 : decode k_Md_children 53 = .ok (.istore 4, 2) := by decide +kernel
theorem d_Md_children_55 : decode k_Md_children 55 = .ok (.aload_n 0, 1) := by decide +kernel
theorem d_Md_children_56 : decode k_Md_children 56 = .ok (.getfield 98, 3) := by decide +kernel
theorem d_Md_children_59 : decode k_Md_children 59 = .ok (.iload 5, 2) := by decide +kernel
theorem d_Md_children_61 : decode k_Md_children 61 = .ok (.iaload, 1) := by decide +kernel
theorem d_Md_children_62 : decode k_Md_children 62 = .ok (.istore 5, 2) := by decide +kernel
theorem d_Md_children_64 : decode k_Md_children 64 = .ok (.goto (-53), 3) := by decide +kernel
theorem d_Md_children_67 : decode k_Md_children 67 = .ok (.iload 4, 2) := by decide +kernel
theorem d_Md_children_69 : decode k_Md_children 69 = .ok (.ireturn, 1) := by decide +kernel
theorem gw1424 : (Jvm.Cond.methodLink "SchemaDeskModel" (316 : Nat) ({ cls := "SchemaDeskModel", name := "spokenOf", desc := "(IIII)I" } : Jvm.MethodName)) ∈ GW := gw_t6 (List.mem_of_getElem? (i := 224) rfl) rfl
theorem gw1426 : (Jvm.Cond.instanceMethod ({ cls := "SchemaDeskModel", name := "spokenOf", desc := "(IIII)I" } : Jvm.MethodName)) ∈ GW := gw_t6 (List.mem_of_getElem? (i := 226) rfl) rfl
theorem gs83 : Cond.selects "SchemaDeskModel" ⟨"SchemaDeskModel", "spokenOf", "(IIII)I"⟩ ⟨"SchemaDeskModel", "spokenOf", "(IIII)I"⟩ ∈ GW := gw_p6 (q := (⟨"SchemaDeskModel", "spokenOf", "(IIII)I"⟩, 46)) (List.mem_of_getElem? (i := 3) rfl)
theorem gw1427 : (Jvm.Cond.code ({ cls := "SchemaDeskModel", name := "spokenOf", desc := "(IIII)I" } : Jvm.MethodName) prog_12_method_53_code (7 : Nat) (Option.some Jvm.ClassFile.FieldType.int)) ∈ GW := gw_t6 (List.mem_of_getElem? (i := 227) rfl) rfl
theorem gw1396 : (Jvm.Cond.methodLink "SchemaDeskModel" (320 : Nat) ({ cls := "SchemaDeskModel", name := "isSo", desc := "(II)Z" } : Jvm.MethodName)) ∈ GW := gw_t6 (List.mem_of_getElem? (i := 196) rfl) rfl
theorem gw1398 : (Jvm.Cond.instanceMethod ({ cls := "SchemaDeskModel", name := "isSo", desc := "(II)Z" } : Jvm.MethodName)) ∈ GW := gw_t6 (List.mem_of_getElem? (i := 198) rfl) rfl
theorem gs76 : Cond.selects "SchemaDeskModel" ⟨"SchemaDeskModel", "isSo", "(II)Z"⟩ ⟨"SchemaDeskModel", "isSo", "(II)Z"⟩ ∈ GW := gw_p5 (q := (⟨"SchemaDeskModel", "isSo", "(II)Z"⟩, 46)) (List.mem_of_getElem? (i := 12) rfl)
theorem gw1399 : (Jvm.Cond.code ({ cls := "SchemaDeskModel", name := "isSo", desc := "(II)Z" } : Jvm.MethodName) prog_12_method_38_code (3 : Nat) (Option.some Jvm.ClassFile.FieldType.boolean)) ∈ GW := gw_t6 (List.mem_of_getElem? (i := 199) rfl) rfl
def wb_Md_children_0 (F : Nat → Int32 → Int32 → Int32 → Int32 → Int32 → Sg → Prop) (post : Int32 → Sg → Prop) (x1 : Int32) (x2 : Int32) (x3 : Int32) (σ : Sg) : Prop := (vp_in x3 240 ∧ F 1 x1 x2 x3 (1 : Int32) (σ.1 65 x3.toNatClampNeg) σ)
def wb_Md_children_1 (F : Nat → Int32 → Int32 → Int32 → Int32 → Int32 → Sg → Prop) (post : Int32 → Sg → Prop) (x1 : Int32) (x2 : Int32) (x3 : Int32) (x4 : Int32) (x5 : Int32) (σ : Sg) : Prop := ((x5 < 0 → (narrow .boolean (.int x4) = .int x4 ∧ post x4 σ)) ∧ (¬ x5 < 0 → ((x4 = 0 → (narrow .boolean (.int x4) = .int x4 ∧ post x4 σ)) ∧ (¬ x4 = 0 → (wq_Md_spokenOf x1 x2 x5 x3 σ (fun r1 σ1 => ((r1 < 0 → (vp_in x5 240 ∧ F 1 x1 x2 x3 (1 : Int32) (σ1.1 66 x5.toNatClampNeg) σ1)) ∧ (¬ r1 < 0 → (wq_Md_isSo r1 x5 σ1 (fun r2 σ2 => ((r2 = 0 → (vp_in x5 240 ∧ F 1 x1 x2 x3 (0 : Int32) (σ2.1 66 x5.toNatClampNeg) σ2)) ∧ (¬ r2 = 0 → (vp_in x5 240 ∧ F 1 x1 x2 x3 (1 : Int32) (σ2.1 66 x5.toNatClampNeg) σ2)))))))))))))
def wp_Md_children (post : Int32 → Sg → Prop) : Nat → Nat → Int32 → Int32 → Int32 → Int32 → Int32 → Sg → Prop
  | 0, _, _, _, _, _, _, _ => False
  | n + 1, k, x1, x2, x3, x4, x5, σ => match k with
    | 0 => wb_Md_children_0 (wp_Md_children post n) post x1 x2 x3 σ
    | 1 => wb_Md_children_1 (wp_Md_children post n) post x1 x2 x3 x4 x5 σ
    | _ => False
def wq_Md_children (x1 : Int32) (x2 : Int32) (x3 : Int32) (σ : Sg) (post : Int32 → Sg → Prop) : Prop := ∃ n, wp_Md_children post n 0 x1 x2 x3 0 0 σ
def J_Md_children_1 (p : Program) (l : Launch) (e : Env) (s : State) (m : MethodId) (args : Array Value) (below : List Frame) (meth : Method) (c : Code) (D : va_G) (g : Gm) (A : Nat → Prop) (post : Int32 → Sg → Prop) (F : Nat → Int32 → Int32 → Int32 → Int32 → Int32 → Sg → Prop) : Prop := ∀ (x1 : Int32) (x2 : Int32) (x3 : Int32) (x4 : Int32) (x5 : Int32) (σ : Sg) (H : Heap) (locs : List Loc) (ls : Array Slot), lv_has ls 7 [(0, .ref (g.1 54)), (1, .int x1), (2, .int x2), (3, .int x3), (4, .int x4), (5, .int x5)] → Wst D vwCl (WS g) A s σ H locs → F 1 x1 x2 x3 x4 x5 σ → W p l e { frames := 4, cells := 0, slots := 0, locals := 100 } s m args below meth c H locs 0 0 (MQ below (QiW D vwCl (WS g) post A) args s 0 0 A) (F0 m 11 ls [])
set_option maxRecDepth 100000 in
set_option maxHeartbeats 4000000 in
theorem b_Md_children_0 {p : Program} {l : Launch} {e : Env} {s : State} {m : MethodId} {args : Array Value} {below : List Frame} {meth : Method} {c : Code} {D : va_G} {g : Gm} {A : Nat → Prop} {post : Int32 → Sg → Prop} {F : Nat → Int32 → Int32 → Int32 → Int32 → Int32 → Sg → Prop} (C : kC p s m args meth c k_Md_children 7 (some .boolean) GW R_Md D vwCl g (Zk g) A) (j1 : J_Md_children_1 p l e s m args below meth c D g A post F) (x1 : Int32) (x2 : Int32) (x3 : Int32) (σ : Sg) (H : Heap) (locs : List Loc) (ls : Array Slot) (hl : lv_has ls 7 [(0, .ref (g.1 54)), (1, .int x1), (2, .int x2), (3, .int x3)]) (hst : Wst D vwCl (WS g) A s σ H locs) (h : wb_Md_children_0 F post x1 x2 x3 σ) : W p l e { frames := 4, cells := 0, slots := 0, locals := 100 } s m args below meth c H locs 0 0 (MQ below (QiW D vwCl (WS g) post A) args s 0 0 A) (F0 m 0 ls []) := by
  obtain ⟨hx, hb, hr, hml, hown, hts, hlocks, hK, hZ, hA⟩ := C
  unfold wb_Md_children_0 at h
  refine lv_iconst (v := (1 : Int32)) hx hb d_Md_children_0 (by decide) ?_
  refine lv_istore hx hb d_Md_children_1 hl (by decide) rfl (fun ls hl => ?_)
  have hl : lv_has ls 7 [(4, .int (1 : Int32)), (0, .ref (g.1 54)), (1, .int x1), (2, .int x2), (3, .int x3)] := hl
  refine lv_aload_n hx hb d_Md_children_3 rfl (lv_at hl 1 rfl) ?_
  refine va_get (D := D) (ci := 10) (C := R_Md) (T := T_Md) (N := 46) hx hb hts in_Md hown hK hst.1 54 (WS_o54 g σ) rfl 11 (by decide) (hts _ gw1075) (fun _ h9 => h9) rfl d_Md_children_4 ?_
  refine lv_iload_n hx hb d_Md_children_7 rfl (lv_at hl 4 rfl) ?_
  obtain ⟨hi, h⟩ := h
  refine va_iald hx hb hK hst.1 65 0 (WS_a65 g σ) rfl hi d_Md_children_8 ?_
  refine lv_istore hx hb d_Md_children_9 hl (by decide) rfl (fun ls hl => ?_)
  have hl : lv_has ls 7 [(5, .int (σ.1 65 x3.toNatClampNeg)), (4, .int (1 : Int32)), (0, .ref (g.1 54)), (1, .int x1), (2, .int x2), (3, .int x3)] := hl
  exact j1 x1 x2 x3 (1 : Int32) (σ.1 65 x3.toNatClampNeg) σ _ _ _ (lv_sub hl [2, 3, 4, 5, 1, 0] rfl) hst h
set_option maxRecDepth 100000 in
set_option maxHeartbeats 4000000 in
theorem b_Md_children_1 {p : Program} {l : Launch} {e : Env} {s : State} {m : MethodId} {args : Array Value} {below : List Frame} {meth : Method} {c : Code} {D : va_G} {g : Gm} {A : Nat → Prop} {post : Int32 → Sg → Prop} {F : Nat → Int32 → Int32 → Int32 → Int32 → Int32 → Sg → Prop} (C : kC p s m args meth c k_Md_children 7 (some .boolean) GW R_Md D vwCl g (Zk g) A) (j1 : J_Md_children_1 p l e s m args below meth c D g A post F) (x1 : Int32) (x2 : Int32) (x3 : Int32) (x4 : Int32) (x5 : Int32) (σ : Sg) (H : Heap) (locs : List Loc) (ls : Array Slot) (hl : lv_has ls 7 [(0, .ref (g.1 54)), (1, .int x1), (2, .int x2), (3, .int x3), (4, .int x4), (5, .int x5)]) (hst : Wst D vwCl (WS g) A s σ H locs) (h : wb_Md_children_1 F post x1 x2 x3 x4 x5 σ) : W p l e { frames := 4, cells := 0, slots := 0, locals := 100 } s m args below meth c H locs 0 0 (MQ below (QiW D vwCl (WS g) post A) args s 0 0 A) (F0 m 11 ls []) := by
  obtain ⟨hx, hb, hr, hml, hown, hts, hlocks, hK, hZ, hA⟩ := C
  unfold wb_Md_children_1 at h
  refine lv_iload hx hb d_Md_children_11 (lv_at hl 5 rfl) ?_
  refine lv_if_lt (tgt := 67) hx hb d_Md_children_13 (by decide) (fun hc => ?_) (fun hc => ?_)
  · replace h := h.1 hc
    refine lv_iload hx hb d_Md_children_67 (lv_at hl 4 rfl) ?_
    exact kw_zret hx hb hr hlocks hst h d_Md_children_69
  · replace h := h.2 hc
    refine lv_iload hx hb d_Md_children_16 (lv_at hl 4 rfl) ?_
    refine lv_if_eq (tgt := 67) hx hb d_Md_children_18 (by decide) (fun hc => ?_) (fun hc => ?_)
    · replace h := h.1 hc
      refine lv_iload hx hb d_Md_children_67 (lv_at hl 4 rfl) ?_
      exact kw_zret hx hb hr hlocks hst h d_Md_children_69
    · replace h := h.2 hc
      refine lv_aload_n hx hb d_Md_children_21 rfl (lv_at hl 0 rfl) ?_
      refine lv_iload_n hx hb d_Md_children_22 rfl (lv_at hl 1 rfl) ?_
      refine lv_iload_n hx hb d_Md_children_23 rfl (lv_at hl 2 rfl) ?_
      refine lv_iload hx hb d_Md_children_24 (lv_at hl 5 rfl) ?_
      refine lv_iload_n hx hb d_Md_children_26 rfl (lv_at hl 3 rfl) ?_
      refine kw_calli (va_runV (As := [.int x1, .int x2, .int x5, .int x3]) (rest := []) (b := g.1 54) ⟨hx, hb, hml, hown, hts⟩ (c_Md_spokenOf l x1 x2 x5 x3 h) (cwV 4 hts (gd_v gw1424 gw1426 gs83 gw15 gw1427) rfl rfl rfl (by decide +kernel) ⟨Nat.le_of_ble_eq_true rfl, Nat.le_of_ble_eq_true rfl⟩) ⟨kw_blind (Zk_ok g), va_recv hK hst.1 rfl (WS_o54 g σ), kw_pre (Zk_ok g) hK hZ hA hst⟩ rfl rfl hl.1 rfl (lv_room (Nat.le_of_ble_eq_true rfl)) d_Md_children_27 ⟨Nat.le_of_ble_eq_true rfl, Nat.le_of_ble_eq_true rfl⟩) hst hA (fun r1 σ1 H locs h hst => ?_)
      refine lv_istore hx hb d_Md_children_30 hl (by decide) rfl (fun ls hl => ?_)
      have hl : lv_has ls 7 [(6, .int r1), (0, .ref (g.1 54)), (1, .int x1), (2, .int x2), (3, .int x3), (4, .int x4), (5, .int x5)] := hl
      refine lv_iload hx hb d_Md_children_32 (lv_at hl 0 rfl) ?_
      refine lv_if_lt (tgt := 48) hx hb d_Md_children_34 (by decide) (fun hc => ?_) (fun hc => ?_)
      · replace h := h.1 hc
        refine lv_iconst (v := (1 : Int32)) hx hb d_Md_children_48 (by decide) ?_
        refine lv_goto (tgt := 53) hx hb d_Md_children_49 (by decide) ?_
        refine lv_istore hx hb d_Md_children_53 hl (by decide) rfl (fun ls hl => ?_)
        have hl : lv_has ls 7 [(4, .int (1 : Int32)), (6, .int r1), (0, .ref (g.1 54)), (1, .int x1), (2, .int x2), (3, .int x3), (5, .int x5)] := hl
        refine lv_aload_n hx hb d_Md_children_55 rfl (lv_at hl 2 rfl) ?_
        refine va_get (D := D) (ci := 10) (C := R_Md) (T := T_Md) (N := 46) hx hb hts in_Md hown hK hst.1 54 (WS_o54 g σ1) rfl 12 (by decide) (hts _ gw1076) (fun _ h9 => h9) rfl d_Md_children_56 ?_
        refine lv_iload hx hb d_Md_children_59 (lv_at hl 6 rfl) ?_
        obtain ⟨hi, h⟩ := h
        refine va_iald hx hb hK hst.1 66 0 (WS_a66 g σ1) rfl hi d_Md_children_61 ?_
        refine lv_istore hx hb d_Md_children_62 hl (by decide) rfl (fun ls hl => ?_)
        have hl : lv_has ls 7 [(5, .int (σ1.1 66 x5.toNatClampNeg)), (4, .int (1 : Int32)), (6, .int r1), (0, .ref (g.1 54)), (1, .int x1), (2, .int x2), (3, .int x3)] := hl
        refine lv_goto (tgt := 11) hx hb d_Md_children_64 (by decide) ?_
        exact j1 x1 x2 x3 (1 : Int32) (σ1.1 66 x5.toNatClampNeg) σ1 _ _ _ (lv_sub hl [3, 4, 5, 6, 1, 0] rfl) hst h
      · replace h := h.2 hc
        refine lv_aload_n hx hb d_Md_children_37 rfl (lv_at hl 1 rfl) ?_
        refine lv_iload hx hb d_Md_children_38 (lv_at hl 0 rfl) ?_
        refine lv_iload hx hb d_Md_children_40 (lv_at hl 6 rfl) ?_
        refine kw_calli (va_runV (As := [.int r1, .int x5]) (rest := []) (b := g.1 54) ⟨hx, hb, hml, hown, hts⟩ (c_Md_isSo l r1 x5 h) (cwV 2 hts (gd_v gw1396 gw1398 gs76 gw15 gw1399) rfl rfl rfl (by decide +kernel) ⟨Nat.le_of_ble_eq_true rfl, Nat.le_of_ble_eq_true rfl⟩) ⟨kw_blind (Zk_ok g), va_recv hK hst.1 rfl (WS_o54 g σ1), kw_pre (Zk_ok g) hK hZ hA hst⟩ rfl rfl hl.1 rfl (lv_room (Nat.le_of_ble_eq_true rfl)) d_Md_children_42 ⟨Nat.le_of_ble_eq_true rfl, Nat.le_of_ble_eq_true rfl⟩) hst hA (fun r2 σ2 H locs h hst => ?_)
        refine lv_if_eq (tgt := 52) hx hb d_Md_children_45 (by decide) (fun hc => ?_) (fun hc => ?_)
        · replace h := h.1 hc
          refine lv_iconst (v := (0 : Int32)) hx hb d_Md_children_52 (by decide) ?_
          refine lv_istore hx hb d_Md_children_53 hl (by decide) rfl (fun ls hl => ?_)
          have hl : lv_has ls 7 [(4, .int (0 : Int32)), (6, .int r1), (0, .ref (g.1 54)), (1, .int x1), (2, .int x2), (3, .int x3), (5, .int x5)] := hl
          refine lv_aload_n hx hb d_Md_children_55 rfl (lv_at hl 2 rfl) ?_
          refine va_get (D := D) (ci := 10) (C := R_Md) (T := T_Md) (N := 46) hx hb hts in_Md hown hK hst.1 54 (WS_o54 g σ2) rfl 12 (by decide) (hts _ gw1076) (fun _ h9 => h9) rfl d_Md_children_56 ?_
          refine lv_iload hx hb d_Md_children_59 (lv_at hl 6 rfl) ?_
          obtain ⟨hi, h⟩ := h
          refine va_iald hx hb hK hst.1 66 0 (WS_a66 g σ2) rfl hi d_Md_children_61 ?_
          refine lv_istore hx hb d_Md_children_62 hl (by decide) rfl (fun ls hl => ?_)
          have hl : lv_has ls 7 [(5, .int (σ2.1 66 x5.toNatClampNeg)), (4, .int (0 : Int32)), (6, .int r1), (0, .ref (g.1 54)), (1, .int x1), (2, .int x2), (3, .int x3)] := hl
          refine lv_goto (tgt := 11) hx hb d_Md_children_64 (by decide) ?_
          exact j1 x1 x2 x3 (0 : Int32) (σ2.1 66 x5.toNatClampNeg) σ2 _ _ _ (lv_sub hl [3, 4, 5, 6, 1, 0] rfl) hst h
        · replace h := h.2 hc
          refine lv_iconst (v := (1 : Int32)) hx hb d_Md_children_48 (by decide) ?_
          refine lv_goto (tgt := 53) hx hb d_Md_children_49 (by decide) ?_
          refine lv_istore hx hb d_Md_children_53 hl (by decide) rfl (fun ls hl => ?_)
          have hl : lv_has ls 7 [(4, .int (1 : Int32)), (6, .int r1), (0, .ref (g.1 54)), (1, .int x1), (2, .int x2), (3, .int x3), (5, .int x5)] := hl
          refine lv_aload_n hx hb d_Md_children_55 rfl (lv_at hl 2 rfl) ?_
          refine va_get (D := D) (ci := 10) (C := R_Md) (T := T_Md) (N := 46) hx hb hts in_Md hown hK hst.1 54 (WS_o54 g σ2) rfl 12 (by decide) (hts _ gw1076) (fun _ h9 => h9) rfl d_Md_children_56 ?_
          refine lv_iload hx hb d_Md_children_59 (lv_at hl 6 rfl) ?_
          obtain ⟨hi, h⟩ := h
          refine va_iald hx hb hK hst.1 66 0 (WS_a66 g σ2) rfl hi d_Md_children_61 ?_
          refine lv_istore hx hb d_Md_children_62 hl (by decide) rfl (fun ls hl => ?_)
          have hl : lv_has ls 7 [(5, .int (σ2.1 66 x5.toNatClampNeg)), (4, .int (1 : Int32)), (6, .int r1), (0, .ref (g.1 54)), (1, .int x1), (2, .int x2), (3, .int x3)] := hl
          refine lv_goto (tgt := 11) hx hb d_Md_children_64 (by decide) ?_
          exact j1 x1 x2 x3 (1 : Int32) (σ2.1 66 x5.toNatClampNeg) σ2 _ _ _ (lv_sub hl [3, 4, 5, 6, 1, 0] rfl) hst h
set_option maxRecDepth 100000 in
set_option maxHeartbeats 4000000 in
theorem a_Md_children {p : Program} {l : Launch} {e : Env} {s : State} {m : MethodId} {args : Array Value} {below : List Frame} {meth : Method} {c : Code} {D : va_G} {g : Gm} {A : Nat → Prop} {post : Int32 → Sg → Prop} (C : kC p s m args meth c k_Md_children 7 (some .boolean) GW R_Md D vwCl g (Zk g) A) : ∀ n : Nat, J_Md_children_1 p l e s m args below meth c D g A post (wp_Md_children post n) := by
  intro n
  induction n with
  | zero => exact fun _ _ _ _ _ _ _ _ _ _ _ h => h.elim
  | succ n ih => exact fun x1 x2 x3 x4 x5 σ H locs ls hl hst h => b_Md_children_1 (F := wp_Md_children post n) C (ih) x1 x2 x3 x4 x5 σ H locs ls hl hst h
set_option maxRecDepth 100000 in
set_option maxHeartbeats 4000000 in
theorem c_Md_children (l : Launch) {D : va_G} {g : Gm} {sz : Nat} (x1 : Int32) (x2 : Int32) (x3 : Int32) {σ : Sg} {post : Int32 → Sg → Prop} (h : wq_Md_children x1 x2 x3 σ post) : Met l y_Md_children (.code y_Md_children k_Md_children 7 (some .boolean) :: GW) { frames := 4, cells := 0, slots := 0, locals := 100 } (PcW D vwCl (WS g) g (Zk g) σ sz [.ref (g.1 54), .int x1, .int x2, .int x3]) (QiW D vwCl (WS g) post (va_A (WS g σ) sz)) 0 0 (va_A (WS g σ) sz) := by
  refine kw_entry (own := R_Md) (by decide) rfl rfl (Nat.le_of_ble_eq_true rfl) ?_
  intro p e s m below meth c ls hsz C hin hl hst
  obtain ⟨n, h⟩ := h
  cases n with
  | zero => exact h.elim
  | succ n =>
    have ih := a_Md_children (l := l) (e := e) (below := below) (post := post) C n
    exact b_Md_children_0 (F := wp_Md_children post n) C (ih) x1 x2 x3 σ _ _ ls hl hst h
/-! SchemaDeskModel.combined (III)Z -/
abbrev k_Md_combined : ByteArray := prog_12_method_55_code
abbrev y_Md_combined : MethodName := ⟨"SchemaDeskModel", "combined", "(III)Z"⟩
theorem d_Md_combined_0 : decode k_Md_combined 0 = .ok (.aload_n 0, 1) := by decide +kernel
theorem d_Md_combined_1 : decode k_Md_combined 1 = .ok (.getfield 77, 3) := by decide +kernel
theorem d_Md_combined_4 : decode k_Md_combined 4 = .ok (.iload_n 2, 1) := by decide +kernel
theorem d_Md_combined_5 : decode k_Md_combined 5 = .ok (.iaload, 1) := by decide +kernel
theorem d_Md_combined_6 : decode k_Md_combined 6 = .ok (.iconst 5, 1) := by decide +kernel
theorem d_Md_combined_7 : decode k_Md_combined 7 = .ok (.if_icmp .eq 5, 3) := by decide +kernel
theorem d_Md_combined_10 : decode k_Md_combined 10 = .ok (.iconst 1, 1) := by decide +kernel
theorem d_Md_combined_11 : decode k_Md_combined 11 = .ok (.ireturn, 1) := by decide +kernel
theorem d_Md_combined_12 : decode k_Md_combined 12 = .ok (.iconst 0, 1) := by decide +kernel
theorem d_Md_combined_13 : decode k_Md_combined 13 = .ok (.istore 4, 2) := by decide +kernel
theorem d_Md_combined_15 : decode k_Md_combined 15 = .ok (.aload_n 0, 1) := by decide +kernel
theorem d_Md_combined_16 : decode k_Md_combined 16 = .ok (.getfield 95, 3) := by decide +kernel
theorem d_Md_combined_19 : decode k_Md_combined 19 = .ok (.iload_n 2, 1) := by decide +kernel
theorem d_Md_combined_20 : decode k_Md_combined 20 = .ok (.iaload, 1) := by decide +kernel
theorem d_Md_combined_21 : decode k_Md_combined 21 = .ok (.istore 5, 2) := by decide +kernel
theorem d_Md_combined_23 : decode k_Md_combined 23 = .ok (.iload 5, 2) := by decide +kernel
theorem d_Md_combined_25 : decode k_Md_combined 25 = .ok (.ifCond .lt 35, 3) := by decide +kernel
theorem d_Md_combined_28 : decode k_Md_combined 28 = .ok (.iload 4, 2) := by decide +kernel
theorem d_Md_combined_30 : decode k_Md_combined 30 = .ok (.aload_n 0, 1) := by decide +kernel
theorem d_Md_combined_31 : decode k_Md_combined 31 = .ok (.iload 5, 2) := by decide +kernel
theorem d_Md_combined_33 : decode k_Md_combined 33 = .ok (.iload_n 3, 1) := by decide +kernel
theorem d_Md_combined_34 : decode k_Md_combined 34 = .ok (.invokevirtual 320, 3) := by decide +kernel
theorem d_Md_combined_37 : decode k_Md_combined 37 = .ok (.ifCond .eq 7, 3) := by decide +kernel
theorem d_Md_combined_40 : decode k_Md_combined 40 = .ok (.iconst 1, 1) := by decide +kernel
theorem d_Md_combined_41 : decode k_Md_combined 41 = .ok (.goto 4, 3) := by decide +kernel
theorem d_Md_combined_44 : decode k_Md_combined 44 = .ok (.iconst 0, 1) := by decide +kernel
theorem d_Md_combined_45 : decode k_Md_combined 45 = .ok (.iadd, 1) := by decide +kernel
theorem d_Md_combined_46 : decode k_Md_combined 46 = .ok (.istore 4, 2) := by decide +kernel
theorem d_Md_combined_48 : decode k_Md_combined 48 = .ok (.aload_n 0, 1) := by decide +kernel
theorem d_Md_combined_49 : decode k_Md_combined 49 = .ok (.getfield 98, 3) := by decide +kernel
theorem d_Md_combined_52 : decode k_Md_combined 52 = .ok (.iload 5, 2) := by decide +kernel
theorem d_Md_combined_54 : decode k_Md_combined 54 = .ok (.iaload, 1) := by decide +kernel
theorem d_Md_combined_55 : decode k_Md_combined 55 = .ok (.istore 5, 2) := by decide +kernel
theorem d_Md_combined_57 : decode k_Md_combined 57 = .ok (.goto (-34), 3) := by decide +kernel
theorem d_Md_combined_60 : decode k_Md_combined 60 = .ok (.iload_n 1, 1) := by decide +kernel
theorem d_Md_combined_61 : decode k_Md_combined 61 = .ok (.bipush 15, 2) := by decide +kernel
theorem d_Md_combined_63 : decode k_Md_combined 63 = .ok (.if_icmp .ne 22, 3) := by decide +kernel
theorem d_Md_combined_66 : decode k_Md_combined 66 = .ok (.iload 4, 2) := by decide +kernel
theorem d_Md_combined_68 : decode k_Md_combined 68 = .ok (.aload_n 0, 1) := by decide +kernel
theorem d_Md_combined_69 : decode k_Md_combined 69 = .ok (.getfield 92, 3) := by decide +kernel
theorem d_Md_combined_72 : decode k_Md_combined 72 = .ok (.iload_n 2, 1) := by decide +kernel
theorem d_Md_combined_73 : decode k_Md_combined 73 = .ok (.iaload, 1) := by decide +kernel
theorem d_Md_combined_74 : decode k_Md_combined 74 = .ok (.if_icmp .ne 7, 3) := by decide +kernel
theorem d_Md_combined_77 : decode k_Md_combined 77 = .ok (.iconst 1, 1) := by decide +kernel
theorem d_Md_combined_78 : decode k_Md_combined 78 = .ok (.goto 37, 3) := by decide +kernel
theorem d_Md_combined_81 : decode k_Md_combined 81 = .ok (.iconst 0, 1) := by decide +kernel
theorem d_Md_combined_82 : decode k_Md_combined 82 = .ok (.goto 33, 3) := by decide +kernel
theorem d_Md_combined_85 : decode k_Md_combined 85 = .ok (.iload_n 1, 1) := by decide +kernel
theorem d_Md_combined_86 : decode k_Md_combined 86 = .ok (.bipush 16, 2) := by decide +kernel
theorem d_Md_combined_88 : decode k_Md_combined 88 = .ok (.if_icmp .ne 16, 3) := by decide +kernel
theorem d_Md_combined_91 : decode k_Md_combined 91 = .ok (.iload 4, 2) := by decide +kernel
theorem d_Md_combined_93 : decode k_Md_combined 93 = .ok (.ifCond .le 7, 3) := by decide +kernel
theorem d_Md_combined_96 : decode k_Md_combined 96 = .ok (.iconst 1, 1) := by decide +kernel
theorem d_Md_combined_97 : decode k_Md_combined 97 = .ok (.goto 18, 3) := by decide +kernel
theorem d_Md_combined_100 : decode k_Md_combined 100 = .ok (.iconst 0, 1) := by decide +kernel
theorem d_Md_combined_101 : decode k_Md_combined 101 = .ok (.goto 14, 3) := by decide +kernel
theorem d_Md_combined_104 : decode k_Md_combined 104 = .ok (.iload 4, 2) := by decide +kernel
theorem d_Md_combined_106 : decode k_Md_combined 106 = .ok (.iconst 1, 1) := by decide +kernel
theorem d_Md_combined_107 : decode k_Md_combined 107 = .ok (.if_icmp .ne 7, 3) := by decide +kernel
theorem d_Md_combined_110 : decode k_Md_combined 110 = .ok (.iconst 1, 1) := by decide +kernel
theorem d_Md_combined_111 : decode k_Md_combined 111 = .ok (.goto 4, 3) := by decide +kernel
theorem d_Md_combined_114 : decode k_Md_combined 114 = .ok (.iconst 0, 1) := by decide +kernel
theorem d_Md_combined_115 : decode k_Md_combined 115 = .ok (.ireturn, 1) := by decide +kernel
def wb_Md_combined_0 (F : Nat → Int32 → Int32 → Int32 → Int32 → Int32 → Sg → Prop) (post : Int32 → Sg → Prop) (x1 : Int32) (x2 : Int32) (x3 : Int32) (σ : Sg) : Prop := (vp_in x2 240 ∧ (((σ.1 59 x2.toNatClampNeg) = (5 : Int32) → (vp_in x2 240 ∧ F 1 x1 x2 x3 (0 : Int32) (σ.1 65 x2.toNatClampNeg) σ)) ∧ (¬ (σ.1 59 x2.toNatClampNeg) = (5 : Int32) → (narrow .boolean (.int (1 : Int32)) = .int (1 : Int32) ∧ post (1 : Int32) σ))))
def wb_Md_combined_1 (F : Nat → Int32 → Int32 → Int32 → Int32 → Int32 → Sg → Prop) (post : Int32 → Sg → Prop) (x1 : Int32) (x2 : Int32) (x3 : Int32) (x4 : Int32) (x5 : Int32) (σ : Sg) : Prop := ((x5 < 0 → ((¬ x1 = (15 : Int32) → ((¬ x1 = (16 : Int32) → ((¬ x4 = (1 : Int32) → (narrow .boolean (.int (0 : Int32)) = .int (0 : Int32) ∧ post (0 : Int32) σ)) ∧ (x4 = (1 : Int32) → (narrow .boolean (.int (1 : Int32)) = .int (1 : Int32) ∧ post (1 : Int32) σ)))) ∧ (x1 = (16 : Int32) → ((x4 ≤ 0 → (narrow .boolean (.int (0 : Int32)) = .int (0 : Int32) ∧ post (0 : Int32) σ)) ∧ (¬ x4 ≤ 0 → (narrow .boolean (.int (1 : Int32)) = .int (1 : Int32) ∧ post (1 : Int32) σ)))))) ∧ (x1 = (15 : Int32) → (vp_in x2 240 ∧ ((¬ x4 = (σ.1 64 x2.toNatClampNeg) → (narrow .boolean (.int (0 : Int32)) = .int (0 : Int32) ∧ post (0 : Int32) σ)) ∧ (x4 = (σ.1 64 x2.toNatClampNeg) → (narrow .boolean (.int (1 : Int32)) = .int (1 : Int32) ∧ post (1 : Int32) σ))))))) ∧ (¬ x5 < 0 → (wq_Md_isSo x5 x3 σ (fun r1 σ1 => ((r1 = 0 → (vp_in x5 240 ∧ F 1 x1 x2 x3 (x4 + (0 : Int32)) (σ1.1 66 x5.toNatClampNeg) σ1)) ∧ (¬ r1 = 0 → (vp_in x5 240 ∧ F 1 x1 x2 x3 (x4 + (1 : Int32)) (σ1.1 66 x5.toNatClampNeg) σ1)))))))
def wp_Md_combined (post : Int32 → Sg → Prop) : Nat → Nat → Int32 → Int32 → Int32 → Int32 → Int32 → Sg → Prop
  | 0, _, _, _, _, _, _, _ => False
  | n + 1, k, x1, x2, x3, x4, x5, σ => match k with
    | 0 => wb_Md_combined_0 (wp_Md_combined post n) post x1 x2 x3 σ
    | 1 => wb_Md_combined_1 (wp_Md_combined post n) post x1 x2 x3 x4 x5 σ
    | _ => False
def wq_Md_combined (x1 : Int32) (x2 : Int32) (x3 : Int32) (σ : Sg) (post : Int32 → Sg → Prop) : Prop := ∃ n, wp_Md_combined post n 0 x1 x2 x3 0 0 σ
def J_Md_combined_1 (p : Program) (l : Launch) (e : Env) (s : State) (m : MethodId) (args : Array Value) (below : List Frame) (meth : Method) (c : Code) (D : va_G) (g : Gm) (A : Nat → Prop) (post : Int32 → Sg → Prop) (F : Nat → Int32 → Int32 → Int32 → Int32 → Int32 → Sg → Prop) : Prop := ∀ (x1 : Int32) (x2 : Int32) (x3 : Int32) (x4 : Int32) (x5 : Int32) (σ : Sg) (H : Heap) (locs : List Loc) (ls : Array Slot), lv_has ls 6 [(0, .ref (g.1 54)), (1, .int x1), (2, .int x2), (3, .int x3), (4, .int x4), (5, .int x5)] → Wst D vwCl (WS g) A s σ H locs → F 1 x1 x2 x3 x4 x5 σ → W p l e { frames := 2, cells := 0, slots := 0, locals := 46 } s m args below meth c H locs 0 0 (MQ below (QiW D vwCl (WS g) post A) args s 0 0 A) (F0 m 23 ls [])
set_option maxRecDepth 100000 in
set_option maxHeartbeats 4000000 in
theorem b_Md_combined_0 {p : Program} {l : Launch} {e : Env} {s : State} {m : MethodId} {args : Array Value} {below : List Frame} {meth : Method} {c : Code} {D : va_G} {g : Gm} {A : Nat → Prop} {post : Int32 → Sg → Prop} {F : Nat → Int32 → Int32 → Int32 → Int32 → Int32 → Sg → Prop} (C : kC p s m args meth c k_Md_combined 6 (some .boolean) GW R_Md D vwCl g (Zk g) A) (j1 : J_Md_combined_1 p l e s m args below meth c D g A post F) (x1 : Int32) (x2 : Int32) (x3 : Int32) (σ : Sg) (H : Heap) (locs : List Loc) (ls : Array Slot) (hl : lv_has ls 6 [(0, .ref (g.1 54)), (1, .int x1), (2, .int x2), (3, .int x3)]) (hst : Wst D vwCl (WS g) A s σ H locs) (h : wb_Md_combined_0 F post x1 x2 x3 σ) : W p l e { frames := 2, cells := 0, slots := 0, locals := 46 } s m args below meth c H locs 0 0 (MQ below (QiW D vwCl (WS g) post A) args s 0 0 A) (F0 m 0 ls []) := by
  obtain ⟨hx, hb, hr, hml, hown, hts, hlocks, hK, hZ, hA⟩ := C
  unfold wb_Md_combined_0 at h
  refine lv_aload_n hx hb d_Md_combined_0 rfl (lv_at hl 0 rfl) ?_
  refine va_get (D := D) (ci := 10) (C := R_Md) (T := T_Md) (N := 46) hx hb hts in_Md hown hK hst.1 54 (WS_o54 g σ) rfl 5 (by decide) (hts _ gw1069) (fun _ h9 => h9) rfl d_Md_combined_1 ?_
  refine lv_iload_n hx hb d_Md_combined_4 rfl (lv_at hl 2 rfl) ?_
  obtain ⟨hi, h⟩ := h
  refine va_iald hx hb hK hst.1 59 0 (WS_a59 g σ) rfl hi d_Md_combined_5 ?_
  refine lv_iconst (v := (5 : Int32)) hx hb d_Md_combined_6 (by decide) ?_
  refine lv_icmp_eq (tgt := 12) hx hb d_Md_combined_7 (by decide) (fun hc => ?_) (fun hc => ?_)
  · replace h := h.1 hc
    refine lv_iconst (v := (0 : Int32)) hx hb d_Md_combined_12 (by decide) ?_
    refine lv_istore hx hb d_Md_combined_13 hl (by decide) rfl (fun ls hl => ?_)
    have hl : lv_has ls 6 [(4, .int (0 : Int32)), (0, .ref (g.1 54)), (1, .int x1), (2, .int x2), (3, .int x3)] := hl
    refine lv_aload_n hx hb d_Md_combined_15 rfl (lv_at hl 1 rfl) ?_
    refine va_get (D := D) (ci := 10) (C := R_Md) (T := T_Md) (N := 46) hx hb hts in_Md hown hK hst.1 54 (WS_o54 g σ) rfl 11 (by decide) (hts _ gw1075) (fun _ h9 => h9) rfl d_Md_combined_16 ?_
    refine lv_iload_n hx hb d_Md_combined_19 rfl (lv_at hl 3 rfl) ?_
    obtain ⟨hi, h⟩ := h
    refine va_iald hx hb hK hst.1 65 0 (WS_a65 g σ) rfl hi d_Md_combined_20 ?_
    refine lv_istore hx hb d_Md_combined_21 hl (by decide) rfl (fun ls hl => ?_)
    have hl : lv_has ls 6 [(5, .int (σ.1 65 x2.toNatClampNeg)), (4, .int (0 : Int32)), (0, .ref (g.1 54)), (1, .int x1), (2, .int x2), (3, .int x3)] := hl
    exact j1 x1 x2 x3 (0 : Int32) (σ.1 65 x2.toNatClampNeg) σ _ _ _ (lv_sub hl [2, 3, 4, 5, 1, 0] rfl) hst h
  · replace h := h.2 hc
    refine lv_iconst (v := (1 : Int32)) hx hb d_Md_combined_10 (by decide) ?_
    exact kw_zret hx hb hr hlocks hst h d_Md_combined_11
set_option maxRecDepth 100000 in
set_option maxHeartbeats 4000000 in
theorem b_Md_combined_1 {p : Program} {l : Launch} {e : Env} {s : State} {m : MethodId} {args : Array Value} {below : List Frame} {meth : Method} {c : Code} {D : va_G} {g : Gm} {A : Nat → Prop} {post : Int32 → Sg → Prop} {F : Nat → Int32 → Int32 → Int32 → Int32 → Int32 → Sg → Prop} (C : kC p s m args meth c k_Md_combined 6 (some .boolean) GW R_Md D vwCl g (Zk g) A) (j1 : J_Md_combined_1 p l e s m args below meth c D g A post F) (x1 : Int32) (x2 : Int32) (x3 : Int32) (x4 : Int32) (x5 : Int32) (σ : Sg) (H : Heap) (locs : List Loc) (ls : Array Slot) (hl : lv_has ls 6 [(0, .ref (g.1 54)), (1, .int x1), (2, .int x2), (3, .int x3), (4, .int x4), (5, .int x5)]) (hst : Wst D vwCl (WS g) A s σ H locs) (h : wb_Md_combined_1 F post x1 x2 x3 x4 x5 σ) : W p l e { frames := 2, cells := 0, slots := 0, locals := 46 } s m args below meth c H locs 0 0 (MQ below (QiW D vwCl (WS g) post A) args s 0 0 A) (F0 m 23 ls []) := by
  obtain ⟨hx, hb, hr, hml, hown, hts, hlocks, hK, hZ, hA⟩ := C
  unfold wb_Md_combined_1 at h
  refine lv_iload hx hb d_Md_combined_23 (lv_at hl 5 rfl) ?_
  refine lv_if_lt (tgt := 60) hx hb d_Md_combined_25 (by decide) (fun hc => ?_) (fun hc => ?_)
  · replace h := h.1 hc
    refine lv_iload_n hx hb d_Md_combined_60 rfl (lv_at hl 1 rfl) ?_
    refine lv_bipush (v := (15 : Int32)) hx hb d_Md_combined_61 (by decide) ?_
    refine lv_icmp_ne (tgt := 85) hx hb d_Md_combined_63 (by decide) (fun hc => ?_) (fun hc => ?_)
    · replace h := h.1 hc
      refine lv_iload_n hx hb d_Md_combined_85 rfl (lv_at hl 1 rfl) ?_
      refine lv_bipush (v := (16 : Int32)) hx hb d_Md_combined_86 (by decide) ?_
      refine lv_icmp_ne (tgt := 104) hx hb d_Md_combined_88 (by decide) (fun hc => ?_) (fun hc => ?_)
      · replace h := h.1 hc
        refine lv_iload hx hb d_Md_combined_104 (lv_at hl 4 rfl) ?_
        refine lv_iconst (v := (1 : Int32)) hx hb d_Md_combined_106 (by decide) ?_
        refine lv_icmp_ne (tgt := 114) hx hb d_Md_combined_107 (by decide) (fun hc => ?_) (fun hc => ?_)
        · replace h := h.1 hc
          refine lv_iconst (v := (0 : Int32)) hx hb d_Md_combined_114 (by decide) ?_
          exact kw_zret hx hb hr hlocks hst h d_Md_combined_115
        · replace h := h.2 hc
          refine lv_iconst (v := (1 : Int32)) hx hb d_Md_combined_110 (by decide) ?_
          refine lv_goto (tgt := 115) hx hb d_Md_combined_111 (by decide) ?_
          exact kw_zret hx hb hr hlocks hst h d_Md_combined_115
      · replace h := h.2 hc
        refine lv_iload hx hb d_Md_combined_91 (lv_at hl 4 rfl) ?_
        refine lv_if_le (tgt := 100) hx hb d_Md_combined_93 (by decide) (fun hc => ?_) (fun hc => ?_)
        · replace h := h.1 hc
          refine lv_iconst (v := (0 : Int32)) hx hb d_Md_combined_100 (by decide) ?_
          refine lv_goto (tgt := 115) hx hb d_Md_combined_101 (by decide) ?_
          exact kw_zret hx hb hr hlocks hst h d_Md_combined_115
        · replace h := h.2 hc
          refine lv_iconst (v := (1 : Int32)) hx hb d_Md_combined_96 (by decide) ?_
          refine lv_goto (tgt := 115) hx hb d_Md_combined_97 (by decide) ?_
          exact kw_zret hx hb hr hlocks hst h d_Md_combined_115
    · replace h := h.2 hc
      refine lv_iload hx hb d_Md_combined_66 (lv_at hl 4 rfl) ?_
      refine lv_aload_n hx hb d_Md_combined_68 rfl (lv_at hl 0 rfl) ?_
      refine va_get (D := D) (ci := 10) (C := R_Md) (T := T_Md) (N := 46) hx hb hts in_Md hown hK hst.1 54 (WS_o54 g σ) rfl 10 (by decide) (hts _ gw1074) (fun _ h9 => h9) rfl d_Md_combined_69 ?_
      refine lv_iload_n hx hb d_Md_combined_72 rfl (lv_at hl 2 rfl) ?_
      obtain ⟨hi, h⟩ := h
      refine va_iald hx hb hK hst.1 64 0 (WS_a64 g σ) rfl hi d_Md_combined_73 ?_
      refine lv_icmp_ne (tgt := 81) hx hb d_Md_combined_74 (by decide) (fun hc => ?_) (fun hc => ?_)
      · replace h := h.1 hc
        refine lv_iconst (v := (0 : Int32)) hx hb d_Md_combined_81 (by decide) ?_
        refine lv_goto (tgt := 115) hx hb d_Md_combined_82 (by decide) ?_
        exact kw_zret hx hb hr hlocks hst h d_Md_combined_115
      · replace h := h.2 hc
        refine lv_iconst (v := (1 : Int32)) hx hb d_Md_combined_77 (by decide) ?_
        refine lv_goto (tgt := 115) hx hb d_Md_combined_78 (by decide) ?_
        exact kw_zret hx hb hr hlocks hst h d_Md_combined_115
  · replace h := h.2 hc
    refine lv_iload hx hb d_Md_combined_28 (lv_at hl 4 rfl) ?_
    refine lv_aload_n hx hb d_Md_combined_30 rfl (lv_at hl 0 rfl) ?_
    refine lv_iload hx hb d_Md_combined_31 (lv_at hl 5 rfl) ?_
    refine lv_iload_n hx hb d_Md_combined_33 rfl (lv_at hl 3 rfl) ?_
    refine kw_calli (va_runV (As := [.int x5, .int x3]) (rest := [.int x4]) (b := g.1 54) ⟨hx, hb, hml, hown, hts⟩ (c_Md_isSo l x5 x3 h) (cwV 2 hts (gd_v gw1396 gw1398 gs76 gw15 gw1399) rfl rfl rfl (by decide +kernel) ⟨Nat.le_of_ble_eq_true rfl, Nat.le_of_ble_eq_true rfl⟩) ⟨kw_blind (Zk_ok g), va_recv hK hst.1 rfl (WS_o54 g σ), kw_pre (Zk_ok g) hK hZ hA hst⟩ rfl rfl hl.1 rfl (lv_room (Nat.le_of_ble_eq_true rfl)) d_Md_combined_34 ⟨Nat.le_of_ble_eq_true rfl, Nat.le_of_ble_eq_true rfl⟩) hst hA (fun r1 σ1 H locs h hst => ?_)
    refine lv_if_eq (tgt := 44) hx hb d_Md_combined_37 (by decide) (fun hc => ?_) (fun hc => ?_)
    · replace h := h.1 hc
      refine lv_iconst (v := (0 : Int32)) hx hb d_Md_combined_44 (by decide) ?_
      refine lv_iadd hx hb d_Md_combined_45 ?_
      refine lv_istore hx hb d_Md_combined_46 hl (by decide) rfl (fun ls hl => ?_)
      have hl : lv_has ls 6 [(4, .int (x4 + (0 : Int32))), (0, .ref (g.1 54)), (1, .int x1), (2, .int x2), (3, .int x3), (5, .int x5)] := hl
      refine lv_aload_n hx hb d_Md_combined_48 rfl (lv_at hl 1 rfl) ?_
      refine va_get (D := D) (ci := 10) (C := R_Md) (T := T_Md) (N := 46) hx hb hts in_Md hown hK hst.1 54 (WS_o54 g σ1) rfl 12 (by decide) (hts _ gw1076) (fun _ h9 => h9) rfl d_Md_combined_49 ?_
      refine lv_iload hx hb d_Md_combined_52 (lv_at hl 5 rfl) ?_
      obtain ⟨hi, h⟩ := h
      refine va_iald hx hb hK hst.1 66 0 (WS_a66 g σ1) rfl hi d_Md_combined_54 ?_
      refine lv_istore hx hb d_Md_combined_55 hl (by decide) rfl (fun ls hl => ?_)
      have hl : lv_has ls 6 [(5, .int (σ1.1 66 x5.toNatClampNeg)), (4, .int (x4 + (0 : Int32))), (0, .ref (g.1 54)), (1, .int x1), (2, .int x2), (3, .int x3)] := hl
      refine lv_goto (tgt := 23) hx hb d_Md_combined_57 (by decide) ?_
      exact j1 x1 x2 x3 (x4 + (0 : Int32)) (σ1.1 66 x5.toNatClampNeg) σ1 _ _ _ (lv_sub hl [2, 3, 4, 5, 1, 0] rfl) hst h
    · replace h := h.2 hc
      refine lv_iconst (v := (1 : Int32)) hx hb d_Md_combined_40 (by decide) ?_
      refine lv_goto (tgt := 45) hx hb d_Md_combined_41 (by decide) ?_
      refine lv_iadd hx hb d_Md_combined_45 ?_
      refine lv_istore hx hb d_Md_combined_46 hl (by decide) rfl (fun ls hl => ?_)
      have hl : lv_has ls 6 [(4, .int (x4 + (1 : Int32))), (0, .ref (g.1 54)), (1, .int x1), (2, .int x2), (3, .int x3), (5, .int x5)] := hl
      refine lv_aload_n hx hb d_Md_combined_48 rfl (lv_at hl 1 rfl) ?_
      refine va_get (D := D) (ci := 10) (C := R_Md) (T := T_Md) (N := 46) hx hb hts in_Md hown hK hst.1 54 (WS_o54 g σ1) rfl 12 (by decide) (hts _ gw1076) (fun _ h9 => h9) rfl d_Md_combined_49 ?_
      refine lv_iload hx hb d_Md_combined_52 (lv_at hl 5 rfl) ?_
      obtain ⟨hi, h⟩ := h
      refine va_iald hx hb hK hst.1 66 0 (WS_a66 g σ1) rfl hi d_Md_combined_54 ?_
      refine lv_istore hx hb d_Md_combined_55 hl (by decide) rfl (fun ls hl => ?_)
      have hl : lv_has ls 6 [(5, .int (σ1.1 66 x5.toNatClampNeg)), (4, .int (x4 + (1 : Int32))), (0, .ref (g.1 54)), (1, .int x1), (2, .int x2), (3, .int x3)] := hl
      refine lv_goto (tgt := 23) hx hb d_Md_combined_57 (by decide) ?_
      exact j1 x1 x2 x3 (x4 + (1 : Int32)) (σ1.1 66 x5.toNatClampNeg) σ1 _ _ _ (lv_sub hl [2, 3, 4, 5, 1, 0] rfl) hst h
set_option maxRecDepth 100000 in
set_option maxHeartbeats 4000000 in
theorem a_Md_combined {p : Program} {l : Launch} {e : Env} {s : State} {m : MethodId} {args : Array Value} {below : List Frame} {meth : Method} {c : Code} {D : va_G} {g : Gm} {A : Nat → Prop} {post : Int32 → Sg → Prop} (C : kC p s m args meth c k_Md_combined 6 (some .boolean) GW R_Md D vwCl g (Zk g) A) : ∀ n : Nat, J_Md_combined_1 p l e s m args below meth c D g A post (wp_Md_combined post n) := by
  intro n
  induction n with
  | zero => exact fun _ _ _ _ _ _ _ _ _ _ _ h => h.elim
  | succ n ih => exact fun x1 x2 x3 x4 x5 σ H locs ls hl hst h => b_Md_combined_1 (F := wp_Md_combined post n) C (ih) x1 x2 x3 x4 x5 σ H locs ls hl hst h
set_option maxRecDepth 100000 in
set_option maxHeartbeats 4000000 in
theorem c_Md_combined (l : Launch) {D : va_G} {g : Gm} {sz : Nat} (x1 : Int32) (x2 : Int32) (x3 : Int32) {σ : Sg} {post : Int32 → Sg → Prop} (h : wq_Md_combined x1 x2 x3 σ post) : Met l y_Md_combined (.code y_Md_combined k_Md_combined 6 (some .boolean) :: GW) { frames := 2, cells := 0, slots := 0, locals := 46 } (PcW D vwCl (WS g) g (Zk g) σ sz [.ref (g.1 54), .int x1, .int x2, .int x3]) (QiW D vwCl (WS g) post (va_A (WS g σ) sz)) 0 0 (va_A (WS g σ) sz) := by
  refine kw_entry (own := R_Md) (by decide) rfl rfl (Nat.le_of_ble_eq_true rfl) ?_
  intro p e s m below meth c ls hsz C hin hl hst
  obtain ⟨n, h⟩ := h
  cases n with
  | zero => exact h.elim
  | succ n =>
    have ih := a_Md_combined (l := l) (e := e) (below := below) (post := post) C n
    exact b_Md_combined_0 (F := wp_Md_combined post n) C (ih) x1 x2 x3 σ _ _ ls hl hst h
/-! SchemaDeskModel.unite (II)V -/
abbrev k_Md_unite : ByteArray := prog_12_method_57_code
abbrev y_Md_unite : MethodName := ⟨"SchemaDeskModel", "unite", "(II)V"⟩
theorem d_Md_unite_0 : decode k_Md_unite 0 = .ok (.aload_n 0, 1) := by decide +kernel
theorem d_Md_unite_1 : decode k_Md_unite 1 = .ok (.iload_n 1, 1) := by decide +kernel
theorem d_Md_unite_2 : decode k_Md_unite 2 = .ok (.iload_n 2, 1) := by decide +kernel
theorem d_Md_unite_3 : decode k_Md_unite 3 = .ok (.invokevirtual 320, 3) := by decide +kernel
theorem d_Md_unite_6 : decode k_Md_unite 6 = .ok (.ifCond .ne 4, 3) := by decide +kernel
theorem d_Md_unite_9 : decode k_Md_unite 9 = .ok (.return_, 1) := by decide +kernel
theorem d_Md_unite_10 : decode k_Md_unite 10 = .ok (.aload_n 0, 1) := by decide +kernel
theorem d_Md_unite_11 : decode k_Md_unite 11 = .ok (.aload_n 0, 1) := by decide +kernel
theorem d_Md_unite_12 : decode k_Md_unite 12 = .ok (.getfield 277, 3) := by decide +kernel
theorem d_Md_unite_15 : decode k_Md_unite 15 = .ok (.aload_n 0, 1) := by decide +kernel
theorem d_Md_unite_16 : decode k_Md_unite 16 = .ok (.getfield 159, 3) := by decide +kernel
theorem d_Md_unite_19 : decode k_Md_unite 19 = .ok (.iload_n 1, 1) := by decide +kernel
theorem d_Md_unite_20 : decode k_Md_unite 20 = .ok (.laload, 1) := by decide +kernel
theorem d_Md_unite_21 : decode k_Md_unite 21 = .ok (.lor, 1) := by decide +kernel
theorem d_Md_unite_22 : decode k_Md_unite 22 = .ok (.putfield 277, 3) := by decide +kernel
theorem d_Md_unite_25 : decode k_Md_unite 25 = .ok (.aload_n 0, 1) := by decide +kernel
theorem d_Md_unite_26 : decode k_Md_unite 26 = .ok (.aload_n 0, 1) := by decide +kernel
theorem d_Md_unite_27 : decode k_Md_unite 27 = .ok (.getfield 281, 3) := by decide +kernel
theorem d_Md_unite_30 : decode k_Md_unite 30 = .ok (.aload_n 0, 1) := by decide +kernel
theorem d_Md_unite_31 : decode k_Md_unite 31 = .ok (.getfield 162, 3) := by decide +kernel
theorem d_Md_unite_34 : decode k_Md_unite 34 = .ok (.iload_n 1, 1) := by decide +kernel
theorem d_Md_unite_35 : decode k_Md_unite 35 = .ok (.laload, 1) := by decide +kernel
theorem d_Md_unite_36 : decode k_Md_unite 36 = .ok (.lor, 1) := by decide +kernel
theorem d_Md_unite_37 : decode k_Md_unite 37 = .ok (.putfield 281, 3) := by decide +kernel
theorem d_Md_unite_40 : decode k_Md_unite 40 = .ok (.return_, 1) := by decide +kernel
theorem gw1100 : (Jvm.Cond.fieldLink "SchemaDeskModel" (159 : Nat) "SchemaDeskModel" "evaluated0" "[J") ∈ GW := gw_t5 (List.mem_of_getElem? (i := 140) rfl) rfl
theorem gw1101 : (Jvm.Cond.fieldLink "SchemaDeskModel" (162 : Nat) "SchemaDeskModel" "evaluated1" "[J") ∈ GW := gw_t5 (List.mem_of_getElem? (i := 141) rfl) rfl
def wq_Md_unite (x1 : Int32) (x2 : Int32) (σ : Sg) (post : Sg → Prop) : Prop := (wq_Md_isSo x1 x2 σ (fun r1 σ1 => ((¬ r1 = 0 → (vp_in x1 160 ∧ (∀ σ2, σ2 = sl σ1 54 38 ((σ1.2.1 54 38) ||| (σ1.2.1 86 x1.toNatClampNeg)) → (vp_in x1 160 ∧ (∀ σ3, σ3 = sl σ2 54 39 ((σ2.2.1 54 39) ||| (σ2.2.1 87 x1.toNatClampNeg)) → post σ3))))) ∧ (r1 = 0 → post σ1))))
set_option maxRecDepth 100000 in
set_option maxHeartbeats 4000000 in
theorem b_Md_unite_0 {p : Program} {l : Launch} {e : Env} {s : State} {m : MethodId} {args : Array Value} {below : List Frame} {meth : Method} {c : Code} {D : va_G} {g : Gm} {A : Nat → Prop} {post : Sg → Prop} (C : kC p s m args meth c k_Md_unite 3 (none) GW R_Md D vwCl g (Zk g) A) (x1 : Int32) (x2 : Int32) (σ : Sg) (H : Heap) (locs : List Loc) (ls : Array Slot) (hl : lv_has ls 3 [(0, .ref (g.1 54)), (1, .int x1), (2, .int x2)]) (hst : Wst D vwCl (WS g) A s σ H locs) (h : wq_Md_unite x1 x2 σ post) : W p l e { frames := 2, cells := 0, slots := 0, locals := 46 } s m args below meth c H locs 0 0 (MQ below (QvW D vwCl (WS g) post A) args s 0 0 A) (F0 m 0 ls []) := by
  obtain ⟨hx, hb, hr, hml, hown, hts, hlocks, hK, hZ, hA⟩ := C
  unfold wq_Md_unite at h
  refine lv_aload_n hx hb d_Md_unite_0 rfl (lv_at hl 0 rfl) ?_
  refine lv_iload_n hx hb d_Md_unite_1 rfl (lv_at hl 1 rfl) ?_
  refine lv_iload_n hx hb d_Md_unite_2 rfl (lv_at hl 2 rfl) ?_
  refine kw_calli (va_runV (As := [.int x1, .int x2]) (rest := []) (b := g.1 54) ⟨hx, hb, hml, hown, hts⟩ (c_Md_isSo l x1 x2 h) (cwV 2 hts (gd_v gw1396 gw1398 gs76 gw15 gw1399) rfl rfl rfl (by decide +kernel) ⟨Nat.le_of_ble_eq_true rfl, Nat.le_of_ble_eq_true rfl⟩) ⟨kw_blind (Zk_ok g), va_recv hK hst.1 rfl (WS_o54 g σ), kw_pre (Zk_ok g) hK hZ hA hst⟩ rfl rfl hl.1 rfl (lv_room (Nat.le_of_ble_eq_true rfl)) d_Md_unite_3 ⟨Nat.le_of_ble_eq_true rfl, Nat.le_of_ble_eq_true rfl⟩) hst hA (fun r1 σ1 H locs h hst => ?_)
  refine lv_if_ne (tgt := 10) hx hb d_Md_unite_6 (by decide) (fun hc => ?_) (fun hc => ?_)
  · replace h := h.1 hc
    refine lv_aload_n hx hb d_Md_unite_10 rfl (lv_at hl 0 rfl) ?_
    refine lv_aload_n hx hb d_Md_unite_11 rfl (lv_at hl 0 rfl) ?_
    refine va_get (D := D) (ci := 10) (C := R_Md) (T := T_Md) (N := 46) hx hb hts in_Md hown hK hst.1 54 (WS_o54 g σ1) rfl 38 (by decide) (hts _ gw1102) (fun _ h9 => h9) rfl d_Md_unite_12 ?_
    refine lv_aload_n hx hb d_Md_unite_15 rfl (lv_at hl 0 rfl) ?_
    refine va_get (D := D) (ci := 10) (C := R_Md) (T := T_Md) (N := 46) hx hb hts in_Md hown hK hst.1 54 (WS_o54 g σ1) rfl 36 (by decide) (hts _ gw1100) (fun _ h9 => h9) rfl d_Md_unite_16 ?_
    refine lv_iload_n hx hb d_Md_unite_19 rfl (lv_at hl 1 rfl) ?_
    obtain ⟨hi, h⟩ := h
    refine va_lald hx hb hK hst.1 86 3 (WS_a86 g σ1) rfl hi d_Md_unite_20 ?_
    refine lv_lor hx hb d_Md_unite_21 ?_
    refine kw_putl (D := D) (ci := 10) (ty := .long) (C := R_Md) (T := T_Md) (N := 46) hx hb hts in_Md ty_Md ty_Md_ok nm_Md hown hK hst 54 (WS_o54 g σ1) rfl 38 (by decide) (hts _ gw1102) (fun _ h9 => h9) rfl (by decide +kernel) rfl rfl (Nat.le_of_ble_eq_true rfl) (WS_p54_38 g σ1 _) d_Md_unite_22 (fun σ2 H locs e2 hst => ?_)
    replace h := h σ2 e2
    refine lv_aload_n hx hb d_Md_unite_25 rfl (lv_at hl 0 rfl) ?_
    refine lv_aload_n hx hb d_Md_unite_26 rfl (lv_at hl 0 rfl) ?_
    refine va_get (D := D) (ci := 10) (C := R_Md) (T := T_Md) (N := 46) hx hb hts in_Md hown hK hst.1 54 (WS_o54 g σ2) rfl 39 (by decide) (hts _ gw1103) (fun _ h9 => h9) rfl d_Md_unite_27 ?_
    refine lv_aload_n hx hb d_Md_unite_30 rfl (lv_at hl 0 rfl) ?_
    refine va_get (D := D) (ci := 10) (C := R_Md) (T := T_Md) (N := 46) hx hb hts in_Md hown hK hst.1 54 (WS_o54 g σ2) rfl 37 (by decide) (hts _ gw1101) (fun _ h9 => h9) rfl d_Md_unite_31 ?_
    refine lv_iload_n hx hb d_Md_unite_34 rfl (lv_at hl 1 rfl) ?_
    obtain ⟨hi, h⟩ := h
    refine va_lald hx hb hK hst.1 87 3 (WS_a87 g σ2) rfl hi d_Md_unite_35 ?_
    refine lv_lor hx hb d_Md_unite_36 ?_
    refine kw_putl (D := D) (ci := 10) (ty := .long) (C := R_Md) (T := T_Md) (N := 46) hx hb hts in_Md ty_Md ty_Md_ok nm_Md hown hK hst 54 (WS_o54 g σ2) rfl 39 (by decide) (hts _ gw1103) (fun _ h9 => h9) rfl (by decide +kernel) rfl rfl (Nat.le_of_ble_eq_true rfl) (WS_p54_39 g σ2 _) d_Md_unite_37 (fun σ3 H locs e3 hst => ?_)
    replace h := h σ3 e3
    exact kw_vret hx hb hr hlocks hst h d_Md_unite_40
  · replace h := h.2 hc
    exact kw_vret hx hb hr hlocks hst h d_Md_unite_9
set_option maxRecDepth 100000 in
set_option maxHeartbeats 4000000 in
theorem c_Md_unite (l : Launch) {D : va_G} {g : Gm} {sz : Nat} (x1 : Int32) (x2 : Int32) {σ : Sg} {post : Sg → Prop} (h : wq_Md_unite x1 x2 σ post) : Met l y_Md_unite (.code y_Md_unite k_Md_unite 3 (none) :: GW) { frames := 2, cells := 0, slots := 0, locals := 46 } (PcW D vwCl (WS g) g (Zk g) σ sz [.ref (g.1 54), .int x1, .int x2]) (QvW D vwCl (WS g) post (va_A (WS g σ) sz)) 0 0 (va_A (WS g σ) sz) := by
  refine kw_entry (own := R_Md) (by decide) rfl rfl (Nat.le_of_ble_eq_true rfl) ?_
  intro p e s m below meth c ls hsz C hin hl hst
  exact b_Md_unite_0 C x1 x2 σ _ _ ls hl hst h
/-! SchemaDeskModel.says (IIII)Z -/
abbrev k_Md_says : ByteArray := prog_12_method_58_code
abbrev y_Md_says : MethodName := ⟨"SchemaDeskModel", "says", "(IIII)Z"⟩
theorem d_Md_says_0 : decode k_Md_says 0 = .ok (.iload_n 2, 1) := by decide +kernel
theorem d_Md_says_1 : decode k_Md_says 1 = .ok (.iconst 1, 1) := by decide +kernel
theorem d_Md_says_2 : decode k_Md_says 2 = .ok (.if_icmp .ne 11, 3) := by decide +kernel
theorem d_Md_says_5 : decode k_Md_says 5 = .ok (.aload_n 0, 1) := by decide +kernel
theorem d_Md_says_6 : decode k_Md_says 6 = .ok (.iload_n 3, 1) := by decide +kernel
theorem d_Md_says_7 : decode k_Md_says 7 = .ok (.iload 4, 2) := by decide +kernel
theorem d_Md_says_9 : decode k_Md_says 9 = .ok (.invokevirtual 326, 3) := by decide +kernel
theorem d_Md_says_12 : decode k_Md_says 12 = .ok (.ireturn, 1) := by decide +kernel
theorem d_Md_says_13 : decode k_Md_says 13 = .ok (.iload_n 2, 1) := by decide +kernel
theorem d_Md_says_14 : decode k_Md_says 14 = .ok (.iconst 2, 1) := by decide +kernel
theorem d_Md_says_15 : decode k_Md_says 15 = .ok (.if_icmp .ne 11, 3) := by decide +kernel
theorem d_Md_says_18 : decode k_Md_says 18 = .ok (.aload_n 0, 1) := by decide +kernel
theorem d_Md_says_19 : decode k_Md_says 19 = .ok (.iload_n 3, 1) := by decide +kernel
theorem d_Md_says_20 : decode k_Md_says 20 = .ok (.iload 4, 2) := by decide +kernel
theorem d_Md_says_22 : decode k_Md_says 22 = .ok (.invokevirtual 303, 3) := by decide +kernel
theorem d_Md_says_25 : decode k_Md_says 25 = .ok (.ireturn, 1) := by decide +kernel
theorem d_Md_says_26 : decode k_Md_says 26 = .ok (.iload_n 2, 1) := by decide +kernel
theorem d_Md_says_27 : decode k_Md_says 27 = .ok (.iconst 3, 1) := by decide +kernel
theorem d_Md_says_28 : decode k_Md_says 28 = .ok (.if_icmp .ne 71, 3) := by decide +kernel
theorem d_Md_says_31 : decode k_Md_says 31 = .ok (.aload_n 0, 1) := by decide +kernel
theorem d_Md_says_32 : decode k_Md_says 32 = .ok (.getfield 77, 3) := by decide +kernel
theorem d_Md_says_35 : decode k_Md_says 35 = .ok (.iload_n 3, 1) := by decide +kernel
theorem d_Md_says_36 : decode k_Md_says 36 = .ok (.iaload, 1) := by decide +kernel
theorem d_Md_says_37 : decode k_Md_says 37 = .ok (.iconst 5, 1) := by decide +kernel
theorem d_Md_says_38 : decode k_Md_says 38 = .ok (.if_icmp .eq 7, 3) := by decide +kernel
theorem d_Md_says_41 : decode k_Md_says 41 = .ok (.iconst 1, 1) := by decide +kernel
theorem d_Md_says_42 : decode k_Md_says 42 = .ok (.goto 4, 3) := by decide +kernel
theorem d_Md_says_45 : decode k_Md_says 45 = .ok (.iconst 0, 1) := by decide +kernel
theorem d_Md_says_46 : decode k_Md_says 46 = .ok (.istore 5, 2) := by decide +kernel
theorem d_Md_says_48 : decode k_Md_says 48 = .ok (.aload_n 0, 1) := by decide +kernel
theorem d_Md_says_49 : decode k_Md_says 49 = .ok (.getfield 95, 3) := by decide +kernel
theorem d_Md_says_52 : decode k_Md_says 52 = .ok (.iload_n 3, 1) := by decide +kernel
theorem d_Md_says_53 : decode k_Md_says 53 = .ok (.iaload, 1) := by decide +kernel
theorem d_Md_says_54 : decode k_Md_says 54 = .ok (.istore 6, 2) := by decide +kernel
theorem d_Md_says_56 : decode k_Md_says 56 = .ok (.iload 6, 2) := by decide +kernel
theorem d_Md_says_58 : decode k_Md_says 58 = .ok (.ifCond .lt 38, 3) := by decide +kernel
theorem d_Md_says_61 : decode k_Md_says 61 = .ok (.iload 5, 2) := by decide +kernel
theorem d_Md_says_63 : decode k_Md_says 63 = .ok (.ifCond .ne 14, 3) := by decide +kernel
theorem d_Md_says_66 : decode k_Md_says 66 = .ok (.aload_n 0, 1) := by decide +kernel
theorem d_Md_says_67 : decode k_Md_says 67 = .ok (.iload 6, 2) := by decide +kernel
theorem d_Md_says_69 : decode k_Md_says 69 = .ok (.iload 4, 2) := by decide +kernel
theorem d_Md_says_71 : decode k_Md_says 71 = .ok (.invokevirtual 303, 3) := by decide +kernel
theorem d_Md_says_74 : decode k_Md_says 74 = .ok (.ifCond .eq 7, 3) := by decide +kernel
theorem d_Md_says_77 : decode k_Md_says 77 = .ok (.iconst 1, 1) := by decide +kernel
theorem d_Md_says_78 : decode k_Md_says 78 = .ok (.goto 4, 3) := by decide +kernel
theorem d_Md_says_81 : decode k_Md_says 81 = .ok (.iconst 0, 1) := by decide +kernel
theorem d_Md_says_82 : decode k_Md_says 82 = .ok (.istore 5, 2) := by decide +kernel
theorem d_Md_says_84 : decode k_Md_says 84 = .ok (.aload_n 0, 1) := by decide +kernel
theorem d_Md_says_85 : decode k_Md_says 85 = .ok (.getfield 98, 3) := by decide +kernel
theorem d_Md_says_88 : decode k_Md_says 88 = .ok (.iload 6, 2) := by decide +kernel
theorem d_Md_says_90 : decode k_Md_says 90 = .ok (.iaload, 1) := by decide +kernel
theorem d_Md_says_91 : decode k_Md_says 91 = .ok (.istore 6, 2) := by decide +kernel
theorem d_Md_says_93 : decode k_Md_says 93 = .ok (.goto (-37), 3) := by decide +kernel
theorem d_Md_says_96 : decode k_Md_says 96 = .ok (.iload 5, 2) := by decide +kernel
theorem d_Md_says_98 : decode k_Md_says 98 = .ok (.ireturn, 1) := by decide +kernel
theorem d_Md_says_99 : decode k_Md_says 99 = .ok (.iload_n 2, 1) := by decide +kernel
theorem d_Md_says_100 : decode k_Md_says 100 = .ok (.bipush 11, 2) := by decide +kernel
theorem d_Md_says_102 : decode k_Md_says 102 = .ok (.if_icmp .ge 12, 3) := by decide +kernel
theorem d_Md_says_105 : decode k_Md_says 105 = .ok (.aload_n 0, 1) := by decide +kernel
theorem d_Md_says_106 : decode k_Md_says 106 = .ok (.iload_n 2, 1) := by decide +kernel
theorem d_Md_says_107 : decode k_Md_says 107 = .ok (.iload_n 3, 1) := by decide +kernel
theorem d_Md_says_108 : decode k_Md_says 108 = .ok (.iload 4, 2) := by decide +kernel
theorem d_Md_says_110 : decode k_Md_says 110 = .ok (.invokevirtual 329, 3) := by decide +kernel
theorem d_Md_says_113 : decode k_Md_says 113 = .ok (.ireturn, 1) := by decide +kernel
theorem d_Md_says_114 : decode k_Md_says 114 = .ok (.iload_n 2, 1) := by decide +kernel
theorem d_Md_says_115 : decode k_Md_says 115 = .ok (.bipush 11, 2) := by decide +kernel
theorem d_Md_says_117 : decode k_Md_says 117 = .ok (.if_icmp .ne 31, 3) := by decide +kernel
theorem d_Md_says_120 : decode k_Md_says 120 = .ok (.aload_n 0, 1) := by decide +kernel
theorem d_Md_says_121 : decode k_Md_says 121 = .ok (.getfield 77, 3) := by decide +kernel
theorem d_Md_says_124 : decode k_Md_says 124 = .ok (.iload 4, 2) := by decide +kernel
theorem d_Md_says_126 : decode k_Md_says 126 = .ok (.iaload, 1) := by decide +kernel
theorem d_Md_says_127 : decode k_Md_says 127 = .ok (.bipush 6, 2) := by decide +kernel
theorem d_Md_says_129 : decode k_Md_says 129 = .ok (.if_icmp .ne 13, 3) := by decide +kernel
theorem d_Md_says_132 : decode k_Md_says 132 = .ok (.aload_n 0, 1) := by decide +kernel
theorem d_Md_says_133 : decode k_Md_says 133 = .ok (.iload_n 3, 1) := by decide +kernel
theorem d_Md_says_134 : decode k_Md_says 134 = .ok (.iload 4, 2) := by decide +kernel
theorem d_Md_says_136 : decode k_Md_says 136 = .ok (.invokevirtual 333, 3) := by decide +kernel
theorem d_Md_says_139 : decode k_Md_says 139 = .ok (.ifCond .eq 7, 3) := by decide +kernel
theorem d_Md_says_142 : decode k_Md_says 142 = .ok (.iconst 1, 1) := by decide +kernel
theorem d_Md_says_143 : decode k_Md_says 143 = .ok (.goto 4, 3) := by decide +kernel
theorem d_Md_says_146 : decode k_Md_says 146 = .ok (.iconst 0, 1) := by decide +kernel
theorem d_Md_says_147 : decode k_Md_says 147 = .ok (.ireturn, 1) := by decide +kernel
theorem d_Md_says_148 : decode k_Md_says 148 = .ok (.iload_n 2, 1) := by decide +kernel
theorem d_Md_says_149 : decode k_Md_says 149 = .ok (.bipush 15, 2) := by decide +kernel
theorem d_Md_says_151 : decode k_Md_says 151 = .ok (.if_icmp .lt 9, 3) := by decide +kernel
theorem d_Md_says_154 : decode k_Md_says 154 = .ok (.iload_n 2, 1) := by decide +kernel
theorem d_Md_says_155 : decode k_Md_says 155 = .ok (.bipush 20, 2) := by decide +kernel
theorem d_Md_says_157 : decode k_Md_says 157 = .ok (.if_icmp .ne 12, 3) := by decide +kernel
theorem d_Md_says_160 : decode k_Md_says 160 = .ok (.aload_n 0, 1) := by decide +kernel
theorem d_Md_says_161 : decode k_Md_says 161 = .ok (.iload_n 1, 1) := by decide +kernel
theorem d_Md_says_162 : decode k_Md_says 162 = .ok (.iload_n 2, 1) := by decide +kernel
theorem d_Md_says_163 : decode k_Md_says 163 = .ok (.iload 4, 2) := by decide +kernel
theorem d_Md_says_165 : decode k_Md_says 165 = .ok (.invokevirtual 336, 3) := by decide +kernel
theorem d_Md_says_168 : decode k_Md_says 168 = .ok (.ireturn, 1) := by decide +kernel
theorem d_Md_says_169 : decode k_Md_says 169 = .ok (.iload_n 2, 1) := by decide +kernel
theorem d_Md_says_170 : decode k_Md_says 170 = .ok (.bipush 18, 2) := by decide +kernel
theorem d_Md_says_172 : decode k_Md_says 172 = .ok (.if_icmp .ge 12, 3) := by decide +kernel
theorem d_Md_says_175 : decode k_Md_says 175 = .ok (.aload_n 0, 1) := by decide +kernel
theorem d_Md_says_176 : decode k_Md_says 176 = .ok (.iload_n 2, 1) := by decide +kernel
theorem d_Md_says_177 : decode k_Md_says 177 = .ok (.iload_n 3, 1) := by decide +kernel
theorem d_Md_says_178 : decode k_Md_says 178 = .ok (.iload 4, 2) := by decide +kernel
theorem d_Md_says_180 : decode k_Md_says 180 = .ok (.invokevirtual 339, 3) := by decide +kernel
theorem d_Md_says_183 : decode k_Md_says 183 = .ok (.ireturn, 1) := by decide +kernel
theorem d_Md_says_184 : decode k_Md_says 184 = .ok (.iload_n 2, 1) := by decide +kernel
theorem d_Md_says_185 : decode k_Md_says 185 = .ok (.bipush 18, 2) := by decide +kernel
theorem d_Md_says_187 : decode k_Md_says 187 = .ok (.if_icmp .ne 19, 3) := by decide +kernel
theorem d_Md_says_190 : decode k_Md_says 190 = .ok (.aload_n 0, 1) := by decide +kernel
theorem d_Md_says_191 : decode k_Md_says 191 = .ok (.iload_n 3, 1) := by decide +kernel
theorem d_Md_says_192 : decode k_Md_says 192 = .ok (.iload 4, 2) := by decide +kernel
theorem d_Md_says_194 : decode k_Md_says 194 = .ok (.invokevirtual 320, 3) := by decide +kernel
theorem d_Md_says_197 : decode k_Md_says 197 = .ok (.ifCond .ne 7, 3) := by decide +kernel
theorem d_Md_says_200 : decode k_Md_says 200 = .ok (.iconst 1, 1) := by decide +kernel
theorem d_Md_says_201 : decode k_Md_says 201 = .ok (.goto 4, 3) := by decide +kernel
theorem d_Md_says_204 : decode k_Md_says 204 = .ok (.iconst 0, 1) := by decide +kernel
theorem d_Md_says_205 : decode k_Md_says 205 = .ok (.ireturn, 1) := by decide +kernel
theorem d_Md_says_206 : decode k_Md_says 206 = .ok (.aload_n 0, 1) := by decide +kernel
theorem d_Md_says_207 : decode k_Md_says 207 = .ok (.getfield 77, 3) := by decide +kernel
theorem d_Md_says_210 : decode k_Md_says 210 = .ok (.iload_n 3, 1) := by decide +kernel
theorem d_Md_says_211 : decode k_Md_says 211 = .ok (.iaload, 1) := by decide +kernel
theorem d_Md_says_212 : decode k_Md_says 212 = .ok (.iconst 4, 1) := by decide +kernel
theorem d_Md_says_213 : decode k_Md_says 213 = .ok (.if_icmp .ne 27, 3) := by decide +kernel
theorem d_Md_says_216 : decode k_Md_says 216 = .ok (.aload_n 0, 1) := by decide +kernel
theorem d_Md_says_217 : decode k_Md_says 217 = .ok (.getfield 132, 3) := by decide +kernel
theorem d_Md_says_220 : decode k_Md_says 220 = .ok (.iload_n 3, 1) := by decide +kernel
theorem d_Md_says_221 : decode k_Md_says 221 = .ok (.iaload, 1) := by decide +kernel
theorem d_Md_says_222 : decode k_Md_says 222 = .ok (.ifCond .lt 22, 3) := by decide +kernel
theorem d_Md_says_225 : decode k_Md_says 225 = .ok (.aload_n 0, 1) := by decide +kernel
theorem d_Md_says_226 : decode k_Md_says 226 = .ok (.aload_n 0, 1) := by decide +kernel
theorem d_Md_says_227 : decode k_Md_says 227 = .ok (.getfield 132, 3) := by decide +kernel
theorem d_Md_says_230 : decode k_Md_says 230 = .ok (.iload_n 3, 1) := by decide +kernel
theorem d_Md_says_231 : decode k_Md_says 231 = .ok (.iaload, 1) := by decide +kernel
theorem d_Md_says_232 : decode k_Md_says 232 = .ok (.iload 4, 2) := by decide +kernel
theorem d_Md_says_234 : decode k_Md_says 234 = .ok (.invokevirtual 320, 3) := by decide +kernel
theorem d_Md_says_237 : decode k_Md_says 237 = .ok (.ifCond .eq 7, 3) := by decide +kernel
theorem d_Md_says_240 : decode k_Md_says 240 = .ok (.iconst 1, 1) := by decide +kernel
theorem d_Md_says_241 : decode k_Md_says 241 = .ok (.goto 4, 3) := by decide +kernel
theorem d_Md_says_244 : decode k_Md_says 244 = .ok (.iconst 0, 1) := by decide +kernel
theorem d_Md_says_245 : decode k_Md_says 245 = .ok (.ireturn, 1) := by decide +kernel
theorem gw1420 : (Jvm.Cond.methodLink "SchemaDeskModel" (336 : Nat) ({ cls := "SchemaDeskModel", name := "children", desc := "(III)Z" } : Jvm.MethodName)) ∈ GW := gw_t6 (List.mem_of_getElem? (i := 220) rfl) rfl
theorem gw1422 : (Jvm.Cond.instanceMethod ({ cls := "SchemaDeskModel", name := "children", desc := "(III)Z" } : Jvm.MethodName)) ∈ GW := gw_t6 (List.mem_of_getElem? (i := 222) rfl) rfl
theorem gs82 : Cond.selects "SchemaDeskModel" ⟨"SchemaDeskModel", "children", "(III)Z"⟩ ⟨"SchemaDeskModel", "children", "(III)Z"⟩ ∈ GW := gw_p6 (q := (⟨"SchemaDeskModel", "children", "(III)Z"⟩, 46)) (List.mem_of_getElem? (i := 2) rfl)
theorem gw1423 : (Jvm.Cond.code ({ cls := "SchemaDeskModel", name := "children", desc := "(III)Z" } : Jvm.MethodName) prog_12_method_54_code (7 : Nat) (Option.some Jvm.ClassFile.FieldType.boolean)) ∈ GW := gw_t6 (List.mem_of_getElem? (i := 223) rfl) rfl
theorem gw1428 : (Jvm.Cond.methodLink "SchemaDeskModel" (339 : Nat) ({ cls := "SchemaDeskModel", name := "combined", desc := "(III)Z" } : Jvm.MethodName)) ∈ GW := gw_t6 (List.mem_of_getElem? (i := 228) rfl) rfl
theorem gw1430 : (Jvm.Cond.instanceMethod ({ cls := "SchemaDeskModel", name := "combined", desc := "(III)Z" } : Jvm.MethodName)) ∈ GW := gw_t6 (List.mem_of_getElem? (i := 230) rfl) rfl
theorem gs84 : Cond.selects "SchemaDeskModel" ⟨"SchemaDeskModel", "combined", "(III)Z"⟩ ⟨"SchemaDeskModel", "combined", "(III)Z"⟩ ∈ GW := gw_p6 (q := (⟨"SchemaDeskModel", "combined", "(III)Z"⟩, 46)) (List.mem_of_getElem? (i := 4) rfl)
theorem gw1431 : (Jvm.Cond.code ({ cls := "SchemaDeskModel", name := "combined", desc := "(III)Z" } : Jvm.MethodName) prog_12_method_55_code (6 : Nat) (Option.some Jvm.ClassFile.FieldType.boolean)) ∈ GW := gw_t6 (List.mem_of_getElem? (i := 231) rfl) rfl
theorem gw1416 : (Jvm.Cond.methodLink "SchemaDeskModel" (333 : Nat) ({ cls := "SchemaDeskModel", name := "required", desc := "(II)Z" } : Jvm.MethodName)) ∈ GW := gw_t6 (List.mem_of_getElem? (i := 216) rfl) rfl
theorem gw1418 : (Jvm.Cond.instanceMethod ({ cls := "SchemaDeskModel", name := "required", desc := "(II)Z" } : Jvm.MethodName)) ∈ GW := gw_t6 (List.mem_of_getElem? (i := 218) rfl) rfl
theorem gs81 : Cond.selects "SchemaDeskModel" ⟨"SchemaDeskModel", "required", "(II)Z"⟩ ⟨"SchemaDeskModel", "required", "(II)Z"⟩ ∈ GW := gw_p6 (q := (⟨"SchemaDeskModel", "required", "(II)Z"⟩, 46)) (List.mem_of_getElem? (i := 1) rfl)
theorem gw1419 : (Jvm.Cond.code ({ cls := "SchemaDeskModel", name := "required", desc := "(II)Z" } : Jvm.MethodName) prog_12_method_51_code (5 : Nat) (Option.some Jvm.ClassFile.FieldType.boolean)) ∈ GW := gw_t6 (List.mem_of_getElem? (i := 219) rfl) rfl
theorem gw1412 : (Jvm.Cond.methodLink "SchemaDeskModel" (329 : Nat) ({ cls := "SchemaDeskModel", name := "measured", desc := "(III)Z" } : Jvm.MethodName)) ∈ GW := gw_t6 (List.mem_of_getElem? (i := 212) rfl) rfl
theorem gw1414 : (Jvm.Cond.instanceMethod ({ cls := "SchemaDeskModel", name := "measured", desc := "(III)Z" } : Jvm.MethodName)) ∈ GW := gw_t6 (List.mem_of_getElem? (i := 214) rfl) rfl
theorem gs80 : Cond.selects "SchemaDeskModel" ⟨"SchemaDeskModel", "measured", "(III)Z"⟩ ⟨"SchemaDeskModel", "measured", "(III)Z"⟩ ∈ GW := gw_p6 (q := (⟨"SchemaDeskModel", "measured", "(III)Z"⟩, 46)) (List.mem_of_getElem? (i := 0) rfl)
theorem gw1415 : (Jvm.Cond.code ({ cls := "SchemaDeskModel", name := "measured", desc := "(III)Z" } : Jvm.MethodName) prog_12_method_50_code (7 : Nat) (Option.some Jvm.ClassFile.FieldType.boolean)) ∈ GW := gw_t6 (List.mem_of_getElem? (i := 215) rfl) rfl
theorem gw1404 : (Jvm.Cond.methodLink "SchemaDeskModel" (326 : Nat) ({ cls := "SchemaDeskModel", name := "typed", desc := "(II)Z" } : Jvm.MethodName)) ∈ GW := gw_t6 (List.mem_of_getElem? (i := 204) rfl) rfl
theorem gw1406 : (Jvm.Cond.instanceMethod ({ cls := "SchemaDeskModel", name := "typed", desc := "(II)Z" } : Jvm.MethodName)) ∈ GW := gw_t6 (List.mem_of_getElem? (i := 206) rfl) rfl
theorem gs78 : Cond.selects "SchemaDeskModel" ⟨"SchemaDeskModel", "typed", "(II)Z"⟩ ⟨"SchemaDeskModel", "typed", "(II)Z"⟩ ∈ GW := gw_p5 (q := (⟨"SchemaDeskModel", "typed", "(II)Z"⟩, 46)) (List.mem_of_getElem? (i := 14) rfl)
theorem gw1407 : (Jvm.Cond.code ({ cls := "SchemaDeskModel", name := "typed", desc := "(II)Z" } : Jvm.MethodName) prog_12_method_49_code (5 : Nat) (Option.some Jvm.ClassFile.FieldType.boolean)) ∈ GW := gw_t6 (List.mem_of_getElem? (i := 207) rfl) rfl
def wb_Md_says_0 (F : Nat → Int32 → Int32 → Int32 → Int32 → Int32 → Int32 → Sg → Prop) (post : Int32 → Sg → Prop) (x1 : Int32) (x2 : Int32) (x3 : Int32) (x4 : Int32) (σ : Sg) : Prop := ((¬ x2 = (1 : Int32) → ((¬ x2 = (2 : Int32) → ((¬ x2 = (3 : Int32) → (((11 : Int32) ≤ x2 → ((¬ x2 = (11 : Int32) → ((x2 < (15 : Int32) → (wq_Md_children x1 x2 x4 σ (fun r1 σ1 => (narrow .boolean (.int r1) = .int r1 ∧ post r1 σ1)))) ∧ (¬ x2 < (15 : Int32) → ((¬ x2 = (20 : Int32) → (((18 : Int32) ≤ x2 → ((¬ x2 = (18 : Int32) → (vp_in x3 240 ∧ ((¬ (σ.1 59 x3.toNatClampNeg) = (4 : Int32) → (narrow .boolean (.int (1 : Int32)) = .int (1 : Int32) ∧ post (1 : Int32) σ)) ∧ ((σ.1 59 x3.toNatClampNeg) = (4 : Int32) → (vp_in x3 160 ∧ (((σ.1 77 x3.toNatClampNeg) < 0 → (narrow .boolean (.int (0 : Int32)) = .int (0 : Int32) ∧ post (0 : Int32) σ)) ∧ (¬ (σ.1 77 x3.toNatClampNeg) < 0 → (vp_in x3 160 ∧ (wq_Md_isSo (σ.1 77 x3.toNatClampNeg) x4 σ (fun r1 σ1 => ((r1 = 0 → (narrow .boolean (.int (0 : Int32)) = .int (0 : Int32) ∧ post (0 : Int32) σ1)) ∧ (¬ r1 = 0 → (narrow .boolean (.int (1 : Int32)) = .int (1 : Int32) ∧ post (1 : Int32) σ1))))))))))))) ∧ (x2 = (18 : Int32) → (wq_Md_isSo x3 x4 σ (fun r1 σ1 => ((¬ r1 = 0 → (narrow .boolean (.int (0 : Int32)) = .int (0 : Int32) ∧ post (0 : Int32) σ1)) ∧ (r1 = 0 → (narrow .boolean (.int (1 : Int32)) = .int (1 : Int32) ∧ post (1 : Int32) σ1)))))))) ∧ (¬ (18 : Int32) ≤ x2 → (wq_Md_combined x2 x3 x4 σ (fun r1 σ1 => (narrow .boolean (.int r1) = .int r1 ∧ post r1 σ1)))))) ∧ (x2 = (20 : Int32) → (wq_Md_children x1 x2 x4 σ (fun r1 σ1 => (narrow .boolean (.int r1) = .int r1 ∧ post r1 σ1)))))))) ∧ (x2 = (11 : Int32) → (vp_in x4 240 ∧ ((¬ (σ.1 59 x4.toNatClampNeg) = (6 : Int32) → (narrow .boolean (.int (1 : Int32)) = .int (1 : Int32) ∧ post (1 : Int32) σ)) ∧ ((σ.1 59 x4.toNatClampNeg) = (6 : Int32) → (wq_Md_required x3 x4 σ (fun r1 σ1 => ((r1 = 0 → (narrow .boolean (.int (0 : Int32)) = .int (0 : Int32) ∧ post (0 : Int32) σ1)) ∧ (¬ r1 = 0 → (narrow .boolean (.int (1 : Int32)) = .int (1 : Int32) ∧ post (1 : Int32) σ1))))))))))) ∧ (¬ (11 : Int32) ≤ x2 → (wq_Md_measured x2 x3 x4 σ (fun r1 σ1 => (narrow .boolean (.int r1) = .int r1 ∧ post r1 σ1)))))) ∧ (x2 = (3 : Int32) → (vp_in x3 240 ∧ (((σ.1 59 x3.toNatClampNeg) = (5 : Int32) → (vp_in x3 240 ∧ F 1 0 0 0 x4 (0 : Int32) (σ.1 65 x3.toNatClampNeg) σ)) ∧ (¬ (σ.1 59 x3.toNatClampNeg) = (5 : Int32) → (vp_in x3 240 ∧ F 1 0 0 0 x4 (1 : Int32) (σ.1 65 x3.toNatClampNeg) σ))))))) ∧ (x2 = (2 : Int32) → (wq_Md_isEqual x3 x4 σ (fun r1 σ1 => (narrow .boolean (.int r1) = .int r1 ∧ post r1 σ1)))))) ∧ (x2 = (1 : Int32) → (wq_Md_typed x3 x4 σ (fun r1 σ1 => (narrow .boolean (.int r1) = .int r1 ∧ post r1 σ1)))))
def wb_Md_says_1 (F : Nat → Int32 → Int32 → Int32 → Int32 → Int32 → Int32 → Sg → Prop) (post : Int32 → Sg → Prop) (x4 : Int32) (x5 : Int32) (x6 : Int32) (σ : Sg) : Prop := ((x6 < 0 → (narrow .boolean (.int x5) = .int x5 ∧ post x5 σ)) ∧ (¬ x6 < 0 → ((¬ x5 = 0 → (vp_in x6 240 ∧ F 1 0 0 0 x4 (1 : Int32) (σ.1 66 x6.toNatClampNeg) σ)) ∧ (x5 = 0 → (wq_Md_isEqual x6 x4 σ (fun r1 σ1 => ((r1 = 0 → (vp_in x6 240 ∧ F 1 0 0 0 x4 (0 : Int32) (σ1.1 66 x6.toNatClampNeg) σ1)) ∧ (¬ r1 = 0 → (vp_in x6 240 ∧ F 1 0 0 0 x4 (1 : Int32) (σ1.1 66 x6.toNatClampNeg) σ1)))))))))
def wp_Md_says (post : Int32 → Sg → Prop) : Nat → Nat → Int32 → Int32 → Int32 → Int32 → Int32 → Int32 → Sg → Prop
  | 0, _, _, _, _, _, _, _, _ => False
  | n + 1, k, x1, x2, x3, x4, x5, x6, σ => match k with
    | 0 => wb_Md_says_0 (wp_Md_says post n) post x1 x2 x3 x4 σ
    | 1 => wb_Md_says_1 (wp_Md_says post n) post x4 x5 x6 σ
    | _ => False
def wq_Md_says (x1 : Int32) (x2 : Int32) (x3 : Int32) (x4 : Int32) (σ : Sg) (post : Int32 → Sg → Prop) : Prop := ∃ n, wp_Md_says post n 0 x1 x2 x3 x4 0 0 σ
def J_Md_says_1 (p : Program) (l : Launch) (e : Env) (s : State) (m : MethodId) (args : Array Value) (below : List Frame) (meth : Method) (c : Code) (D : va_G) (g : Gm) (A : Nat → Prop) (post : Int32 → Sg → Prop) (F : Nat → Int32 → Int32 → Int32 → Int32 → Int32 → Int32 → Sg → Prop) : Prop := ∀ (x4 : Int32) (x5 : Int32) (x6 : Int32) (σ : Sg) (H : Heap) (locs : List Loc) (ls : Array Slot), lv_has ls 7 [(0, .ref (g.1 54)), (4, .int x4), (5, .int x5), (6, .int x6)] → Wst D vwCl (WS g) A s σ H locs → F 1 0 0 0 x4 x5 x6 σ → W p l e { frames := 5, cells := 0, slots := 0, locals := 126 } s m args below meth c H locs 0 0 (MQ below (QiW D vwCl (WS g) post A) args s 0 0 A) (F0 m 56 ls [])
set_option maxRecDepth 100000 in
set_option maxHeartbeats 4000000 in
theorem b_Md_says_0 {p : Program} {l : Launch} {e : Env} {s : State} {m : MethodId} {args : Array Value} {below : List Frame} {meth : Method} {c : Code} {D : va_G} {g : Gm} {A : Nat → Prop} {post : Int32 → Sg → Prop} {F : Nat → Int32 → Int32 → Int32 → Int32 → Int32 → Int32 → Sg → Prop} (C : kC p s m args meth c k_Md_says 7 (some .boolean) GW R_Md D vwCl g (Zk g) A) (j1 : J_Md_says_1 p l e s m args below meth c D g A post F) (x1 : Int32) (x2 : Int32) (x3 : Int32) (x4 : Int32) (σ : Sg) (H : Heap) (locs : List Loc) (ls : Array Slot) (hl : lv_has ls 7 [(0, .ref (g.1 54)), (1, .int x1), (2, .int x2), (3, .int x3), (4, .int x4)]) (hst : Wst D vwCl (WS g) A s σ H locs) (h : wb_Md_says_0 F post x1 x2 x3 x4 σ) : W p l e { frames := 5, cells := 0, slots := 0, locals := 126 } s m args below meth c H locs 0 0 (MQ below (QiW D vwCl (WS g) post A) args s 0 0 A) (F0 m 0 ls []) := by
  obtain ⟨hx, hb, hr, hml, hown, hts, hlocks, hK, hZ, hA⟩ := C
  unfold wb_Md_says_0 at h
  refine lv_iload_n hx hb d_Md_says_0 rfl (lv_at hl 2 rfl) ?_
  refine lv_iconst (v := (1 : Int32)) hx hb d_Md_says_1 (by decide) ?_
  refine lv_icmp_ne (tgt := 13) hx hb d_Md_says_2 (by decide) (fun hc => ?_) (fun hc => ?_)
  · replace h := h.1 hc
    refine lv_iload_n hx hb d_Md_says_13 rfl (lv_at hl 2 rfl) ?_
    refine lv_iconst (v := (2 : Int32)) hx hb d_Md_says_14 (by decide) ?_
    refine lv_icmp_ne (tgt := 26) hx hb d_Md_says_15 (by decide) (fun hc => ?_) (fun hc => ?_)
    · replace h := h.1 hc
      refine lv_iload_n hx hb d_Md_says_26 rfl (lv_at hl 2 rfl) ?_
      refine lv_iconst (v := (3 : Int32)) hx hb d_Md_says_27 (by decide) ?_
      refine lv_icmp_ne (tgt := 99) hx hb d_Md_says_28 (by decide) (fun hc => ?_) (fun hc => ?_)
      · replace h := h.1 hc
        refine lv_iload_n hx hb d_Md_says_99 rfl (lv_at hl 2 rfl) ?_
        refine lv_bipush (v := (11 : Int32)) hx hb d_Md_says_100 (by decide) ?_
        refine lv_icmp_ge (tgt := 114) hx hb d_Md_says_102 (by decide) (fun hc => ?_) (fun hc => ?_)
        · replace h := h.1 hc
          refine lv_iload_n hx hb d_Md_says_114 rfl (lv_at hl 2 rfl) ?_
          refine lv_bipush (v := (11 : Int32)) hx hb d_Md_says_115 (by decide) ?_
          refine lv_icmp_ne (tgt := 148) hx hb d_Md_says_117 (by decide) (fun hc => ?_) (fun hc => ?_)
          · replace h := h.1 hc
            refine lv_iload_n hx hb d_Md_says_148 rfl (lv_at hl 2 rfl) ?_
            refine lv_bipush (v := (15 : Int32)) hx hb d_Md_says_149 (by decide) ?_
            refine lv_icmp_lt (tgt := 160) hx hb d_Md_says_151 (by decide) (fun hc => ?_) (fun hc => ?_)
            · replace h := h.1 hc
              refine lv_aload_n hx hb d_Md_says_160 rfl (lv_at hl 0 rfl) ?_
              refine lv_iload_n hx hb d_Md_says_161 rfl (lv_at hl 1 rfl) ?_
              refine lv_iload_n hx hb d_Md_says_162 rfl (lv_at hl 2 rfl) ?_
              refine lv_iload hx hb d_Md_says_163 (lv_at hl 4 rfl) ?_
              refine kw_calli (va_runV (As := [.int x1, .int x2, .int x4]) (rest := []) (b := g.1 54) ⟨hx, hb, hml, hown, hts⟩ (c_Md_children l x1 x2 x4 h) (cwV 3 hts (gd_v gw1420 gw1422 gs82 gw15 gw1423) rfl rfl rfl (by decide +kernel) ⟨Nat.le_of_ble_eq_true rfl, Nat.le_of_ble_eq_true rfl⟩) ⟨kw_blind (Zk_ok g), va_recv hK hst.1 rfl (WS_o54 g σ), kw_pre (Zk_ok g) hK hZ hA hst⟩ rfl rfl hl.1 rfl (lv_room (Nat.le_of_ble_eq_true rfl)) d_Md_says_165 ⟨Nat.le_of_ble_eq_true rfl, Nat.le_of_ble_eq_true rfl⟩) hst hA (fun r1 σ1 H locs h hst => ?_)
              exact kw_zret hx hb hr hlocks hst h d_Md_says_168
            · replace h := h.2 hc
              refine lv_iload_n hx hb d_Md_says_154 rfl (lv_at hl 2 rfl) ?_
              refine lv_bipush (v := (20 : Int32)) hx hb d_Md_says_155 (by decide) ?_
              refine lv_icmp_ne (tgt := 169) hx hb d_Md_says_157 (by decide) (fun hc => ?_) (fun hc => ?_)
              · replace h := h.1 hc
                refine lv_iload_n hx hb d_Md_says_169 rfl (lv_at hl 2 rfl) ?_
                refine lv_bipush (v := (18 : Int32)) hx hb d_Md_says_170 (by decide) ?_
                refine lv_icmp_ge (tgt := 184) hx hb d_Md_says_172 (by decide) (fun hc => ?_) (fun hc => ?_)
                · replace h := h.1 hc
                  refine lv_iload_n hx hb d_Md_says_184 rfl (lv_at hl 2 rfl) ?_
                  refine lv_bipush (v := (18 : Int32)) hx hb d_Md_says_185 (by decide) ?_
                  refine lv_icmp_ne (tgt := 206) hx hb d_Md_says_187 (by decide) (fun hc => ?_) (fun hc => ?_)
                  · replace h := h.1 hc
                    refine lv_aload_n hx hb d_Md_says_206 rfl (lv_at hl 0 rfl) ?_
                    refine va_get (D := D) (ci := 10) (C := R_Md) (T := T_Md) (N := 46) hx hb hts in_Md hown hK hst.1 54 (WS_o54 g σ) rfl 5 (by decide) (hts _ gw1069) (fun _ h9 => h9) rfl d_Md_says_207 ?_
                    refine lv_iload_n hx hb d_Md_says_210 rfl (lv_at hl 3 rfl) ?_
                    obtain ⟨hi, h⟩ := h
                    refine va_iald hx hb hK hst.1 59 0 (WS_a59 g σ) rfl hi d_Md_says_211 ?_
                    refine lv_iconst (v := (4 : Int32)) hx hb d_Md_says_212 (by decide) ?_
                    refine lv_icmp_ne (tgt := 240) hx hb d_Md_says_213 (by decide) (fun hc => ?_) (fun hc => ?_)
                    · replace h := h.1 hc
                      refine lv_iconst (v := (1 : Int32)) hx hb d_Md_says_240 (by decide) ?_
                      refine lv_goto (tgt := 245) hx hb d_Md_says_241 (by decide) ?_
                      exact kw_zret hx hb hr hlocks hst h d_Md_says_245
                    · replace h := h.2 hc
                      refine lv_aload_n hx hb d_Md_says_216 rfl (lv_at hl 0 rfl) ?_
                      refine va_get (D := D) (ci := 10) (C := R_Md) (T := T_Md) (N := 46) hx hb hts in_Md hown hK hst.1 54 (WS_o54 g σ) rfl 26 (by decide) (hts _ gw1090) (fun _ h9 => h9) rfl d_Md_says_217 ?_
                      refine lv_iload_n hx hb d_Md_says_220 rfl (lv_at hl 3 rfl) ?_
                      obtain ⟨hi, h⟩ := h
                      refine va_iald hx hb hK hst.1 77 0 (WS_a77 g σ) rfl hi d_Md_says_221 ?_
                      refine lv_if_lt (tgt := 244) hx hb d_Md_says_222 (by decide) (fun hc => ?_) (fun hc => ?_)
                      · replace h := h.1 hc
                        refine lv_iconst (v := (0 : Int32)) hx hb d_Md_says_244 (by decide) ?_
                        exact kw_zret hx hb hr hlocks hst h d_Md_says_245
                      · replace h := h.2 hc
                        refine lv_aload_n hx hb d_Md_says_225 rfl (lv_at hl 0 rfl) ?_
                        refine lv_aload_n hx hb d_Md_says_226 rfl (lv_at hl 0 rfl) ?_
                        refine va_get (D := D) (ci := 10) (C := R_Md) (T := T_Md) (N := 46) hx hb hts in_Md hown hK hst.1 54 (WS_o54 g σ) rfl 26 (by decide) (hts _ gw1090) (fun _ h9 => h9) rfl d_Md_says_227 ?_
                        refine lv_iload_n hx hb d_Md_says_230 rfl (lv_at hl 3 rfl) ?_
                        obtain ⟨hi, h⟩ := h
                        refine va_iald hx hb hK hst.1 77 0 (WS_a77 g σ) rfl hi d_Md_says_231 ?_
                        refine lv_iload hx hb d_Md_says_232 (lv_at hl 4 rfl) ?_
                        refine kw_calli (va_runV (As := [.int (σ.1 77 x3.toNatClampNeg), .int x4]) (rest := []) (b := g.1 54) ⟨hx, hb, hml, hown, hts⟩ (c_Md_isSo l (σ.1 77 x3.toNatClampNeg) x4 h) (cwV 2 hts (gd_v gw1396 gw1398 gs76 gw15 gw1399) rfl rfl rfl (by decide +kernel) ⟨Nat.le_of_ble_eq_true rfl, Nat.le_of_ble_eq_true rfl⟩) ⟨kw_blind (Zk_ok g), va_recv hK hst.1 rfl (WS_o54 g σ), kw_pre (Zk_ok g) hK hZ hA hst⟩ rfl rfl hl.1 rfl (lv_room (Nat.le_of_ble_eq_true rfl)) d_Md_says_234 ⟨Nat.le_of_ble_eq_true rfl, Nat.le_of_ble_eq_true rfl⟩) hst hA (fun r1 σ1 H locs h hst => ?_)
                        refine lv_if_eq (tgt := 244) hx hb d_Md_says_237 (by decide) (fun hc => ?_) (fun hc => ?_)
                        · replace h := h.1 hc
                          refine lv_iconst (v := (0 : Int32)) hx hb d_Md_says_244 (by decide) ?_
                          exact kw_zret hx hb hr hlocks hst h d_Md_says_245
                        · replace h := h.2 hc
                          refine lv_iconst (v := (1 : Int32)) hx hb d_Md_says_240 (by decide) ?_
                          refine lv_goto (tgt := 245) hx hb d_Md_says_241 (by decide) ?_
                          exact kw_zret hx hb hr hlocks hst h d_Md_says_245
                  · replace h := h.2 hc
                    refine lv_aload_n hx hb d_Md_says_190 rfl (lv_at hl 0 rfl) ?_
                    refine lv_iload_n hx hb d_Md_says_191 rfl (lv_at hl 3 rfl) ?_
                    refine lv_iload hx hb d_Md_says_192 (lv_at hl 4 rfl) ?_
                    refine kw_calli (va_runV (As := [.int x3, .int x4]) (rest := []) (b := g.1 54) ⟨hx, hb, hml, hown, hts⟩ (c_Md_isSo l x3 x4 h) (cwV 2 hts (gd_v gw1396 gw1398 gs76 gw15 gw1399) rfl rfl rfl (by decide +kernel) ⟨Nat.le_of_ble_eq_true rfl, Nat.le_of_ble_eq_true rfl⟩) ⟨kw_blind (Zk_ok g), va_recv hK hst.1 rfl (WS_o54 g σ), kw_pre (Zk_ok g) hK hZ hA hst⟩ rfl rfl hl.1 rfl (lv_room (Nat.le_of_ble_eq_true rfl)) d_Md_says_194 ⟨Nat.le_of_ble_eq_true rfl, Nat.le_of_ble_eq_true rfl⟩) hst hA (fun r1 σ1 H locs h hst => ?_)
                    refine lv_if_ne (tgt := 204) hx hb d_Md_says_197 (by decide) (fun hc => ?_) (fun hc => ?_)
                    · replace h := h.1 hc
                      refine lv_iconst (v := (0 : Int32)) hx hb d_Md_says_204 (by decide) ?_
                      exact kw_zret hx hb hr hlocks hst h d_Md_says_205
                    · replace h := h.2 hc
                      refine lv_iconst (v := (1 : Int32)) hx hb d_Md_says_200 (by decide) ?_
                      refine lv_goto (tgt := 205) hx hb d_Md_says_201 (by decide) ?_
                      exact kw_zret hx hb hr hlocks hst h d_Md_says_205
                · replace h := h.2 hc
                  refine lv_aload_n hx hb d_Md_says_175 rfl (lv_at hl 0 rfl) ?_
                  refine lv_iload_n hx hb d_Md_says_176 rfl (lv_at hl 2 rfl) ?_
                  refine lv_iload_n hx hb d_Md_says_177 rfl (lv_at hl 3 rfl) ?_
                  refine lv_iload hx hb d_Md_says_178 (lv_at hl 4 rfl) ?_
                  refine kw_calli (va_runV (As := [.int x2, .int x3, .int x4]) (rest := []) (b := g.1 54) ⟨hx, hb, hml, hown, hts⟩ (c_Md_combined l x2 x3 x4 h) (cwV 3 hts (gd_v gw1428 gw1430 gs84 gw15 gw1431) rfl rfl rfl (by decide +kernel) ⟨Nat.le_of_ble_eq_true rfl, Nat.le_of_ble_eq_true rfl⟩) ⟨kw_blind (Zk_ok g), va_recv hK hst.1 rfl (WS_o54 g σ), kw_pre (Zk_ok g) hK hZ hA hst⟩ rfl rfl hl.1 rfl (lv_room (Nat.le_of_ble_eq_true rfl)) d_Md_says_180 ⟨Nat.le_of_ble_eq_true rfl, Nat.le_of_ble_eq_true rfl⟩) hst hA (fun r1 σ1 H locs h hst => ?_)
                  exact kw_zret hx hb hr hlocks hst h d_Md_says_183
              · replace h := h.2 hc
                refine lv_aload_n hx hb d_Md_says_160 rfl (lv_at hl 0 rfl) ?_
                refine lv_iload_n hx hb d_Md_says_161 rfl (lv_at hl 1 rfl) ?_
                refine lv_iload_n hx hb d_Md_says_162 rfl (lv_at hl 2 rfl) ?_
                refine lv_iload hx hb d_Md_says_163 (lv_at hl 4 rfl) ?_
                refine kw_calli (va_runV (As := [.int x1, .int x2, .int x4]) (rest := []) (b := g.1 54) ⟨hx, hb, hml, hown, hts⟩ (c_Md_children l x1 x2 x4 h) (cwV 3 hts (gd_v gw1420 gw1422 gs82 gw15 gw1423) rfl rfl rfl (by decide +kernel) ⟨Nat.le_of_ble_eq_true rfl, Nat.le_of_ble_eq_true rfl⟩) ⟨kw_blind (Zk_ok g), va_recv hK hst.1 rfl (WS_o54 g σ), kw_pre (Zk_ok g) hK hZ hA hst⟩ rfl rfl hl.1 rfl (lv_room (Nat.le_of_ble_eq_true rfl)) d_Md_says_165 ⟨Nat.le_of_ble_eq_true rfl, Nat.le_of_ble_eq_true rfl⟩) hst hA (fun r1 σ1 H locs h hst => ?_)
                exact kw_zret hx hb hr hlocks hst h d_Md_says_168
          · replace h := h.2 hc
            refine lv_aload_n hx hb d_Md_says_120 rfl (lv_at hl 0 rfl) ?_
            refine va_get (D := D) (ci := 10) (C := R_Md) (T := T_Md) (N := 46) hx hb hts in_Md hown hK hst.1 54 (WS_o54 g σ) rfl 5 (by decide) (hts _ gw1069) (fun _ h9 => h9) rfl d_Md_says_121 ?_
            refine lv_iload hx hb d_Md_says_124 (lv_at hl 4 rfl) ?_
            obtain ⟨hi, h⟩ := h
            refine va_iald hx hb hK hst.1 59 0 (WS_a59 g σ) rfl hi d_Md_says_126 ?_
            refine lv_bipush (v := (6 : Int32)) hx hb d_Md_says_127 (by decide) ?_
            refine lv_icmp_ne (tgt := 142) hx hb d_Md_says_129 (by decide) (fun hc => ?_) (fun hc => ?_)
            · replace h := h.1 hc
              refine lv_iconst (v := (1 : Int32)) hx hb d_Md_says_142 (by decide) ?_
              refine lv_goto (tgt := 147) hx hb d_Md_says_143 (by decide) ?_
              exact kw_zret hx hb hr hlocks hst h d_Md_says_147
            · replace h := h.2 hc
              refine lv_aload_n hx hb d_Md_says_132 rfl (lv_at hl 0 rfl) ?_
              refine lv_iload_n hx hb d_Md_says_133 rfl (lv_at hl 3 rfl) ?_
              refine lv_iload hx hb d_Md_says_134 (lv_at hl 4 rfl) ?_
              refine kw_calli (va_runV (As := [.int x3, .int x4]) (rest := []) (b := g.1 54) ⟨hx, hb, hml, hown, hts⟩ (c_Md_required l x3 x4 h) (cwV 2 hts (gd_v gw1416 gw1418 gs81 gw15 gw1419) rfl rfl rfl (by decide +kernel) ⟨Nat.le_of_ble_eq_true rfl, Nat.le_of_ble_eq_true rfl⟩) ⟨kw_blind (Zk_ok g), va_recv hK hst.1 rfl (WS_o54 g σ), kw_pre (Zk_ok g) hK hZ hA hst⟩ rfl rfl hl.1 rfl (lv_room (Nat.le_of_ble_eq_true rfl)) d_Md_says_136 ⟨Nat.le_of_ble_eq_true rfl, Nat.le_of_ble_eq_true rfl⟩) hst hA (fun r1 σ1 H locs h hst => ?_)
              refine lv_if_eq (tgt := 146) hx hb d_Md_says_139 (by decide) (fun hc => ?_) (fun hc => ?_)
              · replace h := h.1 hc
                refine lv_iconst (v := (0 : Int32)) hx hb d_Md_says_146 (by decide) ?_
                exact kw_zret hx hb hr hlocks hst h d_Md_says_147
              · replace h := h.2 hc
                refine lv_iconst (v := (1 : Int32)) hx hb d_Md_says_142 (by decide) ?_
                refine lv_goto (tgt := 147) hx hb d_Md_says_143 (by decide) ?_
                exact kw_zret hx hb hr hlocks hst h d_Md_says_147
        · replace h := h.2 hc
          refine lv_aload_n hx hb d_Md_says_105 rfl (lv_at hl 0 rfl) ?_
          refine lv_iload_n hx hb d_Md_says_106 rfl (lv_at hl 2 rfl) ?_
          refine lv_iload_n hx hb d_Md_says_107 rfl (lv_at hl 3 rfl) ?_
          refine lv_iload hx hb d_Md_says_108 (lv_at hl 4 rfl) ?_
          refine kw_calli (va_runV (As := [.int x2, .int x3, .int x4]) (rest := []) (b := g.1 54) ⟨hx, hb, hml, hown, hts⟩ (c_Md_measured l x2 x3 x4 h) (cwV 3 hts (gd_v gw1412 gw1414 gs80 gw15 gw1415) rfl rfl rfl (by decide +kernel) ⟨Nat.le_of_ble_eq_true rfl, Nat.le_of_ble_eq_true rfl⟩) ⟨kw_blind (Zk_ok g), va_recv hK hst.1 rfl (WS_o54 g σ), kw_pre (Zk_ok g) hK hZ hA hst⟩ rfl rfl hl.1 rfl (lv_room (Nat.le_of_ble_eq_true rfl)) d_Md_says_110 ⟨Nat.le_of_ble_eq_true rfl, Nat.le_of_ble_eq_true rfl⟩) hst hA (fun r1 σ1 H locs h hst => ?_)
          exact kw_zret hx hb hr hlocks hst h d_Md_says_113
      · replace h := h.2 hc
        refine lv_aload_n hx hb d_Md_says_31 rfl (lv_at hl 0 rfl) ?_
        refine va_get (D := D) (ci := 10) (C := R_Md) (T := T_Md) (N := 46) hx hb hts in_Md hown hK hst.1 54 (WS_o54 g σ) rfl 5 (by decide) (hts _ gw1069) (fun _ h9 => h9) rfl d_Md_says_32 ?_
        refine lv_iload_n hx hb d_Md_says_35 rfl (lv_at hl 3 rfl) ?_
        obtain ⟨hi, h⟩ := h
        refine va_iald hx hb hK hst.1 59 0 (WS_a59 g σ) rfl hi d_Md_says_36 ?_
        refine lv_iconst (v := (5 : Int32)) hx hb d_Md_says_37 (by decide) ?_
        refine lv_icmp_eq (tgt := 45) hx hb d_Md_says_38 (by decide) (fun hc => ?_) (fun hc => ?_)
        · replace h := h.1 hc
          refine lv_iconst (v := (0 : Int32)) hx hb d_Md_says_45 (by decide) ?_
          refine lv_istore hx hb d_Md_says_46 hl (by decide) rfl (fun ls hl => ?_)
          have hl : lv_has ls 7 [(5, .int (0 : Int32)), (0, .ref (g.1 54)), (1, .int x1), (2, .int x2), (3, .int x3), (4, .int x4)] := hl
          refine lv_aload_n hx hb d_Md_says_48 rfl (lv_at hl 1 rfl) ?_
          refine va_get (D := D) (ci := 10) (C := R_Md) (T := T_Md) (N := 46) hx hb hts in_Md hown hK hst.1 54 (WS_o54 g σ) rfl 11 (by decide) (hts _ gw1075) (fun _ h9 => h9) rfl d_Md_says_49 ?_
          refine lv_iload_n hx hb d_Md_says_52 rfl (lv_at hl 4 rfl) ?_
          obtain ⟨hi, h⟩ := h
          refine va_iald hx hb hK hst.1 65 0 (WS_a65 g σ) rfl hi d_Md_says_53 ?_
          refine lv_istore hx hb d_Md_says_54 hl (by decide) rfl (fun ls hl => ?_)
          have hl : lv_has ls 7 [(6, .int (σ.1 65 x3.toNatClampNeg)), (5, .int (0 : Int32)), (0, .ref (g.1 54)), (1, .int x1), (2, .int x2), (3, .int x3), (4, .int x4)] := hl
          exact j1 x4 (0 : Int32) (σ.1 65 x3.toNatClampNeg) σ _ _ _ (lv_sub hl [2, 6, 1, 0] rfl) hst h
        · replace h := h.2 hc
          refine lv_iconst (v := (1 : Int32)) hx hb d_Md_says_41 (by decide) ?_
          refine lv_goto (tgt := 46) hx hb d_Md_says_42 (by decide) ?_
          refine lv_istore hx hb d_Md_says_46 hl (by decide) rfl (fun ls hl => ?_)
          have hl : lv_has ls 7 [(5, .int (1 : Int32)), (0, .ref (g.1 54)), (1, .int x1), (2, .int x2), (3, .int x3), (4, .int x4)] := hl
          refine lv_aload_n hx hb d_Md_says_48 rfl (lv_at hl 1 rfl) ?_
          refine va_get (D := D) (ci := 10) (C := R_Md) (T := T_Md) (N := 46) hx hb hts in_Md hown hK hst.1 54 (WS_o54 g σ) rfl 11 (by decide) (hts _ gw1075) (fun _ h9 => h9) rfl d_Md_says_49 ?_
          refine lv_iload_n hx hb d_Md_says_52 rfl (lv_at hl 4 rfl) ?_
          obtain ⟨hi, h⟩ := h
          refine va_iald hx hb hK hst.1 65 0 (WS_a65 g σ) rfl hi d_Md_says_53 ?_
          refine lv_istore hx hb d_Md_says_54 hl (by decide) rfl (fun ls hl => ?_)
          have hl : lv_has ls 7 [(6, .int (σ.1 65 x3.toNatClampNeg)), (5, .int (1 : Int32)), (0, .ref (g.1 54)), (1, .int x1), (2, .int x2), (3, .int x3), (4, .int x4)] := hl
          exact j1 x4 (1 : Int32) (σ.1 65 x3.toNatClampNeg) σ _ _ _ (lv_sub hl [2, 6, 1, 0] rfl) hst h
    · replace h := h.2 hc
      refine lv_aload_n hx hb d_Md_says_18 rfl (lv_at hl 0 rfl) ?_
      refine lv_iload_n hx hb d_Md_says_19 rfl (lv_at hl 3 rfl) ?_
      refine lv_iload hx hb d_Md_says_20 (lv_at hl 4 rfl) ?_
      refine kw_calli (va_runV (As := [.int x3, .int x4]) (rest := []) (b := g.1 54) ⟨hx, hb, hml, hown, hts⟩ (c_Md_isEqual l x3 x4 h) (cwV 2 hts (gd_v gw1369 gw1371 gs70 gw15 gw1372) rfl rfl rfl (by decide +kernel) ⟨Nat.le_of_ble_eq_true rfl, Nat.le_of_ble_eq_true rfl⟩) ⟨kw_blind (Zk_ok g), va_recv hK hst.1 rfl (WS_o54 g σ), kw_pre (Zk_ok g) hK hZ hA hst⟩ rfl rfl hl.1 rfl (lv_room (Nat.le_of_ble_eq_true rfl)) d_Md_says_22 ⟨Nat.le_of_ble_eq_true rfl, Nat.le_of_ble_eq_true rfl⟩) hst hA (fun r1 σ1 H locs h hst => ?_)
      exact kw_zret hx hb hr hlocks hst h d_Md_says_25
  · replace h := h.2 hc
    refine lv_aload_n hx hb d_Md_says_5 rfl (lv_at hl 0 rfl) ?_
    refine lv_iload_n hx hb d_Md_says_6 rfl (lv_at hl 3 rfl) ?_
    refine lv_iload hx hb d_Md_says_7 (lv_at hl 4 rfl) ?_
    refine kw_calli (va_runV (As := [.int x3, .int x4]) (rest := []) (b := g.1 54) ⟨hx, hb, hml, hown, hts⟩ (c_Md_typed l x3 x4 h) (cwV 2 hts (gd_v gw1404 gw1406 gs78 gw15 gw1407) rfl rfl rfl (by decide +kernel) ⟨Nat.le_of_ble_eq_true rfl, Nat.le_of_ble_eq_true rfl⟩) ⟨kw_blind (Zk_ok g), va_recv hK hst.1 rfl (WS_o54 g σ), kw_pre (Zk_ok g) hK hZ hA hst⟩ rfl rfl hl.1 rfl (lv_room (Nat.le_of_ble_eq_true rfl)) d_Md_says_9 ⟨Nat.le_of_ble_eq_true rfl, Nat.le_of_ble_eq_true rfl⟩) hst hA (fun r1 σ1 H locs h hst => ?_)
    exact kw_zret hx hb hr hlocks hst h d_Md_says_12
set_option maxRecDepth 100000 in
set_option maxHeartbeats 4000000 in
theorem b_Md_says_1 {p : Program} {l : Launch} {e : Env} {s : State} {m : MethodId} {args : Array Value} {below : List Frame} {meth : Method} {c : Code} {D : va_G} {g : Gm} {A : Nat → Prop} {post : Int32 → Sg → Prop} {F : Nat → Int32 → Int32 → Int32 → Int32 → Int32 → Int32 → Sg → Prop} (C : kC p s m args meth c k_Md_says 7 (some .boolean) GW R_Md D vwCl g (Zk g) A) (j1 : J_Md_says_1 p l e s m args below meth c D g A post F) (x4 : Int32) (x5 : Int32) (x6 : Int32) (σ : Sg) (H : Heap) (locs : List Loc) (ls : Array Slot) (hl : lv_has ls 7 [(0, .ref (g.1 54)), (4, .int x4), (5, .int x5), (6, .int x6)]) (hst : Wst D vwCl (WS g) A s σ H locs) (h : wb_Md_says_1 F post x4 x5 x6 σ) : W p l e { frames := 5, cells := 0, slots := 0, locals := 126 } s m args below meth c H locs 0 0 (MQ below (QiW D vwCl (WS g) post A) args s 0 0 A) (F0 m 56 ls []) := by
  obtain ⟨hx, hb, hr, hml, hown, hts, hlocks, hK, hZ, hA⟩ := C
  unfold wb_Md_says_1 at h
  refine lv_iload hx hb d_Md_says_56 (lv_at hl 3 rfl) ?_
  refine lv_if_lt (tgt := 96) hx hb d_Md_says_58 (by decide) (fun hc => ?_) (fun hc => ?_)
  · replace h := h.1 hc
    refine lv_iload hx hb d_Md_says_96 (lv_at hl 2 rfl) ?_
    exact kw_zret hx hb hr hlocks hst h d_Md_says_98
  · replace h := h.2 hc
    refine lv_iload hx hb d_Md_says_61 (lv_at hl 2 rfl) ?_
    refine lv_if_ne (tgt := 77) hx hb d_Md_says_63 (by decide) (fun hc => ?_) (fun hc => ?_)
    · replace h := h.1 hc
      refine lv_iconst (v := (1 : Int32)) hx hb d_Md_says_77 (by decide) ?_
      refine lv_goto (tgt := 82) hx hb d_Md_says_78 (by decide) ?_
      refine lv_istore hx hb d_Md_says_82 hl (by decide) rfl (fun ls hl => ?_)
      have hl : lv_has ls 7 [(5, .int (1 : Int32)), (0, .ref (g.1 54)), (4, .int x4), (6, .int x6)] := hl
      refine lv_aload_n hx hb d_Md_says_84 rfl (lv_at hl 1 rfl) ?_
      refine va_get (D := D) (ci := 10) (C := R_Md) (T := T_Md) (N := 46) hx hb hts in_Md hown hK hst.1 54 (WS_o54 g σ) rfl 12 (by decide) (hts _ gw1076) (fun _ h9 => h9) rfl d_Md_says_85 ?_
      refine lv_iload hx hb d_Md_says_88 (lv_at hl 3 rfl) ?_
      obtain ⟨hi, h⟩ := h
      refine va_iald hx hb hK hst.1 66 0 (WS_a66 g σ) rfl hi d_Md_says_90 ?_
      refine lv_istore hx hb d_Md_says_91 hl (by decide) rfl (fun ls hl => ?_)
      have hl : lv_has ls 7 [(6, .int (σ.1 66 x6.toNatClampNeg)), (5, .int (1 : Int32)), (0, .ref (g.1 54)), (4, .int x4)] := hl
      refine lv_goto (tgt := 56) hx hb d_Md_says_93 (by decide) ?_
      exact j1 x4 (1 : Int32) (σ.1 66 x6.toNatClampNeg) σ _ _ _ (lv_sub hl [2, 3, 1, 0] rfl) hst h
    · replace h := h.2 hc
      refine lv_aload_n hx hb d_Md_says_66 rfl (lv_at hl 0 rfl) ?_
      refine lv_iload hx hb d_Md_says_67 (lv_at hl 3 rfl) ?_
      refine lv_iload hx hb d_Md_says_69 (lv_at hl 1 rfl) ?_
      refine kw_calli (va_runV (As := [.int x6, .int x4]) (rest := []) (b := g.1 54) ⟨hx, hb, hml, hown, hts⟩ (c_Md_isEqual l x6 x4 h) (cwV 2 hts (gd_v gw1369 gw1371 gs70 gw15 gw1372) rfl rfl rfl (by decide +kernel) ⟨Nat.le_of_ble_eq_true rfl, Nat.le_of_ble_eq_true rfl⟩) ⟨kw_blind (Zk_ok g), va_recv hK hst.1 rfl (WS_o54 g σ), kw_pre (Zk_ok g) hK hZ hA hst⟩ rfl rfl hl.1 rfl (lv_room (Nat.le_of_ble_eq_true rfl)) d_Md_says_71 ⟨Nat.le_of_ble_eq_true rfl, Nat.le_of_ble_eq_true rfl⟩) hst hA (fun r1 σ1 H locs h hst => ?_)
      refine lv_if_eq (tgt := 81) hx hb d_Md_says_74 (by decide) (fun hc => ?_) (fun hc => ?_)
      · replace h := h.1 hc
        refine lv_iconst (v := (0 : Int32)) hx hb d_Md_says_81 (by decide) ?_
        refine lv_istore hx hb d_Md_says_82 hl (by decide) rfl (fun ls hl => ?_)
        have hl : lv_has ls 7 [(5, .int (0 : Int32)), (0, .ref (g.1 54)), (4, .int x4), (6, .int x6)] := hl
        refine lv_aload_n hx hb d_Md_says_84 rfl (lv_at hl 1 rfl) ?_
        refine va_get (D := D) (ci := 10) (C := R_Md) (T := T_Md) (N := 46) hx hb hts in_Md hown hK hst.1 54 (WS_o54 g σ1) rfl 12 (by decide) (hts _ gw1076) (fun _ h9 => h9) rfl d_Md_says_85 ?_
        refine lv_iload hx hb d_Md_says_88 (lv_at hl 3 rfl) ?_
        obtain ⟨hi, h⟩ := h
        refine va_iald hx hb hK hst.1 66 0 (WS_a66 g σ1) rfl hi d_Md_says_90 ?_
        refine lv_istore hx hb d_Md_says_91 hl (by decide) rfl (fun ls hl => ?_)
        have hl : lv_has ls 7 [(6, .int (σ1.1 66 x6.toNatClampNeg)), (5, .int (0 : Int32)), (0, .ref (g.1 54)), (4, .int x4)] := hl
        refine lv_goto (tgt := 56) hx hb d_Md_says_93 (by decide) ?_
        exact j1 x4 (0 : Int32) (σ1.1 66 x6.toNatClampNeg) σ1 _ _ _ (lv_sub hl [2, 3, 1, 0] rfl) hst h
      · replace h := h.2 hc
        refine lv_iconst (v := (1 : Int32)) hx hb d_Md_says_77 (by decide) ?_
        refine lv_goto (tgt := 82) hx hb d_Md_says_78 (by decide) ?_
        refine lv_istore hx hb d_Md_says_82 hl (by decide) rfl (fun ls hl => ?_)
        have hl : lv_has ls 7 [(5, .int (1 : Int32)), (0, .ref (g.1 54)), (4, .int x4), (6, .int x6)] := hl
        refine lv_aload_n hx hb d_Md_says_84 rfl (lv_at hl 1 rfl) ?_
        refine va_get (D := D) (ci := 10) (C := R_Md) (T := T_Md) (N := 46) hx hb hts in_Md hown hK hst.1 54 (WS_o54 g σ1) rfl 12 (by decide) (hts _ gw1076) (fun _ h9 => h9) rfl d_Md_says_85 ?_
        refine lv_iload hx hb d_Md_says_88 (lv_at hl 3 rfl) ?_
        obtain ⟨hi, h⟩ := h
        refine va_iald hx hb hK hst.1 66 0 (WS_a66 g σ1) rfl hi d_Md_says_90 ?_
        refine lv_istore hx hb d_Md_says_91 hl (by decide) rfl (fun ls hl => ?_)
        have hl : lv_has ls 7 [(6, .int (σ1.1 66 x6.toNatClampNeg)), (5, .int (1 : Int32)), (0, .ref (g.1 54)), (4, .int x4)] := hl
        refine lv_goto (tgt := 56) hx hb d_Md_says_93 (by decide) ?_
        exact j1 x4 (1 : Int32) (σ1.1 66 x6.toNatClampNeg) σ1 _ _ _ (lv_sub hl [2, 3, 1, 0] rfl) hst h
set_option maxRecDepth 100000 in
set_option maxHeartbeats 4000000 in
theorem a_Md_says {p : Program} {l : Launch} {e : Env} {s : State} {m : MethodId} {args : Array Value} {below : List Frame} {meth : Method} {c : Code} {D : va_G} {g : Gm} {A : Nat → Prop} {post : Int32 → Sg → Prop} (C : kC p s m args meth c k_Md_says 7 (some .boolean) GW R_Md D vwCl g (Zk g) A) : ∀ n : Nat, J_Md_says_1 p l e s m args below meth c D g A post (wp_Md_says post n) := by
  intro n
  induction n with
  | zero => exact fun _ _ _ _ _ _ _ _ _ h => h.elim
  | succ n ih => exact fun x4 x5 x6 σ H locs ls hl hst h => b_Md_says_1 (F := wp_Md_says post n) C (ih) x4 x5 x6 σ H locs ls hl hst h
set_option maxRecDepth 100000 in
set_option maxHeartbeats 4000000 in
theorem c_Md_says (l : Launch) {D : va_G} {g : Gm} {sz : Nat} (x1 : Int32) (x2 : Int32) (x3 : Int32) (x4 : Int32) {σ : Sg} {post : Int32 → Sg → Prop} (h : wq_Md_says x1 x2 x3 x4 σ post) : Met l y_Md_says (.code y_Md_says k_Md_says 7 (some .boolean) :: GW) { frames := 5, cells := 0, slots := 0, locals := 126 } (PcW D vwCl (WS g) g (Zk g) σ sz [.ref (g.1 54), .int x1, .int x2, .int x3, .int x4]) (QiW D vwCl (WS g) post (va_A (WS g σ) sz)) 0 0 (va_A (WS g σ) sz) := by
  refine kw_entry (own := R_Md) (by decide) rfl rfl (Nat.le_of_ble_eq_true rfl) ?_
  intro p e s m below meth c ls hsz C hin hl hst
  obtain ⟨n, h⟩ := h
  cases n with
  | zero => exact h.elim
  | succ n =>
    have ih := a_Md_says (l := l) (e := e) (below := below) (post := post) C n
    exact b_Md_says_0 (F := wp_Md_says post n) C (ih) x1 x2 x3 x4 σ _ _ ls hl hst h
