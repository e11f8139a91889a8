/-! SchemaDesk$Reader.refresh ()V -/
abbrev k_Rd_refresh : ByteArray := prog_5_method_2_code
abbrev y_Rd_refresh : MethodName := ⟨"SchemaDesk$Reader", "refresh", "()V"⟩
theorem d_Rd_refresh_0 : decode k_Rd_refresh 0 = .ok (.aload_n 0, 1) := by decide +kernel
theorem d_Rd_refresh_1 : decode k_Rd_refresh 1 = .ok (.getfield 26, 3) := by decide +kernel
theorem d_Rd_refresh_4 : decode k_Rd_refresh 4 = .ok (.ifCond .eq 4, 3) := by decide +kernel
theorem d_Rd_refresh_7 : decode k_Rd_refresh 7 = .ok (.return_, 1) := by decide +kernel
theorem d_Rd_refresh_8 : decode k_Rd_refresh 8 = .ok (.aload_n 0, 1) := by decide +kernel
theorem d_Rd_refresh_9 : decode k_Rd_refresh 9 = .ok (.iconst 1, 1) := by decide +kernel
theorem d_Rd_refresh_10 : decode k_Rd_refresh 10 = .ok (.putfield 26, 3) := by decide +kernel
theorem d_Rd_refresh_13 : decode k_Rd_refresh 13 = .ok (.aload_n 0, 1) := by decide +kernel
theorem d_Rd_refresh_14 : decode k_Rd_refresh 14 = .ok (.getfield 9, 3) := by decide +kernel
theorem d_Rd_refresh_17 : decode k_Rd_refresh 17 = .ok (.invokevirtual 30, 3) := by decide +kernel
theorem d_Rd_refresh_20 : decode k_Rd_refresh 20 = .ok (.aload_n 0, 1) := by decide +kernel
theorem d_Rd_refresh_21 : decode k_Rd_refresh 21 = .ok (.iconst 0, 1) := by decide +kernel
theorem d_Rd_refresh_22 : decode k_Rd_refresh 22 = .ok (.putfield 33, 3) := by decide +kernel
theorem d_Rd_refresh_25 : decode k_Rd_refresh 25 = .ok (.aload_n 0, 1) := by decide +kernel
theorem d_Rd_refresh_26 : decode k_Rd_refresh 26 = .ok (.invokevirtual 37, 3) := by decide +kernel
theorem d_Rd_refresh_29 : decode k_Rd_refresh 29 = .ok (.iconst 0, 1) := by decide +kernel
theorem d_Rd_refresh_30 : decode k_Rd_refresh 30 = .ok (.istore_n 1, 1) := by decide +kernel
theorem d_Rd_refresh_31 : decode k_Rd_refresh 31 = .ok (.iload_n 1, 1) := by decide +kernel
theorem d_Rd_refresh_32 : decode k_Rd_refresh 32 = .ok (.aload_n 0, 1) := by decide +kernel
theorem d_Rd_refresh_33 : decode k_Rd_refresh 33 = .ok (.getfield 21, 3) := by decide +kernel
theorem d_Rd_refresh_36 : decode k_Rd_refresh 36 = .ok (.getfield 40, 3) := by decide +kernel
theorem d_Rd_refresh_39 : decode k_Rd_refresh 39 = .ok (.if_icmp .ge 40, 3) := by decide +kernel
theorem d_Rd_refresh_42 : decode k_Rd_refresh 42 = .ok (.aload_n 0, 1) := by decide +kernel
theorem d_Rd_refresh_43 : decode k_Rd_refresh 43 = .ok (.getfield 33, 3) := by decide +kernel
theorem d_Rd_refresh_46 : decode k_Rd_refresh 46 = .ok (.aload_n 0, 1) := by decide +kernel
theorem d_Rd_refresh_47 : decode k_Rd_refresh 47 = .ok (.getfield 21, 3) := by decide +kernel
theorem d_Rd_refresh_50 : decode k_Rd_refresh 50 = .ok (.getfield 40, 3) := by decide +kernel
theorem d_Rd_refresh_53 : decode k_Rd_refresh 53 = .ok (.if_icmp .ge 26, 3) := by decide +kernel
theorem d_Rd_refresh_56 : decode k_Rd_refresh 56 = .ok (.aload_n 0, 1) := by decide +kernel
theorem d_Rd_refresh_57 : decode k_Rd_refresh 57 = .ok (.iconst 0, 1) := by decide +kernel
theorem d_Rd_refresh_58 : decode k_Rd_refresh 58 = .ok (.invokevirtual 45, 3) := by decide +kernel
theorem d_Rd_refresh_61 : decode k_Rd_refresh 61 = .ok (.ifCond .ne 18, 3) := by decide +kernel
theorem d_Rd_refresh_64 : decode k_Rd_refresh 64 = .ok (.aload_n 0, 1) := by decide +kernel
theorem d_Rd_refresh_65 : decode k_Rd_refresh 65 = .ok (.iconst 0, 1) := by decide +kernel
theorem d_Rd_refresh_66 : decode k_Rd_refresh 66 = .ok (.invokevirtual 49, 3) := by decide +kernel
theorem d_Rd_refresh_69 : decode k_Rd_refresh 69 = .ok (.aload_n 0, 1) := by decide +kernel
theorem d_Rd_refresh_70 : decode k_Rd_refresh 70 = .ok (.invokevirtual 37, 3) := by decide +kernel
theorem d_Rd_refresh_73 : decode k_Rd_refresh 73 = .ok (.iinc 1 1, 3) := by decide +kernel
theorem d_Rd_refresh_76 : decode k_Rd_refresh 76 = .ok (.goto (-45), 3) := by decide +kernel
theorem d_Rd_refresh_79 : decode k_Rd_refresh 79 = .ok (.aload_n 0, 1) := by decide +kernel
theorem d_Rd_refresh_80 : decode k_Rd_refresh 80 = .ok (.getfield 33, 3) := by decide +kernel
theorem d_Rd_refresh_83 : decode k_Rd_refresh 83 = .ok (.aload_n 0, 1) := by decide +kernel
theorem d_Rd_refresh_84 : decode k_Rd_refresh 84 = .ok (.getfield 21, 3) := by decide +kernel
theorem d_Rd_refresh_87 : decode k_Rd_refresh 87 = .ok (.getfield 40, 3) := by decide +kernel
theorem d_Rd_refresh_90 : decode k_Rd_refresh 90 = .ok (.if_icmp .lt 16, 3) := by decide +kernel
theorem d_Rd_refresh_93 : decode k_Rd_refresh 93 = .ok (.aload_n 0, 1) := by decide +kernel
theorem d_Rd_refresh_94 : decode k_Rd_refresh 94 = .ok (.getfield 9, 3) := by decide +kernel
theorem d_Rd_refresh_97 : decode k_Rd_refresh 97 = .ok (.iconst 1, 1) := by decide +kernel
theorem d_Rd_refresh_98 : decode k_Rd_refresh 98 = .ok (.aload_n 0, 1) := by decide +kernel
theorem d_Rd_refresh_99 : decode k_Rd_refresh 99 = .ok (.getfield 33, 3) := by decide +kernel
theorem d_Rd_refresh_102 : decode k_Rd_refresh 102 = .ok (.invokevirtual 53, 3) := by decide +kernel
theorem d_Rd_refresh_105 : decode k_Rd_refresh 105 = .ok (.return_, 1) := by decide +kernel
theorem d_Rd_refresh_106 : decode k_Rd_refresh 106 = .ok (.aload_n 0, 1) := by decide +kernel
theorem d_Rd_refresh_107 : decode k_Rd_refresh 107 = .ok (.iconst (-1), 1) := by decide +kernel
theorem d_Rd_refresh_108 : decode k_Rd_refresh 108 = .ok (.iconst (-1), 1) := by decide +kernel
theorem d_Rd_refresh_109 : decode k_Rd_refresh 109 = .ok (.iconst 0, 1) := by decide +kernel
theorem d_Rd_refresh_110 : decode k_Rd_refresh 110 = .ok (.invokevirtual 57, 3) := by decide +kernel
theorem d_Rd_refresh_113 : decode k_Rd_refresh 113 = .ok (.aload_n 0, 1) := by decide +kernel
theorem d_Rd_refresh_114 : decode k_Rd_refresh 114 = .ok (.invokevirtual 37, 3) := by decide +kernel
theorem d_Rd_refresh_117 : decode k_Rd_refresh 117 = .ok (.aload_n 0, 1) := by decide +kernel
theorem d_Rd_refresh_118 : decode k_Rd_refresh 118 = .ok (.getfield 33, 3) := by decide +kernel
theorem d_Rd_refresh_121 : decode k_Rd_refresh 121 = .ok (.aload_n 0, 1) := by decide +kernel
theorem d_Rd_refresh_122 : decode k_Rd_refresh 122 = .ok (.getfield 21, 3) := by decide +kernel
theorem d_Rd_refresh_125 : decode k_Rd_refresh 125 = .ok (.getfield 40, 3) := by decide +kernel
theorem d_Rd_refresh_128 : decode k_Rd_refresh 128 = .ok (.if_icmp .ge 15, 3) := by decide +kernel
theorem d_Rd_refresh_131 : decode k_Rd_refresh 131 = .ok (.aload_n 0, 1) := by decide +kernel
theorem d_Rd_refresh_132 : decode k_Rd_refresh 132 = .ok (.getfield 9, 3) := by decide +kernel
theorem d_Rd_refresh_135 : decode k_Rd_refresh 135 = .ok (.iconst 2, 1) := by decide +kernel
theorem d_Rd_refresh_136 : decode k_Rd_refresh 136 = .ok (.aload_n 0, 1) := by decide +kernel
theorem d_Rd_refresh_137 : decode k_Rd_refresh 137 = .ok (.getfield 33, 3) := by decide +kernel
theorem d_Rd_refresh_140 : decode k_Rd_refresh 140 = .ok (.invokevirtual 53, 3) := by decide +kernel
theorem d_Rd_refresh_143 : decode k_Rd_refresh 143 = .ok (.return_, 1) := by decide +kernel
theorem gw210 : (Jvm.Cond.fieldLink "SchemaDesk$Reader" (26 : Nat) "SchemaDesk$Reader" "fresh" "Z") ∈ GW := gw_t1 (List.mem_of_getElem? (i := 210) rfl) rfl
theorem gw613 : (Jvm.Cond.methodLink "SchemaDesk$Reader" (30 : Nat) ({ cls := "SchemaDesk$Tree", name := "clear", desc := "()V" } : Jvm.MethodName)) ∈ GW := gw_t3 (List.mem_of_getElem? (i := 133) rfl) rfl
theorem gw614 : (Jvm.Cond.instanceMethod ({ cls := "SchemaDesk$Tree", name := "clear", desc := "()V" } : Jvm.MethodName)) ∈ GW := gw_t3 (List.mem_of_getElem? (i := 134) rfl) rfl
theorem gw615 : (Jvm.Cond.selects "SchemaDesk$Tree" ({ cls := "SchemaDesk$Tree", name := "clear", desc := "()V" } : Jvm.MethodName) ({ cls := "SchemaDesk$Tree", name := "clear", desc := "()V" } : Jvm.MethodName)) ∈ GW := gw_t3 (List.mem_of_getElem? (i := 135) rfl) rfl
theorem gw616 : (Jvm.Cond.code ({ cls := "SchemaDesk$Tree", name := "clear", desc := "()V" } : Jvm.MethodName) prog_8_method_2_code (1 : Nat) (Option.none : Option Jvm.ClassFile.FieldType)) ∈ GW := gw_t3 (List.mem_of_getElem? (i := 136) rfl) rfl
def wb_Rd_refresh_0 (b : Nat) (F : Nat → Int32 → Sg → Prop) (post : Sg → Prop) (σ : Sg) : Prop := (((σ.1 (b + 12) 1) = 0 → (narrow .boolean (.int (1 : Int32)) = .int (1 : Int32) ∧ fits .boolean (.int (1 : Int32)) = true ∧ (∀ σ1, σ1 = si σ (b + 12) 1 (1 : Int32) → (wq_Tr_clear b σ1 (fun σ2 => (∀ σ3, σ3 = si σ2 (b + 12) 4 (0 : Int32) → (wq_Rd_passBlanks b σ3 (fun σ4 => F 1 (0 : Int32) σ4)))))))) ∧ (¬ (σ.1 (b + 12) 1) = 0 → post σ))
def wb_Rd_refresh_1 (b : Nat) (F : Nat → Int32 → Sg → Prop) (post : Sg → Prop) (x1 : Int32) (σ : Sg) : Prop := (((σ.1 (b + 10) 1) ≤ x1 → F 2 0 σ) ∧ (¬ (σ.1 (b + 10) 1) ≤ x1 → (((σ.1 (b + 10) 1) ≤ (σ.1 (b + 12) 4) → F 2 0 σ) ∧ (¬ (σ.1 (b + 10) 1) ≤ (σ.1 (b + 12) 4) → (wq_Rd_valueBegins b (0 : Int32) σ (fun r1 σ1 => ((¬ r1 = 0 → F 2 0 σ1) ∧ (r1 = 0 → (wq_Rd_passWrong b (0 : Int32) σ1 (fun σ2 => (wq_Rd_passBlanks b σ2 (fun σ3 => F 1 (x1 + 1) σ3))))))))))))
def wb_Rd_refresh_2 (b : Nat) (F : Nat → Int32 → Sg → Prop) (post : Sg → Prop) (σ : Sg) : Prop := (((σ.1 (b + 12) 4) < (σ.1 (b + 10) 1) → (wq_Rd_readValue b (-1 : Int32) (-1 : Int32) (0 : Int32) σ (fun σ1 => (wq_Rd_passBlanks b σ1 (fun σ2 => (((σ2.1 (b + 10) 1) ≤ (σ2.1 (b + 12) 4) → post σ2) ∧ (¬ (σ2.1 (b + 10) 1) ≤ (σ2.1 (b + 12) 4) → (wq_Tr_blame b (2 : Int32) (σ2.1 (b + 12) 4) σ2 (fun σ3 => post σ3))))))))) ∧ (¬ (σ.1 (b + 12) 4) < (σ.1 (b + 10) 1) → (wq_Tr_blame b (1 : Int32) (σ.1 (b + 12) 4) σ (fun σ1 => post σ1))))
def wp_Rd_refresh (b : Nat) (post : Sg → Prop) : Nat → Nat → Int32 → Sg → Prop
  | 0, _, _, _ => False
  | n + 1, k, x1, σ => match k with
    | 0 => wb_Rd_refresh_0 b (wp_Rd_refresh b post n) post σ
    | 1 => wb_Rd_refresh_1 b (wp_Rd_refresh b post n) post x1 σ
    | 2 => wb_Rd_refresh_2 b (wp_Rd_refresh b post n) post σ
    | _ => False
def wq_Rd_refresh (b : Nat) (σ : Sg) (post : Sg → Prop) : Prop := ∃ n, wp_Rd_refresh b post n 0 0 σ
def J_Rd_refresh_0_1 (p : Program) (l : Launch) (e : Env) (s : State) (m : MethodId) (args : Array Value) (below : List Frame) (meth : Method) (c : Code) (D : va_G) (g : Gm) (A : Nat → Prop) (post : Sg → Prop) (F : Nat → Int32 → Sg → Prop) : Prop := ∀ (x1 : Int32) (σ : Sg) (H : Heap) (locs : List Loc) (ls : Array Slot), lv_has ls 2 [(0, .ref (g.1 12)), (1, .int x1)] → Wst D vwCl (WS g) A s σ H locs → F 1 x1 σ → W p l e { frames := 35, cells := 0, slots := 0, locals := 885 } s m args below meth c H locs 0 0 (MQ below (QvW D vwCl (WS g) post A) args s 0 0 A) (F0 m 31 ls [])
def J_Rd_refresh_0_2 (p : Program) (l : Launch) (e : Env) (s : State) (m : MethodId) (args : Array Value) (below : List Frame) (meth : Method) (c : Code) (D : va_G) (g : Gm) (A : Nat → Prop) (post : Sg → Prop) (F : Nat → Int32 → Sg → Prop) : Prop := ∀ (σ : Sg) (H : Heap) (locs : List Loc) (ls : Array Slot), lv_has ls 2 [(0, .ref (g.1 12))] → Wst D vwCl (WS g) A s σ H locs → F 2 0 σ → W p l e { frames := 35, cells := 0, slots := 0, locals := 885 } s m args below meth c H locs 0 0 (MQ below (QvW D vwCl (WS g) post A) args s 0 0 A) (F0 m 79 ls [])
set_option maxRecDepth 100000 in
set_option maxHeartbeats 4000000 in
theorem b_Rd_refresh_0_0 {p : Program} {l : Launch} {e : Env} {s : State} {m : MethodId} {args : Array Value} {below : List Frame} {meth : Method} {c : Code} {D : va_G} {g : Gm} {A : Nat → Prop} {post : Sg → Prop} {F : Nat → Int32 → Sg → Prop} (C : kC p s m args meth c k_Rd_refresh 2 (none) GW R_Rd D vwCl g (Zk g) A) (j1 : J_Rd_refresh_0_1 p l e s m args below meth c D g A post F) (σ : Sg) (H : Heap) (locs : List Loc) (ls : Array Slot) (hl : lv_has ls 2 [(0, .ref (g.1 12))]) (hst : Wst D vwCl (WS g) A s σ H locs) (h : wb_Rd_refresh_0 0 F post σ) : W p l e { frames := 35, cells := 0, slots := 0, locals := 885 } s m args below meth c H locs 0 0 (MQ below (QvW D vwCl (WS g) post A) args s 0 0 A) (F0 m 0 ls []) := by
  obtain ⟨hx, hb, hr, hml, hown, hts, hlocks, hK, hZ, hA⟩ := C
  unfold wb_Rd_refresh_0 at h
  refine lv_aload_n hx hb d_Rd_refresh_0 rfl (lv_at hl 0 rfl) ?_
  refine va_get (D := D) (ci := 2) (C := R_Rd) (T := T_Rd) (N := 5) hx hb hts in_Rd hown hK hst.1 12 (WS_o12 g σ) rfl 1 (by decide) (hts _ gw210) (fun _ h9 => h9) rfl d_Rd_refresh_1 ?_
  refine lv_if_eq (tgt := 8) hx hb d_Rd_refresh_4 (by decide) (fun hc => ?_) (fun hc => ?_)
  · replace h := h.1 hc
    refine lv_aload_n hx hb d_Rd_refresh_8 rfl (lv_at hl 0 rfl) ?_
    refine lv_iconst (v := (1 : Int32)) hx hb d_Rd_refresh_9 (by decide) ?_
    obtain ⟨hn, hf, h⟩ := h
    refine kw_put (D := D) (ci := 2) (ty := .boolean) (C := R_Rd) (T := T_Rd) (N := 5) hx hb hts in_Rd ty_Rd ty_Rd_ok nm_Rd hown hK hst 12 (WS_o12 g σ) rfl 1 (by decide) (hts _ gw210) (fun _ h9 => h9) rfl (by decide +kernel) hn hf (Nat.le_of_ble_eq_true rfl) (WS_p12_1 g σ _) d_Rd_refresh_10 (fun σ1 H locs e1 hst => ?_)
    replace h := h σ1 e1
    refine lv_aload_n hx hb d_Rd_refresh_13 rfl (lv_at hl 0 rfl) ?_
    refine va_get (D := D) (ci := 2) (C := R_Rd) (T := T_Rd) (N := 5) hx hb hts in_Rd hown hK hst.1 12 (WS_o12 g σ1) rfl 0 (by decide) (hts _ gw208) (fun _ h9 => h9) rfl d_Rd_refresh_14 ?_
    refine kw_callv (va_runV (As := []) (rest := []) (b := g.1 0) ⟨hx, hb, hml, hown, hts⟩ (c_Tr_clear_0 l h) (cwV 0 hts (gd_v gw613 gw614 gw615 gw7 gw616) rfl rfl rfl (by decide +kernel) ⟨Nat.le_of_ble_eq_true rfl, Nat.le_of_ble_eq_true rfl⟩) ⟨kw_blind (Zk_ok g), va_recv hK hst.1 rfl (WS_o0 g σ1), kw_pre (Zk_ok g) hK hZ hA hst⟩ rfl rfl hl.1 rfl (lv_room (Nat.le_of_ble_eq_true rfl)) d_Rd_refresh_17 ⟨Nat.le_of_ble_eq_true rfl, Nat.le_of_ble_eq_true rfl⟩) hst hA (fun σ2 H locs h hst => ?_)
    refine lv_aload_n hx hb d_Rd_refresh_20 rfl (lv_at hl 0 rfl) ?_
    refine lv_iconst (v := (0 : Int32)) hx hb d_Rd_refresh_21 (by decide) ?_
    refine kw_put (D := D) (ci := 2) (ty := .int) (C := R_Rd) (T := T_Rd) (N := 5) hx hb hts in_Rd ty_Rd ty_Rd_ok nm_Rd hown hK hst 12 (WS_o12 g σ2) rfl 4 (by decide) (hts _ gw214) (fun _ h9 => h9) rfl (by decide +kernel) rfl rfl (Nat.le_of_ble_eq_true rfl) (WS_p12_4 g σ2 _) d_Rd_refresh_22 (fun σ3 H locs e3 hst => ?_)
    replace h := h σ3 e3
    refine lv_aload_n hx hb d_Rd_refresh_25 rfl (lv_at hl 0 rfl) ?_
    refine kw_callv (va_runV (As := []) (rest := []) (b := g.1 12) ⟨hx, hb, hml, hown, hts⟩ (c_Rd_passBlanks_0 l h) (cwV 0 hts (gd_v gw617 gw619 gs4 gw9 gw620) rfl rfl rfl (by decide +kernel) ⟨Nat.le_of_ble_eq_true rfl, Nat.le_of_ble_eq_true rfl⟩) ⟨kw_blind (Zk_ok g), va_recv hK hst.1 rfl (WS_o12 g σ3), kw_pre (Zk_ok g) hK hZ hA hst⟩ rfl rfl hl.1 rfl (lv_room (Nat.le_of_ble_eq_true rfl)) d_Rd_refresh_26 ⟨Nat.le_of_ble_eq_true rfl, Nat.le_of_ble_eq_true rfl⟩) hst hA (fun σ4 H locs h hst => ?_)
    refine lv_iconst (v := (0 : Int32)) hx hb d_Rd_refresh_29 (by decide) ?_
    refine lv_istore_n hx hb d_Rd_refresh_30 rfl hl (by decide) rfl (fun ls hl => ?_)
    have hl : lv_has ls 2 [(1, .int (0 : Int32)), (0, .ref (g.1 12))] := hl
    exact j1 (0 : Int32) σ4 _ _ _ (lv_sub hl [1, 0] rfl) hst h
  · replace h := h.2 hc
    exact kw_vret hx hb hr hlocks hst h d_Rd_refresh_7
set_option maxRecDepth 100000 in
set_option maxHeartbeats 4000000 in
theorem b_Rd_refresh_0_1 {p : Program} {l : Launch} {e : Env} {s : State} {m : MethodId} {args : Array Value} {below : List Frame} {meth : Method} {c : Code} {D : va_G} {g : Gm} {A : Nat → Prop} {post : Sg → Prop} {F : Nat → Int32 → Sg → Prop} (C : kC p s m args meth c k_Rd_refresh 2 (none) GW R_Rd D vwCl g (Zk g) A) (j1 : J_Rd_refresh_0_1 p l e s m args below meth c D g A post F) (j2 : J_Rd_refresh_0_2 p l e s m args below meth c D g A post F) (x1 : Int32) (σ : Sg) (H : Heap) (locs : List Loc) (ls : Array Slot) (hl : lv_has ls 2 [(0, .ref (g.1 12)), (1, .int x1)]) (hst : Wst D vwCl (WS g) A s σ H locs) (h : wb_Rd_refresh_1 0 F post x1 σ) : W p l e { frames := 35, cells := 0, slots := 0, locals := 885 } s m args below meth c H locs 0 0 (MQ below (QvW D vwCl (WS g) post A) args s 0 0 A) (F0 m 31 ls []) := by
  obtain ⟨hx, hb, hr, hml, hown, hts, hlocks, hK, hZ, hA⟩ := C
  unfold wb_Rd_refresh_1 at h
  refine lv_iload_n hx hb d_Rd_refresh_31 rfl (lv_at hl 1 rfl) ?_
  refine lv_aload_n hx hb d_Rd_refresh_32 rfl (lv_at hl 0 rfl) ?_
  refine va_get (D := D) (ci := 2) (C := R_Rd) (T := T_Rd) (N := 5) hx hb hts in_Rd hown hK hst.1 12 (WS_o12 g σ) rfl 2 (by decide) (hts _ gw212) (fun _ h9 => h9) rfl d_Rd_refresh_33 ?_
  refine va_get (D := D) (ci := 1) (C := R_Tx) (T := T_Tx) (N := 2) hx hb hts in_Tx hown hK hst.1 10 (WS_o10 g σ) rfl 1 (by decide) (hts _ gw114) (fun _ h9 => h9) rfl d_Rd_refresh_36 ?_
  refine lv_icmp_ge (tgt := 79) hx hb d_Rd_refresh_39 (by decide) (fun hc => ?_) (fun hc => ?_)
  · replace h := h.1 hc
    exact j2 σ _ _ _ (lv_sub hl [0] rfl) hst h
  · replace h := h.2 hc
    refine lv_aload_n hx hb d_Rd_refresh_42 rfl (lv_at hl 0 rfl) ?_
    refine va_get (D := D) (ci := 2) (C := R_Rd) (T := T_Rd) (N := 5) hx hb hts in_Rd hown hK hst.1 12 (WS_o12 g σ) rfl 4 (by decide) (hts _ gw214) (fun _ h9 => h9) rfl d_Rd_refresh_43 ?_
    refine lv_aload_n hx hb d_Rd_refresh_46 rfl (lv_at hl 0 rfl) ?_
    refine va_get (D := D) (ci := 2) (C := R_Rd) (T := T_Rd) (N := 5) hx hb hts in_Rd hown hK hst.1 12 (WS_o12 g σ) rfl 2 (by decide) (hts _ gw212) (fun _ h9 => h9) rfl d_Rd_refresh_47 ?_
    refine va_get (D := D) (ci := 1) (C := R_Tx) (T := T_Tx) (N := 2) hx hb hts in_Tx hown hK hst.1 10 (WS_o10 g σ) rfl 1 (by decide) (hts _ gw114) (fun _ h9 => h9) rfl d_Rd_refresh_50 ?_
    refine lv_icmp_ge (tgt := 79) hx hb d_Rd_refresh_53 (by decide) (fun hc => ?_) (fun hc => ?_)
    · replace h := h.1 hc
      exact j2 σ _ _ _ (lv_sub hl [0] rfl) hst h
    · replace h := h.2 hc
      refine lv_aload_n hx hb d_Rd_refresh_56 rfl (lv_at hl 0 rfl) ?_
      refine lv_iconst (v := (0 : Int32)) hx hb d_Rd_refresh_57 (by decide) ?_
      refine kw_calli (va_runV (As := [.int (0 : Int32)]) (rest := []) (b := g.1 12) ⟨hx, hb, hml, hown, hts⟩ (c_Rd_valueBegins_0 l (0 : Int32) h) (cwV 1 hts (gd_v gw621 gw623 gs5 gw9 gw624) rfl rfl rfl (by decide +kernel) ⟨Nat.le_of_ble_eq_true rfl, Nat.le_of_ble_eq_true rfl⟩) ⟨kw_blind (Zk_ok g), va_recv hK hst.1 rfl (WS_o12 g σ), kw_pre (Zk_ok g) hK hZ hA hst⟩ rfl rfl hl.1 rfl (lv_room (Nat.le_of_ble_eq_true rfl)) d_Rd_refresh_58 ⟨Nat.le_of_ble_eq_true rfl, Nat.le_of_ble_eq_true rfl⟩) hst hA (fun r1 σ1 H locs h hst => ?_)
      refine lv_if_ne (tgt := 79) hx hb d_Rd_refresh_61 (by decide) (fun hc => ?_) (fun hc => ?_)
      · replace h := h.1 hc
        exact j2 σ1 _ _ _ (lv_sub hl [0] rfl) hst h
      · replace h := h.2 hc
        refine lv_aload_n hx hb d_Rd_refresh_64 rfl (lv_at hl 0 rfl) ?_
        refine lv_iconst (v := (0 : Int32)) hx hb d_Rd_refresh_65 (by decide) ?_
        refine kw_callv (va_runV (As := [.int (0 : Int32)]) (rest := []) (b := g.1 12) ⟨hx, hb, hml, hown, hts⟩ (c_Rd_passWrong_0 l (0 : Int32) h) (cwV 1 hts (gd_v gw634 gw636 gs6 gw9 gw637) rfl rfl rfl (by decide +kernel) ⟨Nat.le_of_ble_eq_true rfl, Nat.le_of_ble_eq_true rfl⟩) ⟨kw_blind (Zk_ok g), va_recv hK hst.1 rfl (WS_o12 g σ1), kw_pre (Zk_ok g) hK hZ hA hst⟩ rfl rfl hl.1 rfl (lv_room (Nat.le_of_ble_eq_true rfl)) d_Rd_refresh_66 ⟨Nat.le_of_ble_eq_true rfl, Nat.le_of_ble_eq_true rfl⟩) hst hA (fun σ2 H locs h hst => ?_)
        refine lv_aload_n hx hb d_Rd_refresh_69 rfl (lv_at hl 0 rfl) ?_
        refine kw_callv (va_runV (As := []) (rest := []) (b := g.1 12) ⟨hx, hb, hml, hown, hts⟩ (c_Rd_passBlanks_0 l h) (cwV 0 hts (gd_v gw617 gw619 gs4 gw9 gw620) rfl rfl rfl (by decide +kernel) ⟨Nat.le_of_ble_eq_true rfl, Nat.le_of_ble_eq_true rfl⟩) ⟨kw_blind (Zk_ok g), va_recv hK hst.1 rfl (WS_o12 g σ2), kw_pre (Zk_ok g) hK hZ hA hst⟩ rfl rfl hl.1 rfl (lv_room (Nat.le_of_ble_eq_true rfl)) d_Rd_refresh_70 ⟨Nat.le_of_ble_eq_true rfl, Nat.le_of_ble_eq_true rfl⟩) hst hA (fun σ3 H locs h hst => ?_)
        refine lv_iinc (k := 1) (v := (x1 + 1)) hx hb d_Rd_refresh_73 hl rfl (kw_inc _ (by decide)) (by decide) rfl (fun ls hl => ?_)
        have hl : lv_has ls 2 [(1, .int (x1 + 1)), (0, .ref (g.1 12))] := hl
        refine lv_goto (tgt := 31) hx hb d_Rd_refresh_76 (by decide) ?_
        exact j1 (x1 + 1) σ3 _ _ _ (lv_sub hl [1, 0] rfl) hst h
set_option maxRecDepth 100000 in
set_option maxHeartbeats 4000000 in
theorem b_Rd_refresh_0_2 {p : Program} {l : Launch} {e : Env} {s : State} {m : MethodId} {args : Array Value} {below : List Frame} {meth : Method} {c : Code} {D : va_G} {g : Gm} {A : Nat → Prop} {post : Sg → Prop} {F : Nat → Int32 → Sg → Prop} (C : kC p s m args meth c k_Rd_refresh 2 (none) GW R_Rd D vwCl g (Zk g) A) (σ : Sg) (H : Heap) (locs : List Loc) (ls : Array Slot) (hl : lv_has ls 2 [(0, .ref (g.1 12))]) (hst : Wst D vwCl (WS g) A s σ H locs) (h : wb_Rd_refresh_2 0 F post σ) : W p l e { frames := 35, cells := 0, slots := 0, locals := 885 } s m args below meth c H locs 0 0 (MQ below (QvW D vwCl (WS g) post A) args s 0 0 A) (F0 m 79 ls []) := by
  obtain ⟨hx, hb, hr, hml, hown, hts, hlocks, hK, hZ, hA⟩ := C
  unfold wb_Rd_refresh_2 at h
  refine lv_aload_n hx hb d_Rd_refresh_79 rfl (lv_at hl 0 rfl) ?_
  refine va_get (D := D) (ci := 2) (C := R_Rd) (T := T_Rd) (N := 5) hx hb hts in_Rd hown hK hst.1 12 (WS_o12 g σ) rfl 4 (by decide) (hts _ gw214) (fun _ h9 => h9) rfl d_Rd_refresh_80 ?_
  refine lv_aload_n hx hb d_Rd_refresh_83 rfl (lv_at hl 0 rfl) ?_
  refine va_get (D := D) (ci := 2) (C := R_Rd) (T := T_Rd) (N := 5) hx hb hts in_Rd hown hK hst.1 12 (WS_o12 g σ) rfl 2 (by decide) (hts _ gw212) (fun _ h9 => h9) rfl d_Rd_refresh_84 ?_
  refine va_get (D := D) (ci := 1) (C := R_Tx) (T := T_Tx) (N := 2) hx hb hts in_Tx hown hK hst.1 10 (WS_o10 g σ) rfl 1 (by decide) (hts _ gw114) (fun _ h9 => h9) rfl d_Rd_refresh_87 ?_
  refine lv_icmp_lt (tgt := 106) hx hb d_Rd_refresh_90 (by decide) (fun hc => ?_) (fun hc => ?_)
  · replace h := h.1 hc
    refine lv_aload_n hx hb d_Rd_refresh_106 rfl (lv_at hl 0 rfl) ?_
    refine lv_iconst (v := (-1 : Int32)) hx hb d_Rd_refresh_107 (by decide) ?_
    refine lv_iconst (v := (-1 : Int32)) hx hb d_Rd_refresh_108 (by decide) ?_
    refine lv_iconst (v := (0 : Int32)) hx hb d_Rd_refresh_109 (by decide) ?_
    refine kw_callv (va_runV (As := [.int (-1 : Int32), .int (-1 : Int32), .int (0 : Int32)]) (rest := []) (b := g.1 12) ⟨hx, hb, hml, hown, hts⟩ (c_Rd_readValue_0 l (-1 : Int32) (-1 : Int32) (0 : Int32) h) (cwV 3 hts (gd_v gw642 gw644 gs7 gw9 gw645) rfl rfl rfl (by decide +kernel) ⟨Nat.le_of_ble_eq_true rfl, Nat.le_of_ble_eq_true rfl⟩) ⟨kw_blind (Zk_ok g), va_recv hK hst.1 rfl (WS_o12 g σ), kw_pre (Zk_ok g) hK hZ hA hst⟩ rfl rfl hl.1 rfl (lv_room (Nat.le_of_ble_eq_true rfl)) d_Rd_refresh_110 ⟨Nat.le_of_ble_eq_true rfl, Nat.le_of_ble_eq_true rfl⟩) hst hA (fun σ1 H locs h hst => ?_)
    refine lv_aload_n hx hb d_Rd_refresh_113 rfl (lv_at hl 0 rfl) ?_
    refine kw_callv (va_runV (As := []) (rest := []) (b := g.1 12) ⟨hx, hb, hml, hown, hts⟩ (c_Rd_passBlanks_0 l h) (cwV 0 hts (gd_v gw617 gw619 gs4 gw9 gw620) rfl rfl rfl (by decide +kernel) ⟨Nat.le_of_ble_eq_true rfl, Nat.le_of_ble_eq_true rfl⟩) ⟨kw_blind (Zk_ok g), va_recv hK hst.1 rfl (WS_o12 g σ1), kw_pre (Zk_ok g) hK hZ hA hst⟩ rfl rfl hl.1 rfl (lv_room (Nat.le_of_ble_eq_true rfl)) d_Rd_refresh_114 ⟨Nat.le_of_ble_eq_true rfl, Nat.le_of_ble_eq_true rfl⟩) hst hA (fun σ2 H locs h hst => ?_)
    refine lv_aload_n hx hb d_Rd_refresh_117 rfl (lv_at hl 0 rfl) ?_
    refine va_get (D := D) (ci := 2) (C := R_Rd) (T := T_Rd) (N := 5) hx hb hts in_Rd hown hK hst.1 12 (WS_o12 g σ2) rfl 4 (by decide) (hts _ gw214) (fun _ h9 => h9) rfl d_Rd_refresh_118 ?_
    refine lv_aload_n hx hb d_Rd_refresh_121 rfl (lv_at hl 0 rfl) ?_
    refine va_get (D := D) (ci := 2) (C := R_Rd) (T := T_Rd) (N := 5) hx hb hts in_Rd hown hK hst.1 12 (WS_o12 g σ2) rfl 2 (by decide) (hts _ gw212) (fun _ h9 => h9) rfl d_Rd_refresh_122 ?_
    refine va_get (D := D) (ci := 1) (C := R_Tx) (T := T_Tx) (N := 2) hx hb hts in_Tx hown hK hst.1 10 (WS_o10 g σ2) rfl 1 (by decide) (hts _ gw114) (fun _ h9 => h9) rfl d_Rd_refresh_125 ?_
    refine lv_icmp_ge (tgt := 143) hx hb d_Rd_refresh_128 (by decide) (fun hc => ?_) (fun hc => ?_)
    · replace h := h.1 hc
      exact kw_vret hx hb hr hlocks hst h d_Rd_refresh_143
    · replace h := h.2 hc
      refine lv_aload_n hx hb d_Rd_refresh_131 rfl (lv_at hl 0 rfl) ?_
      refine va_get (D := D) (ci := 2) (C := R_Rd) (T := T_Rd) (N := 5) hx hb hts in_Rd hown hK hst.1 12 (WS_o12 g σ2) rfl 0 (by decide) (hts _ gw208) (fun _ h9 => h9) rfl d_Rd_refresh_132 ?_
      refine lv_iconst (v := (2 : Int32)) hx hb d_Rd_refresh_135 (by decide) ?_
      refine lv_aload_n hx hb d_Rd_refresh_136 rfl (lv_at hl 0 rfl) ?_
      refine va_get (D := D) (ci := 2) (C := R_Rd) (T := T_Rd) (N := 5) hx hb hts in_Rd hown hK hst.1 12 (WS_o12 g σ2) rfl 4 (by decide) (hts _ gw214) (fun _ h9 => h9) rfl d_Rd_refresh_137 ?_
      refine kw_callv (va_runV (As := [.int (2 : Int32), .int (σ2.1 12 4)]) (rest := []) (b := g.1 0) ⟨hx, hb, hml, hown, hts⟩ (c_Tr_blame_0 l (2 : Int32) (σ2.1 12 4) h) (cwV 2 hts (gd_v gw638 gw639 gw640 gw7 gw641) rfl rfl rfl (by decide +kernel) ⟨Nat.le_of_ble_eq_true rfl, Nat.le_of_ble_eq_true rfl⟩) ⟨kw_blind (Zk_ok g), va_recv hK hst.1 rfl (WS_o0 g σ2), kw_pre (Zk_ok g) hK hZ hA hst⟩ rfl rfl hl.1 rfl (lv_room (Nat.le_of_ble_eq_true rfl)) d_Rd_refresh_140 ⟨Nat.le_of_ble_eq_true rfl, Nat.le_of_ble_eq_true rfl⟩) hst hA (fun σ3 H locs h hst => ?_)
      exact kw_vret hx hb hr hlocks hst h d_Rd_refresh_143
  · replace h := h.2 hc
    refine lv_aload_n hx hb d_Rd_refresh_93 rfl (lv_at hl 0 rfl) ?_
    refine va_get (D := D) (ci := 2) (C := R_Rd) (T := T_Rd) (N := 5) hx hb hts in_Rd hown hK hst.1 12 (WS_o12 g σ) rfl 0 (by decide) (hts _ gw208) (fun _ h9 => h9) rfl d_Rd_refresh_94 ?_
    refine lv_iconst (v := (1 : Int32)) hx hb d_Rd_refresh_97 (by decide) ?_
    refine lv_aload_n hx hb d_Rd_refresh_98 rfl (lv_at hl 0 rfl) ?_
    refine va_get (D := D) (ci := 2) (C := R_Rd) (T := T_Rd) (N := 5) hx hb hts in_Rd hown hK hst.1 12 (WS_o12 g σ) rfl 4 (by decide) (hts _ gw214) (fun _ h9 => h9) rfl d_Rd_refresh_99 ?_
    refine kw_callv (va_runV (As := [.int (1 : Int32), .int (σ.1 12 4)]) (rest := []) (b := g.1 0) ⟨hx, hb, hml, hown, hts⟩ (c_Tr_blame_0 l (1 : Int32) (σ.1 12 4) h) (cwV 2 hts (gd_v gw638 gw639 gw640 gw7 gw641) rfl rfl rfl (by decide +kernel) ⟨Nat.le_of_ble_eq_true rfl, Nat.le_of_ble_eq_true rfl⟩) ⟨kw_blind (Zk_ok g), va_recv hK hst.1 rfl (WS_o0 g σ), kw_pre (Zk_ok g) hK hZ hA hst⟩ rfl rfl hl.1 rfl (lv_room (Nat.le_of_ble_eq_true rfl)) d_Rd_refresh_102 ⟨Nat.le_of_ble_eq_true rfl, Nat.le_of_ble_eq_true rfl⟩) hst hA (fun σ1 H locs h hst => ?_)
    exact kw_vret hx hb hr hlocks hst h d_Rd_refresh_105
set_option maxRecDepth 100000 in
set_option maxHeartbeats 4000000 in
theorem a_Rd_refresh_0 {p : Program} {l : Launch} {e : Env} {s : State} {m : MethodId} {args : Array Value} {below : List Frame} {meth : Method} {c : Code} {D : va_G} {g : Gm} {A : Nat → Prop} {post : Sg → Prop} (C : kC p s m args meth c k_Rd_refresh 2 (none) GW R_Rd D vwCl g (Zk g) A) : ∀ n : Nat, J_Rd_refresh_0_1 p l e s m args below meth c D g A post (wp_Rd_refresh 0 post n) ∧ J_Rd_refresh_0_2 p l e s m args below meth c D g A post (wp_Rd_refresh 0 post n) := by
  intro n
  induction n with
  | zero => exact ⟨fun _ _ _ _ _ _ _ h => h.elim, fun _ _ _ _ _ _ h => h.elim⟩
  | succ n ih => exact ⟨fun x1 σ H locs ls hl hst h => b_Rd_refresh_0_1 (F := wp_Rd_refresh 0 post n) C (ih.1) (ih.2) x1 σ H locs ls hl hst h, fun σ H locs ls hl hst h => b_Rd_refresh_0_2 (F := wp_Rd_refresh 0 post n) C σ H locs ls hl hst h⟩
set_option maxRecDepth 100000 in
set_option maxHeartbeats 4000000 in
theorem c_Rd_refresh_0 (l : Launch) {D : va_G} {g : Gm} {sz : Nat} {σ : Sg} {post : Sg → Prop} (h : wq_Rd_refresh 0 σ post) : Met l y_Rd_refresh (.code y_Rd_refresh k_Rd_refresh 2 (none) :: GW) { frames := 35, cells := 0, slots := 0, locals := 885 } (PcW D vwCl (WS g) g (Zk g) σ sz [.ref (g.1 12)]) (QvW D vwCl (WS g) post (va_A (WS g σ) sz)) 0 0 (va_A (WS g σ) sz) := by
  refine kw_entry (own := R_Rd) (by decide) rfl rfl (Nat.le_of_ble_eq_true rfl) ?_
  intro p e s m below meth c ls hsz C hin hl hst
  obtain ⟨n, h⟩ := h
  cases n with
  | zero => exact h.elim
  | succ n =>
    have ih := a_Rd_refresh_0 (l := l) (e := e) (below := below) (post := post) C n
    exact b_Rd_refresh_0_0 (F := wp_Rd_refresh 0 post n) C (ih.1) σ _ _ ls hl hst h
def J_Rd_refresh_13_1 (p : Program) (l : Launch) (e : Env) (s : State) (m : MethodId) (args : Array Value) (below : List Frame) (meth : Method) (c : Code) (D : va_G) (g : Gm) (A : Nat → Prop) (post : Sg → Prop) (F : Nat → Int32 → Sg → Prop) : Prop := ∀ (x1 : Int32) (σ : Sg) (H : Heap) (locs : List Loc) (ls : Array Slot), lv_has ls 2 [(0, .ref (g.1 25)), (1, .int x1)] → Wst D vwCl (WS g) A s σ H locs → F 1 x1 σ → W p l e { frames := 35, cells := 0, slots := 0, locals := 885 } s m args below meth c H locs 0 0 (MQ below (QvW D vwCl (WS g) post A) args s 0 0 A) (F0 m 31 ls [])
def J_Rd_refresh_13_2 (p : Program) (l : Launch) (e : Env) (s : State) (m : MethodId) (args : Array Value) (below : List Frame) (meth : Method) (c : Code) (D : va_G) (g : Gm) (A : Nat → Prop) (post : Sg → Prop) (F : Nat → Int32 → Sg → Prop) : Prop := ∀ (σ : Sg) (H : Heap) (locs : List Loc) (ls : Array Slot), lv_has ls 2 [(0, .ref (g.1 25))] → Wst D vwCl (WS g) A s σ H locs → F 2 0 σ → W p l e { frames := 35, cells := 0, slots := 0, locals := 885 } s m args below meth c H locs 0 0 (MQ below (QvW D vwCl (WS g) post A) args s 0 0 A) (F0 m 79 ls [])
set_option maxRecDepth 100000 in
set_option maxHeartbeats 4000000 in
theorem b_Rd_refresh_13_0 {p : Program} {l : Launch} {e : Env} {s : State} {m : MethodId} {args : Array Value} {below : List Frame} {meth : Method} {c : Code} {D : va_G} {g : Gm} {A : Nat → Prop} {post : Sg → Prop} {F : Nat → Int32 → Sg → Prop} (C : kC p s m args meth c k_Rd_refresh 2 (none) GW R_Rd D vwCl g (Zk g) A) (j1 : J_Rd_refresh_13_1 p l e s m args below meth c D g A post F) (σ : Sg) (H : Heap) (locs : List Loc) (ls : Array Slot) (hl : lv_has ls 2 [(0, .ref (g.1 25))]) (hst : Wst D vwCl (WS g) A s σ H locs) (h : wb_Rd_refresh_0 13 F post σ) : W p l e { frames := 35, cells := 0, slots := 0, locals := 885 } s m args below meth c H locs 0 0 (MQ below (QvW D vwCl (WS g) post A) args s 0 0 A) (F0 m 0 ls []) := by
  obtain ⟨hx, hb, hr, hml, hown, hts, hlocks, hK, hZ, hA⟩ := C
  unfold wb_Rd_refresh_0 at h
  refine lv_aload_n hx hb d_Rd_refresh_0 rfl (lv_at hl 0 rfl) ?_
  refine va_get (D := D) (ci := 2) (C := R_Rd) (T := T_Rd) (N := 5) hx hb hts in_Rd hown hK hst.1 25 (WS_o25 g σ) rfl 1 (by decide) (hts _ gw210) (fun _ h9 => h9) rfl d_Rd_refresh_1 ?_
  refine lv_if_eq (tgt := 8) hx hb d_Rd_refresh_4 (by decide) (fun hc => ?_) (fun hc => ?_)
  · replace h := h.1 hc
    refine lv_aload_n hx hb d_Rd_refresh_8 rfl (lv_at hl 0 rfl) ?_
    refine lv_iconst (v := (1 : Int32)) hx hb d_Rd_refresh_9 (by decide) ?_
    obtain ⟨hn, hf, h⟩ := h
    refine kw_put (D := D) (ci := 2) (ty := .boolean) (C := R_Rd) (T := T_Rd) (N := 5) hx hb hts in_Rd ty_Rd ty_Rd_ok nm_Rd hown hK hst 25 (WS_o25 g σ) rfl 1 (by decide) (hts _ gw210) (fun _ h9 => h9) rfl (by decide +kernel) hn hf (Nat.le_of_ble_eq_true rfl) (WS_p25_1 g σ _) d_Rd_refresh_10 (fun σ1 H locs e1 hst => ?_)
    replace h := h σ1 e1
    refine lv_aload_n hx hb d_Rd_refresh_13 rfl (lv_at hl 0 rfl) ?_
    refine va_get (D := D) (ci := 2) (C := R_Rd) (T := T_Rd) (N := 5) hx hb hts in_Rd hown hK hst.1 25 (WS_o25 g σ1) rfl 0 (by decide) (hts _ gw208) (fun _ h9 => h9) rfl d_Rd_refresh_14 ?_
    refine kw_callv (va_runV (As := []) (rest := []) (b := g.1 13) ⟨hx, hb, hml, hown, hts⟩ (c_Tr_clear_13 l h) (cwV 0 hts (gd_v gw613 gw614 gw615 gw7 gw616) rfl rfl rfl (by decide +kernel) ⟨Nat.le_of_ble_eq_true rfl, Nat.le_of_ble_eq_true rfl⟩) ⟨kw_blind (Zk_ok g), va_recv hK hst.1 rfl (WS_o13 g σ1), kw_pre (Zk_ok g) hK hZ hA hst⟩ rfl rfl hl.1 rfl (lv_room (Nat.le_of_ble_eq_true rfl)) d_Rd_refresh_17 ⟨Nat.le_of_ble_eq_true rfl, Nat.le_of_ble_eq_true rfl⟩) hst hA (fun σ2 H locs h hst => ?_)
    refine lv_aload_n hx hb d_Rd_refresh_20 rfl (lv_at hl 0 rfl) ?_
    refine lv_iconst (v := (0 : Int32)) hx hb d_Rd_refresh_21 (by decide) ?_
    refine kw_put (D := D) (ci := 2) (ty := .int) (C := R_Rd) (T := T_Rd) (N := 5) hx hb hts in_Rd ty_Rd ty_Rd_ok nm_Rd hown hK hst 25 (WS_o25 g σ2) rfl 4 (by decide) (hts _ gw214) (fun _ h9 => h9) rfl (by decide +kernel) rfl rfl (Nat.le_of_ble_eq_true rfl) (WS_p25_4 g σ2 _) d_Rd_refresh_22 (fun σ3 H locs e3 hst => ?_)
    replace h := h σ3 e3
    refine lv_aload_n hx hb d_Rd_refresh_25 rfl (lv_at hl 0 rfl) ?_
    refine kw_callv (va_runV (As := []) (rest := []) (b := g.1 25) ⟨hx, hb, hml, hown, hts⟩ (c_Rd_passBlanks_13 l h) (cwV 0 hts (gd_v gw617 gw619 gs4 gw9 gw620) rfl rfl rfl (by decide +kernel) ⟨Nat.le_of_ble_eq_true rfl, Nat.le_of_ble_eq_true rfl⟩) ⟨kw_blind (Zk_ok g), va_recv hK hst.1 rfl (WS_o25 g σ3), kw_pre (Zk_ok g) hK hZ hA hst⟩ rfl rfl hl.1 rfl (lv_room (Nat.le_of_ble_eq_true rfl)) d_Rd_refresh_26 ⟨Nat.le_of_ble_eq_true rfl, Nat.le_of_ble_eq_true rfl⟩) hst hA (fun σ4 H locs h hst => ?_)
    refine lv_iconst (v := (0 : Int32)) hx hb d_Rd_refresh_29 (by decide) ?_
    refine lv_istore_n hx hb d_Rd_refresh_30 rfl hl (by decide) rfl (fun ls hl => ?_)
    have hl : lv_has ls 2 [(1, .int (0 : Int32)), (0, .ref (g.1 25))] := hl
    exact j1 (0 : Int32) σ4 _ _ _ (lv_sub hl [1, 0] rfl) hst h
  · replace h := h.2 hc
    exact kw_vret hx hb hr hlocks hst h d_Rd_refresh_7
set_option maxRecDepth 100000 in
set_option maxHeartbeats 4000000 in
theorem b_Rd_refresh_13_1 {p : Program} {l : Launch} {e : Env} {s : State} {m : MethodId} {args : Array Value} {below : List Frame} {meth : Method} {c : Code} {D : va_G} {g : Gm} {A : Nat → Prop} {post : Sg → Prop} {F : Nat → Int32 → Sg → Prop} (C : kC p s m args meth c k_Rd_refresh 2 (none) GW R_Rd D vwCl g (Zk g) A) (j1 : J_Rd_refresh_13_1 p l e s m args below meth c D g A post F) (j2 : J_Rd_refresh_13_2 p l e s m args below meth c D g A post F) (x1 : Int32) (σ : Sg) (H : Heap) (locs : List Loc) (ls : Array Slot) (hl : lv_has ls 2 [(0, .ref (g.1 25)), (1, .int x1)]) (hst : Wst D vwCl (WS g) A s σ H locs) (h : wb_Rd_refresh_1 13 F post x1 σ) : W p l e { frames := 35, cells := 0, slots := 0, locals := 885 } s m args below meth c H locs 0 0 (MQ below (QvW D vwCl (WS g) post A) args s 0 0 A) (F0 m 31 ls []) := by
  obtain ⟨hx, hb, hr, hml, hown, hts, hlocks, hK, hZ, hA⟩ := C
  unfold wb_Rd_refresh_1 at h
  refine lv_iload_n hx hb d_Rd_refresh_31 rfl (lv_at hl 1 rfl) ?_
  refine lv_aload_n hx hb d_Rd_refresh_32 rfl (lv_at hl 0 rfl) ?_
  refine va_get (D := D) (ci := 2) (C := R_Rd) (T := T_Rd) (N := 5) hx hb hts in_Rd hown hK hst.1 25 (WS_o25 g σ) rfl 2 (by decide) (hts _ gw212) (fun _ h9 => h9) rfl d_Rd_refresh_33 ?_
  refine va_get (D := D) (ci := 1) (C := R_Tx) (T := T_Tx) (N := 2) hx hb hts in_Tx hown hK hst.1 23 (WS_o23 g σ) rfl 1 (by decide) (hts _ gw114) (fun _ h9 => h9) rfl d_Rd_refresh_36 ?_
  refine lv_icmp_ge (tgt := 79) hx hb d_Rd_refresh_39 (by decide) (fun hc => ?_) (fun hc => ?_)
  · replace h := h.1 hc
    exact j2 σ _ _ _ (lv_sub hl [0] rfl) hst h
  · replace h := h.2 hc
    refine lv_aload_n hx hb d_Rd_refresh_42 rfl (lv_at hl 0 rfl) ?_
    refine va_get (D := D) (ci := 2) (C := R_Rd) (T := T_Rd) (N := 5) hx hb hts in_Rd hown hK hst.1 25 (WS_o25 g σ) rfl 4 (by decide) (hts _ gw214) (fun _ h9 => h9) rfl d_Rd_refresh_43 ?_
    refine lv_aload_n hx hb d_Rd_refresh_46 rfl (lv_at hl 0 rfl) ?_
    refine va_get (D := D) (ci := 2) (C := R_Rd) (T := T_Rd) (N := 5) hx hb hts in_Rd hown hK hst.1 25 (WS_o25 g σ) rfl 2 (by decide) (hts _ gw212) (fun _ h9 => h9) rfl d_Rd_refresh_47 ?_
    refine va_get (D := D) (ci := 1) (C := R_Tx) (T := T_Tx) (N := 2) hx hb hts in_Tx hown hK hst.1 23 (WS_o23 g σ) rfl 1 (by decide) (hts _ gw114) (fun _ h9 => h9) rfl d_Rd_refresh_50 ?_
    refine lv_icmp_ge (tgt := 79) hx hb d_Rd_refresh_53 (by decide) (fun hc => ?_) (fun hc => ?_)
    · replace h := h.1 hc
      exact j2 σ _ _ _ (lv_sub hl [0] rfl) hst h
    · replace h := h.2 hc
      refine lv_aload_n hx hb d_Rd_refresh_56 rfl (lv_at hl 0 rfl) ?_
      refine lv_iconst (v := (0 : Int32)) hx hb d_Rd_refresh_57 (by decide) ?_
      refine kw_calli (va_runV (As := [.int (0 : Int32)]) (rest := []) (b := g.1 25) ⟨hx, hb, hml, hown, hts⟩ (c_Rd_valueBegins_13 l (0 : Int32) h) (cwV 1 hts (gd_v gw621 gw623 gs5 gw9 gw624) rfl rfl rfl (by decide +kernel) ⟨Nat.le_of_ble_eq_true rfl, Nat.le_of_ble_eq_true rfl⟩) ⟨kw_blind (Zk_ok g), va_recv hK hst.1 rfl (WS_o25 g σ), kw_pre (Zk_ok g) hK hZ hA hst⟩ rfl rfl hl.1 rfl (lv_room (Nat.le_of_ble_eq_true rfl)) d_Rd_refresh_58 ⟨Nat.le_of_ble_eq_true rfl, Nat.le_of_ble_eq_true rfl⟩) hst hA (fun r1 σ1 H locs h hst => ?_)
      refine lv_if_ne (tgt := 79) hx hb d_Rd_refresh_61 (by decide) (fun hc => ?_) (fun hc => ?_)
      · replace h := h.1 hc
        exact j2 σ1 _ _ _ (lv_sub hl [0] rfl) hst h
      · replace h := h.2 hc
        refine lv_aload_n hx hb d_Rd_refresh_64 rfl (lv_at hl 0 rfl) ?_
        refine lv_iconst (v := (0 : Int32)) hx hb d_Rd_refresh_65 (by decide) ?_
        refine kw_callv (va_runV (As := [.int (0 : Int32)]) (rest := []) (b := g.1 25) ⟨hx, hb, hml, hown, hts⟩ (c_Rd_passWrong_13 l (0 : Int32) h) (cwV 1 hts (gd_v gw634 gw636 gs6 gw9 gw637) rfl rfl rfl (by decide +kernel) ⟨Nat.le_of_ble_eq_true rfl, Nat.le_of_ble_eq_true rfl⟩) ⟨kw_blind (Zk_ok g), va_recv hK hst.1 rfl (WS_o25 g σ1), kw_pre (Zk_ok g) hK hZ hA hst⟩ rfl rfl hl.1 rfl (lv_room (Nat.le_of_ble_eq_true rfl)) d_Rd_refresh_66 ⟨Nat.le_of_ble_eq_true rfl, Nat.le_of_ble_eq_true rfl⟩) hst hA (fun σ2 H locs h hst => ?_)
        refine lv_aload_n hx hb d_Rd_refresh_69 rfl (lv_at hl 0 rfl) ?_
        refine kw_callv (va_runV (As := []) (rest := []) (b := g.1 25) ⟨hx, hb, hml, hown, hts⟩ (c_Rd_passBlanks_13 l h) (cwV 0 hts (gd_v gw617 gw619 gs4 gw9 gw620) rfl rfl rfl (by decide +kernel) ⟨Nat.le_of_ble_eq_true rfl, Nat.le_of_ble_eq_true rfl⟩) ⟨kw_blind (Zk_ok g), va_recv hK hst.1 rfl (WS_o25 g σ2), kw_pre (Zk_ok g) hK hZ hA hst⟩ rfl rfl hl.1 rfl (lv_room (Nat.le_of_ble_eq_true rfl)) d_Rd_refresh_70 ⟨Nat.le_of_ble_eq_true rfl, Nat.le_of_ble_eq_true rfl⟩) hst hA (fun σ3 H locs h hst => ?_)
        refine lv_iinc (k := 1) (v := (x1 + 1)) hx hb d_Rd_refresh_73 hl rfl (kw_inc _ (by decide)) (by decide) rfl (fun ls hl => ?_)
        have hl : lv_has ls 2 [(1, .int (x1 + 1)), (0, .ref (g.1 25))] := hl
        refine lv_goto (tgt := 31) hx hb d_Rd_refresh_76 (by decide) ?_
        exact j1 (x1 + 1) σ3 _ _ _ (lv_sub hl [1, 0] rfl) hst h
set_option maxRecDepth 100000 in
set_option maxHeartbeats 4000000 in
theorem b_Rd_refresh_13_2 {p : Program} {l : Launch} {e : Env} {s : State} {m : MethodId} {args : Array Value} {below : List Frame} {meth : Method} {c : Code} {D : va_G} {g : Gm} {A : Nat → Prop} {post : Sg → Prop} {F : Nat → Int32 → Sg → Prop} (C : kC p s m args meth c k_Rd_refresh 2 (none) GW R_Rd D vwCl g (Zk g) A) (σ : Sg) (H : Heap) (locs : List Loc) (ls : Array Slot) (hl : lv_has ls 2 [(0, .ref (g.1 25))]) (hst : Wst D vwCl (WS g) A s σ H locs) (h : wb_Rd_refresh_2 13 F post σ) : W p l e { frames := 35, cells := 0, slots := 0, locals := 885 } s m args below meth c H locs 0 0 (MQ below (QvW D vwCl (WS g) post A) args s 0 0 A) (F0 m 79 ls []) := by
  obtain ⟨hx, hb, hr, hml, hown, hts, hlocks, hK, hZ, hA⟩ := C
  unfold wb_Rd_refresh_2 at h
  refine lv_aload_n hx hb d_Rd_refresh_79 rfl (lv_at hl 0 rfl) ?_
  refine va_get (D := D) (ci := 2) (C := R_Rd) (T := T_Rd) (N := 5) hx hb hts in_Rd hown hK hst.1 25 (WS_o25 g σ) rfl 4 (by decide) (hts _ gw214) (fun _ h9 => h9) rfl d_Rd_refresh_80 ?_
  refine lv_aload_n hx hb d_Rd_refresh_83 rfl (lv_at hl 0 rfl) ?_
  refine va_get (D := D) (ci := 2) (C := R_Rd) (T := T_Rd) (N := 5) hx hb hts in_Rd hown hK hst.1 25 (WS_o25 g σ) rfl 2 (by decide) (hts _ gw212) (fun _ h9 => h9) rfl d_Rd_refresh_84 ?_
  refine va_get (D := D) (ci := 1) (C := R_Tx) (T := T_Tx) (N := 2) hx hb hts in_Tx hown hK hst.1 23 (WS_o23 g σ) rfl 1 (by decide) (hts _ gw114) (fun _ h9 => h9) rfl d_Rd_refresh_87 ?_
  refine lv_icmp_lt (tgt := 106) hx hb d_Rd_refresh_90 (by decide) (fun hc => ?_) (fun hc => ?_)
  · replace h := h.1 hc
    refine lv_aload_n hx hb d_Rd_refresh_106 rfl (lv_at hl 0 rfl) ?_
    refine lv_iconst (v := (-1 : Int32)) hx hb d_Rd_refresh_107 (by decide) ?_
    refine lv_iconst (v := (-1 : Int32)) hx hb d_Rd_refresh_108 (by decide) ?_
    refine lv_iconst (v := (0 : Int32)) hx hb d_Rd_refresh_109 (by decide) ?_
    refine kw_callv (va_runV (As := [.int (-1 : Int32), .int (-1 : Int32), .int (0 : Int32)]) (rest := []) (b := g.1 25) ⟨hx, hb, hml, hown, hts⟩ (c_Rd_readValue_13 l (-1 : Int32) (-1 : Int32) (0 : Int32) h) (cwV 3 hts (gd_v gw642 gw644 gs7 gw9 gw645) rfl rfl rfl (by decide +kernel) ⟨Nat.le_of_ble_eq_true rfl, Nat.le_of_ble_eq_true rfl⟩) ⟨kw_blind (Zk_ok g), va_recv hK hst.1 rfl (WS_o25 g σ), kw_pre (Zk_ok g) hK hZ hA hst⟩ rfl rfl hl.1 rfl (lv_room (Nat.le_of_ble_eq_true rfl)) d_Rd_refresh_110 ⟨Nat.le_of_ble_eq_true rfl, Nat.le_of_ble_eq_true rfl⟩) hst hA (fun σ1 H locs h hst => ?_)
    refine lv_aload_n hx hb d_Rd_refresh_113 rfl (lv_at hl 0 rfl) ?_
    refine kw_callv (va_runV (As := []) (rest := []) (b := g.1 25) ⟨hx, hb, hml, hown, hts⟩ (c_Rd_passBlanks_13 l h) (cwV 0 hts (gd_v gw617 gw619 gs4 gw9 gw620) rfl rfl rfl (by decide +kernel) ⟨Nat.le_of_ble_eq_true rfl, Nat.le_of_ble_eq_true rfl⟩) ⟨kw_blind (Zk_ok g), va_recv hK hst.1 rfl (WS_o25 g σ1), kw_pre (Zk_ok g) hK hZ hA hst⟩ rfl rfl hl.1 rfl (lv_room (Nat.le_of_ble_eq_true rfl)) d_Rd_refresh_114 ⟨Nat.le_of_ble_eq_true rfl, Nat.le_of_ble_eq_true rfl⟩) hst hA (fun σ2 H locs h hst => ?_)
    refine lv_aload_n hx hb d_Rd_refresh_117 rfl (lv_at hl 0 rfl) ?_
    refine va_get (D := D) (ci := 2) (C := R_Rd) (T := T_Rd) (N := 5) hx hb hts in_Rd hown hK hst.1 25 (WS_o25 g σ2) rfl 4 (by decide) (hts _ gw214) (fun _ h9 => h9) rfl d_Rd_refresh_118 ?_
    refine lv_aload_n hx hb d_Rd_refresh_121 rfl (lv_at hl 0 rfl) ?_
    refine va_get (D := D) (ci := 2) (C := R_Rd) (T := T_Rd) (N := 5) hx hb hts in_Rd hown hK hst.1 25 (WS_o25 g σ2) rfl 2 (by decide) (hts _ gw212) (fun _ h9 => h9) rfl d_Rd_refresh_122 ?_
    refine va_get (D := D) (ci := 1) (C := R_Tx) (T := T_Tx) (N := 2) hx hb hts in_Tx hown hK hst.1 23 (WS_o23 g σ2) rfl 1 (by decide) (hts _ gw114) (fun _ h9 => h9) rfl d_Rd_refresh_125 ?_
    refine lv_icmp_ge (tgt := 143) hx hb d_Rd_refresh_128 (by decide) (fun hc => ?_) (fun hc => ?_)
    · replace h := h.1 hc
      exact kw_vret hx hb hr hlocks hst h d_Rd_refresh_143
    · replace h := h.2 hc
      refine lv_aload_n hx hb d_Rd_refresh_131 rfl (lv_at hl 0 rfl) ?_
      refine va_get (D := D) (ci := 2) (C := R_Rd) (T := T_Rd) (N := 5) hx hb hts in_Rd hown hK hst.1 25 (WS_o25 g σ2) rfl 0 (by decide) (hts _ gw208) (fun _ h9 => h9) rfl d_Rd_refresh_132 ?_
      refine lv_iconst (v := (2 : Int32)) hx hb d_Rd_refresh_135 (by decide) ?_
      refine lv_aload_n hx hb d_Rd_refresh_136 rfl (lv_at hl 0 rfl) ?_
      refine va_get (D := D) (ci := 2) (C := R_Rd) (T := T_Rd) (N := 5) hx hb hts in_Rd hown hK hst.1 25 (WS_o25 g σ2) rfl 4 (by decide) (hts _ gw214) (fun _ h9 => h9) rfl d_Rd_refresh_137 ?_
      refine kw_callv (va_runV (As := [.int (2 : Int32), .int (σ2.1 25 4)]) (rest := []) (b := g.1 13) ⟨hx, hb, hml, hown, hts⟩ (c_Tr_blame_13 l (2 : Int32) (σ2.1 25 4) h) (cwV 2 hts (gd_v gw638 gw639 gw640 gw7 gw641) rfl rfl rfl (by decide +kernel) ⟨Nat.le_of_ble_eq_true rfl, Nat.le_of_ble_eq_true rfl⟩) ⟨kw_blind (Zk_ok g), va_recv hK hst.1 rfl (WS_o13 g σ2), kw_pre (Zk_ok g) hK hZ hA hst⟩ rfl rfl hl.1 rfl (lv_room (Nat.le_of_ble_eq_true rfl)) d_Rd_refresh_140 ⟨Nat.le_of_ble_eq_true rfl, Nat.le_of_ble_eq_true rfl⟩) hst hA (fun σ3 H locs h hst => ?_)
      exact kw_vret hx hb hr hlocks hst h d_Rd_refresh_143
  · replace h := h.2 hc
    refine lv_aload_n hx hb d_Rd_refresh_93 rfl (lv_at hl 0 rfl) ?_
    refine va_get (D := D) (ci := 2) (C := R_Rd) (T := T_Rd) (N := 5) hx hb hts in_Rd hown hK hst.1 25 (WS_o25 g σ) rfl 0 (by decide) (hts _ gw208) (fun _ h9 => h9) rfl d_Rd_refresh_94 ?_
    refine lv_iconst (v := (1 : Int32)) hx hb d_Rd_refresh_97 (by decide) ?_
    refine lv_aload_n hx hb d_Rd_refresh_98 rfl (lv_at hl 0 rfl) ?_
    refine va_get (D := D) (ci := 2) (C := R_Rd) (T := T_Rd) (N := 5) hx hb hts in_Rd hown hK hst.1 25 (WS_o25 g σ) rfl 4 (by decide) (hts _ gw214) (fun _ h9 => h9) rfl d_Rd_refresh_99 ?_
    refine kw_callv (va_runV (As := [.int (1 : Int32), .int (σ.1 25 4)]) (rest := []) (b := g.1 13) ⟨hx, hb, hml, hown, hts⟩ (c_Tr_blame_13 l (1 : Int32) (σ.1 25 4) h) (cwV 2 hts (gd_v gw638 gw639 gw640 gw7 gw641) rfl rfl rfl (by decide +kernel) ⟨Nat.le_of_ble_eq_true rfl, Nat.le_of_ble_eq_true rfl⟩) ⟨kw_blind (Zk_ok g), va_recv hK hst.1 rfl (WS_o13 g σ), kw_pre (Zk_ok g) hK hZ hA hst⟩ rfl rfl hl.1 rfl (lv_room (Nat.le_of_ble_eq_true rfl)) d_Rd_refresh_102 ⟨Nat.le_of_ble_eq_true rfl, Nat.le_of_ble_eq_true rfl⟩) hst hA (fun σ1 H locs h hst => ?_)
    exact kw_vret hx hb hr hlocks hst h d_Rd_refresh_105
set_option maxRecDepth 100000 in
set_option maxHeartbeats 4000000 in
theorem a_Rd_refresh_13 {p : Program} {l : Launch} {e : Env} {s : State} {m : MethodId} {args : Array Value} {below : List Frame} {meth : Method} {c : Code} {D : va_G} {g : Gm} {A : Nat → Prop} {post : Sg → Prop} (C : kC p s m args meth c k_Rd_refresh 2 (none) GW R_Rd D vwCl g (Zk g) A) : ∀ n : Nat, J_Rd_refresh_13_1 p l e s m args below meth c D g A post (wp_Rd_refresh 13 post n) ∧ J_Rd_refresh_13_2 p l e s m args below meth c D g A post (wp_Rd_refresh 13 post n) := by
  intro n
  induction n with
  | zero => exact ⟨fun _ _ _ _ _ _ _ h => h.elim, fun _ _ _ _ _ _ h => h.elim⟩
  | succ n ih => exact ⟨fun x1 σ H locs ls hl hst h => b_Rd_refresh_13_1 (F := wp_Rd_refresh 13 post n) C (ih.1) (ih.2) x1 σ H locs ls hl hst h, fun σ H locs ls hl hst h => b_Rd_refresh_13_2 (F := wp_Rd_refresh 13 post n) C σ H locs ls hl hst h⟩
set_option maxRecDepth 100000 in
set_option maxHeartbeats 4000000 in
theorem c_Rd_refresh_13 (l : Launch) {D : va_G} {g : Gm} {sz : Nat} {σ : Sg} {post : Sg → Prop} (h : wq_Rd_refresh 13 σ post) : Met l y_Rd_refresh (.code y_Rd_refresh k_Rd_refresh 2 (none) :: GW) { frames := 35, cells := 0, slots := 0, locals := 885 } (PcW D vwCl (WS g) g (Zk g) σ sz [.ref (g.1 25)]) (QvW D vwCl (WS g) post (va_A (WS g σ) sz)) 0 0 (va_A (WS g σ) sz) := by
  refine kw_entry (own := R_Rd) (by decide) rfl rfl (Nat.le_of_ble_eq_true rfl) ?_
  intro p e s m below meth c ls hsz C hin hl hst
  obtain ⟨n, h⟩ := h
  cases n with
  | zero => exact h.elim
  | succ n =>
    have ih := a_Rd_refresh_13 (l := l) (e := e) (below := below) (post := post) C n
    exact b_Rd_refresh_13_0 (F := wp_Rd_refresh 13 post n) C (ih.1) σ _ _ ls hl hst h
/-! SchemaDesk.readTree (I)LSchemaDesk$Tree; -/
abbrev k_Sd_readTree : ByteArray := prog_1_method_20_code
abbrev y_Sd_readTree : MethodName := ⟨"SchemaDesk", "readTree", "(I)LSchemaDesk$Tree;"⟩
theorem d_Sd_readTree_0 : decode k_Sd_readTree 0 = .ok (.iload_n 1, 1) := by decide +kernel
theorem d_Sd_readTree_1 : decode k_Sd_readTree 1 = .ok (.ifCond .ne 10, 3) := by decide +kernel
theorem d_Sd_readTree_4 : decode k_Sd_readTree 4 = .ok (.aload_n 0, 1) := by decide +kernel
theorem d_Sd_readTree_5 : decode k_Sd_readTree 5 = .ok (.getfield 38, 3) := by decide +kernel
theorem d_Sd_readTree_8 : decode k_Sd_readTree 8 = .ok (.goto 7, 3) := by decide +kernel
theorem d_Sd_readTree_11 : decode k_Sd_readTree 11 = .ok (.aload_n 0, 1) := by decide +kernel
theorem d_Sd_readTree_12 : decode k_Sd_readTree 12 = .ok (.getfield 42, 3) := by decide +kernel
theorem d_Sd_readTree_15 : decode k_Sd_readTree 15 = .ok (.astore_n 2, 1) := by decide +kernel
theorem d_Sd_readTree_16 : decode k_Sd_readTree 16 = .ok (.aload_n 2, 1) := by decide +kernel
theorem d_Sd_readTree_17 : decode k_Sd_readTree 17 = .ok (.invokevirtual 209, 3) := by decide +kernel
theorem d_Sd_readTree_20 : decode k_Sd_readTree 20 = .ok (.aload_n 2, 1) := by decide +kernel
theorem d_Sd_readTree_21 : decode k_Sd_readTree 21 = .ok (.getfield 210, 3) := by decide +kernel
theorem d_Sd_readTree_24 : decode k_Sd_readTree 24 = .ok (.areturn, 1) := by decide +kernel
theorem gw609 : (Jvm.Cond.methodLink "SchemaDesk" (209 : Nat) ({ cls := "SchemaDesk$Reader", name := "refresh", desc := "()V" } : Jvm.MethodName)) ∈ GW := gw_t3 (List.mem_of_getElem? (i := 129) rfl) rfl
theorem gw610 : (Jvm.Cond.instanceMethod ({ cls := "SchemaDesk$Reader", name := "refresh", desc := "()V" } : Jvm.MethodName)) ∈ GW := gw_t3 (List.mem_of_getElem? (i := 130) rfl) rfl
theorem gw611 : (Jvm.Cond.selects "SchemaDesk$Reader" ({ cls := "SchemaDesk$Reader", name := "refresh", desc := "()V" } : Jvm.MethodName) ({ cls := "SchemaDesk$Reader", name := "refresh", desc := "()V" } : Jvm.MethodName)) ∈ GW := gw_t3 (List.mem_of_getElem? (i := 131) rfl) rfl
theorem gw612 : (Jvm.Cond.code ({ cls := "SchemaDesk$Reader", name := "refresh", desc := "()V" } : Jvm.MethodName) prog_5_method_2_code (2 : Nat) (Option.none : Option Jvm.ClassFile.FieldType)) ∈ GW := gw_t3 (List.mem_of_getElem? (i := 132) rfl) rfl
theorem gw209 : (Jvm.Cond.fieldLink "SchemaDesk" (210 : Nat) "SchemaDesk$Reader" "tree" "LSchemaDesk$Tree;") ∈ GW := gw_t1 (List.mem_of_getElem? (i := 209) rfl) rfl
def wq_Sd_readTree (x1 : Int32) (σ : Sg) (post : Nat → Sg → Prop) : Prop := ((¬ x1 = 0 → (wq_Rd_refresh 13 σ (fun σ1 => post 13 σ1))) ∧ (x1 = 0 → (wq_Rd_refresh 0 σ (fun σ1 => post 0 σ1))))
set_option maxRecDepth 100000 in
set_option maxHeartbeats 4000000 in
theorem b_Sd_readTree_0 {p : Program} {l : Launch} {e : Env} {s : State} {m : MethodId} {args : Array Value} {below : List Frame} {meth : Method} {c : Code} {D : va_G} {g : Gm} {A : Nat → Prop} {post : Nat → Sg → Prop} (C : kC p s m args meth c k_Sd_readTree 3 (some (.object "SchemaDesk$Tree")) GW R_Sd D vwCl g (Zk g) A) (x1 : Int32) (σ : Sg) (H : Heap) (locs : List Loc) (ls : Array Slot) (hl : lv_has ls 3 [(0, .ref (g.1 51)), (1, .int x1)]) (hst : Wst D vwCl (WS g) A s σ H locs) (h : wq_Sd_readTree x1 σ post) : W p l e { frames := 36, cells := 0, slots := 0, locals := 906 } s m args below meth c H locs 0 0 (MQ below (QrW D vwCl (WS g) g 0 post A) args s 0 0 A) (F0 m 0 ls []) := by
  obtain ⟨hx, hb, hr, hml, hown, hts, hlocks, hK, hZ, hA⟩ := C
  unfold wq_Sd_readTree at h
  refine lv_iload_n hx hb d_Sd_readTree_0 rfl (lv_at hl 1 rfl) ?_
  refine lv_if_ne (tgt := 11) hx hb d_Sd_readTree_1 (by decide) (fun hc => ?_) (fun hc => ?_)
  · replace h := h.1 hc
    refine lv_aload_n hx hb d_Sd_readTree_11 rfl (lv_at hl 0 rfl) ?_
    refine va_get (D := D) (ci := 9) (C := R_Sd) (T := T_Sd) (N := 9) hx hb hts in_Sd hown hK hst.1 51 (WS_o51 g σ) rfl 4 (by decide) (hts _ gw403) (fun _ h9 => h9) rfl d_Sd_readTree_12 ?_
    refine lv_astore_n hx hb d_Sd_readTree_15 rfl hl (by decide) rfl (fun ls hl => ?_)
    have hl : lv_has ls 3 [(2, .ref (g.1 25)), (0, .ref (g.1 51)), (1, .int x1)] := hl
    refine lv_aload_n hx hb d_Sd_readTree_16 rfl (lv_at hl 0 rfl) ?_
    refine kw_callv (va_runV (As := []) (rest := []) (b := g.1 25) ⟨hx, hb, hml, hown, hts⟩ (c_Rd_refresh_13 l h) (cwV 0 hts (gd_v gw609 gw610 gw611 gw9 gw612) rfl rfl rfl (by decide +kernel) ⟨Nat.le_of_ble_eq_true rfl, Nat.le_of_ble_eq_true rfl⟩) ⟨kw_blind (Zk_ok g), va_recv hK hst.1 rfl (WS_o25 g σ), kw_pre (Zk_ok g) hK hZ hA hst⟩ rfl rfl hl.1 rfl (lv_room (Nat.le_of_ble_eq_true rfl)) d_Sd_readTree_17 ⟨Nat.le_of_ble_eq_true rfl, Nat.le_of_ble_eq_true rfl⟩) hst hA (fun σ1 H locs h hst => ?_)
    refine lv_aload_n hx hb d_Sd_readTree_20 rfl (lv_at hl 0 rfl) ?_
    refine va_get (D := D) (ci := 2) (C := R_Rd) (T := T_Rd) (N := 5) hx hb hts in_Rd hown hK hst.1 25 (WS_o25 g σ1) rfl 0 (by decide) (hts _ gw209) (fun _ h9 => h9) rfl d_Sd_readTree_21 ?_
    exact kw_aret (k := 13) hx hb hr hlocks hst h rfl d_Sd_readTree_24
  · replace h := h.2 hc
    refine lv_aload_n hx hb d_Sd_readTree_4 rfl (lv_at hl 0 rfl) ?_
    refine va_get (D := D) (ci := 9) (C := R_Sd) (T := T_Sd) (N := 9) hx hb hts in_Sd hown hK hst.1 51 (WS_o51 g σ) rfl 3 (by decide) (hts _ gw402) (fun _ h9 => h9) rfl d_Sd_readTree_5 ?_
    refine lv_goto (tgt := 15) hx hb d_Sd_readTree_8 (by decide) ?_
    refine lv_astore_n hx hb d_Sd_readTree_15 rfl hl (by decide) rfl (fun ls hl => ?_)
    have hl : lv_has ls 3 [(2, .ref (g.1 12)), (0, .ref (g.1 51)), (1, .int x1)] := hl
    refine lv_aload_n hx hb d_Sd_readTree_16 rfl (lv_at hl 0 rfl) ?_
    refine kw_callv (va_runV (As := []) (rest := []) (b := g.1 12) ⟨hx, hb, hml, hown, hts⟩ (c_Rd_refresh_0 l h) (cwV 0 hts (gd_v gw609 gw610 gw611 gw9 gw612) rfl rfl rfl (by decide +kernel) ⟨Nat.le_of_ble_eq_true rfl, Nat.le_of_ble_eq_true rfl⟩) ⟨kw_blind (Zk_ok g), va_recv hK hst.1 rfl (WS_o12 g σ), kw_pre (Zk_ok g) hK hZ hA hst⟩ rfl rfl hl.1 rfl (lv_room (Nat.le_of_ble_eq_true rfl)) d_Sd_readTree_17 ⟨Nat.le_of_ble_eq_true rfl, Nat.le_of_ble_eq_true rfl⟩) hst hA (fun σ1 H locs h hst => ?_)
    refine lv_aload_n hx hb d_Sd_readTree_20 rfl (lv_at hl 0 rfl) ?_
    refine va_get (D := D) (ci := 2) (C := R_Rd) (T := T_Rd) (N := 5) hx hb hts in_Rd hown hK hst.1 12 (WS_o12 g σ1) rfl 0 (by decide) (hts _ gw209) (fun _ h9 => h9) rfl d_Sd_readTree_21 ?_
    exact kw_aret (k := 0) hx hb hr hlocks hst h rfl d_Sd_readTree_24
set_option maxRecDepth 100000 in
set_option maxHeartbeats 4000000 in
theorem c_Sd_readTree (l : Launch) {D : va_G} {g : Gm} {sz : Nat} (x1 : Int32) {σ : Sg} {post : Nat → Sg → Prop} (h : wq_Sd_readTree x1 σ post) : Met l y_Sd_readTree (.code y_Sd_readTree k_Sd_readTree 3 (some (.object "SchemaDesk$Tree")) :: GW) { frames := 36, cells := 0, slots := 0, locals := 906 } (PcW D vwCl (WS g) g (Zk g) σ sz [.ref (g.1 51), .int x1]) (QrW D vwCl (WS g) g 0 post (va_A (WS g σ) sz)) 0 0 (va_A (WS g σ) sz) := by
  refine kw_entry (own := R_Sd) (by decide) rfl rfl (Nat.le_of_ble_eq_true rfl) ?_
  intro p e s m below meth c ls hsz C hin hl hst
  exact b_Sd_readTree_0 C x1 σ _ _ ls hl hst h
/-! SchemaDesk$Verdicts.hasSame (II)Z -/
abbrev k_Vd_hasSame : ByteArray := prog_9_method_15_code
abbrev y_Vd_hasSame : MethodName := ⟨"SchemaDesk$Verdicts", "hasSame", "(II)Z"⟩
theorem d_Vd_hasSame_0 : decode k_Vd_hasSame 0 = .ok (.iconst 0, 1) := by decide +kernel
theorem d_Vd_hasSame_1 : decode k_Vd_hasSame 1 = .ok (.istore_n 3, 1) := by decide +kernel
theorem d_Vd_hasSame_2 : decode k_Vd_hasSame 2 = .ok (.iload_n 1, 1) := by decide +kernel
theorem d_Vd_hasSame_3 : decode k_Vd_hasSame 3 = .ok (.iconst 1, 1) := by decide +kernel
theorem d_Vd_hasSame_4 : decode k_Vd_hasSame 4 = .ok (.iadd, 1) := by decide +kernel
theorem d_Vd_hasSame_5 : decode k_Vd_hasSame 5 = .ok (.istore 4, 2) := by decide +kernel
theorem d_Vd_hasSame_7 : decode k_Vd_hasSame 7 = .ok (.iload_n 3, 1) := by decide +kernel
theorem d_Vd_hasSame_8 : decode k_Vd_hasSame 8 = .ok (.aload_n 0, 1) := by decide +kernel
theorem d_Vd_hasSame_9 : decode k_Vd_hasSame 9 = .ok (.getfield 31, 3) := by decide +kernel
theorem d_Vd_hasSame_12 : decode k_Vd_hasSame 12 = .ok (.getfield 69, 3) := by decide +kernel
theorem d_Vd_hasSame_15 : decode k_Vd_hasSame 15 = .ok (.iload_n 1, 1) := by decide +kernel
theorem d_Vd_hasSame_16 : decode k_Vd_hasSame 16 = .ok (.iaload, 1) := by decide +kernel
theorem d_Vd_hasSame_17 : decode k_Vd_hasSame 17 = .ok (.if_icmp .ge 34, 3) := by decide +kernel
theorem d_Vd_hasSame_20 : decode k_Vd_hasSame 20 = .ok (.aload_n 0, 1) := by decide +kernel
theorem d_Vd_hasSame_21 : decode k_Vd_hasSame 21 = .ok (.iload 4, 2) := by decide +kernel
theorem d_Vd_hasSame_23 : decode k_Vd_hasSame 23 = .ok (.iload_n 2, 1) := by decide +kernel
theorem d_Vd_hasSame_24 : decode k_Vd_hasSame 24 = .ok (.iconst 0, 1) := by decide +kernel
theorem d_Vd_hasSame_25 : decode k_Vd_hasSame 25 = .ok (.invokevirtual 123, 3) := by decide +kernel
theorem d_Vd_hasSame_28 : decode k_Vd_hasSame 28 = .ok (.ifCond .eq 5, 3) := by decide +kernel
theorem d_Vd_hasSame_31 : decode k_Vd_hasSame 31 = .ok (.iconst 1, 1) := by decide +kernel
theorem d_Vd_hasSame_32 : decode k_Vd_hasSame 32 = .ok (.ireturn, 1) := by decide +kernel
theorem d_Vd_hasSame_33 : decode k_Vd_hasSame 33 = .ok (.iinc 3 1, 3) := by decide +kernel
theorem d_Vd_hasSame_36 : decode k_Vd_hasSame 36 = .ok (.aload_n 0, 1) := by decide +kernel
theorem d_Vd_hasSame_37 : decode k_Vd_hasSame 37 = .ok (.getfield 31, 3) := by decide +kernel
theorem d_Vd_hasSame_40 : decode k_Vd_hasSame 40 = .ok (.getfield 76, 3) := by decide +kernel
theorem d_Vd_hasSame_43 : decode k_Vd_hasSame 43 = .ok (.iload 4, 2) := by decide +kernel
theorem d_Vd_hasSame_45 : decode k_Vd_hasSame 45 = .ok (.iaload, 1) := by decide +kernel
theorem d_Vd_hasSame_46 : decode k_Vd_hasSame 46 = .ok (.istore 4, 2) := by decide +kernel
theorem d_Vd_hasSame_48 : decode k_Vd_hasSame 48 = .ok (.goto (-41), 3) := by decide +kernel
theorem d_Vd_hasSame_51 : decode k_Vd_hasSame 51 = .ok (.iconst 0, 1) := by decide +kernel
theorem d_Vd_hasSame_52 : decode k_Vd_hasSame 52 = .ok (.ireturn, 1) := by decide +kernel
def wb_Vd_hasSame_0 (F : Nat → Int32 → Int32 → Int32 → Int32 → Sg → Prop) (post : Int32 → Sg → Prop) (x1 : Int32) (x2 : Int32) (σ : Sg) : Prop := F 1 x1 x2 (0 : Int32) (x1 + (1 : Int32)) σ
def wb_Vd_hasSame_1 (F : Nat → Int32 → Int32 → Int32 → Int32 → Sg → Prop) (post : Int32 → Sg → Prop) (x1 : Int32) (x2 : Int32) (x3 : Int32) (x4 : Int32) (σ : Sg) : Prop := (vp_in x1 160 ∧ (((σ.1 5 x1.toNatClampNeg) ≤ x3 → (narrow .boolean (.int (0 : Int32)) = .int (0 : Int32) ∧ post (0 : Int32) σ)) ∧ (¬ (σ.1 5 x1.toNatClampNeg) ≤ x3 → (wq_Vd_isSame x4 x2 (0 : Int32) σ (fun r1 σ1 => ((r1 = 0 → (vp_in x4 160 ∧ F 1 x1 x2 (x3 + 1) (σ1.1 8 x4.toNatClampNeg) σ1)) ∧ (¬ r1 = 0 → (narrow .boolean (.int (1 : Int32)) = .int (1 : Int32) ∧ post (1 : Int32) σ1))))))))
def wp_Vd_hasSame (post : Int32 → Sg → Prop) : Nat → Nat → Int32 → Int32 → Int32 → Int32 → Sg → Prop
  | 0, _, _, _, _, _, _ => False
  | n + 1, k, x1, x2, x3, x4, σ => match k with
    | 0 => wb_Vd_hasSame_0 (wp_Vd_hasSame post n) post x1 x2 σ
    | 1 => wb_Vd_hasSame_1 (wp_Vd_hasSame post n) post x1 x2 x3 x4 σ
    | _ => False
def wq_Vd_hasSame (x1 : Int32) (x2 : Int32) (σ : Sg) (post : Int32 → Sg → Prop) : Prop := ∃ n, wp_Vd_hasSame post n 0 x1 x2 0 0 σ
def J_Vd_hasSame_1 (p : Program) (l : Launch) (e : Env) (s : State) (m : MethodId) (args : Array Value) (below : List Frame) (meth : Method) (c : Code) (D : va_G) (g : Gm) (A : Nat → Prop) (post : Int32 → Sg → Prop) (F : Nat → Int32 → Int32 → Int32 → Int32 → Sg → Prop) : Prop := ∀ (x1 : Int32) (x2 : Int32) (x3 : Int32) (x4 : Int32) (σ : Sg) (H : Heap) (locs : List Loc) (ls : Array Slot), lv_has ls 5 [(0, .ref (g.1 35)), (1, .int x1), (2, .int x2), (3, .int x3), (4, .int x4)] → Wst D vwCl (WS g) A s σ H locs → F 1 x1 x2 x3 x4 σ → W p l e { frames := 16, cells := 0, slots := 0, locals := 436 } s m args below meth c H locs 0 0 (MQ below (QiW D vwCl (WS g) post A) args s 0 0 A) (F0 m 7 ls [])
set_option maxRecDepth 100000 in
set_option maxHeartbeats 4000000 in
theorem b_Vd_hasSame_0 {p : Program} {l : Launch} {e : Env} {s : State} {m : MethodId} {args : Array Value} {below : List Frame} {meth : Method} {c : Code} {D : va_G} {g : Gm} {A : Nat → Prop} {post : Int32 → Sg → Prop} {F : Nat → Int32 → Int32 → Int32 → Int32 → Sg → Prop} (C : kC p s m args meth c k_Vd_hasSame 5 (some .boolean) GW R_Vd D vwCl g (Zk g) A) (j1 : J_Vd_hasSame_1 p l e s m args below meth c D g A post F) (x1 : Int32) (x2 : Int32) (σ : Sg) (H : Heap) (locs : List Loc) (ls : Array Slot) (hl : lv_has ls 5 [(0, .ref (g.1 35)), (1, .int x1), (2, .int x2)]) (hst : Wst D vwCl (WS g) A s σ H locs) (h : wb_Vd_hasSame_0 F post x1 x2 σ) : W p l e { frames := 16, cells := 0, slots := 0, locals := 436 } s m args below meth c H locs 0 0 (MQ below (QiW D vwCl (WS g) post A) args s 0 0 A) (F0 m 0 ls []) := by
  obtain ⟨hx, hb, hr, hml, hown, hts, hlocks, hK, hZ, hA⟩ := C
  unfold wb_Vd_hasSame_0 at h
  refine lv_iconst (v := (0 : Int32)) hx hb d_Vd_hasSame_0 (by decide) ?_
  refine lv_istore_n hx hb d_Vd_hasSame_1 rfl hl (by decide) rfl (fun ls hl => ?_)
  have hl : lv_has ls 5 [(3, .int (0 : Int32)), (0, .ref (g.1 35)), (1, .int x1), (2, .int x2)] := hl
  refine lv_iload_n hx hb d_Vd_hasSame_2 rfl (lv_at hl 2 rfl) ?_
  refine lv_iconst (v := (1 : Int32)) hx hb d_Vd_hasSame_3 (by decide) ?_
  refine lv_iadd hx hb d_Vd_hasSame_4 ?_
  refine lv_istore hx hb d_Vd_hasSame_5 hl (by decide) rfl (fun ls hl => ?_)
  have hl : lv_has ls 5 [(4, .int (x1 + (1 : Int32))), (3, .int (0 : Int32)), (0, .ref (g.1 35)), (1, .int x1), (2, .int x2)] := hl
  exact j1 x1 x2 (0 : Int32) (x1 + (1 : Int32)) σ _ _ _ (lv_sub hl [2, 3, 4, 1, 0] rfl) hst h
set_option maxRecDepth 100000 in
set_option maxHeartbeats 4000000 in
theorem b_Vd_hasSame_1 {p : Program} {l : Launch} {e : Env} {s : State} {m : MethodId} {args : Array Value} {below : List Frame} {meth : Method} {c : Code} {D : va_G} {g : Gm} {A : Nat → Prop} {post : Int32 → Sg → Prop} {F : Nat → Int32 → Int32 → Int32 → Int32 → Sg → Prop} (C : kC p s m args meth c k_Vd_hasSame 5 (some .boolean) GW R_Vd D vwCl g (Zk g) A) (j1 : J_Vd_hasSame_1 p l e s m args below meth c D g A post F) (x1 : Int32) (x2 : Int32) (x3 : Int32) (x4 : Int32) (σ : Sg) (H : Heap) (locs : List Loc) (ls : Array Slot) (hl : lv_has ls 5 [(0, .ref (g.1 35)), (1, .int x1), (2, .int x2), (3, .int x3), (4, .int x4)]) (hst : Wst D vwCl (WS g) A s σ H locs) (h : wb_Vd_hasSame_1 F post x1 x2 x3 x4 σ) : W p l e { frames := 16, cells := 0, slots := 0, locals := 436 } s m args below meth c H locs 0 0 (MQ below (QiW D vwCl (WS g) post A) args s 0 0 A) (F0 m 7 ls []) := by
  obtain ⟨hx, hb, hr, hml, hown, hts, hlocks, hK, hZ, hA⟩ := C
  unfold wb_Vd_hasSame_1 at h
  refine lv_iload_n hx hb d_Vd_hasSame_7 rfl (lv_at hl 3 rfl) ?_
  refine lv_aload_n hx hb d_Vd_hasSame_8 rfl (lv_at hl 0 rfl) ?_
  refine va_get (D := D) (ci := 6) (C := R_Vd) (T := T_Vd) (N := 6) hx hb hts in_Vd hown hK hst.1 35 (WS_o35 g σ) rfl 1 (by decide) (hts _ gw302) (fun _ h9 => h9) rfl d_Vd_hasSame_9 ?_
  refine va_get (D := D) (ci := 0) (C := R_Tr) (T := T_Tr) (N := 12) hx hb hts in_Tr hown hK hst.1 0 (WS_o0 g σ) rfl 5 (by decide) (hts _ gw150) (fun _ h9 => h9) rfl d_Vd_hasSame_12 ?_
  refine lv_iload_n hx hb d_Vd_hasSame_15 rfl (lv_at hl 1 rfl) ?_
  obtain ⟨hi, h⟩ := h
  refine va_iald hx hb hK hst.1 5 0 (WS_a5 g σ) rfl hi d_Vd_hasSame_16 ?_
  refine lv_icmp_ge (tgt := 51) hx hb d_Vd_hasSame_17 (by decide) (fun hc => ?_) (fun hc => ?_)
  · replace h := h.1 hc
    refine lv_iconst (v := (0 : Int32)) hx hb d_Vd_hasSame_51 (by decide) ?_
    exact kw_zret hx hb hr hlocks hst h d_Vd_hasSame_52
  · replace h := h.2 hc
    refine lv_aload_n hx hb d_Vd_hasSame_20 rfl (lv_at hl 0 rfl) ?_
    refine lv_iload hx hb d_Vd_hasSame_21 (lv_at hl 4 rfl) ?_
    refine lv_iload_n hx hb d_Vd_hasSame_23 rfl (lv_at hl 2 rfl) ?_
    refine lv_iconst (v := (0 : Int32)) hx hb d_Vd_hasSame_24 (by decide) ?_
    refine kw_calli (va_runV (As := [.int x4, .int x2, .int (0 : Int32)]) (rest := []) (b := g.1 35) ⟨hx, hb, hml, hown, hts⟩ (c_Vd_isSame l x4 x2 (0 : Int32) h) (cwV 3 hts (gd_v gw857 gw859 gs27 gw11 gw860) rfl rfl rfl (by decide +kernel) ⟨Nat.le_of_ble_eq_true rfl, Nat.le_of_ble_eq_true rfl⟩) ⟨kw_blind (Zk_ok g), va_recv hK hst.1 rfl (WS_o35 g σ), kw_pre (Zk_ok g) hK hZ hA hst⟩ rfl rfl hl.1 rfl (lv_room (Nat.le_of_ble_eq_true rfl)) d_Vd_hasSame_25 ⟨Nat.le_of_ble_eq_true rfl, Nat.le_of_ble_eq_true rfl⟩) hst hA (fun r1 σ1 H locs h hst => ?_)
    refine lv_if_eq (tgt := 33) hx hb d_Vd_hasSame_28 (by decide) (fun hc => ?_) (fun hc => ?_)
    · replace h := h.1 hc
      refine lv_iinc (k := 3) (v := (x3 + 1)) hx hb d_Vd_hasSame_33 hl rfl (kw_inc _ (by decide)) (by decide) rfl (fun ls hl => ?_)
      have hl : lv_has ls 5 [(3, .int (x3 + 1)), (0, .ref (g.1 35)), (1, .int x1), (2, .int x2), (4, .int x4)] := hl
      refine lv_aload_n hx hb d_Vd_hasSame_36 rfl (lv_at hl 1 rfl) ?_
      refine va_get (D := D) (ci := 6) (C := R_Vd) (T := T_Vd) (N := 6) hx hb hts in_Vd hown hK hst.1 35 (WS_o35 g σ1) rfl 1 (by decide) (hts _ gw302) (fun _ h9 => h9) rfl d_Vd_hasSame_37 ?_
      refine va_get (D := D) (ci := 0) (C := R_Tr) (T := T_Tr) (N := 12) hx hb hts in_Tr hown hK hst.1 0 (WS_o0 g σ1) rfl 8 (by decide) (hts _ gw165) (fun _ h9 => h9) rfl d_Vd_hasSame_40 ?_
      refine lv_iload hx hb d_Vd_hasSame_43 (lv_at hl 4 rfl) ?_
      obtain ⟨hi, h⟩ := h
      refine va_iald hx hb hK hst.1 8 0 (WS_a8 g σ1) rfl hi d_Vd_hasSame_45 ?_
      refine lv_istore hx hb d_Vd_hasSame_46 hl (by decide) rfl (fun ls hl => ?_)
      have hl : lv_has ls 5 [(4, .int (σ1.1 8 x4.toNatClampNeg)), (3, .int (x3 + 1)), (0, .ref (g.1 35)), (1, .int x1), (2, .int x2)] := hl
      refine lv_goto (tgt := 7) hx hb d_Vd_hasSame_48 (by decide) ?_
      exact j1 x1 x2 (x3 + 1) (σ1.1 8 x4.toNatClampNeg) σ1 _ _ _ (lv_sub hl [2, 3, 4, 1, 0] rfl) hst h
    · replace h := h.2 hc
      refine lv_iconst (v := (1 : Int32)) hx hb d_Vd_hasSame_31 (by decide) ?_
      exact kw_zret hx hb hr hlocks hst h d_Vd_hasSame_32
set_option maxRecDepth 100000 in
set_option maxHeartbeats 4000000 in
theorem a_Vd_hasSame {p : Program} {l : Launch} {e : Env} {s : State} {m : MethodId} {args : Array Value} {below : List Frame} {meth : Method} {c : Code} {D : va_G} {g : Gm} {A : Nat → Prop} {post : Int32 → Sg → Prop} (C : kC p s m args meth c k_Vd_hasSame 5 (some .boolean) GW R_Vd D vwCl g (Zk g) A) : ∀ n : Nat, J_Vd_hasSame_1 p l e s m args below meth c D g A post (wp_Vd_hasSame post n) := by
  intro n
  induction n with
  | zero => exact fun _ _ _ _ _ _ _ _ _ _ h => h.elim
  | succ n ih => exact fun x1 x2 x3 x4 σ H locs ls hl hst h => b_Vd_hasSame_1 (F := wp_Vd_hasSame post n) C (ih) x1 x2 x3 x4 σ H locs ls hl hst h
set_option maxRecDepth 100000 in
set_option maxHeartbeats 4000000 in
theorem c_Vd_hasSame (l : Launch) {D : va_G} {g : Gm} {sz : Nat} (x1 : Int32) (x2 : Int32) {σ : Sg} {post : Int32 → Sg → Prop} (h : wq_Vd_hasSame x1 x2 σ post) : Met l y_Vd_hasSame (.code y_Vd_hasSame k_Vd_hasSame 5 (some .boolean) :: GW) { frames := 16, cells := 0, slots := 0, locals := 436 } (PcW D vwCl (WS g) g (Zk g) σ sz [.ref (g.1 35), .int x1, .int x2]) (QiW D vwCl (WS g) post (va_A (WS g σ) sz)) 0 0 (va_A (WS g σ) sz) := by
  refine kw_entry (own := R_Vd) (by decide) rfl rfl (Nat.le_of_ble_eq_true rfl) ?_
  intro p e s m below meth c ls hsz C hin hl hst
  obtain ⟨n, h⟩ := h
  cases n with
  | zero => exact h.elim
  | succ n =>
    have ih := a_Vd_hasSame (l := l) (e := e) (below := below) (post := post) C n
    exact b_Vd_hasSame_0 (F := wp_Vd_hasSame post n) C (ih) x1 x2 σ _ _ ls hl hst h
/-! SchemaDesk$Verdicts.isSo (III)Z -/
abbrev k_Vd_isSo : ByteArray := prog_9_method_10_code
abbrev y_Vd_isSo : MethodName := ⟨"SchemaDesk$Verdicts", "isSo", "(III)Z"⟩
theorem d_Vd_isSo_0 : decode k_Vd_isSo 0 = .ok (.aload_n 0, 1) := by decide +kernel
theorem d_Vd_isSo_1 : decode k_Vd_isSo 1 = .ok (.getfield 31, 3) := by decide +kernel
theorem d_Vd_isSo_4 : decode k_Vd_isSo 4 = .ok (.getfield 59, 3) := by decide +kernel
theorem d_Vd_isSo_7 : decode k_Vd_isSo 7 = .ok (.iload_n 2, 1) := by decide +kernel
theorem d_Vd_isSo_8 : decode k_Vd_isSo 8 = .ok (.iaload, 1) := by decide +kernel
theorem d_Vd_isSo_9 : decode k_Vd_isSo 9 = .ok (.istore 4, 2) := by decide +kernel
theorem d_Vd_isSo_11 : decode k_Vd_isSo 11 = .ok (.aload_n 0, 1) := by decide +kernel
theorem d_Vd_isSo_12 : decode k_Vd_isSo 12 = .ok (.getfield 21, 3) := by decide +kernel
theorem d_Vd_isSo_15 : decode k_Vd_isSo 15 = .ok (.getfield 86, 3) := by decide +kernel
theorem d_Vd_isSo_18 : decode k_Vd_isSo 18 = .ok (.iload_n 2, 1) := by decide +kernel
theorem d_Vd_isSo_19 : decode k_Vd_isSo 19 = .ok (.iaload, 1) := by decide +kernel
theorem d_Vd_isSo_20 : decode k_Vd_isSo 20 = .ok (.tableswitch 478 1 20 #[96, 103, 111, 132, 132, 132, 190, 190, 247, 247, 305, 340, 340, 340, 348, 378, 399, 421, 436, 340], 96) := by decide +kernel
theorem d_Vd_isSo_116 : decode k_Vd_isSo 116 = .ok (.aload_n 0, 1) := by decide +kernel
theorem d_Vd_isSo_117 : decode k_Vd_isSo 117 = .ok (.iload_n 2, 1) := by decide +kernel
theorem d_Vd_isSo_118 : decode k_Vd_isSo 118 = .ok (.iload_n 3, 1) := by decide +kernel
theorem d_Vd_isSo_119 : decode k_Vd_isSo 119 = .ok (.invokevirtual 120, 3) := by decide +kernel
theorem d_Vd_isSo_122 : decode k_Vd_isSo 122 = .ok (.ireturn, 1) := by decide +kernel
theorem d_Vd_isSo_123 : decode k_Vd_isSo 123 = .ok (.aload_n 0, 1) := by decide +kernel
theorem d_Vd_isSo_124 : decode k_Vd_isSo 124 = .ok (.iload_n 2, 1) := by decide +kernel
theorem d_Vd_isSo_125 : decode k_Vd_isSo 125 = .ok (.iload_n 3, 1) := by decide +kernel
theorem d_Vd_isSo_126 : decode k_Vd_isSo 126 = .ok (.iconst 0, 1) := by decide +kernel
theorem d_Vd_isSo_127 : decode k_Vd_isSo 127 = .ok (.invokevirtual 123, 3) := by decide +kernel
theorem d_Vd_isSo_130 : decode k_Vd_isSo 130 = .ok (.ireturn, 1) := by decide +kernel
theorem d_Vd_isSo_131 : decode k_Vd_isSo 131 = .ok (.iload 4, 2) := by decide +kernel
theorem d_Vd_isSo_133 : decode k_Vd_isSo 133 = .ok (.iconst 5, 1) := by decide +kernel
theorem d_Vd_isSo_134 : decode k_Vd_isSo 134 = .ok (.if_icmp .ne 12, 3) := by decide +kernel
theorem d_Vd_isSo_137 : decode k_Vd_isSo 137 = .ok (.aload_n 0, 1) := by decide +kernel
theorem d_Vd_isSo_138 : decode k_Vd_isSo 138 = .ok (.iload_n 2, 1) := by decide +kernel
theorem d_Vd_isSo_139 : decode k_Vd_isSo 139 = .ok (.iload_n 3, 1) := by decide +kernel
theorem d_Vd_isSo_140 : decode k_Vd_isSo 140 = .ok (.invokevirtual 126, 3) := by decide +kernel
theorem d_Vd_isSo_143 : decode k_Vd_isSo 143 = .ok (.ifCond .eq 7, 3) := by decide +kernel
theorem d_Vd_isSo_146 : decode k_Vd_isSo 146 = .ok (.iconst 1, 1) := by decide +kernel
theorem d_Vd_isSo_147 : decode k_Vd_isSo 147 = .ok (.goto 4, 3) := by decide +kernel
theorem d_Vd_isSo_150 : decode k_Vd_isSo 150 = .ok (.iconst 0, 1) := by decide +kernel
theorem d_Vd_isSo_151 : decode k_Vd_isSo 151 = .ok (.ireturn, 1) := by decide +kernel
theorem d_Vd_isSo_152 : decode k_Vd_isSo 152 = .ok (.iload 4, 2) := by decide +kernel
theorem d_Vd_isSo_154 : decode k_Vd_isSo 154 = .ok (.iconst 3, 1) := by decide +kernel
theorem d_Vd_isSo_155 : decode k_Vd_isSo 155 = .ok (.if_icmp .ne 49, 3) := by decide +kernel
theorem d_Vd_isSo_158 : decode k_Vd_isSo 158 = .ok (.aload_n 0, 1) := by decide +kernel
theorem d_Vd_isSo_159 : decode k_Vd_isSo 159 = .ok (.getfield 32, 3) := by decide +kernel
theorem d_Vd_isSo_162 : decode k_Vd_isSo 162 = .ok (.getfield 59, 3) := by decide +kernel
theorem d_Vd_isSo_165 : decode k_Vd_isSo 165 = .ok (.iload_n 3, 1) := by decide +kernel
theorem d_Vd_isSo_166 : decode k_Vd_isSo 166 = .ok (.iaload, 1) := by decide +kernel
theorem d_Vd_isSo_167 : decode k_Vd_isSo 167 = .ok (.iconst 3, 1) := by decide +kernel
theorem d_Vd_isSo_168 : decode k_Vd_isSo 168 = .ok (.if_icmp .ne 36, 3) := by decide +kernel
theorem d_Vd_isSo_171 : decode k_Vd_isSo 171 = .ok (.aload_n 0, 1) := by decide +kernel
theorem d_Vd_isSo_172 : decode k_Vd_isSo 172 = .ok (.getfield 21, 3) := by decide +kernel
theorem d_Vd_isSo_175 : decode k_Vd_isSo 175 = .ok (.getfield 86, 3) := by decide +kernel
theorem d_Vd_isSo_178 : decode k_Vd_isSo 178 = .ok (.iload_n 2, 1) := by decide +kernel
theorem d_Vd_isSo_179 : decode k_Vd_isSo 179 = .ok (.iaload, 1) := by decide +kernel
theorem d_Vd_isSo_180 : decode k_Vd_isSo 180 = .ok (.aload_n 0, 1) := by decide +kernel
theorem d_Vd_isSo_181 : decode k_Vd_isSo 181 = .ok (.getfield 32, 3) := by decide +kernel
theorem d_Vd_isSo_184 : decode k_Vd_isSo 184 = .ok (.getfield 129, 3) := by decide +kernel
theorem d_Vd_isSo_187 : decode k_Vd_isSo 187 = .ok (.iload_n 3, 1) := by decide +kernel
theorem d_Vd_isSo_188 : decode k_Vd_isSo 188 = .ok (.iaload, 1) := by decide +kernel
theorem d_Vd_isSo_189 : decode k_Vd_isSo 189 = .ok (.aload_n 0, 1) := by decide +kernel
theorem d_Vd_isSo_190 : decode k_Vd_isSo 190 = .ok (.getfield 31, 3) := by decide +kernel
theorem d_Vd_isSo_193 : decode k_Vd_isSo 193 = .ok (.getfield 129, 3) := by decide +kernel
theorem d_Vd_isSo_196 : decode k_Vd_isSo 196 = .ok (.iload_n 2, 1) := by decide +kernel
theorem d_Vd_isSo_197 : decode k_Vd_isSo 197 = .ok (.iaload, 1) := by decide +kernel
theorem d_Vd_isSo_198 : decode k_Vd_isSo 198 = .ok (.invokestatic 132, 3) := by decide +kernel
theorem d_Vd_isSo_201 : decode k_Vd_isSo 201 = .ok (.ifCond .eq 7, 3) := by decide +kernel
theorem d_Vd_isSo_204 : decode k_Vd_isSo 204 = .ok (.iconst 1, 1) := by decide +kernel
theorem d_Vd_isSo_205 : decode k_Vd_isSo 205 = .ok (.goto 4, 3) := by decide +kernel
theorem d_Vd_isSo_208 : decode k_Vd_isSo 208 = .ok (.iconst 0, 1) := by decide +kernel
theorem d_Vd_isSo_209 : decode k_Vd_isSo 209 = .ok (.ireturn, 1) := by decide +kernel
theorem d_Vd_isSo_210 : decode k_Vd_isSo 210 = .ok (.iload 4, 2) := by decide +kernel
theorem d_Vd_isSo_212 : decode k_Vd_isSo 212 = .ok (.iconst 3, 1) := by decide +kernel
theorem d_Vd_isSo_213 : decode k_Vd_isSo 213 = .ok (.if_icmp .ne 48, 3) := by decide +kernel
theorem d_Vd_isSo_216 : decode k_Vd_isSo 216 = .ok (.aload_n 0, 1) := by decide +kernel
theorem d_Vd_isSo_217 : decode k_Vd_isSo 217 = .ok (.getfield 32, 3) := by decide +kernel
theorem d_Vd_isSo_220 : decode k_Vd_isSo 220 = .ok (.getfield 59, 3) := by decide +kernel
theorem d_Vd_isSo_223 : decode k_Vd_isSo 223 = .ok (.iload_n 3, 1) := by decide +kernel
theorem d_Vd_isSo_224 : decode k_Vd_isSo 224 = .ok (.iaload, 1) := by decide +kernel
theorem d_Vd_isSo_225 : decode k_Vd_isSo 225 = .ok (.iconst 4, 1) := by decide +kernel
theorem d_Vd_isSo_226 : decode k_Vd_isSo 226 = .ok (.if_icmp .ne 35, 3) := by decide +kernel
theorem d_Vd_isSo_229 : decode k_Vd_isSo 229 = .ok (.aload_n 0, 1) := by decide +kernel
theorem d_Vd_isSo_230 : decode k_Vd_isSo 230 = .ok (.getfield 21, 3) := by decide +kernel
theorem d_Vd_isSo_233 : decode k_Vd_isSo 233 = .ok (.getfield 86, 3) := by decide +kernel
theorem d_Vd_isSo_236 : decode k_Vd_isSo 236 = .ok (.iload_n 2, 1) := by decide +kernel
theorem d_Vd_isSo_237 : decode k_Vd_isSo 237 = .ok (.iaload, 1) := by decide +kernel
theorem d_Vd_isSo_238 : decode k_Vd_isSo 238 = .ok (.aload_n 0, 1) := by decide +kernel
theorem d_Vd_isSo_239 : decode k_Vd_isSo 239 = .ok (.getfield 32, 3) := by decide +kernel
theorem d_Vd_isSo_242 : decode k_Vd_isSo 242 = .ok (.iload_n 3, 1) := by decide +kernel
theorem d_Vd_isSo_243 : decode k_Vd_isSo 243 = .ok (.invokevirtual 135, 3) := by decide +kernel
theorem d_Vd_isSo_246 : decode k_Vd_isSo 246 = .ok (.aload_n 0, 1) := by decide +kernel
theorem d_Vd_isSo_247 : decode k_Vd_isSo 247 = .ok (.getfield 31, 3) := by decide +kernel
theorem d_Vd_isSo_250 : decode k_Vd_isSo 250 = .ok (.getfield 129, 3) := by decide +kernel
theorem d_Vd_isSo_253 : decode k_Vd_isSo 253 = .ok (.iload_n 2, 1) := by decide +kernel
theorem d_Vd_isSo_254 : decode k_Vd_isSo 254 = .ok (.iaload, 1) := by decide +kernel
theorem d_Vd_isSo_255 : decode k_Vd_isSo 255 = .ok (.invokestatic 132, 3) := by decide +kernel
theorem d_Vd_isSo_258 : decode k_Vd_isSo 258 = .ok (.ifCond .eq 7, 3) := by decide +kernel
theorem d_Vd_isSo_261 : decode k_Vd_isSo 261 = .ok (.iconst 1, 1) := by decide +kernel
theorem d_Vd_isSo_262 : decode k_Vd_isSo 262 = .ok (.goto 4, 3) := by decide +kernel
theorem d_Vd_isSo_265 : decode k_Vd_isSo 265 = .ok (.iconst 0, 1) := by decide +kernel
theorem d_Vd_isSo_266 : decode k_Vd_isSo 266 = .ok (.ireturn, 1) := by decide +kernel
theorem d_Vd_isSo_267 : decode k_Vd_isSo 267 = .ok (.iload 4, 2) := by decide +kernel
theorem d_Vd_isSo_269 : decode k_Vd_isSo 269 = .ok (.iconst 3, 1) := by decide +kernel
theorem d_Vd_isSo_270 : decode k_Vd_isSo 270 = .ok (.if_icmp .ne 49, 3) := by decide +kernel
theorem d_Vd_isSo_273 : decode k_Vd_isSo 273 = .ok (.aload_n 0, 1) := by decide +kernel
theorem d_Vd_isSo_274 : decode k_Vd_isSo 274 = .ok (.getfield 32, 3) := by decide +kernel
theorem d_Vd_isSo_277 : decode k_Vd_isSo 277 = .ok (.getfield 59, 3) := by decide +kernel
theorem d_Vd_isSo_280 : decode k_Vd_isSo 280 = .ok (.iload_n 3, 1) := by decide +kernel
theorem d_Vd_isSo_281 : decode k_Vd_isSo 281 = .ok (.iaload, 1) := by decide +kernel
theorem d_Vd_isSo_282 : decode k_Vd_isSo 282 = .ok (.iconst 5, 1) := by decide +kernel
theorem d_Vd_isSo_283 : decode k_Vd_isSo 283 = .ok (.if_icmp .ne 36, 3) := by decide +kernel
theorem d_Vd_isSo_286 : decode k_Vd_isSo 286 = .ok (.aload_n 0, 1) := by decide +kernel
theorem d_Vd_isSo_287 : decode k_Vd_isSo 287 = .ok (.getfield 21, 3) := by decide +kernel
theorem d_Vd_isSo_290 : decode k_Vd_isSo 290 = .ok (.getfield 86, 3) := by decide +kernel
theorem d_Vd_isSo_293 : decode k_Vd_isSo 293 = .ok (.iload_n 2, 1) := by decide +kernel
theorem d_Vd_isSo_294 : decode k_Vd_isSo 294 = .ok (.iaload, 1) := by decide +kernel
theorem d_Vd_isSo_295 : decode k_Vd_isSo 295 = .ok (.aload_n 0, 1) := by decide +kernel
theorem d_Vd_isSo_296 : decode k_Vd_isSo 296 = .ok (.getfield 32, 3) := by decide +kernel
theorem d_Vd_isSo_299 : decode k_Vd_isSo 299 = .ok (.getfield 69, 3) := by decide +kernel
theorem d_Vd_isSo_302 : decode k_Vd_isSo 302 = .ok (.iload_n 3, 1) := by decide +kernel
theorem d_Vd_isSo_303 : decode k_Vd_isSo 303 = .ok (.iaload, 1) := by decide +kernel
theorem d_Vd_isSo_304 : decode k_Vd_isSo 304 = .ok (.aload_n 0, 1) := by decide +kernel
theorem d_Vd_isSo_305 : decode k_Vd_isSo 305 = .ok (.getfield 31, 3) := by decide +kernel
theorem d_Vd_isSo_308 : decode k_Vd_isSo 308 = .ok (.getfield 129, 3) := by decide +kernel
theorem d_Vd_isSo_311 : decode k_Vd_isSo 311 = .ok (.iload_n 2, 1) := by decide +kernel
theorem d_Vd_isSo_312 : decode k_Vd_isSo 312 = .ok (.iaload, 1) := by decide +kernel
theorem d_Vd_isSo_313 : decode k_Vd_isSo 313 = .ok (.invokestatic 132, 3) := by decide +kernel
theorem d_Vd_isSo_316 : decode k_Vd_isSo 316 = .ok (.ifCond .eq 7, 3) := by decide +kernel
theorem d_Vd_isSo_319 : decode k_Vd_isSo 319 = .ok (.iconst 1, 1) := by decide +kernel
theorem d_Vd_isSo_320 : decode k_Vd_isSo 320 = .ok (.goto 4, 3) := by decide +kernel
theorem d_Vd_isSo_323 : decode k_Vd_isSo 323 = .ok (.iconst 0, 1) := by decide +kernel
theorem d_Vd_isSo_324 : decode k_Vd_isSo 324 = .ok (.ireturn, 1) := by decide +kernel
theorem d_Vd_isSo_325 : decode k_Vd_isSo 325 = .ok (.iload 4, 2) := by decide +kernel
theorem d_Vd_isSo_327 : decode k_Vd_isSo 327 = .ok (.iconst 5, 1) := by decide +kernel
theorem d_Vd_isSo_328 : decode k_Vd_isSo 328 = .ok (.if_icmp .ne 26, 3) := by decide +kernel
theorem d_Vd_isSo_331 : decode k_Vd_isSo 331 = .ok (.aload_n 0, 1) := by decide +kernel
theorem d_Vd_isSo_332 : decode k_Vd_isSo 332 = .ok (.getfield 32, 3) := by decide +kernel
theorem d_Vd_isSo_335 : decode k_Vd_isSo 335 = .ok (.getfield 59, 3) := by decide +kernel
theorem d_Vd_isSo_338 : decode k_Vd_isSo 338 = .ok (.iload_n 3, 1) := by decide +kernel
theorem d_Vd_isSo_339 : decode k_Vd_isSo 339 = .ok (.iaload, 1) := by decide +kernel
theorem d_Vd_isSo_340 : decode k_Vd_isSo 340 = .ok (.bipush 6, 2) := by decide +kernel
theorem d_Vd_isSo_342 : decode k_Vd_isSo 342 = .ok (.if_icmp .ne 12, 3) := by decide +kernel
theorem d_Vd_isSo_345 : decode k_Vd_isSo 345 = .ok (.aload_n 0, 1) := by decide +kernel
theorem d_Vd_isSo_346 : decode k_Vd_isSo 346 = .ok (.iload_n 2, 1) := by decide +kernel
theorem d_Vd_isSo_347 : decode k_Vd_isSo 347 = .ok (.iload_n 3, 1) := by decide +kernel
theorem d_Vd_isSo_348 : decode k_Vd_isSo 348 = .ok (.invokevirtual 139, 3) := by decide +kernel
theorem d_Vd_isSo_351 : decode k_Vd_isSo 351 = .ok (.ifCond .eq 7, 3) := by decide +kernel
theorem d_Vd_isSo_354 : decode k_Vd_isSo 354 = .ok (.iconst 1, 1) := by decide +kernel
theorem d_Vd_isSo_355 : decode k_Vd_isSo 355 = .ok (.goto 4, 3) := by decide +kernel
theorem d_Vd_isSo_358 : decode k_Vd_isSo 358 = .ok (.iconst 0, 1) := by decide +kernel
theorem d_Vd_isSo_359 : decode k_Vd_isSo 359 = .ok (.ireturn, 1) := by decide +kernel
theorem d_Vd_isSo_360 : decode k_Vd_isSo 360 = .ok (.aload_n 0, 1) := by decide +kernel
theorem d_Vd_isSo_361 : decode k_Vd_isSo 361 = .ok (.iload_n 1, 1) := by decide +kernel
theorem d_Vd_isSo_362 : decode k_Vd_isSo 362 = .ok (.iload_n 2, 1) := by decide +kernel
theorem d_Vd_isSo_363 : decode k_Vd_isSo 363 = .ok (.iload_n 3, 1) := by decide +kernel
theorem d_Vd_isSo_364 : decode k_Vd_isSo 364 = .ok (.invokevirtual 142, 3) := by decide +kernel
theorem d_Vd_isSo_367 : decode k_Vd_isSo 367 = .ok (.ireturn, 1) := by decide +kernel
theorem d_Vd_isSo_368 : decode k_Vd_isSo 368 = .ok (.iload 4, 2) := by decide +kernel
theorem d_Vd_isSo_370 : decode k_Vd_isSo 370 = .ok (.iconst 5, 1) := by decide +kernel
theorem d_Vd_isSo_371 : decode k_Vd_isSo 371 = .ok (.if_icmp .ne 21, 3) := by decide +kernel
theorem d_Vd_isSo_374 : decode k_Vd_isSo 374 = .ok (.aload_n 0, 1) := by decide +kernel
theorem d_Vd_isSo_375 : decode k_Vd_isSo 375 = .ok (.iload_n 2, 1) := by decide +kernel
theorem d_Vd_isSo_376 : decode k_Vd_isSo 376 = .ok (.iload_n 3, 1) := by decide +kernel
theorem d_Vd_isSo_377 : decode k_Vd_isSo 377 = .ok (.invokevirtual 145, 3) := by decide +kernel
theorem d_Vd_isSo_380 : decode k_Vd_isSo 380 = .ok (.aload_n 0, 1) := by decide +kernel
theorem d_Vd_isSo_381 : decode k_Vd_isSo 381 = .ok (.getfield 31, 3) := by decide +kernel
theorem d_Vd_isSo_384 : decode k_Vd_isSo 384 = .ok (.getfield 69, 3) := by decide +kernel
theorem d_Vd_isSo_387 : decode k_Vd_isSo 387 = .ok (.iload_n 2, 1) := by decide +kernel
theorem d_Vd_isSo_388 : decode k_Vd_isSo 388 = .ok (.iaload, 1) := by decide +kernel
theorem d_Vd_isSo_389 : decode k_Vd_isSo 389 = .ok (.if_icmp .ne 7, 3) := by decide +kernel
theorem d_Vd_isSo_392 : decode k_Vd_isSo 392 = .ok (.iconst 1, 1) := by decide +kernel
theorem d_Vd_isSo_393 : decode k_Vd_isSo 393 = .ok (.goto 4, 3) := by decide +kernel
theorem d_Vd_isSo_396 : decode k_Vd_isSo 396 = .ok (.iconst 0, 1) := by decide +kernel
theorem d_Vd_isSo_397 : decode k_Vd_isSo 397 = .ok (.ireturn, 1) := by decide +kernel
theorem d_Vd_isSo_398 : decode k_Vd_isSo 398 = .ok (.iload 4, 2) := by decide +kernel
theorem d_Vd_isSo_400 : decode k_Vd_isSo 400 = .ok (.iconst 5, 1) := by decide +kernel
theorem d_Vd_isSo_401 : decode k_Vd_isSo 401 = .ok (.if_icmp .ne 12, 3) := by decide +kernel
theorem d_Vd_isSo_404 : decode k_Vd_isSo 404 = .ok (.aload_n 0, 1) := by decide +kernel
theorem d_Vd_isSo_405 : decode k_Vd_isSo 405 = .ok (.iload_n 2, 1) := by decide +kernel
theorem d_Vd_isSo_406 : decode k_Vd_isSo 406 = .ok (.iload_n 3, 1) := by decide +kernel
theorem d_Vd_isSo_407 : decode k_Vd_isSo 407 = .ok (.invokevirtual 145, 3) := by decide +kernel
theorem d_Vd_isSo_410 : decode k_Vd_isSo 410 = .ok (.ifCond .le 7, 3) := by decide +kernel
theorem d_Vd_isSo_413 : decode k_Vd_isSo 413 = .ok (.iconst 1, 1) := by decide +kernel
theorem d_Vd_isSo_414 : decode k_Vd_isSo 414 = .ok (.goto 4, 3) := by decide +kernel
theorem d_Vd_isSo_417 : decode k_Vd_isSo 417 = .ok (.iconst 0, 1) := by decide +kernel
theorem d_Vd_isSo_418 : decode k_Vd_isSo 418 = .ok (.ireturn, 1) := by decide +kernel
theorem d_Vd_isSo_419 : decode k_Vd_isSo 419 = .ok (.iload 4, 2) := by decide +kernel
theorem d_Vd_isSo_421 : decode k_Vd_isSo 421 = .ok (.iconst 5, 1) := by decide +kernel
theorem d_Vd_isSo_422 : decode k_Vd_isSo 422 = .ok (.if_icmp .ne 13, 3) := by decide +kernel
theorem d_Vd_isSo_425 : decode k_Vd_isSo 425 = .ok (.aload_n 0, 1) := by decide +kernel
theorem d_Vd_isSo_426 : decode k_Vd_isSo 426 = .ok (.iload_n 2, 1) := by decide +kernel
theorem d_Vd_isSo_427 : decode k_Vd_isSo 427 = .ok (.iload_n 3, 1) := by decide +kernel
theorem d_Vd_isSo_428 : decode k_Vd_isSo 428 = .ok (.invokevirtual 145, 3) := by decide +kernel
theorem d_Vd_isSo_431 : decode k_Vd_isSo 431 = .ok (.iconst 1, 1) := by decide +kernel
theorem d_Vd_isSo_432 : decode k_Vd_isSo 432 = .ok (.if_icmp .ne 7, 3) := by decide +kernel
theorem d_Vd_isSo_435 : decode k_Vd_isSo 435 = .ok (.iconst 1, 1) := by decide +kernel
theorem d_Vd_isSo_436 : decode k_Vd_isSo 436 = .ok (.goto 4, 3) := by decide +kernel
theorem d_Vd_isSo_439 : decode k_Vd_isSo 439 = .ok (.iconst 0, 1) := by decide +kernel
theorem d_Vd_isSo_440 : decode k_Vd_isSo 440 = .ok (.ireturn, 1) := by decide +kernel
theorem d_Vd_isSo_441 : decode k_Vd_isSo 441 = .ok (.aload_n 0, 1) := by decide +kernel
theorem d_Vd_isSo_442 : decode k_Vd_isSo 442 = .ok (.iload_n 2, 1) := by decide +kernel
theorem d_Vd_isSo_443 : decode k_Vd_isSo 443 = .ok (.iload_n 3, 1) := by decide +kernel
theorem d_Vd_isSo_444 : decode k_Vd_isSo 444 = .ok (.invokevirtual 148, 3) := by decide +kernel
theorem d_Vd_isSo_447 : decode k_Vd_isSo 447 = .ok (.ifCond .ne 7, 3) := by decide +kernel
theorem d_Vd_isSo_450 : decode k_Vd_isSo 450 = .ok (.iconst 1, 1) := by decide +kernel
theorem d_Vd_isSo_451 : decode k_Vd_isSo 451 = .ok (.goto 4, 3) := by decide +kernel
theorem d_Vd_isSo_454 : decode k_Vd_isSo 454 = .ok (.iconst 0, 1) := by decide +kernel
theorem d_Vd_isSo_455 : decode k_Vd_isSo 455 = .ok (.ireturn, 1) := by decide +kernel
theorem d_Vd_isSo_456 : decode k_Vd_isSo 456 = .ok (.iload 4, 2) := by decide +kernel
theorem d_Vd_isSo_458 : decode k_Vd_isSo 458 = .ok (.iconst 4, 1) := by decide +kernel
theorem d_Vd_isSo_459 : decode k_Vd_isSo 459 = .ok (.if_icmp .ne 33, 3) := by decide +kernel
theorem d_Vd_isSo_462 : decode k_Vd_isSo 462 = .ok (.aload_n 0, 1) := by decide +kernel
theorem d_Vd_isSo_463 : decode k_Vd_isSo 463 = .ok (.getfield 21, 3) := by decide +kernel
theorem d_Vd_isSo_466 : decode k_Vd_isSo 466 = .ok (.getfield 96, 3) := by decide +kernel
theorem d_Vd_isSo_469 : decode k_Vd_isSo 469 = .ok (.iload_n 2, 1) := by decide +kernel
theorem d_Vd_isSo_470 : decode k_Vd_isSo 470 = .ok (.iaload, 1) := by decide +kernel
theorem d_Vd_isSo_471 : decode k_Vd_isSo 471 = .ok (.iconst (-1), 1) := by decide +kernel
theorem d_Vd_isSo_472 : decode k_Vd_isSo 472 = .ok (.if_icmp .eq 24, 3) := by decide +kernel
theorem d_Vd_isSo_475 : decode k_Vd_isSo 475 = .ok (.aload_n 0, 1) := by decide +kernel
theorem d_Vd_isSo_476 : decode k_Vd_isSo 476 = .ok (.aload_n 0, 1) := by decide +kernel
theorem d_Vd_isSo_477 : decode k_Vd_isSo 477 = .ok (.getfield 21, 3) := by decide +kernel
theorem d_Vd_isSo_480 : decode k_Vd_isSo 480 = .ok (.getfield 96, 3) := by decide +kernel
theorem d_Vd_isSo_483 : decode k_Vd_isSo 483 = .ok (.iload_n 2, 1) := by decide +kernel
theorem d_Vd_isSo_484 : decode k_Vd_isSo 484 = .ok (.iaload, 1) := by decide +kernel
theorem d_Vd_isSo_485 : decode k_Vd_isSo 485 = .ok (.iload_n 3, 1) := by decide +kernel
theorem d_Vd_isSo_486 : decode k_Vd_isSo 486 = .ok (.invokevirtual 148, 3) := by decide +kernel
theorem d_Vd_isSo_489 : decode k_Vd_isSo 489 = .ok (.ifCond .eq 7, 3) := by decide +kernel
theorem d_Vd_isSo_492 : decode k_Vd_isSo 492 = .ok (.iconst 1, 1) := by decide +kernel
theorem d_Vd_isSo_493 : decode k_Vd_isSo 493 = .ok (.goto 4, 3) := by decide +kernel
theorem d_Vd_isSo_496 : decode k_Vd_isSo 496 = .ok (.iconst 0, 1) := by decide +kernel
theorem d_Vd_isSo_497 : decode k_Vd_isSo 497 = .ok (.ireturn, 1) := by decide +kernel
theorem d_Vd_isSo_498 : decode k_Vd_isSo 498 = .ok (.iconst 1, 1) := by decide +kernel
theorem d_Vd_isSo_499 : decode k_Vd_isSo 499 = .ok (.ireturn, 1) := by decide +kernel
theorem gw845 : (Jvm.Cond.methodLink "SchemaDesk$Verdicts" (120 : Nat) ({ cls := "SchemaDesk$Verdicts", name := "isTypeSo", desc := "(II)Z" } : Jvm.MethodName)) ∈ GW := gw_t4 (List.mem_of_getElem? (i := 125) rfl) rfl
theorem gw847 : (Jvm.Cond.instanceMethod ({ cls := "SchemaDesk$Verdicts", name := "isTypeSo", desc := "(II)Z" } : Jvm.MethodName)) ∈ GW := gw_t4 (List.mem_of_getElem? (i := 127) rfl) rfl
theorem gs25 : Cond.selects "SchemaDesk$Verdicts" ⟨"SchemaDesk$Verdicts", "isTypeSo", "(II)Z"⟩ ⟨"SchemaDesk$Verdicts", "isTypeSo", "(II)Z"⟩ ∈ GW := gw_p2 (q := (⟨"SchemaDesk$Verdicts", "isTypeSo", "(II)Z"⟩, 6)) (List.mem_of_getElem? (i := 9) rfl)
theorem gw848 : (Jvm.Cond.code ({ cls := "SchemaDesk$Verdicts", name := "isTypeSo", desc := "(II)Z" } : Jvm.MethodName) prog_9_method_11_code (5 : Nat) (Option.some Jvm.ClassFile.FieldType.boolean)) ∈ GW := gw_t4 (List.mem_of_getElem? (i := 128) rfl) rfl
theorem gw862 : (Jvm.Cond.methodLink "SchemaDesk$Verdicts" (126 : Nat) ({ cls := "SchemaDesk$Verdicts", name := "hasSame", desc := "(II)Z" } : Jvm.MethodName)) ∈ GW := gw_t4 (List.mem_of_getElem? (i := 142) rfl) rfl
theorem gw864 : (Jvm.Cond.instanceMethod ({ cls := "SchemaDesk$Verdicts", name := "hasSame", desc := "(II)Z" } : Jvm.MethodName)) ∈ GW := gw_t4 (List.mem_of_getElem? (i := 144) rfl) rfl
theorem gs28 : Cond.selects "SchemaDesk$Verdicts" ⟨"SchemaDesk$Verdicts", "hasSame", "(II)Z"⟩ ⟨"SchemaDesk$Verdicts", "hasSame", "(II)Z"⟩ ∈ GW := gw_p2 (q := (⟨"SchemaDesk$Verdicts", "hasSame", "(II)Z"⟩, 6)) (List.mem_of_getElem? (i := 12) rfl)
theorem gw865 : (Jvm.Cond.code ({ cls := "SchemaDesk$Verdicts", name := "hasSame", desc := "(II)Z" } : Jvm.MethodName) prog_9_method_15_code (5 : Nat) (Option.some Jvm.ClassFile.FieldType.boolean)) ∈ GW := gw_t4 (List.mem_of_getElem? (i := 145) rfl) rfl
theorem gw866 : (Jvm.Cond.methodLink "SchemaDesk$Verdicts" (132 : Nat) ({ cls := "SchemaDesk$Verdicts", name := "isNumberSo", desc := "(III)Z" } : Jvm.MethodName)) ∈ GW := gw_t4 (List.mem_of_getElem? (i := 146) rfl) rfl
theorem gw867 : (Jvm.Cond.static ({ cls := "SchemaDesk$Verdicts", name := "isNumberSo", desc := "(III)Z" } : Jvm.MethodName)) ∈ GW := gw_t4 (List.mem_of_getElem? (i := 147) rfl) rfl
theorem gw868 : (Jvm.Cond.code ({ cls := "SchemaDesk$Verdicts", name := "isNumberSo", desc := "(III)Z" } : Jvm.MethodName) prog_9_method_13_code (3 : Nat) (Option.some Jvm.ClassFile.FieldType.boolean)) ∈ GW := gw_t4 (List.mem_of_getElem? (i := 148) rfl) rfl
theorem gw869 : (Jvm.Cond.methodLink "SchemaDesk$Verdicts" (135 : Nat) ({ cls := "SchemaDesk$Tree", name := "charactersOf", desc := "(I)I" } : Jvm.MethodName)) ∈ GW := gw_t4 (List.mem_of_getElem? (i := 149) rfl) rfl
theorem gw870 : (Jvm.Cond.instanceMethod ({ cls := "SchemaDesk$Tree", name := "charactersOf", desc := "(I)I" } : Jvm.MethodName)) ∈ GW := gw_t4 (List.mem_of_getElem? (i := 150) rfl) rfl
theorem gw871 : (Jvm.Cond.selects "SchemaDesk$Tree" ({ cls := "SchemaDesk$Tree", name := "charactersOf", desc := "(I)I" } : Jvm.MethodName) ({ cls := "SchemaDesk$Tree", name := "charactersOf", desc := "(I)I" } : Jvm.MethodName)) ∈ GW := gw_t4 (List.mem_of_getElem? (i := 151) rfl) rfl
theorem gw872 : (Jvm.Cond.code ({ cls := "SchemaDesk$Tree", name := "charactersOf", desc := "(I)I" } : Jvm.MethodName) prog_8_method_8_code (3 : Nat) (Option.some Jvm.ClassFile.FieldType.int)) ∈ GW := gw_t4 (List.mem_of_getElem? (i := 152) rfl) rfl
theorem gw874 : (Jvm.Cond.methodLink "SchemaDesk$Verdicts" (139 : Nat) ({ cls := "SchemaDesk$Verdicts", name := "hasAllNames", desc := "(II)Z" } : Jvm.MethodName)) ∈ GW := gw_t4 (List.mem_of_getElem? (i := 154) rfl) rfl
theorem gw876 : (Jvm.Cond.instanceMethod ({ cls := "SchemaDesk$Verdicts", name := "hasAllNames", desc := "(II)Z" } : Jvm.MethodName)) ∈ GW := gw_t4 (List.mem_of_getElem? (i := 156) rfl) rfl
theorem gs29 : Cond.selects "SchemaDesk$Verdicts" ⟨"SchemaDesk$Verdicts", "hasAllNames", "(II)Z"⟩ ⟨"SchemaDesk$Verdicts", "hasAllNames", "(II)Z"⟩ ∈ GW := gw_p2 (q := (⟨"SchemaDesk$Verdicts", "hasAllNames", "(II)Z"⟩, 6)) (List.mem_of_getElem? (i := 13) rfl)
theorem gw877 : (Jvm.Cond.code ({ cls := "SchemaDesk$Verdicts", name := "hasAllNames", desc := "(II)Z" } : Jvm.MethodName) prog_9_method_16_code (5 : Nat) (Option.some Jvm.ClassFile.FieldType.boolean)) ∈ GW := gw_t4 (List.mem_of_getElem? (i := 157) rfl) rfl
theorem gw878 : (Jvm.Cond.methodLink "SchemaDesk$Verdicts" (142 : Nat) ({ cls := "SchemaDesk$Verdicts", name := "holdForChildren", desc := "(III)Z" } : Jvm.MethodName)) ∈ GW := gw_t4 (List.mem_of_getElem? (i := 158) rfl) rfl
theorem gw880 : (Jvm.Cond.instanceMethod ({ cls := "SchemaDesk$Verdicts", name := "holdForChildren", desc := "(III)Z" } : Jvm.MethodName)) ∈ GW := gw_t4 (List.mem_of_getElem? (i := 160) rfl) rfl
theorem gs30 : Cond.selects "SchemaDesk$Verdicts" ⟨"SchemaDesk$Verdicts", "holdForChildren", "(III)Z"⟩ ⟨"SchemaDesk$Verdicts", "holdForChildren", "(III)Z"⟩ ∈ GW := gw_p2 (q := (⟨"SchemaDesk$Verdicts", "holdForChildren", "(III)Z"⟩, 6)) (List.mem_of_getElem? (i := 14) rfl)
theorem gw881 : (Jvm.Cond.code ({ cls := "SchemaDesk$Verdicts", name := "holdForChildren", desc := "(III)Z" } : Jvm.MethodName) prog_9_method_17_code (7 : Nat) (Option.some Jvm.ClassFile.FieldType.boolean)) ∈ GW := gw_t4 (List.mem_of_getElem? (i := 161) rfl) rfl
theorem gw886 : (Jvm.Cond.methodLink "SchemaDesk$Verdicts" (145 : Nat) ({ cls := "SchemaDesk$Verdicts", name := "countHeld", desc := "(II)I" } : Jvm.MethodName)) ∈ GW := gw_t4 (List.mem_of_getElem? (i := 166) rfl) rfl
theorem gw888 : (Jvm.Cond.instanceMethod ({ cls := "SchemaDesk$Verdicts", name := "countHeld", desc := "(II)I" } : Jvm.MethodName)) ∈ GW := gw_t4 (List.mem_of_getElem? (i := 168) rfl) rfl
theorem gs31 : Cond.selects "SchemaDesk$Verdicts" ⟨"SchemaDesk$Verdicts", "countHeld", "(II)I"⟩ ⟨"SchemaDesk$Verdicts", "countHeld", "(II)I"⟩ ∈ GW := gw_p2 (q := (⟨"SchemaDesk$Verdicts", "countHeld", "(II)I"⟩, 6)) (List.mem_of_getElem? (i := 15) rfl)
theorem gw889 : (Jvm.Cond.code ({ cls := "SchemaDesk$Verdicts", name := "countHeld", desc := "(II)I" } : Jvm.MethodName) prog_9_method_18_code (6 : Nat) (Option.some Jvm.ClassFile.FieldType.int)) ∈ GW := gw_t4 (List.mem_of_getElem? (i := 169) rfl) rfl
def wq_Vd_isSo (x1 : Int32) (x2 : Int32) (x3 : Int32) (σ : Sg) (post : Int32 → Sg → Prop) : Prop := (vp_in x2 160 ∧ (vp_in x2 160 ∧ (((σ.1 30 x2.toNatClampNeg) = 1 → (wq_Vd_isTypeSo x2 x3 σ (fun r1 σ1 => (narrow .boolean (.int r1) = .int r1 ∧ post r1 σ1)))) ∧ ((σ.1 30 x2.toNatClampNeg) = 2 → (wq_Vd_isSame x2 x3 (0 : Int32) σ (fun r1 σ1 => (narrow .boolean (.int r1) = .int r1 ∧ post r1 σ1)))) ∧ ((σ.1 30 x2.toNatClampNeg) = 3 → ((¬ (σ.1 1 x2.toNatClampNeg) = (5 : Int32) → (narrow .boolean (.int (1 : Int32)) = .int (1 : Int32) ∧ post (1 : Int32) σ)) ∧ ((σ.1 1 x2.toNatClampNeg) = (5 : Int32) → (wq_Vd_hasSame x2 x3 σ (fun r1 σ1 => ((r1 = 0 → (narrow .boolean (.int (0 : Int32)) = .int (0 : Int32) ∧ post (0 : Int32) σ1)) ∧ (¬ r1 = 0 → (narrow .boolean (.int (1 : Int32)) = .int (1 : Int32) ∧ post (1 : Int32) σ1)))))))) ∧ ((σ.1 30 x2.toNatClampNeg) = 4 → ((¬ (σ.1 1 x2.toNatClampNeg) = (3 : Int32) → (narrow .boolean (.int (1 : Int32)) = .int (1 : Int32) ∧ post (1 : Int32) σ)) ∧ ((σ.1 1 x2.toNatClampNeg) = (3 : Int32) → (vp_in x3 80 ∧ ((¬ (σ.1 14 x3.toNatClampNeg) = (3 : Int32) → (narrow .boolean (.int (1 : Int32)) = .int (1 : Int32) ∧ post (1 : Int32) σ)) ∧ ((σ.1 14 x3.toNatClampNeg) = (3 : Int32) → (vp_in x2 160 ∧ (vp_in x3 80 ∧ (vp_in x2 160 ∧ (wq_Vd_isNumberSo (σ.1 30 x2.toNatClampNeg) (σ.1 20 x3.toNatClampNeg) (σ.1 7 x2.toNatClampNeg) σ (fun r1 σ1 => ((r1 = 0 → (narrow .boolean (.int (0 : Int32)) = .int (0 : Int32) ∧ post (0 : Int32) σ1)) ∧ (¬ r1 = 0 → (narrow .boolean (.int (1 : Int32)) = .int (1 : Int32) ∧ post (1 : Int32) σ1)))))))))))))) ∧ ((σ.1 30 x2.toNatClampNeg) = 5 → ((¬ (σ.1 1 x2.toNatClampNeg) = (3 : Int32) → (narrow .boolean (.int (1 : Int32)) = .int (1 : Int32) ∧ post (1 : Int32) σ)) ∧ ((σ.1 1 x2.toNatClampNeg) = (3 : Int32) → (vp_in x3 80 ∧ ((¬ (σ.1 14 x3.toNatClampNeg) = (3 : Int32) → (narrow .boolean (.int (1 : Int32)) = .int (1 : Int32) ∧ post (1 : Int32) σ)) ∧ ((σ.1 14 x3.toNatClampNeg) = (3 : Int32) → (vp_in x2 160 ∧ (vp_in x3 80 ∧ (vp_in x2 160 ∧ (wq_Vd_isNumberSo (σ.1 30 x2.toNatClampNeg) (σ.1 20 x3.toNatClampNeg) (σ.1 7 x2.toNatClampNeg) σ (fun r1 σ1 => ((r1 = 0 → (narrow .boolean (.int (0 : Int32)) = .int (0 : Int32) ∧ post (0 : Int32) σ1)) ∧ (¬ r1 = 0 → (narrow .boolean (.int (1 : Int32)) = .int (1 : Int32) ∧ post (1 : Int32) σ1)))))))))))))) ∧ ((σ.1 30 x2.toNatClampNeg) = 6 → ((¬ (σ.1 1 x2.toNatClampNeg) = (3 : Int32) → (narrow .boolean (.int (1 : Int32)) = .int (1 : Int32) ∧ post (1 : Int32) σ)) ∧ ((σ.1 1 x2.toNatClampNeg) = (3 : Int32) → (vp_in x3 80 ∧ ((¬ (σ.1 14 x3.toNatClampNeg) = (3 : Int32) → (narrow .boolean (.int (1 : Int32)) = .int (1 : Int32) ∧ post (1 : Int32) σ)) ∧ ((σ.1 14 x3.toNatClampNeg) = (3 : Int32) → (vp_in x2 160 ∧ (vp_in x3 80 ∧ (vp_in x2 160 ∧ (wq_Vd_isNumberSo (σ.1 30 x2.toNatClampNeg) (σ.1 20 x3.toNatClampNeg) (σ.1 7 x2.toNatClampNeg) σ (fun r1 σ1 => ((r1 = 0 → (narrow .boolean (.int (0 : Int32)) = .int (0 : Int32) ∧ post (0 : Int32) σ1)) ∧ (¬ r1 = 0 → (narrow .boolean (.int (1 : Int32)) = .int (1 : Int32) ∧ post (1 : Int32) σ1)))))))))))))) ∧ ((σ.1 30 x2.toNatClampNeg) = 7 → ((¬ (σ.1 1 x2.toNatClampNeg) = (3 : Int32) → (narrow .boolean (.int (1 : Int32)) = .int (1 : Int32) ∧ post (1 : Int32) σ)) ∧ ((σ.1 1 x2.toNatClampNeg) = (3 : Int32) → (vp_in x3 80 ∧ ((¬ (σ.1 14 x3.toNatClampNeg) = (4 : Int32) → (narrow .boolean (.int (1 : Int32)) = .int (1 : Int32) ∧ post (1 : Int32) σ)) ∧ ((σ.1 14 x3.toNatClampNeg) = (4 : Int32) → (vp_in x2 160 ∧ (wq_Tr_charactersOf 13 x3 σ (fun r1 σ1 => (vp_in x2 160 ∧ (wq_Vd_isNumberSo (σ.1 30 x2.toNatClampNeg) r1 (σ1.1 7 x2.toNatClampNeg) σ1 (fun r2 σ2 => ((r2 = 0 → (narrow .boolean (.int (0 : Int32)) = .int (0 : Int32) ∧ post (0 : Int32) σ2)) ∧ (¬ r2 = 0 → (narrow .boolean (.int (1 : Int32)) = .int (1 : Int32) ∧ post (1 : Int32) σ2))))))))))))))) ∧ ((σ.1 30 x2.toNatClampNeg) = 8 → ((¬ (σ.1 1 x2.toNatClampNeg) = (3 : Int32) → (narrow .boolean (.int (1 : Int32)) = .int (1 : Int32) ∧ post (1 : Int32) σ)) ∧ ((σ.1 1 x2.toNatClampNeg) = (3 : Int32) → (vp_in x3 80 ∧ ((¬ (σ.1 14 x3.toNatClampNeg) = (4 : Int32) → (narrow .boolean (.int (1 : Int32)) = .int (1 : Int32) ∧ post (1 : Int32) σ)) ∧ ((σ.1 14 x3.toNatClampNeg) = (4 : Int32) → (vp_in x2 160 ∧ (wq_Tr_charactersOf 13 x3 σ (fun r1 σ1 => (vp_in x2 160 ∧ (wq_Vd_isNumberSo (σ.1 30 x2.toNatClampNeg) r1 (σ1.1 7 x2.toNatClampNeg) σ1 (fun r2 σ2 => ((r2 = 0 → (narrow .boolean (.int (0 : Int32)) = .int (0 : Int32) ∧ post (0 : Int32) σ2)) ∧ (¬ r2 = 0 → (narrow .boolean (.int (1 : Int32)) = .int (1 : Int32) ∧ post (1 : Int32) σ2))))))))))))))) ∧ ((σ.1 30 x2.toNatClampNeg) = 9 → ((¬ (σ.1 1 x2.toNatClampNeg) = (3 : Int32) → (narrow .boolean (.int (1 : Int32)) = .int (1 : Int32) ∧ post (1 : Int32) σ)) ∧ ((σ.1 1 x2.toNatClampNeg) = (3 : Int32) → (vp_in x3 80 ∧ ((¬ (σ.1 14 x3.toNatClampNeg) = (5 : Int32) → (narrow .boolean (.int (1 : Int32)) = .int (1 : Int32) ∧ post (1 : Int32) σ)) ∧ ((σ.1 14 x3.toNatClampNeg) = (5 : Int32) → (vp_in x2 160 ∧ (vp_in x3 80 ∧ (vp_in x2 160 ∧ (wq_Vd_isNumberSo (σ.1 30 x2.toNatClampNeg) (σ.1 18 x3.toNatClampNeg) (σ.1 7 x2.toNatClampNeg) σ (fun r1 σ1 => ((r1 = 0 → (narrow .boolean (.int (0 : Int32)) = .int (0 : Int32) ∧ post (0 : Int32) σ1)) ∧ (¬ r1 = 0 → (narrow .boolean (.int (1 : Int32)) = .int (1 : Int32) ∧ post (1 : Int32) σ1)))))))))))))) ∧ ((σ.1 30 x2.toNatClampNeg) = 10 → ((¬ (σ.1 1 x2.toNatClampNeg) = (3 : Int32) → (narrow .boolean (.int (1 : Int32)) = .int (1 : Int32) ∧ post (1 : Int32) σ)) ∧ ((σ.1 1 x2.toNatClampNeg) = (3 : Int32) → (vp_in x3 80 ∧ ((¬ (σ.1 14 x3.toNatClampNeg) = (5 : Int32) → (narrow .boolean (.int (1 : Int32)) = .int (1 : Int32) ∧ post (1 : Int32) σ)) ∧ ((σ.1 14 x3.toNatClampNeg) = (5 : Int32) → (vp_in x2 160 ∧ (vp_in x3 80 ∧ (vp_in x2 160 ∧ (wq_Vd_isNumberSo (σ.1 30 x2.toNatClampNeg) (σ.1 18 x3.toNatClampNeg) (σ.1 7 x2.toNatClampNeg) σ (fun r1 σ1 => ((r1 = 0 → (narrow .boolean (.int (0 : Int32)) = .int (0 : Int32) ∧ post (0 : Int32) σ1)) ∧ (¬ r1 = 0 → (narrow .boolean (.int (1 : Int32)) = .int (1 : Int32) ∧ post (1 : Int32) σ1)))))))))))))) ∧ ((σ.1 30 x2.toNatClampNeg) = 11 → ((¬ (σ.1 1 x2.toNatClampNeg) = (5 : Int32) → (narrow .boolean (.int (1 : Int32)) = .int (1 : Int32) ∧ post (1 : Int32) σ)) ∧ ((σ.1 1 x2.toNatClampNeg) = (5 : Int32) → (vp_in x3 80 ∧ ((¬ (σ.1 14 x3.toNatClampNeg) = (6 : Int32) → (narrow .boolean (.int (1 : Int32)) = .int (1 : Int32) ∧ post (1 : Int32) σ)) ∧ ((σ.1 14 x3.toNatClampNeg) = (6 : Int32) → (wq_Vd_hasAllNames x2 x3 σ (fun r1 σ1 => ((r1 = 0 → (narrow .boolean (.int (0 : Int32)) = .int (0 : Int32) ∧ post (0 : Int32) σ1)) ∧ (¬ r1 = 0 → (narrow .boolean (.int (1 : Int32)) = .int (1 : Int32) ∧ post (1 : Int32) σ1))))))))))) ∧ ((σ.1 30 x2.toNatClampNeg) = 12 → (wq_Vd_holdForChildren x1 x2 x3 σ (fun r1 σ1 => (narrow .boolean (.int r1) = .int r1 ∧ post r1 σ1)))) ∧ ((σ.1 30 x2.toNatClampNeg) = 13 → (wq_Vd_holdForChildren x1 x2 x3 σ (fun r1 σ1 => (narrow .boolean (.int r1) = .int r1 ∧ post r1 σ1)))) ∧ ((σ.1 30 x2.toNatClampNeg) = 14 → (wq_Vd_holdForChildren x1 x2 x3 σ (fun r1 σ1 => (narrow .boolean (.int r1) = .int r1 ∧ post r1 σ1)))) ∧ ((σ.1 30 x2.toNatClampNeg) = 15 → ((¬ (σ.1 1 x2.toNatClampNeg) = (5 : Int32) → (narrow .boolean (.int (1 : Int32)) = .int (1 : Int32) ∧ post (1 : Int32) σ)) ∧ ((σ.1 1 x2.toNatClampNeg) = (5 : Int32) → (wq_Vd_countHeld x2 x3 σ (fun r1 σ1 => (vp_in x2 160 ∧ ((¬ r1 = (σ1.1 5 x2.toNatClampNeg) → (narrow .boolean (.int (0 : Int32)) = .int (0 : Int32) ∧ post (0 : Int32) σ1)) ∧ (r1 = (σ1.1 5 x2.toNatClampNeg) → (narrow .boolean (.int (1 : Int32)) = .int (1 : Int32) ∧ post (1 : Int32) σ1))))))))) ∧ ((σ.1 30 x2.toNatClampNeg) = 16 → ((¬ (σ.1 1 x2.toNatClampNeg) = (5 : Int32) → (narrow .boolean (.int (1 : Int32)) = .int (1 : Int32) ∧ post (1 : Int32) σ)) ∧ ((σ.1 1 x2.toNatClampNeg) = (5 : Int32) → (wq_Vd_countHeld x2 x3 σ (fun r1 σ1 => ((r1 ≤ 0 → (narrow .boolean (.int (0 : Int32)) = .int (0 : Int32) ∧ post (0 : Int32) σ1)) ∧ (¬ r1 ≤ 0 → (narrow .boolean (.int (1 : Int32)) = .int (1 : Int32) ∧ post (1 : Int32) σ1)))))))) ∧ ((σ.1 30 x2.toNatClampNeg) = 17 → ((¬ (σ.1 1 x2.toNatClampNeg) = (5 : Int32) → (narrow .boolean (.int (1 : Int32)) = .int (1 : Int32) ∧ post (1 : Int32) σ)) ∧ ((σ.1 1 x2.toNatClampNeg) = (5 : Int32) → (wq_Vd_countHeld x2 x3 σ (fun r1 σ1 => ((¬ r1 = (1 : Int32) → (narrow .boolean (.int (0 : Int32)) = .int (0 : Int32) ∧ post (0 : Int32) σ1)) ∧ (r1 = (1 : Int32) → (narrow .boolean (.int (1 : Int32)) = .int (1 : Int32) ∧ post (1 : Int32) σ1)))))))) ∧ ((σ.1 30 x2.toNatClampNeg) = 18 → (wq_Vd_isHeld x2 x3 σ (fun r1 σ1 => ((¬ r1 = 0 → (narrow .boolean (.int (0 : Int32)) = .int (0 : Int32) ∧ post (0 : Int32) σ1)) ∧ (r1 = 0 → (narrow .boolean (.int (1 : Int32)) = .int (1 : Int32) ∧ post (1 : Int32) σ1)))))) ∧ ((σ.1 30 x2.toNatClampNeg) = 19 → ((¬ (σ.1 1 x2.toNatClampNeg) = (4 : Int32) → (narrow .boolean (.int (1 : Int32)) = .int (1 : Int32) ∧ post (1 : Int32) σ)) ∧ ((σ.1 1 x2.toNatClampNeg) = (4 : Int32) → (vp_in x2 160 ∧ (((σ.1 31 x2.toNatClampNeg) = (-1 : Int32) → (narrow .boolean (.int (0 : Int32)) = .int (0 : Int32) ∧ post (0 : Int32) σ)) ∧ (¬ (σ.1 31 x2.toNatClampNeg) = (-1 : Int32) → (vp_in x2 160 ∧ (wq_Vd_isHeld (σ.1 31 x2.toNatClampNeg) x3 σ (fun r1 σ1 => ((r1 = 0 → (narrow .boolean (.int (0 : Int32)) = .int (0 : Int32) ∧ post (0 : Int32) σ1)) ∧ (¬ r1 = 0 → (narrow .boolean (.int (1 : Int32)) = .int (1 : Int32) ∧ post (1 : Int32) σ1)))))))))))) ∧ ((σ.1 30 x2.toNatClampNeg) = 20 → (wq_Vd_holdForChildren x1 x2 x3 σ (fun r1 σ1 => (narrow .boolean (.int r1) = .int r1 ∧ post r1 σ1)))) ∧ ((¬ (σ.1 30 x2.toNatClampNeg) = 1 ∧ ¬ (σ.1 30 x2.toNatClampNeg) = 2 ∧ ¬ (σ.1 30 x2.toNatClampNeg) = 3 ∧ ¬ (σ.1 30 x2.toNatClampNeg) = 4 ∧ ¬ (σ.1 30 x2.toNatClampNeg) = 5 ∧ ¬ (σ.1 30 x2.toNatClampNeg) = 6 ∧ ¬ (σ.1 30 x2.toNatClampNeg) = 7 ∧ ¬ (σ.1 30 x2.toNatClampNeg) = 8 ∧ ¬ (σ.1 30 x2.toNatClampNeg) = 9 ∧ ¬ (σ.1 30 x2.toNatClampNeg) = 10 ∧ ¬ (σ.1 30 x2.toNatClampNeg) = 11 ∧ ¬ (σ.1 30 x2.toNatClampNeg) = 12 ∧ ¬ (σ.1 30 x2.toNatClampNeg) = 13 ∧ ¬ (σ.1 30 x2.toNatClampNeg) = 14 ∧ ¬ (σ.1 30 x2.toNatClampNeg) = 15 ∧ ¬ (σ.1 30 x2.toNatClampNeg) = 16 ∧ ¬ (σ.1 30 x2.toNatClampNeg) = 17 ∧ ¬ (σ.1 30 x2.toNatClampNeg) = 18 ∧ ¬ (σ.1 30 x2.toNatClampNeg) = 19 ∧ ¬ (σ.1 30 x2.toNatClampNeg) = 20) → (narrow .boolean (.int (1 : Int32)) = .int (1 : Int32) ∧ post (1 : Int32) σ)))))
set_option maxRecDepth 100000 in
set_option maxHeartbeats 4000000 in
theorem b_Vd_isSo_0 {p : Program} {l : Launch} {e : Env} {s : State} {m : MethodId} {args : Array Value} {below : List Frame} {meth : Method} {c : Code} {D : va_G} {g : Gm} {A : Nat → Prop} {post : Int32 → Sg → Prop} (C : kC p s m args meth c k_Vd_isSo 5 (some .boolean) GW R_Vd D vwCl g (Zk g) A) (x1 : Int32) (x2 : Int32) (x3 : Int32) (σ : Sg) (H : Heap) (locs : List Loc) (ls : Array Slot) (hl : lv_has ls 5 [(0, .ref (g.1 35)), (1, .int x1), (2, .int x2), (3, .int x3)]) (hst : Wst D vwCl (WS g) A s σ H locs) (h : wq_Vd_isSo x1 x2 x3 σ post) : W p l e { frames := 17, cells := 0, slots := 0, locals := 460 } s m args below meth c H locs 0 0 (MQ below (QiW D vwCl (WS g) post A) args s 0 0 A) (F0 m 0 ls []) := by
  obtain ⟨hx, hb, hr, hml, hown, hts, hlocks, hK, hZ, hA⟩ := C
  unfold wq_Vd_isSo at h
  refine lv_aload_n hx hb d_Vd_isSo_0 rfl (lv_at hl 0 rfl) ?_
  refine va_get (D := D) (ci := 6) (C := R_Vd) (T := T_Vd) (N := 6) hx hb hts in_Vd hown hK hst.1 35 (WS_o35 g σ) rfl 1 (by decide) (hts _ gw302) (fun _ h9 => h9) rfl d_Vd_isSo_1 ?_
  refine va_get (D := D) (ci := 0) (C := R_Tr) (T := T_Tr) (N := 12) hx hb hts in_Tr hown hK hst.1 0 (WS_o0 g σ) rfl 1 (by decide) (hts _ gw133) (fun _ h9 => h9) rfl d_Vd_isSo_4 ?_
  refine lv_iload_n hx hb d_Vd_isSo_7 rfl (lv_at hl 2 rfl) ?_
  obtain ⟨hi, h⟩ := h
  refine va_iald hx hb hK hst.1 1 0 (WS_a1 g σ) rfl hi d_Vd_isSo_8 ?_
  refine lv_istore hx hb d_Vd_isSo_9 hl (by decide) rfl (fun ls hl => ?_)
  have hl : lv_has ls 5 [(4, .int (σ.1 1 x2.toNatClampNeg)), (0, .ref (g.1 35)), (1, .int x1), (2, .int x2), (3, .int x3)] := hl
  refine lv_aload_n hx hb d_Vd_isSo_11 rfl (lv_at hl 1 rfl) ?_
  refine va_get (D := D) (ci := 6) (C := R_Vd) (T := T_Vd) (N := 6) hx hb hts in_Vd hown hK hst.1 35 (WS_o35 g σ) rfl 0 (by decide) (hts _ gw299) (fun _ h9 => h9) rfl d_Vd_isSo_12 ?_
  refine va_get (D := D) (ci := 5) (C := R_Pl) (T := T_Pl) (N := 10) hx hb hts in_Pl hown hK hst.1 29 (WS_o29 g σ) rfl 2 (by decide) (hts _ gw238) (fun _ h9 => h9) rfl d_Vd_isSo_15 ?_
  refine lv_iload_n hx hb d_Vd_isSo_18 rfl (lv_at hl 3 rfl) ?_
  obtain ⟨hi, h⟩ := h
  refine va_iald hx hb hK hst.1 30 0 (WS_a30 g σ) rfl hi d_Vd_isSo_19 ?_
  by_cases hc0 : (σ.1 30 x2.toNatClampNeg) = 1
  · refine kw_tin (k := 1) (tgt := 116) hx hb d_Vd_isSo_20 hc0 (by decide) (by decide) rfl (by decide) ?_
    replace h := h.1 hc0
    refine lv_aload_n hx hb d_Vd_isSo_116 rfl (lv_at hl 1 rfl) ?_
    refine lv_iload_n hx hb d_Vd_isSo_117 rfl (lv_at hl 3 rfl) ?_
    refine lv_iload_n hx hb d_Vd_isSo_118 rfl (lv_at hl 4 rfl) ?_
    refine kw_calli (va_runV (As := [.int x2, .int x3]) (rest := []) (b := g.1 35) ⟨hx, hb, hml, hown, hts⟩ (c_Vd_isTypeSo l x2 x3 h) (cwV 2 hts (gd_v gw845 gw847 gs25 gw11 gw848) rfl rfl rfl (by decide +kernel) ⟨Nat.le_of_ble_eq_true rfl, Nat.le_of_ble_eq_true rfl⟩) ⟨kw_blind (Zk_ok g), va_recv hK hst.1 rfl (WS_o35 g σ), kw_pre (Zk_ok g) hK hZ hA hst⟩ rfl rfl hl.1 rfl (lv_room (Nat.le_of_ble_eq_true rfl)) d_Vd_isSo_119 ⟨Nat.le_of_ble_eq_true rfl, Nat.le_of_ble_eq_true rfl⟩) hst hA (fun r1 σ1 H locs h hst => ?_)
    exact kw_zret hx hb hr hlocks hst h d_Vd_isSo_122
  by_cases hc1 : (σ.1 30 x2.toNatClampNeg) = 2
  · refine kw_tin (k := 2) (tgt := 123) hx hb d_Vd_isSo_20 hc1 (by decide) (by decide) rfl (by decide) ?_
    replace h := h.2.1 hc1
    refine lv_aload_n hx hb d_Vd_isSo_123 rfl (lv_at hl 1 rfl) ?_
    refine lv_iload_n hx hb d_Vd_isSo_124 rfl (lv_at hl 3 rfl) ?_
    refine lv_iload_n hx hb d_Vd_isSo_125 rfl (lv_at hl 4 rfl) ?_
    refine lv_iconst (v := (0 : Int32)) hx hb d_Vd_isSo_126 (by decide) ?_
    refine kw_calli (va_runV (As := [.int x2, .int x3, .int (0 : Int32)]) (rest := []) (b := g.1 35) ⟨hx, hb, hml, hown, hts⟩ (c_Vd_isSame l x2 x3 (0 : Int32) h) (cwV 3 hts (gd_v gw857 gw859 gs27 gw11 gw860) rfl rfl rfl (by decide +kernel) ⟨Nat.le_of_ble_eq_true rfl, Nat.le_of_ble_eq_true rfl⟩) ⟨kw_blind (Zk_ok g), va_recv hK hst.1 rfl (WS_o35 g σ), kw_pre (Zk_ok g) hK hZ hA hst⟩ rfl rfl hl.1 rfl (lv_room (Nat.le_of_ble_eq_true rfl)) d_Vd_isSo_127 ⟨Nat.le_of_ble_eq_true rfl, Nat.le_of_ble_eq_true rfl⟩) hst hA (fun r1 σ1 H locs h hst => ?_)
    exact kw_zret hx hb hr hlocks hst h d_Vd_isSo_130
  by_cases hc2 : (σ.1 30 x2.toNatClampNeg) = 3
  · refine kw_tin (k := 3) (tgt := 131) hx hb d_Vd_isSo_20 hc2 (by decide) (by decide) rfl (by decide) ?_
    replace h := h.2.2.1 hc2
    refine lv_iload hx hb d_Vd_isSo_131 (lv_at hl 0 rfl) ?_
    refine lv_iconst (v := (5 : Int32)) hx hb d_Vd_isSo_133 (by decide) ?_
    refine lv_icmp_ne (tgt := 146) hx hb d_Vd_isSo_134 (by decide) (fun hc => ?_) (fun hc => ?_)
    · replace h := h.1 hc
      refine lv_iconst (v := (1 : Int32)) hx hb d_Vd_isSo_146 (by decide) ?_
      refine lv_goto (tgt := 151) hx hb d_Vd_isSo_147 (by decide) ?_
      exact kw_zret hx hb hr hlocks hst h d_Vd_isSo_151
    · replace h := h.2 hc
      refine lv_aload_n hx hb d_Vd_isSo_137 rfl (lv_at hl 1 rfl) ?_
      refine lv_iload_n hx hb d_Vd_isSo_138 rfl (lv_at hl 3 rfl) ?_
      refine lv_iload_n hx hb d_Vd_isSo_139 rfl (lv_at hl 4 rfl) ?_
      refine kw_calli (va_runV (As := [.int x2, .int x3]) (rest := []) (b := g.1 35) ⟨hx, hb, hml, hown, hts⟩ (c_Vd_hasSame l x2 x3 h) (cwV 2 hts (gd_v gw862 gw864 gs28 gw11 gw865) rfl rfl rfl (by decide +kernel) ⟨Nat.le_of_ble_eq_true rfl, Nat.le_of_ble_eq_true rfl⟩) ⟨kw_blind (Zk_ok g), va_recv hK hst.1 rfl (WS_o35 g σ), kw_pre (Zk_ok g) hK hZ hA hst⟩ rfl rfl hl.1 rfl (lv_room (Nat.le_of_ble_eq_true rfl)) d_Vd_isSo_140 ⟨Nat.le_of_ble_eq_true rfl, Nat.le_of_ble_eq_true rfl⟩) hst hA (fun r1 σ1 H locs h hst => ?_)
      refine lv_if_eq (tgt := 150) hx hb d_Vd_isSo_143 (by decide) (fun hc => ?_) (fun hc => ?_)
      · replace h := h.1 hc
        refine lv_iconst (v := (0 : Int32)) hx hb d_Vd_isSo_150 (by decide) ?_
        exact kw_zret hx hb hr hlocks hst h d_Vd_isSo_151
      · replace h := h.2 hc
        refine lv_iconst (v := (1 : Int32)) hx hb d_Vd_isSo_146 (by decide) ?_
        refine lv_goto (tgt := 151) hx hb d_Vd_isSo_147 (by decide) ?_
        exact kw_zret hx hb hr hlocks hst h d_Vd_isSo_151
  by_cases hc3 : (σ.1 30 x2.toNatClampNeg) = 4
  · refine kw_tin (k := 4) (tgt := 152) hx hb d_Vd_isSo_20 hc3 (by decide) (by decide) rfl (by decide) ?_
    replace h := h.2.2.2.1 hc3
    refine lv_iload hx hb d_Vd_isSo_152 (lv_at hl 0 rfl) ?_
    refine lv_iconst (v := (3 : Int32)) hx hb d_Vd_isSo_154 (by decide) ?_
    refine lv_icmp_ne (tgt := 204) hx hb d_Vd_isSo_155 (by decide) (fun hc => ?_) (fun hc => ?_)
    · replace h := h.1 hc
      refine lv_iconst (v := (1 : Int32)) hx hb d_Vd_isSo_204 (by decide) ?_
      refine lv_goto (tgt := 209) hx hb d_Vd_isSo_205 (by decide) ?_
      exact kw_zret hx hb hr hlocks hst h d_Vd_isSo_209
    · replace h := h.2 hc
      refine lv_aload_n hx hb d_Vd_isSo_158 rfl (lv_at hl 1 rfl) ?_
      refine va_get (D := D) (ci := 6) (C := R_Vd) (T := T_Vd) (N := 6) hx hb hts in_Vd hown hK hst.1 35 (WS_o35 g σ) rfl 2 (by decide) (hts _ gw305) (fun _ h9 => h9) rfl d_Vd_isSo_159 ?_
      refine va_get (D := D) (ci := 0) (C := R_Tr) (T := T_Tr) (N := 12) hx hb hts in_Tr hown hK hst.1 13 (WS_o13 g σ) rfl 1 (by decide) (hts _ gw133) (fun _ h9 => h9) rfl d_Vd_isSo_162 ?_
      refine lv_iload_n hx hb d_Vd_isSo_165 rfl (lv_at hl 4 rfl) ?_
      obtain ⟨hi, h⟩ := h
      refine va_iald hx hb hK hst.1 14 0 (WS_a14 g σ) rfl hi d_Vd_isSo_166 ?_
      refine lv_iconst (v := (3 : Int32)) hx hb d_Vd_isSo_167 (by decide) ?_
      refine lv_icmp_ne (tgt := 204) hx hb d_Vd_isSo_168 (by decide) (fun hc => ?_) (fun hc => ?_)
      · replace h := h.1 hc
        refine lv_iconst (v := (1 : Int32)) hx hb d_Vd_isSo_204 (by decide) ?_
        refine lv_goto (tgt := 209) hx hb d_Vd_isSo_205 (by decide) ?_
        exact kw_zret hx hb hr hlocks hst h d_Vd_isSo_209
      · replace h := h.2 hc
        refine lv_aload_n hx hb d_Vd_isSo_171 rfl (lv_at hl 1 rfl) ?_
        refine va_get (D := D) (ci := 6) (C := R_Vd) (T := T_Vd) (N := 6) hx hb hts in_Vd hown hK hst.1 35 (WS_o35 g σ) rfl 0 (by decide) (hts _ gw299) (fun _ h9 => h9) rfl d_Vd_isSo_172 ?_
        refine va_get (D := D) (ci := 5) (C := R_Pl) (T := T_Pl) (N := 10) hx hb hts in_Pl hown hK hst.1 29 (WS_o29 g σ) rfl 2 (by decide) (hts _ gw238) (fun _ h9 => h9) rfl d_Vd_isSo_175 ?_
        refine lv_iload_n hx hb d_Vd_isSo_178 rfl (lv_at hl 3 rfl) ?_
        obtain ⟨hi, h⟩ := h
        refine va_iald hx hb hK hst.1 30 0 (WS_a30 g σ) rfl hi d_Vd_isSo_179 ?_
        refine lv_aload_n hx hb d_Vd_isSo_180 rfl (lv_at hl 1 rfl) ?_
        refine va_get (D := D) (ci := 6) (C := R_Vd) (T := T_Vd) (N := 6) hx hb hts in_Vd hown hK hst.1 35 (WS_o35 g σ) rfl 2 (by decide) (hts _ gw305) (fun _ h9 => h9) rfl d_Vd_isSo_181 ?_
        refine va_get (D := D) (ci := 0) (C := R_Tr) (T := T_Tr) (N := 12) hx hb hts in_Tr hown hK hst.1 13 (WS_o13 g σ) rfl 7 (by decide) (hts _ gw161) (fun _ h9 => h9) rfl d_Vd_isSo_184 ?_
        refine lv_iload_n hx hb d_Vd_isSo_187 rfl (lv_at hl 4 rfl) ?_
        obtain ⟨hi, h⟩ := h
        refine va_iald hx hb hK hst.1 20 0 (WS_a20 g σ) rfl hi d_Vd_isSo_188 ?_
        refine lv_aload_n hx hb d_Vd_isSo_189 rfl (lv_at hl 1 rfl) ?_
        refine va_get (D := D) (ci := 6) (C := R_Vd) (T := T_Vd) (N := 6) hx hb hts in_Vd hown hK hst.1 35 (WS_o35 g σ) rfl 1 (by decide) (hts _ gw302) (fun _ h9 => h9) rfl d_Vd_isSo_190 ?_
        refine va_get (D := D) (ci := 0) (C := R_Tr) (T := T_Tr) (N := 12) hx hb hts in_Tr hown hK hst.1 0 (WS_o0 g σ) rfl 7 (by decide) (hts _ gw161) (fun _ h9 => h9) rfl d_Vd_isSo_193 ?_
        refine lv_iload_n hx hb d_Vd_isSo_196 rfl (lv_at hl 3 rfl) ?_
        obtain ⟨hi, h⟩ := h
        refine va_iald hx hb hK hst.1 7 0 (WS_a7 g σ) rfl hi d_Vd_isSo_197 ?_
        refine kw_calli (va_runS (As := [.int (σ.1 30 x2.toNatClampNeg), .int (σ.1 20 x3.toNatClampNeg), .int (σ.1 7 x2.toNatClampNeg)]) (rest := []) ⟨hx, hb, hml, hown, hts⟩ (c_Vd_isNumberSo l (σ.1 30 x2.toNatClampNeg) (σ.1 20 x3.toNatClampNeg) (σ.1 7 x2.toNatClampNeg) h) (cwS 3 hts (gd_s gw866 gw867 gw11 gw868) rfl rfl rfl (by decide +kernel) ⟨Nat.le_of_ble_eq_true rfl, Nat.le_of_ble_eq_true rfl⟩) ⟨kw_blind (Zk_ok g), kw_pre (Zk_ok g) hK hZ hA hst⟩ rfl rfl hl.1 rfl (lv_room (Nat.le_of_ble_eq_true rfl)) d_Vd_isSo_198 ⟨Nat.le_of_ble_eq_true rfl, Nat.le_of_ble_eq_true rfl⟩) hst hA (fun r1 σ1 H locs h hst => ?_)
        refine lv_if_eq (tgt := 208) hx hb d_Vd_isSo_201 (by decide) (fun hc => ?_) (fun hc => ?_)
        · replace h := h.1 hc
          refine lv_iconst (v := (0 : Int32)) hx hb d_Vd_isSo_208 (by decide) ?_
          exact kw_zret hx hb hr hlocks hst h d_Vd_isSo_209
        · replace h := h.2 hc
          refine lv_iconst (v := (1 : Int32)) hx hb d_Vd_isSo_204 (by decide) ?_
          refine lv_goto (tgt := 209) hx hb d_Vd_isSo_205 (by decide) ?_
          exact kw_zret hx hb hr hlocks hst h d_Vd_isSo_209
  by_cases hc4 : (σ.1 30 x2.toNatClampNeg) = 5
  · refine kw_tin (k := 5) (tgt := 152) hx hb d_Vd_isSo_20 hc4 (by decide) (by decide) rfl (by decide) ?_
    replace h := h.2.2.2.2.1 hc4
    refine lv_iload hx hb d_Vd_isSo_152 (lv_at hl 0 rfl) ?_
    refine lv_iconst (v := (3 : Int32)) hx hb d_Vd_isSo_154 (by decide) ?_
    refine lv_icmp_ne (tgt := 204) hx hb d_Vd_isSo_155 (by decide) (fun hc => ?_) (fun hc => ?_)
    · replace h := h.1 hc
      refine lv_iconst (v := (1 : Int32)) hx hb d_Vd_isSo_204 (by decide) ?_
      refine lv_goto (tgt := 209) hx hb d_Vd_isSo_205 (by decide) ?_
      exact kw_zret hx hb hr hlocks hst h d_Vd_isSo_209
    · replace h := h.2 hc
      refine lv_aload_n hx hb d_Vd_isSo_158 rfl (lv_at hl 1 rfl) ?_
      refine va_get (D := D) (ci := 6) (C := R_Vd) (T := T_Vd) (N := 6) hx hb hts in_Vd hown hK hst.1 35 (WS_o35 g σ) rfl 2 (by decide) (hts _ gw305) (fun _ h9 => h9) rfl d_Vd_isSo_159 ?_
      refine va_get (D := D) (ci := 0) (C := R_Tr) (T := T_Tr) (N := 12) hx hb hts in_Tr hown hK hst.1 13 (WS_o13 g σ) rfl 1 (by decide) (hts _ gw133) (fun _ h9 => h9) rfl d_Vd_isSo_162 ?_
      refine lv_iload_n hx hb d_Vd_isSo_165 rfl (lv_at hl 4 rfl) ?_
      obtain ⟨hi, h⟩ := h
      refine va_iald hx hb hK hst.1 14 0 (WS_a14 g σ) rfl hi d_Vd_isSo_166 ?_
      refine lv_iconst (v := (3 : Int32)) hx hb d_Vd_isSo_167 (by decide) ?_
      refine lv_icmp_ne (tgt := 204) hx hb d_Vd_isSo_168 (by decide) (fun hc => ?_) (fun hc => ?_)
      · replace h := h.1 hc
        refine lv_iconst (v := (1 : Int32)) hx hb d_Vd_isSo_204 (by decide) ?_
        refine lv_goto (tgt := 209) hx hb d_Vd_isSo_205 (by decide) ?_
        exact kw_zret hx hb hr hlocks hst h d_Vd_isSo_209
      · replace h := h.2 hc
        refine lv_aload_n hx hb d_Vd_isSo_171 rfl (lv_at hl 1 rfl) ?_
        refine va_get (D := D) (ci := 6) (C := R_Vd) (T := T_Vd) (N := 6) hx hb hts in_Vd hown hK hst.1 35 (WS_o35 g σ) rfl 0 (by decide) (hts _ gw299) (fun _ h9 => h9) rfl d_Vd_isSo_172 ?_
        refine va_get (D := D) (ci := 5) (C := R_Pl) (T := T_Pl) (N := 10) hx hb hts in_Pl hown hK hst.1 29 (WS_o29 g σ) rfl 2 (by decide) (hts _ gw238) (fun _ h9 => h9) rfl d_Vd_isSo_175 ?_
        refine lv_iload_n hx hb d_Vd_isSo_178 rfl (lv_at hl 3 rfl) ?_
        obtain ⟨hi, h⟩ := h
        refine va_iald hx hb hK hst.1 30 0 (WS_a30 g σ) rfl hi d_Vd_isSo_179 ?_
        refine lv_aload_n hx hb d_Vd_isSo_180 rfl (lv_at hl 1 rfl) ?_
        refine va_get (D := D) (ci := 6) (C := R_Vd) (T := T_Vd) (N := 6) hx hb hts in_Vd hown hK hst.1 35 (WS_o35 g σ) rfl 2 (by decide) (hts _ gw305) (fun _ h9 => h9) rfl d_Vd_isSo_181 ?_
        refine va_get (D := D) (ci := 0) (C := R_Tr) (T := T_Tr) (N := 12) hx hb hts in_Tr hown hK hst.1 13 (WS_o13 g σ) rfl 7 (by decide) (hts _ gw161) (fun _ h9 => h9) rfl d_Vd_isSo_184 ?_
        refine lv_iload_n hx hb d_Vd_isSo_187 rfl (lv_at hl 4 rfl) ?_
        obtain ⟨hi, h⟩ := h
        refine va_iald hx hb hK hst.1 20 0 (WS_a20 g σ) rfl hi d_Vd_isSo_188 ?_
        refine lv_aload_n hx hb d_Vd_isSo_189 rfl (lv_at hl 1 rfl) ?_
        refine va_get (D := D) (ci := 6) (C := R_Vd) (T := T_Vd) (N := 6) hx hb hts in_Vd hown hK hst.1 35 (WS_o35 g σ) rfl 1 (by decide) (hts _ gw302) (fun _ h9 => h9) rfl d_Vd_isSo_190 ?_
        refine va_get (D := D) (ci := 0) (C := R_Tr) (T := T_Tr) (N := 12) hx hb hts in_Tr hown hK hst.1 0 (WS_o0 g σ) rfl 7 (by decide) (hts _ gw161) (fun _ h9 => h9) rfl d_Vd_isSo_193 ?_
        refine lv_iload_n hx hb d_Vd_isSo_196 rfl (lv_at hl 3 rfl) ?_
        obtain ⟨hi, h⟩ := h
        refine va_iald hx hb hK hst.1 7 0 (WS_a7 g σ) rfl hi d_Vd_isSo_197 ?_
        refine kw_calli (va_runS (As := [.int (σ.1 30 x2.toNatClampNeg), .int (σ.1 20 x3.toNatClampNeg), .int (σ.1 7 x2.toNatClampNeg)]) (rest := []) ⟨hx, hb, hml, hown, hts⟩ (c_Vd_isNumberSo l (σ.1 30 x2.toNatClampNeg) (σ.1 20 x3.toNatClampNeg) (σ.1 7 x2.toNatClampNeg) h) (cwS 3 hts (gd_s gw866 gw867 gw11 gw868) rfl rfl rfl (by decide +kernel) ⟨Nat.le_of_ble_eq_true rfl, Nat.le_of_ble_eq_true rfl⟩) ⟨kw_blind (Zk_ok g), kw_pre (Zk_ok g) hK hZ hA hst⟩ rfl rfl hl.1 rfl (lv_room (Nat.le_of_ble_eq_true rfl)) d_Vd_isSo_198 ⟨Nat.le_of_ble_eq_true rfl, Nat.le_of_ble_eq_true rfl⟩) hst hA (fun r1 σ1 H locs h hst => ?_)
        refine lv_if_eq (tgt := 208) hx hb d_Vd_isSo_201 (by decide) (fun hc => ?_) (fun hc => ?_)
        · replace h := h.1 hc
          refine lv_iconst (v := (0 : Int32)) hx hb d_Vd_isSo_208 (by decide) ?_
          exact kw_zret hx hb hr hlocks hst h d_Vd_isSo_209
        · replace h := h.2 hc
          refine lv_iconst (v := (1 : Int32)) hx hb d_Vd_isSo_204 (by decide) ?_
          refine lv_goto (tgt := 209) hx hb d_Vd_isSo_205 (by decide) ?_
          exact kw_zret hx hb hr hlocks hst h d_Vd_isSo_209
  by_cases hc5 : (σ.1 30 x2.toNatClampNeg) = 6
  · refine kw_tin (k := 6) (tgt := 152) hx hb d_Vd_isSo_20 hc5 (by decide) (by decide) rfl (by decide) ?_
    replace h := h.2.2.2.2.2.1 hc5
    refine lv_iload hx hb d_Vd_isSo_152 (lv_at hl 0 rfl) ?_
    refine lv_iconst (v := (3 : Int32)) hx hb d_Vd_isSo_154 (by decide) ?_
    refine lv_icmp_ne (tgt := 204) hx hb d_Vd_isSo_155 (by decide) (fun hc => ?_) (fun hc => ?_)
    · replace h := h.1 hc
      refine lv_iconst (v := (1 : Int32)) hx hb d_Vd_isSo_204 (by decide) ?_
      refine lv_goto (tgt := 209) hx hb d_Vd_isSo_205 (by decide) ?_
      exact kw_zret hx hb hr hlocks hst h d_Vd_isSo_209
    · replace h := h.2 hc
      refine lv_aload_n hx hb d_Vd_isSo_158 rfl (lv_at hl 1 rfl) ?_
      refine va_get (D := D) (ci := 6) (C := R_Vd) (T := T_Vd) (N := 6) hx hb hts in_Vd hown hK hst.1 35 (WS_o35 g σ) rfl 2 (by decide) (hts _ gw305) (fun _ h9 => h9) rfl d_Vd_isSo_159 ?_
      refine va_get (D := D) (ci := 0) (C := R_Tr) (T := T_Tr) (N := 12) hx hb hts in_Tr hown hK hst.1 13 (WS_o13 g σ) rfl 1 (by decide) (hts _ gw133) (fun _ h9 => h9) rfl d_Vd_isSo_162 ?_
      refine lv_iload_n hx hb d_Vd_isSo_165 rfl (lv_at hl 4 rfl) ?_
      obtain ⟨hi, h⟩ := h
      refine va_iald hx hb hK hst.1 14 0 (WS_a14 g σ) rfl hi d_Vd_isSo_166 ?_
      refine lv_iconst (v := (3 : Int32)) hx hb d_Vd_isSo_167 (by decide) ?_
      refine lv_icmp_ne (tgt := 204) hx hb d_Vd_isSo_168 (by decide) (fun hc => ?_) (fun hc => ?_)
      · replace h := h.1 hc
        refine lv_iconst (v := (1 : Int32)) hx hb d_Vd_isSo_204 (by decide) ?_
        refine lv_goto (tgt := 209) hx hb d_Vd_isSo_205 (by decide) ?_
        exact kw_zret hx hb hr hlocks hst h d_Vd_isSo_209
      · replace h := h.2 hc
        refine lv_aload_n hx hb d_Vd_isSo_171 rfl (lv_at hl 1 rfl) ?_
        refine va_get (D := D) (ci := 6) (C := R_Vd) (T := T_Vd) (N := 6) hx hb hts in_Vd hown hK hst.1 35 (WS_o35 g σ) rfl 0 (by decide) (hts _ gw299) (fun _ h9 => h9) rfl d_Vd_isSo_172 ?_
        refine va_get (D := D) (ci := 5) (C := R_Pl) (T := T_Pl) (N := 10) hx hb hts in_Pl hown hK hst.1 29 (WS_o29 g σ) rfl 2 (by decide) (hts _ gw238) (fun _ h9 => h9) rfl d_Vd_isSo_175 ?_
        refine lv_iload_n hx hb d_Vd_isSo_178 rfl (lv_at hl 3 rfl) ?_
        obtain ⟨hi, h⟩ := h
        refine va_iald hx hb hK hst.1 30 0 (WS_a30 g σ) rfl hi d_Vd_isSo_179 ?_
        refine lv_aload_n hx hb d_Vd_isSo_180 rfl (lv_at hl 1 rfl) ?_
        refine va_get (D := D) (ci := 6) (C := R_Vd) (T := T_Vd) (N := 6) hx hb hts in_Vd hown hK hst.1 35 (WS_o35 g σ) rfl 2 (by decide) (hts _ gw305) (fun _ h9 => h9) rfl d_Vd_isSo_181 ?_
        refine va_get (D := D) (ci := 0) (C := R_Tr) (T := T_Tr) (N := 12) hx hb hts in_Tr hown hK hst.1 13 (WS_o13 g σ) rfl 7 (by decide) (hts _ gw161) (fun _ h9 => h9) rfl d_Vd_isSo_184 ?_
        refine lv_iload_n hx hb d_Vd_isSo_187 rfl (lv_at hl 4 rfl) ?_
        obtain ⟨hi, h⟩ := h
        refine va_iald hx hb hK hst.1 20 0 (WS_a20 g σ) rfl hi d_Vd_isSo_188 ?_
        refine lv_aload_n hx hb d_Vd_isSo_189 rfl (lv_at hl 1 rfl) ?_
        refine va_get (D := D) (ci := 6) (C := R_Vd) (T := T_Vd) (N := 6) hx hb hts in_Vd hown hK hst.1 35 (WS_o35 g σ) rfl 1 (by decide) (hts _ gw302) (fun _ h9 => h9) rfl d_Vd_isSo_190 ?_
        refine va_get (D := D) (ci := 0) (C := R_Tr) (T := T_Tr) (N := 12) hx hb hts in_Tr hown hK hst.1 0 (WS_o0 g σ) rfl 7 (by decide) (hts _ gw161) (fun _ h9 => h9) rfl d_Vd_isSo_193 ?_
        refine lv_iload_n hx hb d_Vd_isSo_196 rfl (lv_at hl 3 rfl) ?_
        obtain ⟨hi, h⟩ := h
        refine va_iald hx hb hK hst.1 7 0 (WS_a7 g σ) rfl hi d_Vd_isSo_197 ?_
        refine kw_calli (va_runS (As := [.int (σ.1 30 x2.toNatClampNeg), .int (σ.1 20 x3.toNatClampNeg), .int (σ.1 7 x2.toNatClampNeg)]) (rest := []) ⟨hx, hb, hml, hown, hts⟩ (c_Vd_isNumberSo l (σ.1 30 x2.toNatClampNeg) (σ.1 20 x3.toNatClampNeg) (σ.1 7 x2.toNatClampNeg) h) (cwS 3 hts (gd_s gw866 gw867 gw11 gw868) rfl rfl rfl (by decide +kernel) ⟨Nat.le_of_ble_eq_true rfl, Nat.le_of_ble_eq_true rfl⟩) ⟨kw_blind (Zk_ok g), kw_pre (Zk_ok g) hK hZ hA hst⟩ rfl rfl hl.1 rfl (lv_room (Nat.le_of_ble_eq_true rfl)) d_Vd_isSo_198 ⟨Nat.le_of_ble_eq_true rfl, Nat.le_of_ble_eq_true rfl⟩) hst hA (fun r1 σ1 H locs h hst => ?_)
        refine lv_if_eq (tgt := 208) hx hb d_Vd_isSo_201 (by decide) (fun hc => ?_) (fun hc => ?_)
        · replace h := h.1 hc
          refine lv_iconst (v := (0 : Int32)) hx hb d_Vd_isSo_208 (by decide) ?_
          exact kw_zret hx hb hr hlocks hst h d_Vd_isSo_209
        · replace h := h.2 hc
          refine lv_iconst (v := (1 : Int32)) hx hb d_Vd_isSo_204 (by decide) ?_
          refine lv_goto (tgt := 209) hx hb d_Vd_isSo_205 (by decide) ?_
          exact kw_zret hx hb hr hlocks hst h d_Vd_isSo_209
  by_cases hc6 : (σ.1 30 x2.toNatClampNeg) = 7
  · refine kw_tin (k := 7) (tgt := 210) hx hb d_Vd_isSo_20 hc6 (by decide) (by decide) rfl (by decide) ?_
    replace h := h.2.2.2.2.2.2.1 hc6
    refine lv_iload hx hb d_Vd_isSo_210 (lv_at hl 0 rfl) ?_
    refine lv_iconst (v := (3 : Int32)) hx hb d_Vd_isSo_212 (by decide) ?_
    refine lv_icmp_ne (tgt := 261) hx hb d_Vd_isSo_213 (by decide) (fun hc => ?_) (fun hc => ?_)
    · replace h := h.1 hc
      refine lv_iconst (v := (1 : Int32)) hx hb d_Vd_isSo_261 (by decide) ?_
      refine lv_goto (tgt := 266) hx hb d_Vd_isSo_262 (by decide) ?_
      exact kw_zret hx hb hr hlocks hst h d_Vd_isSo_266
    · replace h := h.2 hc
      refine lv_aload_n hx hb d_Vd_isSo_216 rfl (lv_at hl 1 rfl) ?_
      refine va_get (D := D) (ci := 6) (C := R_Vd) (T := T_Vd) (N := 6) hx hb hts in_Vd hown hK hst.1 35 (WS_o35 g σ) rfl 2 (by decide) (hts _ gw305) (fun _ h9 => h9) rfl d_Vd_isSo_217 ?_
      refine va_get (D := D) (ci := 0) (C := R_Tr) (T := T_Tr) (N := 12) hx hb hts in_Tr hown hK hst.1 13 (WS_o13 g σ) rfl 1 (by decide) (hts _ gw133) (fun _ h9 => h9) rfl d_Vd_isSo_220 ?_
      refine lv_iload_n hx hb d_Vd_isSo_223 rfl (lv_at hl 4 rfl) ?_
      obtain ⟨hi, h⟩ := h
      refine va_iald hx hb hK hst.1 14 0 (WS_a14 g σ) rfl hi d_Vd_isSo_224 ?_
      refine lv_iconst (v := (4 : Int32)) hx hb d_Vd_isSo_225 (by decide) ?_
      refine lv_icmp_ne (tgt := 261) hx hb d_Vd_isSo_226 (by decide) (fun hc => ?_) (fun hc => ?_)
      · replace h := h.1 hc
        refine lv_iconst (v := (1 : Int32)) hx hb d_Vd_isSo_261 (by decide) ?_
        refine lv_goto (tgt := 266) hx hb d_Vd_isSo_262 (by decide) ?_
        exact kw_zret hx hb hr hlocks hst h d_Vd_isSo_266
      · replace h := h.2 hc
        refine lv_aload_n hx hb d_Vd_isSo_229 rfl (lv_at hl 1 rfl) ?_
        refine va_get (D := D) (ci := 6) (C := R_Vd) (T := T_Vd) (N := 6) hx hb hts in_Vd hown hK hst.1 35 (WS_o35 g σ) rfl 0 (by decide) (hts _ gw299) (fun _ h9 => h9) rfl d_Vd_isSo_230 ?_
        refine va_get (D := D) (ci := 5) (C := R_Pl) (T := T_Pl) (N := 10) hx hb hts in_Pl hown hK hst.1 29 (WS_o29 g σ) rfl 2 (by decide) (hts _ gw238) (fun _ h9 => h9) rfl d_Vd_isSo_233 ?_
        refine lv_iload_n hx hb d_Vd_isSo_236 rfl (lv_at hl 3 rfl) ?_
        obtain ⟨hi, h⟩ := h
        refine va_iald hx hb hK hst.1 30 0 (WS_a30 g σ) rfl hi d_Vd_isSo_237 ?_
        refine lv_aload_n hx hb d_Vd_isSo_238 rfl (lv_at hl 1 rfl) ?_
        refine va_get (D := D) (ci := 6) (C := R_Vd) (T := T_Vd) (N := 6) hx hb hts in_Vd hown hK hst.1 35 (WS_o35 g σ) rfl 2 (by decide) (hts _ gw305) (fun _ h9 => h9) rfl d_Vd_isSo_239 ?_
        refine lv_iload_n hx hb d_Vd_isSo_242 rfl (lv_at hl 4 rfl) ?_
        refine kw_calli (va_runV (As := [.int x3]) (rest := [.int (σ.1 30 x2.toNatClampNeg)]) (b := g.1 13) ⟨hx, hb, hml, hown, hts⟩ (c_Tr_charactersOf_13 l x3 h) (cwV 1 hts (gd_v gw869 gw870 gw871 gw7 gw872) rfl rfl rfl (by decide +kernel) ⟨Nat.le_of_ble_eq_true rfl, Nat.le_of_ble_eq_true rfl⟩) ⟨kw_blind (Zk_ok g), va_recv hK hst.1 rfl (WS_o13 g σ), kw_pre (Zk_ok g) hK hZ hA hst⟩ rfl rfl hl.1 rfl (lv_room (Nat.le_of_ble_eq_true rfl)) d_Vd_isSo_243 ⟨Nat.le_of_ble_eq_true rfl, Nat.le_of_ble_eq_true rfl⟩) hst hA (fun r1 σ1 H locs h hst => ?_)
        refine lv_aload_n hx hb d_Vd_isSo_246 rfl (lv_at hl 1 rfl) ?_
        refine va_get (D := D) (ci := 6) (C := R_Vd) (T := T_Vd) (N := 6) hx hb hts in_Vd hown hK hst.1 35 (WS_o35 g σ1) rfl 1 (by decide) (hts _ gw302) (fun _ h9 => h9) rfl d_Vd_isSo_247 ?_
        refine va_get (D := D) (ci := 0) (C := R_Tr) (T := T_Tr) (N := 12) hx hb hts in_Tr hown hK hst.1 0 (WS_o0 g σ1) rfl 7 (by decide) (hts _ gw161) (fun _ h9 => h9) rfl d_Vd_isSo_250 ?_
        refine lv_iload_n hx hb d_Vd_isSo_253 rfl (lv_at hl 3 rfl) ?_
        obtain ⟨hi, h⟩ := h
        refine va_iald hx hb hK hst.1 7 0 (WS_a7 g σ1) rfl hi d_Vd_isSo_254 ?_
        refine kw_calli (va_runS (As := [.int (σ.1 30 x2.toNatClampNeg), .int r1, .int (σ1.1 7 x2.toNatClampNeg)]) (rest := []) ⟨hx, hb, hml, hown, hts⟩ (c_Vd_isNumberSo l (σ.1 30 x2.toNatClampNeg) r1 (σ1.1 7 x2.toNatClampNeg) h) (cwS 3 hts (gd_s gw866 gw867 gw11 gw868) rfl rfl rfl (by decide +kernel) ⟨Nat.le_of_ble_eq_true rfl, Nat.le_of_ble_eq_true rfl⟩) ⟨kw_blind (Zk_ok g), kw_pre (Zk_ok g) hK hZ hA hst⟩ rfl rfl hl.1 rfl (lv_room (Nat.le_of_ble_eq_true rfl)) d_Vd_isSo_255 ⟨Nat.le_of_ble_eq_true rfl, Nat.le_of_ble_eq_true rfl⟩) hst hA (fun r2 σ2 H locs h hst => ?_)
        refine lv_if_eq (tgt := 265) hx hb d_Vd_isSo_258 (by decide) (fun hc => ?_) (fun hc => ?_)
        · replace h := h.1 hc
          refine lv_iconst (v := (0 : Int32)) hx hb d_Vd_isSo_265 (by decide) ?_
          exact kw_zret hx hb hr hlocks hst h d_Vd_isSo_266
        · replace h := h.2 hc
          refine lv_iconst (v := (1 : Int32)) hx hb d_Vd_isSo_261 (by decide) ?_
          refine lv_goto (tgt := 266) hx hb d_Vd_isSo_262 (by decide) ?_
          exact kw_zret hx hb hr hlocks hst h d_Vd_isSo_266
  by_cases hc7 : (σ.1 30 x2.toNatClampNeg) = 8
  · refine kw_tin (k := 8) (tgt := 210) hx hb d_Vd_isSo_20 hc7 (by decide) (by decide) rfl (by decide) ?_
    replace h := h.2.2.2.2.2.2.2.1 hc7
    refine lv_iload hx hb d_Vd_isSo_210 (lv_at hl 0 rfl) ?_
    refine lv_iconst (v := (3 : Int32)) hx hb d_Vd_isSo_212 (by decide) ?_
    refine lv_icmp_ne (tgt := 261) hx hb d_Vd_isSo_213 (by decide) (fun hc => ?_) (fun hc => ?_)
    · replace h := h.1 hc
      refine lv_iconst (v := (1 : Int32)) hx hb d_Vd_isSo_261 (by decide) ?_
      refine lv_goto (tgt := 266) hx hb d_Vd_isSo_262 (by decide) ?_
      exact kw_zret hx hb hr hlocks hst h d_Vd_isSo_266
    · replace h := h.2 hc
      refine lv_aload_n hx hb d_Vd_isSo_216 rfl (lv_at hl 1 rfl) ?_
      refine va_get (D := D) (ci := 6) (C := R_Vd) (T := T_Vd) (N := 6) hx hb hts in_Vd hown hK hst.1 35 (WS_o35 g σ) rfl 2 (by decide) (hts _ gw305) (fun _ h9 => h9) rfl d_Vd_isSo_217 ?_
      refine va_get (D := D) (ci := 0) (C := R_Tr) (T := T_Tr) (N := 12) hx hb hts in_Tr hown hK hst.1 13 (WS_o13 g σ) rfl 1 (by decide) (hts _ gw133) (fun _ h9 => h9) rfl d_Vd_isSo_220 ?_
      refine lv_iload_n hx hb d_Vd_isSo_223 rfl (lv_at hl 4 rfl) ?_
      obtain ⟨hi, h⟩ := h
      refine va_iald hx hb hK hst.1 14 0 (WS_a14 g σ) rfl hi d_Vd_isSo_224 ?_
      refine lv_iconst (v := (4 : Int32)) hx hb d_Vd_isSo_225 (by decide) ?_
      refine lv_icmp_ne (tgt := 261) hx hb d_Vd_isSo_226 (by decide) (fun hc => ?_) (fun hc => ?_)
      · replace h := h.1 hc
        refine lv_iconst (v := (1 : Int32)) hx hb d_Vd_isSo_261 (by decide) ?_
        refine lv_goto (tgt := 266) hx hb d_Vd_isSo_262 (by decide) ?_
        exact kw_zret hx hb hr hlocks hst h d_Vd_isSo_266
      · replace h := h.2 hc
        refine lv_aload_n hx hb d_Vd_isSo_229 rfl (lv_at hl 1 rfl) ?_
        refine va_get (D := D) (ci := 6) (C := R_Vd) (T := T_Vd) (N := 6) hx hb hts in_Vd hown hK hst.1 35 (WS_o35 g σ) rfl 0 (by decide) (hts _ gw299) (fun _ h9 => h9) rfl d_Vd_isSo_230 ?_
        refine va_get (D := D) (ci := 5) (C := R_Pl) (T := T_Pl) (N := 10) hx hb hts in_Pl hown hK hst.1 29 (WS_o29 g σ) rfl 2 (by decide) (hts _ gw238) (fun _ h9 => h9) rfl d_Vd_isSo_233 ?_
        refine lv_iload_n hx hb d_Vd_isSo_236 rfl (lv_at hl 3 rfl) ?_
        obtain ⟨hi, h⟩ := h
        refine va_iald hx hb hK hst.1 30 0 (WS_a30 g σ) rfl hi d_Vd_isSo_237 ?_
        refine lv_aload_n hx hb d_Vd_isSo_238 rfl (lv_at hl 1 rfl) ?_
        refine va_get (D := D) (ci := 6) (C := R_Vd) (T := T_Vd) (N := 6) hx hb hts in_Vd hown hK hst.1 35 (WS_o35 g σ) rfl 2 (by decide) (hts _ gw305) (fun _ h9 => h9) rfl d_Vd_isSo_239 ?_
        refine lv_iload_n hx hb d_Vd_isSo_242 rfl (lv_at hl 4 rfl) ?_
        refine kw_calli (va_runV (As := [.int x3]) (rest := [.int (σ.1 30 x2.toNatClampNeg)]) (b := g.1 13) ⟨hx, hb, hml, hown, hts⟩ (c_Tr_charactersOf_13 l x3 h) (cwV 1 hts (gd_v gw869 gw870 gw871 gw7 gw872) rfl rfl rfl (by decide +kernel) ⟨Nat.le_of_ble_eq_true rfl, Nat.le_of_ble_eq_true rfl⟩) ⟨kw_blind (Zk_ok g), va_recv hK hst.1 rfl (WS_o13 g σ), kw_pre (Zk_ok g) hK hZ hA hst⟩ rfl rfl hl.1 rfl (lv_room (Nat.le_of_ble_eq_true rfl)) d_Vd_isSo_243 ⟨Nat.le_of_ble_eq_true rfl, Nat.le_of_ble_eq_true rfl⟩) hst hA (fun r1 σ1 H locs h hst => ?_)
        refine lv_aload_n hx hb d_Vd_isSo_246 rfl (lv_at hl 1 rfl) ?_
        refine va_get (D := D) (ci := 6) (C := R_Vd) (T := T_Vd) (N := 6) hx hb hts in_Vd hown hK hst.1 35 (WS_o35 g σ1) rfl 1 (by decide) (hts _ gw302) (fun _ h9 => h9) rfl d_Vd_isSo_247 ?_
        refine va_get (D := D) (ci := 0) (C := R_Tr) (T := T_Tr) (N := 12) hx hb hts in_Tr hown hK hst.1 0 (WS_o0 g σ1) rfl 7 (by decide) (hts _ gw161) (fun _ h9 => h9) rfl d_Vd_isSo_250 ?_
        refine lv_iload_n hx hb d_Vd_isSo_253 rfl (lv_at hl 3 rfl) ?_
        obtain ⟨hi, h⟩ := h
        refine va_iald hx hb hK hst.1 7 0 (WS_a7 g σ1) rfl hi d_Vd_isSo_254 ?_
        refine kw_calli (va_runS (As := [.int (σ.1 30 x2.toNatClampNeg), .int r1, .int (σ1.1 7 x2.toNatClampNeg)]) (rest := []) ⟨hx, hb, hml, hown, hts⟩ (c_Vd_isNumberSo l (σ.1 30 x2.toNatClampNeg) r1 (σ1.1 7 x2.toNatClampNeg) h) (cwS 3 hts (gd_s gw866 gw867 gw11 gw868) rfl rfl rfl (by decide +kernel) ⟨Nat.le_of_ble_eq_true rfl, Nat.le_of_ble_eq_true rfl⟩) ⟨kw_blind (Zk_ok g), kw_pre (Zk_ok g) hK hZ hA hst⟩ rfl rfl hl.1 rfl (lv_room (Nat.le_of_ble_eq_true rfl)) d_Vd_isSo_255 ⟨Nat.le_of_ble_eq_true rfl, Nat.le_of_ble_eq_true rfl⟩) hst hA (fun r2 σ2 H locs h hst => ?_)
        refine lv_if_eq (tgt := 265) hx hb d_Vd_isSo_258 (by decide) (fun hc => ?_) (fun hc => ?_)
        · replace h := h.1 hc
          refine lv_iconst (v := (0 : Int32)) hx hb d_Vd_isSo_265 (by decide) ?_
          exact kw_zret hx hb hr hlocks hst h d_Vd_isSo_266
        · replace h := h.2 hc
          refine lv_iconst (v := (1 : Int32)) hx hb d_Vd_isSo_261 (by decide) ?_
          refine lv_goto (tgt := 266) hx hb d_Vd_isSo_262 (by decide) ?_
          exact kw_zret hx hb hr hlocks hst h d_Vd_isSo_266
  by_cases hc8 : (σ.1 30 x2.toNatClampNeg) = 9
  · refine kw_tin (k := 9) (tgt := 267) hx hb d_Vd_isSo_20 hc8 (by decide) (by decide) rfl (by decide) ?_
    replace h := h.2.2.2.2.2.2.2.2.1 hc8
    refine lv_iload hx hb d_Vd_isSo_267 (lv_at hl 0 rfl) ?_
    refine lv_iconst (v := (3 : Int32)) hx hb d_Vd_isSo_269 (by decide) ?_
    refine lv_icmp_ne (tgt := 319) hx hb d_Vd_isSo_270 (by decide) (fun hc => ?_) (fun hc => ?_)
    · replace h := h.1 hc
      refine lv_iconst (v := (1 : Int32)) hx hb d_Vd_isSo_319 (by decide) ?_
      refine lv_goto (tgt := 324) hx hb d_Vd_isSo_320 (by decide) ?_
      exact kw_zret hx hb hr hlocks hst h d_Vd_isSo_324
    · replace h := h.2 hc
      refine lv_aload_n hx hb d_Vd_isSo_273 rfl (lv_at hl 1 rfl) ?_
      refine va_get (D := D) (ci := 6) (C := R_Vd) (T := T_Vd) (N := 6) hx hb hts in_Vd hown hK hst.1 35 (WS_o35 g σ) rfl 2 (by decide) (hts _ gw305) (fun _ h9 => h9) rfl d_Vd_isSo_274 ?_
      refine va_get (D := D) (ci := 0) (C := R_Tr) (T := T_Tr) (N := 12) hx hb hts in_Tr hown hK hst.1 13 (WS_o13 g σ) rfl 1 (by decide) (hts _ gw133) (fun _ h9 => h9) rfl d_Vd_isSo_277 ?_
      refine lv_iload_n hx hb d_Vd_isSo_280 rfl (lv_at hl 4 rfl) ?_
      obtain ⟨hi, h⟩ := h
      refine va_iald hx hb hK hst.1 14 0 (WS_a14 g σ) rfl hi d_Vd_isSo_281 ?_
      refine lv_iconst (v := (5 : Int32)) hx hb d_Vd_isSo_282 (by decide) ?_
      refine lv_icmp_ne (tgt := 319) hx hb d_Vd_isSo_283 (by decide) (fun hc => ?_) (fun hc => ?_)
      · replace h := h.1 hc
        refine lv_iconst (v := (1 : Int32)) hx hb d_Vd_isSo_319 (by decide) ?_
        refine lv_goto (tgt := 324) hx hb d_Vd_isSo_320 (by decide) ?_
        exact kw_zret hx hb hr hlocks hst h d_Vd_isSo_324
      · replace h := h.2 hc
        refine lv_aload_n hx hb d_Vd_isSo_286 rfl (lv_at hl 1 rfl) ?_
        refine va_get (D := D) (ci := 6) (C := R_Vd) (T := T_Vd) (N := 6) hx hb hts in_Vd hown hK hst.1 35 (WS_o35 g σ) rfl 0 (by decide) (hts _ gw299) (fun _ h9 => h9) rfl d_Vd_isSo_287 ?_
        refine va_get (D := D) (ci := 5) (C := R_Pl) (T := T_Pl) (N := 10) hx hb hts in_Pl hown hK hst.1 29 (WS_o29 g σ) rfl 2 (by decide) (hts _ gw238) (fun _ h9 => h9) rfl d_Vd_isSo_290 ?_
        refine lv_iload_n hx hb d_Vd_isSo_293 rfl (lv_at hl 3 rfl) ?_
        obtain ⟨hi, h⟩ := h
        refine va_iald hx hb hK hst.1 30 0 (WS_a30 g σ) rfl hi d_Vd_isSo_294 ?_
        refine lv_aload_n hx hb d_Vd_isSo_295 rfl (lv_at hl 1 rfl) ?_
        refine va_get (D := D) (ci := 6) (C := R_Vd) (T := T_Vd) (N := 6) hx hb hts in_Vd hown hK hst.1 35 (WS_o35 g σ) rfl 2 (by decide) (hts _ gw305) (fun _ h9 => h9) rfl d_Vd_isSo_296 ?_
        refine va_get (D := D) (ci := 0) (C := R_Tr) (T := T_Tr) (N := 12) hx hb hts in_Tr hown hK hst.1 13 (WS_o13 g σ) rfl 5 (by decide) (hts _ gw150) (fun _ h9 => h9) rfl d_Vd_isSo_299 ?_
        refine lv_iload_n hx hb d_Vd_isSo_302 rfl (lv_at hl 4 rfl) ?_
        obtain ⟨hi, h⟩ := h
        refine va_iald hx hb hK hst.1 18 0 (WS_a18 g σ) rfl hi d_Vd_isSo_303 ?_
        refine lv_aload_n hx hb d_Vd_isSo_304 rfl (lv_at hl 1 rfl) ?_
        refine va_get (D := D) (ci := 6) (C := R_Vd) (T := T_Vd) (N := 6) hx hb hts in_Vd hown hK hst.1 35 (WS_o35 g σ) rfl 1 (by decide) (hts _ gw302) (fun _ h9 => h9) rfl d_Vd_isSo_305 ?_
        refine va_get (D := D) (ci := 0) (C := R_Tr) (T := T_Tr) (N := 12) hx hb hts in_Tr hown hK hst.1 0 (WS_o0 g σ) rfl 7 (by decide) (hts _ gw161) (fun _ h9 => h9) rfl d_Vd_isSo_308 ?_
        refine lv_iload_n hx hb d_Vd_isSo_311 rfl (lv_at hl 3 rfl) ?_
        obtain ⟨hi, h⟩ := h
        refine va_iald hx hb hK hst.1 7 0 (WS_a7 g σ) rfl hi d_Vd_isSo_312 ?_
        refine kw_calli (va_runS (As := [.int (σ.1 30 x2.toNatClampNeg), .int (σ.1 18 x3.toNatClampNeg), .int (σ.1 7 x2.toNatClampNeg)]) (rest := []) ⟨hx, hb, hml, hown, hts⟩ (c_Vd_isNumberSo l (σ.1 30 x2.toNatClampNeg) (σ.1 18 x3.toNatClampNeg) (σ.1 7 x2.toNatClampNeg) h) (cwS 3 hts (gd_s gw866 gw867 gw11 gw868) rfl rfl rfl (by decide +kernel) ⟨Nat.le_of_ble_eq_true rfl, Nat.le_of_ble_eq_true rfl⟩) ⟨kw_blind (Zk_ok g), kw_pre (Zk_ok g) hK hZ hA hst⟩ rfl rfl hl.1 rfl (lv_room (Nat.le_of_ble_eq_true rfl)) d_Vd_isSo_313 ⟨Nat.le_of_ble_eq_true rfl, Nat.le_of_ble_eq_true rfl⟩) hst hA (fun r1 σ1 H locs h hst => ?_)
        refine lv_if_eq (tgt := 323) hx hb d_Vd_isSo_316 (by decide) (fun hc => ?_) (fun hc => ?_)
        · replace h := h.1 hc
          refine lv_iconst (v := (0 : Int32)) hx hb d_Vd_isSo_323 (by decide) ?_
          exact kw_zret hx hb hr hlocks hst h d_Vd_isSo_324
        · replace h := h.2 hc
          refine lv_iconst (v := (1 : Int32)) hx hb d_Vd_isSo_319 (by decide) ?_
          refine lv_goto (tgt := 324) hx hb d_Vd_isSo_320 (by decide) ?_
          exact kw_zret hx hb hr hlocks hst h d_Vd_isSo_324
  by_cases hc9 : (σ.1 30 x2.toNatClampNeg) = 10
  · refine kw_tin (k := 10) (tgt := 267) hx hb d_Vd_isSo_20 hc9 (by decide) (by decide) rfl (by decide) ?_
    replace h := h.2.2.2.2.2.2.2.2.2.1 hc9
    refine lv_iload hx hb d_Vd_isSo_267 (lv_at hl 0 rfl) ?_
    refine lv_iconst (v := (3 : Int32)) hx hb d_Vd_isSo_269 (by decide) ?_
    refine lv_icmp_ne (tgt := 319) hx hb d_Vd_isSo_270 (by decide) (fun hc => ?_) (fun hc => ?_)
    · replace h := h.1 hc
      refine lv_iconst (v := (1 : Int32)) hx hb d_Vd_isSo_319 (by decide) ?_
      refine lv_goto (tgt := 324) hx hb d_Vd_isSo_320 (by decide) ?_
      exact kw_zret hx hb hr hlocks hst h d_Vd_isSo_324
    · replace h := h.2 hc
      refine lv_aload_n hx hb d_Vd_isSo_273 rfl (lv_at hl 1 rfl) ?_
      refine va_get (D := D) (ci := 6) (C := R_Vd) (T := T_Vd) (N := 6) hx hb hts in_Vd hown hK hst.1 35 (WS_o35 g σ) rfl 2 (by decide) (hts _ gw305) (fun _ h9 => h9) rfl d_Vd_isSo_274 ?_
      refine va_get (D := D) (ci := 0) (C := R_Tr) (T := T_Tr) (N := 12) hx hb hts in_Tr hown hK hst.1 13 (WS_o13 g σ) rfl 1 (by decide) (hts _ gw133) (fun _ h9 => h9) rfl d_Vd_isSo_277 ?_
      refine lv_iload_n hx hb d_Vd_isSo_280 rfl (lv_at hl 4 rfl) ?_
      obtain ⟨hi, h⟩ := h
      refine va_iald hx hb hK hst.1 14 0 (WS_a14 g σ) rfl hi d_Vd_isSo_281 ?_
      refine lv_iconst (v := (5 : Int32)) hx hb d_Vd_isSo_282 (by decide) ?_
      refine lv_icmp_ne (tgt := 319) hx hb d_Vd_isSo_283 (by decide) (fun hc => ?_) (fun hc => ?_)
      · replace h := h.1 hc
        refine lv_iconst (v := (1 : Int32)) hx hb d_Vd_isSo_319 (by decide) ?_
        refine lv_goto (tgt := 324) hx hb d_Vd_isSo_320 (by decide) ?_
        exact kw_zret hx hb hr hlocks hst h d_Vd_isSo_324
      · replace h := h.2 hc
        refine lv_aload_n hx hb d_Vd_isSo_286 rfl (lv_at hl 1 rfl) ?_
        refine va_get (D := D) (ci := 6) (C := R_Vd) (T := T_Vd) (N := 6) hx hb hts in_Vd hown hK hst.1 35 (WS_o35 g σ) rfl 0 (by decide) (hts _ gw299) (fun _ h9 => h9) rfl d_Vd_isSo_287 ?_
        refine va_get (D := D) (ci := 5) (C := R_Pl) (T := T_Pl) (N := 10) hx hb hts in_Pl hown hK hst.1 29 (WS_o29 g σ) rfl 2 (by decide) (hts _ gw238) (fun _ h9 => h9) rfl d_Vd_isSo_290 ?_
        refine lv_iload_n hx hb d_Vd_isSo_293 rfl (lv_at hl 3 rfl) ?_
        obtain ⟨hi, h⟩ := h
        refine va_iald hx hb hK hst.1 30 0 (WS_a30 g σ) rfl hi d_Vd_isSo_294 ?_
        refine lv_aload_n hx hb d_Vd_isSo_295 rfl (lv_at hl 1 rfl) ?_
        refine va_get (D := D) (ci := 6) (C := R_Vd) (T := T_Vd) (N := 6) hx hb hts in_Vd hown hK hst.1 35 (WS_o35 g σ) rfl 2 (by decide) (hts _ gw305) (fun _ h9 => h9) rfl d_Vd_isSo_296 ?_
        refine va_get (D := D) (ci := 0) (C := R_Tr) (T := T_Tr) (N := 12) hx hb hts in_Tr hown hK hst.1 13 (WS_o13 g σ) rfl 5 (by decide) (hts _ gw150) (fun _ h9 => h9) rfl d_Vd_isSo_299 ?_
        refine lv_iload_n hx hb d_Vd_isSo_302 rfl (lv_at hl 4 rfl) ?_
        obtain ⟨hi, h⟩ := h
        refine va_iald hx hb hK hst.1 18 0 (WS_a18 g σ) rfl hi d_Vd_isSo_303 ?_
        refine lv_aload_n hx hb d_Vd_isSo_304 rfl (lv_at hl 1 rfl) ?_
        refine va_get (D := D) (ci := 6) (C := R_Vd) (T := T_Vd) (N := 6) hx hb hts in_Vd hown hK hst.1 35 (WS_o35 g σ) rfl 1 (by decide) (hts _ gw302) (fun _ h9 => h9) rfl d_Vd_isSo_305 ?_
        refine va_get (D := D) (ci := 0) (C := R_Tr) (T := T_Tr) (N := 12) hx hb hts in_Tr hown hK hst.1 0 (WS_o0 g σ) rfl 7 (by decide) (hts _ gw161) (fun _ h9 => h9) rfl d_Vd_isSo_308 ?_
        refine lv_iload_n hx hb d_Vd_isSo_311 rfl (lv_at hl 3 rfl) ?_
        obtain ⟨hi, h⟩ := h
        refine va_iald hx hb hK hst.1 7 0 (WS_a7 g σ) rfl hi d_Vd_isSo_312 ?_
        refine kw_calli (va_runS (As := [.int (σ.1 30 x2.toNatClampNeg), .int (σ.1 18 x3.toNatClampNeg), .int (σ.1 7 x2.toNatClampNeg)]) (rest := []) ⟨hx, hb, hml, hown, hts⟩ (c_Vd_isNumberSo l (σ.1 30 x2.toNatClampNeg) (σ.1 18 x3.toNatClampNeg) (σ.1 7 x2.toNatClampNeg) h) (cwS 3 hts (gd_s gw866 gw867 gw11 gw868) rfl rfl rfl (by decide +kernel) ⟨Nat.le_of_ble_eq_true rfl, Nat.le_of_ble_eq_true rfl⟩) ⟨kw_blind (Zk_ok g), kw_pre (Zk_ok g) hK hZ hA hst⟩ rfl rfl hl.1 rfl (lv_room (Nat.le_of_ble_eq_true rfl)) d_Vd_isSo_313 ⟨Nat.le_of_ble_eq_true rfl, Nat.le_of_ble_eq_true rfl⟩) hst hA (fun r1 σ1 H locs h hst => ?_)
        refine lv_if_eq (tgt := 323) hx hb d_Vd_isSo_316 (by decide) (fun hc => ?_) (fun hc => ?_)
        · replace h := h.1 hc
          refine lv_iconst (v := (0 : Int32)) hx hb d_Vd_isSo_323 (by decide) ?_
          exact kw_zret hx hb hr hlocks hst h d_Vd_isSo_324
        · replace h := h.2 hc
          refine lv_iconst (v := (1 : Int32)) hx hb d_Vd_isSo_319 (by decide) ?_
          refine lv_goto (tgt := 324) hx hb d_Vd_isSo_320 (by decide) ?_
          exact kw_zret hx hb hr hlocks hst h d_Vd_isSo_324
  by_cases hc10 : (σ.1 30 x2.toNatClampNeg) = 11
  · refine kw_tin (k := 11) (tgt := 325) hx hb d_Vd_isSo_20 hc10 (by decide) (by decide) rfl (by decide) ?_
    replace h := h.2.2.2.2.2.2.2.2.2.2.1 hc10
    refine lv_iload hx hb d_Vd_isSo_325 (lv_at hl 0 rfl) ?_
    refine lv_iconst (v := (5 : Int32)) hx hb d_Vd_isSo_327 (by decide) ?_
    refine lv_icmp_ne (tgt := 354) hx hb d_Vd_isSo_328 (by decide) (fun hc => ?_) (fun hc => ?_)
    · replace h := h.1 hc
      refine lv_iconst (v := (1 : Int32)) hx hb d_Vd_isSo_354 (by decide) ?_
      refine lv_goto (tgt := 359) hx hb d_Vd_isSo_355 (by decide) ?_
      exact kw_zret hx hb hr hlocks hst h d_Vd_isSo_359
    · replace h := h.2 hc
      refine lv_aload_n hx hb d_Vd_isSo_331 rfl (lv_at hl 1 rfl) ?_
      refine va_get (D := D) (ci := 6) (C := R_Vd) (T := T_Vd) (N := 6) hx hb hts in_Vd hown hK hst.1 35 (WS_o35 g σ) rfl 2 (by decide) (hts _ gw305) (fun _ h9 => h9) rfl d_Vd_isSo_332 ?_
      refine va_get (D := D) (ci := 0) (C := R_Tr) (T := T_Tr) (N := 12) hx hb hts in_Tr hown hK hst.1 13 (WS_o13 g σ) rfl 1 (by decide) (hts _ gw133) (fun _ h9 => h9) rfl d_Vd_isSo_335 ?_
      refine lv_iload_n hx hb d_Vd_isSo_338 rfl (lv_at hl 4 rfl) ?_
      obtain ⟨hi, h⟩ := h
      refine va_iald hx hb hK hst.1 14 0 (WS_a14 g σ) rfl hi d_Vd_isSo_339 ?_
      refine lv_bipush (v := (6 : Int32)) hx hb d_Vd_isSo_340 (by decide) ?_
      refine lv_icmp_ne (tgt := 354) hx hb d_Vd_isSo_342 (by decide) (fun hc => ?_) (fun hc => ?_)
      · replace h := h.1 hc
        refine lv_iconst (v := (1 : Int32)) hx hb d_Vd_isSo_354 (by decide) ?_
        refine lv_goto (tgt := 359) hx hb d_Vd_isSo_355 (by decide) ?_
        exact kw_zret hx hb hr hlocks hst h d_Vd_isSo_359
      · replace h := h.2 hc
        refine lv_aload_n hx hb d_Vd_isSo_345 rfl (lv_at hl 1 rfl) ?_
        refine lv_iload_n hx hb d_Vd_isSo_346 rfl (lv_at hl 3 rfl) ?_
        refine lv_iload_n hx hb d_Vd_isSo_347 rfl (lv_at hl 4 rfl) ?_
        refine kw_calli (va_runV (As := [.int x2, .int x3]) (rest := []) (b := g.1 35) ⟨hx, hb, hml, hown, hts⟩ (c_Vd_hasAllNames l x2 x3 h) (cwV 2 hts (gd_v gw874 gw876 gs29 gw11 gw877) rfl rfl rfl (by decide +kernel) ⟨Nat.le_of_ble_eq_true rfl, Nat.le_of_ble_eq_true rfl⟩) ⟨kw_blind (Zk_ok g), va_recv hK hst.1 rfl (WS_o35 g σ), kw_pre (Zk_ok g) hK hZ hA hst⟩ rfl rfl hl.1 rfl (lv_room (Nat.le_of_ble_eq_true rfl)) d_Vd_isSo_348 ⟨Nat.le_of_ble_eq_true rfl, Nat.le_of_ble_eq_true rfl⟩) hst hA (fun r1 σ1 H locs h hst => ?_)
        refine lv_if_eq (tgt := 358) hx hb d_Vd_isSo_351 (by decide) (fun hc => ?_) (fun hc => ?_)
        · replace h := h.1 hc
          refine lv_iconst (v := (0 : Int32)) hx hb d_Vd_isSo_358 (by decide) ?_
          exact kw_zret hx hb hr hlocks hst h d_Vd_isSo_359
        · replace h := h.2 hc
          refine lv_iconst (v := (1 : Int32)) hx hb d_Vd_isSo_354 (by decide) ?_
          refine lv_goto (tgt := 359) hx hb d_Vd_isSo_355 (by decide) ?_
          exact kw_zret hx hb hr hlocks hst h d_Vd_isSo_359
  by_cases hc11 : (σ.1 30 x2.toNatClampNeg) = 12
  · refine kw_tin (k := 12) (tgt := 360) hx hb d_Vd_isSo_20 hc11 (by decide) (by decide) rfl (by decide) ?_
    replace h := h.2.2.2.2.2.2.2.2.2.2.2.1 hc11
    refine lv_aload_n hx hb d_Vd_isSo_360 rfl (lv_at hl 1 rfl) ?_
    refine lv_iload_n hx hb d_Vd_isSo_361 rfl (lv_at hl 2 rfl) ?_
    refine lv_iload_n hx hb d_Vd_isSo_362 rfl (lv_at hl 3 rfl) ?_
    refine lv_iload_n hx hb d_Vd_isSo_363 rfl (lv_at hl 4 rfl) ?_
    refine kw_calli (va_runV (As := [.int x1, .int x2, .int x3]) (rest := []) (b := g.1 35) ⟨hx, hb, hml, hown, hts⟩ (c_Vd_holdForChildren l x1 x2 x3 h) (cwV 3 hts (gd_v gw878 gw880 gs30 gw11 gw881) rfl rfl rfl (by decide +kernel) ⟨Nat.le_of_ble_eq_true rfl, Nat.le_of_ble_eq_true rfl⟩) ⟨kw_blind (Zk_ok g), va_recv hK hst.1 rfl (WS_o35 g σ), kw_pre (Zk_ok g) hK hZ hA hst⟩ rfl rfl hl.1 rfl (lv_room (Nat.le_of_ble_eq_true rfl)) d_Vd_isSo_364 ⟨Nat.le_of_ble_eq_true rfl, Nat.le_of_ble_eq_true rfl⟩) hst hA (fun r1 σ1 H locs h hst => ?_)
    exact kw_zret hx hb hr hlocks hst h d_Vd_isSo_367
  by_cases hc12 : (σ.1 30 x2.toNatClampNeg) = 13
  · refine kw_tin (k := 13) (tgt := 360) hx hb d_Vd_isSo_20 hc12 (by decide) (by decide) rfl (by decide) ?_
    replace h := h.2.2.2.2.2.2.2.2.2.2.2.2.1 hc12
    refine lv_aload_n hx hb d_Vd_isSo_360 rfl (lv_at hl 1 rfl) ?_
    refine lv_iload_n hx hb d_Vd_isSo_361 rfl (lv_at hl 2 rfl) ?_
    refine lv_iload_n hx hb d_Vd_isSo_362 rfl (lv_at hl 3 rfl) ?_
    refine lv_iload_n hx hb d_Vd_isSo_363 rfl (lv_at hl 4 rfl) ?_
    refine kw_calli (va_runV (As := [.int x1, .int x2, .int x3]) (rest := []) (b := g.1 35) ⟨hx, hb, hml, hown, hts⟩ (c_Vd_holdForChildren l x1 x2 x3 h) (cwV 3 hts (gd_v gw878 gw880 gs30 gw11 gw881) rfl rfl rfl (by decide +kernel) ⟨Nat.le_of_ble_eq_true rfl, Nat.le_of_ble_eq_true rfl⟩) ⟨kw_blind (Zk_ok g), va_recv hK hst.1 rfl (WS_o35 g σ), kw_pre (Zk_ok g) hK hZ hA hst⟩ rfl rfl hl.1 rfl (lv_room (Nat.le_of_ble_eq_true rfl)) d_Vd_isSo_364 ⟨Nat.le_of_ble_eq_true rfl, Nat.le_of_ble_eq_true rfl⟩) hst hA (fun r1 σ1 H locs h hst => ?_)
    exact kw_zret hx hb hr hlocks hst h d_Vd_isSo_367
  by_cases hc13 : (σ.1 30 x2.toNatClampNeg) = 14
  · refine kw_tin (k := 14) (tgt := 360) hx hb d_Vd_isSo_20 hc13 (by decide) (by decide) rfl (by decide) ?_
    replace h := h.2.2.2.2.2.2.2.2.2.2.2.2.2.1 hc13
    refine lv_aload_n hx hb d_Vd_isSo_360 rfl (lv_at hl 1 rfl) ?_
    refine lv_iload_n hx hb d_Vd_isSo_361 rfl (lv_at hl 2 rfl) ?_
    refine lv_iload_n hx hb d_Vd_isSo_362 rfl (lv_at hl 3 rfl) ?_
    refine lv_iload_n hx hb d_Vd_isSo_363 rfl (lv_at hl 4 rfl) ?_
    refine kw_calli (va_runV (As := [.int x1, .int x2, .int x3]) (rest := []) (b := g.1 35) ⟨hx, hb, hml, hown, hts⟩ (c_Vd_holdForChildren l x1 x2 x3 h) (cwV 3 hts (gd_v gw878 gw880 gs30 gw11 gw881) rfl rfl rfl (by decide +kernel) ⟨Nat.le_of_ble_eq_true rfl, Nat.le_of_ble_eq_true rfl⟩) ⟨kw_blind (Zk_ok g), va_recv hK hst.1 rfl (WS_o35 g σ), kw_pre (Zk_ok g) hK hZ hA hst⟩ rfl rfl hl.1 rfl (lv_room (Nat.le_of_ble_eq_true rfl)) d_Vd_isSo_364 ⟨Nat.le_of_ble_eq_true rfl, Nat.le_of_ble_eq_true rfl⟩) hst hA (fun r1 σ1 H locs h hst => ?_)
    exact kw_zret hx hb hr hlocks hst h d_Vd_isSo_367
  by_cases hc14 : (σ.1 30 x2.toNatClampNeg) = 15
  · refine kw_tin (k := 15) (tgt := 368) hx hb d_Vd_isSo_20 hc14 (by decide) (by decide) rfl (by decide) ?_
    replace h := h.2.2.2.2.2.2.2.2.2.2.2.2.2.2.1 hc14
    refine lv_iload hx hb d_Vd_isSo_368 (lv_at hl 0 rfl) ?_
    refine lv_iconst (v := (5 : Int32)) hx hb d_Vd_isSo_370 (by decide) ?_
    refine lv_icmp_ne (tgt := 392) hx hb d_Vd_isSo_371 (by decide) (fun hc => ?_) (fun hc => ?_)
    · replace h := h.1 hc
      refine lv_iconst (v := (1 : Int32)) hx hb d_Vd_isSo_392 (by decide) ?_
      refine lv_goto (tgt := 397) hx hb d_Vd_isSo_393 (by decide) ?_
      exact kw_zret hx hb hr hlocks hst h d_Vd_isSo_397
    · replace h := h.2 hc
      refine lv_aload_n hx hb d_Vd_isSo_374 rfl (lv_at hl 1 rfl) ?_
      refine lv_iload_n hx hb d_Vd_isSo_375 rfl (lv_at hl 3 rfl) ?_
      refine lv_iload_n hx hb d_Vd_isSo_376 rfl (lv_at hl 4 rfl) ?_
      refine kw_calli (va_runV (As := [.int x2, .int x3]) (rest := []) (b := g.1 35) ⟨hx, hb, hml, hown, hts⟩ (c_Vd_countHeld l x2 x3 h) (cwV 2 hts (gd_v gw886 gw888 gs31 gw11 gw889) rfl rfl rfl (by decide +kernel) ⟨Nat.le_of_ble_eq_true rfl, Nat.le_of_ble_eq_true rfl⟩) ⟨kw_blind (Zk_ok g), va_recv hK hst.1 rfl (WS_o35 g σ), kw_pre (Zk_ok g) hK hZ hA hst⟩ rfl rfl hl.1 rfl (lv_room (Nat.le_of_ble_eq_true rfl)) d_Vd_isSo_377 ⟨Nat.le_of_ble_eq_true rfl, Nat.le_of_ble_eq_true rfl⟩) hst hA (fun r1 σ1 H locs h hst => ?_)
      refine lv_aload_n hx hb d_Vd_isSo_380 rfl (lv_at hl 1 rfl) ?_
      refine va_get (D := D) (ci := 6) (C := R_Vd) (T := T_Vd) (N := 6) hx hb hts in_Vd hown hK hst.1 35 (WS_o35 g σ1) rfl 1 (by decide) (hts _ gw302) (fun _ h9 => h9) rfl d_Vd_isSo_381 ?_
      refine va_get (D := D) (ci := 0) (C := R_Tr) (T := T_Tr) (N := 12) hx hb hts in_Tr hown hK hst.1 0 (WS_o0 g σ1) rfl 5 (by decide) (hts _ gw150) (fun _ h9 => h9) rfl d_Vd_isSo_384 ?_
      refine lv_iload_n hx hb d_Vd_isSo_387 rfl (lv_at hl 3 rfl) ?_
      obtain ⟨hi, h⟩ := h
      refine va_iald hx hb hK hst.1 5 0 (WS_a5 g σ1) rfl hi d_Vd_isSo_388 ?_
      refine lv_icmp_ne (tgt := 396) hx hb d_Vd_isSo_389 (by decide) (fun hc => ?_) (fun hc => ?_)
      · replace h := h.1 hc
        refine lv_iconst (v := (0 : Int32)) hx hb d_Vd_isSo_396 (by decide) ?_
        exact kw_zret hx hb hr hlocks hst h d_Vd_isSo_397
      · replace h := h.2 hc
        refine lv_iconst (v := (1 : Int32)) hx hb d_Vd_isSo_392 (by decide) ?_
        refine lv_goto (tgt := 397) hx hb d_Vd_isSo_393 (by decide) ?_
        exact kw_zret hx hb hr hlocks hst h d_Vd_isSo_397
  by_cases hc15 : (σ.1 30 x2.toNatClampNeg) = 16
  · refine kw_tin (k := 16) (tgt := 398) hx hb d_Vd_isSo_20 hc15 (by decide) (by decide) rfl (by decide) ?_
    replace h := h.2.2.2.2.2.2.2.2.2.2.2.2.2.2.2.1 hc15
    refine lv_iload hx hb d_Vd_isSo_398 (lv_at hl 0 rfl) ?_
    refine lv_iconst (v := (5 : Int32)) hx hb d_Vd_isSo_400 (by decide) ?_
    refine lv_icmp_ne (tgt := 413) hx hb d_Vd_isSo_401 (by decide) (fun hc => ?_) (fun hc => ?_)
    · replace h := h.1 hc
      refine lv_iconst (v := (1 : Int32)) hx hb d_Vd_isSo_413 (by decide) ?_
      refine lv_goto (tgt := 418) hx hb d_Vd_isSo_414 (by decide) ?_
      exact kw_zret hx hb hr hlocks hst h d_Vd_isSo_418
    · replace h := h.2 hc
      refine lv_aload_n hx hb d_Vd_isSo_404 rfl (lv_at hl 1 rfl) ?_
      refine lv_iload_n hx hb d_Vd_isSo_405 rfl (lv_at hl 3 rfl) ?_
      refine lv_iload_n hx hb d_Vd_isSo_406 rfl (lv_at hl 4 rfl) ?_
      refine kw_calli (va_runV (As := [.int x2, .int x3]) (rest := []) (b := g.1 35) ⟨hx, hb, hml, hown, hts⟩ (c_Vd_countHeld l x2 x3 h) (cwV 2 hts (gd_v gw886 gw888 gs31 gw11 gw889) rfl rfl rfl (by decide +kernel) ⟨Nat.le_of_ble_eq_true rfl, Nat.le_of_ble_eq_true rfl⟩) ⟨kw_blind (Zk_ok g), va_recv hK hst.1 rfl (WS_o35 g σ), kw_pre (Zk_ok g) hK hZ hA hst⟩ rfl rfl hl.1 rfl (lv_room (Nat.le_of_ble_eq_true rfl)) d_Vd_isSo_407 ⟨Nat.le_of_ble_eq_true rfl, Nat.le_of_ble_eq_true rfl⟩) hst hA (fun r1 σ1 H locs h hst => ?_)
      refine lv_if_le (tgt := 417) hx hb d_Vd_isSo_410 (by decide) (fun hc => ?_) (fun hc => ?_)
      · replace h := h.1 hc
        refine lv_iconst (v := (0 : Int32)) hx hb d_Vd_isSo_417 (by decide) ?_
        exact kw_zret hx hb hr hlocks hst h d_Vd_isSo_418
      · replace h := h.2 hc
        refine lv_iconst (v := (1 : Int32)) hx hb d_Vd_isSo_413 (by decide) ?_
        refine lv_goto (tgt := 418) hx hb d_Vd_isSo_414 (by decide) ?_
        exact kw_zret hx hb hr hlocks hst h d_Vd_isSo_418
  by_cases hc16 : (σ.1 30 x2.toNatClampNeg) = 17
  · refine kw_tin (k := 17) (tgt := 419) hx hb d_Vd_isSo_20 hc16 (by decide) (by decide) rfl (by decide) ?_
    replace h := h.2.2.2.2.2.2.2.2.2.2.2.2.2.2.2.2.1 hc16
    refine lv_iload hx hb d_Vd_isSo_419 (lv_at hl 0 rfl) ?_
    refine lv_iconst (v := (5 : Int32)) hx hb d_Vd_isSo_421 (by decide) ?_
    refine lv_icmp_ne (tgt := 435) hx hb d_Vd_isSo_422 (by decide) (fun hc => ?_) (fun hc => ?_)
    · replace h := h.1 hc
      refine lv_iconst (v := (1 : Int32)) hx hb d_Vd_isSo_435 (by decide) ?_
      refine lv_goto (tgt := 440) hx hb d_Vd_isSo_436 (by decide) ?_
      exact kw_zret hx hb hr hlocks hst h d_Vd_isSo_440
    · replace h := h.2 hc
      refine lv_aload_n hx hb d_Vd_isSo_425 rfl (lv_at hl 1 rfl) ?_
      refine lv_iload_n hx hb d_Vd_isSo_426 rfl (lv_at hl 3 rfl) ?_
      refine lv_iload_n hx hb d_Vd_isSo_427 rfl (lv_at hl 4 rfl) ?_
      refine kw_calli (va_runV (As := [.int x2, .int x3]) (rest := []) (b := g.1 35) ⟨hx, hb, hml, hown, hts⟩ (c_Vd_countHeld l x2 x3 h) (cwV 2 hts (gd_v gw886 gw888 gs31 gw11 gw889) rfl rfl rfl (by decide +kernel) ⟨Nat.le_of_ble_eq_true rfl, Nat.le_of_ble_eq_true rfl⟩) ⟨kw_blind (Zk_ok g), va_recv hK hst.1 rfl (WS_o35 g σ), kw_pre (Zk_ok g) hK hZ hA hst⟩ rfl rfl hl.1 rfl (lv_room (Nat.le_of_ble_eq_true rfl)) d_Vd_isSo_428 ⟨Nat.le_of_ble_eq_true rfl, Nat.le_of_ble_eq_true rfl⟩) hst hA (fun r1 σ1 H locs h hst => ?_)
      refine lv_iconst (v := (1 : Int32)) hx hb d_Vd_isSo_431 (by decide) ?_
      refine lv_icmp_ne (tgt := 439) hx hb d_Vd_isSo_432 (by decide) (fun hc => ?_) (fun hc => ?_)
      · replace h := h.1 hc
        refine lv_iconst (v := (0 : Int32)) hx hb d_Vd_isSo_439 (by decide) ?_
        exact kw_zret hx hb hr hlocks hst h d_Vd_isSo_440
      · replace h := h.2 hc
        refine lv_iconst (v := (1 : Int32)) hx hb d_Vd_isSo_435 (by decide) ?_
        refine lv_goto (tgt := 440) hx hb d_Vd_isSo_436 (by decide) ?_
        exact kw_zret hx hb hr hlocks hst h d_Vd_isSo_440
  by_cases hc17 : (σ.1 30 x2.toNatClampNeg) = 18
  · refine kw_tin (k := 18) (tgt := 441) hx hb d_Vd_isSo_20 hc17 (by decide) (by decide) rfl (by decide) ?_
    replace h := h.2.2.2.2.2.2.2.2.2.2.2.2.2.2.2.2.2.1 hc17
    refine lv_aload_n hx hb d_Vd_isSo_441 rfl (lv_at hl 1 rfl) ?_
    refine lv_iload_n hx hb d_Vd_isSo_442 rfl (lv_at hl 3 rfl) ?_
    refine lv_iload_n hx hb d_Vd_isSo_443 rfl (lv_at hl 4 rfl) ?_
    refine kw_calli (va_runV (As := [.int x2, .int x3]) (rest := []) (b := g.1 35) ⟨hx, hb, hml, hown, hts⟩ (c_Vd_isHeld l x2 x3 h) (cwV 2 hts (gd_v gw882 gw883 gw884 gw11 gw885) rfl rfl rfl (by decide +kernel) ⟨Nat.le_of_ble_eq_true rfl, Nat.le_of_ble_eq_true rfl⟩) ⟨kw_blind (Zk_ok g), va_recv hK hst.1 rfl (WS_o35 g σ), kw_pre (Zk_ok g) hK hZ hA hst⟩ rfl rfl hl.1 rfl (lv_room (Nat.le_of_ble_eq_true rfl)) d_Vd_isSo_444 ⟨Nat.le_of_ble_eq_true rfl, Nat.le_of_ble_eq_true rfl⟩) hst hA (fun r1 σ1 H locs h hst => ?_)
    refine lv_if_ne (tgt := 454) hx hb d_Vd_isSo_447 (by decide) (fun hc => ?_) (fun hc => ?_)
    · replace h := h.1 hc
      refine lv_iconst (v := (0 : Int32)) hx hb d_Vd_isSo_454 (by decide) ?_
      exact kw_zret hx hb hr hlocks hst h d_Vd_isSo_455
    · replace h := h.2 hc
      refine lv_iconst (v := (1 : Int32)) hx hb d_Vd_isSo_450 (by decide) ?_
      refine lv_goto (tgt := 455) hx hb d_Vd_isSo_451 (by decide) ?_
      exact kw_zret hx hb hr hlocks hst h d_Vd_isSo_455
  by_cases hc18 : (σ.1 30 x2.toNatClampNeg) = 19
  · refine kw_tin (k := 19) (tgt := 456) hx hb d_Vd_isSo_20 hc18 (by decide) (by decide) rfl (by decide) ?_
    replace h := h.2.2.2.2.2.2.2.2.2.2.2.2.2.2.2.2.2.2.1 hc18
    refine lv_iload hx hb d_Vd_isSo_456 (lv_at hl 0 rfl) ?_
    refine lv_iconst (v := (4 : Int32)) hx hb d_Vd_isSo_458 (by decide) ?_
    refine lv_icmp_ne (tgt := 492) hx hb d_Vd_isSo_459 (by decide) (fun hc => ?_) (fun hc => ?_)
    · replace h := h.1 hc
      refine lv_iconst (v := (1 : Int32)) hx hb d_Vd_isSo_492 (by decide) ?_
      refine lv_goto (tgt := 497) hx hb d_Vd_isSo_493 (by decide) ?_
      exact kw_zret hx hb hr hlocks hst h d_Vd_isSo_497
    · replace h := h.2 hc
      refine lv_aload_n hx hb d_Vd_isSo_462 rfl (lv_at hl 1 rfl) ?_
      refine va_get (D := D) (ci := 6) (C := R_Vd) (T := T_Vd) (N := 6) hx hb hts in_Vd hown hK hst.1 35 (WS_o35 g σ) rfl 0 (by decide) (hts _ gw299) (fun _ h9 => h9) rfl d_Vd_isSo_463 ?_
      refine va_get (D := D) (ci := 5) (C := R_Pl) (T := T_Pl) (N := 10) hx hb hts in_Pl hown hK hst.1 29 (WS_o29 g σ) rfl 3 (by decide) (hts _ gw242) (fun _ h9 => h9) rfl d_Vd_isSo_466 ?_
      refine lv_iload_n hx hb d_Vd_isSo_469 rfl (lv_at hl 3 rfl) ?_
      obtain ⟨hi, h⟩ := h
      refine va_iald hx hb hK hst.1 31 0 (WS_a31 g σ) rfl hi d_Vd_isSo_470 ?_
      refine lv_iconst (v := (-1 : Int32)) hx hb d_Vd_isSo_471 (by decide) ?_
      refine lv_icmp_eq (tgt := 496) hx hb d_Vd_isSo_472 (by decide) (fun hc => ?_) (fun hc => ?_)
      · replace h := h.1 hc
        refine lv_iconst (v := (0 : Int32)) hx hb d_Vd_isSo_496 (by decide) ?_
        exact kw_zret hx hb hr hlocks hst h d_Vd_isSo_497
      · replace h := h.2 hc
        refine lv_aload_n hx hb d_Vd_isSo_475 rfl (lv_at hl 1 rfl) ?_
        refine lv_aload_n hx hb d_Vd_isSo_476 rfl (lv_at hl 1 rfl) ?_
        refine va_get (D := D) (ci := 6) (C := R_Vd) (T := T_Vd) (N := 6) hx hb hts in_Vd hown hK hst.1 35 (WS_o35 g σ) rfl 0 (by decide) (hts _ gw299) (fun _ h9 => h9) rfl d_Vd_isSo_477 ?_
        refine va_get (D := D) (ci := 5) (C := R_Pl) (T := T_Pl) (N := 10) hx hb hts in_Pl hown hK hst.1 29 (WS_o29 g σ) rfl 3 (by decide) (hts _ gw242) (fun _ h9 => h9) rfl d_Vd_isSo_480 ?_
        refine lv_iload_n hx hb d_Vd_isSo_483 rfl (lv_at hl 3 rfl) ?_
        obtain ⟨hi, h⟩ := h
        refine va_iald hx hb hK hst.1 31 0 (WS_a31 g σ) rfl hi d_Vd_isSo_484 ?_
        refine lv_iload_n hx hb d_Vd_isSo_485 rfl (lv_at hl 4 rfl) ?_
        refine kw_calli (va_runV (As := [.int (σ.1 31 x2.toNatClampNeg), .int x3]) (rest := []) (b := g.1 35) ⟨hx, hb, hml, hown, hts⟩ (c_Vd_isHeld l (σ.1 31 x2.toNatClampNeg) x3 h) (cwV 2 hts (gd_v gw882 gw883 gw884 gw11 gw885) rfl rfl rfl (by decide +kernel) ⟨Nat.le_of_ble_eq_true rfl, Nat.le_of_ble_eq_true rfl⟩) ⟨kw_blind (Zk_ok g), va_recv hK hst.1 rfl (WS_o35 g σ), kw_pre (Zk_ok g) hK hZ hA hst⟩ rfl rfl hl.1 rfl (lv_room (Nat.le_of_ble_eq_true rfl)) d_Vd_isSo_486 ⟨Nat.le_of_ble_eq_true rfl, Nat.le_of_ble_eq_true rfl⟩) hst hA (fun r1 σ1 H locs h hst => ?_)
        refine lv_if_eq (tgt := 496) hx hb d_Vd_isSo_489 (by decide) (fun hc => ?_) (fun hc => ?_)
        · replace h := h.1 hc
          refine lv_iconst (v := (0 : Int32)) hx hb d_Vd_isSo_496 (by decide) ?_
          exact kw_zret hx hb hr hlocks hst h d_Vd_isSo_497
        · replace h := h.2 hc
          refine lv_iconst (v := (1 : Int32)) hx hb d_Vd_isSo_492 (by decide) ?_
          refine lv_goto (tgt := 497) hx hb d_Vd_isSo_493 (by decide) ?_
          exact kw_zret hx hb hr hlocks hst h d_Vd_isSo_497
  by_cases hc19 : (σ.1 30 x2.toNatClampNeg) = 20
  · refine kw_tin (k := 20) (tgt := 360) hx hb d_Vd_isSo_20 hc19 (by decide) (by decide) rfl (by decide) ?_
    replace h := h.2.2.2.2.2.2.2.2.2.2.2.2.2.2.2.2.2.2.2.1 hc19
    refine lv_aload_n hx hb d_Vd_isSo_360 rfl (lv_at hl 1 rfl) ?_
    refine lv_iload_n hx hb d_Vd_isSo_361 rfl (lv_at hl 2 rfl) ?_
    refine lv_iload_n hx hb d_Vd_isSo_362 rfl (lv_at hl 3 rfl) ?_
    refine lv_iload_n hx hb d_Vd_isSo_363 rfl (lv_at hl 4 rfl) ?_
    refine kw_calli (va_runV (As := [.int x1, .int x2, .int x3]) (rest := []) (b := g.1 35) ⟨hx, hb, hml, hown, hts⟩ (c_Vd_holdForChildren l x1 x2 x3 h) (cwV 3 hts (gd_v gw878 gw880 gs30 gw11 gw881) rfl rfl rfl (by decide +kernel) ⟨Nat.le_of_ble_eq_true rfl, Nat.le_of_ble_eq_true rfl⟩) ⟨kw_blind (Zk_ok g), va_recv hK hst.1 rfl (WS_o35 g σ), kw_pre (Zk_ok g) hK hZ hA hst⟩ rfl rfl hl.1 rfl (lv_room (Nat.le_of_ble_eq_true rfl)) d_Vd_isSo_364 ⟨Nat.le_of_ble_eq_true rfl, Nat.le_of_ble_eq_true rfl⟩) hst hA (fun r1 σ1 H locs h hst => ?_)
    exact kw_zret hx hb hr hlocks hst h d_Vd_isSo_367
  refine lv_tableOut (tgt := 498) hx hb d_Vd_isSo_20 (by have q0 := lv_neT (a := 1) hc0 (by decide); have q1 := lv_neT (a := 2) hc1 (by decide); have q2 := lv_neT (a := 3) hc2 (by decide); have q3 := lv_neT (a := 4) hc3 (by decide); have q4 := lv_neT (a := 5) hc4 (by decide); have q5 := lv_neT (a := 6) hc5 (by decide); have q6 := lv_neT (a := 7) hc6 (by decide); have q7 := lv_neT (a := 8) hc7 (by decide); have q8 := lv_neT (a := 9) hc8 (by decide); have q9 := lv_neT (a := 10) hc9 (by decide); have q10 := lv_neT (a := 11) hc10 (by decide); have q11 := lv_neT (a := 12) hc11 (by decide); have q12 := lv_neT (a := 13) hc12 (by decide); have q13 := lv_neT (a := 14) hc13 (by decide); have q14 := lv_neT (a := 15) hc14 (by decide); have q15 := lv_neT (a := 16) hc15 (by decide); have q16 := lv_neT (a := 17) hc16 (by decide); have q17 := lv_neT (a := 18) hc17 (by decide); have q18 := lv_neT (a := 19) hc18 (by decide); have q19 := lv_neT (a := 20) hc19 (by decide); omega) (by decide) ?_
  replace h := h.2.2.2.2.2.2.2.2.2.2.2.2.2.2.2.2.2.2.2.2 ⟨hc0, hc1, hc2, hc3, hc4, hc5, hc6, hc7, hc8, hc9, hc10, hc11, hc12, hc13, hc14, hc15, hc16, hc17, hc18, hc19⟩
  refine lv_iconst (v := (1 : Int32)) hx hb d_Vd_isSo_498 (by decide) ?_
  exact kw_zret hx hb hr hlocks hst h d_Vd_isSo_499
set_option maxRecDepth 100000 in
set_option maxHeartbeats 4000000 in
theorem c_Vd_isSo (l : Launch) {D : va_G} {g : Gm} {sz : Nat} (x1 : Int32) (x2 : Int32) (x3 : Int32) {σ : Sg} {post : Int32 → Sg → Prop} (h : wq_Vd_isSo x1 x2 x3 σ post) : Met l y_Vd_isSo (.code y_Vd_isSo k_Vd_isSo 5 (some .boolean) :: GW) { frames := 17, cells := 0, slots := 0, locals := 460 } (PcW D vwCl (WS g) g (Zk g) σ sz [.ref (g.1 35), .int x1, .int x2, .int x3]) (QiW D vwCl (WS g) post (va_A (WS g σ) sz)) 0 0 (va_A (WS g σ) sz) := by
  refine kw_entry (own := R_Vd) (by decide) rfl rfl (Nat.le_of_ble_eq_true rfl) ?_
  intro p e s m below meth c ls hsz C hin hl hst
  exact b_Vd_isSo_0 C x1 x2 x3 σ _ _ ls hl hst h
/-! SchemaDesk$Verdicts.weigh (II)V -/
abbrev k_Vd_weigh : ByteArray := prog_9_method_4_code
abbrev y_Vd_weigh : MethodName := ⟨"SchemaDesk$Verdicts", "weigh", "(II)V"⟩
theorem d_Vd_weigh_0 : decode k_Vd_weigh 0 = .ok (.aload_n 0, 1) := by decide +kernel
theorem d_Vd_weigh_1 : decode k_Vd_weigh 1 = .ok (.getfield 32, 3) := by decide +kernel
theorem d_Vd_weigh_4 : decode k_Vd_weigh 4 = .ok (.getfield 59, 3) := by decide +kernel
theorem d_Vd_weigh_7 : decode k_Vd_weigh 7 = .ok (.iload_n 2, 1) := by decide +kernel
theorem d_Vd_weigh_8 : decode k_Vd_weigh 8 = .ok (.iaload, 1) := by decide +kernel
theorem d_Vd_weigh_9 : decode k_Vd_weigh 9 = .ok (.bipush 6, 2) := by decide +kernel
theorem d_Vd_weigh_11 : decode k_Vd_weigh 11 = .ok (.if_icmp .ne 9, 3) := by decide +kernel
theorem d_Vd_weigh_14 : decode k_Vd_weigh 14 = .ok (.aload_n 0, 1) := by decide +kernel
theorem d_Vd_weigh_15 : decode k_Vd_weigh 15 = .ok (.iload_n 1, 1) := by decide +kernel
theorem d_Vd_weigh_16 : decode k_Vd_weigh 16 = .ok (.iload_n 2, 1) := by decide +kernel
theorem d_Vd_weigh_17 : decode k_Vd_weigh 17 = .ok (.invokevirtual 66, 3) := by decide +kernel
theorem d_Vd_weigh_20 : decode k_Vd_weigh 20 = .ok (.iconst 0, 1) := by decide +kernel
theorem d_Vd_weigh_21 : decode k_Vd_weigh 21 = .ok (.istore_n 3, 1) := by decide +kernel
theorem d_Vd_weigh_22 : decode k_Vd_weigh 22 = .ok (.iload_n 1, 1) := by decide +kernel
theorem d_Vd_weigh_23 : decode k_Vd_weigh 23 = .ok (.iconst 1, 1) := by decide +kernel
theorem d_Vd_weigh_24 : decode k_Vd_weigh 24 = .ok (.iadd, 1) := by decide +kernel
theorem d_Vd_weigh_25 : decode k_Vd_weigh 25 = .ok (.istore 4, 2) := by decide +kernel
theorem d_Vd_weigh_27 : decode k_Vd_weigh 27 = .ok (.iload_n 3, 1) := by decide +kernel
theorem d_Vd_weigh_28 : decode k_Vd_weigh 28 = .ok (.aload_n 0, 1) := by decide +kernel
theorem d_Vd_weigh_29 : decode k_Vd_weigh 29 = .ok (.getfield 31, 3) := by decide +kernel
theorem d_Vd_weigh_32 : decode k_Vd_weigh 32 = .ok (.getfield 69, 3) := by decide +kernel
theorem d_Vd_weigh_35 : decode k_Vd_weigh 35 = .ok (.iload_n 1, 1) := by decide +kernel
theorem d_Vd_weigh_36 : decode k_Vd_weigh 36 = .ok (.iaload, 1) := by decide +kernel
theorem d_Vd_weigh_37 : decode k_Vd_weigh 37 = .ok (.if_icmp .ge 33, 3) := by decide +kernel
theorem d_Vd_weigh_40 : decode k_Vd_weigh 40 = .ok (.aload_n 0, 1) := by decide +kernel
theorem d_Vd_weigh_41 : decode k_Vd_weigh 41 = .ok (.iload_n 1, 1) := by decide +kernel
theorem d_Vd_weigh_42 : decode k_Vd_weigh 42 = .ok (.iload 4, 2) := by decide +kernel
theorem d_Vd_weigh_44 : decode k_Vd_weigh 44 = .ok (.iload_n 2, 1) := by decide +kernel
theorem d_Vd_weigh_45 : decode k_Vd_weigh 45 = .ok (.invokevirtual 72, 3) := by decide +kernel
theorem d_Vd_weigh_48 : decode k_Vd_weigh 48 = .ok (.ifCond .ne 4, 3) := by decide +kernel
theorem d_Vd_weigh_51 : decode k_Vd_weigh 51 = .ok (.return_, 1) := by decide +kernel
theorem d_Vd_weigh_52 : decode k_Vd_weigh 52 = .ok (.iinc 3 1, 3) := by decide +kernel
theorem d_Vd_weigh_55 : decode k_Vd_weigh 55 = .ok (.aload_n 0, 1) := by decide +kernel
theorem d_Vd_weigh_56 : decode k_Vd_weigh 56 = .ok (.getfield 31, 3) := by decide +kernel
theorem d_Vd_weigh_59 : decode k_Vd_weigh 59 = .ok (.getfield 76, 3) := by decide +kernel
theorem d_Vd_weigh_62 : decode k_Vd_weigh 62 = .ok (.iload 4, 2) := by decide +kernel
theorem d_Vd_weigh_64 : decode k_Vd_weigh 64 = .ok (.iaload, 1) := by decide +kernel
theorem d_Vd_weigh_65 : decode k_Vd_weigh 65 = .ok (.istore 4, 2) := by decide +kernel
theorem d_Vd_weigh_67 : decode k_Vd_weigh 67 = .ok (.goto (-40), 3) := by decide +kernel
theorem d_Vd_weigh_70 : decode k_Vd_weigh 70 = .ok (.aload_n 0, 1) := by decide +kernel
theorem d_Vd_weigh_71 : decode k_Vd_weigh 71 = .ok (.getfield 12, 3) := by decide +kernel
theorem d_Vd_weigh_74 : decode k_Vd_weigh 74 = .ok (.iload_n 1, 1) := by decide +kernel
theorem d_Vd_weigh_75 : decode k_Vd_weigh 75 = .ok (.iload_n 2, 1) := by decide +kernel
theorem d_Vd_weigh_76 : decode k_Vd_weigh 76 = .ok (.invokevirtual 79, 3) := by decide +kernel
theorem d_Vd_weigh_79 : decode k_Vd_weigh 79 = .ok (.return_, 1) := by decide +kernel
theorem gw811 : (Jvm.Cond.methodLink "SchemaDesk$Verdicts" (66 : Nat) ({ cls := "SchemaDesk$Verdicts", name := "markEvaluated", desc := "(II)V" } : Jvm.MethodName)) ∈ GW := gw_t4 (List.mem_of_getElem? (i := 91) rfl) rfl
theorem gw813 : (Jvm.Cond.instanceMethod ({ cls := "SchemaDesk$Verdicts", name := "markEvaluated", desc := "(II)V" } : Jvm.MethodName)) ∈ GW := gw_t4 (List.mem_of_getElem? (i := 93) rfl) rfl
theorem gs21 : Cond.selects "SchemaDesk$Verdicts" ⟨"SchemaDesk$Verdicts", "markEvaluated", "(II)V"⟩ ⟨"SchemaDesk$Verdicts", "markEvaluated", "(II)V"⟩ ∈ GW := gw_p2 (q := (⟨"SchemaDesk$Verdicts", "markEvaluated", "(II)V"⟩, 6)) (List.mem_of_getElem? (i := 5) rfl)
theorem gw814 : (Jvm.Cond.code ({ cls := "SchemaDesk$Verdicts", name := "markEvaluated", desc := "(II)V" } : Jvm.MethodName) prog_9_method_5_code (7 : Nat) (Option.none : Option Jvm.ClassFile.FieldType)) ∈ GW := gw_t4 (List.mem_of_getElem? (i := 94) rfl) rfl
theorem gw841 : (Jvm.Cond.methodLink "SchemaDesk$Verdicts" (72 : Nat) ({ cls := "SchemaDesk$Verdicts", name := "isSo", desc := "(III)Z" } : Jvm.MethodName)) ∈ GW := gw_t4 (List.mem_of_getElem? (i := 121) rfl) rfl
theorem gw842 : (Jvm.Cond.instanceMethod ({ cls := "SchemaDesk$Verdicts", name := "isSo", desc := "(III)Z" } : Jvm.MethodName)) ∈ GW := gw_t4 (List.mem_of_getElem? (i := 122) rfl) rfl
theorem gw843 : (Jvm.Cond.selects "SchemaDesk$Verdicts" ({ cls := "SchemaDesk$Verdicts", name := "isSo", desc := "(III)Z" } : Jvm.MethodName) ({ cls := "SchemaDesk$Verdicts", name := "isSo", desc := "(III)Z" } : Jvm.MethodName)) ∈ GW := gw_t4 (List.mem_of_getElem? (i := 123) rfl) rfl
theorem gw844 : (Jvm.Cond.code ({ cls := "SchemaDesk$Verdicts", name := "isSo", desc := "(III)Z" } : Jvm.MethodName) prog_9_method_10_code (5 : Nat) (Option.some Jvm.ClassFile.FieldType.boolean)) ∈ GW := gw_t4 (List.mem_of_getElem? (i := 124) rfl) rfl
def wb_Vd_weigh_0 (F : Nat → Int32 → Int32 → Int32 → Int32 → Sg → Prop) (post : Sg → Prop) (x1 : Int32) (x2 : Int32) (σ : Sg) : Prop := (vp_in x2 80 ∧ ((¬ (σ.1 14 x2.toNatClampNeg) = (6 : Int32) → F 1 x1 x2 (0 : Int32) (x1 + (1 : Int32)) σ) ∧ ((σ.1 14 x2.toNatClampNeg) = (6 : Int32) → (wq_Vd_markEvaluated x1 x2 σ (fun σ1 => F 1 x1 x2 (0 : Int32) (x1 + (1 : Int32)) σ1)))))
def wb_Vd_weigh_1 (F : Nat → Int32 → Int32 → Int32 → Int32 → Sg → Prop) (post : Sg → Prop) (x1 : Int32) (x2 : Int32) (x3 : Int32) (x4 : Int32) (σ : Sg) : Prop := (vp_in x1 160 ∧ (((σ.1 5 x1.toNatClampNeg) ≤ x3 → (wq_Mk_put 36 x1 x2 σ (fun σ1 => post σ1))) ∧ (¬ (σ.1 5 x1.toNatClampNeg) ≤ x3 → (wq_Vd_isSo x1 x4 x2 σ (fun r1 σ1 => ((¬ r1 = 0 → (vp_in x4 160 ∧ F 1 x1 x2 (x3 + 1) (σ1.1 8 x4.toNatClampNeg) σ1)) ∧ (r1 = 0 → post σ1)))))))
def wp_Vd_weigh (post : Sg → Prop) : Nat → Nat → Int32 → Int32 → Int32 → Int32 → Sg → Prop
  | 0, _, _, _, _, _, _ => False
  | n + 1, k, x1, x2, x3, x4, σ => match k with
    | 0 => wb_Vd_weigh_0 (wp_Vd_weigh post n) post x1 x2 σ
    | 1 => wb_Vd_weigh_1 (wp_Vd_weigh post n) post x1 x2 x3 x4 σ
    | _ => False
def wq_Vd_weigh (x1 : Int32) (x2 : Int32) (σ : Sg) (post : Sg → Prop) : Prop := ∃ n, wp_Vd_weigh post n 0 x1 x2 0 0 σ
def J_Vd_weigh_1 (p : Program) (l : Launch) (e : Env) (s : State) (m : MethodId) (args : Array Value) (below : List Frame) (meth : Method) (c : Code) (D : va_G) (g : Gm) (A : Nat → Prop) (post : Sg → Prop) (F : Nat → Int32 → Int32 → Int32 → Int32 → Sg → Prop) : Prop := ∀ (x1 : Int32) (x2 : Int32) (x3 : Int32) (x4 : Int32) (σ : Sg) (H : Heap) (locs : List Loc) (ls : Array Slot), lv_has ls 5 [(0, .ref (g.1 35)), (1, .int x1), (2, .int x2), (3, .int x3), (4, .int x4)] → Wst D vwCl (WS g) A s σ H locs → F 1 x1 x2 x3 x4 σ → W p l e { frames := 18, cells := 0, slots := 0, locals := 484 } s m args below meth c H locs 0 0 (MQ below (QvW D vwCl (WS g) post A) args s 0 0 A) (F0 m 27 ls [])
set_option maxRecDepth 100000 in
set_option maxHeartbeats 4000000 in
theorem b_Vd_weigh_0 {p : Program} {l : Launch} {e : Env} {s : State} {m : MethodId} {args : Array Value} {below : List Frame} {meth : Method} {c : Code} {D : va_G} {g : Gm} {A : Nat → Prop} {post : Sg → Prop} {F : Nat → Int32 → Int32 → Int32 → Int32 → Sg → Prop} (C : kC p s m args meth c k_Vd_weigh 5 (none) GW R_Vd D vwCl g (Zk g) A) (j1 : J_Vd_weigh_1 p l e s m args below meth c D g A post F) (x1 : Int32) (x2 : Int32) (σ : Sg) (H : Heap) (locs : List Loc) (ls : Array Slot) (hl : lv_has ls 5 [(0, .ref (g.1 35)), (1, .int x1), (2, .int x2)]) (hst : Wst D vwCl (WS g) A s σ H locs) (h : wb_Vd_weigh_0 F post x1 x2 σ) : W p l e { frames := 18, cells := 0, slots := 0, locals := 484 } s m args below meth c H locs 0 0 (MQ below (QvW D vwCl (WS g) post A) args s 0 0 A) (F0 m 0 ls []) := by
  obtain ⟨hx, hb, hr, hml, hown, hts, hlocks, hK, hZ, hA⟩ := C
  unfold wb_Vd_weigh_0 at h
  refine lv_aload_n hx hb d_Vd_weigh_0 rfl (lv_at hl 0 rfl) ?_
  refine va_get (D := D) (ci := 6) (C := R_Vd) (T := T_Vd) (N := 6) hx hb hts in_Vd hown hK hst.1 35 (WS_o35 g σ) rfl 2 (by decide) (hts _ gw305) (fun _ h9 => h9) rfl d_Vd_weigh_1 ?_
  refine va_get (D := D) (ci := 0) (C := R_Tr) (T := T_Tr) (N := 12) hx hb hts in_Tr hown hK hst.1 13 (WS_o13 g σ) rfl 1 (by decide) (hts _ gw133) (fun _ h9 => h9) rfl d_Vd_weigh_4 ?_
  refine lv_iload_n hx hb d_Vd_weigh_7 rfl (lv_at hl 2 rfl) ?_
  obtain ⟨hi, h⟩ := h
  refine va_iald hx hb hK hst.1 14 0 (WS_a14 g σ) rfl hi d_Vd_weigh_8 ?_
  refine lv_bipush (v := (6 : Int32)) hx hb d_Vd_weigh_9 (by decide) ?_
  refine lv_icmp_ne (tgt := 20) hx hb d_Vd_weigh_11 (by decide) (fun hc => ?_) (fun hc => ?_)
  · replace h := h.1 hc
    refine lv_iconst (v := (0 : Int32)) hx hb d_Vd_weigh_20 (by decide) ?_
    refine lv_istore_n hx hb d_Vd_weigh_21 rfl hl (by decide) rfl (fun ls hl => ?_)
    have hl : lv_has ls 5 [(3, .int (0 : Int32)), (0, .ref (g.1 35)), (1, .int x1), (2, .int x2)] := hl
    refine lv_iload_n hx hb d_Vd_weigh_22 rfl (lv_at hl 2 rfl) ?_
    refine lv_iconst (v := (1 : Int32)) hx hb d_Vd_weigh_23 (by decide) ?_
    refine lv_iadd hx hb d_Vd_weigh_24 ?_
    refine lv_istore hx hb d_Vd_weigh_25 hl (by decide) rfl (fun ls hl => ?_)
    have hl : lv_has ls 5 [(4, .int (x1 + (1 : Int32))), (3, .int (0 : Int32)), (0, .ref (g.1 35)), (1, .int x1), (2, .int x2)] := hl
    exact j1 x1 x2 (0 : Int32) (x1 + (1 : Int32)) σ _ _ _ (lv_sub hl [2, 3, 4, 1, 0] rfl) hst h
  · replace h := h.2 hc
    refine lv_aload_n hx hb d_Vd_weigh_14 rfl (lv_at hl 0 rfl) ?_
    refine lv_iload_n hx hb d_Vd_weigh_15 rfl (lv_at hl 1 rfl) ?_
    refine lv_iload_n hx hb d_Vd_weigh_16 rfl (lv_at hl 2 rfl) ?_
    refine kw_callv (va_runV (As := [.int x1, .int x2]) (rest := []) (b := g.1 35) ⟨hx, hb, hml, hown, hts⟩ (c_Vd_markEvaluated l x1 x2 h) (cwV 2 hts (gd_v gw811 gw813 gs21 gw11 gw814) rfl rfl rfl (by decide +kernel) ⟨Nat.le_of_ble_eq_true rfl, Nat.le_of_ble_eq_true rfl⟩) ⟨kw_blind (Zk_ok g), va_recv hK hst.1 rfl (WS_o35 g σ), kw_pre (Zk_ok g) hK hZ hA hst⟩ rfl rfl hl.1 rfl (lv_room (Nat.le_of_ble_eq_true rfl)) d_Vd_weigh_17 ⟨Nat.le_of_ble_eq_true rfl, Nat.le_of_ble_eq_true rfl⟩) hst hA (fun σ1 H locs h hst => ?_)
    refine lv_iconst (v := (0 : Int32)) hx hb d_Vd_weigh_20 (by decide) ?_
    refine lv_istore_n hx hb d_Vd_weigh_21 rfl hl (by decide) rfl (fun ls hl => ?_)
    have hl : lv_has ls 5 [(3, .int (0 : Int32)), (0, .ref (g.1 35)), (1, .int x1), (2, .int x2)] := hl
    refine lv_iload_n hx hb d_Vd_weigh_22 rfl (lv_at hl 2 rfl) ?_
    refine lv_iconst (v := (1 : Int32)) hx hb d_Vd_weigh_23 (by decide) ?_
    refine lv_iadd hx hb d_Vd_weigh_24 ?_
    refine lv_istore hx hb d_Vd_weigh_25 hl (by decide) rfl (fun ls hl => ?_)
    have hl : lv_has ls 5 [(4, .int (x1 + (1 : Int32))), (3, .int (0 : Int32)), (0, .ref (g.1 35)), (1, .int x1), (2, .int x2)] := hl
    exact j1 x1 x2 (0 : Int32) (x1 + (1 : Int32)) σ1 _ _ _ (lv_sub hl [2, 3, 4, 1, 0] rfl) hst h
set_option maxRecDepth 100000 in
set_option maxHeartbeats 4000000 in
theorem b_Vd_weigh_1 {p : Program} {l : Launch} {e : Env} {s : State} {m : MethodId} {args : Array Value} {below : List Frame} {meth : Method} {c : Code} {D : va_G} {g : Gm} {A : Nat → Prop} {post : Sg → Prop} {F : Nat → Int32 → Int32 → Int32 → Int32 → Sg → Prop} (C : kC p s m args meth c k_Vd_weigh 5 (none) GW R_Vd D vwCl g (Zk g) A) (j1 : J_Vd_weigh_1 p l e s m args below meth c D g A post F) (x1 : Int32) (x2 : Int32) (x3 : Int32) (x4 : Int32) (σ : Sg) (H : Heap) (locs : List Loc) (ls : Array Slot) (hl : lv_has ls 5 [(0, .ref (g.1 35)), (1, .int x1), (2, .int x2), (3, .int x3), (4, .int x4)]) (hst : Wst D vwCl (WS g) A s σ H locs) (h : wb_Vd_weigh_1 F post x1 x2 x3 x4 σ) : W p l e { frames := 18, cells := 0, slots := 0, locals := 484 } s m args below meth c H locs 0 0 (MQ below (QvW D vwCl (WS g) post A) args s 0 0 A) (F0 m 27 ls []) := by
  obtain ⟨hx, hb, hr, hml, hown, hts, hlocks, hK, hZ, hA⟩ := C
  unfold wb_Vd_weigh_1 at h
  refine lv_iload_n hx hb d_Vd_weigh_27 rfl (lv_at hl 3 rfl) ?_
  refine lv_aload_n hx hb d_Vd_weigh_28 rfl (lv_at hl 0 rfl) ?_
  refine va_get (D := D) (ci := 6) (C := R_Vd) (T := T_Vd) (N := 6) hx hb hts in_Vd hown hK hst.1 35 (WS_o35 g σ) rfl 1 (by decide) (hts _ gw302) (fun _ h9 => h9) rfl d_Vd_weigh_29 ?_
  refine va_get (D := D) (ci := 0) (C := R_Tr) (T := T_Tr) (N := 12) hx hb hts in_Tr hown hK hst.1 0 (WS_o0 g σ) rfl 5 (by decide) (hts _ gw150) (fun _ h9 => h9) rfl d_Vd_weigh_32 ?_
  refine lv_iload_n hx hb d_Vd_weigh_35 rfl (lv_at hl 1 rfl) ?_
  obtain ⟨hi, h⟩ := h
  refine va_iald hx hb hK hst.1 5 0 (WS_a5 g σ) rfl hi d_Vd_weigh_36 ?_
  refine lv_icmp_ge (tgt := 70) hx hb d_Vd_weigh_37 (by decide) (fun hc => ?_) (fun hc => ?_)
  · replace h := h.1 hc
    refine lv_aload_n hx hb d_Vd_weigh_70 rfl (lv_at hl 0 rfl) ?_
    refine va_get (D := D) (ci := 6) (C := R_Vd) (T := T_Vd) (N := 6) hx hb hts in_Vd hown hK hst.1 35 (WS_o35 g σ) rfl 4 (by decide) (hts _ gw310) (fun _ h9 => h9) rfl d_Vd_weigh_71 ?_
    refine lv_iload_n hx hb d_Vd_weigh_74 rfl (lv_at hl 1 rfl) ?_
    refine lv_iload_n hx hb d_Vd_weigh_75 rfl (lv_at hl 2 rfl) ?_
    refine kw_callv (va_runV (As := [.int x1, .int x2]) (rest := []) (b := g.1 36) ⟨hx, hb, hml, hown, hts⟩ (c_Mk_put_36 l x1 x2 h) (cwV 2 hts (gd_v gw837 gw838 gw839 gw12 gw840) rfl rfl rfl (by decide +kernel) ⟨Nat.le_of_ble_eq_true rfl, Nat.le_of_ble_eq_true rfl⟩) ⟨kw_blind (Zk_ok g), va_recv hK hst.1 rfl (WS_o36 g σ), kw_pre (Zk_ok g) hK hZ hA hst⟩ rfl rfl hl.1 rfl (lv_room (Nat.le_of_ble_eq_true rfl)) d_Vd_weigh_76 ⟨Nat.le_of_ble_eq_true rfl, Nat.le_of_ble_eq_true rfl⟩) hst hA (fun σ1 H locs h hst => ?_)
    exact kw_vret hx hb hr hlocks hst h d_Vd_weigh_79
  · replace h := h.2 hc
    refine lv_aload_n hx hb d_Vd_weigh_40 rfl (lv_at hl 0 rfl) ?_
    refine lv_iload_n hx hb d_Vd_weigh_41 rfl (lv_at hl 1 rfl) ?_
    refine lv_iload hx hb d_Vd_weigh_42 (lv_at hl 4 rfl) ?_
    refine lv_iload_n hx hb d_Vd_weigh_44 rfl (lv_at hl 2 rfl) ?_
    refine kw_calli (va_runV (As := [.int x1, .int x4, .int x2]) (rest := []) (b := g.1 35) ⟨hx, hb, hml, hown, hts⟩ (c_Vd_isSo l x1 x4 x2 h) (cwV 3 hts (gd_v gw841 gw842 gw843 gw11 gw844) rfl rfl rfl (by decide +kernel) ⟨Nat.le_of_ble_eq_true rfl, Nat.le_of_ble_eq_true rfl⟩) ⟨kw_blind (Zk_ok g), va_recv hK hst.1 rfl (WS_o35 g σ), kw_pre (Zk_ok g) hK hZ hA hst⟩ rfl rfl hl.1 rfl (lv_room (Nat.le_of_ble_eq_true rfl)) d_Vd_weigh_45 ⟨Nat.le_of_ble_eq_true rfl, Nat.le_of_ble_eq_true rfl⟩) hst hA (fun r1 σ1 H locs h hst => ?_)
    refine lv_if_ne (tgt := 52) hx hb d_Vd_weigh_48 (by decide) (fun hc => ?_) (fun hc => ?_)
    · replace h := h.1 hc
      refine lv_iinc (k := 3) (v := (x3 + 1)) hx hb d_Vd_weigh_52 hl rfl (kw_inc _ (by decide)) (by decide) rfl (fun ls hl => ?_)
      have hl : lv_has ls 5 [(3, .int (x3 + 1)), (0, .ref (g.1 35)), (1, .int x1), (2, .int x2), (4, .int x4)] := hl
      refine lv_aload_n hx hb d_Vd_weigh_55 rfl (lv_at hl 1 rfl) ?_
      refine va_get (D := D) (ci := 6) (C := R_Vd) (T := T_Vd) (N := 6) hx hb hts in_Vd hown hK hst.1 35 (WS_o35 g σ1) rfl 1 (by decide) (hts _ gw302) (fun _ h9 => h9) rfl d_Vd_weigh_56 ?_
      refine va_get (D := D) (ci := 0) (C := R_Tr) (T := T_Tr) (N := 12) hx hb hts in_Tr hown hK hst.1 0 (WS_o0 g σ1) rfl 8 (by decide) (hts _ gw165) (fun _ h9 => h9) rfl d_Vd_weigh_59 ?_
      refine lv_iload hx hb d_Vd_weigh_62 (lv_at hl 4 rfl) ?_
      obtain ⟨hi, h⟩ := h
      refine va_iald hx hb hK hst.1 8 0 (WS_a8 g σ1) rfl hi d_Vd_weigh_64 ?_
      refine lv_istore hx hb d_Vd_weigh_65 hl (by decide) rfl (fun ls hl => ?_)
      have hl : lv_has ls 5 [(4, .int (σ1.1 8 x4.toNatClampNeg)), (3, .int (x3 + 1)), (0, .ref (g.1 35)), (1, .int x1), (2, .int x2)] := hl
      refine lv_goto (tgt := 27) hx hb d_Vd_weigh_67 (by decide) ?_
      exact j1 x1 x2 (x3 + 1) (σ1.1 8 x4.toNatClampNeg) σ1 _ _ _ (lv_sub hl [2, 3, 4, 1, 0] rfl) hst h
    · replace h := h.2 hc
      exact kw_vret hx hb hr hlocks hst h d_Vd_weigh_51
set_option maxRecDepth 100000 in
set_option maxHeartbeats 4000000 in
theorem a_Vd_weigh {p : Program} {l : Launch} {e : Env} {s : State} {m : MethodId} {args : Array Value} {below : List Frame} {meth : Method} {c : Code} {D : va_G} {g : Gm} {A : Nat → Prop} {post : Sg → Prop} (C : kC p s m args meth c k_Vd_weigh 5 (none) GW R_Vd D vwCl g (Zk g) A) : ∀ n : Nat, J_Vd_weigh_1 p l e s m args below meth c D g A post (wp_Vd_weigh post n) := by
  intro n
  induction n with
  | zero => exact fun _ _ _ _ _ _ _ _ _ _ h => h.elim
  | succ n ih => exact fun x1 x2 x3 x4 σ H locs ls hl hst h => b_Vd_weigh_1 (F := wp_Vd_weigh post n) C (ih) x1 x2 x3 x4 σ H locs ls hl hst h
set_option maxRecDepth 100000 in
set_option maxHeartbeats 4000000 in
theorem c_Vd_weigh (l : Launch) {D : va_G} {g : Gm} {sz : Nat} (x1 : Int32) (x2 : Int32) {σ : Sg} {post : Sg → Prop} (h : wq_Vd_weigh x1 x2 σ post) : Met l y_Vd_weigh (.code y_Vd_weigh k_Vd_weigh 5 (none) :: GW) { frames := 18, cells := 0, slots := 0, locals := 484 } (PcW D vwCl (WS g) g (Zk g) σ sz [.ref (g.1 35), .int x1, .int x2]) (QvW D vwCl (WS g) post (va_A (WS g σ) sz)) 0 0 (va_A (WS g σ) sz) := by
  refine kw_entry (own := R_Vd) (by decide) rfl rfl (Nat.le_of_ble_eq_true rfl) ?_
  intro p e s m below meth c ls hsz C hin hl hst
  obtain ⟨n, h⟩ := h
  cases n with
  | zero => exact h.elim
  | succ n =>
    have ih := a_Vd_weigh (l := l) (e := e) (below := below) (post := post) C n
    exact b_Vd_weigh_0 (F := wp_Vd_weigh post n) C (ih) x1 x2 σ _ _ ls hl hst h
/-! SchemaDesk$Verdicts.refresh ()V -/
abbrev k_Vd_refresh : ByteArray := prog_9_method_2_code
abbrev y_Vd_refresh : MethodName := ⟨"SchemaDesk$Verdicts", "refresh", "()V"⟩
theorem d_Vd_refresh_0 : decode k_Vd_refresh 0 = .ok (.aload_n 0, 1) := by decide +kernel
theorem d_Vd_refresh_1 : decode k_Vd_refresh 1 = .ok (.getfield 35, 3) := by decide +kernel
theorem d_Vd_refresh_4 : decode k_Vd_refresh 4 = .ok (.ifCond .eq 4, 3) := by decide +kernel
theorem d_Vd_refresh_7 : decode k_Vd_refresh 7 = .ok (.return_, 1) := by decide +kernel
theorem d_Vd_refresh_8 : decode k_Vd_refresh 8 = .ok (.aload_n 0, 1) := by decide +kernel
theorem d_Vd_refresh_9 : decode k_Vd_refresh 9 = .ok (.iconst 1, 1) := by decide +kernel
theorem d_Vd_refresh_10 : decode k_Vd_refresh 10 = .ok (.putfield 35, 3) := by decide +kernel
theorem d_Vd_refresh_13 : decode k_Vd_refresh 13 = .ok (.aload_n 0, 1) := by decide +kernel
theorem d_Vd_refresh_14 : decode k_Vd_refresh 14 = .ok (.getfield 12, 3) := by decide +kernel
theorem d_Vd_refresh_17 : decode k_Vd_refresh 17 = .ok (.invokevirtual 39, 3) := by decide +kernel
theorem d_Vd_refresh_20 : decode k_Vd_refresh 20 = .ok (.aload_n 0, 1) := by decide +kernel
theorem d_Vd_refresh_21 : decode k_Vd_refresh 21 = .ok (.getfield 18, 3) := by decide +kernel
theorem d_Vd_refresh_24 : decode k_Vd_refresh 24 = .ok (.invokevirtual 39, 3) := by decide +kernel
theorem d_Vd_refresh_27 : decode k_Vd_refresh 27 = .ok (.aload_n 0, 1) := by decide +kernel
theorem d_Vd_refresh_28 : decode k_Vd_refresh 28 = .ok (.getfield 32, 3) := by decide +kernel
theorem d_Vd_refresh_31 : decode k_Vd_refresh 31 = .ok (.getfield 42, 3) := by decide +kernel
theorem d_Vd_refresh_34 : decode k_Vd_refresh 34 = .ok (.iconst 1, 1) := by decide +kernel
theorem d_Vd_refresh_35 : decode k_Vd_refresh 35 = .ok (.isub, 1) := by decide +kernel
theorem d_Vd_refresh_36 : decode k_Vd_refresh 36 = .ok (.istore_n 1, 1) := by decide +kernel
theorem d_Vd_refresh_37 : decode k_Vd_refresh 37 = .ok (.iload_n 1, 1) := by decide +kernel
theorem d_Vd_refresh_38 : decode k_Vd_refresh 38 = .ok (.ifCond .lt 42, 3) := by decide +kernel
theorem d_Vd_refresh_41 : decode k_Vd_refresh 41 = .ok (.iconst 0, 1) := by decide +kernel
theorem d_Vd_refresh_42 : decode k_Vd_refresh 42 = .ok (.istore_n 2, 1) := by decide +kernel
theorem d_Vd_refresh_43 : decode k_Vd_refresh 43 = .ok (.iload_n 2, 1) := by decide +kernel
theorem d_Vd_refresh_44 : decode k_Vd_refresh 44 = .ok (.aload_n 0, 1) := by decide +kernel
theorem d_Vd_refresh_45 : decode k_Vd_refresh 45 = .ok (.getfield 21, 3) := by decide +kernel
theorem d_Vd_refresh_48 : decode k_Vd_refresh 48 = .ok (.getfield 48, 3) := by decide +kernel
theorem d_Vd_refresh_51 : decode k_Vd_refresh 51 = .ok (.if_icmp .ge 23, 3) := by decide +kernel
theorem d_Vd_refresh_54 : decode k_Vd_refresh 54 = .ok (.aload_n 0, 1) := by decide +kernel
theorem d_Vd_refresh_55 : decode k_Vd_refresh 55 = .ok (.aload_n 0, 1) := by decide +kernel
theorem d_Vd_refresh_56 : decode k_Vd_refresh 56 = .ok (.getfield 21, 3) := by decide +kernel
theorem d_Vd_refresh_59 : decode k_Vd_refresh 59 = .ok (.getfield 51, 3) := by decide +kernel
theorem d_Vd_refresh_62 : decode k_Vd_refresh 62 = .ok (.iload_n 2, 1) := by decide +kernel
theorem d_Vd_refresh_63 : decode k_Vd_refresh 63 = .ok (.iaload, 1) := by decide +kernel
theorem d_Vd_refresh_64 : decode k_Vd_refresh 64 = .ok (.iload_n 1, 1) := by decide +kernel
theorem d_Vd_refresh_65 : decode k_Vd_refresh 65 = .ok (.invokevirtual 55, 3) := by decide +kernel
theorem d_Vd_refresh_68 : decode k_Vd_refresh 68 = .ok (.iinc 2 1, 3) := by decide +kernel
theorem d_Vd_refresh_71 : decode k_Vd_refresh 71 = .ok (.goto (-28), 3) := by decide +kernel
theorem d_Vd_refresh_74 : decode k_Vd_refresh 74 = .ok (.iinc 1 (-1), 3) := by decide +kernel
theorem d_Vd_refresh_77 : decode k_Vd_refresh 77 = .ok (.goto (-40), 3) := by decide +kernel
theorem d_Vd_refresh_80 : decode k_Vd_refresh 80 = .ok (.return_, 1) := by decide +kernel
theorem gw308 : (Jvm.Cond.fieldLink "SchemaDesk$Verdicts" (35 : Nat) "SchemaDesk$Verdicts" "fresh" "Z") ∈ GW := gw_t2 (List.mem_of_getElem? (i := 68) rfl) rfl
theorem gw800 : (Jvm.Cond.methodLink "SchemaDesk$Verdicts" (39 : Nat) ({ cls := "SchemaDesk$Marks", name := "clear", desc := "()V" } : Jvm.MethodName)) ∈ GW := gw_t4 (List.mem_of_getElem? (i := 80) rfl) rfl
theorem gw801 : (Jvm.Cond.instanceMethod ({ cls := "SchemaDesk$Marks", name := "clear", desc := "()V" } : Jvm.MethodName)) ∈ GW := gw_t4 (List.mem_of_getElem? (i := 81) rfl) rfl
theorem gw802 : (Jvm.Cond.selects "SchemaDesk$Marks" ({ cls := "SchemaDesk$Marks", name := "clear", desc := "()V" } : Jvm.MethodName) ({ cls := "SchemaDesk$Marks", name := "clear", desc := "()V" } : Jvm.MethodName)) ∈ GW := gw_t4 (List.mem_of_getElem? (i := 82) rfl) rfl
theorem gw803 : (Jvm.Cond.code ({ cls := "SchemaDesk$Marks", name := "clear", desc := "()V" } : Jvm.MethodName) prog_2_method_2_code (1 : Nat) (Option.none : Option Jvm.ClassFile.FieldType)) ∈ GW := gw_t4 (List.mem_of_getElem? (i := 83) rfl) rfl
theorem gw170 : (Jvm.Cond.fieldLink "SchemaDesk$Verdicts" (42 : Nat) "SchemaDesk$Tree" "size" "I") ∈ GW := gw_t1 (List.mem_of_getElem? (i := 170) rfl) rfl
theorem gw251 : (Jvm.Cond.fieldLink "SchemaDesk$Verdicts" (48 : Nat) "SchemaDesk$Plan" "ordered" "I") ∈ GW := gw_t2 (List.mem_of_getElem? (i := 11) rfl) rfl
theorem gw248 : (Jvm.Cond.fieldLink "SchemaDesk$Verdicts" (51 : Nat) "SchemaDesk$Plan" "order" "[I") ∈ GW := gw_t2 (List.mem_of_getElem? (i := 8) rfl) rfl
theorem gw807 : (Jvm.Cond.methodLink "SchemaDesk$Verdicts" (55 : Nat) ({ cls := "SchemaDesk$Verdicts", name := "weigh", desc := "(II)V" } : Jvm.MethodName)) ∈ GW := gw_t4 (List.mem_of_getElem? (i := 87) rfl) rfl
theorem gw809 : (Jvm.Cond.instanceMethod ({ cls := "SchemaDesk$Verdicts", name := "weigh", desc := "(II)V" } : Jvm.MethodName)) ∈ GW := gw_t4 (List.mem_of_getElem? (i := 89) rfl) rfl
theorem gs20 : Cond.selects "SchemaDesk$Verdicts" ⟨"SchemaDesk$Verdicts", "weigh", "(II)V"⟩ ⟨"SchemaDesk$Verdicts", "weigh", "(II)V"⟩ ∈ GW := gw_p2 (q := (⟨"SchemaDesk$Verdicts", "weigh", "(II)V"⟩, 6)) (List.mem_of_getElem? (i := 4) rfl)
theorem gw810 : (Jvm.Cond.code ({ cls := "SchemaDesk$Verdicts", name := "weigh", desc := "(II)V" } : Jvm.MethodName) prog_9_method_4_code (5 : Nat) (Option.none : Option Jvm.ClassFile.FieldType)) ∈ GW := gw_t4 (List.mem_of_getElem? (i := 90) rfl) rfl
def wb_Vd_refresh_0 (F : Nat → Int32 → Int32 → Sg → Prop) (post : Sg → Prop) (σ : Sg) : Prop := (((σ.1 35 3) = 0 → (narrow .boolean (.int (1 : Int32)) = .int (1 : Int32) ∧ fits .boolean (.int (1 : Int32)) = true ∧ (∀ σ1, σ1 = si σ 35 3 (1 : Int32) → (wq_Mk_clear 36 σ1 (fun σ2 => (wq_Mk_clear 38 σ2 (fun σ3 => F 1 ((σ3.1 13 9) - (1 : Int32)) 0 σ3))))))) ∧ (¬ (σ.1 35 3) = 0 → post σ))
def wb_Vd_refresh_1 (F : Nat → Int32 → Int32 → Sg → Prop) (post : Sg → Prop) (x1 : Int32) (σ : Sg) : Prop := ((x1 < 0 → post σ) ∧ (¬ x1 < 0 → F 2 x1 (0 : Int32) σ))
def wb_Vd_refresh_2 (F : Nat → Int32 → Int32 → Sg → Prop) (post : Sg → Prop) (x1 : Int32) (x2 : Int32) (σ : Sg) : Prop := (((σ.1 29 6) ≤ x2 → F 1 (x1 + (-1)) 0 σ) ∧ (¬ (σ.1 29 6) ≤ x2 → (vp_in x2 160 ∧ (wq_Vd_weigh (σ.1 33 x2.toNatClampNeg) x1 σ (fun σ1 => F 2 x1 (x2 + 1) σ1)))))
def wp_Vd_refresh (post : Sg → Prop) : Nat → Nat → Int32 → Int32 → Sg → Prop
  | 0, _, _, _, _ => False
  | n + 1, k, x1, x2, σ => match k with
    | 0 => wb_Vd_refresh_0 (wp_Vd_refresh post n) post σ
    | 1 => wb_Vd_refresh_1 (wp_Vd_refresh post n) post x1 σ
    | 2 => wb_Vd_refresh_2 (wp_Vd_refresh post n) post x1 x2 σ
    | _ => False
def wq_Vd_refresh (σ : Sg) (post : Sg → Prop) : Prop := ∃ n, wp_Vd_refresh post n 0 0 0 σ
def J_Vd_refresh_1 (p : Program) (l : Launch) (e : Env) (s : State) (m : MethodId) (args : Array Value) (below : List Frame) (meth : Method) (c : Code) (D : va_G) (g : Gm) (A : Nat → Prop) (post : Sg → Prop) (F : Nat → Int32 → Int32 → Sg → Prop) : Prop := ∀ (x1 : Int32) (σ : Sg) (H : Heap) (locs : List Loc) (ls : Array Slot), lv_has ls 3 [(0, .ref (g.1 35)), (1, .int x1)] → Wst D vwCl (WS g) A s σ H locs → F 1 x1 0 σ → W p l e { frames := 19, cells := 0, slots := 0, locals := 508 } s m args below meth c H locs 0 0 (MQ below (QvW D vwCl (WS g) post A) args s 0 0 A) (F0 m 37 ls [])
def J_Vd_refresh_2 (p : Program) (l : Launch) (e : Env) (s : State) (m : MethodId) (args : Array Value) (below : List Frame) (meth : Method) (c : Code) (D : va_G) (g : Gm) (A : Nat → Prop) (post : Sg → Prop) (F : Nat → Int32 → Int32 → Sg → Prop) : Prop := ∀ (x1 : Int32) (x2 : Int32) (σ : Sg) (H : Heap) (locs : List Loc) (ls : Array Slot), lv_has ls 3 [(0, .ref (g.1 35)), (1, .int x1), (2, .int x2)] → Wst D vwCl (WS g) A s σ H locs → F 2 x1 x2 σ → W p l e { frames := 19, cells := 0, slots := 0, locals := 508 } s m args below meth c H locs 0 0 (MQ below (QvW D vwCl (WS g) post A) args s 0 0 A) (F0 m 43 ls [])
set_option maxRecDepth 100000 in
set_option maxHeartbeats 4000000 in
theorem b_Vd_refresh_0 {p : Program} {l : Launch} {e : Env} {s : State} {m : MethodId} {args : Array Value} {below : List Frame} {meth : Method} {c : Code} {D : va_G} {g : Gm} {A : Nat → Prop} {post : Sg → Prop} {F : Nat → Int32 → Int32 → Sg → Prop} (C : kC p s m args meth c k_Vd_refresh 3 (none) GW R_Vd D vwCl g (Zk g) A) (j1 : J_Vd_refresh_1 p l e s m args below meth c D g A post F) (σ : Sg) (H : Heap) (locs : List Loc) (ls : Array Slot) (hl : lv_has ls 3 [(0, .ref (g.1 35))]) (hst : Wst D vwCl (WS g) A s σ H locs) (h : wb_Vd_refresh_0 F post σ) : W p l e { frames := 19, cells := 0, slots := 0, locals := 508 } s m args below meth c H locs 0 0 (MQ below (QvW D vwCl (WS g) post A) args s 0 0 A) (F0 m 0 ls []) := by
  obtain ⟨hx, hb, hr, hml, hown, hts, hlocks, hK, hZ, hA⟩ := C
  unfold wb_Vd_refresh_0 at h
  refine lv_aload_n hx hb d_Vd_refresh_0 rfl (lv_at hl 0 rfl) ?_
  refine va_get (D := D) (ci := 6) (C := R_Vd) (T := T_Vd) (N := 6) hx hb hts in_Vd hown hK hst.1 35 (WS_o35 g σ) rfl 3 (by decide) (hts _ gw308) (fun _ h9 => h9) rfl d_Vd_refresh_1 ?_
  refine lv_if_eq (tgt := 8) hx hb d_Vd_refresh_4 (by decide) (fun hc => ?_) (fun hc => ?_)
  · replace h := h.1 hc
    refine lv_aload_n hx hb d_Vd_refresh_8 rfl (lv_at hl 0 rfl) ?_
    refine lv_iconst (v := (1 : Int32)) hx hb d_Vd_refresh_9 (by decide) ?_
    obtain ⟨hn, hf, h⟩ := h
    refine kw_put (D := D) (ci := 6) (ty := .boolean) (C := R_Vd) (T := T_Vd) (N := 6) hx hb hts in_Vd ty_Vd ty_Vd_ok nm_Vd hown hK hst 35 (WS_o35 g σ) rfl 3 (by decide) (hts _ gw308) (fun _ h9 => h9) rfl (by decide +kernel) hn hf (Nat.le_of_ble_eq_true rfl) (WS_p35_3 g σ _) d_Vd_refresh_10 (fun σ1 H locs e1 hst => ?_)
    replace h := h σ1 e1
    refine lv_aload_n hx hb d_Vd_refresh_13 rfl (lv_at hl 0 rfl) ?_
    refine va_get (D := D) (ci := 6) (C := R_Vd) (T := T_Vd) (N := 6) hx hb hts in_Vd hown hK hst.1 35 (WS_o35 g σ1) rfl 4 (by decide) (hts _ gw310) (fun _ h9 => h9) rfl d_Vd_refresh_14 ?_
    refine kw_callv (va_runV (As := []) (rest := []) (b := g.1 36) ⟨hx, hb, hml, hown, hts⟩ (c_Mk_clear_36 l h) (cwV 0 hts (gd_v gw800 gw801 gw802 gw12 gw803) rfl rfl rfl (by decide +kernel) ⟨Nat.le_of_ble_eq_true rfl, Nat.le_of_ble_eq_true rfl⟩) ⟨kw_blind (Zk_ok g), va_recv hK hst.1 rfl (WS_o36 g σ1), kw_pre (Zk_ok g) hK hZ hA hst⟩ rfl rfl hl.1 rfl (lv_room (Nat.le_of_ble_eq_true rfl)) d_Vd_refresh_17 ⟨Nat.le_of_ble_eq_true rfl, Nat.le_of_ble_eq_true rfl⟩) hst hA (fun σ2 H locs h hst => ?_)
    refine lv_aload_n hx hb d_Vd_refresh_20 rfl (lv_at hl 0 rfl) ?_
    refine va_get (D := D) (ci := 6) (C := R_Vd) (T := T_Vd) (N := 6) hx hb hts in_Vd hown hK hst.1 35 (WS_o35 g σ2) rfl 5 (by decide) (hts _ gw311) (fun _ h9 => h9) rfl d_Vd_refresh_21 ?_
    refine kw_callv (va_runV (As := []) (rest := []) (b := g.1 38) ⟨hx, hb, hml, hown, hts⟩ (c_Mk_clear_38 l h) (cwV 0 hts (gd_v gw800 gw801 gw802 gw12 gw803) rfl rfl rfl (by decide +kernel) ⟨Nat.le_of_ble_eq_true rfl, Nat.le_of_ble_eq_true rfl⟩) ⟨kw_blind (Zk_ok g), va_recv hK hst.1 rfl (WS_o38 g σ2), kw_pre (Zk_ok g) hK hZ hA hst⟩ rfl rfl hl.1 rfl (lv_room (Nat.le_of_ble_eq_true rfl)) d_Vd_refresh_24 ⟨Nat.le_of_ble_eq_true rfl, Nat.le_of_ble_eq_true rfl⟩) hst hA (fun σ3 H locs h hst => ?_)
    refine lv_aload_n hx hb d_Vd_refresh_27 rfl (lv_at hl 0 rfl) ?_
    refine va_get (D := D) (ci := 6) (C := R_Vd) (T := T_Vd) (N := 6) hx hb hts in_Vd hown hK hst.1 35 (WS_o35 g σ3) rfl 2 (by decide) (hts _ gw305) (fun _ h9 => h9) rfl d_Vd_refresh_28 ?_
    refine va_get (D := D) (ci := 0) (C := R_Tr) (T := T_Tr) (N := 12) hx hb hts in_Tr hown hK hst.1 13 (WS_o13 g σ3) rfl 9 (by decide) (hts _ gw170) (fun _ h9 => h9) rfl d_Vd_refresh_31 ?_
    refine lv_iconst (v := (1 : Int32)) hx hb d_Vd_refresh_34 (by decide) ?_
    refine lv_isub hx hb d_Vd_refresh_35 ?_
    refine lv_istore_n hx hb d_Vd_refresh_36 rfl hl (by decide) rfl (fun ls hl => ?_)
    have hl : lv_has ls 3 [(1, .int ((σ3.1 13 9) - (1 : Int32))), (0, .ref (g.1 35))] := hl
    exact j1 ((σ3.1 13 9) - (1 : Int32)) σ3 _ _ _ (lv_sub hl [1, 0] rfl) hst h
  · replace h := h.2 hc
    exact kw_vret hx hb hr hlocks hst h d_Vd_refresh_7
set_option maxRecDepth 100000 in
set_option maxHeartbeats 4000000 in
theorem b_Vd_refresh_1 {p : Program} {l : Launch} {e : Env} {s : State} {m : MethodId} {args : Array Value} {below : List Frame} {meth : Method} {c : Code} {D : va_G} {g : Gm} {A : Nat → Prop} {post : Sg → Prop} {F : Nat → Int32 → Int32 → Sg → Prop} (C : kC p s m args meth c k_Vd_refresh 3 (none) GW R_Vd D vwCl g (Zk g) A) (j2 : J_Vd_refresh_2 p l e s m args below meth c D g A post F) (x1 : Int32) (σ : Sg) (H : Heap) (locs : List Loc) (ls : Array Slot) (hl : lv_has ls 3 [(0, .ref (g.1 35)), (1, .int x1)]) (hst : Wst D vwCl (WS g) A s σ H locs) (h : wb_Vd_refresh_1 F post x1 σ) : W p l e { frames := 19, cells := 0, slots := 0, locals := 508 } s m args below meth c H locs 0 0 (MQ below (QvW D vwCl (WS g) post A) args s 0 0 A) (F0 m 37 ls []) := by
  obtain ⟨hx, hb, hr, hml, hown, hts, hlocks, hK, hZ, hA⟩ := C
  unfold wb_Vd_refresh_1 at h
  refine lv_iload_n hx hb d_Vd_refresh_37 rfl (lv_at hl 1 rfl) ?_
  refine lv_if_lt (tgt := 80) hx hb d_Vd_refresh_38 (by decide) (fun hc => ?_) (fun hc => ?_)
  · replace h := h.1 hc
    exact kw_vret hx hb hr hlocks hst h d_Vd_refresh_80
  · replace h := h.2 hc
    refine lv_iconst (v := (0 : Int32)) hx hb d_Vd_refresh_41 (by decide) ?_
    refine lv_istore_n hx hb d_Vd_refresh_42 rfl hl (by decide) rfl (fun ls hl => ?_)
    have hl : lv_has ls 3 [(2, .int (0 : Int32)), (0, .ref (g.1 35)), (1, .int x1)] := hl
    exact j2 x1 (0 : Int32) σ _ _ _ (lv_sub hl [1, 2, 0] rfl) hst h
set_option maxRecDepth 100000 in
set_option maxHeartbeats 4000000 in
theorem b_Vd_refresh_2 {p : Program} {l : Launch} {e : Env} {s : State} {m : MethodId} {args : Array Value} {below : List Frame} {meth : Method} {c : Code} {D : va_G} {g : Gm} {A : Nat → Prop} {post : Sg → Prop} {F : Nat → Int32 → Int32 → Sg → Prop} (C : kC p s m args meth c k_Vd_refresh 3 (none) GW R_Vd D vwCl g (Zk g) A) (j1 : J_Vd_refresh_1 p l e s m args below meth c D g A post F) (j2 : J_Vd_refresh_2 p l e s m args below meth c D g A post F) (x1 : Int32) (x2 : Int32) (σ : Sg) (H : Heap) (locs : List Loc) (ls : Array Slot) (hl : lv_has ls 3 [(0, .ref (g.1 35)), (1, .int x1), (2, .int x2)]) (hst : Wst D vwCl (WS g) A s σ H locs) (h : wb_Vd_refresh_2 F post x1 x2 σ) : W p l e { frames := 19, cells := 0, slots := 0, locals := 508 } s m args below meth c H locs 0 0 (MQ below (QvW D vwCl (WS g) post A) args s 0 0 A) (F0 m 43 ls []) := by
  obtain ⟨hx, hb, hr, hml, hown, hts, hlocks, hK, hZ, hA⟩ := C
  unfold wb_Vd_refresh_2 at h
  refine lv_iload_n hx hb d_Vd_refresh_43 rfl (lv_at hl 2 rfl) ?_
  refine lv_aload_n hx hb d_Vd_refresh_44 rfl (lv_at hl 0 rfl) ?_
  refine va_get (D := D) (ci := 6) (C := R_Vd) (T := T_Vd) (N := 6) hx hb hts in_Vd hown hK hst.1 35 (WS_o35 g σ) rfl 0 (by decide) (hts _ gw299) (fun _ h9 => h9) rfl d_Vd_refresh_45 ?_
  refine va_get (D := D) (ci := 5) (C := R_Pl) (T := T_Pl) (N := 10) hx hb hts in_Pl hown hK hst.1 29 (WS_o29 g σ) rfl 6 (by decide) (hts _ gw251) (fun _ h9 => h9) rfl d_Vd_refresh_48 ?_
  refine lv_icmp_ge (tgt := 74) hx hb d_Vd_refresh_51 (by decide) (fun hc => ?_) (fun hc => ?_)
  · replace h := h.1 hc
    refine lv_iinc (k := 1) (v := (x1 + (-1))) hx hb d_Vd_refresh_74 hl rfl (kw_inc _ (by decide)) (by decide) rfl (fun ls hl => ?_)
    have hl : lv_has ls 3 [(1, .int (x1 + (-1))), (0, .ref (g.1 35)), (2, .int x2)] := hl
    refine lv_goto (tgt := 37) hx hb d_Vd_refresh_77 (by decide) ?_
    exact j1 (x1 + (-1)) σ _ _ _ (lv_sub hl [1, 0] rfl) hst h
  · replace h := h.2 hc
    refine lv_aload_n hx hb d_Vd_refresh_54 rfl (lv_at hl 0 rfl) ?_
    refine lv_aload_n hx hb d_Vd_refresh_55 rfl (lv_at hl 0 rfl) ?_
    refine va_get (D := D) (ci := 6) (C := R_Vd) (T := T_Vd) (N := 6) hx hb hts in_Vd hown hK hst.1 35 (WS_o35 g σ) rfl 0 (by decide) (hts _ gw299) (fun _ h9 => h9) rfl d_Vd_refresh_56 ?_
    refine va_get (D := D) (ci := 5) (C := R_Pl) (T := T_Pl) (N := 10) hx hb hts in_Pl hown hK hst.1 29 (WS_o29 g σ) rfl 5 (by decide) (hts _ gw248) (fun _ h9 => h9) rfl d_Vd_refresh_59 ?_
    refine lv_iload_n hx hb d_Vd_refresh_62 rfl (lv_at hl 2 rfl) ?_
    obtain ⟨hi, h⟩ := h
    refine va_iald hx hb hK hst.1 33 0 (WS_a33 g σ) rfl hi d_Vd_refresh_63 ?_
    refine lv_iload_n hx hb d_Vd_refresh_64 rfl (lv_at hl 1 rfl) ?_
    refine kw_callv (va_runV (As := [.int (σ.1 33 x2.toNatClampNeg), .int x1]) (rest := []) (b := g.1 35) ⟨hx, hb, hml, hown, hts⟩ (c_Vd_weigh l (σ.1 33 x2.toNatClampNeg) x1 h) (cwV 2 hts (gd_v gw807 gw809 gs20 gw11 gw810) rfl rfl rfl (by decide +kernel) ⟨Nat.le_of_ble_eq_true rfl, Nat.le_of_ble_eq_true rfl⟩) ⟨kw_blind (Zk_ok g), va_recv hK hst.1 rfl (WS_o35 g σ), kw_pre (Zk_ok g) hK hZ hA hst⟩ rfl rfl hl.1 rfl (lv_room (Nat.le_of_ble_eq_true rfl)) d_Vd_refresh_65 ⟨Nat.le_of_ble_eq_true rfl, Nat.le_of_ble_eq_true rfl⟩) hst hA (fun σ1 H locs h hst => ?_)
    refine lv_iinc (k := 2) (v := (x2 + 1)) hx hb d_Vd_refresh_68 hl rfl (kw_inc _ (by decide)) (by decide) rfl (fun ls hl => ?_)
    have hl : lv_has ls 3 [(2, .int (x2 + 1)), (0, .ref (g.1 35)), (1, .int x1)] := hl
    refine lv_goto (tgt := 43) hx hb d_Vd_refresh_71 (by decide) ?_
    exact j2 x1 (x2 + 1) σ1 _ _ _ (lv_sub hl [1, 2, 0] rfl) hst h
set_option maxRecDepth 100000 in
set_option maxHeartbeats 4000000 in
theorem a_Vd_refresh {p : Program} {l : Launch} {e : Env} {s : State} {m : MethodId} {args : Array Value} {below : List Frame} {meth : Method} {c : Code} {D : va_G} {g : Gm} {A : Nat → Prop} {post : Sg → Prop} (C : kC p s m args meth c k_Vd_refresh 3 (none) GW R_Vd D vwCl g (Zk g) A) : ∀ n : Nat, J_Vd_refresh_1 p l e s m args below meth c D g A post (wp_Vd_refresh post n) ∧ J_Vd_refresh_2 p l e s m args below meth c D g A post (wp_Vd_refresh post n) := by
  intro n
  induction n with
  | zero => exact ⟨fun _ _ _ _ _ _ _ h => h.elim, fun _ _ _ _ _ _ _ _ h => h.elim⟩
  | succ n ih => exact ⟨fun x1 σ H locs ls hl hst h => b_Vd_refresh_1 (F := wp_Vd_refresh post n) C (ih.2) x1 σ H locs ls hl hst h, fun x1 x2 σ H locs ls hl hst h => b_Vd_refresh_2 (F := wp_Vd_refresh post n) C (ih.1) (ih.2) x1 x2 σ H locs ls hl hst h⟩
set_option maxRecDepth 100000 in
set_option maxHeartbeats 4000000 in
theorem c_Vd_refresh (l : Launch) {D : va_G} {g : Gm} {sz : Nat} {σ : Sg} {post : Sg → Prop} (h : wq_Vd_refresh σ post) : Met l y_Vd_refresh (.code y_Vd_refresh k_Vd_refresh 3 (none) :: GW) { frames := 19, cells := 0, slots := 0, locals := 508 } (PcW D vwCl (WS g) g (Zk g) σ sz [.ref (g.1 35)]) (QvW D vwCl (WS g) post (va_A (WS g σ) sz)) 0 0 (va_A (WS g σ) sz) := by
  refine kw_entry (own := R_Vd) (by decide) rfl rfl (Nat.le_of_ble_eq_true rfl) ?_
  intro p e s m below meth c ls hsz C hin hl hst
  obtain ⟨n, h⟩ := h
  cases n with
  | zero => exact h.elim
  | succ n =>
    have ih := a_Vd_refresh (l := l) (e := e) (below := below) (post := post) C n
    exact b_Vd_refresh_0 (F := wp_Vd_refresh post n) C (ih.1) σ _ _ ls hl hst h
/-! SchemaDesk$Report.explain (II)V -/
abbrev k_Rp_explain : ByteArray := prog_6_method_7_code
abbrev y_Rp_explain : MethodName := ⟨"SchemaDesk$Report", "explain", "(II)V"⟩
theorem d_Rp_explain_0 : decode k_Rp_explain 0 = .ok (.iconst 0, 1) := by decide +kernel
theorem d_Rp_explain_1 : decode k_Rp_explain 1 = .ok (.istore_n 3, 1) := by decide +kernel
theorem d_Rp_explain_2 : decode k_Rp_explain 2 = .ok (.iload_n 1, 1) := by decide +kernel
theorem d_Rp_explain_3 : decode k_Rp_explain 3 = .ok (.iconst 1, 1) := by decide +kernel
theorem d_Rp_explain_4 : decode k_Rp_explain 4 = .ok (.iadd, 1) := by decide +kernel
theorem d_Rp_explain_5 : decode k_Rp_explain 5 = .ok (.istore 4, 2) := by decide +kernel
theorem d_Rp_explain_7 : decode k_Rp_explain 7 = .ok (.iload_n 3, 1) := by decide +kernel
theorem d_Rp_explain_8 : decode k_Rp_explain 8 = .ok (.aload_n 0, 1) := by decide +kernel
theorem d_Rp_explain_9 : decode k_Rp_explain 9 = .ok (.getfield 40, 3) := by decide +kernel
theorem d_Rp_explain_12 : decode k_Rp_explain 12 = .ok (.getfield 82, 3) := by decide +kernel
theorem d_Rp_explain_15 : decode k_Rp_explain 15 = .ok (.iload_n 1, 1) := by decide +kernel
theorem d_Rp_explain_16 : decode k_Rp_explain 16 = .ok (.iaload, 1) := by decide +kernel
theorem d_Rp_explain_17 : decode k_Rp_explain 17 = .ok (.if_icmp .ge 43, 3) := by decide +kernel
theorem d_Rp_explain_20 : decode k_Rp_explain 20 = .ok (.aload_n 0, 1) := by decide +kernel
theorem d_Rp_explain_21 : decode k_Rp_explain 21 = .ok (.getfield 25, 3) := by decide +kernel
theorem d_Rp_explain_24 : decode k_Rp_explain 24 = .ok (.iload_n 1, 1) := by decide +kernel
theorem d_Rp_explain_25 : decode k_Rp_explain 25 = .ok (.iload 4, 2) := by decide +kernel
theorem d_Rp_explain_27 : decode k_Rp_explain 27 = .ok (.iload_n 2, 1) := by decide +kernel
theorem d_Rp_explain_28 : decode k_Rp_explain 28 = .ok (.invokevirtual 85, 3) := by decide +kernel
theorem d_Rp_explain_31 : decode k_Rp_explain 31 = .ok (.ifCond .ne 11, 3) := by decide +kernel
theorem d_Rp_explain_34 : decode k_Rp_explain 34 = .ok (.aload_n 0, 1) := by decide +kernel
theorem d_Rp_explain_35 : decode k_Rp_explain 35 = .ok (.iload_n 1, 1) := by decide +kernel
theorem d_Rp_explain_36 : decode k_Rp_explain 36 = .ok (.iload 4, 2) := by decide +kernel
theorem d_Rp_explain_38 : decode k_Rp_explain 38 = .ok (.iload_n 2, 1) := by decide +kernel
theorem d_Rp_explain_39 : decode k_Rp_explain 39 = .ok (.invokevirtual 89, 3) := by decide +kernel
theorem d_Rp_explain_42 : decode k_Rp_explain 42 = .ok (.iinc 3 1, 3) := by decide +kernel
theorem d_Rp_explain_45 : decode k_Rp_explain 45 = .ok (.aload_n 0, 1) := by decide +kernel
theorem d_Rp_explain_46 : decode k_Rp_explain 46 = .ok (.getfield 40, 3) := by decide +kernel
theorem d_Rp_explain_49 : decode k_Rp_explain 49 = .ok (.getfield 93, 3) := by decide +kernel
theorem d_Rp_explain_52 : decode k_Rp_explain 52 = .ok (.iload 4, 2) := by decide +kernel
theorem d_Rp_explain_54 : decode k_Rp_explain 54 = .ok (.iaload, 1) := by decide +kernel
theorem d_Rp_explain_55 : decode k_Rp_explain 55 = .ok (.istore 4, 2) := by decide +kernel
theorem d_Rp_explain_57 : decode k_Rp_explain 57 = .ok (.goto (-50), 3) := by decide +kernel
theorem d_Rp_explain_60 : decode k_Rp_explain 60 = .ok (.return_, 1) := by decide +kernel
theorem gw914 : (Jvm.Cond.methodLink "SchemaDesk$Report" (85 : Nat) ({ cls := "SchemaDesk$Verdicts", name := "isSo", desc := "(III)Z" } : Jvm.MethodName)) ∈ GW := gw_t4 (List.mem_of_getElem? (i := 194) rfl) rfl
theorem gw915 : (Jvm.Cond.methodLink "SchemaDesk$Report" (89 : Nat) ({ cls := "SchemaDesk$Report", name := "explainChild", desc := "(III)V" } : Jvm.MethodName)) ∈ GW := gw_t4 (List.mem_of_getElem? (i := 195) rfl) rfl
theorem gw917 : (Jvm.Cond.instanceMethod ({ cls := "SchemaDesk$Report", name := "explainChild", desc := "(III)V" } : Jvm.MethodName)) ∈ GW := gw_t4 (List.mem_of_getElem? (i := 197) rfl) rfl
theorem gs34 : Cond.selects "SchemaDesk$Report" ⟨"SchemaDesk$Report", "explainChild", "(III)V"⟩ ⟨"SchemaDesk$Report", "explainChild", "(III)V"⟩ ∈ GW := gw_p3 (q := (⟨"SchemaDesk$Report", "explainChild", "(III)V"⟩, 8)) (List.mem_of_getElem? (i := 2) rfl)
theorem gw918 : (Jvm.Cond.code ({ cls := "SchemaDesk$Report", name := "explainChild", desc := "(III)V" } : Jvm.MethodName) prog_6_method_8_code (4 : Nat) (Option.none : Option Jvm.ClassFile.FieldType)) ∈ GW := gw_t4 (List.mem_of_getElem? (i := 198) rfl) rfl
def wb_Rp_explain_0 (F : Nat → Int32 → Int32 → Int32 → Int32 → Sg → Prop) (post : Sg → Prop) (x1 : Int32) (x2 : Int32) (σ : Sg) : Prop := F 1 x1 x2 (0 : Int32) (x1 + (1 : Int32)) σ
def wb_Rp_explain_1 (F : Nat → Int32 → Int32 → Int32 → Int32 → Sg → Prop) (post : Sg → Prop) (x1 : Int32) (x2 : Int32) (x3 : Int32) (x4 : Int32) (σ : Sg) : Prop := (vp_in x1 160 ∧ (((σ.1 5 x1.toNatClampNeg) ≤ x3 → post σ) ∧ (¬ (σ.1 5 x1.toNatClampNeg) ≤ x3 → (wq_Vd_isSo x1 x4 x2 σ (fun r1 σ1 => ((¬ r1 = 0 → (vp_in x4 160 ∧ F 1 x1 x2 (x3 + 1) (σ1.1 8 x4.toNatClampNeg) σ1)) ∧ (r1 = 0 → (wq_Rp_explainChild x1 x4 x2 σ1 (fun σ2 => (vp_in x4 160 ∧ F 1 x1 x2 (x3 + 1) (σ2.1 8 x4.toNatClampNeg) σ2))))))))))
def wp_Rp_explain (post : Sg → Prop) : Nat → Nat → Int32 → Int32 → Int32 → Int32 → Sg → Prop
  | 0, _, _, _, _, _, _ => False
  | n + 1, k, x1, x2, x3, x4, σ => match k with
    | 0 => wb_Rp_explain_0 (wp_Rp_explain post n) post x1 x2 σ
    | 1 => wb_Rp_explain_1 (wp_Rp_explain post n) post x1 x2 x3 x4 σ
    | _ => False
def wq_Rp_explain (x1 : Int32) (x2 : Int32) (σ : Sg) (post : Sg → Prop) : Prop := ∃ n, wp_Rp_explain post n 0 x1 x2 0 0 σ
def J_Rp_explain_1 (p : Program) (l : Launch) (e : Env) (s : State) (m : MethodId) (args : Array Value) (below : List Frame) (meth : Method) (c : Code) (D : va_G) (g : Gm) (A : Nat → Prop) (post : Sg → Prop) (F : Nat → Int32 → Int32 → Int32 → Int32 → Sg → Prop) : Prop := ∀ (x1 : Int32) (x2 : Int32) (x3 : Int32) (x4 : Int32) (σ : Sg) (H : Heap) (locs : List Loc) (ls : Array Slot), lv_has ls 5 [(0, .ref (g.1 40)), (1, .int x1), (2, .int x2), (3, .int x3), (4, .int x4)] → Wst D vwCl (WS g) A s σ H locs → F 1 x1 x2 x3 x4 σ → W p l e { frames := 18, cells := 0, slots := 0, locals := 484 } s m args below meth c H locs 0 0 (MQ below (QvW D vwCl (WS g) post A) args s 0 0 A) (F0 m 7 ls [])
set_option maxRecDepth 100000 in
set_option maxHeartbeats 4000000 in
theorem b_Rp_explain_0 {p : Program} {l : Launch} {e : Env} {s : State} {m : MethodId} {args : Array Value} {below : List Frame} {meth : Method} {c : Code} {D : va_G} {g : Gm} {A : Nat → Prop} {post : Sg → Prop} {F : Nat → Int32 → Int32 → Int32 → Int32 → Sg → Prop} (C : kC p s m args meth c k_Rp_explain 5 (none) GW R_Rp D vwCl g (Zk g) A) (j1 : J_Rp_explain_1 p l e s m args below meth c D g A post F) (x1 : Int32) (x2 : Int32) (σ : Sg) (H : Heap) (locs : List Loc) (ls : Array Slot) (hl : lv_has ls 5 [(0, .ref (g.1 40)), (1, .int x1), (2, .int x2)]) (hst : Wst D vwCl (WS g) A s σ H locs) (h : wb_Rp_explain_0 F post x1 x2 σ) : W p l e { frames := 18, cells := 0, slots := 0, locals := 484 } s m args below meth c H locs 0 0 (MQ below (QvW D vwCl (WS g) post A) args s 0 0 A) (F0 m 0 ls []) := by
  obtain ⟨hx, hb, hr, hml, hown, hts, hlocks, hK, hZ, hA⟩ := C
  unfold wb_Rp_explain_0 at h
  refine lv_iconst (v := (0 : Int32)) hx hb d_Rp_explain_0 (by decide) ?_
  refine lv_istore_n hx hb d_Rp_explain_1 rfl hl (by decide) rfl (fun ls hl => ?_)
  have hl : lv_has ls 5 [(3, .int (0 : Int32)), (0, .ref (g.1 40)), (1, .int x1), (2, .int x2)] := hl
  refine lv_iload_n hx hb d_Rp_explain_2 rfl (lv_at hl 2 rfl) ?_
  refine lv_iconst (v := (1 : Int32)) hx hb d_Rp_explain_3 (by decide) ?_
  refine lv_iadd hx hb d_Rp_explain_4 ?_
  refine lv_istore hx hb d_Rp_explain_5 hl (by decide) rfl (fun ls hl => ?_)
  have hl : lv_has ls 5 [(4, .int (x1 + (1 : Int32))), (3, .int (0 : Int32)), (0, .ref (g.1 40)), (1, .int x1), (2, .int x2)] := hl
  exact j1 x1 x2 (0 : Int32) (x1 + (1 : Int32)) σ _ _ _ (lv_sub hl [2, 3, 4, 1, 0] rfl) hst h
set_option maxRecDepth 100000 in
set_option maxHeartbeats 4000000 in
theorem b_Rp_explain_1 {p : Program} {l : Launch} {e : Env} {s : State} {m : MethodId} {args : Array Value} {below : List Frame} {meth : Method} {c : Code} {D : va_G} {g : Gm} {A : Nat → Prop} {post : Sg → Prop} {F : Nat → Int32 → Int32 → Int32 → Int32 → Sg → Prop} (C : kC p s m args meth c k_Rp_explain 5 (none) GW R_Rp D vwCl g (Zk g) A) (j1 : J_Rp_explain_1 p l e s m args below meth c D g A post F) (x1 : Int32) (x2 : Int32) (x3 : Int32) (x4 : Int32) (σ : Sg) (H : Heap) (locs : List Loc) (ls : Array Slot) (hl : lv_has ls 5 [(0, .ref (g.1 40)), (1, .int x1), (2, .int x2), (3, .int x3), (4, .int x4)]) (hst : Wst D vwCl (WS g) A s σ H locs) (h : wb_Rp_explain_1 F post x1 x2 x3 x4 σ) : W p l e { frames := 18, cells := 0, slots := 0, locals := 484 } s m args below meth c H locs 0 0 (MQ below (QvW D vwCl (WS g) post A) args s 0 0 A) (F0 m 7 ls []) := by
  obtain ⟨hx, hb, hr, hml, hown, hts, hlocks, hK, hZ, hA⟩ := C
  unfold wb_Rp_explain_1 at h
  refine lv_iload_n hx hb d_Rp_explain_7 rfl (lv_at hl 3 rfl) ?_
  refine lv_aload_n hx hb d_Rp_explain_8 rfl (lv_at hl 0 rfl) ?_
  refine va_get (D := D) (ci := 7) (C := R_Rp) (T := T_Rp) (N := 8) hx hb hts in_Rp hown hK hst.1 40 (WS_o40 g σ) rfl 4 (by decide) (hts _ gw338) (fun _ h9 => h9) rfl d_Rp_explain_9 ?_
  refine va_get (D := D) (ci := 0) (C := R_Tr) (T := T_Tr) (N := 12) hx hb hts in_Tr hown hK hst.1 0 (WS_o0 g σ) rfl 5 (by decide) (hts _ gw152) (fun _ h9 => h9) rfl d_Rp_explain_12 ?_
  refine lv_iload_n hx hb d_Rp_explain_15 rfl (lv_at hl 1 rfl) ?_
  obtain ⟨hi, h⟩ := h
  refine va_iald hx hb hK hst.1 5 0 (WS_a5 g σ) rfl hi d_Rp_explain_16 ?_
  refine lv_icmp_ge (tgt := 60) hx hb d_Rp_explain_17 (by decide) (fun hc => ?_) (fun hc => ?_)
  · replace h := h.1 hc
    exact kw_vret hx hb hr hlocks hst h d_Rp_explain_60
  · replace h := h.2 hc
    refine lv_aload_n hx hb d_Rp_explain_20 rfl (lv_at hl 0 rfl) ?_
    refine va_get (D := D) (ci := 7) (C := R_Rp) (T := T_Rp) (N := 8) hx hb hts in_Rp hown hK hst.1 40 (WS_o40 g σ) rfl 2 (by decide) (hts _ gw336) (fun _ h9 => h9) rfl d_Rp_explain_21 ?_
    refine lv_iload_n hx hb d_Rp_explain_24 rfl (lv_at hl 1 rfl) ?_
    refine lv_iload hx hb d_Rp_explain_25 (lv_at hl 4 rfl) ?_
    refine lv_iload_n hx hb d_Rp_explain_27 rfl (lv_at hl 2 rfl) ?_
    refine kw_calli (va_runV (As := [.int x1, .int x4, .int x2]) (rest := []) (b := g.1 35) ⟨hx, hb, hml, hown, hts⟩ (c_Vd_isSo l x1 x4 x2 h) (cwV 3 hts (gd_v gw914 gw842 gw843 gw11 gw844) rfl rfl rfl (by decide +kernel) ⟨Nat.le_of_ble_eq_true rfl, Nat.le_of_ble_eq_true rfl⟩) ⟨kw_blind (Zk_ok g), va_recv hK hst.1 rfl (WS_o35 g σ), kw_pre (Zk_ok g) hK hZ hA hst⟩ rfl rfl hl.1 rfl (lv_room (Nat.le_of_ble_eq_true rfl)) d_Rp_explain_28 ⟨Nat.le_of_ble_eq_true rfl, Nat.le_of_ble_eq_true rfl⟩) hst hA (fun r1 σ1 H locs h hst => ?_)
    refine lv_if_ne (tgt := 42) hx hb d_Rp_explain_31 (by decide) (fun hc => ?_) (fun hc => ?_)
    · replace h := h.1 hc
      refine lv_iinc (k := 3) (v := (x3 + 1)) hx hb d_Rp_explain_42 hl rfl (kw_inc _ (by decide)) (by decide) rfl (fun ls hl => ?_)
      have hl : lv_has ls 5 [(3, .int (x3 + 1)), (0, .ref (g.1 40)), (1, .int x1), (2, .int x2), (4, .int x4)] := hl
      refine lv_aload_n hx hb d_Rp_explain_45 rfl (lv_at hl 1 rfl) ?_
      refine va_get (D := D) (ci := 7) (C := R_Rp) (T := T_Rp) (N := 8) hx hb hts in_Rp hown hK hst.1 40 (WS_o40 g σ1) rfl 4 (by decide) (hts _ gw338) (fun _ h9 => h9) rfl d_Rp_explain_46 ?_
      refine va_get (D := D) (ci := 0) (C := R_Tr) (T := T_Tr) (N := 12) hx hb hts in_Tr hown hK hst.1 0 (WS_o0 g σ1) rfl 8 (by decide) (hts _ gw167) (fun _ h9 => h9) rfl d_Rp_explain_49 ?_
      refine lv_iload hx hb d_Rp_explain_52 (lv_at hl 4 rfl) ?_
      obtain ⟨hi, h⟩ := h
      refine va_iald hx hb hK hst.1 8 0 (WS_a8 g σ1) rfl hi d_Rp_explain_54 ?_
      refine lv_istore hx hb d_Rp_explain_55 hl (by decide) rfl (fun ls hl => ?_)
      have hl : lv_has ls 5 [(4, .int (σ1.1 8 x4.toNatClampNeg)), (3, .int (x3 + 1)), (0, .ref (g.1 40)), (1, .int x1), (2, .int x2)] := hl
      refine lv_goto (tgt := 7) hx hb d_Rp_explain_57 (by decide) ?_
      exact j1 x1 x2 (x3 + 1) (σ1.1 8 x4.toNatClampNeg) σ1 _ _ _ (lv_sub hl [2, 3, 4, 1, 0] rfl) hst h
    · replace h := h.2 hc
      refine lv_aload_n hx hb d_Rp_explain_34 rfl (lv_at hl 0 rfl) ?_
      refine lv_iload_n hx hb d_Rp_explain_35 rfl (lv_at hl 1 rfl) ?_
      refine lv_iload hx hb d_Rp_explain_36 (lv_at hl 4 rfl) ?_
      refine lv_iload_n hx hb d_Rp_explain_38 rfl (lv_at hl 2 rfl) ?_
      refine kw_callv (va_runV (As := [.int x1, .int x4, .int x2]) (rest := []) (b := g.1 40) ⟨hx, hb, hml, hown, hts⟩ (c_Rp_explainChild l x1 x4 x2 h) (cwV 3 hts (gd_v gw915 gw917 gs34 gw13 gw918) rfl rfl rfl (by decide +kernel) ⟨Nat.le_of_ble_eq_true rfl, Nat.le_of_ble_eq_true rfl⟩) ⟨kw_blind (Zk_ok g), va_recv hK hst.1 rfl (WS_o40 g σ1), kw_pre (Zk_ok g) hK hZ hA hst⟩ rfl rfl hl.1 rfl (lv_room (Nat.le_of_ble_eq_true rfl)) d_Rp_explain_39 ⟨Nat.le_of_ble_eq_true rfl, Nat.le_of_ble_eq_true rfl⟩) hst hA (fun σ2 H locs h hst => ?_)
      refine lv_iinc (k := 3) (v := (x3 + 1)) hx hb d_Rp_explain_42 hl rfl (kw_inc _ (by decide)) (by decide) rfl (fun ls hl => ?_)
      have hl : lv_has ls 5 [(3, .int (x3 + 1)), (0, .ref (g.1 40)), (1, .int x1), (2, .int x2), (4, .int x4)] := hl
      refine lv_aload_n hx hb d_Rp_explain_45 rfl (lv_at hl 1 rfl) ?_
      refine va_get (D := D) (ci := 7) (C := R_Rp) (T := T_Rp) (N := 8) hx hb hts in_Rp hown hK hst.1 40 (WS_o40 g σ2) rfl 4 (by decide) (hts _ gw338) (fun _ h9 => h9) rfl d_Rp_explain_46 ?_
      refine va_get (D := D) (ci := 0) (C := R_Tr) (T := T_Tr) (N := 12) hx hb hts in_Tr hown hK hst.1 0 (WS_o0 g σ2) rfl 8 (by decide) (hts _ gw167) (fun _ h9 => h9) rfl d_Rp_explain_49 ?_
      refine lv_iload hx hb d_Rp_explain_52 (lv_at hl 4 rfl) ?_
      obtain ⟨hi, h⟩ := h
      refine va_iald hx hb hK hst.1 8 0 (WS_a8 g σ2) rfl hi d_Rp_explain_54 ?_
      refine lv_istore hx hb d_Rp_explain_55 hl (by decide) rfl (fun ls hl => ?_)
      have hl : lv_has ls 5 [(4, .int (σ2.1 8 x4.toNatClampNeg)), (3, .int (x3 + 1)), (0, .ref (g.1 40)), (1, .int x1), (2, .int x2)] := hl
      refine lv_goto (tgt := 7) hx hb d_Rp_explain_57 (by decide) ?_
      exact j1 x1 x2 (x3 + 1) (σ2.1 8 x4.toNatClampNeg) σ2 _ _ _ (lv_sub hl [2, 3, 4, 1, 0] rfl) hst h
set_option maxRecDepth 100000 in
set_option maxHeartbeats 4000000 in
theorem a_Rp_explain {p : Program} {l : Launch} {e : Env} {s : State} {m : MethodId} {args : Array Value} {below : List Frame} {meth : Method} {c : Code} {D : va_G} {g : Gm} {A : Nat → Prop} {post : Sg → Prop} (C : kC p s m args meth c k_Rp_explain 5 (none) GW R_Rp D vwCl g (Zk g) A) : ∀ n : Nat, J_Rp_explain_1 p l e s m args below meth c D g A post (wp_Rp_explain post n) := by
  intro n
  induction n with
  | zero => exact fun _ _ _ _ _ _ _ _ _ _ h => h.elim
  | succ n ih => exact fun x1 x2 x3 x4 σ H locs ls hl hst h => b_Rp_explain_1 (F := wp_Rp_explain post n) C (ih) x1 x2 x3 x4 σ H locs ls hl hst h
set_option maxRecDepth 100000 in
set_option maxHeartbeats 4000000 in
theorem c_Rp_explain (l : Launch) {D : va_G} {g : Gm} {sz : Nat} (x1 : Int32) (x2 : Int32) {σ : Sg} {post : Sg → Prop} (h : wq_Rp_explain x1 x2 σ post) : Met l y_Rp_explain (.code y_Rp_explain k_Rp_explain 5 (none) :: GW) { frames := 18, cells := 0, slots := 0, locals := 484 } (PcW D vwCl (WS g) g (Zk g) σ sz [.ref (g.1 40), .int x1, .int x2]) (QvW D vwCl (WS g) post (va_A (WS g σ) sz)) 0 0 (va_A (WS g σ) sz) := by
  refine kw_entry (own := R_Rp) (by decide) rfl rfl (Nat.le_of_ble_eq_true rfl) ?_
  intro p e s m below meth c ls hsz C hin hl hst
  obtain ⟨n, h⟩ := h
  cases n with
  | zero => exact h.elim
  | succ n =>
    have ih := a_Rp_explain (l := l) (e := e) (below := below) (post := post) C n
    exact b_Rp_explain_0 (F := wp_Rp_explain post n) C (ih) x1 x2 σ _ _ ls hl hst h
/-! SchemaDesk$Proposals.reachAll (I)V -/
abbrev k_Pr_reachAll : ByteArray := prog_4_method_4_code
abbrev y_Pr_reachAll : MethodName := ⟨"SchemaDesk$Proposals", "reachAll", "(I)V"⟩
theorem d_Pr_reachAll_0 : decode k_Pr_reachAll 0 = .ok (.aload_n 0, 1) := by decide +kernel
theorem d_Pr_reachAll_1 : decode k_Pr_reachAll 1 = .ok (.getfield 25, 3) := by decide +kernel
theorem d_Pr_reachAll_4 : decode k_Pr_reachAll 4 = .ok (.invokevirtual 79, 3) := by decide +kernel
theorem d_Pr_reachAll_7 : decode k_Pr_reachAll 7 = .ok (.aload_n 0, 1) := by decide +kernel
theorem d_Pr_reachAll_8 : decode k_Pr_reachAll 8 = .ok (.getfield 25, 3) := by decide +kernel
theorem d_Pr_reachAll_11 : decode k_Pr_reachAll 11 = .ok (.iconst 0, 1) := by decide +kernel
theorem d_Pr_reachAll_12 : decode k_Pr_reachAll 12 = .ok (.iconst 0, 1) := by decide +kernel
theorem d_Pr_reachAll_13 : decode k_Pr_reachAll 13 = .ok (.invokevirtual 82, 3) := by decide +kernel
theorem d_Pr_reachAll_16 : decode k_Pr_reachAll 16 = .ok (.iconst 0, 1) := by decide +kernel
theorem d_Pr_reachAll_17 : decode k_Pr_reachAll 17 = .ok (.istore_n 2, 1) := by decide +kernel
theorem d_Pr_reachAll_18 : decode k_Pr_reachAll 18 = .ok (.iload_n 2, 1) := by decide +kernel
theorem d_Pr_reachAll_19 : decode k_Pr_reachAll 19 = .ok (.iload_n 1, 1) := by decide +kernel
theorem d_Pr_reachAll_20 : decode k_Pr_reachAll 20 = .ok (.if_icmp .gt 63, 3) := by decide +kernel
theorem d_Pr_reachAll_23 : decode k_Pr_reachAll 23 = .ok (.aload_n 0, 1) := by decide +kernel
theorem d_Pr_reachAll_24 : decode k_Pr_reachAll 24 = .ok (.getfield 39, 3) := by decide +kernel
theorem d_Pr_reachAll_27 : decode k_Pr_reachAll 27 = .ok (.getfield 57, 3) := by decide +kernel
theorem d_Pr_reachAll_30 : decode k_Pr_reachAll 30 = .ok (.iconst 1, 1) := by decide +kernel
theorem d_Pr_reachAll_31 : decode k_Pr_reachAll 31 = .ok (.isub, 1) := by decide +kernel
theorem d_Pr_reachAll_32 : decode k_Pr_reachAll 32 = .ok (.istore_n 3, 1) := by decide +kernel
theorem d_Pr_reachAll_33 : decode k_Pr_reachAll 33 = .ok (.iload_n 3, 1) := by decide +kernel
theorem d_Pr_reachAll_34 : decode k_Pr_reachAll 34 = .ok (.ifCond .lt 43, 3) := by decide +kernel
theorem d_Pr_reachAll_37 : decode k_Pr_reachAll 37 = .ok (.aload_n 0, 1) := by decide +kernel
theorem d_Pr_reachAll_38 : decode k_Pr_reachAll 38 = .ok (.getfield 25, 3) := by decide +kernel
theorem d_Pr_reachAll_41 : decode k_Pr_reachAll 41 = .ok (.aload_n 0, 1) := by decide +kernel
theorem d_Pr_reachAll_42 : decode k_Pr_reachAll 42 = .ok (.getfield 39, 3) := by decide +kernel
theorem d_Pr_reachAll_45 : decode k_Pr_reachAll 45 = .ok (.getfield 62, 3) := by decide +kernel
theorem d_Pr_reachAll_48 : decode k_Pr_reachAll 48 = .ok (.iload_n 3, 1) := by decide +kernel
theorem d_Pr_reachAll_49 : decode k_Pr_reachAll 49 = .ok (.iaload, 1) := by decide +kernel
theorem d_Pr_reachAll_50 : decode k_Pr_reachAll 50 = .ok (.iload_n 2, 1) := by decide +kernel
theorem d_Pr_reachAll_51 : decode k_Pr_reachAll 51 = .ok (.invokevirtual 65, 3) := by decide +kernel
theorem d_Pr_reachAll_54 : decode k_Pr_reachAll 54 = .ok (.ifCond .eq 17, 3) := by decide +kernel
theorem d_Pr_reachAll_57 : decode k_Pr_reachAll 57 = .ok (.aload_n 0, 1) := by decide +kernel
theorem d_Pr_reachAll_58 : decode k_Pr_reachAll 58 = .ok (.aload_n 0, 1) := by decide +kernel
theorem d_Pr_reachAll_59 : decode k_Pr_reachAll 59 = .ok (.getfield 39, 3) := by decide +kernel
theorem d_Pr_reachAll_62 : decode k_Pr_reachAll 62 = .ok (.getfield 62, 3) := by decide +kernel
theorem d_Pr_reachAll_65 : decode k_Pr_reachAll 65 = .ok (.iload_n 3, 1) := by decide +kernel
theorem d_Pr_reachAll_66 : decode k_Pr_reachAll 66 = .ok (.iaload, 1) := by decide +kernel
theorem d_Pr_reachAll_67 : decode k_Pr_reachAll 67 = .ok (.iload_n 2, 1) := by decide +kernel
theorem d_Pr_reachAll_68 : decode k_Pr_reachAll 68 = .ok (.invokevirtual 85, 3) := by decide +kernel
theorem d_Pr_reachAll_71 : decode k_Pr_reachAll 71 = .ok (.iinc 3 (-1), 3) := by decide +kernel
theorem d_Pr_reachAll_74 : decode k_Pr_reachAll 74 = .ok (.goto (-41), 3) := by decide +kernel
theorem d_Pr_reachAll_77 : decode k_Pr_reachAll 77 = .ok (.iinc 2 1, 3) := by decide +kernel
theorem d_Pr_reachAll_80 : decode k_Pr_reachAll 80 = .ok (.goto (-62), 3) := by decide +kernel
theorem d_Pr_reachAll_83 : decode k_Pr_reachAll 83 = .ok (.return_, 1) := by decide +kernel
theorem gw984 : (Jvm.Cond.methodLink "SchemaDesk$Proposals" (79 : Nat) ({ cls := "SchemaDesk$Marks", name := "clear", desc := "()V" } : Jvm.MethodName)) ∈ GW := gw_t5 (List.mem_of_getElem? (i := 24) rfl) rfl
theorem gw252 : (Jvm.Cond.fieldLink "SchemaDesk$Proposals" (57 : Nat) "SchemaDesk$Plan" "ordered" "I") ∈ GW := gw_t2 (List.mem_of_getElem? (i := 12) rfl) rfl
theorem gw249 : (Jvm.Cond.fieldLink "SchemaDesk$Proposals" (62 : Nat) "SchemaDesk$Plan" "order" "[I") ∈ GW := gw_t2 (List.mem_of_getElem? (i := 9) rfl) rfl
theorem gw986 : (Jvm.Cond.methodLink "SchemaDesk$Proposals" (65 : Nat) ({ cls := "SchemaDesk$Marks", name := "has", desc := "(II)Z" } : Jvm.MethodName)) ∈ GW := gw_t5 (List.mem_of_getElem? (i := 26) rfl) rfl
theorem gw987 : (Jvm.Cond.methodLink "SchemaDesk$Proposals" (85 : Nat) ({ cls := "SchemaDesk$Proposals", name := "reachFrom", desc := "(II)V" } : Jvm.MethodName)) ∈ GW := gw_t5 (List.mem_of_getElem? (i := 27) rfl) rfl
theorem gw989 : (Jvm.Cond.instanceMethod ({ cls := "SchemaDesk$Proposals", name := "reachFrom", desc := "(II)V" } : Jvm.MethodName)) ∈ GW := gw_t5 (List.mem_of_getElem? (i := 29) rfl) rfl
theorem gs40 : Cond.selects "SchemaDesk$Proposals" ⟨"SchemaDesk$Proposals", "reachFrom", "(II)V"⟩ ⟨"SchemaDesk$Proposals", "reachFrom", "(II)V"⟩ ∈ GW := gw_p3 (q := (⟨"SchemaDesk$Proposals", "reachFrom", "(II)V"⟩, 10)) (List.mem_of_getElem? (i := 8) rfl)
theorem gw990 : (Jvm.Cond.code ({ cls := "SchemaDesk$Proposals", name := "reachFrom", desc := "(II)V" } : Jvm.MethodName) prog_4_method_5_code (5 : Nat) (Option.none : Option Jvm.ClassFile.FieldType)) ∈ GW := gw_t5 (List.mem_of_getElem? (i := 30) rfl) rfl
def wb_Pr_reachAll_0 (F : Nat → Int32 → Int32 → Int32 → Sg → Prop) (post : Sg → Prop) (x1 : Int32) (σ : Sg) : Prop := (wq_Mk_clear 49 σ (fun σ1 => (wq_Mk_put 49 (0 : Int32) (0 : Int32) σ1 (fun σ2 => F 1 x1 (0 : Int32) 0 σ2))))
def wb_Pr_reachAll_1 (F : Nat → Int32 → Int32 → Int32 → Sg → Prop) (post : Sg → Prop) (x1 : Int32) (x2 : Int32) (σ : Sg) : Prop := ((x1 < x2 → post σ) ∧ (¬ x1 < x2 → F 2 x1 x2 ((σ.1 29 6) - (1 : Int32)) σ))
def wb_Pr_reachAll_2 (F : Nat → Int32 → Int32 → Int32 → Sg → Prop) (post : Sg → Prop) (x1 : Int32) (x2 : Int32) (x3 : Int32) (σ : Sg) : Prop := ((x3 < 0 → F 1 x1 (x2 + 1) 0 σ) ∧ (¬ x3 < 0 → (vp_in x3 160 ∧ (wq_Mk_has 49 (σ.1 33 x3.toNatClampNeg) x2 σ (fun r1 σ1 => ((r1 = 0 → F 2 x1 x2 (x3 + (-1)) σ1) ∧ (¬ r1 = 0 → (vp_in x3 160 ∧ (wq_Pr_reachFrom (σ1.1 33 x3.toNatClampNeg) x2 σ1 (fun σ2 => F 2 x1 x2 (x3 + (-1)) σ2))))))))))
def wp_Pr_reachAll (post : Sg → Prop) : Nat → Nat → Int32 → Int32 → Int32 → Sg → Prop
  | 0, _, _, _, _, _ => False
  | n + 1, k, x1, x2, x3, σ => match k with
    | 0 => wb_Pr_reachAll_0 (wp_Pr_reachAll post n) post x1 σ
    | 1 => wb_Pr_reachAll_1 (wp_Pr_reachAll post n) post x1 x2 σ
    | 2 => wb_Pr_reachAll_2 (wp_Pr_reachAll post n) post x1 x2 x3 σ
    | _ => False
def wq_Pr_reachAll (x1 : Int32) (σ : Sg) (post : Sg → Prop) : Prop := ∃ n, wp_Pr_reachAll post n 0 x1 0 0 σ
def J_Pr_reachAll_1 (p : Program) (l : Launch) (e : Env) (s : State) (m : MethodId) (args : Array Value) (below : List Frame) (meth : Method) (c : Code) (D : va_G) (g : Gm) (A : Nat → Prop) (post : Sg → Prop) (F : Nat → Int32 → Int32 → Int32 → Sg → Prop) : Prop := ∀ (x1 : Int32) (x2 : Int32) (σ : Sg) (H : Heap) (locs : List Loc) (ls : Array Slot), lv_has ls 4 [(0, .ref (g.1 45)), (1, .int x1), (2, .int x2)] → Wst D vwCl (WS g) A s σ H locs → F 1 x1 x2 0 σ → W p l e { frames := 5, cells := 0, slots := 0, locals := 128 } s m args below meth c H locs 0 0 (MQ below (QvW D vwCl (WS g) post A) args s 0 0 A) (F0 m 18 ls [])
def J_Pr_reachAll_2 (p : Program) (l : Launch) (e : Env) (s : State) (m : MethodId) (args : Array Value) (below : List Frame) (meth : Method) (c : Code) (D : va_G) (g : Gm) (A : Nat → Prop) (post : Sg → Prop) (F : Nat → Int32 → Int32 → Int32 → Sg → Prop) : Prop := ∀ (x1 : Int32) (x2 : Int32) (x3 : Int32) (σ : Sg) (H : Heap) (locs : List Loc) (ls : Array Slot), lv_has ls 4 [(0, .ref (g.1 45)), (1, .int x1), (2, .int x2), (3, .int x3)] → Wst D vwCl (WS g) A s σ H locs → F 2 x1 x2 x3 σ → W p l e { frames := 5, cells := 0, slots := 0, locals := 128 } s m args below meth c H locs 0 0 (MQ below (QvW D vwCl (WS g) post A) args s 0 0 A) (F0 m 33 ls [])
set_option maxRecDepth 100000 in
set_option maxHeartbeats 4000000 in
theorem b_Pr_reachAll_0 {p : Program} {l : Launch} {e : Env} {s : State} {m : MethodId} {args : Array Value} {below : List Frame} {meth : Method} {c : Code} {D : va_G} {g : Gm} {A : Nat → Prop} {post : Sg → Prop} {F : Nat → Int32 → Int32 → Int32 → Sg → Prop} (C : kC p s m args meth c k_Pr_reachAll 4 (none) GW R_Pr D vwCl g (Zk g) A) (j1 : J_Pr_reachAll_1 p l e s m args below meth c D g A post F) (x1 : Int32) (σ : Sg) (H : Heap) (locs : List Loc) (ls : Array Slot) (hl : lv_has ls 4 [(0, .ref (g.1 45)), (1, .int x1)]) (hst : Wst D vwCl (WS g) A s σ H locs) (h : wb_Pr_reachAll_0 F post x1 σ) : W p l e { frames := 5, cells := 0, slots := 0, locals := 128 } s m args below meth c H locs 0 0 (MQ below (QvW D vwCl (WS g) post A) args s 0 0 A) (F0 m 0 ls []) := by
  obtain ⟨hx, hb, hr, hml, hown, hts, hlocks, hK, hZ, hA⟩ := C
  unfold wb_Pr_reachAll_0 at h
  refine lv_aload_n hx hb d_Pr_reachAll_0 rfl (lv_at hl 0 rfl) ?_
  refine va_get (D := D) (ci := 8) (C := R_Pr) (T := T_Pr) (N := 10) hx hb hts in_Pr hown hK hst.1 45 (WS_o45 g σ) rfl 9 (by decide) (hts _ gw377) (fun _ h9 => h9) rfl d_Pr_reachAll_1 ?_
  refine kw_callv (va_runV (As := []) (rest := []) (b := g.1 49) ⟨hx, hb, hml, hown, hts⟩ (c_Mk_clear_49 l h) (cwV 0 hts (gd_v gw984 gw801 gw802 gw12 gw803) rfl rfl rfl (by decide +kernel) ⟨Nat.le_of_ble_eq_true rfl, Nat.le_of_ble_eq_true rfl⟩) ⟨kw_blind (Zk_ok g), va_recv hK hst.1 rfl (WS_o49 g σ), kw_pre (Zk_ok g) hK hZ hA hst⟩ rfl rfl hl.1 rfl (lv_room (Nat.le_of_ble_eq_true rfl)) d_Pr_reachAll_4 ⟨Nat.le_of_ble_eq_true rfl, Nat.le_of_ble_eq_true rfl⟩) hst hA (fun σ1 H locs h hst => ?_)
  refine lv_aload_n hx hb d_Pr_reachAll_7 rfl (lv_at hl 0 rfl) ?_
  refine va_get (D := D) (ci := 8) (C := R_Pr) (T := T_Pr) (N := 10) hx hb hts in_Pr hown hK hst.1 45 (WS_o45 g σ1) rfl 9 (by decide) (hts _ gw377) (fun _ h9 => h9) rfl d_Pr_reachAll_8 ?_
  refine lv_iconst (v := (0 : Int32)) hx hb d_Pr_reachAll_11 (by decide) ?_
  refine lv_iconst (v := (0 : Int32)) hx hb d_Pr_reachAll_12 (by decide) ?_
  refine kw_callv (va_runV (As := [.int (0 : Int32), .int (0 : Int32)]) (rest := []) (b := g.1 49) ⟨hx, hb, hml, hown, hts⟩ (c_Mk_put_49 l (0 : Int32) (0 : Int32) h) (cwV 2 hts (gd_v gw985 gw838 gw839 gw12 gw840) rfl rfl rfl (by decide +kernel) ⟨Nat.le_of_ble_eq_true rfl, Nat.le_of_ble_eq_true rfl⟩) ⟨kw_blind (Zk_ok g), va_recv hK hst.1 rfl (WS_o49 g σ1), kw_pre (Zk_ok g) hK hZ hA hst⟩ rfl rfl hl.1 rfl (lv_room (Nat.le_of_ble_eq_true rfl)) d_Pr_reachAll_13 ⟨Nat.le_of_ble_eq_true rfl, Nat.le_of_ble_eq_true rfl⟩) hst hA (fun σ2 H locs h hst => ?_)
  refine lv_iconst (v := (0 : Int32)) hx hb d_Pr_reachAll_16 (by decide) ?_
  refine lv_istore_n hx hb d_Pr_reachAll_17 rfl hl (by decide) rfl (fun ls hl => ?_)
  have hl : lv_has ls 4 [(2, .int (0 : Int32)), (0, .ref (g.1 45)), (1, .int x1)] := hl
  exact j1 x1 (0 : Int32) σ2 _ _ _ (lv_sub hl [1, 2, 0] rfl) hst h
set_option maxRecDepth 100000 in
set_option maxHeartbeats 4000000 in
theorem b_Pr_reachAll_1 {p : Program} {l : Launch} {e : Env} {s : State} {m : MethodId} {args : Array Value} {below : List Frame} {meth : Method} {c : Code} {D : va_G} {g : Gm} {A : Nat → Prop} {post : Sg → Prop} {F : Nat → Int32 → Int32 → Int32 → Sg → Prop} (C : kC p s m args meth c k_Pr_reachAll 4 (none) GW R_Pr D vwCl g (Zk g) A) (j2 : J_Pr_reachAll_2 p l e s m args below meth c D g A post F) (x1 : Int32) (x2 : Int32) (σ : Sg) (H : Heap) (locs : List Loc) (ls : Array Slot) (hl : lv_has ls 4 [(0, .ref (g.1 45)), (1, .int x1), (2, .int x2)]) (hst : Wst D vwCl (WS g) A s σ H locs) (h : wb_Pr_reachAll_1 F post x1 x2 σ) : W p l e { frames := 5, cells := 0, slots := 0, locals := 128 } s m args below meth c H locs 0 0 (MQ below (QvW D vwCl (WS g) post A) args s 0 0 A) (F0 m 18 ls []) := by
  obtain ⟨hx, hb, hr, hml, hown, hts, hlocks, hK, hZ, hA⟩ := C
  unfold wb_Pr_reachAll_1 at h
  refine lv_iload_n hx hb d_Pr_reachAll_18 rfl (lv_at hl 2 rfl) ?_
  refine lv_iload_n hx hb d_Pr_reachAll_19 rfl (lv_at hl 1 rfl) ?_
  refine lv_icmp_gt (tgt := 83) hx hb d_Pr_reachAll_20 (by decide) (fun hc => ?_) (fun hc => ?_)
  · replace h := h.1 hc
    exact kw_vret hx hb hr hlocks hst h d_Pr_reachAll_83
  · replace h := h.2 hc
    refine lv_aload_n hx hb d_Pr_reachAll_23 rfl (lv_at hl 0 rfl) ?_
    refine va_get (D := D) (ci := 8) (C := R_Pr) (T := T_Pr) (N := 10) hx hb hts in_Pr hown hK hst.1 45 (WS_o45 g σ) rfl 6 (by decide) (hts _ gw374) (fun _ h9 => h9) rfl d_Pr_reachAll_24 ?_
    refine va_get (D := D) (ci := 5) (C := R_Pl) (T := T_Pl) (N := 10) hx hb hts in_Pl hown hK hst.1 29 (WS_o29 g σ) rfl 6 (by decide) (hts _ gw252) (fun _ h9 => h9) rfl d_Pr_reachAll_27 ?_
    refine lv_iconst (v := (1 : Int32)) hx hb d_Pr_reachAll_30 (by decide) ?_
    refine lv_isub hx hb d_Pr_reachAll_31 ?_
    refine lv_istore_n hx hb d_Pr_reachAll_32 rfl hl (by decide) rfl (fun ls hl => ?_)
    have hl : lv_has ls 4 [(3, .int ((σ.1 29 6) - (1 : Int32))), (0, .ref (g.1 45)), (1, .int x1), (2, .int x2)] := hl
    exact j2 x1 x2 ((σ.1 29 6) - (1 : Int32)) σ _ _ _ (lv_sub hl [1, 2, 3, 0] rfl) hst h
set_option maxRecDepth 100000 in
set_option maxHeartbeats 4000000 in
theorem b_Pr_reachAll_2 {p : Program} {l : Launch} {e : Env} {s : State} {m : MethodId} {args : Array Value} {below : List Frame} {meth : Method} {c : Code} {D : va_G} {g : Gm} {A : Nat → Prop} {post : Sg → Prop} {F : Nat → Int32 → Int32 → Int32 → Sg → Prop} (C : kC p s m args meth c k_Pr_reachAll 4 (none) GW R_Pr D vwCl g (Zk g) A) (j1 : J_Pr_reachAll_1 p l e s m args below meth c D g A post F) (j2 : J_Pr_reachAll_2 p l e s m args below meth c D g A post F) (x1 : Int32) (x2 : Int32) (x3 : Int32) (σ : Sg) (H : Heap) (locs : List Loc) (ls : Array Slot) (hl : lv_has ls 4 [(0, .ref (g.1 45)), (1, .int x1), (2, .int x2), (3, .int x3)]) (hst : Wst D vwCl (WS g) A s σ H locs) (h : wb_Pr_reachAll_2 F post x1 x2 x3 σ) : W p l e { frames := 5, cells := 0, slots := 0, locals := 128 } s m args below meth c H locs 0 0 (MQ below (QvW D vwCl (WS g) post A) args s 0 0 A) (F0 m 33 ls []) := by
  obtain ⟨hx, hb, hr, hml, hown, hts, hlocks, hK, hZ, hA⟩ := C
  unfold wb_Pr_reachAll_2 at h
  refine lv_iload_n hx hb d_Pr_reachAll_33 rfl (lv_at hl 3 rfl) ?_
  refine lv_if_lt (tgt := 77) hx hb d_Pr_reachAll_34 (by decide) (fun hc => ?_) (fun hc => ?_)
  · replace h := h.1 hc
    refine lv_iinc (k := 2) (v := (x2 + 1)) hx hb d_Pr_reachAll_77 hl rfl (kw_inc _ (by decide)) (by decide) rfl (fun ls hl => ?_)
    have hl : lv_has ls 4 [(2, .int (x2 + 1)), (0, .ref (g.1 45)), (1, .int x1), (3, .int x3)] := hl
    refine lv_goto (tgt := 18) hx hb d_Pr_reachAll_80 (by decide) ?_
    exact j1 x1 (x2 + 1) σ _ _ _ (lv_sub hl [1, 2, 0] rfl) hst h
  · replace h := h.2 hc
    refine lv_aload_n hx hb d_Pr_reachAll_37 rfl (lv_at hl 0 rfl) ?_
    refine va_get (D := D) (ci := 8) (C := R_Pr) (T := T_Pr) (N := 10) hx hb hts in_Pr hown hK hst.1 45 (WS_o45 g σ) rfl 9 (by decide) (hts _ gw377) (fun _ h9 => h9) rfl d_Pr_reachAll_38 ?_
    refine lv_aload_n hx hb d_Pr_reachAll_41 rfl (lv_at hl 0 rfl) ?_
    refine va_get (D := D) (ci := 8) (C := R_Pr) (T := T_Pr) (N := 10) hx hb hts in_Pr hown hK hst.1 45 (WS_o45 g σ) rfl 6 (by decide) (hts _ gw374) (fun _ h9 => h9) rfl d_Pr_reachAll_42 ?_
    refine va_get (D := D) (ci := 5) (C := R_Pl) (T := T_Pl) (N := 10) hx hb hts in_Pl hown hK hst.1 29 (WS_o29 g σ) rfl 5 (by decide) (hts _ gw249) (fun _ h9 => h9) rfl d_Pr_reachAll_45 ?_
    refine lv_iload_n hx hb d_Pr_reachAll_48 rfl (lv_at hl 3 rfl) ?_
    obtain ⟨hi, h⟩ := h
    refine va_iald hx hb hK hst.1 33 0 (WS_a33 g σ) rfl hi d_Pr_reachAll_49 ?_
    refine lv_iload_n hx hb d_Pr_reachAll_50 rfl (lv_at hl 2 rfl) ?_
    refine kw_calli (va_runV (As := [.int (σ.1 33 x3.toNatClampNeg), .int x2]) (rest := []) (b := g.1 49) ⟨hx, hb, hml, hown, hts⟩ (c_Mk_has_49 l (σ.1 33 x3.toNatClampNeg) x2 h) (cwV 2 hts (gd_v gw986 gw824 gw825 gw12 gw826) rfl rfl rfl (by decide +kernel) ⟨Nat.le_of_ble_eq_true rfl, Nat.le_of_ble_eq_true rfl⟩) ⟨kw_blind (Zk_ok g), va_recv hK hst.1 rfl (WS_o49 g σ), kw_pre (Zk_ok g) hK hZ hA hst⟩ rfl rfl hl.1 rfl (lv_room (Nat.le_of_ble_eq_true rfl)) d_Pr_reachAll_51 ⟨Nat.le_of_ble_eq_true rfl, Nat.le_of_ble_eq_true rfl⟩) hst hA (fun r1 σ1 H locs h hst => ?_)
    refine lv_if_eq (tgt := 71) hx hb d_Pr_reachAll_54 (by decide) (fun hc => ?_) (fun hc => ?_)
    · replace h := h.1 hc
      refine lv_iinc (k := 3) (v := (x3 + (-1))) hx hb d_Pr_reachAll_71 hl rfl (kw_inc _ (by decide)) (by decide) rfl (fun ls hl => ?_)
      have hl : lv_has ls 4 [(3, .int (x3 + (-1))), (0, .ref (g.1 45)), (1, .int x1), (2, .int x2)] := hl
      refine lv_goto (tgt := 33) hx hb d_Pr_reachAll_74 (by decide) ?_
      exact j2 x1 x2 (x3 + (-1)) σ1 _ _ _ (lv_sub hl [1, 2, 3, 0] rfl) hst h
    · replace h := h.2 hc
      refine lv_aload_n hx hb d_Pr_reachAll_57 rfl (lv_at hl 0 rfl) ?_
      refine lv_aload_n hx hb d_Pr_reachAll_58 rfl (lv_at hl 0 rfl) ?_
      refine va_get (D := D) (ci := 8) (C := R_Pr) (T := T_Pr) (N := 10) hx hb hts in_Pr hown hK hst.1 45 (WS_o45 g σ1) rfl 6 (by decide) (hts _ gw374) (fun _ h9 => h9) rfl d_Pr_reachAll_59 ?_
      refine va_get (D := D) (ci := 5) (C := R_Pl) (T := T_Pl) (N := 10) hx hb hts in_Pl hown hK hst.1 29 (WS_o29 g σ1) rfl 5 (by decide) (hts _ gw249) (fun _ h9 => h9) rfl d_Pr_reachAll_62 ?_
      refine lv_iload_n hx hb d_Pr_reachAll_65 rfl (lv_at hl 3 rfl) ?_
      obtain ⟨hi, h⟩ := h
      refine va_iald hx hb hK hst.1 33 0 (WS_a33 g σ1) rfl hi d_Pr_reachAll_66 ?_
      refine lv_iload_n hx hb d_Pr_reachAll_67 rfl (lv_at hl 2 rfl) ?_
      refine kw_callv (va_runV (As := [.int (σ1.1 33 x3.toNatClampNeg), .int x2]) (rest := []) (b := g.1 45) ⟨hx, hb, hml, hown, hts⟩ (c_Pr_reachFrom l (σ1.1 33 x3.toNatClampNeg) x2 h) (cwV 2 hts (gd_v gw987 gw989 gs40 gw14 gw990) rfl rfl rfl (by decide +kernel) ⟨Nat.le_of_ble_eq_true rfl, Nat.le_of_ble_eq_true rfl⟩) ⟨kw_blind (Zk_ok g), va_recv hK hst.1 rfl (WS_o45 g σ1), kw_pre (Zk_ok g) hK hZ hA hst⟩ rfl rfl hl.1 rfl (lv_room (Nat.le_of_ble_eq_true rfl)) d_Pr_reachAll_68 ⟨Nat.le_of_ble_eq_true rfl, Nat.le_of_ble_eq_true rfl⟩) hst hA (fun σ2 H locs h hst => ?_)
      refine lv_iinc (k := 3) (v := (x3 + (-1))) hx hb d_Pr_reachAll_71 hl rfl (kw_inc _ (by decide)) (by decide) rfl (fun ls hl => ?_)
      have hl : lv_has ls 4 [(3, .int (x3 + (-1))), (0, .ref (g.1 45)), (1, .int x1), (2, .int x2)] := hl
      refine lv_goto (tgt := 33) hx hb d_Pr_reachAll_74 (by decide) ?_
      exact j2 x1 x2 (x3 + (-1)) σ2 _ _ _ (lv_sub hl [1, 2, 3, 0] rfl) hst h
set_option maxRecDepth 100000 in
set_option maxHeartbeats 4000000 in
theorem a_Pr_reachAll {p : Program} {l : Launch} {e : Env} {s : State} {m : MethodId} {args : Array Value} {below : List Frame} {meth : Method} {c : Code} {D : va_G} {g : Gm} {A : Nat → Prop} {post : Sg → Prop} (C : kC p s m args meth c k_Pr_reachAll 4 (none) GW R_Pr D vwCl g (Zk g) A) : ∀ n : Nat, J_Pr_reachAll_1 p l e s m args below meth c D g A post (wp_Pr_reachAll post n) ∧ J_Pr_reachAll_2 p l e s m args below meth c D g A post (wp_Pr_reachAll post n) := by
  intro n
  induction n with
  | zero => exact ⟨fun _ _ _ _ _ _ _ _ h => h.elim, fun _ _ _ _ _ _ _ _ _ h => h.elim⟩
  | succ n ih => exact ⟨fun x1 x2 σ H locs ls hl hst h => b_Pr_reachAll_1 (F := wp_Pr_reachAll post n) C (ih.2) x1 x2 σ H locs ls hl hst h, fun x1 x2 x3 σ H locs ls hl hst h => b_Pr_reachAll_2 (F := wp_Pr_reachAll post n) C (ih.1) (ih.2) x1 x2 x3 σ H locs ls hl hst h⟩
set_option maxRecDepth 100000 in
set_option maxHeartbeats 4000000 in
theorem c_Pr_reachAll (l : Launch) {D : va_G} {g : Gm} {sz : Nat} (x1 : Int32) {σ : Sg} {post : Sg → Prop} (h : wq_Pr_reachAll x1 σ post) : Met l y_Pr_reachAll (.code y_Pr_reachAll k_Pr_reachAll 4 (none) :: GW) { frames := 5, cells := 0, slots := 0, locals := 128 } (PcW D vwCl (WS g) g (Zk g) σ sz [.ref (g.1 45), .int x1]) (QvW D vwCl (WS g) post (va_A (WS g σ) sz)) 0 0 (va_A (WS g σ) sz) := by
  refine kw_entry (own := R_Pr) (by decide) rfl rfl (Nat.le_of_ble_eq_true rfl) ?_
  intro p e s m below meth c ls hsz C hin hl hst
  obtain ⟨n, h⟩ := h
  cases n with
  | zero => exact h.elim
  | succ n =>
    have ih := a_Pr_reachAll (l := l) (e := e) (below := below) (post := post) C n
    exact b_Pr_reachAll_0 (F := wp_Pr_reachAll post n) C (ih.1) x1 σ _ _ ls hl hst h
/-! SchemaDesk$Proposals.lookFor (I)V -/
abbrev k_Pr_lookFor : ByteArray := prog_4_method_3_code
abbrev y_Pr_lookFor : MethodName := ⟨"SchemaDesk$Proposals", "lookFor", "(I)V"⟩
theorem d_Pr_lookFor_0 : decode k_Pr_lookFor 0 = .ok (.aload_n 0, 1) := by decide +kernel
theorem d_Pr_lookFor_1 : decode k_Pr_lookFor 1 = .ok (.iload_n 1, 1) := by decide +kernel
theorem d_Pr_lookFor_2 : decode k_Pr_lookFor 2 = .ok (.invokevirtual 49, 3) := by decide +kernel
theorem d_Pr_lookFor_5 : decode k_Pr_lookFor 5 = .ok (.aload_n 0, 1) := by decide +kernel
theorem d_Pr_lookFor_6 : decode k_Pr_lookFor 6 = .ok (.iconst 0, 1) := by decide +kernel
theorem d_Pr_lookFor_7 : decode k_Pr_lookFor 7 = .ok (.putfield 53, 3) := by decide +kernel
theorem d_Pr_lookFor_10 : decode k_Pr_lookFor 10 = .ok (.iconst 0, 1) := by decide +kernel
theorem d_Pr_lookFor_11 : decode k_Pr_lookFor 11 = .ok (.istore_n 2, 1) := by decide +kernel
theorem d_Pr_lookFor_12 : decode k_Pr_lookFor 12 = .ok (.iload_n 2, 1) := by decide +kernel
theorem d_Pr_lookFor_13 : decode k_Pr_lookFor 13 = .ok (.aload_n 0, 1) := by decide +kernel
theorem d_Pr_lookFor_14 : decode k_Pr_lookFor 14 = .ok (.getfield 39, 3) := by decide +kernel
theorem d_Pr_lookFor_17 : decode k_Pr_lookFor 17 = .ok (.getfield 57, 3) := by decide +kernel
theorem d_Pr_lookFor_20 : decode k_Pr_lookFor 20 = .ok (.if_icmp .ge 58, 3) := by decide +kernel
theorem d_Pr_lookFor_23 : decode k_Pr_lookFor 23 = .ok (.aload_n 0, 1) := by decide +kernel
theorem d_Pr_lookFor_24 : decode k_Pr_lookFor 24 = .ok (.getfield 39, 3) := by decide +kernel
theorem d_Pr_lookFor_27 : decode k_Pr_lookFor 27 = .ok (.getfield 62, 3) := by decide +kernel
theorem d_Pr_lookFor_30 : decode k_Pr_lookFor 30 = .ok (.iload_n 2, 1) := by decide +kernel
theorem d_Pr_lookFor_31 : decode k_Pr_lookFor 31 = .ok (.iaload, 1) := by decide +kernel
theorem d_Pr_lookFor_32 : decode k_Pr_lookFor 32 = .ok (.istore_n 3, 1) := by decide +kernel
theorem d_Pr_lookFor_33 : decode k_Pr_lookFor 33 = .ok (.aload_n 0, 1) := by decide +kernel
theorem d_Pr_lookFor_34 : decode k_Pr_lookFor 34 = .ok (.getfield 25, 3) := by decide +kernel
theorem d_Pr_lookFor_37 : decode k_Pr_lookFor 37 = .ok (.iload_n 3, 1) := by decide +kernel
theorem d_Pr_lookFor_38 : decode k_Pr_lookFor 38 = .ok (.iload_n 1, 1) := by decide +kernel
theorem d_Pr_lookFor_39 : decode k_Pr_lookFor 39 = .ok (.invokevirtual 65, 3) := by decide +kernel
theorem d_Pr_lookFor_42 : decode k_Pr_lookFor 42 = .ok (.ifCond .eq 30, 3) := by decide +kernel
theorem d_Pr_lookFor_45 : decode k_Pr_lookFor 45 = .ok (.aload_n 0, 1) := by decide +kernel
theorem d_Pr_lookFor_46 : decode k_Pr_lookFor 46 = .ok (.getfield 39, 3) := by decide +kernel
theorem d_Pr_lookFor_49 : decode k_Pr_lookFor 49 = .ok (.getfield 69, 3) := by decide +kernel
theorem d_Pr_lookFor_52 : decode k_Pr_lookFor 52 = .ok (.iload_n 3, 1) := by decide +kernel
theorem d_Pr_lookFor_53 : decode k_Pr_lookFor 53 = .ok (.iaload, 1) := by decide +kernel
theorem d_Pr_lookFor_54 : decode k_Pr_lookFor 54 = .ok (.iconst (-1), 1) := by decide +kernel
theorem d_Pr_lookFor_55 : decode k_Pr_lookFor 55 = .ok (.if_icmp .eq 17, 3) := by decide +kernel
theorem d_Pr_lookFor_58 : decode k_Pr_lookFor 58 = .ok (.aload_n 0, 1) := by decide +kernel
theorem d_Pr_lookFor_59 : decode k_Pr_lookFor 59 = .ok (.aload_n 0, 1) := by decide +kernel
theorem d_Pr_lookFor_60 : decode k_Pr_lookFor 60 = .ok (.getfield 39, 3) := by decide +kernel
theorem d_Pr_lookFor_63 : decode k_Pr_lookFor 63 = .ok (.getfield 69, 3) := by decide +kernel
theorem d_Pr_lookFor_66 : decode k_Pr_lookFor 66 = .ok (.iload_n 3, 1) := by decide +kernel
theorem d_Pr_lookFor_67 : decode k_Pr_lookFor 67 = .ok (.iaload, 1) := by decide +kernel
theorem d_Pr_lookFor_68 : decode k_Pr_lookFor 68 = .ok (.iload_n 1, 1) := by decide +kernel
theorem d_Pr_lookFor_69 : decode k_Pr_lookFor 69 = .ok (.invokevirtual 72, 3) := by decide +kernel
theorem d_Pr_lookFor_72 : decode k_Pr_lookFor 72 = .ok (.iinc 2 1, 3) := by decide +kernel
theorem d_Pr_lookFor_75 : decode k_Pr_lookFor 75 = .ok (.goto (-63), 3) := by decide +kernel
theorem d_Pr_lookFor_78 : decode k_Pr_lookFor 78 = .ok (.aload_n 0, 1) := by decide +kernel
theorem d_Pr_lookFor_79 : decode k_Pr_lookFor 79 = .ok (.invokevirtual 76, 3) := by decide +kernel
theorem d_Pr_lookFor_82 : decode k_Pr_lookFor 82 = .ok (.return_, 1) := by decide +kernel
theorem gw980 : (Jvm.Cond.methodLink "SchemaDesk$Proposals" (49 : Nat) ({ cls := "SchemaDesk$Proposals", name := "reachAll", desc := "(I)V" } : Jvm.MethodName)) ∈ GW := gw_t5 (List.mem_of_getElem? (i := 20) rfl) rfl
theorem gw982 : (Jvm.Cond.instanceMethod ({ cls := "SchemaDesk$Proposals", name := "reachAll", desc := "(I)V" } : Jvm.MethodName)) ∈ GW := gw_t5 (List.mem_of_getElem? (i := 22) rfl) rfl
theorem gs39 : Cond.selects "SchemaDesk$Proposals" ⟨"SchemaDesk$Proposals", "reachAll", "(I)V"⟩ ⟨"SchemaDesk$Proposals", "reachAll", "(I)V"⟩ ∈ GW := gw_p3 (q := (⟨"SchemaDesk$Proposals", "reachAll", "(I)V"⟩, 10)) (List.mem_of_getElem? (i := 7) rfl)
theorem gw983 : (Jvm.Cond.code ({ cls := "SchemaDesk$Proposals", name := "reachAll", desc := "(I)V" } : Jvm.MethodName) prog_4_method_4_code (4 : Nat) (Option.none : Option Jvm.ClassFile.FieldType)) ∈ GW := gw_t5 (List.mem_of_getElem? (i := 23) rfl) rfl
theorem gw1014 : (Jvm.Cond.methodLink "SchemaDesk$Proposals" (76 : Nat) ({ cls := "SchemaDesk$Proposals", name := "keepFound", desc := "()V" } : Jvm.MethodName)) ∈ GW := gw_t5 (List.mem_of_getElem? (i := 54) rfl) rfl
theorem gw1016 : (Jvm.Cond.instanceMethod ({ cls := "SchemaDesk$Proposals", name := "keepFound", desc := "()V" } : Jvm.MethodName)) ∈ GW := gw_t5 (List.mem_of_getElem? (i := 56) rfl) rfl
theorem gs45 : Cond.selects "SchemaDesk$Proposals" ⟨"SchemaDesk$Proposals", "keepFound", "()V"⟩ ⟨"SchemaDesk$Proposals", "keepFound", "()V"⟩ ∈ GW := gw_p3 (q := (⟨"SchemaDesk$Proposals", "keepFound", "()V"⟩, 10)) (List.mem_of_getElem? (i := 13) rfl)
theorem gw1017 : (Jvm.Cond.code ({ cls := "SchemaDesk$Proposals", name := "keepFound", desc := "()V" } : Jvm.MethodName) prog_4_method_10_code (3 : Nat) (Option.none : Option Jvm.ClassFile.FieldType)) ∈ GW := gw_t5 (List.mem_of_getElem? (i := 57) rfl) rfl
theorem gw245 : (Jvm.Cond.fieldLink "SchemaDesk$Proposals" (69 : Nat) "SchemaDesk$Plan" "properties" "[I") ∈ GW := gw_t2 (List.mem_of_getElem? (i := 5) rfl) rfl
theorem gw1000 : (Jvm.Cond.methodLink "SchemaDesk$Proposals" (72 : Nat) ({ cls := "SchemaDesk$Proposals", name := "findNames", desc := "(II)V" } : Jvm.MethodName)) ∈ GW := gw_t5 (List.mem_of_getElem? (i := 40) rfl) rfl
theorem gw1002 : (Jvm.Cond.instanceMethod ({ cls := "SchemaDesk$Proposals", name := "findNames", desc := "(II)V" } : Jvm.MethodName)) ∈ GW := gw_t5 (List.mem_of_getElem? (i := 42) rfl) rfl
theorem gs43 : Cond.selects "SchemaDesk$Proposals" ⟨"SchemaDesk$Proposals", "findNames", "(II)V"⟩ ⟨"SchemaDesk$Proposals", "findNames", "(II)V"⟩ ∈ GW := gw_p3 (q := (⟨"SchemaDesk$Proposals", "findNames", "(II)V"⟩, 10)) (List.mem_of_getElem? (i := 11) rfl)
theorem gw1003 : (Jvm.Cond.code ({ cls := "SchemaDesk$Proposals", name := "findNames", desc := "(II)V" } : Jvm.MethodName) prog_4_method_8_code (7 : Nat) (Option.none : Option Jvm.ClassFile.FieldType)) ∈ GW := gw_t5 (List.mem_of_getElem? (i := 43) rfl) rfl
def wb_Pr_lookFor_0 (F : Nat → Int32 → Int32 → Sg → Prop) (post : Sg → Prop) (x1 : Int32) (σ : Sg) : Prop := (wq_Pr_reachAll x1 σ (fun σ1 => (∀ σ2, σ2 = si σ1 45 4 (0 : Int32) → F 1 x1 (0 : Int32) σ2)))
def wb_Pr_lookFor_1 (F : Nat → Int32 → Int32 → Sg → Prop) (post : Sg → Prop) (x1 : Int32) (x2 : Int32) (σ : Sg) : Prop := (((σ.1 29 6) ≤ x2 → (wq_Pr_keepFound  σ (fun σ1 => post σ1))) ∧ (¬ (σ.1 29 6) ≤ x2 → (vp_in x2 160 ∧ (wq_Mk_has 49 (σ.1 33 x2.toNatClampNeg) x1 σ (fun r1 σ1 => ((r1 = 0 → F 1 x1 (x2 + 1) σ1) ∧ (¬ r1 = 0 → (vp_in (σ.1 33 x2.toNatClampNeg) 160 ∧ (((σ1.1 32 ((σ.1 33 x2.toNatClampNeg) : Int32).toNatClampNeg) = (-1 : Int32) → F 1 x1 (x2 + 1) σ1) ∧ (¬ (σ1.1 32 ((σ.1 33 x2.toNatClampNeg) : Int32).toNatClampNeg) = (-1 : Int32) → (vp_in (σ.1 33 x2.toNatClampNeg) 160 ∧ (wq_Pr_findNames (σ1.1 32 ((σ.1 33 x2.toNatClampNeg) : Int32).toNatClampNeg) x1 σ1 (fun σ2 => F 1 x1 (x2 + 1) σ2)))))))))))))
def wp_Pr_lookFor (post : Sg → Prop) : Nat → Nat → Int32 → Int32 → Sg → Prop
  | 0, _, _, _, _ => False
  | n + 1, k, x1, x2, σ => match k with
    | 0 => wb_Pr_lookFor_0 (wp_Pr_lookFor post n) post x1 σ
    | 1 => wb_Pr_lookFor_1 (wp_Pr_lookFor post n) post x1 x2 σ
    | _ => False
def wq_Pr_lookFor (x1 : Int32) (σ : Sg) (post : Sg → Prop) : Prop := ∃ n, wp_Pr_lookFor post n 0 x1 0 σ
def J_Pr_lookFor_1 (p : Program) (l : Launch) (e : Env) (s : State) (m : MethodId) (args : Array Value) (below : List Frame) (meth : Method) (c : Code) (D : va_G) (g : Gm) (A : Nat → Prop) (post : Sg → Prop) (F : Nat → Int32 → Int32 → Sg → Prop) : Prop := ∀ (x1 : Int32) (x2 : Int32) (σ : Sg) (H : Heap) (locs : List Loc) (ls : Array Slot), lv_has ls 4 [(0, .ref (g.1 45)), (1, .int x1), (2, .int x2)] → Wst D vwCl (WS g) A s σ H locs → F 1 x1 x2 σ → W p l e { frames := 6, cells := 0, slots := 0, locals := 151 } s m args below meth c H locs 0 0 (MQ below (QvW D vwCl (WS g) post A) args s 0 0 A) (F0 m 12 ls [])
set_option maxRecDepth 100000 in
set_option maxHeartbeats 4000000 in
theorem b_Pr_lookFor_0 {p : Program} {l : Launch} {e : Env} {s : State} {m : MethodId} {args : Array Value} {below : List Frame} {meth : Method} {c : Code} {D : va_G} {g : Gm} {A : Nat → Prop} {post : Sg → Prop} {F : Nat → Int32 → Int32 → Sg → Prop} (C : kC p s m args meth c k_Pr_lookFor 4 (none) GW R_Pr D vwCl g (Zk g) A) (j1 : J_Pr_lookFor_1 p l e s m args below meth c D g A post F) (x1 : Int32) (σ : Sg) (H : Heap) (locs : List Loc) (ls : Array Slot) (hl : lv_has ls 4 [(0, .ref (g.1 45)), (1, .int x1)]) (hst : Wst D vwCl (WS g) A s σ H locs) (h : wb_Pr_lookFor_0 F post x1 σ) : W p l e { frames := 6, cells := 0, slots := 0, locals := 151 } s m args below meth c H locs 0 0 (MQ below (QvW D vwCl (WS g) post A) args s 0 0 A) (F0 m 0 ls []) := by
  obtain ⟨hx, hb, hr, hml, hown, hts, hlocks, hK, hZ, hA⟩ := C
  unfold wb_Pr_lookFor_0 at h
  refine lv_aload_n hx hb d_Pr_lookFor_0 rfl (lv_at hl 0 rfl) ?_
  refine lv_iload_n hx hb d_Pr_lookFor_1 rfl (lv_at hl 1 rfl) ?_
  refine kw_callv (va_runV (As := [.int x1]) (rest := []) (b := g.1 45) ⟨hx, hb, hml, hown, hts⟩ (c_Pr_reachAll l x1 h) (cwV 1 hts (gd_v gw980 gw982 gs39 gw14 gw983) rfl rfl rfl (by decide +kernel) ⟨Nat.le_of_ble_eq_true rfl, Nat.le_of_ble_eq_true rfl⟩) ⟨kw_blind (Zk_ok g), va_recv hK hst.1 rfl (WS_o45 g σ), kw_pre (Zk_ok g) hK hZ hA hst⟩ rfl rfl hl.1 rfl (lv_room (Nat.le_of_ble_eq_true rfl)) d_Pr_lookFor_2 ⟨Nat.le_of_ble_eq_true rfl, Nat.le_of_ble_eq_true rfl⟩) hst hA (fun σ1 H locs h hst => ?_)
  refine lv_aload_n hx hb d_Pr_lookFor_5 rfl (lv_at hl 0 rfl) ?_
  refine lv_iconst (v := (0 : Int32)) hx hb d_Pr_lookFor_6 (by decide) ?_
  refine kw_put (D := D) (ci := 8) (ty := .int) (C := R_Pr) (T := T_Pr) (N := 10) hx hb hts in_Pr ty_Pr ty_Pr_ok nm_Pr hown hK hst 45 (WS_o45 g σ1) rfl 4 (by decide) (hts _ gw372) (fun _ h9 => h9) rfl (by decide +kernel) rfl rfl (Nat.le_of_ble_eq_true rfl) (WS_p45_4 g σ1 _) d_Pr_lookFor_7 (fun σ2 H locs e2 hst => ?_)
  replace h := h σ2 e2
  refine lv_iconst (v := (0 : Int32)) hx hb d_Pr_lookFor_10 (by decide) ?_
  refine lv_istore_n hx hb d_Pr_lookFor_11 rfl hl (by decide) rfl (fun ls hl => ?_)
  have hl : lv_has ls 4 [(2, .int (0 : Int32)), (0, .ref (g.1 45)), (1, .int x1)] := hl
  exact j1 x1 (0 : Int32) σ2 _ _ _ (lv_sub hl [1, 2, 0] rfl) hst h
set_option maxRecDepth 100000 in
set_option maxHeartbeats 4000000 in
theorem b_Pr_lookFor_1 {p : Program} {l : Launch} {e : Env} {s : State} {m : MethodId} {args : Array Value} {below : List Frame} {meth : Method} {c : Code} {D : va_G} {g : Gm} {A : Nat → Prop} {post : Sg → Prop} {F : Nat → Int32 → Int32 → Sg → Prop} (C : kC p s m args meth c k_Pr_lookFor 4 (none) GW R_Pr D vwCl g (Zk g) A) (j1 : J_Pr_lookFor_1 p l e s m args below meth c D g A post F) (x1 : Int32) (x2 : Int32) (σ : Sg) (H : Heap) (locs : List Loc) (ls : Array Slot) (hl : lv_has ls 4 [(0, .ref (g.1 45)), (1, .int x1), (2, .int x2)]) (hst : Wst D vwCl (WS g) A s σ H locs) (h : wb_Pr_lookFor_1 F post x1 x2 σ) : W p l e { frames := 6, cells := 0, slots := 0, locals := 151 } s m args below meth c H locs 0 0 (MQ below (QvW D vwCl (WS g) post A) args s 0 0 A) (F0 m 12 ls []) := by
  obtain ⟨hx, hb, hr, hml, hown, hts, hlocks, hK, hZ, hA⟩ := C
  unfold wb_Pr_lookFor_1 at h
  refine lv_iload_n hx hb d_Pr_lookFor_12 rfl (lv_at hl 2 rfl) ?_
  refine lv_aload_n hx hb d_Pr_lookFor_13 rfl (lv_at hl 0 rfl) ?_
  refine va_get (D := D) (ci := 8) (C := R_Pr) (T := T_Pr) (N := 10) hx hb hts in_Pr hown hK hst.1 45 (WS_o45 g σ) rfl 6 (by decide) (hts _ gw374) (fun _ h9 => h9) rfl d_Pr_lookFor_14 ?_
  refine va_get (D := D) (ci := 5) (C := R_Pl) (T := T_Pl) (N := 10) hx hb hts in_Pl hown hK hst.1 29 (WS_o29 g σ) rfl 6 (by decide) (hts _ gw252) (fun _ h9 => h9) rfl d_Pr_lookFor_17 ?_
  refine lv_icmp_ge (tgt := 78) hx hb d_Pr_lookFor_20 (by decide) (fun hc => ?_) (fun hc => ?_)
  · replace h := h.1 hc
    refine lv_aload_n hx hb d_Pr_lookFor_78 rfl (lv_at hl 0 rfl) ?_
    refine kw_callv (va_runV (As := []) (rest := []) (b := g.1 45) ⟨hx, hb, hml, hown, hts⟩ (c_Pr_keepFound l h) (cwV 0 hts (gd_v gw1014 gw1016 gs45 gw14 gw1017) rfl rfl rfl (by decide +kernel) ⟨Nat.le_of_ble_eq_true rfl, Nat.le_of_ble_eq_true rfl⟩) ⟨kw_blind (Zk_ok g), va_recv hK hst.1 rfl (WS_o45 g σ), kw_pre (Zk_ok g) hK hZ hA hst⟩ rfl rfl hl.1 rfl (lv_room (Nat.le_of_ble_eq_true rfl)) d_Pr_lookFor_79 ⟨Nat.le_of_ble_eq_true rfl, Nat.le_of_ble_eq_true rfl⟩) hst hA (fun σ1 H locs h hst => ?_)
    exact kw_vret hx hb hr hlocks hst h d_Pr_lookFor_82
  · replace h := h.2 hc
    refine lv_aload_n hx hb d_Pr_lookFor_23 rfl (lv_at hl 0 rfl) ?_
    refine va_get (D := D) (ci := 8) (C := R_Pr) (T := T_Pr) (N := 10) hx hb hts in_Pr hown hK hst.1 45 (WS_o45 g σ) rfl 6 (by decide) (hts _ gw374) (fun _ h9 => h9) rfl d_Pr_lookFor_24 ?_
    refine va_get (D := D) (ci := 5) (C := R_Pl) (T := T_Pl) (N := 10) hx hb hts in_Pl hown hK hst.1 29 (WS_o29 g σ) rfl 5 (by decide) (hts _ gw249) (fun _ h9 => h9) rfl d_Pr_lookFor_27 ?_
    refine lv_iload_n hx hb d_Pr_lookFor_30 rfl (lv_at hl 2 rfl) ?_
    obtain ⟨hi, h⟩ := h
    refine va_iald hx hb hK hst.1 33 0 (WS_a33 g σ) rfl hi d_Pr_lookFor_31 ?_
    refine lv_istore_n hx hb d_Pr_lookFor_32 rfl hl (by decide) rfl (fun ls hl => ?_)
    have hl : lv_has ls 4 [(3, .int (σ.1 33 x2.toNatClampNeg)), (0, .ref (g.1 45)), (1, .int x1), (2, .int x2)] := hl
    refine lv_aload_n hx hb d_Pr_lookFor_33 rfl (lv_at hl 1 rfl) ?_
    refine va_get (D := D) (ci := 8) (C := R_Pr) (T := T_Pr) (N := 10) hx hb hts in_Pr hown hK hst.1 45 (WS_o45 g σ) rfl 9 (by decide) (hts _ gw377) (fun _ h9 => h9) rfl d_Pr_lookFor_34 ?_
    refine lv_iload_n hx hb d_Pr_lookFor_37 rfl (lv_at hl 0 rfl) ?_
    refine lv_iload_n hx hb d_Pr_lookFor_38 rfl (lv_at hl 2 rfl) ?_
    refine kw_calli (va_runV (As := [.int (σ.1 33 x2.toNatClampNeg), .int x1]) (rest := []) (b := g.1 49) ⟨hx, hb, hml, hown, hts⟩ (c_Mk_has_49 l (σ.1 33 x2.toNatClampNeg) x1 h) (cwV 2 hts (gd_v gw986 gw824 gw825 gw12 gw826) rfl rfl rfl (by decide +kernel) ⟨Nat.le_of_ble_eq_true rfl, Nat.le_of_ble_eq_true rfl⟩) ⟨kw_blind (Zk_ok g), va_recv hK hst.1 rfl (WS_o49 g σ), kw_pre (Zk_ok g) hK hZ hA hst⟩ rfl rfl hl.1 rfl (lv_room (Nat.le_of_ble_eq_true rfl)) d_Pr_lookFor_39 ⟨Nat.le_of_ble_eq_true rfl, Nat.le_of_ble_eq_true rfl⟩) hst hA (fun r1 σ1 H locs h hst => ?_)
    refine lv_if_eq (tgt := 72) hx hb d_Pr_lookFor_42 (by decide) (fun hc => ?_) (fun hc => ?_)
    · replace h := h.1 hc
      refine lv_iinc (k := 3) (v := (x2 + 1)) hx hb d_Pr_lookFor_72 hl rfl (kw_inc _ (by decide)) (by decide) rfl (fun ls hl => ?_)
      have hl : lv_has ls 4 [(2, .int (x2 + 1)), (3, .int (σ.1 33 x2.toNatClampNeg)), (0, .ref (g.1 45)), (1, .int x1)] := hl
      refine lv_goto (tgt := 12) hx hb d_Pr_lookFor_75 (by decide) ?_
      exact j1 x1 (x2 + 1) σ1 _ _ _ (lv_sub hl [2, 3, 0] rfl) hst h
    · replace h := h.2 hc
      refine lv_aload_n hx hb d_Pr_lookFor_45 rfl (lv_at hl 1 rfl) ?_
      refine va_get (D := D) (ci := 8) (C := R_Pr) (T := T_Pr) (N := 10) hx hb hts in_Pr hown hK hst.1 45 (WS_o45 g σ1) rfl 6 (by decide) (hts _ gw374) (fun _ h9 => h9) rfl d_Pr_lookFor_46 ?_
      refine va_get (D := D) (ci := 5) (C := R_Pl) (T := T_Pl) (N := 10) hx hb hts in_Pl hown hK hst.1 29 (WS_o29 g σ1) rfl 4 (by decide) (hts _ gw245) (fun _ h9 => h9) rfl d_Pr_lookFor_49 ?_
      refine lv_iload_n hx hb d_Pr_lookFor_52 rfl (lv_at hl 0 rfl) ?_
      obtain ⟨hi, h⟩ := h
      refine va_iald hx hb hK hst.1 32 0 (WS_a32 g σ1) rfl hi d_Pr_lookFor_53 ?_
      refine lv_iconst (v := (-1 : Int32)) hx hb d_Pr_lookFor_54 (by decide) ?_
      refine lv_icmp_eq (tgt := 72) hx hb d_Pr_lookFor_55 (by decide) (fun hc => ?_) (fun hc => ?_)
      · replace h := h.1 hc
        refine lv_iinc (k := 3) (v := (x2 + 1)) hx hb d_Pr_lookFor_72 hl rfl (kw_inc _ (by decide)) (by decide) rfl (fun ls hl => ?_)
        have hl : lv_has ls 4 [(2, .int (x2 + 1)), (3, .int (σ.1 33 x2.toNatClampNeg)), (0, .ref (g.1 45)), (1, .int x1)] := hl
        refine lv_goto (tgt := 12) hx hb d_Pr_lookFor_75 (by decide) ?_
        exact j1 x1 (x2 + 1) σ1 _ _ _ (lv_sub hl [2, 3, 0] rfl) hst h
      · replace h := h.2 hc
        refine lv_aload_n hx hb d_Pr_lookFor_58 rfl (lv_at hl 1 rfl) ?_
        refine lv_aload_n hx hb d_Pr_lookFor_59 rfl (lv_at hl 1 rfl) ?_
        refine va_get (D := D) (ci := 8) (C := R_Pr) (T := T_Pr) (N := 10) hx hb hts in_Pr hown hK hst.1 45 (WS_o45 g σ1) rfl 6 (by decide) (hts _ gw374) (fun _ h9 => h9) rfl d_Pr_lookFor_60 ?_
        refine va_get (D := D) (ci := 5) (C := R_Pl) (T := T_Pl) (N := 10) hx hb hts in_Pl hown hK hst.1 29 (WS_o29 g σ1) rfl 4 (by decide) (hts _ gw245) (fun _ h9 => h9) rfl d_Pr_lookFor_63 ?_
        refine lv_iload_n hx hb d_Pr_lookFor_66 rfl (lv_at hl 0 rfl) ?_
        obtain ⟨hi, h⟩ := h
        refine va_iald hx hb hK hst.1 32 0 (WS_a32 g σ1) rfl hi d_Pr_lookFor_67 ?_
        refine lv_iload_n hx hb d_Pr_lookFor_68 rfl (lv_at hl 2 rfl) ?_
        refine kw_callv (va_runV (As := [.int (σ1.1 32 ((σ.1 33 x2.toNatClampNeg) : Int32).toNatClampNeg), .int x1]) (rest := []) (b := g.1 45) ⟨hx, hb, hml, hown, hts⟩ (c_Pr_findNames l (σ1.1 32 ((σ.1 33 x2.toNatClampNeg) : Int32).toNatClampNeg) x1 h) (cwV 2 hts (gd_v gw1000 gw1002 gs43 gw14 gw1003) rfl rfl rfl (by decide +kernel) ⟨Nat.le_of_ble_eq_true rfl, Nat.le_of_ble_eq_true rfl⟩) ⟨kw_blind (Zk_ok g), va_recv hK hst.1 rfl (WS_o45 g σ1), kw_pre (Zk_ok g) hK hZ hA hst⟩ rfl rfl hl.1 rfl (lv_room (Nat.le_of_ble_eq_true rfl)) d_Pr_lookFor_69 ⟨Nat.le_of_ble_eq_true rfl, Nat.le_of_ble_eq_true rfl⟩) hst hA (fun σ2 H locs h hst => ?_)
        refine lv_iinc (k := 3) (v := (x2 + 1)) hx hb d_Pr_lookFor_72 hl rfl (kw_inc _ (by decide)) (by decide) rfl (fun ls hl => ?_)
        have hl : lv_has ls 4 [(2, .int (x2 + 1)), (3, .int (σ.1 33 x2.toNatClampNeg)), (0, .ref (g.1 45)), (1, .int x1)] := hl
        refine lv_goto (tgt := 12) hx hb d_Pr_lookFor_75 (by decide) ?_
        exact j1 x1 (x2 + 1) σ2 _ _ _ (lv_sub hl [2, 3, 0] rfl) hst h
set_option maxRecDepth 100000 in
set_option maxHeartbeats 4000000 in
theorem a_Pr_lookFor {p : Program} {l : Launch} {e : Env} {s : State} {m : MethodId} {args : Array Value} {below : List Frame} {meth : Method} {c : Code} {D : va_G} {g : Gm} {A : Nat → Prop} {post : Sg → Prop} (C : kC p s m args meth c k_Pr_lookFor 4 (none) GW R_Pr D vwCl g (Zk g) A) : ∀ n : Nat, J_Pr_lookFor_1 p l e s m args below meth c D g A post (wp_Pr_lookFor post n) := by
  intro n
  induction n with
  | zero => exact fun _ _ _ _ _ _ _ _ h => h.elim
  | succ n ih => exact fun x1 x2 σ H locs ls hl hst h => b_Pr_lookFor_1 (F := wp_Pr_lookFor post n) C (ih) x1 x2 σ H locs ls hl hst h
set_option maxRecDepth 100000 in
set_option maxHeartbeats 4000000 in
theorem c_Pr_lookFor (l : Launch) {D : va_G} {g : Gm} {sz : Nat} (x1 : Int32) {σ : Sg} {post : Sg → Prop} (h : wq_Pr_lookFor x1 σ post) : Met l y_Pr_lookFor (.code y_Pr_lookFor k_Pr_lookFor 4 (none) :: GW) { frames := 6, cells := 0, slots := 0, locals := 151 } (PcW D vwCl (WS g) g (Zk g) σ sz [.ref (g.1 45), .int x1]) (QvW D vwCl (WS g) post (va_A (WS g σ) sz)) 0 0 (va_A (WS g σ) sz) := by
  refine kw_entry (own := R_Pr) (by decide) rfl rfl (Nat.le_of_ble_eq_true rfl) ?_
  intro p e s m below meth c ls hsz C hin hl hst
  obtain ⟨n, h⟩ := h
  cases n with
  | zero => exact h.elim
  | succ n =>
    have ih := a_Pr_lookFor (l := l) (e := e) (below := below) (post := post) C n
    exact b_Pr_lookFor_0 (F := wp_Pr_lookFor post n) C (ih) x1 σ _ _ ls hl hst h
