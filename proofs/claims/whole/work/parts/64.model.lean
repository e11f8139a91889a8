/-! SchemaDeskModel.tell (III)V -/
abbrev k_Md_tell : ByteArray := prog_12_method_62_code
abbrev y_Md_tell : MethodName := ⟨"SchemaDeskModel", "tell", "(III)V"⟩
theorem d_Md_tell_0 : decode k_Md_tell 0 = .ok (.iload_n 1, 1) := by decide +kernel
theorem d_Md_tell_1 : decode k_Md_tell 1 = .ok (.bipush 32, 2) := by decide +kernel
theorem d_Md_tell_3 : decode k_Md_tell 3 = .ok (.iload_n 3, 1) := by decide +kernel
theorem d_Md_tell_4 : decode k_Md_tell 4 = .ok (.sipush 256, 3) := by decide +kernel
theorem d_Md_tell_7 : decode k_Md_tell 7 = .ok (.iload_n 2, 1) := by decide +kernel
theorem d_Md_tell_8 : decode k_Md_tell 8 = .ok (.sipush 160, 3) := by decide +kernel
theorem d_Md_tell_11 : decode k_Md_tell 11 = .ok (.isub, 1) := by decide +kernel
theorem d_Md_tell_12 : decode k_Md_tell 12 = .ok (.imul, 1) := by decide +kernel
theorem d_Md_tell_13 : decode k_Md_tell 13 = .ok (.iadd, 1) := by decide +kernel
theorem d_Md_tell_14 : decode k_Md_tell 14 = .ok (.imul, 1) := by decide +kernel
theorem d_Md_tell_15 : decode k_Md_tell 15 = .ok (.iadd, 1) := by decide +kernel
theorem d_Md_tell_16 : decode k_Md_tell 16 = .ok (.istore 4, 2) := by decide +kernel
theorem d_Md_tell_18 : decode k_Md_tell 18 = .ok (.aload_n 0, 1) := by decide +kernel
theorem d_Md_tell_19 : decode k_Md_tell 19 = .ok (.getfield 360, 3) := by decide +kernel
theorem d_Md_tell_22 : decode k_Md_tell 22 = .ok (.istore 5, 2) := by decide +kernel
theorem d_Md_tell_24 : decode k_Md_tell 24 = .ok (.iload 5, 2) := by decide +kernel
theorem d_Md_tell_26 : decode k_Md_tell 26 = .ok (.ifCond .le 41, 3) := by decide +kernel
theorem d_Md_tell_29 : decode k_Md_tell 29 = .ok (.aload_n 0, 1) := by decide +kernel
theorem d_Md_tell_30 : decode k_Md_tell 30 = .ok (.getfield 165, 3) := by decide +kernel
theorem d_Md_tell_33 : decode k_Md_tell 33 = .ok (.iload 5, 2) := by decide +kernel
theorem d_Md_tell_35 : decode k_Md_tell 35 = .ok (.iconst 1, 1) := by decide +kernel
theorem d_Md_tell_36 : decode k_Md_tell 36 = .ok (.isub, 1) := by decide +kernel
theorem d_Md_tell_37 : decode k_Md_tell 37 = .ok (.iaload, 1) := by decide +kernel
theorem d_Md_tell_38 : decode k_Md_tell 38 = .ok (.iload 4, 2) := by decide +kernel
theorem d_Md_tell_40 : decode k_Md_tell 40 = .ok (.if_icmp .le 27, 3) := by decide +kernel
theorem d_Md_tell_43 : decode k_Md_tell 43 = .ok (.aload_n 0, 1) := by decide +kernel
theorem d_Md_tell_44 : decode k_Md_tell 44 = .ok (.getfield 165, 3) := by decide +kernel
theorem d_Md_tell_47 : decode k_Md_tell 47 = .ok (.iload 5, 2) := by decide +kernel
theorem d_Md_tell_49 : decode k_Md_tell 49 = .ok (.iconst 1, 1) := by decide +kernel
theorem d_Md_tell_50 : decode k_Md_tell 50 = .ok (.isub, 1) := by decide +kernel
theorem d_Md_tell_51 : decode k_Md_tell 51 = .ok (.iaload, 1) := by decide +kernel
theorem d_Md_tell_52 : decode k_Md_tell 52 = .ok (.iconst 5, 1) := by decide +kernel
theorem d_Md_tell_53 : decode k_Md_tell 53 = .ok (.ishr, 1) := by decide +kernel
theorem d_Md_tell_54 : decode k_Md_tell 54 = .ok (.iload 4, 2) := by decide +kernel
theorem d_Md_tell_56 : decode k_Md_tell 56 = .ok (.iconst 5, 1) := by decide +kernel
theorem d_Md_tell_57 : decode k_Md_tell 57 = .ok (.ishr, 1) := by decide +kernel
theorem d_Md_tell_58 : decode k_Md_tell 58 = .ok (.if_icmp .le 9, 3) := by decide +kernel
theorem d_Md_tell_61 : decode k_Md_tell 61 = .ok (.iinc 5 (-1), 3) := by decide +kernel
theorem d_Md_tell_64 : decode k_Md_tell 64 = .ok (.goto (-40), 3) := by decide +kernel
theorem d_Md_tell_67 : decode k_Md_tell 67 = .ok (.aload_n 0, 1) := by decide +kernel
theorem d_Md_tell_68 : decode k_Md_tell 68 = .ok (.getfield 360, 3) := by decide +kernel
theorem d_Md_tell_71 : decode k_Md_tell 71 = .ok (.istore 6, 2) := by decide +kernel
theorem d_Md_tell_73 : decode k_Md_tell 73 = .ok (.iload 6, 2) := by decide +kernel
theorem d_Md_tell_75 : decode k_Md_tell 75 = .ok (.iload 5, 2) := by decide +kernel
theorem d_Md_tell_77 : decode k_Md_tell 77 = .ok (.if_icmp .le 25, 3) := by decide +kernel
theorem d_Md_tell_80 : decode k_Md_tell 80 = .ok (.aload_n 0, 1) := by decide +kernel
theorem d_Md_tell_81 : decode k_Md_tell 81 = .ok (.getfield 165, 3) := by decide +kernel
theorem d_Md_tell_84 : decode k_Md_tell 84 = .ok (.iload 6, 2) := by decide +kernel
theorem d_Md_tell_86 : decode k_Md_tell 86 = .ok (.aload_n 0, 1) := by decide +kernel
theorem d_Md_tell_87 : decode k_Md_tell 87 = .ok (.getfield 165, 3) := by decide +kernel
theorem d_Md_tell_90 : decode k_Md_tell 90 = .ok (.iload 6, 2) := by decide +kernel
theorem d_Md_tell_92 : decode k_Md_tell 92 = .ok (.iconst 1, 1) := by decide +kernel
theorem d_Md_tell_93 : decode k_Md_tell 93 = .ok (.isub, 1) := by decide +kernel
theorem d_Md_tell_94 : decode k_Md_tell 94 = .ok (.iaload, 1) := by decide +kernel
theorem d_Md_tell_95 : decode k_Md_tell 95 = .ok (.iastore, 1) := by decide +kernel
theorem d_Md_tell_96 : decode k_Md_tell 96 = .ok (.iinc 6 (-1), 3) := by decide +kernel
theorem d_Md_tell_99 : decode k_Md_tell 99 = .ok (.goto (-26), 3) := by decide +kernel
theorem d_Md_tell_102 : decode k_Md_tell 102 = .ok (.aload_n 0, 1) := by decide +kernel
theorem d_Md_tell_103 : decode k_Md_tell 103 = .ok (.getfield 165, 3) := by decide +kernel
theorem d_Md_tell_106 : decode k_Md_tell 106 = .ok (.iload 5, 2) := by decide +kernel
theorem d_Md_tell_108 : decode k_Md_tell 108 = .ok (.iload 4, 2) := by decide +kernel
theorem d_Md_tell_110 : decode k_Md_tell 110 = .ok (.iastore, 1) := by decide +kernel
theorem d_Md_tell_111 : decode k_Md_tell 111 = .ok (.aload_n 0, 1) := by decide +kernel
theorem d_Md_tell_112 : decode k_Md_tell 112 = .ok (.dup, 1) := by decide +kernel
theorem d_Md_tell_113 : decode k_Md_tell 113 = .ok (.getfield 360, 3) := by decide +kernel
theorem d_Md_tell_116 : decode k_Md_tell 116 = .ok (.iconst 1, 1) := by decide +kernel
theorem d_Md_tell_117 : decode k_Md_tell 117 = .ok (.iadd, 1) := by decide +kernel
theorem d_Md_tell_118 : decode k_Md_tell 118 = .ok (.putfield 360, 3) := by decide +kernel
theorem d_Md_tell_121 : decode k_Md_tell 121 = .ok (.return_, 1) := by decide +kernel
theorem gw1104 : (Jvm.Cond.fieldLink "SchemaDeskModel" (360 : Nat) "SchemaDeskModel" "diagnostics" "I") ∈ GW := gw_t5 (List.mem_of_getElem? (i := 144) rfl) rfl
theorem gw1105 : (Jvm.Cond.fieldLink "SchemaDeskModel" (165 : Nat) "SchemaDeskModel" "told" "[I") ∈ GW := gw_t5 (List.mem_of_getElem? (i := 145) rfl) rfl
def wb_Md_tell_0 (F : Nat → Int32 → Int32 → Int32 → Int32 → Int32 → Int32 → Sg → Prop) (post : Sg → Prop) (x1 : Int32) (x2 : Int32) (x3 : Int32) (σ : Sg) : Prop := F 1 0 0 0 (x1 + ((32 : Int32) * (x3 + ((256 : Int32) * (x2 - (160 : Int32)))))) (σ.1 54 40) 0 σ
def wb_Md_tell_1 (F : Nat → Int32 → Int32 → Int32 → Int32 → Int32 → Int32 → Sg → Prop) (post : Sg → Prop) (x4 : Int32) (x5 : Int32) (σ : Sg) : Prop := ((x5 ≤ 0 → F 2 0 0 0 x4 x5 (σ.1 54 40) σ) ∧ (¬ x5 ≤ 0 → (vp_in (x5 - (1 : Int32)) 1300 ∧ (((σ.1 88 ((x5 - (1 : Int32)) : Int32).toNatClampNeg) ≤ x4 → F 2 0 0 0 x4 x5 (σ.1 54 40) σ) ∧ (¬ (σ.1 88 ((x5 - (1 : Int32)) : Int32).toNatClampNeg) ≤ x4 → (vp_in (x5 - (1 : Int32)) 1300 ∧ ((((σ.1 88 ((x5 - (1 : Int32)) : Int32).toNatClampNeg) >>> ((5 : Int32) &&& 31)) ≤ (x4 >>> ((5 : Int32) &&& 31)) → F 2 0 0 0 x4 x5 (σ.1 54 40) σ) ∧ (¬ ((σ.1 88 ((x5 - (1 : Int32)) : Int32).toNatClampNeg) >>> ((5 : Int32) &&& 31)) ≤ (x4 >>> ((5 : Int32) &&& 31)) → F 1 0 0 0 x4 (x5 + (-1)) 0 σ))))))))
def wb_Md_tell_2 (F : Nat → Int32 → Int32 → Int32 → Int32 → Int32 → Int32 → Sg → Prop) (post : Sg → Prop) (x4 : Int32) (x5 : Int32) (x6 : Int32) (σ : Sg) : Prop := ((x6 ≤ x5 → (vp_in x5 1300 ∧ (∀ σ1, σ1 = si σ 88 x5.toNatClampNeg x4 → (∀ σ2, σ2 = si σ1 54 40 ((σ1.1 54 40) + (1 : Int32)) → post σ2)))) ∧ (¬ x6 ≤ x5 → (vp_in (x6 - (1 : Int32)) 1300 ∧ (vp_in x6 1300 ∧ (∀ σ1, σ1 = si σ 88 x6.toNatClampNeg (σ.1 88 ((x6 - (1 : Int32)) : Int32).toNatClampNeg) → F 2 0 0 0 x4 x5 (x6 + (-1)) σ1)))))
def wp_Md_tell (post : Sg → Prop) : Nat → Nat → Int32 → Int32 → Int32 → Int32 → Int32 → Int32 → Sg → Prop
  | 0, _, _, _, _, _, _, _, _ => False
  | n + 1, k, x1, x2, x3, x4, x5, x6, σ => match k with
    | 0 => wb_Md_tell_0 (wp_Md_tell post n) post x1 x2 x3 σ
    | 1 => wb_Md_tell_1 (wp_Md_tell post n) post x4 x5 σ
    | 2 => wb_Md_tell_2 (wp_Md_tell post n) post x4 x5 x6 σ
    | _ => False
def wq_Md_tell (x1 : Int32) (x2 : Int32) (x3 : Int32) (σ : Sg) (post : Sg → Prop) : Prop := ∃ n, wp_Md_tell post n 0 x1 x2 x3 0 0 0 σ
def J_Md_tell_1 (p : Program) (l : Launch) (e : Env) (s : State) (m : MethodId) (args : Array Value) (below : List Frame) (meth : Method) (c : Code) (D : va_G) (g : Gm) (A : Nat → Prop) (post : Sg → Prop) (F : Nat → Int32 → Int32 → Int32 → Int32 → Int32 → Int32 → Sg → Prop) : Prop := ∀ (x4 : Int32) (x5 : Int32) (σ : Sg) (H : Heap) (locs : List Loc) (ls : Array Slot), lv_has ls 7 [(0, .ref (g.1 54)), (4, .int x4), (5, .int x5)] → Wst D vwCl (WS g) A s σ H locs → F 1 0 0 0 x4 x5 0 σ → W p l e { frames := 0, cells := 0, slots := 0, locals := 0 } s m args below meth c H locs 0 0 (MQ below (QvW D vwCl (WS g) post A) args s 0 0 A) (F0 m 24 ls [])
def J_Md_tell_2 (p : Program) (l : Launch) (e : Env) (s : State) (m : MethodId) (args : Array Value) (below : List Frame) (meth : Method) (c : Code) (D : va_G) (g : Gm) (A : Nat → Prop) (post : Sg → Prop) (F : Nat → Int32 → Int32 → Int32 → Int32 → Int32 → Int32 → Sg → Prop) : Prop := ∀ (x4 : Int32) (x5 : Int32) (x6 : Int32) (σ : Sg) (H : Heap) (locs : List Loc) (ls : Array Slot), lv_has ls 7 [(0, .ref (g.1 54)), (4, .int x4), (5, .int x5), (6, .int x6)] → Wst D vwCl (WS g) A s σ H locs → F 2 0 0 0 x4 x5 x6 σ → W p l e { frames := 0, cells := 0, slots := 0, locals := 0 } s m args below meth c H locs 0 0 (MQ below (QvW D vwCl (WS g) post A) args s 0 0 A) (F0 m 73 ls [])
set_option maxRecDepth 100000 in
set_option maxHeartbeats 4000000 in
theorem b_Md_tell_0 {p : Program} {l : Launch} {e : Env} {s : State} {m : MethodId} {args : Array Value} {below : List Frame} {meth : Method} {c : Code} {D : va_G} {g : Gm} {A : Nat → Prop} {post : Sg → Prop} {F : Nat → Int32 → Int32 → Int32 → Int32 → Int32 → Int32 → Sg → Prop} (C : kC p s m args meth c k_Md_tell 7 (none) GW R_Md D vwCl g (Zk g) A) (j1 : J_Md_tell_1 p l e s m args below meth c D g A post F) (x1 : Int32) (x2 : Int32) (x3 : Int32) (σ : Sg) (H : Heap) (locs : List Loc) (ls : Array Slot) (hl : lv_has ls 7 [(0, .ref (g.1 54)), (1, .int x1), (2, .int x2), (3, .int x3)]) (hst : Wst D vwCl (WS g) A s σ H locs) (h : wb_Md_tell_0 F post x1 x2 x3 σ) : W p l e { frames := 0, cells := 0, slots := 0, locals := 0 } s m args below meth c H locs 0 0 (MQ below (QvW D vwCl (WS g) post A) args s 0 0 A) (F0 m 0 ls []) := by
  obtain ⟨hx, hb, hr, hml, hown, hts, hlocks, hK, hZ, hA⟩ := C
  unfold wb_Md_tell_0 at h
  refine lv_iload_n hx hb d_Md_tell_0 rfl (lv_at hl 1 rfl) ?_
  refine lv_bipush (v := (32 : Int32)) hx hb d_Md_tell_1 (by decide) ?_
  refine lv_iload_n hx hb d_Md_tell_3 rfl (lv_at hl 3 rfl) ?_
  refine lv_sipush (v := (256 : Int32)) hx hb d_Md_tell_4 (by decide) ?_
  refine lv_iload_n hx hb d_Md_tell_7 rfl (lv_at hl 2 rfl) ?_
  refine lv_sipush (v := (160 : Int32)) hx hb d_Md_tell_8 (by decide) ?_
  refine lv_isub hx hb d_Md_tell_11 ?_
  refine lv_imul hx hb d_Md_tell_12 ?_
  refine lv_iadd hx hb d_Md_tell_13 ?_
  refine lv_imul hx hb d_Md_tell_14 ?_
  refine lv_iadd hx hb d_Md_tell_15 ?_
  refine lv_istore hx hb d_Md_tell_16 hl (by decide) rfl (fun ls hl => ?_)
  have hl : lv_has ls 7 [(4, .int (x1 + ((32 : Int32) * (x3 + ((256 : Int32) * (x2 - (160 : Int32))))))), (0, .ref (g.1 54)), (1, .int x1), (2, .int x2), (3, .int x3)] := hl
  refine lv_aload_n hx hb d_Md_tell_18 rfl (lv_at hl 1 rfl) ?_
  refine va_get (D := D) (ci := 10) (C := R_Md) (T := T_Md) (N := 46) hx hb hts in_Md hown hK hst.1 54 (WS_o54 g σ) rfl 40 (by decide) (hts _ gw1104) (fun _ h9 => h9) rfl d_Md_tell_19 ?_
  refine lv_istore hx hb d_Md_tell_22 hl (by decide) rfl (fun ls hl => ?_)
  have hl : lv_has ls 7 [(5, .int (σ.1 54 40)), (4, .int (x1 + ((32 : Int32) * (x3 + ((256 : Int32) * (x2 - (160 : Int32))))))), (0, .ref (g.1 54)), (1, .int x1), (2, .int x2), (3, .int x3)] := hl
  exact j1 (x1 + ((32 : Int32) * (x3 + ((256 : Int32) * (x2 - (160 : Int32)))))) (σ.1 54 40) σ _ _ _ (lv_sub hl [2, 1, 0] rfl) hst h
set_option maxRecDepth 100000 in
set_option maxHeartbeats 4000000 in
theorem b_Md_tell_1 {p : Program} {l : Launch} {e : Env} {s : State} {m : MethodId} {args : Array Value} {below : List Frame} {meth : Method} {c : Code} {D : va_G} {g : Gm} {A : Nat → Prop} {post : Sg → Prop} {F : Nat → Int32 → Int32 → Int32 → Int32 → Int32 → Int32 → Sg → Prop} (C : kC p s m args meth c k_Md_tell 7 (none) GW R_Md D vwCl g (Zk g) A) (j1 : J_Md_tell_1 p l e s m args below meth c D g A post F) (j2 : J_Md_tell_2 p l e s m args below meth c D g A post F) (x4 : Int32) (x5 : Int32) (σ : Sg) (H : Heap) (locs : List Loc) (ls : Array Slot) (hl : lv_has ls 7 [(0, .ref (g.1 54)), (4, .int x4), (5, .int x5)]) (hst : Wst D vwCl (WS g) A s σ H locs) (h : wb_Md_tell_1 F post x4 x5 σ) : W p l e { frames := 0, cells := 0, slots := 0, locals := 0 } s m args below meth c H locs 0 0 (MQ below (QvW D vwCl (WS g) post A) args s 0 0 A) (F0 m 24 ls []) := by
  obtain ⟨hx, hb, hr, hml, hown, hts, hlocks, hK, hZ, hA⟩ := C
  unfold wb_Md_tell_1 at h
  refine lv_iload hx hb d_Md_tell_24 (lv_at hl 2 rfl) ?_
  refine lv_if_le (tgt := 67) hx hb d_Md_tell_26 (by decide) (fun hc => ?_) (fun hc => ?_)
  · replace h := h.1 hc
    refine lv_aload_n hx hb d_Md_tell_67 rfl (lv_at hl 0 rfl) ?_
    refine va_get (D := D) (ci := 10) (C := R_Md) (T := T_Md) (N := 46) hx hb hts in_Md hown hK hst.1 54 (WS_o54 g σ) rfl 40 (by decide) (hts _ gw1104) (fun _ h9 => h9) rfl d_Md_tell_68 ?_
    refine lv_istore hx hb d_Md_tell_71 hl (by decide) rfl (fun ls hl => ?_)
    have hl : lv_has ls 7 [(6, .int (σ.1 54 40)), (0, .ref (g.1 54)), (4, .int x4), (5, .int x5)] := hl
    exact j2 x4 x5 (σ.1 54 40) σ _ _ _ (lv_sub hl [1, 2, 3, 0] rfl) hst h
  · replace h := h.2 hc
    refine lv_aload_n hx hb d_Md_tell_29 rfl (lv_at hl 0 rfl) ?_
    refine va_get (D := D) (ci := 10) (C := R_Md) (T := T_Md) (N := 46) hx hb hts in_Md hown hK hst.1 54 (WS_o54 g σ) rfl 41 (by decide) (hts _ gw1105) (fun _ h9 => h9) rfl d_Md_tell_30 ?_
    refine lv_iload hx hb d_Md_tell_33 (lv_at hl 2 rfl) ?_
    refine lv_iconst (v := (1 : Int32)) hx hb d_Md_tell_35 (by decide) ?_
    refine lv_isub hx hb d_Md_tell_36 ?_
    obtain ⟨hi, h⟩ := h
    refine va_iald hx hb hK hst.1 88 0 (WS_a88 g σ) rfl hi d_Md_tell_37 ?_
    refine lv_iload hx hb d_Md_tell_38 (lv_at hl 1 rfl) ?_
    refine lv_icmp_le (tgt := 67) hx hb d_Md_tell_40 (by decide) (fun hc => ?_) (fun hc => ?_)
    · replace h := h.1 hc
      refine lv_aload_n hx hb d_Md_tell_67 rfl (lv_at hl 0 rfl) ?_
      refine va_get (D := D) (ci := 10) (C := R_Md) (T := T_Md) (N := 46) hx hb hts in_Md hown hK hst.1 54 (WS_o54 g σ) rfl 40 (by decide) (hts _ gw1104) (fun _ h9 => h9) rfl d_Md_tell_68 ?_
      refine lv_istore hx hb d_Md_tell_71 hl (by decide) rfl (fun ls hl => ?_)
      have hl : lv_has ls 7 [(6, .int (σ.1 54 40)), (0, .ref (g.1 54)), (4, .int x4), (5, .int x5)] := hl
      exact j2 x4 x5 (σ.1 54 40) σ _ _ _ (lv_sub hl [1, 2, 3, 0] rfl) hst h
    · replace h := h.2 hc
      refine lv_aload_n hx hb d_Md_tell_43 rfl (lv_at hl 0 rfl) ?_
      refine va_get (D := D) (ci := 10) (C := R_Md) (T := T_Md) (N := 46) hx hb hts in_Md hown hK hst.1 54 (WS_o54 g σ) rfl 41 (by decide) (hts _ gw1105) (fun _ h9 => h9) rfl d_Md_tell_44 ?_
      refine lv_iload hx hb d_Md_tell_47 (lv_at hl 2 rfl) ?_
      refine lv_iconst (v := (1 : Int32)) hx hb d_Md_tell_49 (by decide) ?_
      refine lv_isub hx hb d_Md_tell_50 ?_
      obtain ⟨hi, h⟩ := h
      refine va_iald hx hb hK hst.1 88 0 (WS_a88 g σ) rfl hi d_Md_tell_51 ?_
      refine lv_iconst (v := (5 : Int32)) hx hb d_Md_tell_52 (by decide) ?_
      refine lv_ishr hx hb d_Md_tell_53 ?_
      refine lv_iload hx hb d_Md_tell_54 (lv_at hl 1 rfl) ?_
      refine lv_iconst (v := (5 : Int32)) hx hb d_Md_tell_56 (by decide) ?_
      refine lv_ishr hx hb d_Md_tell_57 ?_
      refine lv_icmp_le (tgt := 67) hx hb d_Md_tell_58 (by decide) (fun hc => ?_) (fun hc => ?_)
      · replace h := h.1 hc
        refine lv_aload_n hx hb d_Md_tell_67 rfl (lv_at hl 0 rfl) ?_
        refine va_get (D := D) (ci := 10) (C := R_Md) (T := T_Md) (N := 46) hx hb hts in_Md hown hK hst.1 54 (WS_o54 g σ) rfl 40 (by decide) (hts _ gw1104) (fun _ h9 => h9) rfl d_Md_tell_68 ?_
        refine lv_istore hx hb d_Md_tell_71 hl (by decide) rfl (fun ls hl => ?_)
        have hl : lv_has ls 7 [(6, .int (σ.1 54 40)), (0, .ref (g.1 54)), (4, .int x4), (5, .int x5)] := hl
        exact j2 x4 x5 (σ.1 54 40) σ _ _ _ (lv_sub hl [1, 2, 3, 0] rfl) hst h
      · replace h := h.2 hc
        refine lv_iinc (k := 2) (v := (x5 + (-1))) hx hb d_Md_tell_61 hl rfl (kw_inc _ (by decide)) (by decide) rfl (fun ls hl => ?_)
        have hl : lv_has ls 7 [(5, .int (x5 + (-1))), (0, .ref (g.1 54)), (4, .int x4)] := hl
        refine lv_goto (tgt := 24) hx hb d_Md_tell_64 (by decide) ?_
        exact j1 x4 (x5 + (-1)) σ _ _ _ (lv_sub hl [1, 2, 0] rfl) hst h
set_option maxRecDepth 100000 in
set_option maxHeartbeats 4000000 in
theorem b_Md_tell_2 {p : Program} {l : Launch} {e : Env} {s : State} {m : MethodId} {args : Array Value} {below : List Frame} {meth : Method} {c : Code} {D : va_G} {g : Gm} {A : Nat → Prop} {post : Sg → Prop} {F : Nat → Int32 → Int32 → Int32 → Int32 → Int32 → Int32 → Sg → Prop} (C : kC p s m args meth c k_Md_tell 7 (none) GW R_Md D vwCl g (Zk g) A) (j2 : J_Md_tell_2 p l e s m args below meth c D g A post F) (x4 : Int32) (x5 : Int32) (x6 : Int32) (σ : Sg) (H : Heap) (locs : List Loc) (ls : Array Slot) (hl : lv_has ls 7 [(0, .ref (g.1 54)), (4, .int x4), (5, .int x5), (6, .int x6)]) (hst : Wst D vwCl (WS g) A s σ H locs) (h : wb_Md_tell_2 F post x4 x5 x6 σ) : W p l e { frames := 0, cells := 0, slots := 0, locals := 0 } s m args below meth c H locs 0 0 (MQ below (QvW D vwCl (WS g) post A) args s 0 0 A) (F0 m 73 ls []) := by
  obtain ⟨hx, hb, hr, hml, hown, hts, hlocks, hK, hZ, hA⟩ := C
  unfold wb_Md_tell_2 at h
  refine lv_iload hx hb d_Md_tell_73 (lv_at hl 3 rfl) ?_
  refine lv_iload hx hb d_Md_tell_75 (lv_at hl 2 rfl) ?_
  refine lv_icmp_le (tgt := 102) hx hb d_Md_tell_77 (by decide) (fun hc => ?_) (fun hc => ?_)
  · replace h := h.1 hc
    refine lv_aload_n hx hb d_Md_tell_102 rfl (lv_at hl 0 rfl) ?_
    refine va_get (D := D) (ci := 10) (C := R_Md) (T := T_Md) (N := 46) hx hb hts in_Md hown hK hst.1 54 (WS_o54 g σ) rfl 41 (by decide) (hts _ gw1105) (fun _ h9 => h9) rfl d_Md_tell_103 ?_
    refine lv_iload hx hb d_Md_tell_106 (lv_at hl 2 rfl) ?_
    refine lv_iload hx hb d_Md_tell_108 (lv_at hl 1 rfl) ?_
    obtain ⟨hi, h⟩ := h
    refine kw_iast hx hb hK hst 88 (WS_a88 g σ) hi (WS_s88 g σ _ _) d_Md_tell_110 (fun σ1 H locs e1 hst => ?_)
    replace h := h σ1 e1
    refine lv_aload_n hx hb d_Md_tell_111 rfl (lv_at hl 0 rfl) ?_
    refine lv_dup hx hb d_Md_tell_112 rfl ?_
    refine va_get (D := D) (ci := 10) (C := R_Md) (T := T_Md) (N := 46) hx hb hts in_Md hown hK hst.1 54 (WS_o54 g σ1) rfl 40 (by decide) (hts _ gw1104) (fun _ h9 => h9) rfl d_Md_tell_113 ?_
    refine lv_iconst (v := (1 : Int32)) hx hb d_Md_tell_116 (by decide) ?_
    refine lv_iadd hx hb d_Md_tell_117 ?_
    refine kw_put (D := D) (ci := 10) (ty := .int) (C := R_Md) (T := T_Md) (N := 46) hx hb hts in_Md ty_Md ty_Md_ok nm_Md hown hK hst 54 (WS_o54 g σ1) rfl 40 (by decide) (hts _ gw1104) (fun _ h9 => h9) rfl (by decide +kernel) rfl rfl (Nat.le_of_ble_eq_true rfl) (WS_p54_40 g σ1 _) d_Md_tell_118 (fun σ2 H locs e2 hst => ?_)
    replace h := h σ2 e2
    exact kw_vret hx hb hr hlocks hst h d_Md_tell_121
  · replace h := h.2 hc
    refine lv_aload_n hx hb d_Md_tell_80 rfl (lv_at hl 0 rfl) ?_
    refine va_get (D := D) (ci := 10) (C := R_Md) (T := T_Md) (N := 46) hx hb hts in_Md hown hK hst.1 54 (WS_o54 g σ) rfl 41 (by decide) (hts _ gw1105) (fun _ h9 => h9) rfl d_Md_tell_81 ?_
    refine lv_iload hx hb d_Md_tell_84 (lv_at hl 3 rfl) ?_
    refine lv_aload_n hx hb d_Md_tell_86 rfl (lv_at hl 0 rfl) ?_
    refine va_get (D := D) (ci := 10) (C := R_Md) (T := T_Md) (N := 46) hx hb hts in_Md hown hK hst.1 54 (WS_o54 g σ) rfl 41 (by decide) (hts _ gw1105) (fun _ h9 => h9) rfl d_Md_tell_87 ?_
    refine lv_iload hx hb d_Md_tell_90 (lv_at hl 3 rfl) ?_
    refine lv_iconst (v := (1 : Int32)) hx hb d_Md_tell_92 (by decide) ?_
    refine lv_isub hx hb d_Md_tell_93 ?_
    obtain ⟨hi, h⟩ := h
    refine va_iald hx hb hK hst.1 88 0 (WS_a88 g σ) rfl hi d_Md_tell_94 ?_
    obtain ⟨hi, h⟩ := h
    refine kw_iast hx hb hK hst 88 (WS_a88 g σ) hi (WS_s88 g σ _ _) d_Md_tell_95 (fun σ1 H locs e1 hst => ?_)
    replace h := h σ1 e1
    refine lv_iinc (k := 3) (v := (x6 + (-1))) hx hb d_Md_tell_96 hl rfl (kw_inc _ (by decide)) (by decide) rfl (fun ls hl => ?_)
    have hl : lv_has ls 7 [(6, .int (x6 + (-1))), (0, .ref (g.1 54)), (4, .int x4), (5, .int x5)] := hl
    refine lv_goto (tgt := 73) hx hb d_Md_tell_99 (by decide) ?_
    exact j2 x4 x5 (x6 + (-1)) σ1 _ _ _ (lv_sub hl [1, 2, 3, 0] rfl) hst h
set_option maxRecDepth 100000 in
set_option maxHeartbeats 4000000 in
theorem a_Md_tell {p : Program} {l : Launch} {e : Env} {s : State} {m : MethodId} {args : Array Value} {below : List Frame} {meth : Method} {c : Code} {D : va_G} {g : Gm} {A : Nat → Prop} {post : Sg → Prop} (C : kC p s m args meth c k_Md_tell 7 (none) GW R_Md D vwCl g (Zk g) A) : ∀ n : Nat, J_Md_tell_1 p l e s m args below meth c D g A post (wp_Md_tell post n) ∧ J_Md_tell_2 p l e s m args below meth c D g A post (wp_Md_tell post n) := by
  intro n
  induction n with
  | zero => exact ⟨fun _ _ _ _ _ _ _ _ h => h.elim, fun _ _ _ _ _ _ _ _ _ h => h.elim⟩
  | succ n ih => exact ⟨fun x4 x5 σ H locs ls hl hst h => b_Md_tell_1 (F := wp_Md_tell post n) C (ih.1) (ih.2) x4 x5 σ H locs ls hl hst h, fun x4 x5 x6 σ H locs ls hl hst h => b_Md_tell_2 (F := wp_Md_tell post n) C (ih.2) x4 x5 x6 σ H locs ls hl hst h⟩
set_option maxRecDepth 100000 in
set_option maxHeartbeats 4000000 in
theorem c_Md_tell (l : Launch) {D : va_G} {g : Gm} {sz : Nat} (x1 : Int32) (x2 : Int32) (x3 : Int32) {σ : Sg} {post : Sg → Prop} (h : wq_Md_tell x1 x2 x3 σ post) : Met l y_Md_tell (.code y_Md_tell k_Md_tell 7 (none) :: GW) { frames := 0, cells := 0, slots := 0, locals := 0 } (PcW D vwCl (WS g) g (Zk g) σ sz [.ref (g.1 54), .int x1, .int x2, .int x3]) (QvW D vwCl (WS g) post (va_A (WS g σ) sz)) 0 0 (va_A (WS g σ) sz) := by
  refine kw_entry (own := R_Md) (by decide) rfl rfl (Nat.le_of_ble_eq_true rfl) ?_
  intro p e s m below meth c ls hsz C hin hl hst
  obtain ⟨n, h⟩ := h
  cases n with
  | zero => exact h.elim
  | succ n =>
    have ih := a_Md_tell (l := l) (e := e) (below := below) (post := post) C n
    exact b_Md_tell_0 (F := wp_Md_tell post n) C (ih.1) x1 x2 x3 σ _ _ ls hl hst h
/-! SchemaDeskModel.reportAll (II)V -/
abbrev k_Md_reportAll : ByteArray := prog_12_method_65_code
abbrev y_Md_reportAll : MethodName := ⟨"SchemaDeskModel", "reportAll", "(II)V"⟩
theorem d_Md_reportAll_0 : decode k_Md_reportAll 0 = .ok (.aload_n 0, 1) := by decide +kernel
theorem d_Md_reportAll_1 : decode k_Md_reportAll 1 = .ok (.getfield 95, 3) := by decide +kernel
theorem d_Md_reportAll_4 : decode k_Md_reportAll 4 = .ok (.iload_n 1, 1) := by decide +kernel
theorem d_Md_reportAll_5 : decode k_Md_reportAll 5 = .ok (.iaload, 1) := by decide +kernel
theorem d_Md_reportAll_6 : decode k_Md_reportAll 6 = .ok (.istore_n 3, 1) := by decide +kernel
theorem d_Md_reportAll_7 : decode k_Md_reportAll 7 = .ok (.iload_n 3, 1) := by decide +kernel
theorem d_Md_reportAll_8 : decode k_Md_reportAll 8 = .ok (.ifCond .lt 28, 3) := by decide +kernel
theorem d_Md_reportAll_11 : decode k_Md_reportAll 11 = .ok (.aload_n 0, 1) := by decide +kernel
theorem d_Md_reportAll_12 : decode k_Md_reportAll 12 = .ok (.iload_n 3, 1) := by decide +kernel
theorem d_Md_reportAll_13 : decode k_Md_reportAll 13 = .ok (.iload_n 2, 1) := by decide +kernel
theorem d_Md_reportAll_14 : decode k_Md_reportAll 14 = .ok (.invokevirtual 320, 3) := by decide +kernel
theorem d_Md_reportAll_17 : decode k_Md_reportAll 17 = .ok (.ifCond .ne 9, 3) := by decide +kernel
theorem d_Md_reportAll_20 : decode k_Md_reportAll 20 = .ok (.aload_n 0, 1) := by decide +kernel
theorem d_Md_reportAll_21 : decode k_Md_reportAll 21 = .ok (.iload_n 3, 1) := by decide +kernel
theorem d_Md_reportAll_22 : decode k_Md_reportAll 22 = .ok (.iload_n 2, 1) := by decide +kernel
theorem d_Md_reportAll_23 : decode k_Md_reportAll 23 = .ok (.invokevirtual 373, 3) := by decide +kernel
theorem d_Md_reportAll_26 : decode k_Md_reportAll 26 = .ok (.aload_n 0, 1) := by decide +kernel
theorem d_Md_reportAll_27 : decode k_Md_reportAll 27 = .ok (.getfield 98, 3) := by decide +kernel
theorem d_Md_reportAll_30 : decode k_Md_reportAll 30 = .ok (.iload_n 3, 1) := by decide +kernel
theorem d_Md_reportAll_31 : decode k_Md_reportAll 31 = .ok (.iaload, 1) := by decide +kernel
theorem d_Md_reportAll_32 : decode k_Md_reportAll 32 = .ok (.istore_n 3, 1) := by decide +kernel
theorem d_Md_reportAll_33 : decode k_Md_reportAll 33 = .ok (.goto (-26), 3) := by decide +kernel
theorem d_Md_reportAll_36 : decode k_Md_reportAll 36 = .ok (.return_, 1) := by decide +kernel
theorem gw1436 : (Jvm.Cond.methodLink "SchemaDeskModel" (373 : Nat) ({ cls := "SchemaDeskModel", name := "mark", desc := "(II)V" } : Jvm.MethodName)) ∈ GW := gw_t6 (List.mem_of_getElem? (i := 236) rfl) rfl
theorem gw1438 : (Jvm.Cond.instanceMethod ({ cls := "SchemaDeskModel", name := "mark", desc := "(II)V" } : Jvm.MethodName)) ∈ GW := gw_t6 (List.mem_of_getElem? (i := 238) rfl) rfl
theorem gs85 : Cond.selects "SchemaDeskModel" ⟨"SchemaDeskModel", "mark", "(II)V"⟩ ⟨"SchemaDeskModel", "mark", "(II)V"⟩ ∈ GW := gw_p6 (q := (⟨"SchemaDeskModel", "mark", "(II)V"⟩, 46)) (List.mem_of_getElem? (i := 5) rfl)
theorem gw1439 : (Jvm.Cond.code ({ cls := "SchemaDeskModel", name := "mark", desc := "(II)V" } : Jvm.MethodName) prog_12_method_41_code (3 : Nat) (Option.none : Option Jvm.ClassFile.FieldType)) ∈ GW := gw_t6 (List.mem_of_getElem? (i := 239) rfl) rfl
def wb_Md_reportAll_0 (F : Nat → Int32 → Int32 → Int32 → Sg → Prop) (post : Sg → Prop) (x1 : Int32) (x2 : Int32) (σ : Sg) : Prop := (vp_in x1 240 ∧ F 1 0 x2 (σ.1 65 x1.toNatClampNeg) σ)
def wb_Md_reportAll_1 (F : Nat → Int32 → Int32 → Int32 → Sg → Prop) (post : Sg → Prop) (x2 : Int32) (x3 : Int32) (σ : Sg) : Prop := ((x3 < 0 → post σ) ∧ (¬ x3 < 0 → (wq_Md_isSo x3 x2 σ (fun r1 σ1 => ((¬ r1 = 0 → (vp_in x3 240 ∧ F 1 0 x2 (σ1.1 66 x3.toNatClampNeg) σ1)) ∧ (r1 = 0 → (wq_Md_mark x3 x2 σ1 (fun σ2 => (vp_in x3 240 ∧ F 1 0 x2 (σ2.1 66 x3.toNatClampNeg) σ2)))))))))
def wp_Md_reportAll (post : Sg → Prop) : Nat → Nat → Int32 → Int32 → Int32 → Sg → Prop
  | 0, _, _, _, _, _ => False
  | n + 1, k, x1, x2, x3, σ => match k with
    | 0 => wb_Md_reportAll_0 (wp_Md_reportAll post n) post x1 x2 σ
    | 1 => wb_Md_reportAll_1 (wp_Md_reportAll post n) post x2 x3 σ
    | _ => False
def wq_Md_reportAll (x1 : Int32) (x2 : Int32) (σ : Sg) (post : Sg → Prop) : Prop := ∃ n, wp_Md_reportAll post n 0 x1 x2 0 σ
def J_Md_reportAll_1 (p : Program) (l : Launch) (e : Env) (s : State) (m : MethodId) (args : Array Value) (below : List Frame) (meth : Method) (c : Code) (D : va_G) (g : Gm) (A : Nat → Prop) (post : Sg → Prop) (F : Nat → Int32 → Int32 → Int32 → Sg → Prop) : Prop := ∀ (x2 : Int32) (x3 : Int32) (σ : Sg) (H : Heap) (locs : List Loc) (ls : Array Slot), lv_has ls 4 [(0, .ref (g.1 54)), (2, .int x2), (3, .int x3)] → Wst D vwCl (WS g) A s σ H locs → F 1 0 x2 x3 σ → W p l e { frames := 2, cells := 0, slots := 0, locals := 46 } s m args below meth c H locs 0 0 (MQ below (QvW D vwCl (WS g) post A) args s 0 0 A) (F0 m 7 ls [])
set_option maxRecDepth 100000 in
set_option maxHeartbeats 4000000 in
theorem b_Md_reportAll_0 {p : Program} {l : Launch} {e : Env} {s : State} {m : MethodId} {args : Array Value} {below : List Frame} {meth : Method} {c : Code} {D : va_G} {g : Gm} {A : Nat → Prop} {post : Sg → Prop} {F : Nat → Int32 → Int32 → Int32 → Sg → Prop} (C : kC p s m args meth c k_Md_reportAll 4 (none) GW R_Md D vwCl g (Zk g) A) (j1 : J_Md_reportAll_1 p l e s m args below meth c D g A post F) (x1 : Int32) (x2 : Int32) (σ : Sg) (H : Heap) (locs : List Loc) (ls : Array Slot) (hl : lv_has ls 4 [(0, .ref (g.1 54)), (1, .int x1), (2, .int x2)]) (hst : Wst D vwCl (WS g) A s σ H locs) (h : wb_Md_reportAll_0 F post x1 x2 σ) : W p l e { frames := 2, cells := 0, slots := 0, locals := 46 } s m args below meth c H locs 0 0 (MQ below (QvW D vwCl (WS g) post A) args s 0 0 A) (F0 m 0 ls []) := by
  obtain ⟨hx, hb, hr, hml, hown, hts, hlocks, hK, hZ, hA⟩ := C
  unfold wb_Md_reportAll_0 at h
  refine lv_aload_n hx hb d_Md_reportAll_0 rfl (lv_at hl 0 rfl) ?_
  refine va_get (D := D) (ci := 10) (C := R_Md) (T := T_Md) (N := 46) hx hb hts in_Md hown hK hst.1 54 (WS_o54 g σ) rfl 11 (by decide) (hts _ gw1075) (fun _ h9 => h9) rfl d_Md_reportAll_1 ?_
  refine lv_iload_n hx hb d_Md_reportAll_4 rfl (lv_at hl 1 rfl) ?_
  obtain ⟨hi, h⟩ := h
  refine va_iald hx hb hK hst.1 65 0 (WS_a65 g σ) rfl hi d_Md_reportAll_5 ?_
  refine lv_istore_n hx hb d_Md_reportAll_6 rfl hl (by decide) rfl (fun ls hl => ?_)
  have hl : lv_has ls 4 [(3, .int (σ.1 65 x1.toNatClampNeg)), (0, .ref (g.1 54)), (1, .int x1), (2, .int x2)] := hl
  exact j1 x2 (σ.1 65 x1.toNatClampNeg) σ _ _ _ (lv_sub hl [1, 3, 0] rfl) hst h
set_option maxRecDepth 100000 in
set_option maxHeartbeats 4000000 in
theorem b_Md_reportAll_1 {p : Program} {l : Launch} {e : Env} {s : State} {m : MethodId} {args : Array Value} {below : List Frame} {meth : Method} {c : Code} {D : va_G} {g : Gm} {A : Nat → Prop} {post : Sg → Prop} {F : Nat → Int32 → Int32 → Int32 → Sg → Prop} (C : kC p s m args meth c k_Md_reportAll 4 (none) GW R_Md D vwCl g (Zk g) A) (j1 : J_Md_reportAll_1 p l e s m args below meth c D g A post F) (x2 : Int32) (x3 : Int32) (σ : Sg) (H : Heap) (locs : List Loc) (ls : Array Slot) (hl : lv_has ls 4 [(0, .ref (g.1 54)), (2, .int x2), (3, .int x3)]) (hst : Wst D vwCl (WS g) A s σ H locs) (h : wb_Md_reportAll_1 F post x2 x3 σ) : W p l e { frames := 2, cells := 0, slots := 0, locals := 46 } s m args below meth c H locs 0 0 (MQ below (QvW D vwCl (WS g) post A) args s 0 0 A) (F0 m 7 ls []) := by
  obtain ⟨hx, hb, hr, hml, hown, hts, hlocks, hK, hZ, hA⟩ := C
  unfold wb_Md_reportAll_1 at h
  refine lv_iload_n hx hb d_Md_reportAll_7 rfl (lv_at hl 2 rfl) ?_
  refine lv_if_lt (tgt := 36) hx hb d_Md_reportAll_8 (by decide) (fun hc => ?_) (fun hc => ?_)
  · replace h := h.1 hc
    exact kw_vret hx hb hr hlocks hst h d_Md_reportAll_36
  · replace h := h.2 hc
    refine lv_aload_n hx hb d_Md_reportAll_11 rfl (lv_at hl 0 rfl) ?_
    refine lv_iload_n hx hb d_Md_reportAll_12 rfl (lv_at hl 2 rfl) ?_
    refine lv_iload_n hx hb d_Md_reportAll_13 rfl (lv_at hl 1 rfl) ?_
    refine kw_calli (va_runV (As := [.int x3, .int x2]) (rest := []) (b := g.1 54) ⟨hx, hb, hml, hown, hts⟩ (c_Md_isSo l x3 x2 h) (cwV 2 hts (gd_v gw1396 gw1398 gs76 gw15 gw1399) rfl rfl rfl (by decide +kernel) ⟨Nat.le_of_ble_eq_true rfl, Nat.le_of_ble_eq_true rfl⟩) ⟨kw_blind (Zk_ok g), va_recv hK hst.1 rfl (WS_o54 g σ), kw_pre (Zk_ok g) hK hZ hA hst⟩ rfl rfl hl.1 rfl (lv_room (Nat.le_of_ble_eq_true rfl)) d_Md_reportAll_14 ⟨Nat.le_of_ble_eq_true rfl, Nat.le_of_ble_eq_true rfl⟩) hst hA (fun r1 σ1 H locs h hst => ?_)
    refine lv_if_ne (tgt := 26) hx hb d_Md_reportAll_17 (by decide) (fun hc => ?_) (fun hc => ?_)
    · replace h := h.1 hc
      refine lv_aload_n hx hb d_Md_reportAll_26 rfl (lv_at hl 0 rfl) ?_
      refine va_get (D := D) (ci := 10) (C := R_Md) (T := T_Md) (N := 46) hx hb hts in_Md hown hK hst.1 54 (WS_o54 g σ1) rfl 12 (by decide) (hts _ gw1076) (fun _ h9 => h9) rfl d_Md_reportAll_27 ?_
      refine lv_iload_n hx hb d_Md_reportAll_30 rfl (lv_at hl 2 rfl) ?_
      obtain ⟨hi, h⟩ := h
      refine va_iald hx hb hK hst.1 66 0 (WS_a66 g σ1) rfl hi d_Md_reportAll_31 ?_
      refine lv_istore_n hx hb d_Md_reportAll_32 rfl hl (by decide) rfl (fun ls hl => ?_)
      have hl : lv_has ls 4 [(3, .int (σ1.1 66 x3.toNatClampNeg)), (0, .ref (g.1 54)), (2, .int x2)] := hl
      refine lv_goto (tgt := 7) hx hb d_Md_reportAll_33 (by decide) ?_
      exact j1 x2 (σ1.1 66 x3.toNatClampNeg) σ1 _ _ _ (lv_sub hl [1, 2, 0] rfl) hst h
    · replace h := h.2 hc
      refine lv_aload_n hx hb d_Md_reportAll_20 rfl (lv_at hl 0 rfl) ?_
      refine lv_iload_n hx hb d_Md_reportAll_21 rfl (lv_at hl 2 rfl) ?_
      refine lv_iload_n hx hb d_Md_reportAll_22 rfl (lv_at hl 1 rfl) ?_
      refine kw_callv (va_runV (As := [.int x3, .int x2]) (rest := []) (b := g.1 54) ⟨hx, hb, hml, hown, hts⟩ (c_Md_mark l x3 x2 h) (cwV 2 hts (gd_v gw1436 gw1438 gs85 gw15 gw1439) rfl rfl rfl (by decide +kernel) ⟨Nat.le_of_ble_eq_true rfl, Nat.le_of_ble_eq_true rfl⟩) ⟨kw_blind (Zk_ok g), va_recv hK hst.1 rfl (WS_o54 g σ1), kw_pre (Zk_ok g) hK hZ hA hst⟩ rfl rfl hl.1 rfl (lv_room (Nat.le_of_ble_eq_true rfl)) d_Md_reportAll_23 ⟨Nat.le_of_ble_eq_true rfl, Nat.le_of_ble_eq_true rfl⟩) hst hA (fun σ2 H locs h hst => ?_)
      refine lv_aload_n hx hb d_Md_reportAll_26 rfl (lv_at hl 0 rfl) ?_
      refine va_get (D := D) (ci := 10) (C := R_Md) (T := T_Md) (N := 46) hx hb hts in_Md hown hK hst.1 54 (WS_o54 g σ2) rfl 12 (by decide) (hts _ gw1076) (fun _ h9 => h9) rfl d_Md_reportAll_27 ?_
      refine lv_iload_n hx hb d_Md_reportAll_30 rfl (lv_at hl 2 rfl) ?_
      obtain ⟨hi, h⟩ := h
      refine va_iald hx hb hK hst.1 66 0 (WS_a66 g σ2) rfl hi d_Md_reportAll_31 ?_
      refine lv_istore_n hx hb d_Md_reportAll_32 rfl hl (by decide) rfl (fun ls hl => ?_)
      have hl : lv_has ls 4 [(3, .int (σ2.1 66 x3.toNatClampNeg)), (0, .ref (g.1 54)), (2, .int x2)] := hl
      refine lv_goto (tgt := 7) hx hb d_Md_reportAll_33 (by decide) ?_
      exact j1 x2 (σ2.1 66 x3.toNatClampNeg) σ2 _ _ _ (lv_sub hl [1, 2, 0] rfl) hst h
set_option maxRecDepth 100000 in
set_option maxHeartbeats 4000000 in
theorem a_Md_reportAll {p : Program} {l : Launch} {e : Env} {s : State} {m : MethodId} {args : Array Value} {below : List Frame} {meth : Method} {c : Code} {D : va_G} {g : Gm} {A : Nat → Prop} {post : Sg → Prop} (C : kC p s m args meth c k_Md_reportAll 4 (none) GW R_Md D vwCl g (Zk g) A) : ∀ n : Nat, J_Md_reportAll_1 p l e s m args below meth c D g A post (wp_Md_reportAll post n) := by
  intro n
  induction n with
  | zero => exact fun _ _ _ _ _ _ _ _ h => h.elim
  | succ n ih => exact fun x2 x3 σ H locs ls hl hst h => b_Md_reportAll_1 (F := wp_Md_reportAll post n) C (ih) x2 x3 σ H locs ls hl hst h
set_option maxRecDepth 100000 in
set_option maxHeartbeats 4000000 in
theorem c_Md_reportAll (l : Launch) {D : va_G} {g : Gm} {sz : Nat} (x1 : Int32) (x2 : Int32) {σ : Sg} {post : Sg → Prop} (h : wq_Md_reportAll x1 x2 σ post) : Met l y_Md_reportAll (.code y_Md_reportAll k_Md_reportAll 4 (none) :: GW) { frames := 2, cells := 0, slots := 0, locals := 46 } (PcW D vwCl (WS g) g (Zk g) σ sz [.ref (g.1 54), .int x1, .int x2]) (QvW D vwCl (WS g) post (va_A (WS g σ) sz)) 0 0 (va_A (WS g σ) sz) := by
  refine kw_entry (own := R_Md) (by decide) rfl rfl (Nat.le_of_ble_eq_true rfl) ?_
  intro p e s m below meth c ls hsz C hin hl hst
  obtain ⟨n, h⟩ := h
  cases n with
  | zero => exact h.elim
  | succ n =>
    have ih := a_Md_reportAll (l := l) (e := e) (below := below) (post := post) C n
    exact b_Md_reportAll_0 (F := wp_Md_reportAll post n) C (ih) x1 x2 σ _ _ ls hl hst h
/-! SchemaDeskModel.diagnostic (II)I -/
abbrev k_Md_diagnostic : ByteArray := prog_12_method_67_code
abbrev y_Md_diagnostic : MethodName := ⟨"SchemaDeskModel", "diagnostic", "(II)I"⟩
theorem d_Md_diagnostic_0 : decode k_Md_diagnostic 0 = .ok (.aload_n 0, 1) := by decide +kernel
theorem d_Md_diagnostic_1 : decode k_Md_diagnostic 1 = .ok (.iconst 0, 1) := by decide +kernel
theorem d_Md_diagnostic_2 : decode k_Md_diagnostic 2 = .ok (.putfield 177, 3) := by decide +kernel
theorem d_Md_diagnostic_5 : decode k_Md_diagnostic 5 = .ok (.iload_n 2, 1) := by decide +kernel
theorem d_Md_diagnostic_6 : decode k_Md_diagnostic 6 = .ok (.ifCond .lt 8, 3) := by decide +kernel
theorem d_Md_diagnostic_9 : decode k_Md_diagnostic 9 = .ok (.iload_n 2, 1) := by decide +kernel
theorem d_Md_diagnostic_10 : decode k_Md_diagnostic 10 = .ok (.iconst 2, 1) := by decide +kernel
theorem d_Md_diagnostic_11 : decode k_Md_diagnostic 11 = .ok (.if_icmp .le 9, 3) := by decide +kernel
theorem d_Md_diagnostic_14 : decode k_Md_diagnostic 14 = .ok (.aload_n 0, 1) := by decide +kernel
theorem d_Md_diagnostic_15 : decode k_Md_diagnostic 15 = .ok (.iconst 1, 1) := by decide +kernel
theorem d_Md_diagnostic_16 : decode k_Md_diagnostic 16 = .ok (.invokevirtual 274, 3) := by decide +kernel
theorem d_Md_diagnostic_19 : decode k_Md_diagnostic 19 = .ok (.ireturn, 1) := by decide +kernel
theorem d_Md_diagnostic_20 : decode k_Md_diagnostic 20 = .ok (.iload_n 1, 1) := by decide +kernel
theorem d_Md_diagnostic_21 : decode k_Md_diagnostic 21 = .ok (.ifCond .lt 11, 3) := by decide +kernel
theorem d_Md_diagnostic_24 : decode k_Md_diagnostic 24 = .ok (.iload_n 1, 1) := by decide +kernel
theorem d_Md_diagnostic_25 : decode k_Md_diagnostic 25 = .ok (.aload_n 0, 1) := by decide +kernel
theorem d_Md_diagnostic_26 : decode k_Md_diagnostic 26 = .ok (.getfield 360, 3) := by decide +kernel
theorem d_Md_diagnostic_29 : decode k_Md_diagnostic 29 = .ok (.if_icmp .lt 9, 3) := by decide +kernel
theorem d_Md_diagnostic_32 : decode k_Md_diagnostic 32 = .ok (.aload_n 0, 1) := by decide +kernel
theorem d_Md_diagnostic_33 : decode k_Md_diagnostic 33 = .ok (.iconst 2, 1) := by decide +kernel
theorem d_Md_diagnostic_34 : decode k_Md_diagnostic 34 = .ok (.invokevirtual 274, 3) := by decide +kernel
theorem d_Md_diagnostic_37 : decode k_Md_diagnostic 37 = .ok (.ireturn, 1) := by decide +kernel
theorem d_Md_diagnostic_38 : decode k_Md_diagnostic 38 = .ok (.iload_n 2, 1) := by decide +kernel
theorem d_Md_diagnostic_39 : decode k_Md_diagnostic 39 = .ok (.ifCond .ne 15, 3) := by decide +kernel
theorem d_Md_diagnostic_42 : decode k_Md_diagnostic 42 = .ok (.aload_n 0, 1) := by decide +kernel
theorem d_Md_diagnostic_43 : decode k_Md_diagnostic 43 = .ok (.getfield 165, 3) := by decide +kernel
theorem d_Md_diagnostic_46 : decode k_Md_diagnostic 46 = .ok (.iload_n 1, 1) := by decide +kernel
theorem d_Md_diagnostic_47 : decode k_Md_diagnostic 47 = .ok (.iaload, 1) := by decide +kernel
theorem d_Md_diagnostic_48 : decode k_Md_diagnostic 48 = .ok (.bipush 31, 2) := by decide +kernel
theorem d_Md_diagnostic_50 : decode k_Md_diagnostic 50 = .ok (.iand, 1) := by decide +kernel
theorem d_Md_diagnostic_51 : decode k_Md_diagnostic 51 = .ok (.goto 32, 3) := by decide +kernel
theorem d_Md_diagnostic_54 : decode k_Md_diagnostic 54 = .ok (.iload_n 2, 1) := by decide +kernel
theorem d_Md_diagnostic_55 : decode k_Md_diagnostic 55 = .ok (.iconst 1, 1) := by decide +kernel
theorem d_Md_diagnostic_56 : decode k_Md_diagnostic 56 = .ok (.if_icmp .ne 15, 3) := by decide +kernel
theorem d_Md_diagnostic_59 : decode k_Md_diagnostic 59 = .ok (.aload_n 0, 1) := by decide +kernel
theorem d_Md_diagnostic_60 : decode k_Md_diagnostic 60 = .ok (.getfield 165, 3) := by decide +kernel
theorem d_Md_diagnostic_63 : decode k_Md_diagnostic 63 = .ok (.iload_n 1, 1) := by decide +kernel
theorem d_Md_diagnostic_64 : decode k_Md_diagnostic 64 = .ok (.iaload, 1) := by decide +kernel
theorem d_Md_diagnostic_65 : decode k_Md_diagnostic 65 = .ok (.bipush 13, 2) := by decide +kernel
theorem d_Md_diagnostic_67 : decode k_Md_diagnostic 67 = .ok (.ishr, 1) := by decide +kernel
theorem d_Md_diagnostic_68 : decode k_Md_diagnostic 68 = .ok (.goto 15, 3) := by decide +kernel
theorem d_Md_diagnostic_71 : decode k_Md_diagnostic 71 = .ok (.aload_n 0, 1) := by decide +kernel
theorem d_Md_diagnostic_72 : decode k_Md_diagnostic 72 = .ok (.getfield 165, 3) := by decide +kernel
theorem d_Md_diagnostic_75 : decode k_Md_diagnostic 75 = .ok (.iload_n 1, 1) := by decide +kernel
theorem d_Md_diagnostic_76 : decode k_Md_diagnostic 76 = .ok (.iaload, 1) := by decide +kernel
theorem d_Md_diagnostic_77 : decode k_Md_diagnostic 77 = .ok (.iconst 5, 1) := by decide +kernel
theorem d_Md_diagnostic_78 : decode k_Md_diagnostic 78 = .ok (.ishr, 1) := by decide +kernel
theorem d_Md_diagnostic_79 : decode k_Md_diagnostic 79 = .ok (.sipush 255, 3) := by decide +kernel
theorem d_Md_diagnostic_82 : decode k_Md_diagnostic 82 = .ok (.iand, 1) := by decide +kernel
theorem d_Md_diagnostic_83 : decode k_Md_diagnostic 83 = .ok (.ireturn, 1) := by decide +kernel
theorem gw1325 : (Jvm.Cond.methodLink "SchemaDeskModel" (274 : Nat) ({ cls := "SchemaDeskModel", name := "fails", desc := "(I)I" } : Jvm.MethodName)) ∈ GW := gw_t6 (List.mem_of_getElem? (i := 125) rfl) rfl
theorem gw1327 : (Jvm.Cond.instanceMethod ({ cls := "SchemaDeskModel", name := "fails", desc := "(I)I" } : Jvm.MethodName)) ∈ GW := gw_t6 (List.mem_of_getElem? (i := 127) rfl) rfl
theorem gs62 : Cond.selects "SchemaDeskModel" ⟨"SchemaDeskModel", "fails", "(I)I"⟩ ⟨"SchemaDeskModel", "fails", "(I)I"⟩ ∈ GW := gw_p4 (q := (⟨"SchemaDeskModel", "fails", "(I)I"⟩, 46)) (List.mem_of_getElem? (i := 14) rfl)
theorem gw1328 : (Jvm.Cond.code ({ cls := "SchemaDeskModel", name := "fails", desc := "(I)I" } : Jvm.MethodName) prog_12_method_3_code (2 : Nat) (Option.some Jvm.ClassFile.FieldType.int)) ∈ GW := gw_t6 (List.mem_of_getElem? (i := 128) rfl) rfl
def wq_Md_diagnostic (x1 : Int32) (x2 : Int32) (σ : Sg) (post : Int32 → Sg → Prop) : Prop := (∀ σ1, σ1 = si σ 54 1 (0 : Int32) → ((x2 < 0 → (wq_Md_fails (1 : Int32) σ1 (fun r2 σ2 => post r2 σ2))) ∧ (¬ x2 < 0 → ((x2 ≤ (2 : Int32) → ((x1 < 0 → (wq_Md_fails (2 : Int32) σ1 (fun r2 σ2 => post r2 σ2))) ∧ (¬ x1 < 0 → ((x1 < (σ1.1 54 40) → ((¬ x2 = 0 → ((¬ x2 = (1 : Int32) → (vp_in x1 1300 ∧ post (((σ1.1 88 x1.toNatClampNeg) >>> ((5 : Int32) &&& 31)) &&& (255 : Int32)) σ1)) ∧ (x2 = (1 : Int32) → (vp_in x1 1300 ∧ post ((σ1.1 88 x1.toNatClampNeg) >>> ((13 : Int32) &&& 31)) σ1)))) ∧ (x2 = 0 → (vp_in x1 1300 ∧ post ((σ1.1 88 x1.toNatClampNeg) &&& (31 : Int32)) σ1)))) ∧ (¬ x1 < (σ1.1 54 40) → (wq_Md_fails (2 : Int32) σ1 (fun r2 σ2 => post r2 σ2))))))) ∧ (¬ x2 ≤ (2 : Int32) → (wq_Md_fails (1 : Int32) σ1 (fun r2 σ2 => post r2 σ2)))))))
set_option maxRecDepth 100000 in
set_option maxHeartbeats 4000000 in
theorem b_Md_diagnostic_0 {p : Program} {l : Launch} {e : Env} {s : State} {m : MethodId} {args : Array Value} {below : List Frame} {meth : Method} {c : Code} {D : va_G} {g : Gm} {A : Nat → Prop} {post : Int32 → Sg → Prop} (C : kC p s m args meth c k_Md_diagnostic 3 (some .int) GW R_Md D vwCl g (Zk g) A) (x1 : Int32) (x2 : Int32) (σ : Sg) (H : Heap) (locs : List Loc) (ls : Array Slot) (hl : lv_has ls 3 [(0, .ref (g.1 54)), (1, .int x1), (2, .int x2)]) (hst : Wst D vwCl (WS g) A s σ H locs) (h : wq_Md_diagnostic x1 x2 σ post) : W p l e { frames := 1, cells := 0, slots := 0, locals := 21 } s m args below meth c H locs 0 0 (MQ below (QiW D vwCl (WS g) post A) args s 0 0 A) (F0 m 0 ls []) := by
  obtain ⟨hx, hb, hr, hml, hown, hts, hlocks, hK, hZ, hA⟩ := C
  unfold wq_Md_diagnostic at h
  refine lv_aload_n hx hb d_Md_diagnostic_0 rfl (lv_at hl 0 rfl) ?_
  refine lv_iconst (v := (0 : Int32)) hx hb d_Md_diagnostic_1 (by decide) ?_
  refine kw_put (D := D) (ci := 10) (ty := .int) (C := R_Md) (T := T_Md) (N := 46) hx hb hts in_Md ty_Md ty_Md_ok nm_Md hown hK hst 54 (WS_o54 g σ) rfl 1 (by decide) (hts _ gw1065) (fun _ h9 => h9) rfl (by decide +kernel) rfl rfl (Nat.le_of_ble_eq_true rfl) (WS_p54_1 g σ _) d_Md_diagnostic_2 (fun σ1 H locs e1 hst => ?_)
  replace h := h σ1 e1
  refine lv_iload_n hx hb d_Md_diagnostic_5 rfl (lv_at hl 2 rfl) ?_
  refine lv_if_lt (tgt := 14) hx hb d_Md_diagnostic_6 (by decide) (fun hc => ?_) (fun hc => ?_)
  · replace h := h.1 hc
    refine lv_aload_n hx hb d_Md_diagnostic_14 rfl (lv_at hl 0 rfl) ?_
    refine lv_iconst (v := (1 : Int32)) hx hb d_Md_diagnostic_15 (by decide) ?_
    refine kw_calli (va_runV (As := [.int (1 : Int32)]) (rest := []) (b := g.1 54) ⟨hx, hb, hml, hown, hts⟩ (c_Md_fails l (1 : Int32) h) (cwV 1 hts (gd_v gw1325 gw1327 gs62 gw15 gw1328) rfl rfl rfl (by decide +kernel) ⟨Nat.le_of_ble_eq_true rfl, Nat.le_of_ble_eq_true rfl⟩) ⟨kw_blind (Zk_ok g), va_recv hK hst.1 rfl (WS_o54 g σ1), kw_pre (Zk_ok g) hK hZ hA hst⟩ rfl rfl hl.1 rfl (lv_room (Nat.le_of_ble_eq_true rfl)) d_Md_diagnostic_16 ⟨Nat.le_of_ble_eq_true rfl, Nat.le_of_ble_eq_true rfl⟩) hst hA (fun r2 σ2 H locs h hst => ?_)
    exact kw_iret hx hb hr hlocks hst h d_Md_diagnostic_19
  · replace h := h.2 hc
    refine lv_iload_n hx hb d_Md_diagnostic_9 rfl (lv_at hl 2 rfl) ?_
    refine lv_iconst (v := (2 : Int32)) hx hb d_Md_diagnostic_10 (by decide) ?_
    refine lv_icmp_le (tgt := 20) hx hb d_Md_diagnostic_11 (by decide) (fun hc => ?_) (fun hc => ?_)
    · replace h := h.1 hc
      refine lv_iload_n hx hb d_Md_diagnostic_20 rfl (lv_at hl 1 rfl) ?_
      refine lv_if_lt (tgt := 32) hx hb d_Md_diagnostic_21 (by decide) (fun hc => ?_) (fun hc => ?_)
      · replace h := h.1 hc
        refine lv_aload_n hx hb d_Md_diagnostic_32 rfl (lv_at hl 0 rfl) ?_
        refine lv_iconst (v := (2 : Int32)) hx hb d_Md_diagnostic_33 (by decide) ?_
        refine kw_calli (va_runV (As := [.int (2 : Int32)]) (rest := []) (b := g.1 54) ⟨hx, hb, hml, hown, hts⟩ (c_Md_fails l (2 : Int32) h) (cwV 1 hts (gd_v gw1325 gw1327 gs62 gw15 gw1328) rfl rfl rfl (by decide +kernel) ⟨Nat.le_of_ble_eq_true rfl, Nat.le_of_ble_eq_true rfl⟩) ⟨kw_blind (Zk_ok g), va_recv hK hst.1 rfl (WS_o54 g σ1), kw_pre (Zk_ok g) hK hZ hA hst⟩ rfl rfl hl.1 rfl (lv_room (Nat.le_of_ble_eq_true rfl)) d_Md_diagnostic_34 ⟨Nat.le_of_ble_eq_true rfl, Nat.le_of_ble_eq_true rfl⟩) hst hA (fun r2 σ2 H locs h hst => ?_)
        exact kw_iret hx hb hr hlocks hst h d_Md_diagnostic_37
      · replace h := h.2 hc
        refine lv_iload_n hx hb d_Md_diagnostic_24 rfl (lv_at hl 1 rfl) ?_
        refine lv_aload_n hx hb d_Md_diagnostic_25 rfl (lv_at hl 0 rfl) ?_
        refine va_get (D := D) (ci := 10) (C := R_Md) (T := T_Md) (N := 46) hx hb hts in_Md hown hK hst.1 54 (WS_o54 g σ1) rfl 40 (by decide) (hts _ gw1104) (fun _ h9 => h9) rfl d_Md_diagnostic_26 ?_
        refine lv_icmp_lt (tgt := 38) hx hb d_Md_diagnostic_29 (by decide) (fun hc => ?_) (fun hc => ?_)
        · replace h := h.1 hc
          refine lv_iload_n hx hb d_Md_diagnostic_38 rfl (lv_at hl 2 rfl) ?_
          refine lv_if_ne (tgt := 54) hx hb d_Md_diagnostic_39 (by decide) (fun hc => ?_) (fun hc => ?_)
          · replace h := h.1 hc
            refine lv_iload_n hx hb d_Md_diagnostic_54 rfl (lv_at hl 2 rfl) ?_
            refine lv_iconst (v := (1 : Int32)) hx hb d_Md_diagnostic_55 (by decide) ?_
            refine lv_icmp_ne (tgt := 71) hx hb d_Md_diagnostic_56 (by decide) (fun hc => ?_) (fun hc => ?_)
            · replace h := h.1 hc
              refine lv_aload_n hx hb d_Md_diagnostic_71 rfl (lv_at hl 0 rfl) ?_
              refine va_get (D := D) (ci := 10) (C := R_Md) (T := T_Md) (N := 46) hx hb hts in_Md hown hK hst.1 54 (WS_o54 g σ1) rfl 41 (by decide) (hts _ gw1105) (fun _ h9 => h9) rfl d_Md_diagnostic_72 ?_
              refine lv_iload_n hx hb d_Md_diagnostic_75 rfl (lv_at hl 1 rfl) ?_
              obtain ⟨hi, h⟩ := h
              refine va_iald hx hb hK hst.1 88 0 (WS_a88 g σ1) rfl hi d_Md_diagnostic_76 ?_
              refine lv_iconst (v := (5 : Int32)) hx hb d_Md_diagnostic_77 (by decide) ?_
              refine lv_ishr hx hb d_Md_diagnostic_78 ?_
              refine lv_sipush (v := (255 : Int32)) hx hb d_Md_diagnostic_79 (by decide) ?_
              refine lv_iand hx hb d_Md_diagnostic_82 ?_
              exact kw_iret hx hb hr hlocks hst h d_Md_diagnostic_83
            · replace h := h.2 hc
              refine lv_aload_n hx hb d_Md_diagnostic_59 rfl (lv_at hl 0 rfl) ?_
              refine va_get (D := D) (ci := 10) (C := R_Md) (T := T_Md) (N := 46) hx hb hts in_Md hown hK hst.1 54 (WS_o54 g σ1) rfl 41 (by decide) (hts _ gw1105) (fun _ h9 => h9) rfl d_Md_diagnostic_60 ?_
              refine lv_iload_n hx hb d_Md_diagnostic_63 rfl (lv_at hl 1 rfl) ?_
              obtain ⟨hi, h⟩ := h
              refine va_iald hx hb hK hst.1 88 0 (WS_a88 g σ1) rfl hi d_Md_diagnostic_64 ?_
              refine lv_bipush (v := (13 : Int32)) hx hb d_Md_diagnostic_65 (by decide) ?_
              refine lv_ishr hx hb d_Md_diagnostic_67 ?_
              refine lv_goto (tgt := 83) hx hb d_Md_diagnostic_68 (by decide) ?_
              exact kw_iret hx hb hr hlocks hst h d_Md_diagnostic_83
          · replace h := h.2 hc
            refine lv_aload_n hx hb d_Md_diagnostic_42 rfl (lv_at hl 0 rfl) ?_
            refine va_get (D := D) (ci := 10) (C := R_Md) (T := T_Md) (N := 46) hx hb hts in_Md hown hK hst.1 54 (WS_o54 g σ1) rfl 41 (by decide) (hts _ gw1105) (fun _ h9 => h9) rfl d_Md_diagnostic_43 ?_
            refine lv_iload_n hx hb d_Md_diagnostic_46 rfl (lv_at hl 1 rfl) ?_
            obtain ⟨hi, h⟩ := h
            refine va_iald hx hb hK hst.1 88 0 (WS_a88 g σ1) rfl hi d_Md_diagnostic_47 ?_
            refine lv_bipush (v := (31 : Int32)) hx hb d_Md_diagnostic_48 (by decide) ?_
            refine lv_iand hx hb d_Md_diagnostic_50 ?_
            refine lv_goto (tgt := 83) hx hb d_Md_diagnostic_51 (by decide) ?_
            exact kw_iret hx hb hr hlocks hst h d_Md_diagnostic_83
        · replace h := h.2 hc
          refine lv_aload_n hx hb d_Md_diagnostic_32 rfl (lv_at hl 0 rfl) ?_
          refine lv_iconst (v := (2 : Int32)) hx hb d_Md_diagnostic_33 (by decide) ?_
          refine kw_calli (va_runV (As := [.int (2 : Int32)]) (rest := []) (b := g.1 54) ⟨hx, hb, hml, hown, hts⟩ (c_Md_fails l (2 : Int32) h) (cwV 1 hts (gd_v gw1325 gw1327 gs62 gw15 gw1328) rfl rfl rfl (by decide +kernel) ⟨Nat.le_of_ble_eq_true rfl, Nat.le_of_ble_eq_true rfl⟩) ⟨kw_blind (Zk_ok g), va_recv hK hst.1 rfl (WS_o54 g σ1), kw_pre (Zk_ok g) hK hZ hA hst⟩ rfl rfl hl.1 rfl (lv_room (Nat.le_of_ble_eq_true rfl)) d_Md_diagnostic_34 ⟨Nat.le_of_ble_eq_true rfl, Nat.le_of_ble_eq_true rfl⟩) hst hA (fun r2 σ2 H locs h hst => ?_)
          exact kw_iret hx hb hr hlocks hst h d_Md_diagnostic_37
    · replace h := h.2 hc
      refine lv_aload_n hx hb d_Md_diagnostic_14 rfl (lv_at hl 0 rfl) ?_
      refine lv_iconst (v := (1 : Int32)) hx hb d_Md_diagnostic_15 (by decide) ?_
      refine kw_calli (va_runV (As := [.int (1 : Int32)]) (rest := []) (b := g.1 54) ⟨hx, hb, hml, hown, hts⟩ (c_Md_fails l (1 : Int32) h) (cwV 1 hts (gd_v gw1325 gw1327 gs62 gw15 gw1328) rfl rfl rfl (by decide +kernel) ⟨Nat.le_of_ble_eq_true rfl, Nat.le_of_ble_eq_true rfl⟩) ⟨kw_blind (Zk_ok g), va_recv hK hst.1 rfl (WS_o54 g σ1), kw_pre (Zk_ok g) hK hZ hA hst⟩ rfl rfl hl.1 rfl (lv_room (Nat.le_of_ble_eq_true rfl)) d_Md_diagnostic_16 ⟨Nat.le_of_ble_eq_true rfl, Nat.le_of_ble_eq_true rfl⟩) hst hA (fun r2 σ2 H locs h hst => ?_)
      exact kw_iret hx hb hr hlocks hst h d_Md_diagnostic_19
set_option maxRecDepth 100000 in
set_option maxHeartbeats 4000000 in
theorem c_Md_diagnostic (l : Launch) {D : va_G} {g : Gm} {sz : Nat} (x1 : Int32) (x2 : Int32) {σ : Sg} {post : Int32 → Sg → Prop} (h : wq_Md_diagnostic x1 x2 σ post) : Met l y_Md_diagnostic (.code y_Md_diagnostic k_Md_diagnostic 3 (some .int) :: GW) { frames := 1, cells := 0, slots := 0, locals := 21 } (PcW D vwCl (WS g) g (Zk g) σ sz [.ref (g.1 54), .int x1, .int x2]) (QiW D vwCl (WS g) post (va_A (WS g σ) sz)) 0 0 (va_A (WS g σ) sz) := by
  refine kw_entry (own := R_Md) (by decide) rfl rfl (Nat.le_of_ble_eq_true rfl) ?_
  intro p e s m below meth c ls hsz C hin hl hst
  exact b_Md_diagnostic_0 C x1 x2 σ _ _ ls hl hst h
/-! SchemaDeskModel.reach (II)V -/
abbrev k_Md_reach : ByteArray := prog_12_method_68_code
abbrev y_Md_reach : MethodName := ⟨"SchemaDeskModel", "reach", "(II)V"⟩
theorem d_Md_reach_0 : decode k_Md_reach 0 = .ok (.aload_n 0, 1) := by decide +kernel
theorem d_Md_reach_1 : decode k_Md_reach 1 = .ok (.getfield 77, 3) := by decide +kernel
theorem d_Md_reach_4 : decode k_Md_reach 4 = .ok (.iload_n 1, 1) := by decide +kernel
theorem d_Md_reach_5 : decode k_Md_reach 5 = .ok (.iaload, 1) := by decide +kernel
theorem d_Md_reach_6 : decode k_Md_reach 6 = .ok (.bipush 6, 2) := by decide +kernel
theorem d_Md_reach_8 : decode k_Md_reach 8 = .ok (.if_icmp .eq 4, 3) := by decide +kernel
theorem d_Md_reach_11 : decode k_Md_reach 11 = .ok (.return_, 1) := by decide +kernel
theorem d_Md_reach_12 : decode k_Md_reach 12 = .ok (.aload_n 0, 1) := by decide +kernel
theorem d_Md_reach_13 : decode k_Md_reach 13 = .ok (.getfield 95, 3) := by decide +kernel
theorem d_Md_reach_16 : decode k_Md_reach 16 = .ok (.iload_n 2, 1) := by decide +kernel
theorem d_Md_reach_17 : decode k_Md_reach 17 = .ok (.iaload, 1) := by decide +kernel
theorem d_Md_reach_18 : decode k_Md_reach 18 = .ok (.istore_n 3, 1) := by decide +kernel
theorem d_Md_reach_19 : decode k_Md_reach 19 = .ok (.iload_n 3, 1) := by decide +kernel
theorem d_Md_reach_20 : decode k_Md_reach 20 = .ok (.ifCond .lt 53, 3) := by decide +kernel
theorem d_Md_reach_23 : decode k_Md_reach 23 = .ok (.bipush 12, 2) := by decide +kernel
theorem d_Md_reach_25 : decode k_Md_reach 25 = .ok (.istore 4, 2) := by decide +kernel
theorem d_Md_reach_27 : decode k_Md_reach 27 = .ok (.iload 4, 2) := by decide +kernel
theorem d_Md_reach_29 : decode k_Md_reach 29 = .ok (.bipush 14, 2) := by decide +kernel
theorem d_Md_reach_31 : decode k_Md_reach 31 = .ok (.if_icmp .gt 32, 3) := by decide +kernel
theorem d_Md_reach_34 : decode k_Md_reach 34 = .ok (.aload_n 0, 1) := by decide +kernel
theorem d_Md_reach_35 : decode k_Md_reach 35 = .ok (.iload_n 1, 1) := by decide +kernel
theorem d_Md_reach_36 : decode k_Md_reach 36 = .ok (.iload 4, 2) := by decide +kernel
theorem d_Md_reach_38 : decode k_Md_reach 38 = .ok (.iload_n 3, 1) := by decide +kernel
theorem d_Md_reach_39 : decode k_Md_reach 39 = .ok (.iload_n 2, 1) := by decide +kernel
theorem d_Md_reach_40 : decode k_Md_reach 40 = .ok (.invokevirtual 316, 3) := by decide +kernel
theorem d_Md_reach_43 : decode k_Md_reach 43 = .ok (.istore 5, 2) := by decide +kernel
theorem d_Md_reach_45 : decode k_Md_reach 45 = .ok (.iload 5, 2) := by decide +kernel
theorem d_Md_reach_47 : decode k_Md_reach 47 = .ok (.ifCond .lt 10, 3) := by decide +kernel
theorem d_Md_reach_50 : decode k_Md_reach 50 = .ok (.aload_n 0, 1) := by decide +kernel
theorem d_Md_reach_51 : decode k_Md_reach 51 = .ok (.iload 5, 2) := by decide +kernel
theorem d_Md_reach_53 : decode k_Md_reach 53 = .ok (.iload_n 3, 1) := by decide +kernel
theorem d_Md_reach_54 : decode k_Md_reach 54 = .ok (.invokevirtual 373, 3) := by decide +kernel
theorem d_Md_reach_57 : decode k_Md_reach 57 = .ok (.iinc 4 1, 3) := by decide +kernel
theorem d_Md_reach_60 : decode k_Md_reach 60 = .ok (.goto (-33), 3) := by decide +kernel
theorem d_Md_reach_63 : decode k_Md_reach 63 = .ok (.aload_n 0, 1) := by decide +kernel
theorem d_Md_reach_64 : decode k_Md_reach 64 = .ok (.getfield 98, 3) := by decide +kernel
theorem d_Md_reach_67 : decode k_Md_reach 67 = .ok (.iload_n 3, 1) := by decide +kernel
theorem d_Md_reach_68 : decode k_Md_reach 68 = .ok (.iaload, 1) := by decide +kernel
theorem d_Md_reach_69 : decode k_Md_reach 69 = .ok (.istore_n 3, 1) := by decide +kernel
theorem d_Md_reach_70 : decode k_Md_reach 70 = .ok (.goto (-51), 3) := by decide +kernel
theorem d_Md_reach_73 : decode k_Md_reach 73 = .ok (.bipush 15, 2) := by decide +kernel
theorem d_Md_reach_75 : decode k_Md_reach 75 = .ok (.istore_n 3, 1) := by decide +kernel
theorem d_Md_reach_76 : decode k_Md_reach 76 = .ok (.iload_n 3, 1) := by decide +kernel
theorem d_Md_reach_77 : decode k_Md_reach 77 = .ok (.bipush 17, 2) := by decide +kernel
theorem d_Md_reach_79 : decode k_Md_reach 79 = .ok (.if_icmp .gt 75, 3) := by decide +kernel
theorem d_Md_reach_82 : decode k_Md_reach 82 = .ok (.aload_n 0, 1) := by decide +kernel
theorem d_Md_reach_83 : decode k_Md_reach 83 = .ok (.getfield 129, 3) := by decide +kernel
theorem d_Md_reach_86 : decode k_Md_reach 86 = .ok (.bipush 22, 2) := by decide +kernel
theorem d_Md_reach_88 : decode k_Md_reach 88 = .ok (.iload_n 1, 1) := by decide +kernel
theorem d_Md_reach_89 : decode k_Md_reach 89 = .ok (.imul, 1) := by decide +kernel
theorem d_Md_reach_90 : decode k_Md_reach 90 = .ok (.iload_n 3, 1) := by decide +kernel
theorem d_Md_reach_91 : decode k_Md_reach 91 = .ok (.iadd, 1) := by decide +kernel
theorem d_Md_reach_92 : decode k_Md_reach 92 = .ok (.iaload, 1) := by decide +kernel
theorem d_Md_reach_93 : decode k_Md_reach 93 = .ok (.istore 4, 2) := by decide +kernel
theorem d_Md_reach_95 : decode k_Md_reach 95 = .ok (.iload 4, 2) := by decide +kernel
theorem d_Md_reach_97 : decode k_Md_reach 97 = .ok (.ifCond .lt 24, 3) := by decide +kernel
theorem d_Md_reach_100 : decode k_Md_reach 100 = .ok (.aload_n 0, 1) := by decide +kernel
theorem d_Md_reach_101 : decode k_Md_reach 101 = .ok (.getfield 77, 3) := by decide +kernel
theorem d_Md_reach_104 : decode k_Md_reach 104 = .ok (.iload 4, 2) := by decide +kernel
theorem d_Md_reach_106 : decode k_Md_reach 106 = .ok (.iaload, 1) := by decide +kernel
theorem d_Md_reach_107 : decode k_Md_reach 107 = .ok (.iconst 5, 1) := by decide +kernel
theorem d_Md_reach_108 : decode k_Md_reach 108 = .ok (.if_icmp .ne 13, 3) := by decide +kernel
theorem d_Md_reach_111 : decode k_Md_reach 111 = .ok (.aload_n 0, 1) := by decide +kernel
theorem d_Md_reach_112 : decode k_Md_reach 112 = .ok (.getfield 95, 3) := by decide +kernel
theorem d_Md_reach_115 : decode k_Md_reach 115 = .ok (.iload 4, 2) := by decide +kernel
theorem d_Md_reach_117 : decode k_Md_reach 117 = .ok (.iaload, 1) := by decide +kernel
theorem d_Md_reach_118 : decode k_Md_reach 118 = .ok (.goto 4, 3) := by decide +kernel
theorem d_Md_reach_121 : decode k_Md_reach 121 = .ok (.iconst (-1), 1) := by decide +kernel
theorem d_Md_reach_122 : decode k_Md_reach 122 = .ok (.istore 5, 2) := by decide +kernel
theorem d_Md_reach_124 : decode k_Md_reach 124 = .ok (.iload 5, 2) := by decide +kernel
theorem d_Md_reach_126 : decode k_Md_reach 126 = .ok (.ifCond .lt 22, 3) := by decide +kernel
theorem d_Md_reach_129 : decode k_Md_reach 129 = .ok (.aload_n 0, 1) := by decide +kernel
theorem d_Md_reach_130 : decode k_Md_reach 130 = .ok (.iload 5, 2) := by decide +kernel
theorem d_Md_reach_132 : decode k_Md_reach 132 = .ok (.iload_n 2, 1) := by decide +kernel
theorem d_Md_reach_133 : decode k_Md_reach 133 = .ok (.invokevirtual 373, 3) := by decide +kernel
theorem d_Md_reach_136 : decode k_Md_reach 136 = .ok (.aload_n 0, 1) := by decide +kernel
theorem d_Md_reach_137 : decode k_Md_reach 137 = .ok (.getfield 98, 3) := by decide +kernel
theorem d_Md_reach_140 : decode k_Md_reach 140 = .ok (.iload 5, 2) := by decide +kernel
theorem d_Md_reach_142 : decode k_Md_reach 142 = .ok (.iaload, 1) := by decide +kernel
theorem d_Md_reach_143 : decode k_Md_reach 143 = .ok (.istore 5, 2) := by decide +kernel
theorem d_Md_reach_145 : decode k_Md_reach 145 = .ok (.goto (-21), 3) := by decide +kernel
theorem d_Md_reach_148 : decode k_Md_reach 148 = .ok (.iinc 3 1, 3) := by decide +kernel
theorem d_Md_reach_151 : decode k_Md_reach 151 = .ok (.goto (-75), 3) := by decide +kernel
theorem d_Md_reach_154 : decode k_Md_reach 154 = .ok (.aload_n 0, 1) := by decide +kernel
theorem d_Md_reach_155 : decode k_Md_reach 155 = .ok (.getfield 129, 3) := by decide +kernel
theorem d_Md_reach_158 : decode k_Md_reach 158 = .ok (.bipush 22, 2) := by decide +kernel
theorem d_Md_reach_160 : decode k_Md_reach 160 = .ok (.iload_n 1, 1) := by decide +kernel
theorem d_Md_reach_161 : decode k_Md_reach 161 = .ok (.imul, 1) := by decide +kernel
theorem d_Md_reach_162 : decode k_Md_reach 162 = .ok (.bipush 19, 2) := by decide +kernel
theorem d_Md_reach_164 : decode k_Md_reach 164 = .ok (.iadd, 1) := by decide +kernel
theorem d_Md_reach_165 : decode k_Md_reach 165 = .ok (.iaload, 1) := by decide +kernel
theorem d_Md_reach_166 : decode k_Md_reach 166 = .ok (.istore_n 3, 1) := by decide +kernel
theorem d_Md_reach_167 : decode k_Md_reach 167 = .ok (.iload_n 3, 1) := by decide +kernel
theorem d_Md_reach_168 : decode k_Md_reach 168 = .ok (.ifCond .lt 23, 3) := by decide +kernel
theorem d_Md_reach_171 : decode k_Md_reach 171 = .ok (.aload_n 0, 1) := by decide +kernel
theorem d_Md_reach_172 : decode k_Md_reach 172 = .ok (.getfield 132, 3) := by decide +kernel
theorem d_Md_reach_175 : decode k_Md_reach 175 = .ok (.iload_n 3, 1) := by decide +kernel
theorem d_Md_reach_176 : decode k_Md_reach 176 = .ok (.iaload, 1) := by decide +kernel
theorem d_Md_reach_177 : decode k_Md_reach 177 = .ok (.ifCond .lt 14, 3) := by decide +kernel
theorem d_Md_reach_180 : decode k_Md_reach 180 = .ok (.aload_n 0, 1) := by decide +kernel
theorem d_Md_reach_181 : decode k_Md_reach 181 = .ok (.aload_n 0, 1) := by decide +kernel
theorem d_Md_reach_182 : decode k_Md_reach 182 = .ok (.getfield 132, 3) := by decide +kernel
theorem d_Md_reach_185 : decode k_Md_reach 185 = .ok (.iload_n 3, 1) := by decide +kernel
theorem d_Md_reach_186 : decode k_Md_reach 186 = .ok (.iaload, 1) := by decide +kernel
theorem d_Md_reach_187 : decode k_Md_reach 187 = .ok (.iload_n 2, 1) := by decide +kernel
theorem d_Md_reach_188 : decode k_Md_reach 188 = .ok (.invokevirtual 373, 3) := by decide +kernel
theorem d_Md_reach_191 : decode k_Md_reach 191 = .ok (.return_, 1) := by decide +kernel
def wb_Md_reach_0 (F : Nat → Int32 → Int32 → Int32 → Int32 → Int32 → Sg → Prop) (post : Sg → Prop) (x1 : Int32) (x2 : Int32) (σ : Sg) : Prop := (vp_in x1 240 ∧ (((σ.1 59 x1.toNatClampNeg) = (6 : Int32) → (vp_in x2 240 ∧ F 1 x1 x2 (σ.1 65 x2.toNatClampNeg) 0 0 σ)) ∧ (¬ (σ.1 59 x1.toNatClampNeg) = (6 : Int32) → post σ)))
def wb_Md_reach_1 (F : Nat → Int32 → Int32 → Int32 → Int32 → Int32 → Sg → Prop) (post : Sg → Prop) (x1 : Int32) (x2 : Int32) (x3 : Int32) (σ : Sg) : Prop := ((x3 < 0 → F 2 x1 x2 (15 : Int32) 0 0 σ) ∧ (¬ x3 < 0 → F 3 x1 x2 x3 (12 : Int32) 0 σ))
def wb_Md_reach_2 (F : Nat → Int32 → Int32 → Int32 → Int32 → Int32 → Sg → Prop) (post : Sg → Prop) (x1 : Int32) (x2 : Int32) (x3 : Int32) (σ : Sg) : Prop := (((17 : Int32) < x3 → (vp_in (((22 : Int32) * x1) + (19 : Int32)) 3520 ∧ (((σ.1 76 ((((22 : Int32) * x1) + (19 : Int32)) : Int32).toNatClampNeg) < 0 → post σ) ∧ (¬ (σ.1 76 ((((22 : Int32) * x1) + (19 : Int32)) : Int32).toNatClampNeg) < 0 → (vp_in (σ.1 76 ((((22 : Int32) * x1) + (19 : Int32)) : Int32).toNatClampNeg) 160 ∧ (((σ.1 77 ((σ.1 76 ((((22 : Int32) * x1) + (19 : Int32)) : Int32).toNatClampNeg) : Int32).toNatClampNeg) < 0 → post σ) ∧ (¬ (σ.1 77 ((σ.1 76 ((((22 : Int32) * x1) + (19 : Int32)) : Int32).toNatClampNeg) : Int32).toNatClampNeg) < 0 → (vp_in (σ.1 76 ((((22 : Int32) * x1) + (19 : Int32)) : Int32).toNatClampNeg) 160 ∧ (wq_Md_mark (σ.1 77 ((σ.1 76 ((((22 : Int32) * x1) + (19 : Int32)) : Int32).toNatClampNeg) : Int32).toNatClampNeg) x2 σ (fun σ1 => post σ1)))))))))) ∧ (¬ (17 : Int32) < x3 → (vp_in (((22 : Int32) * x1) + x3) 3520 ∧ (((σ.1 76 ((((22 : Int32) * x1) + x3) : Int32).toNatClampNeg) < 0 → F 4 x1 x2 x3 0 (-1 : Int32) σ) ∧ (¬ (σ.1 76 ((((22 : Int32) * x1) + x3) : Int32).toNatClampNeg) < 0 → (vp_in (σ.1 76 ((((22 : Int32) * x1) + x3) : Int32).toNatClampNeg) 240 ∧ ((¬ (σ.1 59 ((σ.1 76 ((((22 : Int32) * x1) + x3) : Int32).toNatClampNeg) : Int32).toNatClampNeg) = (5 : Int32) → F 4 x1 x2 x3 0 (-1 : Int32) σ) ∧ ((σ.1 59 ((σ.1 76 ((((22 : Int32) * x1) + x3) : Int32).toNatClampNeg) : Int32).toNatClampNeg) = (5 : Int32) → (vp_in (σ.1 76 ((((22 : Int32) * x1) + x3) : Int32).toNatClampNeg) 240 ∧ F 4 x1 x2 x3 0 (σ.1 65 ((σ.1 76 ((((22 : Int32) * x1) + x3) : Int32).toNatClampNeg) : Int32).toNatClampNeg) σ)))))))))
def wb_Md_reach_3 (F : Nat → Int32 → Int32 → Int32 → Int32 → Int32 → Sg → Prop) (post : Sg → Prop) (x1 : Int32) (x2 : Int32) (x3 : Int32) (x4 : Int32) (σ : Sg) : Prop := (((14 : Int32) < x4 → (vp_in x3 240 ∧ F 1 x1 x2 (σ.1 66 x3.toNatClampNeg) 0 0 σ)) ∧ (¬ (14 : Int32) < x4 → (wq_Md_spokenOf x1 x4 x3 x2 σ (fun r1 σ1 => ((r1 < 0 → F 3 x1 x2 x3 (x4 + 1) 0 σ1) ∧ (¬ r1 < 0 → (wq_Md_mark r1 x3 σ1 (fun σ2 => F 3 x1 x2 x3 (x4 + 1) 0 σ2))))))))
def wb_Md_reach_4 (F : Nat → Int32 → Int32 → Int32 → Int32 → Int32 → Sg → Prop) (post : Sg → Prop) (x1 : Int32) (x2 : Int32) (x3 : Int32) (x5 : Int32) (σ : Sg) : Prop := ((x5 < 0 → F 2 x1 x2 (x3 + 1) 0 0 σ) ∧ (¬ x5 < 0 → (wq_Md_mark x5 x2 σ (fun σ1 => (vp_in x5 240 ∧ F 4 x1 x2 x3 0 (σ1.1 66 x5.toNatClampNeg) σ1)))))
def wp_Md_reach (post : Sg → Prop) : Nat → Nat → Int32 → Int32 → Int32 → Int32 → Int32 → Sg → Prop
  | 0, _, _, _, _, _, _, _ => False
  | n + 1, k, x1, x2, x3, x4, x5, σ => match k with
    | 0 => wb_Md_reach_0 (wp_Md_reach post n) post x1 x2 σ
    | 1 => wb_Md_reach_1 (wp_Md_reach post n) post x1 x2 x3 σ
    | 2 => wb_Md_reach_2 (wp_Md_reach post n) post x1 x2 x3 σ
    | 3 => wb_Md_reach_3 (wp_Md_reach post n) post x1 x2 x3 x4 σ
    | 4 => wb_Md_reach_4 (wp_Md_reach post n) post x1 x2 x3 x5 σ
    | _ => False
def wq_Md_reach (x1 : Int32) (x2 : Int32) (σ : Sg) (post : Sg → Prop) : Prop := ∃ n, wp_Md_reach post n 0 x1 x2 0 0 0 σ
def J_Md_reach_1 (p : Program) (l : Launch) (e : Env) (s : State) (m : MethodId) (args : Array Value) (below : List Frame) (meth : Method) (c : Code) (D : va_G) (g : Gm) (A : Nat → Prop) (post : Sg → Prop) (F : Nat → Int32 → Int32 → Int32 → Int32 → Int32 → Sg → Prop) : Prop := ∀ (x1 : Int32) (x2 : Int32) (x3 : Int32) (σ : Sg) (H : Heap) (locs : List Loc) (ls : Array Slot), lv_has ls 6 [(0, .ref (g.1 54)), (1, .int x1), (2, .int x2), (3, .int x3)] → Wst D vwCl (WS g) A s σ H locs → F 1 x1 x2 x3 0 0 σ → W p l e { frames := 4, cells := 0, slots := 0, locals := 100 } s m args below meth c H locs 0 0 (MQ below (QvW D vwCl (WS g) post A) args s 0 0 A) (F0 m 19 ls [])
def J_Md_reach_2 (p : Program) (l : Launch) (e : Env) (s : State) (m : MethodId) (args : Array Value) (below : List Frame) (meth : Method) (c : Code) (D : va_G) (g : Gm) (A : Nat → Prop) (post : Sg → Prop) (F : Nat → Int32 → Int32 → Int32 → Int32 → Int32 → Sg → Prop) : Prop := ∀ (x1 : Int32) (x2 : Int32) (x3 : Int32) (σ : Sg) (H : Heap) (locs : List Loc) (ls : Array Slot), lv_has ls 6 [(0, .ref (g.1 54)), (1, .int x1), (2, .int x2), (3, .int x3)] → Wst D vwCl (WS g) A s σ H locs → F 2 x1 x2 x3 0 0 σ → W p l e { frames := 4, cells := 0, slots := 0, locals := 100 } s m args below meth c H locs 0 0 (MQ below (QvW D vwCl (WS g) post A) args s 0 0 A) (F0 m 76 ls [])
def J_Md_reach_3 (p : Program) (l : Launch) (e : Env) (s : State) (m : MethodId) (args : Array Value) (below : List Frame) (meth : Method) (c : Code) (D : va_G) (g : Gm) (A : Nat → Prop) (post : Sg → Prop) (F : Nat → Int32 → Int32 → Int32 → Int32 → Int32 → Sg → Prop) : Prop := ∀ (x1 : Int32) (x2 : Int32) (x3 : Int32) (x4 : Int32) (σ : Sg) (H : Heap) (locs : List Loc) (ls : Array Slot), lv_has ls 6 [(0, .ref (g.1 54)), (1, .int x1), (2, .int x2), (3, .int x3), (4, .int x4)] → Wst D vwCl (WS g) A s σ H locs → F 3 x1 x2 x3 x4 0 σ → W p l e { frames := 4, cells := 0, slots := 0, locals := 100 } s m args below meth c H locs 0 0 (MQ below (QvW D vwCl (WS g) post A) args s 0 0 A) (F0 m 27 ls [])
def J_Md_reach_4 (p : Program) (l : Launch) (e : Env) (s : State) (m : MethodId) (args : Array Value) (below : List Frame) (meth : Method) (c : Code) (D : va_G) (g : Gm) (A : Nat → Prop) (post : Sg → Prop) (F : Nat → Int32 → Int32 → Int32 → Int32 → Int32 → Sg → Prop) : Prop := ∀ (x1 : Int32) (x2 : Int32) (x3 : Int32) (x5 : Int32) (σ : Sg) (H : Heap) (locs : List Loc) (ls : Array Slot), lv_has ls 6 [(0, .ref (g.1 54)), (1, .int x1), (2, .int x2), (3, .int x3), (5, .int x5)] → Wst D vwCl (WS g) A s σ H locs → F 4 x1 x2 x3 0 x5 σ → W p l e { frames := 4, cells := 0, slots := 0, locals := 100 } s m args below meth c H locs 0 0 (MQ below (QvW D vwCl (WS g) post A) args s 0 0 A) (F0 m 124 ls [])
set_option maxRecDepth 100000 in
set_option maxHeartbeats 4000000 in
theorem b_Md_reach_0 {p : Program} {l : Launch} {e : Env} {s : State} {m : MethodId} {args : Array Value} {below : List Frame} {meth : Method} {c : Code} {D : va_G} {g : Gm} {A : Nat → Prop} {post : Sg → Prop} {F : Nat → Int32 → Int32 → Int32 → Int32 → Int32 → Sg → Prop} (C : kC p s m args meth c k_Md_reach 6 (none) GW R_Md D vwCl g (Zk g) A) (j1 : J_Md_reach_1 p l e s m args below meth c D g A post F) (x1 : Int32) (x2 : Int32) (σ : Sg) (H : Heap) (locs : List Loc) (ls : Array Slot) (hl : lv_has ls 6 [(0, .ref (g.1 54)), (1, .int x1), (2, .int x2)]) (hst : Wst D vwCl (WS g) A s σ H locs) (h : wb_Md_reach_0 F post x1 x2 σ) : W p l e { frames := 4, cells := 0, slots := 0, locals := 100 } s m args below meth c H locs 0 0 (MQ below (QvW D vwCl (WS g) post A) args s 0 0 A) (F0 m 0 ls []) := by
  obtain ⟨hx, hb, hr, hml, hown, hts, hlocks, hK, hZ, hA⟩ := C
  unfold wb_Md_reach_0 at h
  refine lv_aload_n hx hb d_Md_reach_0 rfl (lv_at hl 0 rfl) ?_
  refine va_get (D := D) (ci := 10) (C := R_Md) (T := T_Md) (N := 46) hx hb hts in_Md hown hK hst.1 54 (WS_o54 g σ) rfl 5 (by decide) (hts _ gw1069) (fun _ h9 => h9) rfl d_Md_reach_1 ?_
  refine lv_iload_n hx hb d_Md_reach_4 rfl (lv_at hl 1 rfl) ?_
  obtain ⟨hi, h⟩ := h
  refine va_iald hx hb hK hst.1 59 0 (WS_a59 g σ) rfl hi d_Md_reach_5 ?_
  refine lv_bipush (v := (6 : Int32)) hx hb d_Md_reach_6 (by decide) ?_
  refine lv_icmp_eq (tgt := 12) hx hb d_Md_reach_8 (by decide) (fun hc => ?_) (fun hc => ?_)
  · replace h := h.1 hc
    refine lv_aload_n hx hb d_Md_reach_12 rfl (lv_at hl 0 rfl) ?_
    refine va_get (D := D) (ci := 10) (C := R_Md) (T := T_Md) (N := 46) hx hb hts in_Md hown hK hst.1 54 (WS_o54 g σ) rfl 11 (by decide) (hts _ gw1075) (fun _ h9 => h9) rfl d_Md_reach_13 ?_
    refine lv_iload_n hx hb d_Md_reach_16 rfl (lv_at hl 2 rfl) ?_
    obtain ⟨hi, h⟩ := h
    refine va_iald hx hb hK hst.1 65 0 (WS_a65 g σ) rfl hi d_Md_reach_17 ?_
    refine lv_istore_n hx hb d_Md_reach_18 rfl hl (by decide) rfl (fun ls hl => ?_)
    have hl : lv_has ls 6 [(3, .int (σ.1 65 x2.toNatClampNeg)), (0, .ref (g.1 54)), (1, .int x1), (2, .int x2)] := hl
    exact j1 x1 x2 (σ.1 65 x2.toNatClampNeg) σ _ _ _ (lv_sub hl [1, 2, 3, 0] rfl) hst h
  · replace h := h.2 hc
    exact kw_vret hx hb hr hlocks hst h d_Md_reach_11
set_option maxRecDepth 100000 in
set_option maxHeartbeats 4000000 in
theorem b_Md_reach_1 {p : Program} {l : Launch} {e : Env} {s : State} {m : MethodId} {args : Array Value} {below : List Frame} {meth : Method} {c : Code} {D : va_G} {g : Gm} {A : Nat → Prop} {post : Sg → Prop} {F : Nat → Int32 → Int32 → Int32 → Int32 → Int32 → Sg → Prop} (C : kC p s m args meth c k_Md_reach 6 (none) GW R_Md D vwCl g (Zk g) A) (j2 : J_Md_reach_2 p l e s m args below meth c D g A post F) (j3 : J_Md_reach_3 p l e s m args below meth c D g A post F) (x1 : Int32) (x2 : Int32) (x3 : Int32) (σ : Sg) (H : Heap) (locs : List Loc) (ls : Array Slot) (hl : lv_has ls 6 [(0, .ref (g.1 54)), (1, .int x1), (2, .int x2), (3, .int x3)]) (hst : Wst D vwCl (WS g) A s σ H locs) (h : wb_Md_reach_1 F post x1 x2 x3 σ) : W p l e { frames := 4, cells := 0, slots := 0, locals := 100 } s m args below meth c H locs 0 0 (MQ below (QvW D vwCl (WS g) post A) args s 0 0 A) (F0 m 19 ls []) := by
  obtain ⟨hx, hb, hr, hml, hown, hts, hlocks, hK, hZ, hA⟩ := C
  unfold wb_Md_reach_1 at h
  refine lv_iload_n hx hb d_Md_reach_19 rfl (lv_at hl 3 rfl) ?_
  refine lv_if_lt (tgt := 73) hx hb d_Md_reach_20 (by decide) (fun hc => ?_) (fun hc => ?_)
  · replace h := h.1 hc
    refine lv_bipush (v := (15 : Int32)) hx hb d_Md_reach_73 (by decide) ?_
    refine lv_istore_n hx hb d_Md_reach_75 rfl hl (by decide) rfl (fun ls hl => ?_)
    have hl : lv_has ls 6 [(3, .int (15 : Int32)), (0, .ref (g.1 54)), (1, .int x1), (2, .int x2)] := hl
    exact j2 x1 x2 (15 : Int32) σ _ _ _ (lv_sub hl [1, 2, 3, 0] rfl) hst h
  · replace h := h.2 hc
    refine lv_bipush (v := (12 : Int32)) hx hb d_Md_reach_23 (by decide) ?_
    refine lv_istore hx hb d_Md_reach_25 hl (by decide) rfl (fun ls hl => ?_)
    have hl : lv_has ls 6 [(4, .int (12 : Int32)), (0, .ref (g.1 54)), (1, .int x1), (2, .int x2), (3, .int x3)] := hl
    exact j3 x1 x2 x3 (12 : Int32) σ _ _ _ (lv_sub hl [1, 2, 3, 4, 0] rfl) hst h
set_option maxRecDepth 100000 in
set_option maxHeartbeats 4000000 in
theorem b_Md_reach_2 {p : Program} {l : Launch} {e : Env} {s : State} {m : MethodId} {args : Array Value} {below : List Frame} {meth : Method} {c : Code} {D : va_G} {g : Gm} {A : Nat → Prop} {post : Sg → Prop} {F : Nat → Int32 → Int32 → Int32 → Int32 → Int32 → Sg → Prop} (C : kC p s m args meth c k_Md_reach 6 (none) GW R_Md D vwCl g (Zk g) A) (j4 : J_Md_reach_4 p l e s m args below meth c D g A post F) (x1 : Int32) (x2 : Int32) (x3 : Int32) (σ : Sg) (H : Heap) (locs : List Loc) (ls : Array Slot) (hl : lv_has ls 6 [(0, .ref (g.1 54)), (1, .int x1), (2, .int x2), (3, .int x3)]) (hst : Wst D vwCl (WS g) A s σ H locs) (h : wb_Md_reach_2 F post x1 x2 x3 σ) : W p l e { frames := 4, cells := 0, slots := 0, locals := 100 } s m args below meth c H locs 0 0 (MQ below (QvW D vwCl (WS g) post A) args s 0 0 A) (F0 m 76 ls []) := by
  obtain ⟨hx, hb, hr, hml, hown, hts, hlocks, hK, hZ, hA⟩ := C
  unfold wb_Md_reach_2 at h
  refine lv_iload_n hx hb d_Md_reach_76 rfl (lv_at hl 3 rfl) ?_
  refine lv_bipush (v := (17 : Int32)) hx hb d_Md_reach_77 (by decide) ?_
  refine lv_icmp_gt (tgt := 154) hx hb d_Md_reach_79 (by decide) (fun hc => ?_) (fun hc => ?_)
  · replace h := h.1 hc
    refine lv_aload_n hx hb d_Md_reach_154 rfl (lv_at hl 0 rfl) ?_
    refine va_get (D := D) (ci := 10) (C := R_Md) (T := T_Md) (N := 46) hx hb hts in_Md hown hK hst.1 54 (WS_o54 g σ) rfl 25 (by decide) (hts _ gw1089) (fun _ h9 => h9) rfl d_Md_reach_155 ?_
    refine lv_bipush (v := (22 : Int32)) hx hb d_Md_reach_158 (by decide) ?_
    refine lv_iload_n hx hb d_Md_reach_160 rfl (lv_at hl 1 rfl) ?_
    refine lv_imul hx hb d_Md_reach_161 ?_
    refine lv_bipush (v := (19 : Int32)) hx hb d_Md_reach_162 (by decide) ?_
    refine lv_iadd hx hb d_Md_reach_164 ?_
    obtain ⟨hi, h⟩ := h
    refine va_iald hx hb hK hst.1 76 0 (WS_a76 g σ) rfl hi d_Md_reach_165 ?_
    refine lv_istore_n hx hb d_Md_reach_166 rfl hl (by decide) rfl (fun ls hl => ?_)
    have hl : lv_has ls 6 [(3, .int (σ.1 76 ((((22 : Int32) * x1) + (19 : Int32)) : Int32).toNatClampNeg)), (0, .ref (g.1 54)), (1, .int x1), (2, .int x2)] := hl
    refine lv_iload_n hx hb d_Md_reach_167 rfl (lv_at hl 0 rfl) ?_
    refine lv_if_lt (tgt := 191) hx hb d_Md_reach_168 (by decide) (fun hc => ?_) (fun hc => ?_)
    · replace h := h.1 hc
      exact kw_vret hx hb hr hlocks hst h d_Md_reach_191
    · replace h := h.2 hc
      refine lv_aload_n hx hb d_Md_reach_171 rfl (lv_at hl 1 rfl) ?_
      refine va_get (D := D) (ci := 10) (C := R_Md) (T := T_Md) (N := 46) hx hb hts in_Md hown hK hst.1 54 (WS_o54 g σ) rfl 26 (by decide) (hts _ gw1090) (fun _ h9 => h9) rfl d_Md_reach_172 ?_
      refine lv_iload_n hx hb d_Md_reach_175 rfl (lv_at hl 0 rfl) ?_
      obtain ⟨hi, h⟩ := h
      refine va_iald hx hb hK hst.1 77 0 (WS_a77 g σ) rfl hi d_Md_reach_176 ?_
      refine lv_if_lt (tgt := 191) hx hb d_Md_reach_177 (by decide) (fun hc => ?_) (fun hc => ?_)
      · replace h := h.1 hc
        exact kw_vret hx hb hr hlocks hst h d_Md_reach_191
      · replace h := h.2 hc
        refine lv_aload_n hx hb d_Md_reach_180 rfl (lv_at hl 1 rfl) ?_
        refine lv_aload_n hx hb d_Md_reach_181 rfl (lv_at hl 1 rfl) ?_
        refine va_get (D := D) (ci := 10) (C := R_Md) (T := T_Md) (N := 46) hx hb hts in_Md hown hK hst.1 54 (WS_o54 g σ) rfl 26 (by decide) (hts _ gw1090) (fun _ h9 => h9) rfl d_Md_reach_182 ?_
        refine lv_iload_n hx hb d_Md_reach_185 rfl (lv_at hl 0 rfl) ?_
        obtain ⟨hi, h⟩ := h
        refine va_iald hx hb hK hst.1 77 0 (WS_a77 g σ) rfl hi d_Md_reach_186 ?_
        refine lv_iload_n hx hb d_Md_reach_187 rfl (lv_at hl 3 rfl) ?_
        refine kw_callv (va_runV (As := [.int (σ.1 77 ((σ.1 76 ((((22 : Int32) * x1) + (19 : Int32)) : Int32).toNatClampNeg) : Int32).toNatClampNeg), .int x2]) (rest := []) (b := g.1 54) ⟨hx, hb, hml, hown, hts⟩ (c_Md_mark l (σ.1 77 ((σ.1 76 ((((22 : Int32) * x1) + (19 : Int32)) : Int32).toNatClampNeg) : Int32).toNatClampNeg) x2 h) (cwV 2 hts (gd_v gw1436 gw1438 gs85 gw15 gw1439) rfl rfl rfl (by decide +kernel) ⟨Nat.le_of_ble_eq_true rfl, Nat.le_of_ble_eq_true rfl⟩) ⟨kw_blind (Zk_ok g), va_recv hK hst.1 rfl (WS_o54 g σ), kw_pre (Zk_ok g) hK hZ hA hst⟩ rfl rfl hl.1 rfl (lv_room (Nat.le_of_ble_eq_true rfl)) d_Md_reach_188 ⟨Nat.le_of_ble_eq_true rfl, Nat.le_of_ble_eq_true rfl⟩) hst hA (fun σ1 H locs h hst => ?_)
        exact kw_vret hx hb hr hlocks hst h d_Md_reach_191
  · replace h := h.2 hc
    refine lv_aload_n hx hb d_Md_reach_82 rfl (lv_at hl 0 rfl) ?_
    refine va_get (D := D) (ci := 10) (C := R_Md) (T := T_Md) (N := 46) hx hb hts in_Md hown hK hst.1 54 (WS_o54 g σ) rfl 25 (by decide) (hts _ gw1089) (fun _ h9 => h9) rfl d_Md_reach_83 ?_
    refine lv_bipush (v := (22 : Int32)) hx hb d_Md_reach_86 (by decide) ?_
    refine lv_iload_n hx hb d_Md_reach_88 rfl (lv_at hl 1 rfl) ?_
    refine lv_imul hx hb d_Md_reach_89 ?_
    refine lv_iload_n hx hb d_Md_reach_90 rfl (lv_at hl 3 rfl) ?_
    refine lv_iadd hx hb d_Md_reach_91 ?_
    obtain ⟨hi, h⟩ := h
    refine va_iald hx hb hK hst.1 76 0 (WS_a76 g σ) rfl hi d_Md_reach_92 ?_
    refine lv_istore hx hb d_Md_reach_93 hl (by decide) rfl (fun ls hl => ?_)
    have hl : lv_has ls 6 [(4, .int (σ.1 76 ((((22 : Int32) * x1) + x3) : Int32).toNatClampNeg)), (0, .ref (g.1 54)), (1, .int x1), (2, .int x2), (3, .int x3)] := hl
    refine lv_iload hx hb d_Md_reach_95 (lv_at hl 0 rfl) ?_
    refine lv_if_lt (tgt := 121) hx hb d_Md_reach_97 (by decide) (fun hc => ?_) (fun hc => ?_)
    · replace h := h.1 hc
      refine lv_iconst (v := (-1 : Int32)) hx hb d_Md_reach_121 (by decide) ?_
      refine lv_istore hx hb d_Md_reach_122 hl (by decide) rfl (fun ls hl => ?_)
      have hl : lv_has ls 6 [(5, .int (-1 : Int32)), (4, .int (σ.1 76 ((((22 : Int32) * x1) + x3) : Int32).toNatClampNeg)), (0, .ref (g.1 54)), (1, .int x1), (2, .int x2), (3, .int x3)] := hl
      exact j4 x1 x2 x3 (-1 : Int32) σ _ _ _ (lv_sub hl [2, 3, 4, 5, 0] rfl) hst h
    · replace h := h.2 hc
      refine lv_aload_n hx hb d_Md_reach_100 rfl (lv_at hl 1 rfl) ?_
      refine va_get (D := D) (ci := 10) (C := R_Md) (T := T_Md) (N := 46) hx hb hts in_Md hown hK hst.1 54 (WS_o54 g σ) rfl 5 (by decide) (hts _ gw1069) (fun _ h9 => h9) rfl d_Md_reach_101 ?_
      refine lv_iload hx hb d_Md_reach_104 (lv_at hl 0 rfl) ?_
      obtain ⟨hi, h⟩ := h
      refine va_iald hx hb hK hst.1 59 0 (WS_a59 g σ) rfl hi d_Md_reach_106 ?_
      refine lv_iconst (v := (5 : Int32)) hx hb d_Md_reach_107 (by decide) ?_
      refine lv_icmp_ne (tgt := 121) hx hb d_Md_reach_108 (by decide) (fun hc => ?_) (fun hc => ?_)
      · replace h := h.1 hc
        refine lv_iconst (v := (-1 : Int32)) hx hb d_Md_reach_121 (by decide) ?_
        refine lv_istore hx hb d_Md_reach_122 hl (by decide) rfl (fun ls hl => ?_)
        have hl : lv_has ls 6 [(5, .int (-1 : Int32)), (4, .int (σ.1 76 ((((22 : Int32) * x1) + x3) : Int32).toNatClampNeg)), (0, .ref (g.1 54)), (1, .int x1), (2, .int x2), (3, .int x3)] := hl
        exact j4 x1 x2 x3 (-1 : Int32) σ _ _ _ (lv_sub hl [2, 3, 4, 5, 0] rfl) hst h
      · replace h := h.2 hc
        refine lv_aload_n hx hb d_Md_reach_111 rfl (lv_at hl 1 rfl) ?_
        refine va_get (D := D) (ci := 10) (C := R_Md) (T := T_Md) (N := 46) hx hb hts in_Md hown hK hst.1 54 (WS_o54 g σ) rfl 11 (by decide) (hts _ gw1075) (fun _ h9 => h9) rfl d_Md_reach_112 ?_
        refine lv_iload hx hb d_Md_reach_115 (lv_at hl 0 rfl) ?_
        obtain ⟨hi, h⟩ := h
        refine va_iald hx hb hK hst.1 65 0 (WS_a65 g σ) rfl hi d_Md_reach_117 ?_
        refine lv_goto (tgt := 122) hx hb d_Md_reach_118 (by decide) ?_
        refine lv_istore hx hb d_Md_reach_122 hl (by decide) rfl (fun ls hl => ?_)
        have hl : lv_has ls 6 [(5, .int (σ.1 65 ((σ.1 76 ((((22 : Int32) * x1) + x3) : Int32).toNatClampNeg) : Int32).toNatClampNeg)), (4, .int (σ.1 76 ((((22 : Int32) * x1) + x3) : Int32).toNatClampNeg)), (0, .ref (g.1 54)), (1, .int x1), (2, .int x2), (3, .int x3)] := hl
        exact j4 x1 x2 x3 (σ.1 65 ((σ.1 76 ((((22 : Int32) * x1) + x3) : Int32).toNatClampNeg) : Int32).toNatClampNeg) σ _ _ _ (lv_sub hl [2, 3, 4, 5, 0] rfl) hst h
set_option maxRecDepth 100000 in
set_option maxHeartbeats 4000000 in
theorem b_Md_reach_3 {p : Program} {l : Launch} {e : Env} {s : State} {m : MethodId} {args : Array Value} {below : List Frame} {meth : Method} {c : Code} {D : va_G} {g : Gm} {A : Nat → Prop} {post : Sg → Prop} {F : Nat → Int32 → Int32 → Int32 → Int32 → Int32 → Sg → Prop} (C : kC p s m args meth c k_Md_reach 6 (none) GW R_Md D vwCl g (Zk g) A) (j1 : J_Md_reach_1 p l e s m args below meth c D g A post F) (j3 : J_Md_reach_3 p l e s m args below meth c D g A post F) (x1 : Int32) (x2 : Int32) (x3 : Int32) (x4 : Int32) (σ : Sg) (H : Heap) (locs : List Loc) (ls : Array Slot) (hl : lv_has ls 6 [(0, .ref (g.1 54)), (1, .int x1), (2, .int x2), (3, .int x3), (4, .int x4)]) (hst : Wst D vwCl (WS g) A s σ H locs) (h : wb_Md_reach_3 F post x1 x2 x3 x4 σ) : W p l e { frames := 4, cells := 0, slots := 0, locals := 100 } s m args below meth c H locs 0 0 (MQ below (QvW D vwCl (WS g) post A) args s 0 0 A) (F0 m 27 ls []) := by
  obtain ⟨hx, hb, hr, hml, hown, hts, hlocks, hK, hZ, hA⟩ := C
  unfold wb_Md_reach_3 at h
  refine lv_iload hx hb d_Md_reach_27 (lv_at hl 4 rfl) ?_
  refine lv_bipush (v := (14 : Int32)) hx hb d_Md_reach_29 (by decide) ?_
  refine lv_icmp_gt (tgt := 63) hx hb d_Md_reach_31 (by decide) (fun hc => ?_) (fun hc => ?_)
  · replace h := h.1 hc
    refine lv_aload_n hx hb d_Md_reach_63 rfl (lv_at hl 0 rfl) ?_
    refine va_get (D := D) (ci := 10) (C := R_Md) (T := T_Md) (N := 46) hx hb hts in_Md hown hK hst.1 54 (WS_o54 g σ) rfl 12 (by decide) (hts _ gw1076) (fun _ h9 => h9) rfl d_Md_reach_64 ?_
    refine lv_iload_n hx hb d_Md_reach_67 rfl (lv_at hl 3 rfl) ?_
    obtain ⟨hi, h⟩ := h
    refine va_iald hx hb hK hst.1 66 0 (WS_a66 g σ) rfl hi d_Md_reach_68 ?_
    refine lv_istore_n hx hb d_Md_reach_69 rfl hl (by decide) rfl (fun ls hl => ?_)
    have hl : lv_has ls 6 [(3, .int (σ.1 66 x3.toNatClampNeg)), (0, .ref (g.1 54)), (1, .int x1), (2, .int x2), (4, .int x4)] := hl
    refine lv_goto (tgt := 19) hx hb d_Md_reach_70 (by decide) ?_
    exact j1 x1 x2 (σ.1 66 x3.toNatClampNeg) σ _ _ _ (lv_sub hl [1, 2, 3, 0] rfl) hst h
  · replace h := h.2 hc
    refine lv_aload_n hx hb d_Md_reach_34 rfl (lv_at hl 0 rfl) ?_
    refine lv_iload_n hx hb d_Md_reach_35 rfl (lv_at hl 1 rfl) ?_
    refine lv_iload hx hb d_Md_reach_36 (lv_at hl 4 rfl) ?_
    refine lv_iload_n hx hb d_Md_reach_38 rfl (lv_at hl 3 rfl) ?_
    refine lv_iload_n hx hb d_Md_reach_39 rfl (lv_at hl 2 rfl) ?_
    refine kw_calli (va_runV (As := [.int x1, .int x4, .int x3, .int x2]) (rest := []) (b := g.1 54) ⟨hx, hb, hml, hown, hts⟩ (c_Md_spokenOf l x1 x4 x3 x2 h) (cwV 4 hts (gd_v gw1424 gw1426 gs83 gw15 gw1427) rfl rfl rfl (by decide +kernel) ⟨Nat.le_of_ble_eq_true rfl, Nat.le_of_ble_eq_true rfl⟩) ⟨kw_blind (Zk_ok g), va_recv hK hst.1 rfl (WS_o54 g σ), kw_pre (Zk_ok g) hK hZ hA hst⟩ rfl rfl hl.1 rfl (lv_room (Nat.le_of_ble_eq_true rfl)) d_Md_reach_40 ⟨Nat.le_of_ble_eq_true rfl, Nat.le_of_ble_eq_true rfl⟩) hst hA (fun r1 σ1 H locs h hst => ?_)
    refine lv_istore hx hb d_Md_reach_43 hl (by decide) rfl (fun ls hl => ?_)
    have hl : lv_has ls 6 [(5, .int r1), (0, .ref (g.1 54)), (1, .int x1), (2, .int x2), (3, .int x3), (4, .int x4)] := hl
    refine lv_iload hx hb d_Md_reach_45 (lv_at hl 0 rfl) ?_
    refine lv_if_lt (tgt := 57) hx hb d_Md_reach_47 (by decide) (fun hc => ?_) (fun hc => ?_)
    · replace h := h.1 hc
      refine lv_iinc (k := 5) (v := (x4 + 1)) hx hb d_Md_reach_57 hl rfl (kw_inc _ (by decide)) (by decide) rfl (fun ls hl => ?_)
      have hl : lv_has ls 6 [(4, .int (x4 + 1)), (5, .int r1), (0, .ref (g.1 54)), (1, .int x1), (2, .int x2), (3, .int x3)] := hl
      refine lv_goto (tgt := 27) hx hb d_Md_reach_60 (by decide) ?_
      exact j3 x1 x2 x3 (x4 + 1) σ1 _ _ _ (lv_sub hl [2, 3, 4, 5, 0] rfl) hst h
    · replace h := h.2 hc
      refine lv_aload_n hx hb d_Md_reach_50 rfl (lv_at hl 1 rfl) ?_
      refine lv_iload hx hb d_Md_reach_51 (lv_at hl 0 rfl) ?_
      refine lv_iload_n hx hb d_Md_reach_53 rfl (lv_at hl 4 rfl) ?_
      refine kw_callv (va_runV (As := [.int r1, .int x3]) (rest := []) (b := g.1 54) ⟨hx, hb, hml, hown, hts⟩ (c_Md_mark l r1 x3 h) (cwV 2 hts (gd_v gw1436 gw1438 gs85 gw15 gw1439) rfl rfl rfl (by decide +kernel) ⟨Nat.le_of_ble_eq_true rfl, Nat.le_of_ble_eq_true rfl⟩) ⟨kw_blind (Zk_ok g), va_recv hK hst.1 rfl (WS_o54 g σ1), kw_pre (Zk_ok g) hK hZ hA hst⟩ rfl rfl hl.1 rfl (lv_room (Nat.le_of_ble_eq_true rfl)) d_Md_reach_54 ⟨Nat.le_of_ble_eq_true rfl, Nat.le_of_ble_eq_true rfl⟩) hst hA (fun σ2 H locs h hst => ?_)
      refine lv_iinc (k := 5) (v := (x4 + 1)) hx hb d_Md_reach_57 hl rfl (kw_inc _ (by decide)) (by decide) rfl (fun ls hl => ?_)
      have hl : lv_has ls 6 [(4, .int (x4 + 1)), (5, .int r1), (0, .ref (g.1 54)), (1, .int x1), (2, .int x2), (3, .int x3)] := hl
      refine lv_goto (tgt := 27) hx hb d_Md_reach_60 (by decide) ?_
      exact j3 x1 x2 x3 (x4 + 1) σ2 _ _ _ (lv_sub hl [2, 3, 4, 5, 0] rfl) hst h
set_option maxRecDepth 100000 in
set_option maxHeartbeats 4000000 in
theorem b_Md_reach_4 {p : Program} {l : Launch} {e : Env} {s : State} {m : MethodId} {args : Array Value} {below : List Frame} {meth : Method} {c : Code} {D : va_G} {g : Gm} {A : Nat → Prop} {post : Sg → Prop} {F : Nat → Int32 → Int32 → Int32 → Int32 → Int32 → Sg → Prop} (C : kC p s m args meth c k_Md_reach 6 (none) GW R_Md D vwCl g (Zk g) A) (j2 : J_Md_reach_2 p l e s m args below meth c D g A post F) (j4 : J_Md_reach_4 p l e s m args below meth c D g A post F) (x1 : Int32) (x2 : Int32) (x3 : Int32) (x5 : Int32) (σ : Sg) (H : Heap) (locs : List Loc) (ls : Array Slot) (hl : lv_has ls 6 [(0, .ref (g.1 54)), (1, .int x1), (2, .int x2), (3, .int x3), (5, .int x5)]) (hst : Wst D vwCl (WS g) A s σ H locs) (h : wb_Md_reach_4 F post x1 x2 x3 x5 σ) : W p l e { frames := 4, cells := 0, slots := 0, locals := 100 } s m args below meth c H locs 0 0 (MQ below (QvW D vwCl (WS g) post A) args s 0 0 A) (F0 m 124 ls []) := by
  obtain ⟨hx, hb, hr, hml, hown, hts, hlocks, hK, hZ, hA⟩ := C
  unfold wb_Md_reach_4 at h
  refine lv_iload hx hb d_Md_reach_124 (lv_at hl 4 rfl) ?_
  refine lv_if_lt (tgt := 148) hx hb d_Md_reach_126 (by decide) (fun hc => ?_) (fun hc => ?_)
  · replace h := h.1 hc
    refine lv_iinc (k := 3) (v := (x3 + 1)) hx hb d_Md_reach_148 hl rfl (kw_inc _ (by decide)) (by decide) rfl (fun ls hl => ?_)
    have hl : lv_has ls 6 [(3, .int (x3 + 1)), (0, .ref (g.1 54)), (1, .int x1), (2, .int x2), (5, .int x5)] := hl
    refine lv_goto (tgt := 76) hx hb d_Md_reach_151 (by decide) ?_
    exact j2 x1 x2 (x3 + 1) σ _ _ _ (lv_sub hl [1, 2, 3, 0] rfl) hst h
  · replace h := h.2 hc
    refine lv_aload_n hx hb d_Md_reach_129 rfl (lv_at hl 0 rfl) ?_
    refine lv_iload hx hb d_Md_reach_130 (lv_at hl 4 rfl) ?_
    refine lv_iload_n hx hb d_Md_reach_132 rfl (lv_at hl 2 rfl) ?_
    refine kw_callv (va_runV (As := [.int x5, .int x2]) (rest := []) (b := g.1 54) ⟨hx, hb, hml, hown, hts⟩ (c_Md_mark l x5 x2 h) (cwV 2 hts (gd_v gw1436 gw1438 gs85 gw15 gw1439) rfl rfl rfl (by decide +kernel) ⟨Nat.le_of_ble_eq_true rfl, Nat.le_of_ble_eq_true rfl⟩) ⟨kw_blind (Zk_ok g), va_recv hK hst.1 rfl (WS_o54 g σ), kw_pre (Zk_ok g) hK hZ hA hst⟩ rfl rfl hl.1 rfl (lv_room (Nat.le_of_ble_eq_true rfl)) d_Md_reach_133 ⟨Nat.le_of_ble_eq_true rfl, Nat.le_of_ble_eq_true rfl⟩) hst hA (fun σ1 H locs h hst => ?_)
    refine lv_aload_n hx hb d_Md_reach_136 rfl (lv_at hl 0 rfl) ?_
    refine va_get (D := D) (ci := 10) (C := R_Md) (T := T_Md) (N := 46) hx hb hts in_Md hown hK hst.1 54 (WS_o54 g σ1) rfl 12 (by decide) (hts _ gw1076) (fun _ h9 => h9) rfl d_Md_reach_137 ?_
    refine lv_iload hx hb d_Md_reach_140 (lv_at hl 4 rfl) ?_
    obtain ⟨hi, h⟩ := h
    refine va_iald hx hb hK hst.1 66 0 (WS_a66 g σ1) rfl hi d_Md_reach_142 ?_
    refine lv_istore hx hb d_Md_reach_143 hl (by decide) rfl (fun ls hl => ?_)
    have hl : lv_has ls 6 [(5, .int (σ1.1 66 x5.toNatClampNeg)), (0, .ref (g.1 54)), (1, .int x1), (2, .int x2), (3, .int x3)] := hl
    refine lv_goto (tgt := 124) hx hb d_Md_reach_145 (by decide) ?_
    exact j4 x1 x2 x3 (σ1.1 66 x5.toNatClampNeg) σ1 _ _ _ (lv_sub hl [1, 2, 3, 4, 0] rfl) hst h
set_option maxRecDepth 100000 in
set_option maxHeartbeats 4000000 in
theorem a_Md_reach {p : Program} {l : Launch} {e : Env} {s : State} {m : MethodId} {args : Array Value} {below : List Frame} {meth : Method} {c : Code} {D : va_G} {g : Gm} {A : Nat → Prop} {post : Sg → Prop} (C : kC p s m args meth c k_Md_reach 6 (none) GW R_Md D vwCl g (Zk g) A) : ∀ n : Nat, J_Md_reach_1 p l e s m args below meth c D g A post (wp_Md_reach post n) ∧ J_Md_reach_2 p l e s m args below meth c D g A post (wp_Md_reach post n) ∧ J_Md_reach_3 p l e s m args below meth c D g A post (wp_Md_reach post n) ∧ J_Md_reach_4 p l e s m args below meth c D g A post (wp_Md_reach post n) := by
  intro n
  induction n with
  | zero => exact ⟨fun _ _ _ _ _ _ _ _ _ h => h.elim, fun _ _ _ _ _ _ _ _ _ h => h.elim, fun _ _ _ _ _ _ _ _ _ _ h => h.elim, fun _ _ _ _ _ _ _ _ _ _ h => h.elim⟩
  | succ n ih => exact ⟨fun x1 x2 x3 σ H locs ls hl hst h => b_Md_reach_1 (F := wp_Md_reach post n) C (ih.2.1) (ih.2.2.1) x1 x2 x3 σ H locs ls hl hst h, fun x1 x2 x3 σ H locs ls hl hst h => b_Md_reach_2 (F := wp_Md_reach post n) C (ih.2.2.2) x1 x2 x3 σ H locs ls hl hst h, fun x1 x2 x3 x4 σ H locs ls hl hst h => b_Md_reach_3 (F := wp_Md_reach post n) C (ih.1) (ih.2.2.1) x1 x2 x3 x4 σ H locs ls hl hst h, fun x1 x2 x3 x5 σ H locs ls hl hst h => b_Md_reach_4 (F := wp_Md_reach post n) C (ih.2.1) (ih.2.2.2) x1 x2 x3 x5 σ H locs ls hl hst h⟩
set_option maxRecDepth 100000 in
set_option maxHeartbeats 4000000 in
theorem c_Md_reach (l : Launch) {D : va_G} {g : Gm} {sz : Nat} (x1 : Int32) (x2 : Int32) {σ : Sg} {post : Sg → Prop} (h : wq_Md_reach x1 x2 σ post) : Met l y_Md_reach (.code y_Md_reach k_Md_reach 6 (none) :: GW) { frames := 4, cells := 0, slots := 0, locals := 100 } (PcW D vwCl (WS g) g (Zk g) σ sz [.ref (g.1 54), .int x1, .int x2]) (QvW D vwCl (WS g) post (va_A (WS g σ) sz)) 0 0 (va_A (WS g σ) sz) := by
  refine kw_entry (own := R_Md) (by decide) rfl rfl (Nat.le_of_ble_eq_true rfl) ?_
  intro p e s m below meth c ls hsz C hin hl hst
  obtain ⟨n, h⟩ := h
  cases n with
  | zero => exact h.elim
  | succ n =>
    have ih := a_Md_reach (l := l) (e := e) (below := below) (post := post) C n
    exact b_Md_reach_0 (F := wp_Md_reach post n) C (ih.1) x1 x2 σ _ _ ls hl hst h
/-! SchemaDeskModel.compareNames (II)I -/
abbrev k_Md_compareNames : ByteArray := prog_12_method_69_code
abbrev y_Md_compareNames : MethodName := ⟨"SchemaDeskModel", "compareNames", "(II)I"⟩
theorem d_Md_compareNames_0 : decode k_Md_compareNames 0 = .ok (.aload_n 0, 1) := by decide +kernel
theorem d_Md_compareNames_1 : decode k_Md_compareNames 1 = .ok (.getfield 104, 3) := by decide +kernel
theorem d_Md_compareNames_4 : decode k_Md_compareNames 4 = .ok (.iload_n 1, 1) := by decide +kernel
theorem d_Md_compareNames_5 : decode k_Md_compareNames 5 = .ok (.iaload, 1) := by decide +kernel
theorem d_Md_compareNames_6 : decode k_Md_compareNames 6 = .ok (.aload_n 0, 1) := by decide +kernel
theorem d_Md_compareNames_7 : decode k_Md_compareNames 7 = .ok (.getfield 101, 3) := by decide +kernel
theorem d_Md_compareNames_10 : decode k_Md_compareNames 10 = .ok (.iload_n 1, 1) := by decide +kernel
theorem d_Md_compareNames_11 : decode k_Md_compareNames 11 = .ok (.iaload, 1) := by decide +kernel
theorem d_Md_compareNames_12 : decode k_Md_compareNames 12 = .ok (.isub, 1) := by decide +kernel
theorem d_Md_compareNames_13 : decode k_Md_compareNames 13 = .ok (.iconst 1, 1) := by decide +kernel
theorem d_Md_compareNames_14 : decode k_Md_compareNames 14 = .ok (.isub, 1) := by decide +kernel
theorem d_Md_compareNames_15 : decode k_Md_compareNames 15 = .ok (.istore_n 3, 1) := by decide +kernel
theorem d_Md_compareNames_16 : decode k_Md_compareNames 16 = .ok (.aload_n 0, 1) := by decide +kernel
theorem d_Md_compareNames_17 : decode k_Md_compareNames 17 = .ok (.getfield 104, 3) := by decide +kernel
theorem d_Md_compareNames_20 : decode k_Md_compareNames 20 = .ok (.iload_n 2, 1) := by decide +kernel
theorem d_Md_compareNames_21 : decode k_Md_compareNames 21 = .ok (.iaload, 1) := by decide +kernel
theorem d_Md_compareNames_22 : decode k_Md_compareNames 22 = .ok (.aload_n 0, 1) := by decide +kernel
theorem d_Md_compareNames_23 : decode k_Md_compareNames 23 = .ok (.getfield 101, 3) := by decide +kernel
theorem d_Md_compareNames_26 : decode k_Md_compareNames 26 = .ok (.iload_n 2, 1) := by decide +kernel
theorem d_Md_compareNames_27 : decode k_Md_compareNames 27 = .ok (.iaload, 1) := by decide +kernel
theorem d_Md_compareNames_28 : decode k_Md_compareNames 28 = .ok (.isub, 1) := by decide +kernel
theorem d_Md_compareNames_29 : decode k_Md_compareNames 29 = .ok (.iconst 1, 1) := by decide +kernel
theorem d_Md_compareNames_30 : decode k_Md_compareNames 30 = .ok (.isub, 1) := by decide +kernel
theorem d_Md_compareNames_31 : decode k_Md_compareNames 31 = .ok (.istore 4, 2) := by decide +kernel
theorem d_Md_compareNames_33 : decode k_Md_compareNames 33 = .ok (.iconst 0, 1) := by decide +kernel
theorem d_Md_compareNames_34 : decode k_Md_compareNames 34 = .ok (.istore 5, 2) := by decide +kernel
theorem d_Md_compareNames_36 : decode k_Md_compareNames 36 = .ok (.iload 5, 2) := by decide +kernel
theorem d_Md_compareNames_38 : decode k_Md_compareNames 38 = .ok (.iload_n 3, 1) := by decide +kernel
theorem d_Md_compareNames_39 : decode k_Md_compareNames 39 = .ok (.if_icmp .ge 72, 3) := by decide +kernel
theorem d_Md_compareNames_42 : decode k_Md_compareNames 42 = .ok (.iload 5, 2) := by decide +kernel
theorem d_Md_compareNames_44 : decode k_Md_compareNames 44 = .ok (.iload 4, 2) := by decide +kernel
theorem d_Md_compareNames_46 : decode k_Md_compareNames 46 = .ok (.if_icmp .ge 65, 3) := by decide +kernel
theorem d_Md_compareNames_49 : decode k_Md_compareNames 49 = .ok (.aload_n 0, 1) := by decide +kernel
theorem d_Md_compareNames_50 : decode k_Md_compareNames 50 = .ok (.getfield 67, 3) := by decide +kernel
theorem d_Md_compareNames_53 : decode k_Md_compareNames 53 = .ok (.aload_n 0, 1) := by decide +kernel
theorem d_Md_compareNames_54 : decode k_Md_compareNames 54 = .ok (.getfield 101, 3) := by decide +kernel
theorem d_Md_compareNames_57 : decode k_Md_compareNames 57 = .ok (.iload_n 1, 1) := by decide +kernel
theorem d_Md_compareNames_58 : decode k_Md_compareNames 58 = .ok (.iaload, 1) := by decide +kernel
theorem d_Md_compareNames_59 : decode k_Md_compareNames 59 = .ok (.iconst 1, 1) := by decide +kernel
theorem d_Md_compareNames_60 : decode k_Md_compareNames 60 = .ok (.iadd, 1) := by decide +kernel
theorem d_Md_compareNames_61 : decode k_Md_compareNames 61 = .ok (.iload 5, 2) := by decide +kernel
theorem d_Md_compareNames_63 : decode k_Md_compareNames 63 = .ok (.iadd, 1) := by decide +kernel
theorem d_Md_compareNames_64 : decode k_Md_compareNames 64 = .ok (.iaload, 1) := by decide +kernel
theorem d_Md_compareNames_65 : decode k_Md_compareNames 65 = .ok (.istore 6, 2) := by decide +kernel
theorem d_Md_compareNames_67 : decode k_Md_compareNames 67 = .ok (.aload_n 0, 1) := by decide +kernel
theorem d_Md_compareNames_68 : decode k_Md_compareNames 68 = .ok (.getfield 67, 3) := by decide +kernel
theorem d_Md_compareNames_71 : decode k_Md_compareNames 71 = .ok (.aload_n 0, 1) := by decide +kernel
theorem d_Md_compareNames_72 : decode k_Md_compareNames 72 = .ok (.getfield 101, 3) := by decide +kernel
theorem d_Md_compareNames_75 : decode k_Md_compareNames 75 = .ok (.iload_n 2, 1) := by decide +kernel
theorem d_Md_compareNames_76 : decode k_Md_compareNames 76 = .ok (.iaload, 1) := by decide +kernel
theorem d_Md_compareNames_77 : decode k_Md_compareNames 77 = .ok (.iconst 1, 1) := by decide +kernel
theorem d_Md_compareNames_78 : decode k_Md_compareNames 78 = .ok (.iadd, 1) := by decide +kernel
theorem d_Md_compareNames_79 : decode k_Md_compareNames 79 = .ok (.iload 5, 2) := by decide +kernel
theorem d_Md_compareNames_81 : decode k_Md_compareNames 81 = .ok (.iadd, 1) := by decide +kernel
theorem d_Md_compareNames_82 : decode k_Md_compareNames 82 = .ok (.iaload, 1) := by decide +kernel
theorem d_Md_compareNames_83 : decode k_Md_compareNames 83 = .ok (.istore 7, 2) := by decide +kernel
theorem d_Md_compareNames_85 : decode k_Md_compareNames 85 = .ok (.iload 6, 2) := by decide +kernel
theorem d_Md_compareNames_87 : decode k_Md_compareNames 87 = .ok (.iload 7, 2) := by decide +kernel
theorem d_Md_compareNames_89 : decode k_Md_compareNames 89 = .ok (.if_icmp .eq 16, 3) := by decide +kernel
theorem d_Md_compareNames_92 : decode k_Md_compareNames 92 = .ok (.iload 6, 2) := by decide +kernel
theorem d_Md_compareNames_94 : decode k_Md_compareNames 94 = .ok (.iload 7, 2) := by decide +kernel
theorem d_Md_compareNames_96 : decode k_Md_compareNames 96 = .ok (.if_icmp .ge 7, 3) := by decide +kernel
theorem d_Md_compareNames_99 : decode k_Md_compareNames 99 = .ok (.iconst (-1), 1) := by decide +kernel
theorem d_Md_compareNames_100 : decode k_Md_compareNames 100 = .ok (.goto 4, 3) := by decide +kernel
theorem d_Md_compareNames_103 : decode k_Md_compareNames 103 = .ok (.iconst 1, 1) := by decide +kernel
theorem d_Md_compareNames_104 : decode k_Md_compareNames 104 = .ok (.ireturn, 1) := by decide +kernel
theorem d_Md_compareNames_105 : decode k_Md_compareNames 105 = .ok (.iinc 5 1, 3) := by decide +kernel
theorem d_Md_compareNames_108 : decode k_Md_compareNames 108 = .ok (.goto (-72), 3) := by decide +kernel
theorem d_Md_compareNames_111 : decode k_Md_compareNames 111 = .ok (.iload_n 3, 1) := by decide +kernel
theorem d_Md_compareNames_112 : decode k_Md_compareNames 112 = .ok (.iload 4, 2) := by decide +kernel
theorem d_Md_compareNames_114 : decode k_Md_compareNames 114 = .ok (.if_icmp .ge 7, 3) := by decide +kernel
theorem d_Md_compareNames_117 : decode k_Md_compareNames 117 = .ok (.iconst (-1), 1) := by decide +kernel
theorem d_Md_compareNames_118 : decode k_Md_compareNames 118 = .ok (.goto 14, 3) := by decide +kernel
theorem d_Md_compareNames_121 : decode k_Md_compareNames 121 = .ok (.iload_n 3, 1) := by decide +kernel
theorem d_Md_compareNames_122 : decode k_Md_compareNames 122 = .ok (.iload 4, 2) := by decide +kernel
theorem d_Md_compareNames_124 : decode k_Md_compareNames 124 = .ok (.if_icmp .le 7, 3) := by decide +kernel
theorem d_Md_compareNames_127 : decode k_Md_compareNames 127 = .ok (.iconst 1, 1) := by decide +kernel
theorem d_Md_compareNames_128 : decode k_Md_compareNames 128 = .ok (.goto 4, 3) := by decide +kernel
theorem d_Md_compareNames_131 : decode k_Md_compareNames 131 = .ok (.iconst 0, 1) := by decide +kernel
theorem d_Md_compareNames_132 : decode k_Md_compareNames 132 = .ok (.ireturn, 1) := by decide +kernel
def wb_Md_compareNames_0 (F : Nat → Int32 → Int32 → Int32 → Int32 → Int32 → Sg → Prop) (post : Int32 → Sg → Prop) (x1 : Int32) (x2 : Int32) (σ : Sg) : Prop := (vp_in x1 240 ∧ (vp_in x1 240 ∧ (vp_in x2 240 ∧ (vp_in x2 240 ∧ F 1 x1 x2 (((σ.1 68 x1.toNatClampNeg) - (σ.1 67 x1.toNatClampNeg)) - (1 : Int32)) (((σ.1 68 x2.toNatClampNeg) - (σ.1 67 x2.toNatClampNeg)) - (1 : Int32)) (0 : Int32) σ))))
def wb_Md_compareNames_1 (F : Nat → Int32 → Int32 → Int32 → Int32 → Int32 → Sg → Prop) (post : Int32 → Sg → Prop) (x1 : Int32) (x2 : Int32) (x3 : Int32) (x4 : Int32) (x5 : Int32) (σ : Sg) : Prop := ((x3 ≤ x5 → F 2 0 0 x3 x4 0 σ) ∧ (¬ x3 ≤ x5 → ((x4 ≤ x5 → F 2 0 0 x3 x4 0 σ) ∧ (¬ x4 ≤ x5 → (vp_in x1 240 ∧ (vp_in (((σ.1 67 x1.toNatClampNeg) + (1 : Int32)) + x5) 240 ∧ (vp_in x2 240 ∧ (vp_in (((σ.1 67 x2.toNatClampNeg) + (1 : Int32)) + x5) 240 ∧ (((σ.1 56 ((((σ.1 67 x1.toNatClampNeg) + (1 : Int32)) + x5) : Int32).toNatClampNeg) = (σ.1 56 ((((σ.1 67 x2.toNatClampNeg) + (1 : Int32)) + x5) : Int32).toNatClampNeg) → F 1 x1 x2 x3 x4 (x5 + 1) σ) ∧ (¬ (σ.1 56 ((((σ.1 67 x1.toNatClampNeg) + (1 : Int32)) + x5) : Int32).toNatClampNeg) = (σ.1 56 ((((σ.1 67 x2.toNatClampNeg) + (1 : Int32)) + x5) : Int32).toNatClampNeg) → (((σ.1 56 ((((σ.1 67 x2.toNatClampNeg) + (1 : Int32)) + x5) : Int32).toNatClampNeg) ≤ (σ.1 56 ((((σ.1 67 x1.toNatClampNeg) + (1 : Int32)) + x5) : Int32).toNatClampNeg) → post (1 : Int32) σ) ∧ (¬ (σ.1 56 ((((σ.1 67 x2.toNatClampNeg) + (1 : Int32)) + x5) : Int32).toNatClampNeg) ≤ (σ.1 56 ((((σ.1 67 x1.toNatClampNeg) + (1 : Int32)) + x5) : Int32).toNatClampNeg) → post (-1 : Int32) σ))))))))))))
def wb_Md_compareNames_2 (F : Nat → Int32 → Int32 → Int32 → Int32 → Int32 → Sg → Prop) (post : Int32 → Sg → Prop) (x3 : Int32) (x4 : Int32) (σ : Sg) : Prop := ((x4 ≤ x3 → ((x3 ≤ x4 → post (0 : Int32) σ) ∧ (¬ x3 ≤ x4 → post (1 : Int32) σ))) ∧ (¬ x4 ≤ x3 → post (-1 : Int32) σ))
def wp_Md_compareNames (post : Int32 → Sg → Prop) : Nat → Nat → Int32 → Int32 → Int32 → Int32 → Int32 → Sg → Prop
  | 0, _, _, _, _, _, _, _ => False
  | n + 1, k, x1, x2, x3, x4, x5, σ => match k with
    | 0 => wb_Md_compareNames_0 (wp_Md_compareNames post n) post x1 x2 σ
    | 1 => wb_Md_compareNames_1 (wp_Md_compareNames post n) post x1 x2 x3 x4 x5 σ
    | 2 => wb_Md_compareNames_2 (wp_Md_compareNames post n) post x3 x4 σ
    | _ => False
def wq_Md_compareNames (x1 : Int32) (x2 : Int32) (σ : Sg) (post : Int32 → Sg → Prop) : Prop := ∃ n, wp_Md_compareNames post n 0 x1 x2 0 0 0 σ
def J_Md_compareNames_1 (p : Program) (l : Launch) (e : Env) (s : State) (m : MethodId) (args : Array Value) (below : List Frame) (meth : Method) (c : Code) (D : va_G) (g : Gm) (A : Nat → Prop) (post : Int32 → Sg → Prop) (F : Nat → Int32 → Int32 → Int32 → Int32 → Int32 → Sg → Prop) : Prop := ∀ (x1 : Int32) (x2 : Int32) (x3 : Int32) (x4 : Int32) (x5 : Int32) (σ : Sg) (H : Heap) (locs : List Loc) (ls : Array Slot), lv_has ls 8 [(0, .ref (g.1 54)), (1, .int x1), (2, .int x2), (3, .int x3), (4, .int x4), (5, .int x5)] → Wst D vwCl (WS g) A s σ H locs → F 1 x1 x2 x3 x4 x5 σ → W p l e { frames := 0, cells := 0, slots := 0, locals := 0 } s m args below meth c H locs 0 0 (MQ below (QiW D vwCl (WS g) post A) args s 0 0 A) (F0 m 36 ls [])
def J_Md_compareNames_2 (p : Program) (l : Launch) (e : Env) (s : State) (m : MethodId) (args : Array Value) (below : List Frame) (meth : Method) (c : Code) (D : va_G) (g : Gm) (A : Nat → Prop) (post : Int32 → Sg → Prop) (F : Nat → Int32 → Int32 → Int32 → Int32 → Int32 → Sg → Prop) : Prop := ∀ (x3 : Int32) (x4 : Int32) (σ : Sg) (H : Heap) (locs : List Loc) (ls : Array Slot), lv_has ls 8 [(3, .int x3), (4, .int x4)] → Wst D vwCl (WS g) A s σ H locs → F 2 0 0 x3 x4 0 σ → W p l e { frames := 0, cells := 0, slots := 0, locals := 0 } s m args below meth c H locs 0 0 (MQ below (QiW D vwCl (WS g) post A) args s 0 0 A) (F0 m 111 ls [])
set_option maxRecDepth 100000 in
set_option maxHeartbeats 4000000 in
theorem b_Md_compareNames_0 {p : Program} {l : Launch} {e : Env} {s : State} {m : MethodId} {args : Array Value} {below : List Frame} {meth : Method} {c : Code} {D : va_G} {g : Gm} {A : Nat → Prop} {post : Int32 → Sg → Prop} {F : Nat → Int32 → Int32 → Int32 → Int32 → Int32 → Sg → Prop} (C : kC p s m args meth c k_Md_compareNames 8 (some .int) GW R_Md D vwCl g (Zk g) A) (j1 : J_Md_compareNames_1 p l e s m args below meth c D g A post F) (x1 : Int32) (x2 : Int32) (σ : Sg) (H : Heap) (locs : List Loc) (ls : Array Slot) (hl : lv_has ls 8 [(0, .ref (g.1 54)), (1, .int x1), (2, .int x2)]) (hst : Wst D vwCl (WS g) A s σ H locs) (h : wb_Md_compareNames_0 F post x1 x2 σ) : W p l e { frames := 0, cells := 0, slots := 0, locals := 0 } s m args below meth c H locs 0 0 (MQ below (QiW D vwCl (WS g) post A) args s 0 0 A) (F0 m 0 ls []) := by
  obtain ⟨hx, hb, hr, hml, hown, hts, hlocks, hK, hZ, hA⟩ := C
  unfold wb_Md_compareNames_0 at h
  refine lv_aload_n hx hb d_Md_compareNames_0 rfl (lv_at hl 0 rfl) ?_
  refine va_get (D := D) (ci := 10) (C := R_Md) (T := T_Md) (N := 46) hx hb hts in_Md hown hK hst.1 54 (WS_o54 g σ) rfl 14 (by decide) (hts _ gw1078) (fun _ h9 => h9) rfl d_Md_compareNames_1 ?_
  refine lv_iload_n hx hb d_Md_compareNames_4 rfl (lv_at hl 1 rfl) ?_
  obtain ⟨hi, h⟩ := h
  refine va_iald hx hb hK hst.1 68 0 (WS_a68 g σ) rfl hi d_Md_compareNames_5 ?_
  refine lv_aload_n hx hb d_Md_compareNames_6 rfl (lv_at hl 0 rfl) ?_
  refine va_get (D := D) (ci := 10) (C := R_Md) (T := T_Md) (N := 46) hx hb hts in_Md hown hK hst.1 54 (WS_o54 g σ) rfl 13 (by decide) (hts _ gw1077) (fun _ h9 => h9) rfl d_Md_compareNames_7 ?_
  refine lv_iload_n hx hb d_Md_compareNames_10 rfl (lv_at hl 1 rfl) ?_
  obtain ⟨hi, h⟩ := h
  refine va_iald hx hb hK hst.1 67 0 (WS_a67 g σ) rfl hi d_Md_compareNames_11 ?_
  refine lv_isub hx hb d_Md_compareNames_12 ?_
  refine lv_iconst (v := (1 : Int32)) hx hb d_Md_compareNames_13 (by decide) ?_
  refine lv_isub hx hb d_Md_compareNames_14 ?_
  refine lv_istore_n hx hb d_Md_compareNames_15 rfl hl (by decide) rfl (fun ls hl => ?_)
  have hl : lv_has ls 8 [(3, .int (((σ.1 68 x1.toNatClampNeg) - (σ.1 67 x1.toNatClampNeg)) - (1 : Int32))), (0, .ref (g.1 54)), (1, .int x1), (2, .int x2)] := hl
  refine lv_aload_n hx hb d_Md_compareNames_16 rfl (lv_at hl 1 rfl) ?_
  refine va_get (D := D) (ci := 10) (C := R_Md) (T := T_Md) (N := 46) hx hb hts in_Md hown hK hst.1 54 (WS_o54 g σ) rfl 14 (by decide) (hts _ gw1078) (fun _ h9 => h9) rfl d_Md_compareNames_17 ?_
  refine lv_iload_n hx hb d_Md_compareNames_20 rfl (lv_at hl 3 rfl) ?_
  obtain ⟨hi, h⟩ := h
  refine va_iald hx hb hK hst.1 68 0 (WS_a68 g σ) rfl hi d_Md_compareNames_21 ?_
  refine lv_aload_n hx hb d_Md_compareNames_22 rfl (lv_at hl 1 rfl) ?_
  refine va_get (D := D) (ci := 10) (C := R_Md) (T := T_Md) (N := 46) hx hb hts in_Md hown hK hst.1 54 (WS_o54 g σ) rfl 13 (by decide) (hts _ gw1077) (fun _ h9 => h9) rfl d_Md_compareNames_23 ?_
  refine lv_iload_n hx hb d_Md_compareNames_26 rfl (lv_at hl 3 rfl) ?_
  obtain ⟨hi, h⟩ := h
  refine va_iald hx hb hK hst.1 67 0 (WS_a67 g σ) rfl hi d_Md_compareNames_27 ?_
  refine lv_isub hx hb d_Md_compareNames_28 ?_
  refine lv_iconst (v := (1 : Int32)) hx hb d_Md_compareNames_29 (by decide) ?_
  refine lv_isub hx hb d_Md_compareNames_30 ?_
  refine lv_istore hx hb d_Md_compareNames_31 hl (by decide) rfl (fun ls hl => ?_)
  have hl : lv_has ls 8 [(4, .int (((σ.1 68 x2.toNatClampNeg) - (σ.1 67 x2.toNatClampNeg)) - (1 : Int32))), (3, .int (((σ.1 68 x1.toNatClampNeg) - (σ.1 67 x1.toNatClampNeg)) - (1 : Int32))), (0, .ref (g.1 54)), (1, .int x1), (2, .int x2)] := hl
  refine lv_iconst (v := (0 : Int32)) hx hb d_Md_compareNames_33 (by decide) ?_
  refine lv_istore hx hb d_Md_compareNames_34 hl (by decide) rfl (fun ls hl => ?_)
  have hl : lv_has ls 8 [(5, .int (0 : Int32)), (4, .int (((σ.1 68 x2.toNatClampNeg) - (σ.1 67 x2.toNatClampNeg)) - (1 : Int32))), (3, .int (((σ.1 68 x1.toNatClampNeg) - (σ.1 67 x1.toNatClampNeg)) - (1 : Int32))), (0, .ref (g.1 54)), (1, .int x1), (2, .int x2)] := hl
  exact j1 x1 x2 (((σ.1 68 x1.toNatClampNeg) - (σ.1 67 x1.toNatClampNeg)) - (1 : Int32)) (((σ.1 68 x2.toNatClampNeg) - (σ.1 67 x2.toNatClampNeg)) - (1 : Int32)) (0 : Int32) σ _ _ _ (lv_sub hl [3, 4, 5, 2, 1, 0] rfl) hst h
set_option maxRecDepth 100000 in
set_option maxHeartbeats 4000000 in
theorem b_Md_compareNames_1 {p : Program} {l : Launch} {e : Env} {s : State} {m : MethodId} {args : Array Value} {below : List Frame} {meth : Method} {c : Code} {D : va_G} {g : Gm} {A : Nat → Prop} {post : Int32 → Sg → Prop} {F : Nat → Int32 → Int32 → Int32 → Int32 → Int32 → Sg → Prop} (C : kC p s m args meth c k_Md_compareNames 8 (some .int) GW R_Md D vwCl g (Zk g) A) (j1 : J_Md_compareNames_1 p l e s m args below meth c D g A post F) (j2 : J_Md_compareNames_2 p l e s m args below meth c D g A post F) (x1 : Int32) (x2 : Int32) (x3 : Int32) (x4 : Int32) (x5 : Int32) (σ : Sg) (H : Heap) (locs : List Loc) (ls : Array Slot) (hl : lv_has ls 8 [(0, .ref (g.1 54)), (1, .int x1), (2, .int x2), (3, .int x3), (4, .int x4), (5, .int x5)]) (hst : Wst D vwCl (WS g) A s σ H locs) (h : wb_Md_compareNames_1 F post x1 x2 x3 x4 x5 σ) : W p l e { frames := 0, cells := 0, slots := 0, locals := 0 } s m args below meth c H locs 0 0 (MQ below (QiW D vwCl (WS g) post A) args s 0 0 A) (F0 m 36 ls []) := by
  obtain ⟨hx, hb, hr, hml, hown, hts, hlocks, hK, hZ, hA⟩ := C
  unfold wb_Md_compareNames_1 at h
  refine lv_iload hx hb d_Md_compareNames_36 (lv_at hl 5 rfl) ?_
  refine lv_iload_n hx hb d_Md_compareNames_38 rfl (lv_at hl 3 rfl) ?_
  refine lv_icmp_ge (tgt := 111) hx hb d_Md_compareNames_39 (by decide) (fun hc => ?_) (fun hc => ?_)
  · replace h := h.1 hc
    exact j2 x3 x4 σ _ _ _ (lv_sub hl [3, 4] rfl) hst h
  · replace h := h.2 hc
    refine lv_iload hx hb d_Md_compareNames_42 (lv_at hl 5 rfl) ?_
    refine lv_iload hx hb d_Md_compareNames_44 (lv_at hl 4 rfl) ?_
    refine lv_icmp_ge (tgt := 111) hx hb d_Md_compareNames_46 (by decide) (fun hc => ?_) (fun hc => ?_)
    · replace h := h.1 hc
      exact j2 x3 x4 σ _ _ _ (lv_sub hl [3, 4] rfl) hst h
    · replace h := h.2 hc
      refine lv_aload_n hx hb d_Md_compareNames_49 rfl (lv_at hl 0 rfl) ?_
      refine va_get (D := D) (ci := 10) (C := R_Md) (T := T_Md) (N := 46) hx hb hts in_Md hown hK hst.1 54 (WS_o54 g σ) rfl 2 (by decide) (hts _ gw1066) (fun _ h9 => h9) rfl d_Md_compareNames_50 ?_
      refine lv_aload_n hx hb d_Md_compareNames_53 rfl (lv_at hl 0 rfl) ?_
      refine va_get (D := D) (ci := 10) (C := R_Md) (T := T_Md) (N := 46) hx hb hts in_Md hown hK hst.1 54 (WS_o54 g σ) rfl 13 (by decide) (hts _ gw1077) (fun _ h9 => h9) rfl d_Md_compareNames_54 ?_
      refine lv_iload_n hx hb d_Md_compareNames_57 rfl (lv_at hl 1 rfl) ?_
      obtain ⟨hi, h⟩ := h
      refine va_iald hx hb hK hst.1 67 0 (WS_a67 g σ) rfl hi d_Md_compareNames_58 ?_
      refine lv_iconst (v := (1 : Int32)) hx hb d_Md_compareNames_59 (by decide) ?_
      refine lv_iadd hx hb d_Md_compareNames_60 ?_
      refine lv_iload hx hb d_Md_compareNames_61 (lv_at hl 5 rfl) ?_
      refine lv_iadd hx hb d_Md_compareNames_63 ?_
      obtain ⟨hi, h⟩ := h
      refine va_iald hx hb hK hst.1 56 0 (WS_a56 g σ) rfl hi d_Md_compareNames_64 ?_
      refine lv_istore hx hb d_Md_compareNames_65 hl (by decide) rfl (fun ls hl => ?_)
      have hl : lv_has ls 8 [(6, .int (σ.1 56 ((((σ.1 67 x1.toNatClampNeg) + (1 : Int32)) + x5) : Int32).toNatClampNeg)), (0, .ref (g.1 54)), (1, .int x1), (2, .int x2), (3, .int x3), (4, .int x4), (5, .int x5)] := hl
      refine lv_aload_n hx hb d_Md_compareNames_67 rfl (lv_at hl 1 rfl) ?_
      refine va_get (D := D) (ci := 10) (C := R_Md) (T := T_Md) (N := 46) hx hb hts in_Md hown hK hst.1 54 (WS_o54 g σ) rfl 2 (by decide) (hts _ gw1066) (fun _ h9 => h9) rfl d_Md_compareNames_68 ?_
      refine lv_aload_n hx hb d_Md_compareNames_71 rfl (lv_at hl 1 rfl) ?_
      refine va_get (D := D) (ci := 10) (C := R_Md) (T := T_Md) (N := 46) hx hb hts in_Md hown hK hst.1 54 (WS_o54 g σ) rfl 13 (by decide) (hts _ gw1077) (fun _ h9 => h9) rfl d_Md_compareNames_72 ?_
      refine lv_iload_n hx hb d_Md_compareNames_75 rfl (lv_at hl 3 rfl) ?_
      obtain ⟨hi, h⟩ := h
      refine va_iald hx hb hK hst.1 67 0 (WS_a67 g σ) rfl hi d_Md_compareNames_76 ?_
      refine lv_iconst (v := (1 : Int32)) hx hb d_Md_compareNames_77 (by decide) ?_
      refine lv_iadd hx hb d_Md_compareNames_78 ?_
      refine lv_iload hx hb d_Md_compareNames_79 (lv_at hl 6 rfl) ?_
      refine lv_iadd hx hb d_Md_compareNames_81 ?_
      obtain ⟨hi, h⟩ := h
      refine va_iald hx hb hK hst.1 56 0 (WS_a56 g σ) rfl hi d_Md_compareNames_82 ?_
      refine lv_istore hx hb d_Md_compareNames_83 hl (by decide) rfl (fun ls hl => ?_)
      have hl : lv_has ls 8 [(7, .int (σ.1 56 ((((σ.1 67 x2.toNatClampNeg) + (1 : Int32)) + x5) : Int32).toNatClampNeg)), (6, .int (σ.1 56 ((((σ.1 67 x1.toNatClampNeg) + (1 : Int32)) + x5) : Int32).toNatClampNeg)), (0, .ref (g.1 54)), (1, .int x1), (2, .int x2), (3, .int x3), (4, .int x4), (5, .int x5)] := hl
      refine lv_iload hx hb d_Md_compareNames_85 (lv_at hl 1 rfl) ?_
      refine lv_iload hx hb d_Md_compareNames_87 (lv_at hl 0 rfl) ?_
      refine lv_icmp_eq (tgt := 105) hx hb d_Md_compareNames_89 (by decide) (fun hc => ?_) (fun hc => ?_)
      · replace h := h.1 hc
        refine lv_iinc (k := 7) (v := (x5 + 1)) hx hb d_Md_compareNames_105 hl rfl (kw_inc _ (by decide)) (by decide) rfl (fun ls hl => ?_)
        have hl : lv_has ls 8 [(5, .int (x5 + 1)), (7, .int (σ.1 56 ((((σ.1 67 x2.toNatClampNeg) + (1 : Int32)) + x5) : Int32).toNatClampNeg)), (6, .int (σ.1 56 ((((σ.1 67 x1.toNatClampNeg) + (1 : Int32)) + x5) : Int32).toNatClampNeg)), (0, .ref (g.1 54)), (1, .int x1), (2, .int x2), (3, .int x3), (4, .int x4)] := hl
        refine lv_goto (tgt := 36) hx hb d_Md_compareNames_108 (by decide) ?_
        exact j1 x1 x2 x3 x4 (x5 + 1) σ _ _ _ (lv_sub hl [3, 4, 5, 6, 7, 0] rfl) hst h
      · replace h := h.2 hc
        refine lv_iload hx hb d_Md_compareNames_92 (lv_at hl 1 rfl) ?_
        refine lv_iload hx hb d_Md_compareNames_94 (lv_at hl 0 rfl) ?_
        refine lv_icmp_ge (tgt := 103) hx hb d_Md_compareNames_96 (by decide) (fun hc => ?_) (fun hc => ?_)
        · replace h := h.1 hc
          refine lv_iconst (v := (1 : Int32)) hx hb d_Md_compareNames_103 (by decide) ?_
          exact kw_iret hx hb hr hlocks hst h d_Md_compareNames_104
        · replace h := h.2 hc
          refine lv_iconst (v := (-1 : Int32)) hx hb d_Md_compareNames_99 (by decide) ?_
          refine lv_goto (tgt := 104) hx hb d_Md_compareNames_100 (by decide) ?_
          exact kw_iret hx hb hr hlocks hst h d_Md_compareNames_104
set_option maxRecDepth 100000 in
set_option maxHeartbeats 4000000 in
theorem b_Md_compareNames_2 {p : Program} {l : Launch} {e : Env} {s : State} {m : MethodId} {args : Array Value} {below : List Frame} {meth : Method} {c : Code} {D : va_G} {g : Gm} {A : Nat → Prop} {post : Int32 → Sg → Prop} {F : Nat → Int32 → Int32 → Int32 → Int32 → Int32 → Sg → Prop} (C : kC p s m args meth c k_Md_compareNames 8 (some .int) GW R_Md D vwCl g (Zk g) A) (x3 : Int32) (x4 : Int32) (σ : Sg) (H : Heap) (locs : List Loc) (ls : Array Slot) (hl : lv_has ls 8 [(3, .int x3), (4, .int x4)]) (hst : Wst D vwCl (WS g) A s σ H locs) (h : wb_Md_compareNames_2 F post x3 x4 σ) : W p l e { frames := 0, cells := 0, slots := 0, locals := 0 } s m args below meth c H locs 0 0 (MQ below (QiW D vwCl (WS g) post A) args s 0 0 A) (F0 m 111 ls []) := by
  obtain ⟨hx, hb, hr, hml, hown, hts, hlocks, hK, hZ, hA⟩ := C
  unfold wb_Md_compareNames_2 at h
  refine lv_iload_n hx hb d_Md_compareNames_111 rfl (lv_at hl 0 rfl) ?_
  refine lv_iload hx hb d_Md_compareNames_112 (lv_at hl 1 rfl) ?_
  refine lv_icmp_ge (tgt := 121) hx hb d_Md_compareNames_114 (by decide) (fun hc => ?_) (fun hc => ?_)
  · replace h := h.1 hc
    refine lv_iload_n hx hb d_Md_compareNames_121 rfl (lv_at hl 0 rfl) ?_
    refine lv_iload hx hb d_Md_compareNames_122 (lv_at hl 1 rfl) ?_
    refine lv_icmp_le (tgt := 131) hx hb d_Md_compareNames_124 (by decide) (fun hc => ?_) (fun hc => ?_)
    · replace h := h.1 hc
      refine lv_iconst (v := (0 : Int32)) hx hb d_Md_compareNames_131 (by decide) ?_
      exact kw_iret hx hb hr hlocks hst h d_Md_compareNames_132
    · replace h := h.2 hc
      refine lv_iconst (v := (1 : Int32)) hx hb d_Md_compareNames_127 (by decide) ?_
      refine lv_goto (tgt := 132) hx hb d_Md_compareNames_128 (by decide) ?_
      exact kw_iret hx hb hr hlocks hst h d_Md_compareNames_132
  · replace h := h.2 hc
    refine lv_iconst (v := (-1 : Int32)) hx hb d_Md_compareNames_117 (by decide) ?_
    refine lv_goto (tgt := 132) hx hb d_Md_compareNames_118 (by decide) ?_
    exact kw_iret hx hb hr hlocks hst h d_Md_compareNames_132
set_option maxRecDepth 100000 in
set_option maxHeartbeats 4000000 in
theorem a_Md_compareNames {p : Program} {l : Launch} {e : Env} {s : State} {m : MethodId} {args : Array Value} {below : List Frame} {meth : Method} {c : Code} {D : va_G} {g : Gm} {A : Nat → Prop} {post : Int32 → Sg → Prop} (C : kC p s m args meth c k_Md_compareNames 8 (some .int) GW R_Md D vwCl g (Zk g) A) : ∀ n : Nat, J_Md_compareNames_1 p l e s m args below meth c D g A post (wp_Md_compareNames post n) ∧ J_Md_compareNames_2 p l e s m args below meth c D g A post (wp_Md_compareNames post n) := by
  intro n
  induction n with
  | zero => exact ⟨fun _ _ _ _ _ _ _ _ _ _ _ h => h.elim, fun _ _ _ _ _ _ _ _ h => h.elim⟩
  | succ n ih => exact ⟨fun x1 x2 x3 x4 x5 σ H locs ls hl hst h => b_Md_compareNames_1 (F := wp_Md_compareNames post n) C (ih.1) (ih.2) x1 x2 x3 x4 x5 σ H locs ls hl hst h, fun x3 x4 σ H locs ls hl hst h => b_Md_compareNames_2 (F := wp_Md_compareNames post n) C x3 x4 σ H locs ls hl hst h⟩
set_option maxRecDepth 100000 in
set_option maxHeartbeats 4000000 in
theorem c_Md_compareNames (l : Launch) {D : va_G} {g : Gm} {sz : Nat} (x1 : Int32) (x2 : Int32) {σ : Sg} {post : Int32 → Sg → Prop} (h : wq_Md_compareNames x1 x2 σ post) : Met l y_Md_compareNames (.code y_Md_compareNames k_Md_compareNames 8 (some .int) :: GW) { frames := 0, cells := 0, slots := 0, locals := 0 } (PcW D vwCl (WS g) g (Zk g) σ sz [.ref (g.1 54), .int x1, .int x2]) (QiW D vwCl (WS g) post (va_A (WS g σ) sz)) 0 0 (va_A (WS g σ) sz) := by
  refine kw_entry (own := R_Md) (by decide) rfl rfl (Nat.le_of_ble_eq_true rfl) ?_
  intro p e s m below meth c ls hsz C hin hl hst
  obtain ⟨n, h⟩ := h
  cases n with
  | zero => exact h.elim
  | succ n =>
    have ih := a_Md_compareNames (l := l) (e := e) (below := below) (post := post) C n
    exact b_Md_compareNames_0 (F := wp_Md_compareNames post n) C (ih.1) x1 x2 σ _ _ ls hl hst h
/-! SchemaDeskModel.offer (II)V -/
abbrev k_Md_offer : ByteArray := prog_12_method_70_code
abbrev y_Md_offer : MethodName := ⟨"SchemaDeskModel", "offer", "(II)V"⟩
theorem d_Md_offer_0 : decode k_Md_offer 0 = .ok (.iload_n 2, 1) := by decide +kernel
theorem d_Md_offer_1 : decode k_Md_offer 1 = .ok (.istore_n 3, 1) := by decide +kernel
theorem d_Md_offer_2 : decode k_Md_offer 2 = .ok (.iload_n 3, 1) := by decide +kernel
theorem d_Md_offer_3 : decode k_Md_offer 3 = .ok (.ifCond .le 39, 3) := by decide +kernel
theorem d_Md_offer_6 : decode k_Md_offer 6 = .ok (.aload_n 0, 1) := by decide +kernel
theorem d_Md_offer_7 : decode k_Md_offer 7 = .ok (.aload_n 0, 1) := by decide +kernel
theorem d_Md_offer_8 : decode k_Md_offer 8 = .ok (.getfield 174, 3) := by decide +kernel
theorem d_Md_offer_11 : decode k_Md_offer 11 = .ok (.iload_n 3, 1) := by decide +kernel
theorem d_Md_offer_12 : decode k_Md_offer 12 = .ok (.iconst 1, 1) := by decide +kernel
theorem d_Md_offer_13 : decode k_Md_offer 13 = .ok (.isub, 1) := by decide +kernel
theorem d_Md_offer_14 : decode k_Md_offer 14 = .ok (.iaload, 1) := by decide +kernel
theorem d_Md_offer_15 : decode k_Md_offer 15 = .ok (.iload_n 1, 1) := by decide +kernel
theorem d_Md_offer_16 : decode k_Md_offer 16 = .ok (.invokevirtual 382, 3) := by decide +kernel
theorem d_Md_offer_19 : decode k_Md_offer 19 = .ok (.ifCond .le 23, 3) := by decide +kernel
theorem d_Md_offer_22 : decode k_Md_offer 22 = .ok (.aload_n 0, 1) := by decide +kernel
theorem d_Md_offer_23 : decode k_Md_offer 23 = .ok (.getfield 174, 3) := by decide +kernel
theorem d_Md_offer_26 : decode k_Md_offer 26 = .ok (.iload_n 3, 1) := by decide +kernel
theorem d_Md_offer_27 : decode k_Md_offer 27 = .ok (.aload_n 0, 1) := by decide +kernel
theorem d_Md_offer_28 : decode k_Md_offer 28 = .ok (.getfield 174, 3) := by decide +kernel
theorem d_Md_offer_31 : decode k_Md_offer 31 = .ok (.iload_n 3, 1) := by decide +kernel
theorem d_Md_offer_32 : decode k_Md_offer 32 = .ok (.iconst 1, 1) := by decide +kernel
theorem d_Md_offer_33 : decode k_Md_offer 33 = .ok (.isub, 1) := by decide +kernel
theorem d_Md_offer_34 : decode k_Md_offer 34 = .ok (.iaload, 1) := by decide +kernel
theorem d_Md_offer_35 : decode k_Md_offer 35 = .ok (.iastore, 1) := by decide +kernel
theorem d_Md_offer_36 : decode k_Md_offer 36 = .ok (.iinc 3 (-1), 3) := by decide +kernel
theorem d_Md_offer_39 : decode k_Md_offer 39 = .ok (.goto (-37), 3) := by decide +kernel
theorem d_Md_offer_42 : decode k_Md_offer 42 = .ok (.aload_n 0, 1) := by decide +kernel
theorem d_Md_offer_43 : decode k_Md_offer 43 = .ok (.getfield 174, 3) := by decide +kernel
theorem d_Md_offer_46 : decode k_Md_offer 46 = .ok (.iload_n 3, 1) := by decide +kernel
theorem d_Md_offer_47 : decode k_Md_offer 47 = .ok (.iload_n 1, 1) := by decide +kernel
theorem d_Md_offer_48 : decode k_Md_offer 48 = .ok (.iastore, 1) := by decide +kernel
theorem d_Md_offer_49 : decode k_Md_offer 49 = .ok (.return_, 1) := by decide +kernel
theorem gw1109 : (Jvm.Cond.fieldLink "SchemaDeskModel" (174 : Nat) "SchemaDeskModel" "candidate" "[I") ∈ GW := gw_t5 (List.mem_of_getElem? (i := 149) rfl) rfl
theorem gw1476 : (Jvm.Cond.methodLink "SchemaDeskModel" (382 : Nat) ({ cls := "SchemaDeskModel", name := "compareNames", desc := "(II)I" } : Jvm.MethodName)) ∈ GW := gw_t7 (List.mem_of_getElem? (i := 36) rfl) rfl
theorem gw1478 : (Jvm.Cond.instanceMethod ({ cls := "SchemaDeskModel", name := "compareNames", desc := "(II)I" } : Jvm.MethodName)) ∈ GW := gw_t7 (List.mem_of_getElem? (i := 38) rfl) rfl
theorem gs93 : Cond.selects "SchemaDeskModel" ⟨"SchemaDeskModel", "compareNames", "(II)I"⟩ ⟨"SchemaDeskModel", "compareNames", "(II)I"⟩ ∈ GW := gw_p6 (q := (⟨"SchemaDeskModel", "compareNames", "(II)I"⟩, 46)) (List.mem_of_getElem? (i := 13) rfl)
theorem gw1479 : (Jvm.Cond.code ({ cls := "SchemaDeskModel", name := "compareNames", desc := "(II)I" } : Jvm.MethodName) prog_12_method_69_code (8 : Nat) (Option.some Jvm.ClassFile.FieldType.int)) ∈ GW := gw_t7 (List.mem_of_getElem? (i := 39) rfl) rfl
def wb_Md_offer_0 (F : Nat → Int32 → Int32 → Int32 → Sg → Prop) (post : Sg → Prop) (x1 : Int32) (x2 : Int32) (σ : Sg) : Prop := F 1 x1 0 x2 σ
def wb_Md_offer_1 (F : Nat → Int32 → Int32 → Int32 → Sg → Prop) (post : Sg → Prop) (x1 : Int32) (x3 : Int32) (σ : Sg) : Prop := ((x3 ≤ 0 → (vp_in x3 160 ∧ (∀ σ1, σ1 = si σ 91 x3.toNatClampNeg x1 → post σ1))) ∧ (¬ x3 ≤ 0 → (vp_in (x3 - (1 : Int32)) 160 ∧ (wq_Md_compareNames (σ.1 91 ((x3 - (1 : Int32)) : Int32).toNatClampNeg) x1 σ (fun r1 σ1 => ((r1 ≤ 0 → (vp_in x3 160 ∧ (∀ σ2, σ2 = si σ1 91 x3.toNatClampNeg x1 → post σ2))) ∧ (¬ r1 ≤ 0 → (vp_in (x3 - (1 : Int32)) 160 ∧ (vp_in x3 160 ∧ (∀ σ2, σ2 = si σ1 91 x3.toNatClampNeg (σ1.1 91 ((x3 - (1 : Int32)) : Int32).toNatClampNeg) → F 1 x1 0 (x3 + (-1)) σ2))))))))))
def wp_Md_offer (post : Sg → Prop) : Nat → Nat → Int32 → Int32 → Int32 → Sg → Prop
  | 0, _, _, _, _, _ => False
  | n + 1, k, x1, x2, x3, σ => match k with
    | 0 => wb_Md_offer_0 (wp_Md_offer post n) post x1 x2 σ
    | 1 => wb_Md_offer_1 (wp_Md_offer post n) post x1 x3 σ
    | _ => False
def wq_Md_offer (x1 : Int32) (x2 : Int32) (σ : Sg) (post : Sg → Prop) : Prop := ∃ n, wp_Md_offer post n 0 x1 x2 0 σ
def J_Md_offer_1 (p : Program) (l : Launch) (e : Env) (s : State) (m : MethodId) (args : Array Value) (below : List Frame) (meth : Method) (c : Code) (D : va_G) (g : Gm) (A : Nat → Prop) (post : Sg → Prop) (F : Nat → Int32 → Int32 → Int32 → Sg → Prop) : Prop := ∀ (x1 : Int32) (x3 : Int32) (σ : Sg) (H : Heap) (locs : List Loc) (ls : Array Slot), lv_has ls 4 [(0, .ref (g.1 54)), (1, .int x1), (3, .int x3)] → Wst D vwCl (WS g) A s σ H locs → F 1 x1 0 x3 σ → W p l e { frames := 1, cells := 0, slots := 0, locals := 27 } s m args below meth c H locs 0 0 (MQ below (QvW D vwCl (WS g) post A) args s 0 0 A) (F0 m 2 ls [])
set_option maxRecDepth 100000 in
set_option maxHeartbeats 4000000 in
theorem b_Md_offer_0 {p : Program} {l : Launch} {e : Env} {s : State} {m : MethodId} {args : Array Value} {below : List Frame} {meth : Method} {c : Code} {D : va_G} {g : Gm} {A : Nat → Prop} {post : Sg → Prop} {F : Nat → Int32 → Int32 → Int32 → Sg → Prop} (C : kC p s m args meth c k_Md_offer 4 (none) GW R_Md D vwCl g (Zk g) A) (j1 : J_Md_offer_1 p l e s m args below meth c D g A post F) (x1 : Int32) (x2 : Int32) (σ : Sg) (H : Heap) (locs : List Loc) (ls : Array Slot) (hl : lv_has ls 4 [(0, .ref (g.1 54)), (1, .int x1), (2, .int x2)]) (hst : Wst D vwCl (WS g) A s σ H locs) (h : wb_Md_offer_0 F post x1 x2 σ) : W p l e { frames := 1, cells := 0, slots := 0, locals := 27 } s m args below meth c H locs 0 0 (MQ below (QvW D vwCl (WS g) post A) args s 0 0 A) (F0 m 0 ls []) := by
  obtain ⟨hx, hb, hr, hml, hown, hts, hlocks, hK, hZ, hA⟩ := C
  unfold wb_Md_offer_0 at h
  refine lv_iload_n hx hb d_Md_offer_0 rfl (lv_at hl 2 rfl) ?_
  refine lv_istore_n hx hb d_Md_offer_1 rfl hl (by decide) rfl (fun ls hl => ?_)
  have hl : lv_has ls 4 [(3, .int x2), (0, .ref (g.1 54)), (1, .int x1), (2, .int x2)] := hl
  exact j1 x1 x2 σ _ _ _ (lv_sub hl [1, 2, 0] rfl) hst h
set_option maxRecDepth 100000 in
set_option maxHeartbeats 4000000 in
theorem b_Md_offer_1 {p : Program} {l : Launch} {e : Env} {s : State} {m : MethodId} {args : Array Value} {below : List Frame} {meth : Method} {c : Code} {D : va_G} {g : Gm} {A : Nat → Prop} {post : Sg → Prop} {F : Nat → Int32 → Int32 → Int32 → Sg → Prop} (C : kC p s m args meth c k_Md_offer 4 (none) GW R_Md D vwCl g (Zk g) A) (j1 : J_Md_offer_1 p l e s m args below meth c D g A post F) (x1 : Int32) (x3 : Int32) (σ : Sg) (H : Heap) (locs : List Loc) (ls : Array Slot) (hl : lv_has ls 4 [(0, .ref (g.1 54)), (1, .int x1), (3, .int x3)]) (hst : Wst D vwCl (WS g) A s σ H locs) (h : wb_Md_offer_1 F post x1 x3 σ) : W p l e { frames := 1, cells := 0, slots := 0, locals := 27 } s m args below meth c H locs 0 0 (MQ below (QvW D vwCl (WS g) post A) args s 0 0 A) (F0 m 2 ls []) := by
  obtain ⟨hx, hb, hr, hml, hown, hts, hlocks, hK, hZ, hA⟩ := C
  unfold wb_Md_offer_1 at h
  refine lv_iload_n hx hb d_Md_offer_2 rfl (lv_at hl 2 rfl) ?_
  refine lv_if_le (tgt := 42) hx hb d_Md_offer_3 (by decide) (fun hc => ?_) (fun hc => ?_)
  · replace h := h.1 hc
    refine lv_aload_n hx hb d_Md_offer_42 rfl (lv_at hl 0 rfl) ?_
    refine va_get (D := D) (ci := 10) (C := R_Md) (T := T_Md) (N := 46) hx hb hts in_Md hown hK hst.1 54 (WS_o54 g σ) rfl 45 (by decide) (hts _ gw1109) (fun _ h9 => h9) rfl d_Md_offer_43 ?_
    refine lv_iload_n hx hb d_Md_offer_46 rfl (lv_at hl 2 rfl) ?_
    refine lv_iload_n hx hb d_Md_offer_47 rfl (lv_at hl 1 rfl) ?_
    obtain ⟨hi, h⟩ := h
    refine kw_iast hx hb hK hst 91 (WS_a91 g σ) hi (WS_s91 g σ _ _) d_Md_offer_48 (fun σ1 H locs e1 hst => ?_)
    replace h := h σ1 e1
    exact kw_vret hx hb hr hlocks hst h d_Md_offer_49
  · replace h := h.2 hc
    refine lv_aload_n hx hb d_Md_offer_6 rfl (lv_at hl 0 rfl) ?_
    refine lv_aload_n hx hb d_Md_offer_7 rfl (lv_at hl 0 rfl) ?_
    refine va_get (D := D) (ci := 10) (C := R_Md) (T := T_Md) (N := 46) hx hb hts in_Md hown hK hst.1 54 (WS_o54 g σ) rfl 45 (by decide) (hts _ gw1109) (fun _ h9 => h9) rfl d_Md_offer_8 ?_
    refine lv_iload_n hx hb d_Md_offer_11 rfl (lv_at hl 2 rfl) ?_
    refine lv_iconst (v := (1 : Int32)) hx hb d_Md_offer_12 (by decide) ?_
    refine lv_isub hx hb d_Md_offer_13 ?_
    obtain ⟨hi, h⟩ := h
    refine va_iald hx hb hK hst.1 91 0 (WS_a91 g σ) rfl hi d_Md_offer_14 ?_
    refine lv_iload_n hx hb d_Md_offer_15 rfl (lv_at hl 1 rfl) ?_
    refine kw_calli (va_runV (As := [.int (σ.1 91 ((x3 - (1 : Int32)) : Int32).toNatClampNeg), .int x1]) (rest := []) (b := g.1 54) ⟨hx, hb, hml, hown, hts⟩ (c_Md_compareNames l (σ.1 91 ((x3 - (1 : Int32)) : Int32).toNatClampNeg) x1 h) (cwV 2 hts (gd_v gw1476 gw1478 gs93 gw15 gw1479) rfl rfl rfl (by decide +kernel) ⟨Nat.le_of_ble_eq_true rfl, Nat.le_of_ble_eq_true rfl⟩) ⟨kw_blind (Zk_ok g), va_recv hK hst.1 rfl (WS_o54 g σ), kw_pre (Zk_ok g) hK hZ hA hst⟩ rfl rfl hl.1 rfl (lv_room (Nat.le_of_ble_eq_true rfl)) d_Md_offer_16 ⟨Nat.le_of_ble_eq_true rfl, Nat.le_of_ble_eq_true rfl⟩) hst hA (fun r1 σ1 H locs h hst => ?_)
    refine lv_if_le (tgt := 42) hx hb d_Md_offer_19 (by decide) (fun hc => ?_) (fun hc => ?_)
    · replace h := h.1 hc
      refine lv_aload_n hx hb d_Md_offer_42 rfl (lv_at hl 0 rfl) ?_
      refine va_get (D := D) (ci := 10) (C := R_Md) (T := T_Md) (N := 46) hx hb hts in_Md hown hK hst.1 54 (WS_o54 g σ1) rfl 45 (by decide) (hts _ gw1109) (fun _ h9 => h9) rfl d_Md_offer_43 ?_
      refine lv_iload_n hx hb d_Md_offer_46 rfl (lv_at hl 2 rfl) ?_
      refine lv_iload_n hx hb d_Md_offer_47 rfl (lv_at hl 1 rfl) ?_
      obtain ⟨hi, h⟩ := h
      refine kw_iast hx hb hK hst 91 (WS_a91 g σ1) hi (WS_s91 g σ1 _ _) d_Md_offer_48 (fun σ2 H locs e2 hst => ?_)
      replace h := h σ2 e2
      exact kw_vret hx hb hr hlocks hst h d_Md_offer_49
    · replace h := h.2 hc
      refine lv_aload_n hx hb d_Md_offer_22 rfl (lv_at hl 0 rfl) ?_
      refine va_get (D := D) (ci := 10) (C := R_Md) (T := T_Md) (N := 46) hx hb hts in_Md hown hK hst.1 54 (WS_o54 g σ1) rfl 45 (by decide) (hts _ gw1109) (fun _ h9 => h9) rfl d_Md_offer_23 ?_
      refine lv_iload_n hx hb d_Md_offer_26 rfl (lv_at hl 2 rfl) ?_
      refine lv_aload_n hx hb d_Md_offer_27 rfl (lv_at hl 0 rfl) ?_
      refine va_get (D := D) (ci := 10) (C := R_Md) (T := T_Md) (N := 46) hx hb hts in_Md hown hK hst.1 54 (WS_o54 g σ1) rfl 45 (by decide) (hts _ gw1109) (fun _ h9 => h9) rfl d_Md_offer_28 ?_
      refine lv_iload_n hx hb d_Md_offer_31 rfl (lv_at hl 2 rfl) ?_
      refine lv_iconst (v := (1 : Int32)) hx hb d_Md_offer_32 (by decide) ?_
      refine lv_isub hx hb d_Md_offer_33 ?_
      obtain ⟨hi, h⟩ := h
      refine va_iald hx hb hK hst.1 91 0 (WS_a91 g σ1) rfl hi d_Md_offer_34 ?_
      obtain ⟨hi, h⟩ := h
      refine kw_iast hx hb hK hst 91 (WS_a91 g σ1) hi (WS_s91 g σ1 _ _) d_Md_offer_35 (fun σ2 H locs e2 hst => ?_)
      replace h := h σ2 e2
      refine lv_iinc (k := 2) (v := (x3 + (-1))) hx hb d_Md_offer_36 hl rfl (kw_inc _ (by decide)) (by decide) rfl (fun ls hl => ?_)
      have hl : lv_has ls 4 [(3, .int (x3 + (-1))), (0, .ref (g.1 54)), (1, .int x1)] := hl
      refine lv_goto (tgt := 2) hx hb d_Md_offer_39 (by decide) ?_
      exact j1 x1 (x3 + (-1)) σ2 _ _ _ (lv_sub hl [1, 2, 0] rfl) hst h
set_option maxRecDepth 100000 in
set_option maxHeartbeats 4000000 in
theorem a_Md_offer {p : Program} {l : Launch} {e : Env} {s : State} {m : MethodId} {args : Array Value} {below : List Frame} {meth : Method} {c : Code} {D : va_G} {g : Gm} {A : Nat → Prop} {post : Sg → Prop} (C : kC p s m args meth c k_Md_offer 4 (none) GW R_Md D vwCl g (Zk g) A) : ∀ n : Nat, J_Md_offer_1 p l e s m args below meth c D g A post (wp_Md_offer post n) := by
  intro n
  induction n with
  | zero => exact fun _ _ _ _ _ _ _ _ h => h.elim
  | succ n ih => exact fun x1 x3 σ H locs ls hl hst h => b_Md_offer_1 (F := wp_Md_offer post n) C (ih) x1 x3 σ H locs ls hl hst h
set_option maxRecDepth 100000 in
set_option maxHeartbeats 4000000 in
theorem c_Md_offer (l : Launch) {D : va_G} {g : Gm} {sz : Nat} (x1 : Int32) (x2 : Int32) {σ : Sg} {post : Sg → Prop} (h : wq_Md_offer x1 x2 σ post) : Met l y_Md_offer (.code y_Md_offer k_Md_offer 4 (none) :: GW) { frames := 1, cells := 0, slots := 0, locals := 27 } (PcW D vwCl (WS g) g (Zk g) σ sz [.ref (g.1 54), .int x1, .int x2]) (QvW D vwCl (WS g) post (va_A (WS g σ) sz)) 0 0 (va_A (WS g σ) sz) := by
  refine kw_entry (own := R_Md) (by decide) rfl rfl (Nat.le_of_ble_eq_true rfl) ?_
  intro p e s m below meth c ls hsz C hin hl hst
  obtain ⟨n, h⟩ := h
  cases n with
  | zero => exact h.elim
  | succ n =>
    have ih := a_Md_offer (l := l) (e := e) (below := below) (post := post) C n
    exact b_Md_offer_0 (F := wp_Md_offer post n) C (ih) x1 x2 σ _ _ ls hl hst h
/-! SchemaDeskModel.isOffered (II)Z -/
abbrev k_Md_isOffered : ByteArray := prog_12_method_71_code
abbrev y_Md_isOffered : MethodName := ⟨"SchemaDeskModel", "isOffered", "(II)Z"⟩
theorem d_Md_isOffered_0 : decode k_Md_isOffered 0 = .ok (.iconst 0, 1) := by decide +kernel
theorem d_Md_isOffered_1 : decode k_Md_isOffered 1 = .ok (.istore_n 3, 1) := by decide +kernel
theorem d_Md_isOffered_2 : decode k_Md_isOffered 2 = .ok (.iconst 0, 1) := by decide +kernel
theorem d_Md_isOffered_3 : decode k_Md_isOffered 3 = .ok (.istore 4, 2) := by decide +kernel
theorem d_Md_isOffered_5 : decode k_Md_isOffered 5 = .ok (.iload 4, 2) := by decide +kernel
theorem d_Md_isOffered_7 : decode k_Md_isOffered 7 = .ok (.iload_n 2, 1) := by decide +kernel
theorem d_Md_isOffered_8 : decode k_Md_isOffered 8 = .ok (.if_icmp .ge 34, 3) := by decide +kernel
theorem d_Md_isOffered_11 : decode k_Md_isOffered 11 = .ok (.iload_n 3, 1) := by decide +kernel
theorem d_Md_isOffered_12 : decode k_Md_isOffered 12 = .ok (.ifCond .ne 18, 3) := by decide +kernel
theorem d_Md_isOffered_15 : decode k_Md_isOffered 15 = .ok (.aload_n 0, 1) := by decide +kernel
theorem d_Md_isOffered_16 : decode k_Md_isOffered 16 = .ok (.aload_n 0, 1) := by decide +kernel
theorem d_Md_isOffered_17 : decode k_Md_isOffered 17 = .ok (.getfield 174, 3) := by decide +kernel
theorem d_Md_isOffered_20 : decode k_Md_isOffered 20 = .ok (.iload 4, 2) := by decide +kernel
theorem d_Md_isOffered_22 : decode k_Md_isOffered 22 = .ok (.iaload, 1) := by decide +kernel
theorem d_Md_isOffered_23 : decode k_Md_isOffered 23 = .ok (.iload_n 1, 1) := by decide +kernel
theorem d_Md_isOffered_24 : decode k_Md_isOffered 24 = .ok (.invokevirtual 382, 3) := by decide +kernel
theorem d_Md_isOffered_27 : decode k_Md_isOffered 27 = .ok (.ifCond .ne 7, 3) := by decide +kernel
theorem d_Md_isOffered_30 : decode k_Md_isOffered 30 = .ok (.iconst 1, 1) := by decide +kernel
theorem d_Md_isOffered_31 : decode k_Md_isOffered 31 = .ok (.goto 4, 3) := by decide +kernel
theorem d_Md_isOffered_34 : decode k_Md_isOffered 34 = .ok (.iconst 0, 1) := by decide +kernel
theorem d_Md_isOffered_35 : decode k_Md_isOffered 35 = .ok (.istore_n 3, 1) := by decide +kernel
theorem d_Md_isOffered_36 : decode k_Md_isOffered 36 = .ok (.iinc 4 1, 3) := by decide +kernel
theorem d_Md_isOffered_39 : decode k_Md_isOffered 39 = .ok (.goto (-34), 3) := by decide +kernel
theorem d_Md_isOffered_42 : decode k_Md_isOffered 42 = .ok (.iload_n 3, 1) := by decide +kernel
theorem d_Md_isOffered_43 : decode k_Md_isOffered 43 = .ok (.ireturn, 1) := by decide +kernel
def wb_Md_isOffered_0 (F : Nat → Int32 → Int32 → Int32 → Int32 → Sg → Prop) (post : Int32 → Sg → Prop) (x1 : Int32) (x2 : Int32) (σ : Sg) : Prop := F 1 x1 x2 (0 : Int32) (0 : Int32) σ
def wb_Md_isOffered_1 (F : Nat → Int32 → Int32 → Int32 → Int32 → Sg → Prop) (post : Int32 → Sg → Prop) (x1 : Int32) (x2 : Int32) (x3 : Int32) (x4 : Int32) (σ : Sg) : Prop := ((x2 ≤ x4 → (narrow .boolean (.int x3) = .int x3 ∧ post x3 σ)) ∧ (¬ x2 ≤ x4 → ((¬ x3 = 0 → F 1 x1 x2 (1 : Int32) (x4 + 1) σ) ∧ (x3 = 0 → (vp_in x4 160 ∧ (wq_Md_compareNames (σ.1 91 x4.toNatClampNeg) x1 σ (fun r1 σ1 => ((¬ r1 = 0 → F 1 x1 x2 (0 : Int32) (x4 + 1) σ1) ∧ (r1 = 0 → F 1 x1 x2 (1 : Int32) (x4 + 1) σ1)))))))))
def wp_Md_isOffered (post : Int32 → Sg → Prop) : Nat → Nat → Int32 → Int32 → Int32 → Int32 → Sg → Prop
  | 0, _, _, _, _, _, _ => False
  | n + 1, k, x1, x2, x3, x4, σ => match k with
    | 0 => wb_Md_isOffered_0 (wp_Md_isOffered post n) post x1 x2 σ
    | 1 => wb_Md_isOffered_1 (wp_Md_isOffered post n) post x1 x2 x3 x4 σ
    | _ => False
def wq_Md_isOffered (x1 : Int32) (x2 : Int32) (σ : Sg) (post : Int32 → Sg → Prop) : Prop := ∃ n, wp_Md_isOffered post n 0 x1 x2 0 0 σ
def J_Md_isOffered_1 (p : Program) (l : Launch) (e : Env) (s : State) (m : MethodId) (args : Array Value) (below : List Frame) (meth : Method) (c : Code) (D : va_G) (g : Gm) (A : Nat → Prop) (post : Int32 → Sg → Prop) (F : Nat → Int32 → Int32 → Int32 → Int32 → Sg → Prop) : Prop := ∀ (x1 : Int32) (x2 : Int32) (x3 : Int32) (x4 : Int32) (σ : Sg) (H : Heap) (locs : List Loc) (ls : Array Slot), lv_has ls 5 [(0, .ref (g.1 54)), (1, .int x1), (2, .int x2), (3, .int x3), (4, .int x4)] → Wst D vwCl (WS g) A s σ H locs → F 1 x1 x2 x3 x4 σ → W p l e { frames := 1, cells := 0, slots := 0, locals := 27 } s m args below meth c H locs 0 0 (MQ below (QiW D vwCl (WS g) post A) args s 0 0 A) (F0 m 5 ls [])
set_option maxRecDepth 100000 in
set_option maxHeartbeats 4000000 in
theorem b_Md_isOffered_0 {p : Program} {l : Launch} {e : Env} {s : State} {m : MethodId} {args : Array Value} {below : List Frame} {meth : Method} {c : Code} {D : va_G} {g : Gm} {A : Nat → Prop} {post : Int32 → Sg → Prop} {F : Nat → Int32 → Int32 → Int32 → Int32 → Sg → Prop} (C : kC p s m args meth c k_Md_isOffered 5 (some .boolean) GW R_Md D vwCl g (Zk g) A) (j1 : J_Md_isOffered_1 p l e s m args below meth c D g A post F) (x1 : Int32) (x2 : Int32) (σ : Sg) (H : Heap) (locs : List Loc) (ls : Array Slot) (hl : lv_has ls 5 [(0, .ref (g.1 54)), (1, .int x1), (2, .int x2)]) (hst : Wst D vwCl (WS g) A s σ H locs) (h : wb_Md_isOffered_0 F post x1 x2 σ) : W p l e { frames := 1, cells := 0, slots := 0, locals := 27 } s m args below meth c H locs 0 0 (MQ below (QiW D vwCl (WS g) post A) args s 0 0 A) (F0 m 0 ls []) := by
  obtain ⟨hx, hb, hr, hml, hown, hts, hlocks, hK, hZ, hA⟩ := C
  unfold wb_Md_isOffered_0 at h
  refine lv_iconst (v := (0 : Int32)) hx hb d_Md_isOffered_0 (by decide) ?_
  refine lv_istore_n hx hb d_Md_isOffered_1 rfl hl (by decide) rfl (fun ls hl => ?_)
  have hl : lv_has ls 5 [(3, .int (0 : Int32)), (0, .ref (g.1 54)), (1, .int x1), (2, .int x2)] := hl
  refine lv_iconst (v := (0 : Int32)) hx hb d_Md_isOffered_2 (by decide) ?_
  refine lv_istore hx hb d_Md_isOffered_3 hl (by decide) rfl (fun ls hl => ?_)
  have hl : lv_has ls 5 [(4, .int (0 : Int32)), (3, .int (0 : Int32)), (0, .ref (g.1 54)), (1, .int x1), (2, .int x2)] := hl
  exact j1 x1 x2 (0 : Int32) (0 : Int32) σ _ _ _ (lv_sub hl [2, 3, 4, 1, 0] rfl) hst h
set_option maxRecDepth 100000 in
set_option maxHeartbeats 4000000 in
theorem b_Md_isOffered_1 {p : Program} {l : Launch} {e : Env} {s : State} {m : MethodId} {args : Array Value} {below : List Frame} {meth : Method} {c : Code} {D : va_G} {g : Gm} {A : Nat → Prop} {post : Int32 → Sg → Prop} {F : Nat → Int32 → Int32 → Int32 → Int32 → Sg → Prop} (C : kC p s m args meth c k_Md_isOffered 5 (some .boolean) GW R_Md D vwCl g (Zk g) A) (j1 : J_Md_isOffered_1 p l e s m args below meth c D g A post F) (x1 : Int32) (x2 : Int32) (x3 : Int32) (x4 : Int32) (σ : Sg) (H : Heap) (locs : List Loc) (ls : Array Slot) (hl : lv_has ls 5 [(0, .ref (g.1 54)), (1, .int x1), (2, .int x2), (3, .int x3), (4, .int x4)]) (hst : Wst D vwCl (WS g) A s σ H locs) (h : wb_Md_isOffered_1 F post x1 x2 x3 x4 σ) : W p l e { frames := 1, cells := 0, slots := 0, locals := 27 } s m args below meth c H locs 0 0 (MQ below (QiW D vwCl (WS g) post A) args s 0 0 A) (F0 m 5 ls []) := by
  obtain ⟨hx, hb, hr, hml, hown, hts, hlocks, hK, hZ, hA⟩ := C
  unfold wb_Md_isOffered_1 at h
  refine lv_iload hx hb d_Md_isOffered_5 (lv_at hl 4 rfl) ?_
  refine lv_iload_n hx hb d_Md_isOffered_7 rfl (lv_at hl 2 rfl) ?_
  refine lv_icmp_ge (tgt := 42) hx hb d_Md_isOffered_8 (by decide) (fun hc => ?_) (fun hc => ?_)
  · replace h := h.1 hc
    refine lv_iload_n hx hb d_Md_isOffered_42 rfl (lv_at hl 3 rfl) ?_
    exact kw_zret hx hb hr hlocks hst h d_Md_isOffered_43
  · replace h := h.2 hc
    refine lv_iload_n hx hb d_Md_isOffered_11 rfl (lv_at hl 3 rfl) ?_
    refine lv_if_ne (tgt := 30) hx hb d_Md_isOffered_12 (by decide) (fun hc => ?_) (fun hc => ?_)
    · replace h := h.1 hc
      refine lv_iconst (v := (1 : Int32)) hx hb d_Md_isOffered_30 (by decide) ?_
      refine lv_goto (tgt := 35) hx hb d_Md_isOffered_31 (by decide) ?_
      refine lv_istore_n hx hb d_Md_isOffered_35 rfl hl (by decide) rfl (fun ls hl => ?_)
      have hl : lv_has ls 5 [(3, .int (1 : Int32)), (0, .ref (g.1 54)), (1, .int x1), (2, .int x2), (4, .int x4)] := hl
      refine lv_iinc (k := 4) (v := (x4 + 1)) hx hb d_Md_isOffered_36 hl rfl (kw_inc _ (by decide)) (by decide) rfl (fun ls hl => ?_)
      have hl : lv_has ls 5 [(4, .int (x4 + 1)), (3, .int (1 : Int32)), (0, .ref (g.1 54)), (1, .int x1), (2, .int x2)] := hl
      refine lv_goto (tgt := 5) hx hb d_Md_isOffered_39 (by decide) ?_
      exact j1 x1 x2 (1 : Int32) (x4 + 1) σ _ _ _ (lv_sub hl [2, 3, 4, 1, 0] rfl) hst h
    · replace h := h.2 hc
      refine lv_aload_n hx hb d_Md_isOffered_15 rfl (lv_at hl 0 rfl) ?_
      refine lv_aload_n hx hb d_Md_isOffered_16 rfl (lv_at hl 0 rfl) ?_
      refine va_get (D := D) (ci := 10) (C := R_Md) (T := T_Md) (N := 46) hx hb hts in_Md hown hK hst.1 54 (WS_o54 g σ) rfl 45 (by decide) (hts _ gw1109) (fun _ h9 => h9) rfl d_Md_isOffered_17 ?_
      refine lv_iload hx hb d_Md_isOffered_20 (lv_at hl 4 rfl) ?_
      obtain ⟨hi, h⟩ := h
      refine va_iald hx hb hK hst.1 91 0 (WS_a91 g σ) rfl hi d_Md_isOffered_22 ?_
      refine lv_iload_n hx hb d_Md_isOffered_23 rfl (lv_at hl 1 rfl) ?_
      refine kw_calli (va_runV (As := [.int (σ.1 91 x4.toNatClampNeg), .int x1]) (rest := []) (b := g.1 54) ⟨hx, hb, hml, hown, hts⟩ (c_Md_compareNames l (σ.1 91 x4.toNatClampNeg) x1 h) (cwV 2 hts (gd_v gw1476 gw1478 gs93 gw15 gw1479) rfl rfl rfl (by decide +kernel) ⟨Nat.le_of_ble_eq_true rfl, Nat.le_of_ble_eq_true rfl⟩) ⟨kw_blind (Zk_ok g), va_recv hK hst.1 rfl (WS_o54 g σ), kw_pre (Zk_ok g) hK hZ hA hst⟩ rfl rfl hl.1 rfl (lv_room (Nat.le_of_ble_eq_true rfl)) d_Md_isOffered_24 ⟨Nat.le_of_ble_eq_true rfl, Nat.le_of_ble_eq_true rfl⟩) hst hA (fun r1 σ1 H locs h hst => ?_)
      refine lv_if_ne (tgt := 34) hx hb d_Md_isOffered_27 (by decide) (fun hc => ?_) (fun hc => ?_)
      · replace h := h.1 hc
        refine lv_iconst (v := (0 : Int32)) hx hb d_Md_isOffered_34 (by decide) ?_
        refine lv_istore_n hx hb d_Md_isOffered_35 rfl hl (by decide) rfl (fun ls hl => ?_)
        have hl : lv_has ls 5 [(3, .int (0 : Int32)), (0, .ref (g.1 54)), (1, .int x1), (2, .int x2), (4, .int x4)] := hl
        refine lv_iinc (k := 4) (v := (x4 + 1)) hx hb d_Md_isOffered_36 hl rfl (kw_inc _ (by decide)) (by decide) rfl (fun ls hl => ?_)
        have hl : lv_has ls 5 [(4, .int (x4 + 1)), (3, .int (0 : Int32)), (0, .ref (g.1 54)), (1, .int x1), (2, .int x2)] := hl
        refine lv_goto (tgt := 5) hx hb d_Md_isOffered_39 (by decide) ?_
        exact j1 x1 x2 (0 : Int32) (x4 + 1) σ1 _ _ _ (lv_sub hl [2, 3, 4, 1, 0] rfl) hst h
      · replace h := h.2 hc
        refine lv_iconst (v := (1 : Int32)) hx hb d_Md_isOffered_30 (by decide) ?_
        refine lv_goto (tgt := 35) hx hb d_Md_isOffered_31 (by decide) ?_
        refine lv_istore_n hx hb d_Md_isOffered_35 rfl hl (by decide) rfl (fun ls hl => ?_)
        have hl : lv_has ls 5 [(3, .int (1 : Int32)), (0, .ref (g.1 54)), (1, .int x1), (2, .int x2), (4, .int x4)] := hl
        refine lv_iinc (k := 4) (v := (x4 + 1)) hx hb d_Md_isOffered_36 hl rfl (kw_inc _ (by decide)) (by decide) rfl (fun ls hl => ?_)
        have hl : lv_has ls 5 [(4, .int (x4 + 1)), (3, .int (1 : Int32)), (0, .ref (g.1 54)), (1, .int x1), (2, .int x2)] := hl
        refine lv_goto (tgt := 5) hx hb d_Md_isOffered_39 (by decide) ?_
        exact j1 x1 x2 (1 : Int32) (x4 + 1) σ1 _ _ _ (lv_sub hl [2, 3, 4, 1, 0] rfl) hst h
set_option maxRecDepth 100000 in
set_option maxHeartbeats 4000000 in
theorem a_Md_isOffered {p : Program} {l : Launch} {e : Env} {s : State} {m : MethodId} {args : Array Value} {below : List Frame} {meth : Method} {c : Code} {D : va_G} {g : Gm} {A : Nat → Prop} {post : Int32 → Sg → Prop} (C : kC p s m args meth c k_Md_isOffered 5 (some .boolean) GW R_Md D vwCl g (Zk g) A) : ∀ n : Nat, J_Md_isOffered_1 p l e s m args below meth c D g A post (wp_Md_isOffered post n) := by
  intro n
  induction n with
  | zero => exact fun _ _ _ _ _ _ _ _ _ _ h => h.elim
  | succ n ih => exact fun x1 x2 x3 x4 σ H locs ls hl hst h => b_Md_isOffered_1 (F := wp_Md_isOffered post n) C (ih) x1 x2 x3 x4 σ H locs ls hl hst h
set_option maxRecDepth 100000 in
set_option maxHeartbeats 4000000 in
theorem c_Md_isOffered (l : Launch) {D : va_G} {g : Gm} {sz : Nat} (x1 : Int32) (x2 : Int32) {σ : Sg} {post : Int32 → Sg → Prop} (h : wq_Md_isOffered x1 x2 σ post) : Met l y_Md_isOffered (.code y_Md_isOffered k_Md_isOffered 5 (some .boolean) :: GW) { frames := 1, cells := 0, slots := 0, locals := 27 } (PcW D vwCl (WS g) g (Zk g) σ sz [.ref (g.1 54), .int x1, .int x2]) (QiW D vwCl (WS g) post (va_A (WS g σ) sz)) 0 0 (va_A (WS g σ) sz) := by
  refine kw_entry (own := R_Md) (by decide) rfl rfl (Nat.le_of_ble_eq_true rfl) ?_
  intro p e s m below meth c ls hsz C hin hl hst
  obtain ⟨n, h⟩ := h
  cases n with
  | zero => exact h.elim
  | succ n =>
    have ih := a_Md_isOffered (l := l) (e := e) (below := below) (post := post) C n
    exact b_Md_isOffered_0 (F := wp_Md_isOffered post n) C (ih) x1 x2 σ _ _ ls hl hst h
/-! SchemaDeskModel.proposal (II)I -/
abbrev k_Md_proposal : ByteArray := prog_12_method_73_code
abbrev y_Md_proposal : MethodName := ⟨"SchemaDeskModel", "proposal", "(II)I"⟩
theorem d_Md_proposal_0 : decode k_Md_proposal 0 = .ok (.aload_n 0, 1) := by decide +kernel
theorem d_Md_proposal_1 : decode k_Md_proposal 1 = .ok (.iload_n 1, 1) := by decide +kernel
theorem d_Md_proposal_2 : decode k_Md_proposal 2 = .ok (.ifCond .lt 15, 3) := by decide +kernel
theorem d_Md_proposal_5 : decode k_Md_proposal 5 = .ok (.iload_n 1, 1) := by decide +kernel
theorem d_Md_proposal_6 : decode k_Md_proposal 6 = .ok (.aload_n 0, 1) := by decide +kernel
theorem d_Md_proposal_7 : decode k_Md_proposal 7 = .ok (.getfield 388, 3) := by decide +kernel
theorem d_Md_proposal_10 : decode k_Md_proposal 10 = .ok (.if_icmp .ge 7, 3) := by decide +kernel
theorem d_Md_proposal_13 : decode k_Md_proposal 13 = .ok (.iload_n 2, 1) := by decide +kernel
theorem d_Md_proposal_14 : decode k_Md_proposal 14 = .ok (.ifCond .ge 7, 3) := by decide +kernel
theorem d_Md_proposal_17 : decode k_Md_proposal 17 = .ok (.iconst 1, 1) := by decide +kernel
theorem d_Md_proposal_18 : decode k_Md_proposal 18 = .ok (.goto 4, 3) := by decide +kernel
theorem d_Md_proposal_21 : decode k_Md_proposal 21 = .ok (.iconst 0, 1) := by decide +kernel
theorem d_Md_proposal_22 : decode k_Md_proposal 22 = .ok (.putfield 177, 3) := by decide +kernel
theorem d_Md_proposal_25 : decode k_Md_proposal 25 = .ok (.aload_n 0, 1) := by decide +kernel
theorem d_Md_proposal_26 : decode k_Md_proposal 26 = .ok (.getfield 177, 3) := by decide +kernel
theorem d_Md_proposal_29 : decode k_Md_proposal 29 = .ok (.ifCond .eq 5, 3) := by decide +kernel
theorem d_Md_proposal_32 : decode k_Md_proposal 32 = .ok (.iconst 0, 1) := by decide +kernel
theorem d_Md_proposal_33 : decode k_Md_proposal 33 = .ok (.ireturn, 1) := by decide +kernel
theorem d_Md_proposal_34 : decode k_Md_proposal 34 = .ok (.iload_n 2, 1) := by decide +kernel
theorem d_Md_proposal_35 : decode k_Md_proposal 35 = .ok (.aload_n 0, 1) := by decide +kernel
theorem d_Md_proposal_36 : decode k_Md_proposal 36 = .ok (.getfield 171, 3) := by decide +kernel
theorem d_Md_proposal_39 : decode k_Md_proposal 39 = .ok (.iload_n 1, 1) := by decide +kernel
theorem d_Md_proposal_40 : decode k_Md_proposal 40 = .ok (.iconst 1, 1) := by decide +kernel
theorem d_Md_proposal_41 : decode k_Md_proposal 41 = .ok (.iadd, 1) := by decide +kernel
theorem d_Md_proposal_42 : decode k_Md_proposal 42 = .ok (.iaload, 1) := by decide +kernel
theorem d_Md_proposal_43 : decode k_Md_proposal 43 = .ok (.aload_n 0, 1) := by decide +kernel
theorem d_Md_proposal_44 : decode k_Md_proposal 44 = .ok (.getfield 171, 3) := by decide +kernel
theorem d_Md_proposal_47 : decode k_Md_proposal 47 = .ok (.iload_n 1, 1) := by decide +kernel
theorem d_Md_proposal_48 : decode k_Md_proposal 48 = .ok (.iaload, 1) := by decide +kernel
theorem d_Md_proposal_49 : decode k_Md_proposal 49 = .ok (.isub, 1) := by decide +kernel
theorem d_Md_proposal_50 : decode k_Md_proposal 50 = .ok (.if_icmp .ge 19, 3) := by decide +kernel
theorem d_Md_proposal_53 : decode k_Md_proposal 53 = .ok (.aload_n 0, 1) := by decide +kernel
theorem d_Md_proposal_54 : decode k_Md_proposal 54 = .ok (.getfield 168, 3) := by decide +kernel
theorem d_Md_proposal_57 : decode k_Md_proposal 57 = .ok (.aload_n 0, 1) := by decide +kernel
theorem d_Md_proposal_58 : decode k_Md_proposal 58 = .ok (.getfield 171, 3) := by decide +kernel
theorem d_Md_proposal_61 : decode k_Md_proposal 61 = .ok (.iload_n 1, 1) := by decide +kernel
theorem d_Md_proposal_62 : decode k_Md_proposal 62 = .ok (.iaload, 1) := by decide +kernel
theorem d_Md_proposal_63 : decode k_Md_proposal 63 = .ok (.iload_n 2, 1) := by decide +kernel
theorem d_Md_proposal_64 : decode k_Md_proposal 64 = .ok (.iadd, 1) := by decide +kernel
theorem d_Md_proposal_65 : decode k_Md_proposal 65 = .ok (.iaload, 1) := by decide +kernel
theorem d_Md_proposal_66 : decode k_Md_proposal 66 = .ok (.goto 4, 3) := by decide +kernel
theorem d_Md_proposal_69 : decode k_Md_proposal 69 = .ok (.iconst (-1), 1) := by decide +kernel
theorem d_Md_proposal_70 : decode k_Md_proposal 70 = .ok (.ireturn, 1) := by decide +kernel
theorem gw1106 : (Jvm.Cond.fieldLink "SchemaDeskModel" (388 : Nat) "SchemaDeskModel" "names" "I") ∈ GW := gw_t5 (List.mem_of_getElem? (i := 146) rfl) rfl
theorem gw1108 : (Jvm.Cond.fieldLink "SchemaDeskModel" (171 : Nat) "SchemaDeskModel" "begins" "[I") ∈ GW := gw_t5 (List.mem_of_getElem? (i := 148) rfl) rfl
theorem gw1107 : (Jvm.Cond.fieldLink "SchemaDeskModel" (168 : Nat) "SchemaDeskModel" "kept" "[I") ∈ GW := gw_t5 (List.mem_of_getElem? (i := 147) rfl) rfl
def wb_Md_proposal_0 (F : Nat → Int32 → Int32 → Sg → Prop) (post : Int32 → Sg → Prop) (x1 : Int32) (x2 : Int32) (σ : Sg) : Prop := ((x1 < 0 → (∀ σ1, σ1 = si σ 54 1 (1 : Int32) → F 1 x1 x2 σ1)) ∧ (¬ x1 < 0 → (((σ.1 54 42) ≤ x1 → (∀ σ1, σ1 = si σ 54 1 (1 : Int32) → F 1 x1 x2 σ1)) ∧ (¬ (σ.1 54 42) ≤ x1 → ((0 ≤ x2 → (∀ σ1, σ1 = si σ 54 1 (0 : Int32) → F 1 x1 x2 σ1)) ∧ (¬ 0 ≤ x2 → (∀ σ1, σ1 = si σ 54 1 (1 : Int32) → F 1 x1 x2 σ1)))))))
def wb_Md_proposal_1 (F : Nat → Int32 → Int32 → Sg → Prop) (post : Int32 → Sg → Prop) (x1 : Int32) (x2 : Int32) (σ : Sg) : Prop := (((σ.1 54 1) = 0 → (vp_in (x1 + (1 : Int32)) 81 ∧ (vp_in x1 81 ∧ ((((σ.1 90 ((x1 + (1 : Int32)) : Int32).toNatClampNeg) - (σ.1 90 x1.toNatClampNeg)) ≤ x2 → post (-1 : Int32) σ) ∧ (¬ ((σ.1 90 ((x1 + (1 : Int32)) : Int32).toNatClampNeg) - (σ.1 90 x1.toNatClampNeg)) ≤ x2 → (vp_in x1 81 ∧ (vp_in ((σ.1 90 x1.toNatClampNeg) + x2) 160 ∧ post (σ.1 89 (((σ.1 90 x1.toNatClampNeg) + x2) : Int32).toNatClampNeg) σ))))))) ∧ (¬ (σ.1 54 1) = 0 → post (0 : Int32) σ))
def wp_Md_proposal (post : Int32 → Sg → Prop) : Nat → Nat → Int32 → Int32 → Sg → Prop
  | 0, _, _, _, _ => False
  | n + 1, k, x1, x2, σ => match k with
    | 0 => wb_Md_proposal_0 (wp_Md_proposal post n) post x1 x2 σ
    | 1 => wb_Md_proposal_1 (wp_Md_proposal post n) post x1 x2 σ
    | _ => False
def wq_Md_proposal (x1 : Int32) (x2 : Int32) (σ : Sg) (post : Int32 → Sg → Prop) : Prop := ∃ n, wp_Md_proposal post n 0 x1 x2 σ
def J_Md_proposal_1 (p : Program) (l : Launch) (e : Env) (s : State) (m : MethodId) (args : Array Value) (below : List Frame) (meth : Method) (c : Code) (D : va_G) (g : Gm) (A : Nat → Prop) (post : Int32 → Sg → Prop) (F : Nat → Int32 → Int32 → Sg → Prop) : Prop := ∀ (x1 : Int32) (x2 : Int32) (σ : Sg) (H : Heap) (locs : List Loc) (ls : Array Slot), lv_has ls 3 [(0, .ref (g.1 54)), (1, .int x1), (2, .int x2)] → Wst D vwCl (WS g) A s σ H locs → F 1 x1 x2 σ → W p l e { frames := 0, cells := 0, slots := 0, locals := 0 } s m args below meth c H locs 0 0 (MQ below (QiW D vwCl (WS g) post A) args s 0 0 A) (F0 m 25 ls [])
set_option maxRecDepth 100000 in
set_option maxHeartbeats 4000000 in
theorem b_Md_proposal_0 {p : Program} {l : Launch} {e : Env} {s : State} {m : MethodId} {args : Array Value} {below : List Frame} {meth : Method} {c : Code} {D : va_G} {g : Gm} {A : Nat → Prop} {post : Int32 → Sg → Prop} {F : Nat → Int32 → Int32 → Sg → Prop} (C : kC p s m args meth c k_Md_proposal 3 (some .int) GW R_Md D vwCl g (Zk g) A) (j1 : J_Md_proposal_1 p l e s m args below meth c D g A post F) (x1 : Int32) (x2 : Int32) (σ : Sg) (H : Heap) (locs : List Loc) (ls : Array Slot) (hl : lv_has ls 3 [(0, .ref (g.1 54)), (1, .int x1), (2, .int x2)]) (hst : Wst D vwCl (WS g) A s σ H locs) (h : wb_Md_proposal_0 F post x1 x2 σ) : W p l e { frames := 0, cells := 0, slots := 0, locals := 0 } s m args below meth c H locs 0 0 (MQ below (QiW D vwCl (WS g) post A) args s 0 0 A) (F0 m 0 ls []) := by
  obtain ⟨hx, hb, hr, hml, hown, hts, hlocks, hK, hZ, hA⟩ := C
  unfold wb_Md_proposal_0 at h
  refine lv_aload_n hx hb d_Md_proposal_0 rfl (lv_at hl 0 rfl) ?_
  refine lv_iload_n hx hb d_Md_proposal_1 rfl (lv_at hl 1 rfl) ?_
  refine lv_if_lt (tgt := 17) hx hb d_Md_proposal_2 (by decide) (fun hc => ?_) (fun hc => ?_)
  · replace h := h.1 hc
    refine lv_iconst (v := (1 : Int32)) hx hb d_Md_proposal_17 (by decide) ?_
    refine lv_goto (tgt := 22) hx hb d_Md_proposal_18 (by decide) ?_
    refine kw_put (D := D) (ci := 10) (ty := .int) (C := R_Md) (T := T_Md) (N := 46) hx hb hts in_Md ty_Md ty_Md_ok nm_Md hown hK hst 54 (WS_o54 g σ) rfl 1 (by decide) (hts _ gw1065) (fun _ h9 => h9) rfl (by decide +kernel) rfl rfl (Nat.le_of_ble_eq_true rfl) (WS_p54_1 g σ _) d_Md_proposal_22 (fun σ1 H locs e1 hst => ?_)
    replace h := h σ1 e1
    exact j1 x1 x2 σ1 _ _ _ (lv_sub hl [0, 1, 2] rfl) hst h
  · replace h := h.2 hc
    refine lv_iload_n hx hb d_Md_proposal_5 rfl (lv_at hl 1 rfl) ?_
    refine lv_aload_n hx hb d_Md_proposal_6 rfl (lv_at hl 0 rfl) ?_
    refine va_get (D := D) (ci := 10) (C := R_Md) (T := T_Md) (N := 46) hx hb hts in_Md hown hK hst.1 54 (WS_o54 g σ) rfl 42 (by decide) (hts _ gw1106) (fun _ h9 => h9) rfl d_Md_proposal_7 ?_
    refine lv_icmp_ge (tgt := 17) hx hb d_Md_proposal_10 (by decide) (fun hc => ?_) (fun hc => ?_)
    · replace h := h.1 hc
      refine lv_iconst (v := (1 : Int32)) hx hb d_Md_proposal_17 (by decide) ?_
      refine lv_goto (tgt := 22) hx hb d_Md_proposal_18 (by decide) ?_
      refine kw_put (D := D) (ci := 10) (ty := .int) (C := R_Md) (T := T_Md) (N := 46) hx hb hts in_Md ty_Md ty_Md_ok nm_Md hown hK hst 54 (WS_o54 g σ) rfl 1 (by decide) (hts _ gw1065) (fun _ h9 => h9) rfl (by decide +kernel) rfl rfl (Nat.le_of_ble_eq_true rfl) (WS_p54_1 g σ _) d_Md_proposal_22 (fun σ1 H locs e1 hst => ?_)
      replace h := h σ1 e1
      exact j1 x1 x2 σ1 _ _ _ (lv_sub hl [0, 1, 2] rfl) hst h
    · replace h := h.2 hc
      refine lv_iload_n hx hb d_Md_proposal_13 rfl (lv_at hl 2 rfl) ?_
      refine lv_if_ge (tgt := 21) hx hb d_Md_proposal_14 (by decide) (fun hc => ?_) (fun hc => ?_)
      · replace h := h.1 hc
        refine lv_iconst (v := (0 : Int32)) hx hb d_Md_proposal_21 (by decide) ?_
        refine kw_put (D := D) (ci := 10) (ty := .int) (C := R_Md) (T := T_Md) (N := 46) hx hb hts in_Md ty_Md ty_Md_ok nm_Md hown hK hst 54 (WS_o54 g σ) rfl 1 (by decide) (hts _ gw1065) (fun _ h9 => h9) rfl (by decide +kernel) rfl rfl (Nat.le_of_ble_eq_true rfl) (WS_p54_1 g σ _) d_Md_proposal_22 (fun σ1 H locs e1 hst => ?_)
        replace h := h σ1 e1
        exact j1 x1 x2 σ1 _ _ _ (lv_sub hl [0, 1, 2] rfl) hst h
      · replace h := h.2 hc
        refine lv_iconst (v := (1 : Int32)) hx hb d_Md_proposal_17 (by decide) ?_
        refine lv_goto (tgt := 22) hx hb d_Md_proposal_18 (by decide) ?_
        refine kw_put (D := D) (ci := 10) (ty := .int) (C := R_Md) (T := T_Md) (N := 46) hx hb hts in_Md ty_Md ty_Md_ok nm_Md hown hK hst 54 (WS_o54 g σ) rfl 1 (by decide) (hts _ gw1065) (fun _ h9 => h9) rfl (by decide +kernel) rfl rfl (Nat.le_of_ble_eq_true rfl) (WS_p54_1 g σ _) d_Md_proposal_22 (fun σ1 H locs e1 hst => ?_)
        replace h := h σ1 e1
        exact j1 x1 x2 σ1 _ _ _ (lv_sub hl [0, 1, 2] rfl) hst h
set_option maxRecDepth 100000 in
set_option maxHeartbeats 4000000 in
theorem b_Md_proposal_1 {p : Program} {l : Launch} {e : Env} {s : State} {m : MethodId} {args : Array Value} {below : List Frame} {meth : Method} {c : Code} {D : va_G} {g : Gm} {A : Nat → Prop} {post : Int32 → Sg → Prop} {F : Nat → Int32 → Int32 → Sg → Prop} (C : kC p s m args meth c k_Md_proposal 3 (some .int) GW R_Md D vwCl g (Zk g) A) (x1 : Int32) (x2 : Int32) (σ : Sg) (H : Heap) (locs : List Loc) (ls : Array Slot) (hl : lv_has ls 3 [(0, .ref (g.1 54)), (1, .int x1), (2, .int x2)]) (hst : Wst D vwCl (WS g) A s σ H locs) (h : wb_Md_proposal_1 F post x1 x2 σ) : W p l e { frames := 0, cells := 0, slots := 0, locals := 0 } s m args below meth c H locs 0 0 (MQ below (QiW D vwCl (WS g) post A) args s 0 0 A) (F0 m 25 ls []) := by
  obtain ⟨hx, hb, hr, hml, hown, hts, hlocks, hK, hZ, hA⟩ := C
  unfold wb_Md_proposal_1 at h
  refine lv_aload_n hx hb d_Md_proposal_25 rfl (lv_at hl 0 rfl) ?_
  refine va_get (D := D) (ci := 10) (C := R_Md) (T := T_Md) (N := 46) hx hb hts in_Md hown hK hst.1 54 (WS_o54 g σ) rfl 1 (by decide) (hts _ gw1065) (fun _ h9 => h9) rfl d_Md_proposal_26 ?_
  refine lv_if_eq (tgt := 34) hx hb d_Md_proposal_29 (by decide) (fun hc => ?_) (fun hc => ?_)
  · replace h := h.1 hc
    refine lv_iload_n hx hb d_Md_proposal_34 rfl (lv_at hl 2 rfl) ?_
    refine lv_aload_n hx hb d_Md_proposal_35 rfl (lv_at hl 0 rfl) ?_
    refine va_get (D := D) (ci := 10) (C := R_Md) (T := T_Md) (N := 46) hx hb hts in_Md hown hK hst.1 54 (WS_o54 g σ) rfl 44 (by decide) (hts _ gw1108) (fun _ h9 => h9) rfl d_Md_proposal_36 ?_
    refine lv_iload_n hx hb d_Md_proposal_39 rfl (lv_at hl 1 rfl) ?_
    refine lv_iconst (v := (1 : Int32)) hx hb d_Md_proposal_40 (by decide) ?_
    refine lv_iadd hx hb d_Md_proposal_41 ?_
    obtain ⟨hi, h⟩ := h
    refine va_iald hx hb hK hst.1 90 0 (WS_a90 g σ) rfl hi d_Md_proposal_42 ?_
    refine lv_aload_n hx hb d_Md_proposal_43 rfl (lv_at hl 0 rfl) ?_
    refine va_get (D := D) (ci := 10) (C := R_Md) (T := T_Md) (N := 46) hx hb hts in_Md hown hK hst.1 54 (WS_o54 g σ) rfl 44 (by decide) (hts _ gw1108) (fun _ h9 => h9) rfl d_Md_proposal_44 ?_
    refine lv_iload_n hx hb d_Md_proposal_47 rfl (lv_at hl 1 rfl) ?_
    obtain ⟨hi, h⟩ := h
    refine va_iald hx hb hK hst.1 90 0 (WS_a90 g σ) rfl hi d_Md_proposal_48 ?_
    refine lv_isub hx hb d_Md_proposal_49 ?_
    refine lv_icmp_ge (tgt := 69) hx hb d_Md_proposal_50 (by decide) (fun hc => ?_) (fun hc => ?_)
    · replace h := h.1 hc
      refine lv_iconst (v := (-1 : Int32)) hx hb d_Md_proposal_69 (by decide) ?_
      exact kw_iret hx hb hr hlocks hst h d_Md_proposal_70
    · replace h := h.2 hc
      refine lv_aload_n hx hb d_Md_proposal_53 rfl (lv_at hl 0 rfl) ?_
      refine va_get (D := D) (ci := 10) (C := R_Md) (T := T_Md) (N := 46) hx hb hts in_Md hown hK hst.1 54 (WS_o54 g σ) rfl 43 (by decide) (hts _ gw1107) (fun _ h9 => h9) rfl d_Md_proposal_54 ?_
      refine lv_aload_n hx hb d_Md_proposal_57 rfl (lv_at hl 0 rfl) ?_
      refine va_get (D := D) (ci := 10) (C := R_Md) (T := T_Md) (N := 46) hx hb hts in_Md hown hK hst.1 54 (WS_o54 g σ) rfl 44 (by decide) (hts _ gw1108) (fun _ h9 => h9) rfl d_Md_proposal_58 ?_
      refine lv_iload_n hx hb d_Md_proposal_61 rfl (lv_at hl 1 rfl) ?_
      obtain ⟨hi, h⟩ := h
      refine va_iald hx hb hK hst.1 90 0 (WS_a90 g σ) rfl hi d_Md_proposal_62 ?_
      refine lv_iload_n hx hb d_Md_proposal_63 rfl (lv_at hl 2 rfl) ?_
      refine lv_iadd hx hb d_Md_proposal_64 ?_
      obtain ⟨hi, h⟩ := h
      refine va_iald hx hb hK hst.1 89 0 (WS_a89 g σ) rfl hi d_Md_proposal_65 ?_
      refine lv_goto (tgt := 70) hx hb d_Md_proposal_66 (by decide) ?_
      exact kw_iret hx hb hr hlocks hst h d_Md_proposal_70
  · replace h := h.2 hc
    refine lv_iconst (v := (0 : Int32)) hx hb d_Md_proposal_32 (by decide) ?_
    exact kw_iret hx hb hr hlocks hst h d_Md_proposal_33
set_option maxRecDepth 100000 in
set_option maxHeartbeats 4000000 in
theorem a_Md_proposal {p : Program} {l : Launch} {e : Env} {s : State} {m : MethodId} {args : Array Value} {below : List Frame} {meth : Method} {c : Code} {D : va_G} {g : Gm} {A : Nat → Prop} {post : Int32 → Sg → Prop} (C : kC p s m args meth c k_Md_proposal 3 (some .int) GW R_Md D vwCl g (Zk g) A) : ∀ n : Nat, J_Md_proposal_1 p l e s m args below meth c D g A post (wp_Md_proposal post n) := by
  intro n
  induction n with
  | zero => exact fun _ _ _ _ _ _ _ _ h => h.elim
  | succ n ih => exact fun x1 x2 σ H locs ls hl hst h => b_Md_proposal_1 (F := wp_Md_proposal post n) C x1 x2 σ H locs ls hl hst h
set_option maxRecDepth 100000 in
set_option maxHeartbeats 4000000 in
theorem c_Md_proposal (l : Launch) {D : va_G} {g : Gm} {sz : Nat} (x1 : Int32) (x2 : Int32) {σ : Sg} {post : Int32 → Sg → Prop} (h : wq_Md_proposal x1 x2 σ post) : Met l y_Md_proposal (.code y_Md_proposal k_Md_proposal 3 (some .int) :: GW) { frames := 0, cells := 0, slots := 0, locals := 0 } (PcW D vwCl (WS g) g (Zk g) σ sz [.ref (g.1 54), .int x1, .int x2]) (QiW D vwCl (WS g) post (va_A (WS g σ) sz)) 0 0 (va_A (WS g σ) sz) := by
  refine kw_entry (own := R_Md) (by decide) rfl rfl (Nat.le_of_ble_eq_true rfl) ?_
  intro p e s m below meth c ls hsz C hin hl hst
  obtain ⟨n, h⟩ := h
  cases n with
  | zero => exact h.elim
  | succ n =>
    have ih := a_Md_proposal (l := l) (e := e) (below := below) (post := post) C n
    exact b_Md_proposal_0 (F := wp_Md_proposal post n) C (ih) x1 x2 σ _ _ ls hl hst h
/-! SchemaDeskModel.type (IC)Z -/
abbrev k_Md_type : ByteArray := prog_12_method_7_code
abbrev y_Md_type : MethodName := ⟨"SchemaDeskModel", "type", "(IC)Z"⟩
theorem d_Md_type_0 : decode k_Md_type 0 = .ok (.aload_n 0, 1) := by decide +kernel
theorem d_Md_type_1 : decode k_Md_type 1 = .ok (.iconst 0, 1) := by decide +kernel
theorem d_Md_type_2 : decode k_Md_type 2 = .ok (.putfield 177, 3) := by decide +kernel
theorem d_Md_type_5 : decode k_Md_type 5 = .ok (.iload_n 1, 1) := by decide +kernel
theorem d_Md_type_6 : decode k_Md_type 6 = .ok (.invokestatic 181, 3) := by decide +kernel
theorem d_Md_type_9 : decode k_Md_type 9 = .ok (.ifCond .eq 23, 3) := by decide +kernel
theorem d_Md_type_12 : decode k_Md_type 12 = .ok (.iload_n 2, 1) := by decide +kernel
theorem d_Md_type_13 : decode k_Md_type 13 = .ok (.invokestatic 185, 3) := by decide +kernel
theorem d_Md_type_16 : decode k_Md_type 16 = .ok (.ifCond .eq 16, 3) := by decide +kernel
theorem d_Md_type_19 : decode k_Md_type 19 = .ok (.aload_n 0, 1) := by decide +kernel
theorem d_Md_type_20 : decode k_Md_type 20 = .ok (.getfield 71, 3) := by decide +kernel
theorem d_Md_type_23 : decode k_Md_type 23 = .ok (.iload_n 1, 1) := by decide +kernel
theorem d_Md_type_24 : decode k_Md_type 24 = .ok (.iaload, 1) := by decide +kernel
theorem d_Md_type_25 : decode k_Md_type 25 = .ok (.iload_n 1, 1) := by decide +kernel
theorem d_Md_type_26 : decode k_Md_type 26 = .ok (.invokestatic 188, 3) := by decide +kernel
theorem d_Md_type_29 : decode k_Md_type 29 = .ok (.if_icmp .ne 5, 3) := by decide +kernel
theorem d_Md_type_32 : decode k_Md_type 32 = .ok (.iconst 0, 1) := by decide +kernel
theorem d_Md_type_33 : decode k_Md_type 33 = .ok (.ireturn, 1) := by decide +kernel
theorem d_Md_type_34 : decode k_Md_type 34 = .ok (.aload_n 0, 1) := by decide +kernel
theorem d_Md_type_35 : decode k_Md_type 35 = .ok (.iload_n 1, 1) := by decide +kernel
theorem d_Md_type_36 : decode k_Md_type 36 = .ok (.iload_n 2, 1) := by decide +kernel
theorem d_Md_type_37 : decode k_Md_type 37 = .ok (.invokevirtual 192, 3) := by decide +kernel
theorem d_Md_type_40 : decode k_Md_type 40 = .ok (.iconst 1, 1) := by decide +kernel
theorem d_Md_type_41 : decode k_Md_type 41 = .ok (.ireturn, 1) := by decide +kernel
def wq_Md_type (x1 : Int32) (x2 : Int32) (σ : Sg) (post : Int32 → Sg → Prop) : Prop := (∀ σ1, σ1 = si σ 54 1 (0 : Int32) → (wq_Md_isText x1 σ1 (fun r2 σ2 => ((r2 = 0 → (narrow .boolean (.int (0 : Int32)) = .int (0 : Int32) ∧ post (0 : Int32) σ2)) ∧ (¬ r2 = 0 → (wq_Md_isChar x2 σ2 (fun r3 σ3 => ((r3 = 0 → (narrow .boolean (.int (0 : Int32)) = .int (0 : Int32) ∧ post (0 : Int32) σ3)) ∧ (¬ r3 = 0 → (vp_in x1 2 ∧ (wq_Md_room x1 σ3 (fun r4 σ4 => ((¬ (σ3.1 57 x1.toNatClampNeg) = r4 → (wq_Md_append x1 x2 σ4 (fun σ5 => (narrow .boolean (.int (1 : Int32)) = .int (1 : Int32) ∧ post (1 : Int32) σ5)))) ∧ ((σ3.1 57 x1.toNatClampNeg) = r4 → (narrow .boolean (.int (0 : Int32)) = .int (0 : Int32) ∧ post (0 : Int32) σ4)))))))))))))))
set_option maxRecDepth 100000 in
set_option maxHeartbeats 4000000 in
theorem b_Md_type_0 {p : Program} {l : Launch} {e : Env} {s : State} {m : MethodId} {args : Array Value} {below : List Frame} {meth : Method} {c : Code} {D : va_G} {g : Gm} {A : Nat → Prop} {post : Int32 → Sg → Prop} (C : kC p s m args meth c k_Md_type 3 (some .boolean) GW R_Md D vwCl g (Zk g) A) (x1 : Int32) (x2 : Int32) (σ : Sg) (H : Heap) (locs : List Loc) (ls : Array Slot) (hl : lv_has ls 3 [(0, .ref (g.1 54)), (1, .int x1), (2, .int x2)]) (hst : Wst D vwCl (WS g) A s σ H locs) (h : wq_Md_type x1 x2 σ post) : W p l e { frames := 1, cells := 0, slots := 0, locals := 22 } s m args below meth c H locs 0 0 (MQ below (QiW D vwCl (WS g) post A) args s 0 0 A) (F0 m 0 ls []) := by
  obtain ⟨hx, hb, hr, hml, hown, hts, hlocks, hK, hZ, hA⟩ := C
  unfold wq_Md_type at h
  refine lv_aload_n hx hb d_Md_type_0 rfl (lv_at hl 0 rfl) ?_
  refine lv_iconst (v := (0 : Int32)) hx hb d_Md_type_1 (by decide) ?_
  refine kw_put (D := D) (ci := 10) (ty := .int) (C := R_Md) (T := T_Md) (N := 46) hx hb hts in_Md ty_Md ty_Md_ok nm_Md hown hK hst 54 (WS_o54 g σ) rfl 1 (by decide) (hts _ gw1065) (fun _ h9 => h9) rfl (by decide +kernel) rfl rfl (Nat.le_of_ble_eq_true rfl) (WS_p54_1 g σ _) d_Md_type_2 (fun σ1 H locs e1 hst => ?_)
  replace h := h σ1 e1
  refine lv_iload_n hx hb d_Md_type_5 rfl (lv_at hl 1 rfl) ?_
  refine kw_calli (va_runS (As := [.int x1]) (rest := []) ⟨hx, hb, hml, hown, hts⟩ (c_Md_isText l x1 h) (cwS 1 hts (gd_s gw1211 gw1212 gw15 gw1213) rfl rfl rfl (by decide +kernel) ⟨Nat.le_of_ble_eq_true rfl, Nat.le_of_ble_eq_true rfl⟩) ⟨kw_blind (Zk_ok g), kw_pre (Zk_ok g) hK hZ hA hst⟩ rfl rfl hl.1 rfl (lv_room (Nat.le_of_ble_eq_true rfl)) d_Md_type_6 ⟨Nat.le_of_ble_eq_true rfl, Nat.le_of_ble_eq_true rfl⟩) hst hA (fun r2 σ2 H locs h hst => ?_)
  refine lv_if_eq (tgt := 32) hx hb d_Md_type_9 (by decide) (fun hc => ?_) (fun hc => ?_)
  · replace h := h.1 hc
    refine lv_iconst (v := (0 : Int32)) hx hb d_Md_type_32 (by decide) ?_
    exact kw_zret hx hb hr hlocks hst h d_Md_type_33
  · replace h := h.2 hc
    refine lv_iload_n hx hb d_Md_type_12 rfl (lv_at hl 2 rfl) ?_
    refine kw_calli (va_runS (As := [.int x2]) (rest := []) ⟨hx, hb, hml, hown, hts⟩ (c_Md_isChar l x2 h) (cwS 1 hts (gd_s gw1214 gw1215 gw15 gw1216) rfl rfl rfl (by decide +kernel) ⟨Nat.le_of_ble_eq_true rfl, Nat.le_of_ble_eq_true rfl⟩) ⟨kw_blind (Zk_ok g), kw_pre (Zk_ok g) hK hZ hA hst⟩ rfl rfl hl.1 rfl (lv_room (Nat.le_of_ble_eq_true rfl)) d_Md_type_13 ⟨Nat.le_of_ble_eq_true rfl, Nat.le_of_ble_eq_true rfl⟩) hst hA (fun r3 σ3 H locs h hst => ?_)
    refine lv_if_eq (tgt := 32) hx hb d_Md_type_16 (by decide) (fun hc => ?_) (fun hc => ?_)
    · replace h := h.1 hc
      refine lv_iconst (v := (0 : Int32)) hx hb d_Md_type_32 (by decide) ?_
      exact kw_zret hx hb hr hlocks hst h d_Md_type_33
    · replace h := h.2 hc
      refine lv_aload_n hx hb d_Md_type_19 rfl (lv_at hl 0 rfl) ?_
      refine va_get (D := D) (ci := 10) (C := R_Md) (T := T_Md) (N := 46) hx hb hts in_Md hown hK hst.1 54 (WS_o54 g σ3) rfl 3 (by decide) (hts _ gw1067) (fun _ h9 => h9) rfl d_Md_type_20 ?_
      refine lv_iload_n hx hb d_Md_type_23 rfl (lv_at hl 1 rfl) ?_
      obtain ⟨hi, h⟩ := h
      refine va_iald hx hb hK hst.1 57 0 (WS_a57 g σ3) rfl hi d_Md_type_24 ?_
      refine lv_iload_n hx hb d_Md_type_25 rfl (lv_at hl 1 rfl) ?_
      refine kw_calli (va_runS (As := [.int x1]) (rest := [.int (σ3.1 57 x1.toNatClampNeg)]) ⟨hx, hb, hml, hown, hts⟩ (c_Md_room l x1 h) (cwS 1 hts (gd_s gw1217 gw1218 gw15 gw1219) rfl rfl rfl (by decide +kernel) ⟨Nat.le_of_ble_eq_true rfl, Nat.le_of_ble_eq_true rfl⟩) ⟨kw_blind (Zk_ok g), kw_pre (Zk_ok g) hK hZ hA hst⟩ rfl rfl hl.1 rfl (lv_room (Nat.le_of_ble_eq_true rfl)) d_Md_type_26 ⟨Nat.le_of_ble_eq_true rfl, Nat.le_of_ble_eq_true rfl⟩) hst hA (fun r4 σ4 H locs h hst => ?_)
      refine lv_icmp_ne (tgt := 34) hx hb d_Md_type_29 (by decide) (fun hc => ?_) (fun hc => ?_)
      · replace h := h.1 hc
        refine lv_aload_n hx hb d_Md_type_34 rfl (lv_at hl 0 rfl) ?_
        refine lv_iload_n hx hb d_Md_type_35 rfl (lv_at hl 1 rfl) ?_
        refine lv_iload_n hx hb d_Md_type_36 rfl (lv_at hl 2 rfl) ?_
        refine kw_callv (va_runV (As := [.int x1, .int x2]) (rest := []) (b := g.1 54) ⟨hx, hb, hml, hown, hts⟩ (c_Md_append l x1 x2 h) (cwV 2 hts (gd_v gw1220 gw1222 gs46 gw15 gw1223) rfl rfl rfl (by decide +kernel) ⟨Nat.le_of_ble_eq_true rfl, Nat.le_of_ble_eq_true rfl⟩) ⟨kw_blind (Zk_ok g), va_recv hK hst.1 rfl (WS_o54 g σ4), kw_pre (Zk_ok g) hK hZ hA hst⟩ rfl rfl hl.1 rfl (lv_room (Nat.le_of_ble_eq_true rfl)) d_Md_type_37 ⟨Nat.le_of_ble_eq_true rfl, Nat.le_of_ble_eq_true rfl⟩) hst hA (fun σ5 H locs h hst => ?_)
        refine lv_iconst (v := (1 : Int32)) hx hb d_Md_type_40 (by decide) ?_
        exact kw_zret hx hb hr hlocks hst h d_Md_type_41
      · replace h := h.2 hc
        refine lv_iconst (v := (0 : Int32)) hx hb d_Md_type_32 (by decide) ?_
        exact kw_zret hx hb hr hlocks hst h d_Md_type_33
set_option maxRecDepth 100000 in
set_option maxHeartbeats 4000000 in
theorem c_Md_type (l : Launch) {D : va_G} {g : Gm} {sz : Nat} (x1 : Int32) (x2 : Int32) {σ : Sg} {post : Int32 → Sg → Prop} (h : wq_Md_type x1 x2 σ post) : Met l y_Md_type (.code y_Md_type k_Md_type 3 (some .boolean) :: GW) { frames := 1, cells := 0, slots := 0, locals := 22 } (PcW D vwCl (WS g) g (Zk g) σ sz [.ref (g.1 54), .int x1, .int x2]) (QiW D vwCl (WS g) post (va_A (WS g σ) sz)) 0 0 (va_A (WS g σ) sz) := by
  refine kw_entry (own := R_Md) (by decide) rfl rfl (Nat.le_of_ble_eq_true rfl) ?_
  intro p e s m below meth c ls hsz C hin hl hst
  exact b_Md_type_0 C x1 x2 σ _ _ ls hl hst h
/-! SchemaDeskModel.value (II)V -/
abbrev k_Md_value : ByteArray := prog_12_method_24_code
abbrev y_Md_value : MethodName := ⟨"SchemaDeskModel", "value", "(II)V"⟩
theorem d_Md_value_0 : decode k_Md_value 0 = .ok (.aload_n 0, 1) := by decide +kernel
theorem d_Md_value_1 : decode k_Md_value 1 = .ok (.iload_n 1, 1) := by decide +kernel
theorem d_Md_value_2 : decode k_Md_value 2 = .ok (.iload_n 2, 1) := by decide +kernel
theorem d_Md_value_3 : decode k_Md_value 3 = .ok (.invokevirtual 224, 3) := by decide +kernel
theorem d_Md_value_6 : decode k_Md_value 6 = .ok (.istore_n 3, 1) := by decide +kernel
theorem d_Md_value_7 : decode k_Md_value 7 = .ok (.aload_n 0, 1) := by decide +kernel
theorem d_Md_value_8 : decode k_Md_value 8 = .ok (.invokevirtual 208, 3) := by decide +kernel
theorem d_Md_value_11 : decode k_Md_value 11 = .ok (.istore 4, 2) := by decide +kernel
theorem d_Md_value_13 : decode k_Md_value 13 = .ok (.iload 4, 2) := by decide +kernel
theorem d_Md_value_15 : decode k_Md_value 15 = .ok (.bipush 123, 2) := by decide +kernel
theorem d_Md_value_17 : decode k_Md_value 17 = .ok (.if_icmp .eq 10, 3) := by decide +kernel
theorem d_Md_value_20 : decode k_Md_value 20 = .ok (.iload 4, 2) := by decide +kernel
theorem d_Md_value_22 : decode k_Md_value 22 = .ok (.bipush 91, 2) := by decide +kernel
theorem d_Md_value_24 : decode k_Md_value 24 = .ok (.if_icmp .ne 75, 3) := by decide +kernel
theorem d_Md_value_27 : decode k_Md_value 27 = .ok (.aload_n 0, 1) := by decide +kernel
theorem d_Md_value_28 : decode k_Md_value 28 = .ok (.getfield 77, 3) := by decide +kernel
theorem d_Md_value_31 : decode k_Md_value 31 = .ok (.iload_n 3, 1) := by decide +kernel
theorem d_Md_value_32 : decode k_Md_value 32 = .ok (.iload 4, 2) := by decide +kernel
theorem d_Md_value_34 : decode k_Md_value 34 = .ok (.bipush 91, 2) := by decide +kernel
theorem d_Md_value_36 : decode k_Md_value 36 = .ok (.if_icmp .ne 7, 3) := by decide +kernel
theorem d_Md_value_39 : decode k_Md_value 39 = .ok (.iconst 5, 1) := by decide +kernel
theorem d_Md_value_40 : decode k_Md_value 40 = .ok (.goto 5, 3) := by decide +kernel
theorem d_Md_value_43 : decode k_Md_value 43 = .ok (.bipush 6, 2) := by decide +kernel
theorem d_Md_value_45 : decode k_Md_value 45 = .ok (.iastore, 1) := by decide +kernel
theorem d_Md_value_46 : decode k_Md_value 46 = .ok (.aload_n 0, 1) := by decide +kernel
theorem d_Md_value_47 : decode k_Md_value 47 = .ok (.getfield 116, 3) := by decide +kernel
theorem d_Md_value_50 : decode k_Md_value 50 = .ok (.aload_n 0, 1) := by decide +kernel
theorem d_Md_value_51 : decode k_Md_value 51 = .ok (.getfield 212, 3) := by decide +kernel
theorem d_Md_value_54 : decode k_Md_value 54 = .ok (.iload_n 3, 1) := by decide +kernel
theorem d_Md_value_55 : decode k_Md_value 55 = .ok (.iastore, 1) := by decide +kernel
theorem d_Md_value_56 : decode k_Md_value 56 = .ok (.aload_n 0, 1) := by decide +kernel
theorem d_Md_value_57 : decode k_Md_value 57 = .ok (.getfield 122, 3) := by decide +kernel
theorem d_Md_value_60 : decode k_Md_value 60 = .ok (.aload_n 0, 1) := by decide +kernel
theorem d_Md_value_61 : decode k_Md_value 61 = .ok (.getfield 212, 3) := by decide +kernel
theorem d_Md_value_64 : decode k_Md_value 64 = .ok (.iconst 0, 1) := by decide +kernel
theorem d_Md_value_65 : decode k_Md_value 65 = .ok (.bastore, 1) := by decide +kernel
theorem d_Md_value_66 : decode k_Md_value 66 = .ok (.aload_n 0, 1) := by decide +kernel
theorem d_Md_value_67 : decode k_Md_value 67 = .ok (.getfield 126, 3) := by decide +kernel
theorem d_Md_value_70 : decode k_Md_value 70 = .ok (.aload_n 0, 1) := by decide +kernel
theorem d_Md_value_71 : decode k_Md_value 71 = .ok (.getfield 212, 3) := by decide +kernel
theorem d_Md_value_74 : decode k_Md_value 74 = .ok (.iconst 0, 1) := by decide +kernel
theorem d_Md_value_75 : decode k_Md_value 75 = .ok (.bastore, 1) := by decide +kernel
theorem d_Md_value_76 : decode k_Md_value 76 = .ok (.aload_n 0, 1) := by decide +kernel
theorem d_Md_value_77 : decode k_Md_value 77 = .ok (.dup, 1) := by decide +kernel
theorem d_Md_value_78 : decode k_Md_value 78 = .ok (.getfield 212, 3) := by decide +kernel
theorem d_Md_value_81 : decode k_Md_value 81 = .ok (.iconst 1, 1) := by decide +kernel
theorem d_Md_value_82 : decode k_Md_value 82 = .ok (.iadd, 1) := by decide +kernel
theorem d_Md_value_83 : decode k_Md_value 83 = .ok (.putfield 212, 3) := by decide +kernel
theorem d_Md_value_86 : decode k_Md_value 86 = .ok (.aload_n 0, 1) := by decide +kernel
theorem d_Md_value_87 : decode k_Md_value 87 = .ok (.dup, 1) := by decide +kernel
theorem d_Md_value_88 : decode k_Md_value 88 = .ok (.getfield 202, 3) := by decide +kernel
theorem d_Md_value_91 : decode k_Md_value 91 = .ok (.iconst 1, 1) := by decide +kernel
theorem d_Md_value_92 : decode k_Md_value 92 = .ok (.iadd, 1) := by decide +kernel
theorem d_Md_value_93 : decode k_Md_value 93 = .ok (.putfield 202, 3) := by decide +kernel
theorem d_Md_value_96 : decode k_Md_value 96 = .ok (.goto 152, 3) := by decide +kernel
theorem d_Md_value_99 : decode k_Md_value 99 = .ok (.iload 4, 2) := by decide +kernel
theorem d_Md_value_101 : decode k_Md_value 101 = .ok (.bipush 34, 2) := by decide +kernel
theorem d_Md_value_103 : decode k_Md_value 103 = .ok (.if_icmp .ne 23, 3) := by decide +kernel
theorem d_Md_value_106 : decode k_Md_value 106 = .ok (.aload_n 0, 1) := by decide +kernel
theorem d_Md_value_107 : decode k_Md_value 107 = .ok (.getfield 77, 3) := by decide +kernel
theorem d_Md_value_110 : decode k_Md_value 110 = .ok (.iload_n 3, 1) := by decide +kernel
theorem d_Md_value_111 : decode k_Md_value 111 = .ok (.iconst 4, 1) := by decide +kernel
theorem d_Md_value_112 : decode k_Md_value 112 = .ok (.iastore, 1) := by decide +kernel
theorem d_Md_value_113 : decode k_Md_value 113 = .ok (.aload_n 0, 1) := by decide +kernel
theorem d_Md_value_114 : decode k_Md_value 114 = .ok (.getfield 86, 3) := by decide +kernel
theorem d_Md_value_117 : decode k_Md_value 117 = .ok (.iload_n 3, 1) := by decide +kernel
theorem d_Md_value_118 : decode k_Md_value 118 = .ok (.aload_n 0, 1) := by decide +kernel
theorem d_Md_value_119 : decode k_Md_value 119 = .ok (.invokevirtual 228, 3) := by decide +kernel
theorem d_Md_value_122 : decode k_Md_value 122 = .ok (.iastore, 1) := by decide +kernel
theorem d_Md_value_123 : decode k_Md_value 123 = .ok (.goto 125, 3) := by decide +kernel
theorem d_Md_value_126 : decode k_Md_value 126 = .ok (.iload 4, 2) := by decide +kernel
theorem d_Md_value_128 : decode k_Md_value 128 = .ok (.invokestatic 218, 3) := by decide +kernel
theorem d_Md_value_131 : decode k_Md_value 131 = .ok (.ifCond .eq 112, 3) := by decide +kernel
theorem d_Md_value_134 : decode k_Md_value 134 = .ok (.aload_n 0, 1) := by decide +kernel
theorem d_Md_value_135 : decode k_Md_value 135 = .ok (.invokevirtual 208, 3) := by decide +kernel
theorem d_Md_value_138 : decode k_Md_value 138 = .ok (.invokestatic 218, 3) := by decide +kernel
theorem d_Md_value_141 : decode k_Md_value 141 = .ok (.ifCond .eq 16, 3) := by decide +kernel
theorem d_Md_value_144 : decode k_Md_value 144 = .ok (.aload_n 0, 1) := by decide +kernel
theorem d_Md_value_145 : decode k_Md_value 145 = .ok (.dup, 1) := by decide +kernel
theorem d_Md_value_146 : decode k_Md_value 146 = .ok (.getfield 202, 3) := by decide +kernel
theorem d_Md_value_149 : decode k_Md_value 149 = .ok (.iconst 1, 1) := by decide +kernel
theorem d_Md_value_150 : decode k_Md_value 150 = .ok (.iadd, 1) := by decide +kernel
theorem d_Md_value_151 : decode k_Md_value 151 = .ok (.putfield 202, 3) := by decide +kernel
theorem d_Md_value_154 : decode k_Md_value 154 = .ok (.goto (-20), 3) := by decide +kernel
theorem d_Md_value_157 : decode k_Md_value 157 = .ok (.aload_n 0, 1) := by decide +kernel
theorem d_Md_value_158 : decode k_Md_value 158 = .ok (.aload_n 0, 1) := by decide +kernel
theorem d_Md_value_159 : decode k_Md_value 159 = .ok (.getfield 80, 3) := by decide +kernel
theorem d_Md_value_162 : decode k_Md_value 162 = .ok (.iload_n 3, 1) := by decide +kernel
theorem d_Md_value_163 : decode k_Md_value 163 = .ok (.iaload, 1) := by decide +kernel
theorem d_Md_value_164 : decode k_Md_value 164 = .ok (.aload_n 0, 1) := by decide +kernel
theorem d_Md_value_165 : decode k_Md_value 165 = .ok (.getfield 202, 3) := by decide +kernel
theorem d_Md_value_168 : decode k_Md_value 168 = .ok (.invokevirtual 231, 3) := by decide +kernel
theorem d_Md_value_171 : decode k_Md_value 171 = .ok (.lstore 5, 2) := by decide +kernel
theorem d_Md_value_173 : decode k_Md_value 173 = .ok (.aload_n 0, 1) := by decide +kernel
theorem d_Md_value_174 : decode k_Md_value 174 = .ok (.getfield 77, 3) := by decide +kernel
theorem d_Md_value_177 : decode k_Md_value 177 = .ok (.iload_n 3, 1) := by decide +kernel
theorem d_Md_value_178 : decode k_Md_value 178 = .ok (.lload 5, 2) := by decide +kernel
theorem d_Md_value_180 : decode k_Md_value 180 = .ok (.ldc2_w 235, 3) := by decide +kernel
theorem d_Md_value_183 : decode k_Md_value 183 = .ok (.lcmp, 1) := by decide +kernel
theorem d_Md_value_184 : decode k_Md_value 184 = .ok (.ifCond .ne 7, 3) := by decide +kernel
theorem d_Md_value_187 : decode k_Md_value 187 = .ok (.iconst 1, 1) := by decide +kernel
theorem d_Md_value_188 : decode k_Md_value 188 = .ok (.goto 17, 3) := by decide +kernel
theorem d_Md_value_191 : decode k_Md_value 191 = .ok (.lload 5, 2) := by decide +kernel
theorem d_Md_value_193 : decode k_Md_value 193 = .ok (.ldc2_w 237, 3) := by decide +kernel
theorem d_Md_value_196 : decode k_Md_value 196 = .ok (.lcmp, 1) := by decide +kernel
theorem d_Md_value_197 : decode k_Md_value 197 = .ok (.ifCond .ne 7, 3) := by decide +kernel
theorem d_Md_value_200 : decode k_Md_value 200 = .ok (.iconst 2, 1) := by decide +kernel
theorem d_Md_value_201 : decode k_Md_value 201 = .ok (.goto 4, 3) := by decide +kernel
theorem d_Md_value_204 : decode k_Md_value 204 = .ok (.iconst 0, 1) := by decide +kernel
theorem d_Md_value_205 : decode k_Md_value 205 = .ok (.iastore, 1) := by decide +kernel
theorem d_Md_value_206 : decode k_Md_value 206 = .ok (.aload_n 0, 1) := by decide +kernel
theorem d_Md_value_207 : decode k_Md_value 207 = .ok (.getfield 77, 3) := by decide +kernel
theorem d_Md_value_210 : decode k_Md_value 210 = .ok (.iload_n 3, 1) := by decide +kernel
theorem d_Md_value_211 : decode k_Md_value 211 = .ok (.iaload, 1) := by decide +kernel
theorem d_Md_value_212 : decode k_Md_value 212 = .ok (.ifCond .ne 28, 3) := by decide +kernel
theorem d_Md_value_215 : decode k_Md_value 215 = .ok (.lload 5, 2) := by decide +kernel
theorem d_Md_value_217 : decode k_Md_value 217 = .ok (.aload_n 0, 1) := by decide +kernel
theorem d_Md_value_218 : decode k_Md_value 218 = .ok (.getfield 61, 3) := by decide +kernel
theorem d_Md_value_221 : decode k_Md_value 221 = .ok (.bipush 21, 2) := by decide +kernel
theorem d_Md_value_223 : decode k_Md_value 223 = .ok (.laload, 1) := by decide +kernel
theorem d_Md_value_224 : decode k_Md_value 224 = .ok (.lcmp, 1) := by decide +kernel
theorem d_Md_value_225 : decode k_Md_value 225 = .ok (.ifCond .eq 15, 3) := by decide +kernel
theorem d_Md_value_228 : decode k_Md_value 228 = .ok (.aload_n 0, 1) := by decide +kernel
theorem d_Md_value_229 : decode k_Md_value 229 = .ok (.bipush 7, 2) := by decide +kernel
theorem d_Md_value_231 : decode k_Md_value 231 = .ok (.aload_n 0, 1) := by decide +kernel
theorem d_Md_value_232 : decode k_Md_value 232 = .ok (.getfield 80, 3) := by decide +kernel
theorem d_Md_value_235 : decode k_Md_value 235 = .ok (.iload_n 3, 1) := by decide +kernel
theorem d_Md_value_236 : decode k_Md_value 236 = .ok (.iaload, 1) := by decide +kernel
theorem d_Md_value_237 : decode k_Md_value 237 = .ok (.invokevirtual 221, 3) := by decide +kernel
theorem d_Md_value_240 : decode k_Md_value 240 = .ok (.goto 8, 3) := by decide +kernel
theorem d_Md_value_243 : decode k_Md_value 243 = .ok (.aload_n 0, 1) := by decide +kernel
theorem d_Md_value_244 : decode k_Md_value 244 = .ok (.iload_n 3, 1) := by decide +kernel
theorem d_Md_value_245 : decode k_Md_value 245 = .ok (.invokevirtual 239, 3) := by decide +kernel
theorem d_Md_value_248 : decode k_Md_value 248 = .ok (.aload_n 0, 1) := by decide +kernel
theorem d_Md_value_249 : decode k_Md_value 249 = .ok (.getfield 83, 3) := by decide +kernel
theorem d_Md_value_252 : decode k_Md_value 252 = .ok (.iload_n 3, 1) := by decide +kernel
theorem d_Md_value_253 : decode k_Md_value 253 = .ok (.aload_n 0, 1) := by decide +kernel
theorem d_Md_value_254 : decode k_Md_value 254 = .ok (.getfield 202, 3) := by decide +kernel
theorem d_Md_value_257 : decode k_Md_value 257 = .ok (.iastore, 1) := by decide +kernel
theorem d_Md_value_258 : decode k_Md_value 258 = .ok (.return_, 1) := by decide +kernel
theorem gw1286 : (Jvm.Cond.methodLink "SchemaDeskModel" (224 : Nat) ({ cls := "SchemaDeskModel", name := "begin", desc := "(II)I" } : Jvm.MethodName)) ∈ GW := gw_t6 (List.mem_of_getElem? (i := 86) rfl) rfl
theorem gw1288 : (Jvm.Cond.instanceMethod ({ cls := "SchemaDeskModel", name := "begin", desc := "(II)I" } : Jvm.MethodName)) ∈ GW := gw_t6 (List.mem_of_getElem? (i := 88) rfl) rfl
theorem gs54 : Cond.selects "SchemaDeskModel" ⟨"SchemaDeskModel", "begin", "(II)I"⟩ ⟨"SchemaDeskModel", "begin", "(II)I"⟩ ∈ GW := gw_p4 (q := (⟨"SchemaDeskModel", "begin", "(II)I"⟩, 46)) (List.mem_of_getElem? (i := 6) rfl)
theorem gw1289 : (Jvm.Cond.code ({ cls := "SchemaDeskModel", name := "begin", desc := "(II)I" } : Jvm.MethodName) prog_12_method_23_code (5 : Nat) (Option.some Jvm.ClassFile.FieldType.int)) ∈ GW := gw_t6 (List.mem_of_getElem? (i := 89) rfl) rfl
theorem gw1301 : (Jvm.Cond.methodLink "SchemaDeskModel" (239 : Nat) ({ cls := "SchemaDeskModel", name := "number", desc := "(I)V" } : Jvm.MethodName)) ∈ GW := gw_t6 (List.mem_of_getElem? (i := 101) rfl) rfl
theorem gw1303 : (Jvm.Cond.instanceMethod ({ cls := "SchemaDeskModel", name := "number", desc := "(I)V" } : Jvm.MethodName)) ∈ GW := gw_t6 (List.mem_of_getElem? (i := 103) rfl) rfl
theorem gs57 : Cond.selects "SchemaDeskModel" ⟨"SchemaDeskModel", "number", "(I)V"⟩ ⟨"SchemaDeskModel", "number", "(I)V"⟩ ∈ GW := gw_p4 (q := (⟨"SchemaDeskModel", "number", "(I)V"⟩, 46)) (List.mem_of_getElem? (i := 9) rfl)
theorem gw1304 : (Jvm.Cond.code ({ cls := "SchemaDeskModel", name := "number", desc := "(I)V" } : Jvm.MethodName) prog_12_method_25_code (5 : Nat) (Option.none : Option Jvm.ClassFile.FieldType)) ∈ GW := gw_t6 (List.mem_of_getElem? (i := 104) rfl) rfl
theorem gw1071 : (Jvm.Cond.fieldLink "SchemaDeskModel" (83 : Nat) "SchemaDeskModel" "to" "[I") ∈ GW := gw_t5 (List.mem_of_getElem? (i := 111) rfl) rfl
theorem gw1290 : (Jvm.Cond.methodLink "SchemaDeskModel" (228 : Nat) ({ cls := "SchemaDeskModel", name := "quoted", desc := "()I" } : Jvm.MethodName)) ∈ GW := gw_t6 (List.mem_of_getElem? (i := 90) rfl) rfl
theorem gw1292 : (Jvm.Cond.instanceMethod ({ cls := "SchemaDeskModel", name := "quoted", desc := "()I" } : Jvm.MethodName)) ∈ GW := gw_t6 (List.mem_of_getElem? (i := 92) rfl) rfl
theorem gs55 : Cond.selects "SchemaDeskModel" ⟨"SchemaDeskModel", "quoted", "()I"⟩ ⟨"SchemaDeskModel", "quoted", "()I"⟩ ∈ GW := gw_p4 (q := (⟨"SchemaDeskModel", "quoted", "()I"⟩, 46)) (List.mem_of_getElem? (i := 7) rfl)
theorem gw1293 : (Jvm.Cond.code ({ cls := "SchemaDeskModel", name := "quoted", desc := "()I" } : Jvm.MethodName) prog_12_method_22_code (3 : Nat) (Option.some Jvm.ClassFile.FieldType.int)) ∈ GW := gw_t6 (List.mem_of_getElem? (i := 93) rfl) rfl
theorem gw1299 : (Jvm.Cond.constantLong "SchemaDeskModel" (235 : Nat) (5877798 : Int64)) ∈ GW := gw_t6 (List.mem_of_getElem? (i := 99) rfl) rfl
theorem gw1300 : (Jvm.Cond.constantLong "SchemaDeskModel" (237 : Nat) (185940 : Int64)) ∈ GW := gw_t6 (List.mem_of_getElem? (i := 100) rfl) rfl
theorem gw1087 : (Jvm.Cond.fieldLink "SchemaDeskModel" (122 : Nat) "SchemaDeskModel" "since" "[Z") ∈ GW := gw_t5 (List.mem_of_getElem? (i := 127) rfl) rfl
theorem gw1088 : (Jvm.Cond.fieldLink "SchemaDeskModel" (126 : Nat) "SchemaDeskModel" "comma" "[Z") ∈ GW := gw_t5 (List.mem_of_getElem? (i := 128) rfl) rfl
def wb_Md_value_0 (F : Nat → Int32 → Int32 → Int32 → Int32 → Int64 → Sg → Prop) (post : Sg → Prop) (x1 : Int32) (x2 : Int32) (σ : Sg) : Prop := (wq_Md_begin x1 x2 σ (fun r1 σ1 => (wq_Md_here  σ1 (fun r2 σ2 => ((r2 = (123 : Int32) → F 1 0 0 r1 r2 0 σ2) ∧ (¬ r2 = (123 : Int32) → ((¬ r2 = (91 : Int32) → ((¬ r2 = (34 : Int32) → (wq_Md_isLetter r2 σ2 (fun r3 σ3 => ((r3 = 0 → (wq_Md_number r1 σ3 (fun σ4 => (vp_in r1 240 ∧ (∀ σ5, σ5 = si σ4 61 r1.toNatClampNeg (σ4.1 54 19) → post σ5))))) ∧ (¬ r3 = 0 → F 2 0 0 r1 0 0 σ3))))) ∧ (r2 = (34 : Int32) → (vp_in r1 240 ∧ (∀ σ3, σ3 = si σ2 59 r1.toNatClampNeg (4 : Int32) → (wq_Md_quoted  σ3 (fun r4 σ4 => (vp_in r1 240 ∧ (∀ σ5, σ5 = si σ4 62 r1.toNatClampNeg r4 → (vp_in r1 240 ∧ (∀ σ6, σ6 = si σ5 61 r1.toNatClampNeg (σ5.1 54 19) → post σ6))))))))))) ∧ (r2 = (91 : Int32) → F 1 0 0 r1 r2 0 σ2))))))))
def wb_Md_value_1 (F : Nat → Int32 → Int32 → Int32 → Int32 → Int64 → Sg → Prop) (post : Sg → Prop) (x3 : Int32) (x4 : Int32) (σ : Sg) : Prop := ((¬ x4 = (91 : Int32) → (vp_in x3 240 ∧ (∀ σ1, σ1 = si σ 59 x3.toNatClampNeg (6 : Int32) → F 3 0 0 x3 0 0 σ1))) ∧ (x4 = (91 : Int32) → (vp_in x3 240 ∧ (∀ σ1, σ1 = si σ 59 x3.toNatClampNeg (5 : Int32) → F 3 0 0 x3 0 0 σ1))))
def wb_Md_value_2 (F : Nat → Int32 → Int32 → Int32 → Int32 → Int64 → Sg → Prop) (post : Sg → Prop) (x3 : Int32) (σ : Sg) : Prop := (wq_Md_here  σ (fun r1 σ1 => (wq_Md_isLetter r1 σ1 (fun r2 σ2 => ((r2 = 0 → (vp_in x3 240 ∧ (wq_Md_packed (σ2.1 60 x3.toNatClampNeg) (σ2.1 54 19) σ2 (fun r3 σ3 => ((¬ (lg_cmp r3 (5877798 : Int64)) = 0 → ((¬ (lg_cmp r3 (185940 : Int64)) = 0 → (vp_in x3 240 ∧ (∀ σ4, σ4 = si σ3 59 x3.toNatClampNeg (0 : Int32) → F 4 0 0 x3 0 r3 σ4))) ∧ ((lg_cmp r3 (185940 : Int64)) = 0 → (vp_in x3 240 ∧ (∀ σ4, σ4 = si σ3 59 x3.toNatClampNeg (2 : Int32) → F 4 0 0 x3 0 r3 σ4))))) ∧ ((lg_cmp r3 (5877798 : Int64)) = 0 → (vp_in x3 240 ∧ (∀ σ4, σ4 = si σ3 59 x3.toNatClampNeg (1 : Int32) → F 4 0 0 x3 0 r3 σ4)))))))) ∧ (¬ r2 = 0 → (∀ σ3, σ3 = si σ2 54 19 ((σ2.1 54 19) + (1 : Int32)) → F 2 0 0 x3 0 0 σ3)))))))
def wb_Md_value_3 (F : Nat → Int32 → Int32 → Int32 → Int32 → Int64 → Sg → Prop) (post : Sg → Prop) (x3 : Int32) (σ : Sg) : Prop := (vp_in (σ.1 54 20) 9 ∧ (∀ σ1, σ1 = si σ 72 ((σ.1 54 20) : Int32).toNatClampNeg x3 → (vp_in (σ1.1 54 20) 9 ∧ (∀ σ2, σ2 = si σ1 74 ((σ1.1 54 20) : Int32).toNatClampNeg (vp_nar .boolean (0 : Int32)) → (vp_in (σ2.1 54 20) 9 ∧ (∀ σ3, σ3 = si σ2 75 ((σ2.1 54 20) : Int32).toNatClampNeg (vp_nar .boolean (0 : Int32)) → (∀ σ4, σ4 = si σ3 54 20 ((σ3.1 54 20) + (1 : Int32)) → (∀ σ5, σ5 = si σ4 54 19 ((σ4.1 54 19) + (1 : Int32)) → (vp_in x3 240 ∧ (∀ σ6, σ6 = si σ5 61 x3.toNatClampNeg (σ5.1 54 19) → post σ6))))))))))
def wb_Md_value_4 (F : Nat → Int32 → Int32 → Int32 → Int32 → Int64 → Sg → Prop) (post : Sg → Prop) (x3 : Int32) (y5 : Int64) (σ : Sg) : Prop := (vp_in x3 240 ∧ ((¬ (σ.1 59 x3.toNatClampNeg) = 0 → (vp_in x3 240 ∧ (∀ σ1, σ1 = si σ 61 x3.toNatClampNeg (σ.1 54 19) → post σ1))) ∧ ((σ.1 59 x3.toNatClampNeg) = 0 → (vp_in (21 : Int32) 27 ∧ (((lg_cmp y5 (σ.2.1 55 ((21 : Int32) : Int32).toNatClampNeg)) = 0 → (vp_in x3 240 ∧ (∀ σ1, σ1 = si σ 61 x3.toNatClampNeg (σ.1 54 19) → post σ1))) ∧ (¬ (lg_cmp y5 (σ.2.1 55 ((21 : Int32) : Int32).toNatClampNeg)) = 0 → (vp_in x3 240 ∧ (wq_Md_note (7 : Int32) (σ.1 60 x3.toNatClampNeg) σ (fun σ1 => (vp_in x3 240 ∧ (∀ σ2, σ2 = si σ1 61 x3.toNatClampNeg (σ1.1 54 19) → post σ2)))))))))))
def wp_Md_value (post : Sg → Prop) : Nat → Nat → Int32 → Int32 → Int32 → Int32 → Int64 → Sg → Prop
  | 0, _, _, _, _, _, _, _ => False
  | n + 1, k, x1, x2, x3, x4, y5, σ => match k with
    | 0 => wb_Md_value_0 (wp_Md_value post n) post x1 x2 σ
    | 1 => wb_Md_value_1 (wp_Md_value post n) post x3 x4 σ
    | 2 => wb_Md_value_2 (wp_Md_value post n) post x3 σ
    | 3 => wb_Md_value_3 (wp_Md_value post n) post x3 σ
    | 4 => wb_Md_value_4 (wp_Md_value post n) post x3 y5 σ
    | _ => False
def wq_Md_value (x1 : Int32) (x2 : Int32) (σ : Sg) (post : Sg → Prop) : Prop := ∃ n, wp_Md_value post n 0 x1 x2 0 0 0 σ
def J_Md_value_1 (p : Program) (l : Launch) (e : Env) (s : State) (m : MethodId) (args : Array Value) (below : List Frame) (meth : Method) (c : Code) (D : va_G) (g : Gm) (A : Nat → Prop) (post : Sg → Prop) (F : Nat → Int32 → Int32 → Int32 → Int32 → Int64 → Sg → Prop) : Prop := ∀ (x3 : Int32) (x4 : Int32) (σ : Sg) (H : Heap) (locs : List Loc) (ls : Array Slot), lv_has ls 7 [(0, .ref (g.1 54)), (3, .int x3), (4, .int x4)] → Wst D vwCl (WS g) A s σ H locs → F 1 0 0 x3 x4 0 σ → W p l e { frames := 2, cells := 0, slots := 0, locals := 46 } s m args below meth c H locs 0 0 (MQ below (QvW D vwCl (WS g) post A) args s 0 0 A) (F0 m 27 ls [])
def J_Md_value_2 (p : Program) (l : Launch) (e : Env) (s : State) (m : MethodId) (args : Array Value) (below : List Frame) (meth : Method) (c : Code) (D : va_G) (g : Gm) (A : Nat → Prop) (post : Sg → Prop) (F : Nat → Int32 → Int32 → Int32 → Int32 → Int64 → Sg → Prop) : Prop := ∀ (x3 : Int32) (σ : Sg) (H : Heap) (locs : List Loc) (ls : Array Slot), lv_has ls 7 [(0, .ref (g.1 54)), (3, .int x3)] → Wst D vwCl (WS g) A s σ H locs → F 2 0 0 x3 0 0 σ → W p l e { frames := 2, cells := 0, slots := 0, locals := 46 } s m args below meth c H locs 0 0 (MQ below (QvW D vwCl (WS g) post A) args s 0 0 A) (F0 m 134 ls [])
def J_Md_value_3 (p : Program) (l : Launch) (e : Env) (s : State) (m : MethodId) (args : Array Value) (below : List Frame) (meth : Method) (c : Code) (D : va_G) (g : Gm) (A : Nat → Prop) (post : Sg → Prop) (F : Nat → Int32 → Int32 → Int32 → Int32 → Int64 → Sg → Prop) : Prop := ∀ (x3 : Int32) (σ : Sg) (H : Heap) (locs : List Loc) (ls : Array Slot), lv_has ls 7 [(0, .ref (g.1 54)), (3, .int x3)] → Wst D vwCl (WS g) A s σ H locs → F 3 0 0 x3 0 0 σ → W p l e { frames := 2, cells := 0, slots := 0, locals := 46 } s m args below meth c H locs 0 0 (MQ below (QvW D vwCl (WS g) post A) args s 0 0 A) (F0 m 46 ls [])
def J_Md_value_4 (p : Program) (l : Launch) (e : Env) (s : State) (m : MethodId) (args : Array Value) (below : List Frame) (meth : Method) (c : Code) (D : va_G) (g : Gm) (A : Nat → Prop) (post : Sg → Prop) (F : Nat → Int32 → Int32 → Int32 → Int32 → Int64 → Sg → Prop) : Prop := ∀ (x3 : Int32) (y5 : Int64) (σ : Sg) (H : Heap) (locs : List Loc) (ls : Array Slot), lv_has ls 7 [(0, .ref (g.1 54)), (3, .int x3), (5, .long y5)] → Wst D vwCl (WS g) A s σ H locs → F 4 0 0 x3 0 y5 σ → W p l e { frames := 2, cells := 0, slots := 0, locals := 46 } s m args below meth c H locs 0 0 (MQ below (QvW D vwCl (WS g) post A) args s 0 0 A) (F0 m 206 ls [])
set_option maxRecDepth 100000 in
set_option maxHeartbeats 4000000 in
theorem b_Md_value_0 {p : Program} {l : Launch} {e : Env} {s : State} {m : MethodId} {args : Array Value} {below : List Frame} {meth : Method} {c : Code} {D : va_G} {g : Gm} {A : Nat → Prop} {post : Sg → Prop} {F : Nat → Int32 → Int32 → Int32 → Int32 → Int64 → Sg → Prop} (C : kC p s m args meth c k_Md_value 7 (none) GW R_Md D vwCl g (Zk g) A) (j1 : J_Md_value_1 p l e s m args below meth c D g A post F) (j2 : J_Md_value_2 p l e s m args below meth c D g A post F) (x1 : Int32) (x2 : Int32) (σ : Sg) (H : Heap) (locs : List Loc) (ls : Array Slot) (hl : lv_has ls 7 [(0, .ref (g.1 54)), (1, .int x1), (2, .int x2)]) (hst : Wst D vwCl (WS g) A s σ H locs) (h : wb_Md_value_0 F post x1 x2 σ) : W p l e { frames := 2, cells := 0, slots := 0, locals := 46 } s m args below meth c H locs 0 0 (MQ below (QvW D vwCl (WS g) post A) args s 0 0 A) (F0 m 0 ls []) := by
  obtain ⟨hx, hb, hr, hml, hown, hts, hlocks, hK, hZ, hA⟩ := C
  unfold wb_Md_value_0 at h
  refine lv_aload_n hx hb d_Md_value_0 rfl (lv_at hl 0 rfl) ?_
  refine lv_iload_n hx hb d_Md_value_1 rfl (lv_at hl 1 rfl) ?_
  refine lv_iload_n hx hb d_Md_value_2 rfl (lv_at hl 2 rfl) ?_
  refine kw_calli (va_runV (As := [.int x1, .int x2]) (rest := []) (b := g.1 54) ⟨hx, hb, hml, hown, hts⟩ (c_Md_begin l x1 x2 h) (cwV 2 hts (gd_v gw1286 gw1288 gs54 gw15 gw1289) rfl rfl rfl (by decide +kernel) ⟨Nat.le_of_ble_eq_true rfl, Nat.le_of_ble_eq_true rfl⟩) ⟨kw_blind (Zk_ok g), va_recv hK hst.1 rfl (WS_o54 g σ), kw_pre (Zk_ok g) hK hZ hA hst⟩ rfl rfl hl.1 rfl (lv_room (Nat.le_of_ble_eq_true rfl)) d_Md_value_3 ⟨Nat.le_of_ble_eq_true rfl, Nat.le_of_ble_eq_true rfl⟩) hst hA (fun r1 σ1 H locs h hst => ?_)
  refine lv_istore_n hx hb d_Md_value_6 rfl hl (by decide) rfl (fun ls hl => ?_)
  have hl : lv_has ls 7 [(3, .int r1), (0, .ref (g.1 54)), (1, .int x1), (2, .int x2)] := hl
  refine lv_aload_n hx hb d_Md_value_7 rfl (lv_at hl 1 rfl) ?_
  refine kw_calli (va_runV (As := []) (rest := []) (b := g.1 54) ⟨hx, hb, hml, hown, hts⟩ (c_Md_here l h) (cwV 0 hts (gd_v gw1260 gw1262 gs49 gw15 gw1263) rfl rfl rfl (by decide +kernel) ⟨Nat.le_of_ble_eq_true rfl, Nat.le_of_ble_eq_true rfl⟩) ⟨kw_blind (Zk_ok g), va_recv hK hst.1 rfl (WS_o54 g σ1), kw_pre (Zk_ok g) hK hZ hA hst⟩ rfl rfl hl.1 rfl (lv_room (Nat.le_of_ble_eq_true rfl)) d_Md_value_8 ⟨Nat.le_of_ble_eq_true rfl, Nat.le_of_ble_eq_true rfl⟩) hst hA (fun r2 σ2 H locs h hst => ?_)
  refine lv_istore hx hb d_Md_value_11 hl (by decide) rfl (fun ls hl => ?_)
  have hl : lv_has ls 7 [(4, .int r2), (3, .int r1), (0, .ref (g.1 54)), (1, .int x1), (2, .int x2)] := hl
  refine lv_iload hx hb d_Md_value_13 (lv_at hl 0 rfl) ?_
  refine lv_bipush (v := (123 : Int32)) hx hb d_Md_value_15 (by decide) ?_
  refine lv_icmp_eq (tgt := 27) hx hb d_Md_value_17 (by decide) (fun hc => ?_) (fun hc => ?_)
  · replace h := h.1 hc
    exact j1 r1 r2 σ2 _ _ _ (lv_sub hl [2, 1, 0] rfl) hst h
  · replace h := h.2 hc
    refine lv_iload hx hb d_Md_value_20 (lv_at hl 0 rfl) ?_
    refine lv_bipush (v := (91 : Int32)) hx hb d_Md_value_22 (by decide) ?_
    refine lv_icmp_ne (tgt := 99) hx hb d_Md_value_24 (by decide) (fun hc => ?_) (fun hc => ?_)
    · replace h := h.1 hc
      refine lv_iload hx hb d_Md_value_99 (lv_at hl 0 rfl) ?_
      refine lv_bipush (v := (34 : Int32)) hx hb d_Md_value_101 (by decide) ?_
      refine lv_icmp_ne (tgt := 126) hx hb d_Md_value_103 (by decide) (fun hc => ?_) (fun hc => ?_)
      · replace h := h.1 hc
        refine lv_iload hx hb d_Md_value_126 (lv_at hl 0 rfl) ?_
        refine kw_calli (va_runS (As := [.int r2]) (rest := []) ⟨hx, hb, hml, hown, hts⟩ (c_Md_isLetter l r2 h) (cwS 1 hts (gd_s gw1271 gw1272 gw15 gw1273) rfl rfl rfl (by decide +kernel) ⟨Nat.le_of_ble_eq_true rfl, Nat.le_of_ble_eq_true rfl⟩) ⟨kw_blind (Zk_ok g), kw_pre (Zk_ok g) hK hZ hA hst⟩ rfl rfl hl.1 rfl (lv_room (Nat.le_of_ble_eq_true rfl)) d_Md_value_128 ⟨Nat.le_of_ble_eq_true rfl, Nat.le_of_ble_eq_true rfl⟩) hst hA (fun r3 σ3 H locs h hst => ?_)
        refine lv_if_eq (tgt := 243) hx hb d_Md_value_131 (by decide) (fun hc => ?_) (fun hc => ?_)
        · replace h := h.1 hc
          refine lv_aload_n hx hb d_Md_value_243 rfl (lv_at hl 2 rfl) ?_
          refine lv_iload_n hx hb d_Md_value_244 rfl (lv_at hl 1 rfl) ?_
          refine kw_callv (va_runV (As := [.int r1]) (rest := []) (b := g.1 54) ⟨hx, hb, hml, hown, hts⟩ (c_Md_number l r1 h) (cwV 1 hts (gd_v gw1301 gw1303 gs57 gw15 gw1304) rfl rfl rfl (by decide +kernel) ⟨Nat.le_of_ble_eq_true rfl, Nat.le_of_ble_eq_true rfl⟩) ⟨kw_blind (Zk_ok g), va_recv hK hst.1 rfl (WS_o54 g σ3), kw_pre (Zk_ok g) hK hZ hA hst⟩ rfl rfl hl.1 rfl (lv_room (Nat.le_of_ble_eq_true rfl)) d_Md_value_245 ⟨Nat.le_of_ble_eq_true rfl, Nat.le_of_ble_eq_true rfl⟩) hst hA (fun σ4 H locs h hst => ?_)
          refine lv_aload_n hx hb d_Md_value_248 rfl (lv_at hl 2 rfl) ?_
          refine va_get (D := D) (ci := 10) (C := R_Md) (T := T_Md) (N := 46) hx hb hts in_Md hown hK hst.1 54 (WS_o54 g σ4) rfl 7 (by decide) (hts _ gw1071) (fun _ h9 => h9) rfl d_Md_value_249 ?_
          refine lv_iload_n hx hb d_Md_value_252 rfl (lv_at hl 1 rfl) ?_
          refine lv_aload_n hx hb d_Md_value_253 rfl (lv_at hl 2 rfl) ?_
          refine va_get (D := D) (ci := 10) (C := R_Md) (T := T_Md) (N := 46) hx hb hts in_Md hown hK hst.1 54 (WS_o54 g σ4) rfl 19 (by decide) (hts _ gw1083) (fun _ h9 => h9) rfl d_Md_value_254 ?_
          obtain ⟨hi, h⟩ := h
          refine kw_iast hx hb hK hst 61 (WS_a61 g σ4) hi (WS_s61 g σ4 _ _) d_Md_value_257 (fun σ5 H locs e5 hst => ?_)
          replace h := h σ5 e5
          exact kw_vret hx hb hr hlocks hst h d_Md_value_258
        · replace h := h.2 hc
          exact j2 r1 σ3 _ _ _ (lv_sub hl [2, 1] rfl) hst h
      · replace h := h.2 hc
        refine lv_aload_n hx hb d_Md_value_106 rfl (lv_at hl 2 rfl) ?_
        refine va_get (D := D) (ci := 10) (C := R_Md) (T := T_Md) (N := 46) hx hb hts in_Md hown hK hst.1 54 (WS_o54 g σ2) rfl 5 (by decide) (hts _ gw1069) (fun _ h9 => h9) rfl d_Md_value_107 ?_
        refine lv_iload_n hx hb d_Md_value_110 rfl (lv_at hl 1 rfl) ?_
        refine lv_iconst (v := (4 : Int32)) hx hb d_Md_value_111 (by decide) ?_
        obtain ⟨hi, h⟩ := h
        refine kw_iast hx hb hK hst 59 (WS_a59 g σ2) hi (WS_s59 g σ2 _ _) d_Md_value_112 (fun σ3 H locs e3 hst => ?_)
        replace h := h σ3 e3
        refine lv_aload_n hx hb d_Md_value_113 rfl (lv_at hl 2 rfl) ?_
        refine va_get (D := D) (ci := 10) (C := R_Md) (T := T_Md) (N := 46) hx hb hts in_Md hown hK hst.1 54 (WS_o54 g σ3) rfl 8 (by decide) (hts _ gw1072) (fun _ h9 => h9) rfl d_Md_value_114 ?_
        refine lv_iload_n hx hb d_Md_value_117 rfl (lv_at hl 1 rfl) ?_
        refine lv_aload_n hx hb d_Md_value_118 rfl (lv_at hl 2 rfl) ?_
        refine kw_calli (va_runV (As := []) (rest := [.int r1, .ref (g.1 62)]) (b := g.1 54) ⟨hx, hb, hml, hown, hts⟩ (c_Md_quoted l h) (cwV 0 hts (gd_v gw1290 gw1292 gs55 gw15 gw1293) rfl rfl rfl (by decide +kernel) ⟨Nat.le_of_ble_eq_true rfl, Nat.le_of_ble_eq_true rfl⟩) ⟨kw_blind (Zk_ok g), va_recv hK hst.1 rfl (WS_o54 g σ3), kw_pre (Zk_ok g) hK hZ hA hst⟩ rfl rfl hl.1 rfl (lv_room (Nat.le_of_ble_eq_true rfl)) d_Md_value_119 ⟨Nat.le_of_ble_eq_true rfl, Nat.le_of_ble_eq_true rfl⟩) hst hA (fun r4 σ4 H locs h hst => ?_)
        obtain ⟨hi, h⟩ := h
        refine kw_iast hx hb hK hst 62 (WS_a62 g σ4) hi (WS_s62 g σ4 _ _) d_Md_value_122 (fun σ5 H locs e5 hst => ?_)
        replace h := h σ5 e5
        refine lv_goto (tgt := 248) hx hb d_Md_value_123 (by decide) ?_
        refine lv_aload_n hx hb d_Md_value_248 rfl (lv_at hl 2 rfl) ?_
        refine va_get (D := D) (ci := 10) (C := R_Md) (T := T_Md) (N := 46) hx hb hts in_Md hown hK hst.1 54 (WS_o54 g σ5) rfl 7 (by decide) (hts _ gw1071) (fun _ h9 => h9) rfl d_Md_value_249 ?_
        refine lv_iload_n hx hb d_Md_value_252 rfl (lv_at hl 1 rfl) ?_
        refine lv_aload_n hx hb d_Md_value_253 rfl (lv_at hl 2 rfl) ?_
        refine va_get (D := D) (ci := 10) (C := R_Md) (T := T_Md) (N := 46) hx hb hts in_Md hown hK hst.1 54 (WS_o54 g σ5) rfl 19 (by decide) (hts _ gw1083) (fun _ h9 => h9) rfl d_Md_value_254 ?_
        obtain ⟨hi, h⟩ := h
        refine kw_iast hx hb hK hst 61 (WS_a61 g σ5) hi (WS_s61 g σ5 _ _) d_Md_value_257 (fun σ6 H locs e6 hst => ?_)
        replace h := h σ6 e6
        exact kw_vret hx hb hr hlocks hst h d_Md_value_258
    · replace h := h.2 hc
      exact j1 r1 r2 σ2 _ _ _ (lv_sub hl [2, 1, 0] rfl) hst h
set_option maxRecDepth 100000 in
set_option maxHeartbeats 4000000 in
theorem b_Md_value_1 {p : Program} {l : Launch} {e : Env} {s : State} {m : MethodId} {args : Array Value} {below : List Frame} {meth : Method} {c : Code} {D : va_G} {g : Gm} {A : Nat → Prop} {post : Sg → Prop} {F : Nat → Int32 → Int32 → Int32 → Int32 → Int64 → Sg → Prop} (C : kC p s m args meth c k_Md_value 7 (none) GW R_Md D vwCl g (Zk g) A) (j3 : J_Md_value_3 p l e s m args below meth c D g A post F) (x3 : Int32) (x4 : Int32) (σ : Sg) (H : Heap) (locs : List Loc) (ls : Array Slot) (hl : lv_has ls 7 [(0, .ref (g.1 54)), (3, .int x3), (4, .int x4)]) (hst : Wst D vwCl (WS g) A s σ H locs) (h : wb_Md_value_1 F post x3 x4 σ) : W p l e { frames := 2, cells := 0, slots := 0, locals := 46 } s m args below meth c H locs 0 0 (MQ below (QvW D vwCl (WS g) post A) args s 0 0 A) (F0 m 27 ls []) := by
  obtain ⟨hx, hb, hr, hml, hown, hts, hlocks, hK, hZ, hA⟩ := C
  unfold wb_Md_value_1 at h
  refine lv_aload_n hx hb d_Md_value_27 rfl (lv_at hl 0 rfl) ?_
  refine va_get (D := D) (ci := 10) (C := R_Md) (T := T_Md) (N := 46) hx hb hts in_Md hown hK hst.1 54 (WS_o54 g σ) rfl 5 (by decide) (hts _ gw1069) (fun _ h9 => h9) rfl d_Md_value_28 ?_
  refine lv_iload_n hx hb d_Md_value_31 rfl (lv_at hl 1 rfl) ?_
  refine lv_iload hx hb d_Md_value_32 (lv_at hl 2 rfl) ?_
  refine lv_bipush (v := (91 : Int32)) hx hb d_Md_value_34 (by decide) ?_
  refine lv_icmp_ne (tgt := 43) hx hb d_Md_value_36 (by decide) (fun hc => ?_) (fun hc => ?_)
  · replace h := h.1 hc
    refine lv_bipush (v := (6 : Int32)) hx hb d_Md_value_43 (by decide) ?_
    obtain ⟨hi, h⟩ := h
    refine kw_iast hx hb hK hst 59 (WS_a59 g σ) hi (WS_s59 g σ _ _) d_Md_value_45 (fun σ1 H locs e1 hst => ?_)
    replace h := h σ1 e1
    exact j3 x3 σ1 _ _ _ (lv_sub hl [0, 1] rfl) hst h
  · replace h := h.2 hc
    refine lv_iconst (v := (5 : Int32)) hx hb d_Md_value_39 (by decide) ?_
    refine lv_goto (tgt := 45) hx hb d_Md_value_40 (by decide) ?_
    obtain ⟨hi, h⟩ := h
    refine kw_iast hx hb hK hst 59 (WS_a59 g σ) hi (WS_s59 g σ _ _) d_Md_value_45 (fun σ1 H locs e1 hst => ?_)
    replace h := h σ1 e1
    exact j3 x3 σ1 _ _ _ (lv_sub hl [0, 1] rfl) hst h
set_option maxRecDepth 100000 in
set_option maxHeartbeats 4000000 in
theorem b_Md_value_2 {p : Program} {l : Launch} {e : Env} {s : State} {m : MethodId} {args : Array Value} {below : List Frame} {meth : Method} {c : Code} {D : va_G} {g : Gm} {A : Nat → Prop} {post : Sg → Prop} {F : Nat → Int32 → Int32 → Int32 → Int32 → Int64 → Sg → Prop} (C : kC p s m args meth c k_Md_value 7 (none) GW R_Md D vwCl g (Zk g) A) (j2 : J_Md_value_2 p l e s m args below meth c D g A post F) (j4 : J_Md_value_4 p l e s m args below meth c D g A post F) (x3 : Int32) (σ : Sg) (H : Heap) (locs : List Loc) (ls : Array Slot) (hl : lv_has ls 7 [(0, .ref (g.1 54)), (3, .int x3)]) (hst : Wst D vwCl (WS g) A s σ H locs) (h : wb_Md_value_2 F post x3 σ) : W p l e { frames := 2, cells := 0, slots := 0, locals := 46 } s m args below meth c H locs 0 0 (MQ below (QvW D vwCl (WS g) post A) args s 0 0 A) (F0 m 134 ls []) := by
  obtain ⟨hx, hb, hr, hml, hown, hts, hlocks, hK, hZ, hA⟩ := C
  unfold wb_Md_value_2 at h
  refine lv_aload_n hx hb d_Md_value_134 rfl (lv_at hl 0 rfl) ?_
  refine kw_calli (va_runV (As := []) (rest := []) (b := g.1 54) ⟨hx, hb, hml, hown, hts⟩ (c_Md_here l h) (cwV 0 hts (gd_v gw1260 gw1262 gs49 gw15 gw1263) rfl rfl rfl (by decide +kernel) ⟨Nat.le_of_ble_eq_true rfl, Nat.le_of_ble_eq_true rfl⟩) ⟨kw_blind (Zk_ok g), va_recv hK hst.1 rfl (WS_o54 g σ), kw_pre (Zk_ok g) hK hZ hA hst⟩ rfl rfl hl.1 rfl (lv_room (Nat.le_of_ble_eq_true rfl)) d_Md_value_135 ⟨Nat.le_of_ble_eq_true rfl, Nat.le_of_ble_eq_true rfl⟩) hst hA (fun r1 σ1 H locs h hst => ?_)
  refine kw_calli (va_runS (As := [.int r1]) (rest := []) ⟨hx, hb, hml, hown, hts⟩ (c_Md_isLetter l r1 h) (cwS 1 hts (gd_s gw1271 gw1272 gw15 gw1273) rfl rfl rfl (by decide +kernel) ⟨Nat.le_of_ble_eq_true rfl, Nat.le_of_ble_eq_true rfl⟩) ⟨kw_blind (Zk_ok g), kw_pre (Zk_ok g) hK hZ hA hst⟩ rfl rfl hl.1 rfl (lv_room (Nat.le_of_ble_eq_true rfl)) d_Md_value_138 ⟨Nat.le_of_ble_eq_true rfl, Nat.le_of_ble_eq_true rfl⟩) hst hA (fun r2 σ2 H locs h hst => ?_)
  refine lv_if_eq (tgt := 157) hx hb d_Md_value_141 (by decide) (fun hc => ?_) (fun hc => ?_)
  · replace h := h.1 hc
    refine lv_aload_n hx hb d_Md_value_157 rfl (lv_at hl 0 rfl) ?_
    refine lv_aload_n hx hb d_Md_value_158 rfl (lv_at hl 0 rfl) ?_
    refine va_get (D := D) (ci := 10) (C := R_Md) (T := T_Md) (N := 46) hx hb hts in_Md hown hK hst.1 54 (WS_o54 g σ2) rfl 6 (by decide) (hts _ gw1070) (fun _ h9 => h9) rfl d_Md_value_159 ?_
    refine lv_iload_n hx hb d_Md_value_162 rfl (lv_at hl 1 rfl) ?_
    obtain ⟨hi, h⟩ := h
    refine va_iald hx hb hK hst.1 60 0 (WS_a60 g σ2) rfl hi d_Md_value_163 ?_
    refine lv_aload_n hx hb d_Md_value_164 rfl (lv_at hl 0 rfl) ?_
    refine va_get (D := D) (ci := 10) (C := R_Md) (T := T_Md) (N := 46) hx hb hts in_Md hown hK hst.1 54 (WS_o54 g σ2) rfl 19 (by decide) (hts _ gw1083) (fun _ h9 => h9) rfl d_Md_value_165 ?_
    refine kw_calll (va_runV (As := [.int (σ2.1 60 x3.toNatClampNeg), .int (σ2.1 54 19)]) (rest := []) (b := g.1 54) ⟨hx, hb, hml, hown, hts⟩ (c_Md_packed l (σ2.1 60 x3.toNatClampNeg) (σ2.1 54 19) h) (cwV 2 hts (gd_v gw1294 gw1296 gs56 gw15 gw1297) rfl rfl rfl (by decide +kernel) ⟨Nat.le_of_ble_eq_true rfl, Nat.le_of_ble_eq_true rfl⟩) ⟨kw_blind (Zk_ok g), va_recv hK hst.1 rfl (WS_o54 g σ2), kw_pre (Zk_ok g) hK hZ hA hst⟩ rfl rfl hl.1 rfl (lv_room (Nat.le_of_ble_eq_true rfl)) d_Md_value_168 ⟨Nat.le_of_ble_eq_true rfl, Nat.le_of_ble_eq_true rfl⟩) hst hA (fun r3 σ3 H locs h hst => ?_)
    refine lv_lstore hx hb d_Md_value_171 hl (by decide) rfl (fun ls hl => ?_)
    have hl : lv_has ls 7 [(5, .long r3), (0, .ref (g.1 54)), (3, .int x3)] := hl
    refine lv_aload_n hx hb d_Md_value_173 rfl (lv_at hl 1 rfl) ?_
    refine va_get (D := D) (ci := 10) (C := R_Md) (T := T_Md) (N := 46) hx hb hts in_Md hown hK hst.1 54 (WS_o54 g σ3) rfl 5 (by decide) (hts _ gw1069) (fun _ h9 => h9) rfl d_Md_value_174 ?_
    refine lv_iload_n hx hb d_Md_value_177 rfl (lv_at hl 2 rfl) ?_
    refine lv_lload hx hb d_Md_value_178 (lv_at hl 0 rfl) ?_
    refine lv_ldc2 (v := (5877798 : Int64)) hx hb hown (hts _ gw1299) d_Md_value_180 ?_
    refine W.lcmp hx hb d_Md_value_183 ?_
    refine lv_if_ne (tgt := 191) hx hb d_Md_value_184 (by decide) (fun hc => ?_) (fun hc => ?_)
    · replace h := h.1 hc
      refine lv_lload hx hb d_Md_value_191 (lv_at hl 0 rfl) ?_
      refine lv_ldc2 (v := (185940 : Int64)) hx hb hown (hts _ gw1300) d_Md_value_193 ?_
      refine W.lcmp hx hb d_Md_value_196 ?_
      refine lv_if_ne (tgt := 204) hx hb d_Md_value_197 (by decide) (fun hc => ?_) (fun hc => ?_)
      · replace h := h.1 hc
        refine lv_iconst (v := (0 : Int32)) hx hb d_Md_value_204 (by decide) ?_
        obtain ⟨hi, h⟩ := h
        refine kw_iast hx hb hK hst 59 (WS_a59 g σ3) hi (WS_s59 g σ3 _ _) d_Md_value_205 (fun σ4 H locs e4 hst => ?_)
        replace h := h σ4 e4
        exact j4 x3 r3 σ4 _ _ _ (lv_sub hl [1, 2, 0] rfl) hst h
      · replace h := h.2 hc
        refine lv_iconst (v := (2 : Int32)) hx hb d_Md_value_200 (by decide) ?_
        refine lv_goto (tgt := 205) hx hb d_Md_value_201 (by decide) ?_
        obtain ⟨hi, h⟩ := h
        refine kw_iast hx hb hK hst 59 (WS_a59 g σ3) hi (WS_s59 g σ3 _ _) d_Md_value_205 (fun σ4 H locs e4 hst => ?_)
        replace h := h σ4 e4
        exact j4 x3 r3 σ4 _ _ _ (lv_sub hl [1, 2, 0] rfl) hst h
    · replace h := h.2 hc
      refine lv_iconst (v := (1 : Int32)) hx hb d_Md_value_187 (by decide) ?_
      refine lv_goto (tgt := 205) hx hb d_Md_value_188 (by decide) ?_
      obtain ⟨hi, h⟩ := h
      refine kw_iast hx hb hK hst 59 (WS_a59 g σ3) hi (WS_s59 g σ3 _ _) d_Md_value_205 (fun σ4 H locs e4 hst => ?_)
      replace h := h σ4 e4
      exact j4 x3 r3 σ4 _ _ _ (lv_sub hl [1, 2, 0] rfl) hst h
  · replace h := h.2 hc
    refine lv_aload_n hx hb d_Md_value_144 rfl (lv_at hl 0 rfl) ?_
    refine lv_dup hx hb d_Md_value_145 rfl ?_
    refine va_get (D := D) (ci := 10) (C := R_Md) (T := T_Md) (N := 46) hx hb hts in_Md hown hK hst.1 54 (WS_o54 g σ2) rfl 19 (by decide) (hts _ gw1083) (fun _ h9 => h9) rfl d_Md_value_146 ?_
    refine lv_iconst (v := (1 : Int32)) hx hb d_Md_value_149 (by decide) ?_
    refine lv_iadd hx hb d_Md_value_150 ?_
    refine kw_put (D := D) (ci := 10) (ty := .int) (C := R_Md) (T := T_Md) (N := 46) hx hb hts in_Md ty_Md ty_Md_ok nm_Md hown hK hst 54 (WS_o54 g σ2) rfl 19 (by decide) (hts _ gw1083) (fun _ h9 => h9) rfl (by decide +kernel) rfl rfl (Nat.le_of_ble_eq_true rfl) (WS_p54_19 g σ2 _) d_Md_value_151 (fun σ3 H locs e3 hst => ?_)
    replace h := h σ3 e3
    refine lv_goto (tgt := 134) hx hb d_Md_value_154 (by decide) ?_
    exact j2 x3 σ3 _ _ _ (lv_sub hl [0, 1] rfl) hst h
set_option maxRecDepth 100000 in
set_option maxHeartbeats 4000000 in
theorem b_Md_value_3 {p : Program} {l : Launch} {e : Env} {s : State} {m : MethodId} {args : Array Value} {below : List Frame} {meth : Method} {c : Code} {D : va_G} {g : Gm} {A : Nat → Prop} {post : Sg → Prop} {F : Nat → Int32 → Int32 → Int32 → Int32 → Int64 → Sg → Prop} (C : kC p s m args meth c k_Md_value 7 (none) GW R_Md D vwCl g (Zk g) A) (x3 : Int32) (σ : Sg) (H : Heap) (locs : List Loc) (ls : Array Slot) (hl : lv_has ls 7 [(0, .ref (g.1 54)), (3, .int x3)]) (hst : Wst D vwCl (WS g) A s σ H locs) (h : wb_Md_value_3 F post x3 σ) : W p l e { frames := 2, cells := 0, slots := 0, locals := 46 } s m args below meth c H locs 0 0 (MQ below (QvW D vwCl (WS g) post A) args s 0 0 A) (F0 m 46 ls []) := by
  obtain ⟨hx, hb, hr, hml, hown, hts, hlocks, hK, hZ, hA⟩ := C
  unfold wb_Md_value_3 at h
  refine lv_aload_n hx hb d_Md_value_46 rfl (lv_at hl 0 rfl) ?_
  refine va_get (D := D) (ci := 10) (C := R_Md) (T := T_Md) (N := 46) hx hb hts in_Md hown hK hst.1 54 (WS_o54 g σ) rfl 21 (by decide) (hts _ gw1085) (fun _ h9 => h9) rfl d_Md_value_47 ?_
  refine lv_aload_n hx hb d_Md_value_50 rfl (lv_at hl 0 rfl) ?_
  refine va_get (D := D) (ci := 10) (C := R_Md) (T := T_Md) (N := 46) hx hb hts in_Md hown hK hst.1 54 (WS_o54 g σ) rfl 20 (by decide) (hts _ gw1084) (fun _ h9 => h9) rfl d_Md_value_51 ?_
  refine lv_iload_n hx hb d_Md_value_54 rfl (lv_at hl 1 rfl) ?_
  obtain ⟨hi, h⟩ := h
  refine kw_iast hx hb hK hst 72 (WS_a72 g σ) hi (WS_s72 g σ _ _) d_Md_value_55 (fun σ1 H locs e1 hst => ?_)
  replace h := h σ1 e1
  refine lv_aload_n hx hb d_Md_value_56 rfl (lv_at hl 0 rfl) ?_
  refine va_get (D := D) (ci := 10) (C := R_Md) (T := T_Md) (N := 46) hx hb hts in_Md hown hK hst.1 54 (WS_o54 g σ1) rfl 23 (by decide) (hts _ gw1087) (fun _ h9 => h9) rfl d_Md_value_57 ?_
  refine lv_aload_n hx hb d_Md_value_60 rfl (lv_at hl 0 rfl) ?_
  refine va_get (D := D) (ci := 10) (C := R_Md) (T := T_Md) (N := 46) hx hb hts in_Md hown hK hst.1 54 (WS_o54 g σ1) rfl 20 (by decide) (hts _ gw1084) (fun _ h9 => h9) rfl d_Md_value_61 ?_
  refine lv_iconst (v := (0 : Int32)) hx hb d_Md_value_64 (by decide) ?_
  obtain ⟨hi, h⟩ := h
  refine kw_zast hx hb hK hst 74 (WS_a74 g σ1) hi (WS_s74 g σ1 _ _) d_Md_value_65 (fun σ2 H locs e2 hst => ?_)
  replace h := h σ2 e2
  refine lv_aload_n hx hb d_Md_value_66 rfl (lv_at hl 0 rfl) ?_
  refine va_get (D := D) (ci := 10) (C := R_Md) (T := T_Md) (N := 46) hx hb hts in_Md hown hK hst.1 54 (WS_o54 g σ2) rfl 24 (by decide) (hts _ gw1088) (fun _ h9 => h9) rfl d_Md_value_67 ?_
  refine lv_aload_n hx hb d_Md_value_70 rfl (lv_at hl 0 rfl) ?_
  refine va_get (D := D) (ci := 10) (C := R_Md) (T := T_Md) (N := 46) hx hb hts in_Md hown hK hst.1 54 (WS_o54 g σ2) rfl 20 (by decide) (hts _ gw1084) (fun _ h9 => h9) rfl d_Md_value_71 ?_
  refine lv_iconst (v := (0 : Int32)) hx hb d_Md_value_74 (by decide) ?_
  obtain ⟨hi, h⟩ := h
  refine kw_zast hx hb hK hst 75 (WS_a75 g σ2) hi (WS_s75 g σ2 _ _) d_Md_value_75 (fun σ3 H locs e3 hst => ?_)
  replace h := h σ3 e3
  refine lv_aload_n hx hb d_Md_value_76 rfl (lv_at hl 0 rfl) ?_
  refine lv_dup hx hb d_Md_value_77 rfl ?_
  refine va_get (D := D) (ci := 10) (C := R_Md) (T := T_Md) (N := 46) hx hb hts in_Md hown hK hst.1 54 (WS_o54 g σ3) rfl 20 (by decide) (hts _ gw1084) (fun _ h9 => h9) rfl d_Md_value_78 ?_
  refine lv_iconst (v := (1 : Int32)) hx hb d_Md_value_81 (by decide) ?_
  refine lv_iadd hx hb d_Md_value_82 ?_
  refine kw_put (D := D) (ci := 10) (ty := .int) (C := R_Md) (T := T_Md) (N := 46) hx hb hts in_Md ty_Md ty_Md_ok nm_Md hown hK hst 54 (WS_o54 g σ3) rfl 20 (by decide) (hts _ gw1084) (fun _ h9 => h9) rfl (by decide +kernel) rfl rfl (Nat.le_of_ble_eq_true rfl) (WS_p54_20 g σ3 _) d_Md_value_83 (fun σ4 H locs e4 hst => ?_)
  replace h := h σ4 e4
  refine lv_aload_n hx hb d_Md_value_86 rfl (lv_at hl 0 rfl) ?_
  refine lv_dup hx hb d_Md_value_87 rfl ?_
  refine va_get (D := D) (ci := 10) (C := R_Md) (T := T_Md) (N := 46) hx hb hts in_Md hown hK hst.1 54 (WS_o54 g σ4) rfl 19 (by decide) (hts _ gw1083) (fun _ h9 => h9) rfl d_Md_value_88 ?_
  refine lv_iconst (v := (1 : Int32)) hx hb d_Md_value_91 (by decide) ?_
  refine lv_iadd hx hb d_Md_value_92 ?_
  refine kw_put (D := D) (ci := 10) (ty := .int) (C := R_Md) (T := T_Md) (N := 46) hx hb hts in_Md ty_Md ty_Md_ok nm_Md hown hK hst 54 (WS_o54 g σ4) rfl 19 (by decide) (hts _ gw1083) (fun _ h9 => h9) rfl (by decide +kernel) rfl rfl (Nat.le_of_ble_eq_true rfl) (WS_p54_19 g σ4 _) d_Md_value_93 (fun σ5 H locs e5 hst => ?_)
  replace h := h σ5 e5
  refine lv_goto (tgt := 248) hx hb d_Md_value_96 (by decide) ?_
  refine lv_aload_n hx hb d_Md_value_248 rfl (lv_at hl 0 rfl) ?_
  refine va_get (D := D) (ci := 10) (C := R_Md) (T := T_Md) (N := 46) hx hb hts in_Md hown hK hst.1 54 (WS_o54 g σ5) rfl 7 (by decide) (hts _ gw1071) (fun _ h9 => h9) rfl d_Md_value_249 ?_
  refine lv_iload_n hx hb d_Md_value_252 rfl (lv_at hl 1 rfl) ?_
  refine lv_aload_n hx hb d_Md_value_253 rfl (lv_at hl 0 rfl) ?_
  refine va_get (D := D) (ci := 10) (C := R_Md) (T := T_Md) (N := 46) hx hb hts in_Md hown hK hst.1 54 (WS_o54 g σ5) rfl 19 (by decide) (hts _ gw1083) (fun _ h9 => h9) rfl d_Md_value_254 ?_
  obtain ⟨hi, h⟩ := h
  refine kw_iast hx hb hK hst 61 (WS_a61 g σ5) hi (WS_s61 g σ5 _ _) d_Md_value_257 (fun σ6 H locs e6 hst => ?_)
  replace h := h σ6 e6
  exact kw_vret hx hb hr hlocks hst h d_Md_value_258
set_option maxRecDepth 100000 in
set_option maxHeartbeats 4000000 in
theorem b_Md_value_4 {p : Program} {l : Launch} {e : Env} {s : State} {m : MethodId} {args : Array Value} {below : List Frame} {meth : Method} {c : Code} {D : va_G} {g : Gm} {A : Nat → Prop} {post : Sg → Prop} {F : Nat → Int32 → Int32 → Int32 → Int32 → Int64 → Sg → Prop} (C : kC p s m args meth c k_Md_value 7 (none) GW R_Md D vwCl g (Zk g) A) (x3 : Int32) (y5 : Int64) (σ : Sg) (H : Heap) (locs : List Loc) (ls : Array Slot) (hl : lv_has ls 7 [(0, .ref (g.1 54)), (3, .int x3), (5, .long y5)]) (hst : Wst D vwCl (WS g) A s σ H locs) (h : wb_Md_value_4 F post x3 y5 σ) : W p l e { frames := 2, cells := 0, slots := 0, locals := 46 } s m args below meth c H locs 0 0 (MQ below (QvW D vwCl (WS g) post A) args s 0 0 A) (F0 m 206 ls []) := by
  obtain ⟨hx, hb, hr, hml, hown, hts, hlocks, hK, hZ, hA⟩ := C
  unfold wb_Md_value_4 at h
  refine lv_aload_n hx hb d_Md_value_206 rfl (lv_at hl 0 rfl) ?_
  refine va_get (D := D) (ci := 10) (C := R_Md) (T := T_Md) (N := 46) hx hb hts in_Md hown hK hst.1 54 (WS_o54 g σ) rfl 5 (by decide) (hts _ gw1069) (fun _ h9 => h9) rfl d_Md_value_207 ?_
  refine lv_iload_n hx hb d_Md_value_210 rfl (lv_at hl 1 rfl) ?_
  obtain ⟨hi, h⟩ := h
  refine va_iald hx hb hK hst.1 59 0 (WS_a59 g σ) rfl hi d_Md_value_211 ?_
  refine lv_if_ne (tgt := 240) hx hb d_Md_value_212 (by decide) (fun hc => ?_) (fun hc => ?_)
  · replace h := h.1 hc
    refine lv_goto (tgt := 248) hx hb d_Md_value_240 (by decide) ?_
    refine lv_aload_n hx hb d_Md_value_248 rfl (lv_at hl 0 rfl) ?_
    refine va_get (D := D) (ci := 10) (C := R_Md) (T := T_Md) (N := 46) hx hb hts in_Md hown hK hst.1 54 (WS_o54 g σ) rfl 7 (by decide) (hts _ gw1071) (fun _ h9 => h9) rfl d_Md_value_249 ?_
    refine lv_iload_n hx hb d_Md_value_252 rfl (lv_at hl 1 rfl) ?_
    refine lv_aload_n hx hb d_Md_value_253 rfl (lv_at hl 0 rfl) ?_
    refine va_get (D := D) (ci := 10) (C := R_Md) (T := T_Md) (N := 46) hx hb hts in_Md hown hK hst.1 54 (WS_o54 g σ) rfl 19 (by decide) (hts _ gw1083) (fun _ h9 => h9) rfl d_Md_value_254 ?_
    obtain ⟨hi, h⟩ := h
    refine kw_iast hx hb hK hst 61 (WS_a61 g σ) hi (WS_s61 g σ _ _) d_Md_value_257 (fun σ1 H locs e1 hst => ?_)
    replace h := h σ1 e1
    exact kw_vret hx hb hr hlocks hst h d_Md_value_258
  · replace h := h.2 hc
    refine lv_lload hx hb d_Md_value_215 (lv_at hl 2 rfl) ?_
    refine lv_aload_n hx hb d_Md_value_217 rfl (lv_at hl 0 rfl) ?_
    refine va_get (D := D) (ci := 10) (C := R_Md) (T := T_Md) (N := 46) hx hb hts in_Md hown hK hst.1 54 (WS_o54 g σ) rfl 0 (by decide) (hts _ gw1064) (fun _ h9 => h9) rfl d_Md_value_218 ?_
    refine lv_bipush (v := (21 : Int32)) hx hb d_Md_value_221 (by decide) ?_
    obtain ⟨hi, h⟩ := h
    refine va_lald hx hb hK hst.1 55 3 (WS_a55 g σ) rfl hi d_Md_value_223 ?_
    refine W.lcmp hx hb d_Md_value_224 ?_
    refine lv_if_eq (tgt := 240) hx hb d_Md_value_225 (by decide) (fun hc => ?_) (fun hc => ?_)
    · replace h := h.1 hc
      refine lv_goto (tgt := 248) hx hb d_Md_value_240 (by decide) ?_
      refine lv_aload_n hx hb d_Md_value_248 rfl (lv_at hl 0 rfl) ?_
      refine va_get (D := D) (ci := 10) (C := R_Md) (T := T_Md) (N := 46) hx hb hts in_Md hown hK hst.1 54 (WS_o54 g σ) rfl 7 (by decide) (hts _ gw1071) (fun _ h9 => h9) rfl d_Md_value_249 ?_
      refine lv_iload_n hx hb d_Md_value_252 rfl (lv_at hl 1 rfl) ?_
      refine lv_aload_n hx hb d_Md_value_253 rfl (lv_at hl 0 rfl) ?_
      refine va_get (D := D) (ci := 10) (C := R_Md) (T := T_Md) (N := 46) hx hb hts in_Md hown hK hst.1 54 (WS_o54 g σ) rfl 19 (by decide) (hts _ gw1083) (fun _ h9 => h9) rfl d_Md_value_254 ?_
      obtain ⟨hi, h⟩ := h
      refine kw_iast hx hb hK hst 61 (WS_a61 g σ) hi (WS_s61 g σ _ _) d_Md_value_257 (fun σ1 H locs e1 hst => ?_)
      replace h := h σ1 e1
      exact kw_vret hx hb hr hlocks hst h d_Md_value_258
    · replace h := h.2 hc
      refine lv_aload_n hx hb d_Md_value_228 rfl (lv_at hl 0 rfl) ?_
      refine lv_bipush (v := (7 : Int32)) hx hb d_Md_value_229 (by decide) ?_
      refine lv_aload_n hx hb d_Md_value_231 rfl (lv_at hl 0 rfl) ?_
      refine va_get (D := D) (ci := 10) (C := R_Md) (T := T_Md) (N := 46) hx hb hts in_Md hown hK hst.1 54 (WS_o54 g σ) rfl 6 (by decide) (hts _ gw1070) (fun _ h9 => h9) rfl d_Md_value_232 ?_
      refine lv_iload_n hx hb d_Md_value_235 rfl (lv_at hl 1 rfl) ?_
      obtain ⟨hi, h⟩ := h
      refine va_iald hx hb hK hst.1 60 0 (WS_a60 g σ) rfl hi d_Md_value_236 ?_
      refine kw_callv (va_runV (As := [.int (7 : Int32), .int (σ.1 60 x3.toNatClampNeg)]) (rest := []) (b := g.1 54) ⟨hx, hb, hml, hown, hts⟩ (c_Md_note l (7 : Int32) (σ.1 60 x3.toNatClampNeg) h) (cwV 2 hts (gd_v gw1278 gw1280 gs52 gw15 gw1281) rfl rfl rfl (by decide +kernel) ⟨Nat.le_of_ble_eq_true rfl, Nat.le_of_ble_eq_true rfl⟩) ⟨kw_blind (Zk_ok g), va_recv hK hst.1 rfl (WS_o54 g σ), kw_pre (Zk_ok g) hK hZ hA hst⟩ rfl rfl hl.1 rfl (lv_room (Nat.le_of_ble_eq_true rfl)) d_Md_value_237 ⟨Nat.le_of_ble_eq_true rfl, Nat.le_of_ble_eq_true rfl⟩) hst hA (fun σ1 H locs h hst => ?_)
      refine lv_goto (tgt := 248) hx hb d_Md_value_240 (by decide) ?_
      refine lv_aload_n hx hb d_Md_value_248 rfl (lv_at hl 0 rfl) ?_
      refine va_get (D := D) (ci := 10) (C := R_Md) (T := T_Md) (N := 46) hx hb hts in_Md hown hK hst.1 54 (WS_o54 g σ1) rfl 7 (by decide) (hts _ gw1071) (fun _ h9 => h9) rfl d_Md_value_249 ?_
      refine lv_iload_n hx hb d_Md_value_252 rfl (lv_at hl 1 rfl) ?_
      refine lv_aload_n hx hb d_Md_value_253 rfl (lv_at hl 0 rfl) ?_
      refine va_get (D := D) (ci := 10) (C := R_Md) (T := T_Md) (N := 46) hx hb hts in_Md hown hK hst.1 54 (WS_o54 g σ1) rfl 19 (by decide) (hts _ gw1083) (fun _ h9 => h9) rfl d_Md_value_254 ?_
      obtain ⟨hi, h⟩ := h
      refine kw_iast hx hb hK hst 61 (WS_a61 g σ1) hi (WS_s61 g σ1 _ _) d_Md_value_257 (fun σ2 H locs e2 hst => ?_)
      replace h := h σ2 e2
      exact kw_vret hx hb hr hlocks hst h d_Md_value_258
set_option maxRecDepth 100000 in
set_option maxHeartbeats 4000000 in
theorem a_Md_value {p : Program} {l : Launch} {e : Env} {s : State} {m : MethodId} {args : Array Value} {below : List Frame} {meth : Method} {c : Code} {D : va_G} {g : Gm} {A : Nat → Prop} {post : Sg → Prop} (C : kC p s m args meth c k_Md_value 7 (none) GW R_Md D vwCl g (Zk g) A) : ∀ n : Nat, J_Md_value_1 p l e s m args below meth c D g A post (wp_Md_value post n) ∧ J_Md_value_2 p l e s m args below meth c D g A post (wp_Md_value post n) ∧ J_Md_value_3 p l e s m args below meth c D g A post (wp_Md_value post n) ∧ J_Md_value_4 p l e s m args below meth c D g A post (wp_Md_value post n) := by
  intro n
  induction n with
  | zero => exact ⟨fun _ _ _ _ _ _ _ _ h => h.elim, fun _ _ _ _ _ _ _ h => h.elim, fun _ _ _ _ _ _ _ h => h.elim, fun _ _ _ _ _ _ _ _ h => h.elim⟩
  | succ n ih => exact ⟨fun x3 x4 σ H locs ls hl hst h => b_Md_value_1 (F := wp_Md_value post n) C (ih.2.2.1) x3 x4 σ H locs ls hl hst h, fun x3 σ H locs ls hl hst h => b_Md_value_2 (F := wp_Md_value post n) C (ih.2.1) (ih.2.2.2) x3 σ H locs ls hl hst h, fun x3 σ H locs ls hl hst h => b_Md_value_3 (F := wp_Md_value post n) C x3 σ H locs ls hl hst h, fun x3 y5 σ H locs ls hl hst h => b_Md_value_4 (F := wp_Md_value post n) C x3 y5 σ H locs ls hl hst h⟩
set_option maxRecDepth 100000 in
set_option maxHeartbeats 4000000 in
theorem c_Md_value (l : Launch) {D : va_G} {g : Gm} {sz : Nat} (x1 : Int32) (x2 : Int32) {σ : Sg} {post : Sg → Prop} (h : wq_Md_value x1 x2 σ post) : Met l y_Md_value (.code y_Md_value k_Md_value 7 (none) :: GW) { frames := 2, cells := 0, slots := 0, locals := 46 } (PcW D vwCl (WS g) g (Zk g) σ sz [.ref (g.1 54), .int x1, .int x2]) (QvW D vwCl (WS g) post (va_A (WS g σ) sz)) 0 0 (va_A (WS g σ) sz) := by
  refine kw_entry (own := R_Md) (by decide) rfl rfl (Nat.le_of_ble_eq_true rfl) ?_
  intro p e s m below meth c ls hsz C hin hl hst
  obtain ⟨n, h⟩ := h
  cases n with
  | zero => exact h.elim
  | succ n =>
    have ih := a_Md_value (l := l) (e := e) (below := below) (post := post) C n
    exact b_Md_value_0 (F := wp_Md_value post n) C (ih.1) (ih.2.1) x1 x2 σ _ _ ls hl hst h
