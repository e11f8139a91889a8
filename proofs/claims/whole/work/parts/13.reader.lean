/-! SchemaDesk$Reader.passBlanks ()V -/
abbrev k_Rd_passBlanks : ByteArray := prog_5_method_3_code
abbrev y_Rd_passBlanks : MethodName := ⟨"SchemaDesk$Reader", "passBlanks", "()V"⟩
theorem d_Rd_passBlanks_0 : decode k_Rd_passBlanks 0 = .ok (.aload_n 0, 1) := by decide +kernel
theorem d_Rd_passBlanks_1 : decode k_Rd_passBlanks 1 = .ok (.getfield 33, 3) := by decide +kernel
theorem d_Rd_passBlanks_4 : decode k_Rd_passBlanks 4 = .ok (.aload_n 0, 1) := by decide +kernel
theorem d_Rd_passBlanks_5 : decode k_Rd_passBlanks 5 = .ok (.getfield 21, 3) := by decide +kernel
theorem d_Rd_passBlanks_8 : decode k_Rd_passBlanks 8 = .ok (.getfield 40, 3) := by decide +kernel
theorem d_Rd_passBlanks_11 : decode k_Rd_passBlanks 11 = .ok (.if_icmp .ge 33, 3) := by decide +kernel
theorem d_Rd_passBlanks_14 : decode k_Rd_passBlanks 14 = .ok (.aload_n 0, 1) := by decide +kernel
theorem d_Rd_passBlanks_15 : decode k_Rd_passBlanks 15 = .ok (.getfield 21, 3) := by decide +kernel
theorem d_Rd_passBlanks_18 : decode k_Rd_passBlanks 18 = .ok (.getfield 61, 3) := by decide +kernel
theorem d_Rd_passBlanks_21 : decode k_Rd_passBlanks 21 = .ok (.aload_n 0, 1) := by decide +kernel
theorem d_Rd_passBlanks_22 : decode k_Rd_passBlanks 22 = .ok (.getfield 33, 3) := by decide +kernel
theorem d_Rd_passBlanks_25 : decode k_Rd_passBlanks 25 = .ok (.caload, 1) := by decide +kernel
theorem d_Rd_passBlanks_26 : decode k_Rd_passBlanks 26 = .ok (.bipush 32, 2) := by decide +kernel
theorem d_Rd_passBlanks_28 : decode k_Rd_passBlanks 28 = .ok (.if_icmp .ne 16, 3) := by decide +kernel
theorem d_Rd_passBlanks_31 : decode k_Rd_passBlanks 31 = .ok (.aload_n 0, 1) := by decide +kernel
theorem d_Rd_passBlanks_32 : decode k_Rd_passBlanks 32 = .ok (.dup, 1) := by decide +kernel
theorem d_Rd_passBlanks_33 : decode k_Rd_passBlanks 33 = .ok (.getfield 33, 3) := by decide +kernel
theorem d_Rd_passBlanks_36 : decode k_Rd_passBlanks 36 = .ok (.iconst 1, 1) := by decide +kernel
theorem d_Rd_passBlanks_37 : decode k_Rd_passBlanks 37 = .ok (.iadd, 1) := by decide +kernel
theorem d_Rd_passBlanks_38 : decode k_Rd_passBlanks 38 = .ok (.putfield 33, 3) := by decide +kernel
theorem d_Rd_passBlanks_41 : decode k_Rd_passBlanks 41 = .ok (.goto (-41), 3) := by decide +kernel
theorem d_Rd_passBlanks_44 : decode k_Rd_passBlanks 44 = .ok (.return_, 1) := by decide +kernel
theorem gw214 : (Jvm.Cond.fieldLink "SchemaDesk$Reader" (33 : Nat) "SchemaDesk$Reader" "at" "I") ∈ GW := gw_t1 (List.mem_of_getElem? (i := 214) rfl) rfl
theorem gw212 : (Jvm.Cond.fieldLink "SchemaDesk$Reader" (21 : Nat) "SchemaDesk$Reader" "text" "LSchemaDesk$Text;") ∈ GW := gw_t1 (List.mem_of_getElem? (i := 212) rfl) rfl
theorem gw114 : (Jvm.Cond.fieldLink "SchemaDesk$Reader" (40 : Nat) "SchemaDesk$Text" "size" "I") ∈ GW := gw_t1 (List.mem_of_getElem? (i := 114) rfl) rfl
theorem gw107 : (Jvm.Cond.fieldLink "SchemaDesk$Reader" (61 : Nat) "SchemaDesk$Text" "letters" "[C") ∈ GW := gw_t1 (List.mem_of_getElem? (i := 107) rfl) rfl
def wb_Rd_passBlanks_0 (b : Nat) (F : Nat → Sg → Prop) (post : Sg → Prop) (σ : Sg) : Prop := F 1  σ
def wb_Rd_passBlanks_1 (b : Nat) (F : Nat → Sg → Prop) (post : Sg → Prop) (σ : Sg) : Prop := (((σ.1 (b + 10) 1) ≤ (σ.1 (b + 12) 4) → post σ) ∧ (¬ (σ.1 (b + 10) 1) ≤ (σ.1 (b + 12) 4) → (vp_in (σ.1 (b + 12) 4) (tl b) ∧ ((¬ (σ.1 (b + 11) ((σ.1 (b + 12) 4) : Int32).toNatClampNeg) = (32 : Int32) → post σ) ∧ ((σ.1 (b + 11) ((σ.1 (b + 12) 4) : Int32).toNatClampNeg) = (32 : Int32) → (∀ σ1, σ1 = si σ (b + 12) 4 ((σ.1 (b + 12) 4) + (1 : Int32)) → F 1  σ1))))))
def wp_Rd_passBlanks (b : Nat) (post : Sg → Prop) : Nat → Nat → Sg → Prop
  | 0, _, _ => False
  | n + 1, k, σ => match k with
    | 0 => wb_Rd_passBlanks_0 b (wp_Rd_passBlanks b post n) post σ
    | 1 => wb_Rd_passBlanks_1 b (wp_Rd_passBlanks b post n) post σ
    | _ => False
def wq_Rd_passBlanks (b : Nat) (σ : Sg) (post : Sg → Prop) : Prop := ∃ n, wp_Rd_passBlanks b post n 0  σ
def J_Rd_passBlanks_0_1 (p : Program) (l : Launch) (e : Env) (s : State) (m : MethodId) (args : Array Value) (below : List Frame) (meth : Method) (c : Code) (D : va_G) (g : Gm) (A : Nat → Prop) (post : Sg → Prop) (F : Nat → Sg → Prop) : Prop := ∀ (σ : Sg) (H : Heap) (locs : List Loc) (ls : Array Slot), lv_has ls 1 [(0, .ref (g.1 12))] → Wst D vwCl (WS g) A s σ H locs → F 1  σ → W p l e { frames := 0, cells := 0, slots := 0, locals := 0 } s m args below meth c H locs 0 0 (MQ below (QvW D vwCl (WS g) post A) args s 0 0 A) (F0 m 0 ls [])
set_option maxRecDepth 100000 in
set_option maxHeartbeats 4000000 in
theorem b_Rd_passBlanks_0_0 {p : Program} {l : Launch} {e : Env} {s : State} {m : MethodId} {args : Array Value} {below : List Frame} {meth : Method} {c : Code} {D : va_G} {g : Gm} {A : Nat → Prop} {post : Sg → Prop} {F : Nat → Sg → Prop} (C : kC p s m args meth c k_Rd_passBlanks 1 (none) GW R_Rd D vwCl g (Zk g) A) (j1 : J_Rd_passBlanks_0_1 p l e s m args below meth c D g A post F) (σ : Sg) (H : Heap) (locs : List Loc) (ls : Array Slot) (hl : lv_has ls 1 [(0, .ref (g.1 12))]) (hst : Wst D vwCl (WS g) A s σ H locs) (h : wb_Rd_passBlanks_0 0 F post σ) : W p l e { frames := 0, cells := 0, slots := 0, locals := 0 } s m args below meth c H locs 0 0 (MQ below (QvW D vwCl (WS g) post A) args s 0 0 A) (F0 m 0 ls []) := by
  obtain ⟨hx, hb, hr, hml, hown, hts, hlocks, hK, hZ, hA⟩ := C
  unfold wb_Rd_passBlanks_0 at h
  exact j1 σ _ _ _ (lv_sub hl [0] rfl) hst h
set_option maxRecDepth 100000 in
set_option maxHeartbeats 4000000 in
theorem b_Rd_passBlanks_0_1 {p : Program} {l : Launch} {e : Env} {s : State} {m : MethodId} {args : Array Value} {below : List Frame} {meth : Method} {c : Code} {D : va_G} {g : Gm} {A : Nat → Prop} {post : Sg → Prop} {F : Nat → Sg → Prop} (C : kC p s m args meth c k_Rd_passBlanks 1 (none) GW R_Rd D vwCl g (Zk g) A) (j1 : J_Rd_passBlanks_0_1 p l e s m args below meth c D g A post F) (σ : Sg) (H : Heap) (locs : List Loc) (ls : Array Slot) (hl : lv_has ls 1 [(0, .ref (g.1 12))]) (hst : Wst D vwCl (WS g) A s σ H locs) (h : wb_Rd_passBlanks_1 0 F post σ) : W p l e { frames := 0, cells := 0, slots := 0, locals := 0 } s m args below meth c H locs 0 0 (MQ below (QvW D vwCl (WS g) post A) args s 0 0 A) (F0 m 0 ls []) := by
  obtain ⟨hx, hb, hr, hml, hown, hts, hlocks, hK, hZ, hA⟩ := C
  unfold wb_Rd_passBlanks_1 at h
  refine lv_aload_n hx hb d_Rd_passBlanks_0 rfl (lv_at hl 0 rfl) ?_
  refine va_get (D := D) (ci := 2) (C := R_Rd) (T := T_Rd) (N := 5) hx hb hts in_Rd hown hK hst.1 12 (WS_o12 g σ) rfl 4 (by decide) (hts _ gw214) (fun _ h9 => h9) rfl d_Rd_passBlanks_1 ?_
  refine lv_aload_n hx hb d_Rd_passBlanks_4 rfl (lv_at hl 0 rfl) ?_
  refine va_get (D := D) (ci := 2) (C := R_Rd) (T := T_Rd) (N := 5) hx hb hts in_Rd hown hK hst.1 12 (WS_o12 g σ) rfl 2 (by decide) (hts _ gw212) (fun _ h9 => h9) rfl d_Rd_passBlanks_5 ?_
  refine va_get (D := D) (ci := 1) (C := R_Tx) (T := T_Tx) (N := 2) hx hb hts in_Tx hown hK hst.1 10 (WS_o10 g σ) rfl 1 (by decide) (hts _ gw114) (fun _ h9 => h9) rfl d_Rd_passBlanks_8 ?_
  refine lv_icmp_ge (tgt := 44) hx hb d_Rd_passBlanks_11 (by decide) (fun hc => ?_) (fun hc => ?_)
  · replace h := h.1 hc
    exact kw_vret hx hb hr hlocks hst h d_Rd_passBlanks_44
  · replace h := h.2 hc
    refine lv_aload_n hx hb d_Rd_passBlanks_14 rfl (lv_at hl 0 rfl) ?_
    refine va_get (D := D) (ci := 2) (C := R_Rd) (T := T_Rd) (N := 5) hx hb hts in_Rd hown hK hst.1 12 (WS_o12 g σ) rfl 2 (by decide) (hts _ gw212) (fun _ h9 => h9) rfl d_Rd_passBlanks_15 ?_
    refine va_get (D := D) (ci := 1) (C := R_Tx) (T := T_Tx) (N := 2) hx hb hts in_Tx hown hK hst.1 10 (WS_o10 g σ) rfl 0 (by decide) (hts _ gw107) (fun _ h9 => h9) rfl d_Rd_passBlanks_18 ?_
    refine lv_aload_n hx hb d_Rd_passBlanks_21 rfl (lv_at hl 0 rfl) ?_
    refine va_get (D := D) (ci := 2) (C := R_Rd) (T := T_Rd) (N := 5) hx hb hts in_Rd hown hK hst.1 12 (WS_o12 g σ) rfl 4 (by decide) (hts _ gw214) (fun _ h9 => h9) rfl d_Rd_passBlanks_22 ?_
    obtain ⟨hi, h⟩ := h
    refine va_cald hx hb hK hst.1 11 1 (WS_a11 g σ) rfl hi d_Rd_passBlanks_25 ?_
    refine lv_bipush (v := (32 : Int32)) hx hb d_Rd_passBlanks_26 (by decide) ?_
    refine lv_icmp_ne (tgt := 44) hx hb d_Rd_passBlanks_28 (by decide) (fun hc => ?_) (fun hc => ?_)
    · replace h := h.1 hc
      exact kw_vret hx hb hr hlocks hst h d_Rd_passBlanks_44
    · replace h := h.2 hc
      refine lv_aload_n hx hb d_Rd_passBlanks_31 rfl (lv_at hl 0 rfl) ?_
      refine lv_dup hx hb d_Rd_passBlanks_32 rfl ?_
      refine va_get (D := D) (ci := 2) (C := R_Rd) (T := T_Rd) (N := 5) hx hb hts in_Rd hown hK hst.1 12 (WS_o12 g σ) rfl 4 (by decide) (hts _ gw214) (fun _ h9 => h9) rfl d_Rd_passBlanks_33 ?_
      refine lv_iconst (v := (1 : Int32)) hx hb d_Rd_passBlanks_36 (by decide) ?_
      refine lv_iadd hx hb d_Rd_passBlanks_37 ?_
      refine kw_put (D := D) (ci := 2) (ty := .int) (C := R_Rd) (T := T_Rd) (N := 5) hx hb hts in_Rd ty_Rd ty_Rd_ok nm_Rd hown hK hst 12 (WS_o12 g σ) rfl 4 (by decide) (hts _ gw214) (fun _ h9 => h9) rfl (by decide +kernel) rfl rfl (Nat.le_of_ble_eq_true rfl) (WS_p12_4 g σ _) d_Rd_passBlanks_38 (fun σ1 H locs e1 hst => ?_)
      replace h := h σ1 e1
      refine lv_goto (tgt := 0) hx hb d_Rd_passBlanks_41 (by decide) ?_
      exact j1 σ1 _ _ _ (lv_sub hl [0] rfl) hst h
set_option maxRecDepth 100000 in
set_option maxHeartbeats 4000000 in
theorem a_Rd_passBlanks_0 {p : Program} {l : Launch} {e : Env} {s : State} {m : MethodId} {args : Array Value} {below : List Frame} {meth : Method} {c : Code} {D : va_G} {g : Gm} {A : Nat → Prop} {post : Sg → Prop} (C : kC p s m args meth c k_Rd_passBlanks 1 (none) GW R_Rd D vwCl g (Zk g) A) : ∀ n : Nat, J_Rd_passBlanks_0_1 p l e s m args below meth c D g A post (wp_Rd_passBlanks 0 post n) := by
  intro n
  induction n with
  | zero => exact fun _ _ _ _ _ _ h => h.elim
  | succ n ih => exact fun σ H locs ls hl hst h => b_Rd_passBlanks_0_1 (F := wp_Rd_passBlanks 0 post n) C (ih) σ H locs ls hl hst h
set_option maxRecDepth 100000 in
set_option maxHeartbeats 4000000 in
theorem c_Rd_passBlanks_0 (l : Launch) {D : va_G} {g : Gm} {sz : Nat} {σ : Sg} {post : Sg → Prop} (h : wq_Rd_passBlanks 0 σ post) : Met l y_Rd_passBlanks (.code y_Rd_passBlanks k_Rd_passBlanks 1 (none) :: GW) { frames := 0, cells := 0, slots := 0, locals := 0 } (PcW D vwCl (WS g) g (Zk g) σ sz [.ref (g.1 12)]) (QvW D vwCl (WS g) post (va_A (WS g σ) sz)) 0 0 (va_A (WS g σ) sz) := by
  refine kw_entry (own := R_Rd) (by decide) rfl rfl (Nat.le_of_ble_eq_true rfl) ?_
  intro p e s m below meth c ls hsz C hin hl hst
  obtain ⟨n, h⟩ := h
  cases n with
  | zero => exact h.elim
  | succ n =>
    have ih := a_Rd_passBlanks_0 (l := l) (e := e) (below := below) (post := post) C n
    exact b_Rd_passBlanks_0_0 (F := wp_Rd_passBlanks 0 post n) C (ih) σ _ _ ls hl hst h
def J_Rd_passBlanks_13_1 (p : Program) (l : Launch) (e : Env) (s : State) (m : MethodId) (args : Array Value) (below : List Frame) (meth : Method) (c : Code) (D : va_G) (g : Gm) (A : Nat → Prop) (post : Sg → Prop) (F : Nat → Sg → Prop) : Prop := ∀ (σ : Sg) (H : Heap) (locs : List Loc) (ls : Array Slot), lv_has ls 1 [(0, .ref (g.1 25))] → Wst D vwCl (WS g) A s σ H locs → F 1  σ → W p l e { frames := 0, cells := 0, slots := 0, locals := 0 } s m args below meth c H locs 0 0 (MQ below (QvW D vwCl (WS g) post A) args s 0 0 A) (F0 m 0 ls [])
set_option maxRecDepth 100000 in
set_option maxHeartbeats 4000000 in
theorem b_Rd_passBlanks_13_0 {p : Program} {l : Launch} {e : Env} {s : State} {m : MethodId} {args : Array Value} {below : List Frame} {meth : Method} {c : Code} {D : va_G} {g : Gm} {A : Nat → Prop} {post : Sg → Prop} {F : Nat → Sg → Prop} (C : kC p s m args meth c k_Rd_passBlanks 1 (none) GW R_Rd D vwCl g (Zk g) A) (j1 : J_Rd_passBlanks_13_1 p l e s m args below meth c D g A post F) (σ : Sg) (H : Heap) (locs : List Loc) (ls : Array Slot) (hl : lv_has ls 1 [(0, .ref (g.1 25))]) (hst : Wst D vwCl (WS g) A s σ H locs) (h : wb_Rd_passBlanks_0 13 F post σ) : W p l e { frames := 0, cells := 0, slots := 0, locals := 0 } s m args below meth c H locs 0 0 (MQ below (QvW D vwCl (WS g) post A) args s 0 0 A) (F0 m 0 ls []) := by
  obtain ⟨hx, hb, hr, hml, hown, hts, hlocks, hK, hZ, hA⟩ := C
  unfold wb_Rd_passBlanks_0 at h
  exact j1 σ _ _ _ (lv_sub hl [0] rfl) hst h
set_option maxRecDepth 100000 in
set_option maxHeartbeats 4000000 in
theorem b_Rd_passBlanks_13_1 {p : Program} {l : Launch} {e : Env} {s : State} {m : MethodId} {args : Array Value} {below : List Frame} {meth : Method} {c : Code} {D : va_G} {g : Gm} {A : Nat → Prop} {post : Sg → Prop} {F : Nat → Sg → Prop} (C : kC p s m args meth c k_Rd_passBlanks 1 (none) GW R_Rd D vwCl g (Zk g) A) (j1 : J_Rd_passBlanks_13_1 p l e s m args below meth c D g A post F) (σ : Sg) (H : Heap) (locs : List Loc) (ls : Array Slot) (hl : lv_has ls 1 [(0, .ref (g.1 25))]) (hst : Wst D vwCl (WS g) A s σ H locs) (h : wb_Rd_passBlanks_1 13 F post σ) : W p l e { frames := 0, cells := 0, slots := 0, locals := 0 } s m args below meth c H locs 0 0 (MQ below (QvW D vwCl (WS g) post A) args s 0 0 A) (F0 m 0 ls []) := by
  obtain ⟨hx, hb, hr, hml, hown, hts, hlocks, hK, hZ, hA⟩ := C
  unfold wb_Rd_passBlanks_1 at h
  refine lv_aload_n hx hb d_Rd_passBlanks_0 rfl (lv_at hl 0 rfl) ?_
  refine va_get (D := D) (ci := 2) (C := R_Rd) (T := T_Rd) (N := 5) hx hb hts in_Rd hown hK hst.1 25 (WS_o25 g σ) rfl 4 (by decide) (hts _ gw214) (fun _ h9 => h9) rfl d_Rd_passBlanks_1 ?_
  refine lv_aload_n hx hb d_Rd_passBlanks_4 rfl (lv_at hl 0 rfl) ?_
  refine va_get (D := D) (ci := 2) (C := R_Rd) (T := T_Rd) (N := 5) hx hb hts in_Rd hown hK hst.1 25 (WS_o25 g σ) rfl 2 (by decide) (hts _ gw212) (fun _ h9 => h9) rfl d_Rd_passBlanks_5 ?_
  refine va_get (D := D) (ci := 1) (C := R_Tx) (T := T_Tx) (N := 2) hx hb hts in_Tx hown hK hst.1 23 (WS_o23 g σ) rfl 1 (by decide) (hts _ gw114) (fun _ h9 => h9) rfl d_Rd_passBlanks_8 ?_
  refine lv_icmp_ge (tgt := 44) hx hb d_Rd_passBlanks_11 (by decide) (fun hc => ?_) (fun hc => ?_)
  · replace h := h.1 hc
    exact kw_vret hx hb hr hlocks hst h d_Rd_passBlanks_44
  · replace h := h.2 hc
    refine lv_aload_n hx hb d_Rd_passBlanks_14 rfl (lv_at hl 0 rfl) ?_
    refine va_get (D := D) (ci := 2) (C := R_Rd) (T := T_Rd) (N := 5) hx hb hts in_Rd hown hK hst.1 25 (WS_o25 g σ) rfl 2 (by decide) (hts _ gw212) (fun _ h9 => h9) rfl d_Rd_passBlanks_15 ?_
    refine va_get (D := D) (ci := 1) (C := R_Tx) (T := T_Tx) (N := 2) hx hb hts in_Tx hown hK hst.1 23 (WS_o23 g σ) rfl 0 (by decide) (hts _ gw107) (fun _ h9 => h9) rfl d_Rd_passBlanks_18 ?_
    refine lv_aload_n hx hb d_Rd_passBlanks_21 rfl (lv_at hl 0 rfl) ?_
    refine va_get (D := D) (ci := 2) (C := R_Rd) (T := T_Rd) (N := 5) hx hb hts in_Rd hown hK hst.1 25 (WS_o25 g σ) rfl 4 (by decide) (hts _ gw214) (fun _ h9 => h9) rfl d_Rd_passBlanks_22 ?_
    obtain ⟨hi, h⟩ := h
    refine va_cald hx hb hK hst.1 24 1 (WS_a24 g σ) rfl hi d_Rd_passBlanks_25 ?_
    refine lv_bipush (v := (32 : Int32)) hx hb d_Rd_passBlanks_26 (by decide) ?_
    refine lv_icmp_ne (tgt := 44) hx hb d_Rd_passBlanks_28 (by decide) (fun hc => ?_) (fun hc => ?_)
    · replace h := h.1 hc
      exact kw_vret hx hb hr hlocks hst h d_Rd_passBlanks_44
    · replace h := h.2 hc
      refine lv_aload_n hx hb d_Rd_passBlanks_31 rfl (lv_at hl 0 rfl) ?_
      refine lv_dup hx hb d_Rd_passBlanks_32 rfl ?_
      refine va_get (D := D) (ci := 2) (C := R_Rd) (T := T_Rd) (N := 5) hx hb hts in_Rd hown hK hst.1 25 (WS_o25 g σ) rfl 4 (by decide) (hts _ gw214) (fun _ h9 => h9) rfl d_Rd_passBlanks_33 ?_
      refine lv_iconst (v := (1 : Int32)) hx hb d_Rd_passBlanks_36 (by decide) ?_
      refine lv_iadd hx hb d_Rd_passBlanks_37 ?_
      refine kw_put (D := D) (ci := 2) (ty := .int) (C := R_Rd) (T := T_Rd) (N := 5) hx hb hts in_Rd ty_Rd ty_Rd_ok nm_Rd hown hK hst 25 (WS_o25 g σ) rfl 4 (by decide) (hts _ gw214) (fun _ h9 => h9) rfl (by decide +kernel) rfl rfl (Nat.le_of_ble_eq_true rfl) (WS_p25_4 g σ _) d_Rd_passBlanks_38 (fun σ1 H locs e1 hst => ?_)
      replace h := h σ1 e1
      refine lv_goto (tgt := 0) hx hb d_Rd_passBlanks_41 (by decide) ?_
      exact j1 σ1 _ _ _ (lv_sub hl [0] rfl) hst h
set_option maxRecDepth 100000 in
set_option maxHeartbeats 4000000 in
theorem a_Rd_passBlanks_13 {p : Program} {l : Launch} {e : Env} {s : State} {m : MethodId} {args : Array Value} {below : List Frame} {meth : Method} {c : Code} {D : va_G} {g : Gm} {A : Nat → Prop} {post : Sg → Prop} (C : kC p s m args meth c k_Rd_passBlanks 1 (none) GW R_Rd D vwCl g (Zk g) A) : ∀ n : Nat, J_Rd_passBlanks_13_1 p l e s m args below meth c D g A post (wp_Rd_passBlanks 13 post n) := by
  intro n
  induction n with
  | zero => exact fun _ _ _ _ _ _ h => h.elim
  | succ n ih => exact fun σ H locs ls hl hst h => b_Rd_passBlanks_13_1 (F := wp_Rd_passBlanks 13 post n) C (ih) σ H locs ls hl hst h
set_option maxRecDepth 100000 in
set_option maxHeartbeats 4000000 in
theorem c_Rd_passBlanks_13 (l : Launch) {D : va_G} {g : Gm} {sz : Nat} {σ : Sg} {post : Sg → Prop} (h : wq_Rd_passBlanks 13 σ post) : Met l y_Rd_passBlanks (.code y_Rd_passBlanks k_Rd_passBlanks 1 (none) :: GW) { frames := 0, cells := 0, slots := 0, locals := 0 } (PcW D vwCl (WS g) g (Zk g) σ sz [.ref (g.1 25)]) (QvW D vwCl (WS g) post (va_A (WS g σ) sz)) 0 0 (va_A (WS g σ) sz) := by
  refine kw_entry (own := R_Rd) (by decide) rfl rfl (Nat.le_of_ble_eq_true rfl) ?_
  intro p e s m below meth c ls hsz C hin hl hst
  obtain ⟨n, h⟩ := h
  cases n with
  | zero => exact h.elim
  | succ n =>
    have ih := a_Rd_passBlanks_13 (l := l) (e := e) (below := below) (post := post) C n
    exact b_Rd_passBlanks_13_0 (F := wp_Rd_passBlanks 13 post n) C (ih) σ _ _ ls hl hst h
/-! SchemaDesk$Reader.opens (C)Z -/
abbrev k_Rd_opens : ByteArray := prog_5_method_13_code
abbrev y_Rd_opens : MethodName := ⟨"SchemaDesk$Reader", "opens", "(C)Z"⟩
theorem d_Rd_opens_0 : decode k_Rd_opens 0 = .ok (.iload_n 0, 1) := by decide +kernel
theorem d_Rd_opens_1 : decode k_Rd_opens 1 = .ok (.bipush 123, 2) := by decide +kernel
theorem d_Rd_opens_3 : decode k_Rd_opens 3 = .ok (.if_icmp .eq 9, 3) := by decide +kernel
theorem d_Rd_opens_6 : decode k_Rd_opens 6 = .ok (.iload_n 0, 1) := by decide +kernel
theorem d_Rd_opens_7 : decode k_Rd_opens 7 = .ok (.bipush 91, 2) := by decide +kernel
theorem d_Rd_opens_9 : decode k_Rd_opens 9 = .ok (.if_icmp .ne 7, 3) := by decide +kernel
theorem d_Rd_opens_12 : decode k_Rd_opens 12 = .ok (.iconst 1, 1) := by decide +kernel
theorem d_Rd_opens_13 : decode k_Rd_opens 13 = .ok (.goto 4, 3) := by decide +kernel
theorem d_Rd_opens_16 : decode k_Rd_opens 16 = .ok (.iconst 0, 1) := by decide +kernel
theorem d_Rd_opens_17 : decode k_Rd_opens 17 = .ok (.ireturn, 1) := by decide +kernel
def wq_Rd_opens (x0 : Int32) (σ : Sg) (post : Int32 → Sg → Prop) : Prop := ((x0 = (123 : Int32) → (narrow .boolean (.int (1 : Int32)) = .int (1 : Int32) ∧ post (1 : Int32) σ)) ∧ (¬ x0 = (123 : Int32) → ((¬ x0 = (91 : Int32) → (narrow .boolean (.int (0 : Int32)) = .int (0 : Int32) ∧ post (0 : Int32) σ)) ∧ (x0 = (91 : Int32) → (narrow .boolean (.int (1 : Int32)) = .int (1 : Int32) ∧ post (1 : Int32) σ)))))
set_option maxRecDepth 100000 in
set_option maxHeartbeats 4000000 in
theorem b_Rd_opens_0 {p : Program} {l : Launch} {e : Env} {s : State} {m : MethodId} {args : Array Value} {below : List Frame} {meth : Method} {c : Code} {D : va_G} {g : Gm} {A : Nat → Prop} {post : Int32 → Sg → Prop} (C : kC p s m args meth c k_Rd_opens 1 (some .boolean) GW R_Rd D vwCl g (Zk g) A) (x0 : Int32) (σ : Sg) (H : Heap) (locs : List Loc) (ls : Array Slot) (hl : lv_has ls 1 [(0, .int x0)]) (hst : Wst D vwCl (WS g) A s σ H locs) (h : wq_Rd_opens x0 σ post) : W p l e { frames := 0, cells := 0, slots := 0, locals := 0 } s m args below meth c H locs 0 0 (MQ below (QiW D vwCl (WS g) post A) args s 0 0 A) (F0 m 0 ls []) := by
  obtain ⟨hx, hb, hr, hml, hown, hts, hlocks, hK, hZ, hA⟩ := C
  unfold wq_Rd_opens at h
  refine lv_iload_n hx hb d_Rd_opens_0 rfl (lv_at hl 0 rfl) ?_
  refine lv_bipush (v := (123 : Int32)) hx hb d_Rd_opens_1 (by decide) ?_
  refine lv_icmp_eq (tgt := 12) hx hb d_Rd_opens_3 (by decide) (fun hc => ?_) (fun hc => ?_)
  · replace h := h.1 hc
    refine lv_iconst (v := (1 : Int32)) hx hb d_Rd_opens_12 (by decide) ?_
    refine lv_goto (tgt := 17) hx hb d_Rd_opens_13 (by decide) ?_
    exact kw_zret hx hb hr hlocks hst h d_Rd_opens_17
  · replace h := h.2 hc
    refine lv_iload_n hx hb d_Rd_opens_6 rfl (lv_at hl 0 rfl) ?_
    refine lv_bipush (v := (91 : Int32)) hx hb d_Rd_opens_7 (by decide) ?_
    refine lv_icmp_ne (tgt := 16) hx hb d_Rd_opens_9 (by decide) (fun hc => ?_) (fun hc => ?_)
    · replace h := h.1 hc
      refine lv_iconst (v := (0 : Int32)) hx hb d_Rd_opens_16 (by decide) ?_
      exact kw_zret hx hb hr hlocks hst h d_Rd_opens_17
    · replace h := h.2 hc
      refine lv_iconst (v := (1 : Int32)) hx hb d_Rd_opens_12 (by decide) ?_
      refine lv_goto (tgt := 17) hx hb d_Rd_opens_13 (by decide) ?_
      exact kw_zret hx hb hr hlocks hst h d_Rd_opens_17
set_option maxRecDepth 100000 in
set_option maxHeartbeats 4000000 in
theorem c_Rd_opens (l : Launch) {D : va_G} {g : Gm} {sz : Nat} (x0 : Int32) {σ : Sg} {post : Int32 → Sg → Prop} (h : wq_Rd_opens x0 σ post) : Met l y_Rd_opens (.code y_Rd_opens k_Rd_opens 1 (some .boolean) :: GW) { frames := 0, cells := 0, slots := 0, locals := 0 } (PcW D vwCl (WS g) g (Zk g) σ sz [.int x0]) (QiW D vwCl (WS g) post (va_A (WS g σ) sz)) 0 0 (va_A (WS g σ) sz) := by
  refine kw_entry (own := R_Rd) (by decide) rfl rfl (Nat.le_of_ble_eq_true rfl) ?_
  intro p e s m below meth c ls hsz C hin hl hst
  exact b_Rd_opens_0 C x0 σ _ _ ls hl hst h
/-! SchemaDesk$Reader.isDigit (C)Z -/
abbrev k_Rd_isDigit : ByteArray := prog_5_method_14_code
abbrev y_Rd_isDigit : MethodName := ⟨"SchemaDesk$Reader", "isDigit", "(C)Z"⟩
theorem d_Rd_isDigit_0 : decode k_Rd_isDigit 0 = .ok (.iload_n 0, 1) := by decide +kernel
theorem d_Rd_isDigit_1 : decode k_Rd_isDigit 1 = .ok (.bipush 48, 2) := by decide +kernel
theorem d_Rd_isDigit_3 : decode k_Rd_isDigit 3 = .ok (.if_icmp .lt 13, 3) := by decide +kernel
theorem d_Rd_isDigit_6 : decode k_Rd_isDigit 6 = .ok (.iload_n 0, 1) := by decide +kernel
theorem d_Rd_isDigit_7 : decode k_Rd_isDigit 7 = .ok (.bipush 57, 2) := by decide +kernel
theorem d_Rd_isDigit_9 : decode k_Rd_isDigit 9 = .ok (.if_icmp .gt 7, 3) := by decide +kernel
theorem d_Rd_isDigit_12 : decode k_Rd_isDigit 12 = .ok (.iconst 1, 1) := by decide +kernel
theorem d_Rd_isDigit_13 : decode k_Rd_isDigit 13 = .ok (.goto 4, 3) := by decide +kernel
theorem d_Rd_isDigit_16 : decode k_Rd_isDigit 16 = .ok (.iconst 0, 1) := by decide +kernel
theorem d_Rd_isDigit_17 : decode k_Rd_isDigit 17 = .ok (.ireturn, 1) := by decide +kernel
def wq_Rd_isDigit (x0 : Int32) (σ : Sg) (post : Int32 → Sg → Prop) : Prop := ((x0 < (48 : Int32) → (narrow .boolean (.int (0 : Int32)) = .int (0 : Int32) ∧ post (0 : Int32) σ)) ∧ (¬ x0 < (48 : Int32) → (((57 : Int32) < x0 → (narrow .boolean (.int (0 : Int32)) = .int (0 : Int32) ∧ post (0 : Int32) σ)) ∧ (¬ (57 : Int32) < x0 → (narrow .boolean (.int (1 : Int32)) = .int (1 : Int32) ∧ post (1 : Int32) σ)))))
set_option maxRecDepth 100000 in
set_option maxHeartbeats 4000000 in
theorem b_Rd_isDigit_0 {p : Program} {l : Launch} {e : Env} {s : State} {m : MethodId} {args : Array Value} {below : List Frame} {meth : Method} {c : Code} {D : va_G} {g : Gm} {A : Nat → Prop} {post : Int32 → Sg → Prop} (C : kC p s m args meth c k_Rd_isDigit 1 (some .boolean) GW R_Rd D vwCl g (Zk g) A) (x0 : Int32) (σ : Sg) (H : Heap) (locs : List Loc) (ls : Array Slot) (hl : lv_has ls 1 [(0, .int x0)]) (hst : Wst D vwCl (WS g) A s σ H locs) (h : wq_Rd_isDigit x0 σ post) : W p l e { frames := 0, cells := 0, slots := 0, locals := 0 } s m args below meth c H locs 0 0 (MQ below (QiW D vwCl (WS g) post A) args s 0 0 A) (F0 m 0 ls []) := by
  obtain ⟨hx, hb, hr, hml, hown, hts, hlocks, hK, hZ, hA⟩ := C
  unfold wq_Rd_isDigit at h
  refine lv_iload_n hx hb d_Rd_isDigit_0 rfl (lv_at hl 0 rfl) ?_
  refine lv_bipush (v := (48 : Int32)) hx hb d_Rd_isDigit_1 (by decide) ?_
  refine lv_icmp_lt (tgt := 16) hx hb d_Rd_isDigit_3 (by decide) (fun hc => ?_) (fun hc => ?_)
  · replace h := h.1 hc
    refine lv_iconst (v := (0 : Int32)) hx hb d_Rd_isDigit_16 (by decide) ?_
    exact kw_zret hx hb hr hlocks hst h d_Rd_isDigit_17
  · replace h := h.2 hc
    refine lv_iload_n hx hb d_Rd_isDigit_6 rfl (lv_at hl 0 rfl) ?_
    refine lv_bipush (v := (57 : Int32)) hx hb d_Rd_isDigit_7 (by decide) ?_
    refine lv_icmp_gt (tgt := 16) hx hb d_Rd_isDigit_9 (by decide) (fun hc => ?_) (fun hc => ?_)
    · replace h := h.1 hc
      refine lv_iconst (v := (0 : Int32)) hx hb d_Rd_isDigit_16 (by decide) ?_
      exact kw_zret hx hb hr hlocks hst h d_Rd_isDigit_17
    · replace h := h.2 hc
      refine lv_iconst (v := (1 : Int32)) hx hb d_Rd_isDigit_12 (by decide) ?_
      refine lv_goto (tgt := 17) hx hb d_Rd_isDigit_13 (by decide) ?_
      exact kw_zret hx hb hr hlocks hst h d_Rd_isDigit_17
set_option maxRecDepth 100000 in
set_option maxHeartbeats 4000000 in
theorem c_Rd_isDigit (l : Launch) {D : va_G} {g : Gm} {sz : Nat} (x0 : Int32) {σ : Sg} {post : Int32 → Sg → Prop} (h : wq_Rd_isDigit x0 σ post) : Met l y_Rd_isDigit (.code y_Rd_isDigit k_Rd_isDigit 1 (some .boolean) :: GW) { frames := 0, cells := 0, slots := 0, locals := 0 } (PcW D vwCl (WS g) g (Zk g) σ sz [.int x0]) (QiW D vwCl (WS g) post (va_A (WS g σ) sz)) 0 0 (va_A (WS g σ) sz) := by
  refine kw_entry (own := R_Rd) (by decide) rfl rfl (Nat.le_of_ble_eq_true rfl) ?_
  intro p e s m below meth c ls hsz C hin hl hst
  exact b_Rd_isDigit_0 C x0 σ _ _ ls hl hst h
/-! SchemaDesk$Reader.isLowerLetter (C)Z -/
abbrev k_Rd_isLowerLetter : ByteArray := prog_5_method_15_code
abbrev y_Rd_isLowerLetter : MethodName := ⟨"SchemaDesk$Reader", "isLowerLetter", "(C)Z"⟩
theorem d_Rd_isLowerLetter_0 : decode k_Rd_isLowerLetter 0 = .ok (.iload_n 0, 1) := by decide +kernel
theorem d_Rd_isLowerLetter_1 : decode k_Rd_isLowerLetter 1 = .ok (.bipush 97, 2) := by decide +kernel
theorem d_Rd_isLowerLetter_3 : decode k_Rd_isLowerLetter 3 = .ok (.if_icmp .lt 13, 3) := by decide +kernel
theorem d_Rd_isLowerLetter_6 : decode k_Rd_isLowerLetter 6 = .ok (.iload_n 0, 1) := by decide +kernel
theorem d_Rd_isLowerLetter_7 : decode k_Rd_isLowerLetter 7 = .ok (.bipush 122, 2) := by decide +kernel
theorem d_Rd_isLowerLetter_9 : decode k_Rd_isLowerLetter 9 = .ok (.if_icmp .gt 7, 3) := by decide +kernel
theorem d_Rd_isLowerLetter_12 : decode k_Rd_isLowerLetter 12 = .ok (.iconst 1, 1) := by decide +kernel
theorem d_Rd_isLowerLetter_13 : decode k_Rd_isLowerLetter 13 = .ok (.goto 4, 3) := by decide +kernel
theorem d_Rd_isLowerLetter_16 : decode k_Rd_isLowerLetter 16 = .ok (.iconst 0, 1) := by decide +kernel
theorem d_Rd_isLowerLetter_17 : decode k_Rd_isLowerLetter 17 = .ok (.ireturn, 1) := by decide +kernel
def wq_Rd_isLowerLetter (x0 : Int32) (σ : Sg) (post : Int32 → Sg → Prop) : Prop := ((x0 < (97 : Int32) → (narrow .boolean (.int (0 : Int32)) = .int (0 : Int32) ∧ post (0 : Int32) σ)) ∧ (¬ x0 < (97 : Int32) → (((122 : Int32) < x0 → (narrow .boolean (.int (0 : Int32)) = .int (0 : Int32) ∧ post (0 : Int32) σ)) ∧ (¬ (122 : Int32) < x0 → (narrow .boolean (.int (1 : Int32)) = .int (1 : Int32) ∧ post (1 : Int32) σ)))))
set_option maxRecDepth 100000 in
set_option maxHeartbeats 4000000 in
theorem b_Rd_isLowerLetter_0 {p : Program} {l : Launch} {e : Env} {s : State} {m : MethodId} {args : Array Value} {below : List Frame} {meth : Method} {c : Code} {D : va_G} {g : Gm} {A : Nat → Prop} {post : Int32 → Sg → Prop} (C : kC p s m args meth c k_Rd_isLowerLetter 1 (some .boolean) GW R_Rd D vwCl g (Zk g) A) (x0 : Int32) (σ : Sg) (H : Heap) (locs : List Loc) (ls : Array Slot) (hl : lv_has ls 1 [(0, .int x0)]) (hst : Wst D vwCl (WS g) A s σ H locs) (h : wq_Rd_isLowerLetter x0 σ post) : W p l e { frames := 0, cells := 0, slots := 0, locals := 0 } s m args below meth c H locs 0 0 (MQ below (QiW D vwCl (WS g) post A) args s 0 0 A) (F0 m 0 ls []) := by
  obtain ⟨hx, hb, hr, hml, hown, hts, hlocks, hK, hZ, hA⟩ := C
  unfold wq_Rd_isLowerLetter at h
  refine lv_iload_n hx hb d_Rd_isLowerLetter_0 rfl (lv_at hl 0 rfl) ?_
  refine lv_bipush (v := (97 : Int32)) hx hb d_Rd_isLowerLetter_1 (by decide) ?_
  refine lv_icmp_lt (tgt := 16) hx hb d_Rd_isLowerLetter_3 (by decide) (fun hc => ?_) (fun hc => ?_)
  · replace h := h.1 hc
    refine lv_iconst (v := (0 : Int32)) hx hb d_Rd_isLowerLetter_16 (by decide) ?_
    exact kw_zret hx hb hr hlocks hst h d_Rd_isLowerLetter_17
  · replace h := h.2 hc
    refine lv_iload_n hx hb d_Rd_isLowerLetter_6 rfl (lv_at hl 0 rfl) ?_
    refine lv_bipush (v := (122 : Int32)) hx hb d_Rd_isLowerLetter_7 (by decide) ?_
    refine lv_icmp_gt (tgt := 16) hx hb d_Rd_isLowerLetter_9 (by decide) (fun hc => ?_) (fun hc => ?_)
    · replace h := h.1 hc
      refine lv_iconst (v := (0 : Int32)) hx hb d_Rd_isLowerLetter_16 (by decide) ?_
      exact kw_zret hx hb hr hlocks hst h d_Rd_isLowerLetter_17
    · replace h := h.2 hc
      refine lv_iconst (v := (1 : Int32)) hx hb d_Rd_isLowerLetter_12 (by decide) ?_
      refine lv_goto (tgt := 17) hx hb d_Rd_isLowerLetter_13 (by decide) ?_
      exact kw_zret hx hb hr hlocks hst h d_Rd_isLowerLetter_17
set_option maxRecDepth 100000 in
set_option maxHeartbeats 4000000 in
theorem c_Rd_isLowerLetter (l : Launch) {D : va_G} {g : Gm} {sz : Nat} (x0 : Int32) {σ : Sg} {post : Int32 → Sg → Prop} (h : wq_Rd_isLowerLetter x0 σ post) : Met l y_Rd_isLowerLetter (.code y_Rd_isLowerLetter k_Rd_isLowerLetter 1 (some .boolean) :: GW) { frames := 0, cells := 0, slots := 0, locals := 0 } (PcW D vwCl (WS g) g (Zk g) σ sz [.int x0]) (QiW D vwCl (WS g) post (va_A (WS g σ) sz)) 0 0 (va_A (WS g σ) sz) := by
  refine kw_entry (own := R_Rd) (by decide) rfl rfl (Nat.le_of_ble_eq_true rfl) ?_
  intro p e s m below meth c ls hsz C hin hl hst
  exact b_Rd_isLowerLetter_0 C x0 σ _ _ ls hl hst h
/-! SchemaDesk$Reader.valueBegins (I)Z -/
abbrev k_Rd_valueBegins : ByteArray := prog_5_method_4_code
abbrev y_Rd_valueBegins : MethodName := ⟨"SchemaDesk$Reader", "valueBegins", "(I)Z"⟩
theorem d_Rd_valueBegins_0 : decode k_Rd_valueBegins 0 = .ok (.aload_n 0, 1) := by decide +kernel
theorem d_Rd_valueBegins_1 : decode k_Rd_valueBegins 1 = .ok (.getfield 33, 3) := by decide +kernel
theorem d_Rd_valueBegins_4 : decode k_Rd_valueBegins 4 = .ok (.aload_n 0, 1) := by decide +kernel
theorem d_Rd_valueBegins_5 : decode k_Rd_valueBegins 5 = .ok (.getfield 21, 3) := by decide +kernel
theorem d_Rd_valueBegins_8 : decode k_Rd_valueBegins 8 = .ok (.getfield 40, 3) := by decide +kernel
theorem d_Rd_valueBegins_11 : decode k_Rd_valueBegins 11 = .ok (.if_icmp .lt 5, 3) := by decide +kernel
theorem d_Rd_valueBegins_14 : decode k_Rd_valueBegins 14 = .ok (.iconst 0, 1) := by decide +kernel
theorem d_Rd_valueBegins_15 : decode k_Rd_valueBegins 15 = .ok (.ireturn, 1) := by decide +kernel
theorem d_Rd_valueBegins_16 : decode k_Rd_valueBegins 16 = .ok (.aload_n 0, 1) := by decide +kernel
theorem d_Rd_valueBegins_17 : decode k_Rd_valueBegins 17 = .ok (.getfield 21, 3) := by decide +kernel
theorem d_Rd_valueBegins_20 : decode k_Rd_valueBegins 20 = .ok (.getfield 61, 3) := by decide +kernel
theorem d_Rd_valueBegins_23 : decode k_Rd_valueBegins 23 = .ok (.aload_n 0, 1) := by decide +kernel
theorem d_Rd_valueBegins_24 : decode k_Rd_valueBegins 24 = .ok (.getfield 33, 3) := by decide +kernel
theorem d_Rd_valueBegins_27 : decode k_Rd_valueBegins 27 = .ok (.caload, 1) := by decide +kernel
theorem d_Rd_valueBegins_28 : decode k_Rd_valueBegins 28 = .ok (.istore_n 2, 1) := by decide +kernel
theorem d_Rd_valueBegins_29 : decode k_Rd_valueBegins 29 = .ok (.iload_n 2, 1) := by decide +kernel
theorem d_Rd_valueBegins_30 : decode k_Rd_valueBegins 30 = .ok (.invokestatic 65, 3) := by decide +kernel
theorem d_Rd_valueBegins_33 : decode k_Rd_valueBegins 33 = .ok (.ifCond .eq 15, 3) := by decide +kernel
theorem d_Rd_valueBegins_36 : decode k_Rd_valueBegins 36 = .ok (.iload_n 1, 1) := by decide +kernel
theorem d_Rd_valueBegins_37 : decode k_Rd_valueBegins 37 = .ok (.bipush 8, 2) := by decide +kernel
theorem d_Rd_valueBegins_39 : decode k_Rd_valueBegins 39 = .ok (.if_icmp .ge 7, 3) := by decide +kernel
theorem d_Rd_valueBegins_42 : decode k_Rd_valueBegins 42 = .ok (.iconst 1, 1) := by decide +kernel
theorem d_Rd_valueBegins_43 : decode k_Rd_valueBegins 43 = .ok (.goto 4, 3) := by decide +kernel
theorem d_Rd_valueBegins_46 : decode k_Rd_valueBegins 46 = .ok (.iconst 0, 1) := by decide +kernel
theorem d_Rd_valueBegins_47 : decode k_Rd_valueBegins 47 = .ok (.ireturn, 1) := by decide +kernel
theorem d_Rd_valueBegins_48 : decode k_Rd_valueBegins 48 = .ok (.iload_n 2, 1) := by decide +kernel
theorem d_Rd_valueBegins_49 : decode k_Rd_valueBegins 49 = .ok (.bipush 34, 2) := by decide +kernel
theorem d_Rd_valueBegins_51 : decode k_Rd_valueBegins 51 = .ok (.if_icmp .eq 23, 3) := by decide +kernel
theorem d_Rd_valueBegins_54 : decode k_Rd_valueBegins 54 = .ok (.iload_n 2, 1) := by decide +kernel
theorem d_Rd_valueBegins_55 : decode k_Rd_valueBegins 55 = .ok (.bipush 45, 2) := by decide +kernel
theorem d_Rd_valueBegins_57 : decode k_Rd_valueBegins 57 = .ok (.if_icmp .eq 17, 3) := by decide +kernel
theorem d_Rd_valueBegins_60 : decode k_Rd_valueBegins 60 = .ok (.iload_n 2, 1) := by decide +kernel
theorem d_Rd_valueBegins_61 : decode k_Rd_valueBegins 61 = .ok (.invokestatic 69, 3) := by decide +kernel
theorem d_Rd_valueBegins_64 : decode k_Rd_valueBegins 64 = .ok (.ifCond .ne 10, 3) := by decide +kernel
theorem d_Rd_valueBegins_67 : decode k_Rd_valueBegins 67 = .ok (.iload_n 2, 1) := by decide +kernel
theorem d_Rd_valueBegins_68 : decode k_Rd_valueBegins 68 = .ok (.invokestatic 72, 3) := by decide +kernel
theorem d_Rd_valueBegins_71 : decode k_Rd_valueBegins 71 = .ok (.ifCond .eq 7, 3) := by decide +kernel
theorem d_Rd_valueBegins_74 : decode k_Rd_valueBegins 74 = .ok (.iconst 1, 1) := by decide +kernel
theorem d_Rd_valueBegins_75 : decode k_Rd_valueBegins 75 = .ok (.goto 4, 3) := by decide +kernel
theorem d_Rd_valueBegins_78 : decode k_Rd_valueBegins 78 = .ok (.iconst 0, 1) := by decide +kernel
theorem d_Rd_valueBegins_79 : decode k_Rd_valueBegins 79 = .ok (.ireturn, 1) := by decide +kernel
theorem gw625 : (Jvm.Cond.methodLink "SchemaDesk$Reader" (65 : Nat) ({ cls := "SchemaDesk$Reader", name := "opens", desc := "(C)Z" } : Jvm.MethodName)) ∈ GW := gw_t3 (List.mem_of_getElem? (i := 145) rfl) rfl
theorem gw626 : (Jvm.Cond.static ({ cls := "SchemaDesk$Reader", name := "opens", desc := "(C)Z" } : Jvm.MethodName)) ∈ GW := gw_t3 (List.mem_of_getElem? (i := 146) rfl) rfl
theorem gw9 : (Jvm.Cond.initialized "SchemaDesk$Reader") ∈ GW := gw_t1 (List.mem_of_getElem? (i := 9) rfl) rfl
theorem gw627 : (Jvm.Cond.code ({ cls := "SchemaDesk$Reader", name := "opens", desc := "(C)Z" } : Jvm.MethodName) prog_5_method_13_code (1 : Nat) (Option.some Jvm.ClassFile.FieldType.boolean)) ∈ GW := gw_t3 (List.mem_of_getElem? (i := 147) rfl) rfl
theorem gw628 : (Jvm.Cond.methodLink "SchemaDesk$Reader" (69 : Nat) ({ cls := "SchemaDesk$Reader", name := "isDigit", desc := "(C)Z" } : Jvm.MethodName)) ∈ GW := gw_t3 (List.mem_of_getElem? (i := 148) rfl) rfl
theorem gw629 : (Jvm.Cond.static ({ cls := "SchemaDesk$Reader", name := "isDigit", desc := "(C)Z" } : Jvm.MethodName)) ∈ GW := gw_t3 (List.mem_of_getElem? (i := 149) rfl) rfl
theorem gw630 : (Jvm.Cond.code ({ cls := "SchemaDesk$Reader", name := "isDigit", desc := "(C)Z" } : Jvm.MethodName) prog_5_method_14_code (1 : Nat) (Option.some Jvm.ClassFile.FieldType.boolean)) ∈ GW := gw_t3 (List.mem_of_getElem? (i := 150) rfl) rfl
theorem gw631 : (Jvm.Cond.methodLink "SchemaDesk$Reader" (72 : Nat) ({ cls := "SchemaDesk$Reader", name := "isLowerLetter", desc := "(C)Z" } : Jvm.MethodName)) ∈ GW := gw_t3 (List.mem_of_getElem? (i := 151) rfl) rfl
theorem gw632 : (Jvm.Cond.static ({ cls := "SchemaDesk$Reader", name := "isLowerLetter", desc := "(C)Z" } : Jvm.MethodName)) ∈ GW := gw_t3 (List.mem_of_getElem? (i := 152) rfl) rfl
theorem gw633 : (Jvm.Cond.code ({ cls := "SchemaDesk$Reader", name := "isLowerLetter", desc := "(C)Z" } : Jvm.MethodName) prog_5_method_15_code (1 : Nat) (Option.some Jvm.ClassFile.FieldType.boolean)) ∈ GW := gw_t3 (List.mem_of_getElem? (i := 153) rfl) rfl
def wq_Rd_valueBegins (b : Nat) (x1 : Int32) (σ : Sg) (post : Int32 → Sg → Prop) : Prop := (((σ.1 (b + 12) 4) < (σ.1 (b + 10) 1) → (vp_in (σ.1 (b + 12) 4) (tl b) ∧ (wq_Rd_opens (σ.1 (b + 11) ((σ.1 (b + 12) 4) : Int32).toNatClampNeg) σ (fun r1 σ1 => ((r1 = 0 → (((σ.1 (b + 11) ((σ.1 (b + 12) 4) : Int32).toNatClampNeg) = (34 : Int32) → (narrow .boolean (.int (1 : Int32)) = .int (1 : Int32) ∧ post (1 : Int32) σ1)) ∧ (¬ (σ.1 (b + 11) ((σ.1 (b + 12) 4) : Int32).toNatClampNeg) = (34 : Int32) → (((σ.1 (b + 11) ((σ.1 (b + 12) 4) : Int32).toNatClampNeg) = (45 : Int32) → (narrow .boolean (.int (1 : Int32)) = .int (1 : Int32) ∧ post (1 : Int32) σ1)) ∧ (¬ (σ.1 (b + 11) ((σ.1 (b + 12) 4) : Int32).toNatClampNeg) = (45 : Int32) → (wq_Rd_isDigit (σ.1 (b + 11) ((σ.1 (b + 12) 4) : Int32).toNatClampNeg) σ1 (fun r2 σ2 => ((¬ r2 = 0 → (narrow .boolean (.int (1 : Int32)) = .int (1 : Int32) ∧ post (1 : Int32) σ2)) ∧ (r2 = 0 → (wq_Rd_isLowerLetter (σ.1 (b + 11) ((σ.1 (b + 12) 4) : Int32).toNatClampNeg) σ2 (fun r3 σ3 => ((r3 = 0 → (narrow .boolean (.int (0 : Int32)) = .int (0 : Int32) ∧ post (0 : Int32) σ3)) ∧ (¬ r3 = 0 → (narrow .boolean (.int (1 : Int32)) = .int (1 : Int32) ∧ post (1 : Int32) σ3)))))))))))))) ∧ (¬ r1 = 0 → (((8 : Int32) ≤ x1 → (narrow .boolean (.int (0 : Int32)) = .int (0 : Int32) ∧ post (0 : Int32) σ1)) ∧ (¬ (8 : Int32) ≤ x1 → (narrow .boolean (.int (1 : Int32)) = .int (1 : Int32) ∧ post (1 : Int32) σ1))))))))) ∧ (¬ (σ.1 (b + 12) 4) < (σ.1 (b + 10) 1) → (narrow .boolean (.int (0 : Int32)) = .int (0 : Int32) ∧ post (0 : Int32) σ)))
set_option maxRecDepth 100000 in
set_option maxHeartbeats 4000000 in
theorem b_Rd_valueBegins_0_0 {p : Program} {l : Launch} {e : Env} {s : State} {m : MethodId} {args : Array Value} {below : List Frame} {meth : Method} {c : Code} {D : va_G} {g : Gm} {A : Nat → Prop} {post : Int32 → Sg → Prop} (C : kC p s m args meth c k_Rd_valueBegins 3 (some .boolean) GW R_Rd D vwCl g (Zk g) A) (x1 : Int32) (σ : Sg) (H : Heap) (locs : List Loc) (ls : Array Slot) (hl : lv_has ls 3 [(0, .ref (g.1 12)), (1, .int x1)]) (hst : Wst D vwCl (WS g) A s σ H locs) (h : wq_Rd_valueBegins 0 x1 σ post) : W p l e { frames := 1, cells := 0, slots := 0, locals := 20 } s m args below meth c H locs 0 0 (MQ below (QiW D vwCl (WS g) post A) args s 0 0 A) (F0 m 0 ls []) := by
  obtain ⟨hx, hb, hr, hml, hown, hts, hlocks, hK, hZ, hA⟩ := C
  unfold wq_Rd_valueBegins at h
  refine lv_aload_n hx hb d_Rd_valueBegins_0 rfl (lv_at hl 0 rfl) ?_
  refine va_get (D := D) (ci := 2) (C := R_Rd) (T := T_Rd) (N := 5) hx hb hts in_Rd hown hK hst.1 12 (WS_o12 g σ) rfl 4 (by decide) (hts _ gw214) (fun _ h9 => h9) rfl d_Rd_valueBegins_1 ?_
  refine lv_aload_n hx hb d_Rd_valueBegins_4 rfl (lv_at hl 0 rfl) ?_
  refine va_get (D := D) (ci := 2) (C := R_Rd) (T := T_Rd) (N := 5) hx hb hts in_Rd hown hK hst.1 12 (WS_o12 g σ) rfl 2 (by decide) (hts _ gw212) (fun _ h9 => h9) rfl d_Rd_valueBegins_5 ?_
  refine va_get (D := D) (ci := 1) (C := R_Tx) (T := T_Tx) (N := 2) hx hb hts in_Tx hown hK hst.1 10 (WS_o10 g σ) rfl 1 (by decide) (hts _ gw114) (fun _ h9 => h9) rfl d_Rd_valueBegins_8 ?_
  refine lv_icmp_lt (tgt := 16) hx hb d_Rd_valueBegins_11 (by decide) (fun hc => ?_) (fun hc => ?_)
  · replace h := h.1 hc
    refine lv_aload_n hx hb d_Rd_valueBegins_16 rfl (lv_at hl 0 rfl) ?_
    refine va_get (D := D) (ci := 2) (C := R_Rd) (T := T_Rd) (N := 5) hx hb hts in_Rd hown hK hst.1 12 (WS_o12 g σ) rfl 2 (by decide) (hts _ gw212) (fun _ h9 => h9) rfl d_Rd_valueBegins_17 ?_
    refine va_get (D := D) (ci := 1) (C := R_Tx) (T := T_Tx) (N := 2) hx hb hts in_Tx hown hK hst.1 10 (WS_o10 g σ) rfl 0 (by decide) (hts _ gw107) (fun _ h9 => h9) rfl d_Rd_valueBegins_20 ?_
    refine lv_aload_n hx hb d_Rd_valueBegins_23 rfl (lv_at hl 0 rfl) ?_
    refine va_get (D := D) (ci := 2) (C := R_Rd) (T := T_Rd) (N := 5) hx hb hts in_Rd hown hK hst.1 12 (WS_o12 g σ) rfl 4 (by decide) (hts _ gw214) (fun _ h9 => h9) rfl d_Rd_valueBegins_24 ?_
    obtain ⟨hi, h⟩ := h
    refine va_cald hx hb hK hst.1 11 1 (WS_a11 g σ) rfl hi d_Rd_valueBegins_27 ?_
    refine lv_istore_n hx hb d_Rd_valueBegins_28 rfl hl (by decide) rfl (fun ls hl => ?_)
    have hl : lv_has ls 3 [(2, .int (σ.1 11 ((σ.1 12 4) : Int32).toNatClampNeg)), (0, .ref (g.1 12)), (1, .int x1)] := hl
    refine lv_iload_n hx hb d_Rd_valueBegins_29 rfl (lv_at hl 0 rfl) ?_
    refine kw_calli (va_runS (As := [.int (σ.1 11 ((σ.1 12 4) : Int32).toNatClampNeg)]) (rest := []) ⟨hx, hb, hml, hown, hts⟩ (c_Rd_opens l (σ.1 11 ((σ.1 12 4) : Int32).toNatClampNeg) h) (cwS 1 hts (gd_s gw625 gw626 gw9 gw627) rfl rfl rfl (by decide +kernel) ⟨Nat.le_of_ble_eq_true rfl, Nat.le_of_ble_eq_true rfl⟩) ⟨kw_blind (Zk_ok g), kw_pre (Zk_ok g) hK hZ hA hst⟩ rfl rfl hl.1 rfl (lv_room (Nat.le_of_ble_eq_true rfl)) d_Rd_valueBegins_30 ⟨Nat.le_of_ble_eq_true rfl, Nat.le_of_ble_eq_true rfl⟩) hst hA (fun r1 σ1 H locs h hst => ?_)
    refine lv_if_eq (tgt := 48) hx hb d_Rd_valueBegins_33 (by decide) (fun hc => ?_) (fun hc => ?_)
    · replace h := h.1 hc
      refine lv_iload_n hx hb d_Rd_valueBegins_48 rfl (lv_at hl 0 rfl) ?_
      refine lv_bipush (v := (34 : Int32)) hx hb d_Rd_valueBegins_49 (by decide) ?_
      refine lv_icmp_eq (tgt := 74) hx hb d_Rd_valueBegins_51 (by decide) (fun hc => ?_) (fun hc => ?_)
      · replace h := h.1 hc
        refine lv_iconst (v := (1 : Int32)) hx hb d_Rd_valueBegins_74 (by decide) ?_
        refine lv_goto (tgt := 79) hx hb d_Rd_valueBegins_75 (by decide) ?_
        exact kw_zret hx hb hr hlocks hst h d_Rd_valueBegins_79
      · replace h := h.2 hc
        refine lv_iload_n hx hb d_Rd_valueBegins_54 rfl (lv_at hl 0 rfl) ?_
        refine lv_bipush (v := (45 : Int32)) hx hb d_Rd_valueBegins_55 (by decide) ?_
        refine lv_icmp_eq (tgt := 74) hx hb d_Rd_valueBegins_57 (by decide) (fun hc => ?_) (fun hc => ?_)
        · replace h := h.1 hc
          refine lv_iconst (v := (1 : Int32)) hx hb d_Rd_valueBegins_74 (by decide) ?_
          refine lv_goto (tgt := 79) hx hb d_Rd_valueBegins_75 (by decide) ?_
          exact kw_zret hx hb hr hlocks hst h d_Rd_valueBegins_79
        · replace h := h.2 hc
          refine lv_iload_n hx hb d_Rd_valueBegins_60 rfl (lv_at hl 0 rfl) ?_
          refine kw_calli (va_runS (As := [.int (σ.1 11 ((σ.1 12 4) : Int32).toNatClampNeg)]) (rest := []) ⟨hx, hb, hml, hown, hts⟩ (c_Rd_isDigit l (σ.1 11 ((σ.1 12 4) : Int32).toNatClampNeg) h) (cwS 1 hts (gd_s gw628 gw629 gw9 gw630) rfl rfl rfl (by decide +kernel) ⟨Nat.le_of_ble_eq_true rfl, Nat.le_of_ble_eq_true rfl⟩) ⟨kw_blind (Zk_ok g), kw_pre (Zk_ok g) hK hZ hA hst⟩ rfl rfl hl.1 rfl (lv_room (Nat.le_of_ble_eq_true rfl)) d_Rd_valueBegins_61 ⟨Nat.le_of_ble_eq_true rfl, Nat.le_of_ble_eq_true rfl⟩) hst hA (fun r2 σ2 H locs h hst => ?_)
          refine lv_if_ne (tgt := 74) hx hb d_Rd_valueBegins_64 (by decide) (fun hc => ?_) (fun hc => ?_)
          · replace h := h.1 hc
            refine lv_iconst (v := (1 : Int32)) hx hb d_Rd_valueBegins_74 (by decide) ?_
            refine lv_goto (tgt := 79) hx hb d_Rd_valueBegins_75 (by decide) ?_
            exact kw_zret hx hb hr hlocks hst h d_Rd_valueBegins_79
          · replace h := h.2 hc
            refine lv_iload_n hx hb d_Rd_valueBegins_67 rfl (lv_at hl 0 rfl) ?_
            refine kw_calli (va_runS (As := [.int (σ.1 11 ((σ.1 12 4) : Int32).toNatClampNeg)]) (rest := []) ⟨hx, hb, hml, hown, hts⟩ (c_Rd_isLowerLetter l (σ.1 11 ((σ.1 12 4) : Int32).toNatClampNeg) h) (cwS 1 hts (gd_s gw631 gw632 gw9 gw633) rfl rfl rfl (by decide +kernel) ⟨Nat.le_of_ble_eq_true rfl, Nat.le_of_ble_eq_true rfl⟩) ⟨kw_blind (Zk_ok g), kw_pre (Zk_ok g) hK hZ hA hst⟩ rfl rfl hl.1 rfl (lv_room (Nat.le_of_ble_eq_true rfl)) d_Rd_valueBegins_68 ⟨Nat.le_of_ble_eq_true rfl, Nat.le_of_ble_eq_true rfl⟩) hst hA (fun r3 σ3 H locs h hst => ?_)
            refine lv_if_eq (tgt := 78) hx hb d_Rd_valueBegins_71 (by decide) (fun hc => ?_) (fun hc => ?_)
            · replace h := h.1 hc
              refine lv_iconst (v := (0 : Int32)) hx hb d_Rd_valueBegins_78 (by decide) ?_
              exact kw_zret hx hb hr hlocks hst h d_Rd_valueBegins_79
            · replace h := h.2 hc
              refine lv_iconst (v := (1 : Int32)) hx hb d_Rd_valueBegins_74 (by decide) ?_
              refine lv_goto (tgt := 79) hx hb d_Rd_valueBegins_75 (by decide) ?_
              exact kw_zret hx hb hr hlocks hst h d_Rd_valueBegins_79
    · replace h := h.2 hc
      refine lv_iload_n hx hb d_Rd_valueBegins_36 rfl (lv_at hl 2 rfl) ?_
      refine lv_bipush (v := (8 : Int32)) hx hb d_Rd_valueBegins_37 (by decide) ?_
      refine lv_icmp_ge (tgt := 46) hx hb d_Rd_valueBegins_39 (by decide) (fun hc => ?_) (fun hc => ?_)
      · replace h := h.1 hc
        refine lv_iconst (v := (0 : Int32)) hx hb d_Rd_valueBegins_46 (by decide) ?_
        exact kw_zret hx hb hr hlocks hst h d_Rd_valueBegins_47
      · replace h := h.2 hc
        refine lv_iconst (v := (1 : Int32)) hx hb d_Rd_valueBegins_42 (by decide) ?_
        refine lv_goto (tgt := 47) hx hb d_Rd_valueBegins_43 (by decide) ?_
        exact kw_zret hx hb hr hlocks hst h d_Rd_valueBegins_47
  · replace h := h.2 hc
    refine lv_iconst (v := (0 : Int32)) hx hb d_Rd_valueBegins_14 (by decide) ?_
    exact kw_zret hx hb hr hlocks hst h d_Rd_valueBegins_15
set_option maxRecDepth 100000 in
set_option maxHeartbeats 4000000 in
theorem c_Rd_valueBegins_0 (l : Launch) {D : va_G} {g : Gm} {sz : Nat} (x1 : Int32) {σ : Sg} {post : Int32 → Sg → Prop} (h : wq_Rd_valueBegins 0 x1 σ post) : Met l y_Rd_valueBegins (.code y_Rd_valueBegins k_Rd_valueBegins 3 (some .boolean) :: GW) { frames := 1, cells := 0, slots := 0, locals := 20 } (PcW D vwCl (WS g) g (Zk g) σ sz [.ref (g.1 12), .int x1]) (QiW D vwCl (WS g) post (va_A (WS g σ) sz)) 0 0 (va_A (WS g σ) sz) := by
  refine kw_entry (own := R_Rd) (by decide) rfl rfl (Nat.le_of_ble_eq_true rfl) ?_
  intro p e s m below meth c ls hsz C hin hl hst
  exact b_Rd_valueBegins_0_0 C x1 σ _ _ ls hl hst h
set_option maxRecDepth 100000 in
set_option maxHeartbeats 4000000 in
theorem b_Rd_valueBegins_13_0 {p : Program} {l : Launch} {e : Env} {s : State} {m : MethodId} {args : Array Value} {below : List Frame} {meth : Method} {c : Code} {D : va_G} {g : Gm} {A : Nat → Prop} {post : Int32 → Sg → Prop} (C : kC p s m args meth c k_Rd_valueBegins 3 (some .boolean) GW R_Rd D vwCl g (Zk g) A) (x1 : Int32) (σ : Sg) (H : Heap) (locs : List Loc) (ls : Array Slot) (hl : lv_has ls 3 [(0, .ref (g.1 25)), (1, .int x1)]) (hst : Wst D vwCl (WS g) A s σ H locs) (h : wq_Rd_valueBegins 13 x1 σ post) : W p l e { frames := 1, cells := 0, slots := 0, locals := 20 } s m args below meth c H locs 0 0 (MQ below (QiW D vwCl (WS g) post A) args s 0 0 A) (F0 m 0 ls []) := by
  obtain ⟨hx, hb, hr, hml, hown, hts, hlocks, hK, hZ, hA⟩ := C
  unfold wq_Rd_valueBegins at h
  refine lv_aload_n hx hb d_Rd_valueBegins_0 rfl (lv_at hl 0 rfl) ?_
  refine va_get (D := D) (ci := 2) (C := R_Rd) (T := T_Rd) (N := 5) hx hb hts in_Rd hown hK hst.1 25 (WS_o25 g σ) rfl 4 (by decide) (hts _ gw214) (fun _ h9 => h9) rfl d_Rd_valueBegins_1 ?_
  refine lv_aload_n hx hb d_Rd_valueBegins_4 rfl (lv_at hl 0 rfl) ?_
  refine va_get (D := D) (ci := 2) (C := R_Rd) (T := T_Rd) (N := 5) hx hb hts in_Rd hown hK hst.1 25 (WS_o25 g σ) rfl 2 (by decide) (hts _ gw212) (fun _ h9 => h9) rfl d_Rd_valueBegins_5 ?_
  refine va_get (D := D) (ci := 1) (C := R_Tx) (T := T_Tx) (N := 2) hx hb hts in_Tx hown hK hst.1 23 (WS_o23 g σ) rfl 1 (by decide) (hts _ gw114) (fun _ h9 => h9) rfl d_Rd_valueBegins_8 ?_
  refine lv_icmp_lt (tgt := 16) hx hb d_Rd_valueBegins_11 (by decide) (fun hc => ?_) (fun hc => ?_)
  · replace h := h.1 hc
    refine lv_aload_n hx hb d_Rd_valueBegins_16 rfl (lv_at hl 0 rfl) ?_
    refine va_get (D := D) (ci := 2) (C := R_Rd) (T := T_Rd) (N := 5) hx hb hts in_Rd hown hK hst.1 25 (WS_o25 g σ) rfl 2 (by decide) (hts _ gw212) (fun _ h9 => h9) rfl d_Rd_valueBegins_17 ?_
    refine va_get (D := D) (ci := 1) (C := R_Tx) (T := T_Tx) (N := 2) hx hb hts in_Tx hown hK hst.1 23 (WS_o23 g σ) rfl 0 (by decide) (hts _ gw107) (fun _ h9 => h9) rfl d_Rd_valueBegins_20 ?_
    refine lv_aload_n hx hb d_Rd_valueBegins_23 rfl (lv_at hl 0 rfl) ?_
    refine va_get (D := D) (ci := 2) (C := R_Rd) (T := T_Rd) (N := 5) hx hb hts in_Rd hown hK hst.1 25 (WS_o25 g σ) rfl 4 (by decide) (hts _ gw214) (fun _ h9 => h9) rfl d_Rd_valueBegins_24 ?_
    obtain ⟨hi, h⟩ := h
    refine va_cald hx hb hK hst.1 24 1 (WS_a24 g σ) rfl hi d_Rd_valueBegins_27 ?_
    refine lv_istore_n hx hb d_Rd_valueBegins_28 rfl hl (by decide) rfl (fun ls hl => ?_)
    have hl : lv_has ls 3 [(2, .int (σ.1 24 ((σ.1 25 4) : Int32).toNatClampNeg)), (0, .ref (g.1 25)), (1, .int x1)] := hl
    refine lv_iload_n hx hb d_Rd_valueBegins_29 rfl (lv_at hl 0 rfl) ?_
    refine kw_calli (va_runS (As := [.int (σ.1 24 ((σ.1 25 4) : Int32).toNatClampNeg)]) (rest := []) ⟨hx, hb, hml, hown, hts⟩ (c_Rd_opens l (σ.1 24 ((σ.1 25 4) : Int32).toNatClampNeg) h) (cwS 1 hts (gd_s gw625 gw626 gw9 gw627) rfl rfl rfl (by decide +kernel) ⟨Nat.le_of_ble_eq_true rfl, Nat.le_of_ble_eq_true rfl⟩) ⟨kw_blind (Zk_ok g), kw_pre (Zk_ok g) hK hZ hA hst⟩ rfl rfl hl.1 rfl (lv_room (Nat.le_of_ble_eq_true rfl)) d_Rd_valueBegins_30 ⟨Nat.le_of_ble_eq_true rfl, Nat.le_of_ble_eq_true rfl⟩) hst hA (fun r1 σ1 H locs h hst => ?_)
    refine lv_if_eq (tgt := 48) hx hb d_Rd_valueBegins_33 (by decide) (fun hc => ?_) (fun hc => ?_)
    · replace h := h.1 hc
      refine lv_iload_n hx hb d_Rd_valueBegins_48 rfl (lv_at hl 0 rfl) ?_
      refine lv_bipush (v := (34 : Int32)) hx hb d_Rd_valueBegins_49 (by decide) ?_
      refine lv_icmp_eq (tgt := 74) hx hb d_Rd_valueBegins_51 (by decide) (fun hc => ?_) (fun hc => ?_)
      · replace h := h.1 hc
        refine lv_iconst (v := (1 : Int32)) hx hb d_Rd_valueBegins_74 (by decide) ?_
        refine lv_goto (tgt := 79) hx hb d_Rd_valueBegins_75 (by decide) ?_
        exact kw_zret hx hb hr hlocks hst h d_Rd_valueBegins_79
      · replace h := h.2 hc
        refine lv_iload_n hx hb d_Rd_valueBegins_54 rfl (lv_at hl 0 rfl) ?_
        refine lv_bipush (v := (45 : Int32)) hx hb d_Rd_valueBegins_55 (by decide) ?_
        refine lv_icmp_eq (tgt := 74) hx hb d_Rd_valueBegins_57 (by decide) (fun hc => ?_) (fun hc => ?_)
        · replace h := h.1 hc
          refine lv_iconst (v := (1 : Int32)) hx hb d_Rd_valueBegins_74 (by decide) ?_
          refine lv_goto (tgt := 79) hx hb d_Rd_valueBegins_75 (by decide) ?_
          exact kw_zret hx hb hr hlocks hst h d_Rd_valueBegins_79
        · replace h := h.2 hc
          refine lv_iload_n hx hb d_Rd_valueBegins_60 rfl (lv_at hl 0 rfl) ?_
          refine kw_calli (va_runS (As := [.int (σ.1 24 ((σ.1 25 4) : Int32).toNatClampNeg)]) (rest := []) ⟨hx, hb, hml, hown, hts⟩ (c_Rd_isDigit l (σ.1 24 ((σ.1 25 4) : Int32).toNatClampNeg) h) (cwS 1 hts (gd_s gw628 gw629 gw9 gw630) rfl rfl rfl (by decide +kernel) ⟨Nat.le_of_ble_eq_true rfl, Nat.le_of_ble_eq_true rfl⟩) ⟨kw_blind (Zk_ok g), kw_pre (Zk_ok g) hK hZ hA hst⟩ rfl rfl hl.1 rfl (lv_room (Nat.le_of_ble_eq_true rfl)) d_Rd_valueBegins_61 ⟨Nat.le_of_ble_eq_true rfl, Nat.le_of_ble_eq_true rfl⟩) hst hA (fun r2 σ2 H locs h hst => ?_)
          refine lv_if_ne (tgt := 74) hx hb d_Rd_valueBegins_64 (by decide) (fun hc => ?_) (fun hc => ?_)
          · replace h := h.1 hc
            refine lv_iconst (v := (1 : Int32)) hx hb d_Rd_valueBegins_74 (by decide) ?_
            refine lv_goto (tgt := 79) hx hb d_Rd_valueBegins_75 (by decide) ?_
            exact kw_zret hx hb hr hlocks hst h d_Rd_valueBegins_79
          · replace h := h.2 hc
            refine lv_iload_n hx hb d_Rd_valueBegins_67 rfl (lv_at hl 0 rfl) ?_
            refine kw_calli (va_runS (As := [.int (σ.1 24 ((σ.1 25 4) : Int32).toNatClampNeg)]) (rest := []) ⟨hx, hb, hml, hown, hts⟩ (c_Rd_isLowerLetter l (σ.1 24 ((σ.1 25 4) : Int32).toNatClampNeg) h) (cwS 1 hts (gd_s gw631 gw632 gw9 gw633) rfl rfl rfl (by decide +kernel) ⟨Nat.le_of_ble_eq_true rfl, Nat.le_of_ble_eq_true rfl⟩) ⟨kw_blind (Zk_ok g), kw_pre (Zk_ok g) hK hZ hA hst⟩ rfl rfl hl.1 rfl (lv_room (Nat.le_of_ble_eq_true rfl)) d_Rd_valueBegins_68 ⟨Nat.le_of_ble_eq_true rfl, Nat.le_of_ble_eq_true rfl⟩) hst hA (fun r3 σ3 H locs h hst => ?_)
            refine lv_if_eq (tgt := 78) hx hb d_Rd_valueBegins_71 (by decide) (fun hc => ?_) (fun hc => ?_)
            · replace h := h.1 hc
              refine lv_iconst (v := (0 : Int32)) hx hb d_Rd_valueBegins_78 (by decide) ?_
              exact kw_zret hx hb hr hlocks hst h d_Rd_valueBegins_79
            · replace h := h.2 hc
              refine lv_iconst (v := (1 : Int32)) hx hb d_Rd_valueBegins_74 (by decide) ?_
              refine lv_goto (tgt := 79) hx hb d_Rd_valueBegins_75 (by decide) ?_
              exact kw_zret hx hb hr hlocks hst h d_Rd_valueBegins_79
    · replace h := h.2 hc
      refine lv_iload_n hx hb d_Rd_valueBegins_36 rfl (lv_at hl 2 rfl) ?_
      refine lv_bipush (v := (8 : Int32)) hx hb d_Rd_valueBegins_37 (by decide) ?_
      refine lv_icmp_ge (tgt := 46) hx hb d_Rd_valueBegins_39 (by decide) (fun hc => ?_) (fun hc => ?_)
      · replace h := h.1 hc
        refine lv_iconst (v := (0 : Int32)) hx hb d_Rd_valueBegins_46 (by decide) ?_
        exact kw_zret hx hb hr hlocks hst h d_Rd_valueBegins_47
      · replace h := h.2 hc
        refine lv_iconst (v := (1 : Int32)) hx hb d_Rd_valueBegins_42 (by decide) ?_
        refine lv_goto (tgt := 47) hx hb d_Rd_valueBegins_43 (by decide) ?_
        exact kw_zret hx hb hr hlocks hst h d_Rd_valueBegins_47
  · replace h := h.2 hc
    refine lv_iconst (v := (0 : Int32)) hx hb d_Rd_valueBegins_14 (by decide) ?_
    exact kw_zret hx hb hr hlocks hst h d_Rd_valueBegins_15
set_option maxRecDepth 100000 in
set_option maxHeartbeats 4000000 in
theorem c_Rd_valueBegins_13 (l : Launch) {D : va_G} {g : Gm} {sz : Nat} (x1 : Int32) {σ : Sg} {post : Int32 → Sg → Prop} (h : wq_Rd_valueBegins 13 x1 σ post) : Met l y_Rd_valueBegins (.code y_Rd_valueBegins k_Rd_valueBegins 3 (some .boolean) :: GW) { frames := 1, cells := 0, slots := 0, locals := 20 } (PcW D vwCl (WS g) g (Zk g) σ sz [.ref (g.1 25), .int x1]) (QiW D vwCl (WS g) post (va_A (WS g σ) sz)) 0 0 (va_A (WS g σ) sz) := by
  refine kw_entry (own := R_Rd) (by decide) rfl rfl (Nat.le_of_ble_eq_true rfl) ?_
  intro p e s m below meth c ls hsz C hin hl hst
  exact b_Rd_valueBegins_13_0 C x1 σ _ _ ls hl hst h
/-! SchemaDesk$Reader.passWrong (I)V -/
abbrev k_Rd_passWrong : ByteArray := prog_5_method_5_code
abbrev y_Rd_passWrong : MethodName := ⟨"SchemaDesk$Reader", "passWrong", "(I)V"⟩
theorem d_Rd_passWrong_0 : decode k_Rd_passWrong 0 = .ok (.iload_n 1, 1) := by decide +kernel
theorem d_Rd_passWrong_1 : decode k_Rd_passWrong 1 = .ok (.bipush 8, 2) := by decide +kernel
theorem d_Rd_passWrong_3 : decode k_Rd_passWrong 3 = .ok (.if_icmp .lt 25, 3) := by decide +kernel
theorem d_Rd_passWrong_6 : decode k_Rd_passWrong 6 = .ok (.aload_n 0, 1) := by decide +kernel
theorem d_Rd_passWrong_7 : decode k_Rd_passWrong 7 = .ok (.getfield 21, 3) := by decide +kernel
theorem d_Rd_passWrong_10 : decode k_Rd_passWrong 10 = .ok (.getfield 61, 3) := by decide +kernel
theorem d_Rd_passWrong_13 : decode k_Rd_passWrong 13 = .ok (.aload_n 0, 1) := by decide +kernel
theorem d_Rd_passWrong_14 : decode k_Rd_passWrong 14 = .ok (.getfield 33, 3) := by decide +kernel
theorem d_Rd_passWrong_17 : decode k_Rd_passWrong 17 = .ok (.caload, 1) := by decide +kernel
theorem d_Rd_passWrong_18 : decode k_Rd_passWrong 18 = .ok (.invokestatic 65, 3) := by decide +kernel
theorem d_Rd_passWrong_21 : decode k_Rd_passWrong 21 = .ok (.ifCond .eq 7, 3) := by decide +kernel
theorem d_Rd_passWrong_24 : decode k_Rd_passWrong 24 = .ok (.iconst 1, 1) := by decide +kernel
theorem d_Rd_passWrong_25 : decode k_Rd_passWrong 25 = .ok (.goto 4, 3) := by decide +kernel
theorem d_Rd_passWrong_28 : decode k_Rd_passWrong 28 = .ok (.iconst 0, 1) := by decide +kernel
theorem d_Rd_passWrong_29 : decode k_Rd_passWrong 29 = .ok (.istore_n 2, 1) := by decide +kernel
theorem d_Rd_passWrong_30 : decode k_Rd_passWrong 30 = .ok (.aload_n 0, 1) := by decide +kernel
theorem d_Rd_passWrong_31 : decode k_Rd_passWrong 31 = .ok (.getfield 9, 3) := by decide +kernel
theorem d_Rd_passWrong_34 : decode k_Rd_passWrong 34 = .ok (.iload_n 2, 1) := by decide +kernel
theorem d_Rd_passWrong_35 : decode k_Rd_passWrong 35 = .ok (.ifCond .eq 8, 3) := by decide +kernel
theorem d_Rd_passWrong_38 : decode k_Rd_passWrong 38 = .ok (.bipush 14, 2) := by decide +kernel
theorem d_Rd_passWrong_40 : decode k_Rd_passWrong 40 = .ok (.goto 4, 3) := by decide +kernel
theorem d_Rd_passWrong_43 : decode k_Rd_passWrong 43 = .ok (.iconst 3, 1) := by decide +kernel
theorem d_Rd_passWrong_44 : decode k_Rd_passWrong 44 = .ok (.aload_n 0, 1) := by decide +kernel
theorem d_Rd_passWrong_45 : decode k_Rd_passWrong 45 = .ok (.getfield 33, 3) := by decide +kernel
theorem d_Rd_passWrong_48 : decode k_Rd_passWrong 48 = .ok (.invokevirtual 53, 3) := by decide +kernel
theorem d_Rd_passWrong_51 : decode k_Rd_passWrong 51 = .ok (.aload_n 0, 1) := by decide +kernel
theorem d_Rd_passWrong_52 : decode k_Rd_passWrong 52 = .ok (.dup, 1) := by decide +kernel
theorem d_Rd_passWrong_53 : decode k_Rd_passWrong 53 = .ok (.getfield 33, 3) := by decide +kernel
theorem d_Rd_passWrong_56 : decode k_Rd_passWrong 56 = .ok (.iconst 1, 1) := by decide +kernel
theorem d_Rd_passWrong_57 : decode k_Rd_passWrong 57 = .ok (.iadd, 1) := by decide +kernel
theorem d_Rd_passWrong_58 : decode k_Rd_passWrong 58 = .ok (.putfield 33, 3) := by decide +kernel
theorem d_Rd_passWrong_61 : decode k_Rd_passWrong 61 = .ok (.return_, 1) := by decide +kernel
theorem gw208 : (Jvm.Cond.fieldLink "SchemaDesk$Reader" (9 : Nat) "SchemaDesk$Reader" "tree" "LSchemaDesk$Tree;") ∈ GW := gw_t1 (List.mem_of_getElem? (i := 208) rfl) rfl
theorem gw638 : (Jvm.Cond.methodLink "SchemaDesk$Reader" (53 : Nat) ({ cls := "SchemaDesk$Tree", name := "blame", desc := "(II)V" } : Jvm.MethodName)) ∈ GW := gw_t3 (List.mem_of_getElem? (i := 158) rfl) rfl
theorem gw639 : (Jvm.Cond.instanceMethod ({ cls := "SchemaDesk$Tree", name := "blame", desc := "(II)V" } : Jvm.MethodName)) ∈ GW := gw_t3 (List.mem_of_getElem? (i := 159) rfl) rfl
theorem gw640 : (Jvm.Cond.selects "SchemaDesk$Tree" ({ cls := "SchemaDesk$Tree", name := "blame", desc := "(II)V" } : Jvm.MethodName) ({ cls := "SchemaDesk$Tree", name := "blame", desc := "(II)V" } : Jvm.MethodName)) ∈ GW := gw_t3 (List.mem_of_getElem? (i := 160) rfl) rfl
theorem gw7 : (Jvm.Cond.initialized "SchemaDesk$Tree") ∈ GW := gw_t1 (List.mem_of_getElem? (i := 7) rfl) rfl
theorem gw641 : (Jvm.Cond.code ({ cls := "SchemaDesk$Tree", name := "blame", desc := "(II)V" } : Jvm.MethodName) prog_8_method_6_code (3 : Nat) (Option.none : Option Jvm.ClassFile.FieldType)) ∈ GW := gw_t3 (List.mem_of_getElem? (i := 161) rfl) rfl
def wb_Rd_passWrong_0 (b : Nat) (F : Nat → Int32 → Int32 → Sg → Prop) (post : Sg → Prop) (x1 : Int32) (σ : Sg) : Prop := ((x1 < (8 : Int32) → F 1 0 0 σ) ∧ (¬ x1 < (8 : Int32) → (vp_in (σ.1 (b + 12) 4) (tl b) ∧ (wq_Rd_opens (σ.1 (b + 11) ((σ.1 (b + 12) 4) : Int32).toNatClampNeg) σ (fun r1 σ1 => ((r1 = 0 → F 1 0 0 σ1) ∧ (¬ r1 = 0 → F 2 0 (1 : Int32) σ1)))))))
def wb_Rd_passWrong_1 (b : Nat) (F : Nat → Int32 → Int32 → Sg → Prop) (post : Sg → Prop) (σ : Sg) : Prop := F 2 0 (0 : Int32) σ
def wb_Rd_passWrong_2 (b : Nat) (F : Nat → Int32 → Int32 → Sg → Prop) (post : Sg → Prop) (x2 : Int32) (σ : Sg) : Prop := ((x2 = 0 → (wq_Tr_blame b (3 : Int32) (σ.1 (b + 12) 4) σ (fun σ1 => (∀ σ2, σ2 = si σ1 (b + 12) 4 ((σ1.1 (b + 12) 4) + (1 : Int32)) → post σ2)))) ∧ (¬ x2 = 0 → (wq_Tr_blame b (14 : Int32) (σ.1 (b + 12) 4) σ (fun σ1 => (∀ σ2, σ2 = si σ1 (b + 12) 4 ((σ1.1 (b + 12) 4) + (1 : Int32)) → post σ2)))))
def wp_Rd_passWrong (b : Nat) (post : Sg → Prop) : Nat → Nat → Int32 → Int32 → Sg → Prop
  | 0, _, _, _, _ => False
  | n + 1, k, x1, x2, σ => match k with
    | 0 => wb_Rd_passWrong_0 b (wp_Rd_passWrong b post n) post x1 σ
    | 1 => wb_Rd_passWrong_1 b (wp_Rd_passWrong b post n) post σ
    | 2 => wb_Rd_passWrong_2 b (wp_Rd_passWrong b post n) post x2 σ
    | _ => False
def wq_Rd_passWrong (b : Nat) (x1 : Int32) (σ : Sg) (post : Sg → Prop) : Prop := ∃ n, wp_Rd_passWrong b post n 0 x1 0 σ
def J_Rd_passWrong_0_1 (p : Program) (l : Launch) (e : Env) (s : State) (m : MethodId) (args : Array Value) (below : List Frame) (meth : Method) (c : Code) (D : va_G) (g : Gm) (A : Nat → Prop) (post : Sg → Prop) (F : Nat → Int32 → Int32 → Sg → Prop) : Prop := ∀ (σ : Sg) (H : Heap) (locs : List Loc) (ls : Array Slot), lv_has ls 3 [(0, .ref (g.1 12))] → Wst D vwCl (WS g) A s σ H locs → F 1 0 0 σ → W p l e { frames := 1, cells := 0, slots := 0, locals := 22 } s m args below meth c H locs 0 0 (MQ below (QvW D vwCl (WS g) post A) args s 0 0 A) (F0 m 28 ls [])
def J_Rd_passWrong_0_2 (p : Program) (l : Launch) (e : Env) (s : State) (m : MethodId) (args : Array Value) (below : List Frame) (meth : Method) (c : Code) (D : va_G) (g : Gm) (A : Nat → Prop) (post : Sg → Prop) (F : Nat → Int32 → Int32 → Sg → Prop) : Prop := ∀ (x2 : Int32) (σ : Sg) (H : Heap) (locs : List Loc) (ls : Array Slot), lv_has ls 3 [(0, .ref (g.1 12)), (2, .int x2)] → Wst D vwCl (WS g) A s σ H locs → F 2 0 x2 σ → W p l e { frames := 1, cells := 0, slots := 0, locals := 22 } s m args below meth c H locs 0 0 (MQ below (QvW D vwCl (WS g) post A) args s 0 0 A) (F0 m 30 ls [])
set_option maxRecDepth 100000 in
set_option maxHeartbeats 4000000 in
theorem b_Rd_passWrong_0_0 {p : Program} {l : Launch} {e : Env} {s : State} {m : MethodId} {args : Array Value} {below : List Frame} {meth : Method} {c : Code} {D : va_G} {g : Gm} {A : Nat → Prop} {post : Sg → Prop} {F : Nat → Int32 → Int32 → Sg → Prop} (C : kC p s m args meth c k_Rd_passWrong 3 (none) GW R_Rd D vwCl g (Zk g) A) (j1 : J_Rd_passWrong_0_1 p l e s m args below meth c D g A post F) (j2 : J_Rd_passWrong_0_2 p l e s m args below meth c D g A post F) (x1 : Int32) (σ : Sg) (H : Heap) (locs : List Loc) (ls : Array Slot) (hl : lv_has ls 3 [(0, .ref (g.1 12)), (1, .int x1)]) (hst : Wst D vwCl (WS g) A s σ H locs) (h : wb_Rd_passWrong_0 0 F post x1 σ) : W p l e { frames := 1, cells := 0, slots := 0, locals := 22 } s m args below meth c H locs 0 0 (MQ below (QvW D vwCl (WS g) post A) args s 0 0 A) (F0 m 0 ls []) := by
  obtain ⟨hx, hb, hr, hml, hown, hts, hlocks, hK, hZ, hA⟩ := C
  unfold wb_Rd_passWrong_0 at h
  refine lv_iload_n hx hb d_Rd_passWrong_0 rfl (lv_at hl 1 rfl) ?_
  refine lv_bipush (v := (8 : Int32)) hx hb d_Rd_passWrong_1 (by decide) ?_
  refine lv_icmp_lt (tgt := 28) hx hb d_Rd_passWrong_3 (by decide) (fun hc => ?_) (fun hc => ?_)
  · replace h := h.1 hc
    exact j1 σ _ _ _ (lv_sub hl [0] rfl) hst h
  · replace h := h.2 hc
    refine lv_aload_n hx hb d_Rd_passWrong_6 rfl (lv_at hl 0 rfl) ?_
    refine va_get (D := D) (ci := 2) (C := R_Rd) (T := T_Rd) (N := 5) hx hb hts in_Rd hown hK hst.1 12 (WS_o12 g σ) rfl 2 (by decide) (hts _ gw212) (fun _ h9 => h9) rfl d_Rd_passWrong_7 ?_
    refine va_get (D := D) (ci := 1) (C := R_Tx) (T := T_Tx) (N := 2) hx hb hts in_Tx hown hK hst.1 10 (WS_o10 g σ) rfl 0 (by decide) (hts _ gw107) (fun _ h9 => h9) rfl d_Rd_passWrong_10 ?_
    refine lv_aload_n hx hb d_Rd_passWrong_13 rfl (lv_at hl 0 rfl) ?_
    refine va_get (D := D) (ci := 2) (C := R_Rd) (T := T_Rd) (N := 5) hx hb hts in_Rd hown hK hst.1 12 (WS_o12 g σ) rfl 4 (by decide) (hts _ gw214) (fun _ h9 => h9) rfl d_Rd_passWrong_14 ?_
    obtain ⟨hi, h⟩ := h
    refine va_cald hx hb hK hst.1 11 1 (WS_a11 g σ) rfl hi d_Rd_passWrong_17 ?_
    refine kw_calli (va_runS (As := [.int (σ.1 11 ((σ.1 12 4) : Int32).toNatClampNeg)]) (rest := []) ⟨hx, hb, hml, hown, hts⟩ (c_Rd_opens l (σ.1 11 ((σ.1 12 4) : Int32).toNatClampNeg) h) (cwS 1 hts (gd_s gw625 gw626 gw9 gw627) rfl rfl rfl (by decide +kernel) ⟨Nat.le_of_ble_eq_true rfl, Nat.le_of_ble_eq_true rfl⟩) ⟨kw_blind (Zk_ok g), kw_pre (Zk_ok g) hK hZ hA hst⟩ rfl rfl hl.1 rfl (lv_room (Nat.le_of_ble_eq_true rfl)) d_Rd_passWrong_18 ⟨Nat.le_of_ble_eq_true rfl, Nat.le_of_ble_eq_true rfl⟩) hst hA (fun r1 σ1 H locs h hst => ?_)
    refine lv_if_eq (tgt := 28) hx hb d_Rd_passWrong_21 (by decide) (fun hc => ?_) (fun hc => ?_)
    · replace h := h.1 hc
      exact j1 σ1 _ _ _ (lv_sub hl [0] rfl) hst h
    · replace h := h.2 hc
      refine lv_iconst (v := (1 : Int32)) hx hb d_Rd_passWrong_24 (by decide) ?_
      refine lv_goto (tgt := 29) hx hb d_Rd_passWrong_25 (by decide) ?_
      refine lv_istore_n hx hb d_Rd_passWrong_29 rfl hl (by decide) rfl (fun ls hl => ?_)
      have hl : lv_has ls 3 [(2, .int (1 : Int32)), (0, .ref (g.1 12)), (1, .int x1)] := hl
      exact j2 (1 : Int32) σ1 _ _ _ (lv_sub hl [1, 0] rfl) hst h
set_option maxRecDepth 100000 in
set_option maxHeartbeats 4000000 in
theorem b_Rd_passWrong_0_1 {p : Program} {l : Launch} {e : Env} {s : State} {m : MethodId} {args : Array Value} {below : List Frame} {meth : Method} {c : Code} {D : va_G} {g : Gm} {A : Nat → Prop} {post : Sg → Prop} {F : Nat → Int32 → Int32 → Sg → Prop} (C : kC p s m args meth c k_Rd_passWrong 3 (none) GW R_Rd D vwCl g (Zk g) A) (j2 : J_Rd_passWrong_0_2 p l e s m args below meth c D g A post F) (σ : Sg) (H : Heap) (locs : List Loc) (ls : Array Slot) (hl : lv_has ls 3 [(0, .ref (g.1 12))]) (hst : Wst D vwCl (WS g) A s σ H locs) (h : wb_Rd_passWrong_1 0 F post σ) : W p l e { frames := 1, cells := 0, slots := 0, locals := 22 } s m args below meth c H locs 0 0 (MQ below (QvW D vwCl (WS g) post A) args s 0 0 A) (F0 m 28 ls []) := by
  obtain ⟨hx, hb, hr, hml, hown, hts, hlocks, hK, hZ, hA⟩ := C
  unfold wb_Rd_passWrong_1 at h
  refine lv_iconst (v := (0 : Int32)) hx hb d_Rd_passWrong_28 (by decide) ?_
  refine lv_istore_n hx hb d_Rd_passWrong_29 rfl hl (by decide) rfl (fun ls hl => ?_)
  have hl : lv_has ls 3 [(2, .int (0 : Int32)), (0, .ref (g.1 12))] := hl
  exact j2 (0 : Int32) σ _ _ _ (lv_sub hl [1, 0] rfl) hst h
set_option maxRecDepth 100000 in
set_option maxHeartbeats 4000000 in
theorem b_Rd_passWrong_0_2 {p : Program} {l : Launch} {e : Env} {s : State} {m : MethodId} {args : Array Value} {below : List Frame} {meth : Method} {c : Code} {D : va_G} {g : Gm} {A : Nat → Prop} {post : Sg → Prop} {F : Nat → Int32 → Int32 → Sg → Prop} (C : kC p s m args meth c k_Rd_passWrong 3 (none) GW R_Rd D vwCl g (Zk g) A) (x2 : Int32) (σ : Sg) (H : Heap) (locs : List Loc) (ls : Array Slot) (hl : lv_has ls 3 [(0, .ref (g.1 12)), (2, .int x2)]) (hst : Wst D vwCl (WS g) A s σ H locs) (h : wb_Rd_passWrong_2 0 F post x2 σ) : W p l e { frames := 1, cells := 0, slots := 0, locals := 22 } s m args below meth c H locs 0 0 (MQ below (QvW D vwCl (WS g) post A) args s 0 0 A) (F0 m 30 ls []) := by
  obtain ⟨hx, hb, hr, hml, hown, hts, hlocks, hK, hZ, hA⟩ := C
  unfold wb_Rd_passWrong_2 at h
  refine lv_aload_n hx hb d_Rd_passWrong_30 rfl (lv_at hl 0 rfl) ?_
  refine va_get (D := D) (ci := 2) (C := R_Rd) (T := T_Rd) (N := 5) hx hb hts in_Rd hown hK hst.1 12 (WS_o12 g σ) rfl 0 (by decide) (hts _ gw208) (fun _ h9 => h9) rfl d_Rd_passWrong_31 ?_
  refine lv_iload_n hx hb d_Rd_passWrong_34 rfl (lv_at hl 1 rfl) ?_
  refine lv_if_eq (tgt := 43) hx hb d_Rd_passWrong_35 (by decide) (fun hc => ?_) (fun hc => ?_)
  · replace h := h.1 hc
    refine lv_iconst (v := (3 : Int32)) hx hb d_Rd_passWrong_43 (by decide) ?_
    refine lv_aload_n hx hb d_Rd_passWrong_44 rfl (lv_at hl 0 rfl) ?_
    refine va_get (D := D) (ci := 2) (C := R_Rd) (T := T_Rd) (N := 5) hx hb hts in_Rd hown hK hst.1 12 (WS_o12 g σ) rfl 4 (by decide) (hts _ gw214) (fun _ h9 => h9) rfl d_Rd_passWrong_45 ?_
    refine kw_callv (va_runV (As := [.int (3 : Int32), .int (σ.1 12 4)]) (rest := []) (b := g.1 0) ⟨hx, hb, hml, hown, hts⟩ (c_Tr_blame_0 l (3 : Int32) (σ.1 12 4) h) (cwV 2 hts (gd_v gw638 gw639 gw640 gw7 gw641) rfl rfl rfl (by decide +kernel) ⟨Nat.le_of_ble_eq_true rfl, Nat.le_of_ble_eq_true rfl⟩) ⟨kw_blind (Zk_ok g), va_recv hK hst.1 rfl (WS_o0 g σ), kw_pre (Zk_ok g) hK hZ hA hst⟩ rfl rfl hl.1 rfl (lv_room (Nat.le_of_ble_eq_true rfl)) d_Rd_passWrong_48 ⟨Nat.le_of_ble_eq_true rfl, Nat.le_of_ble_eq_true rfl⟩) hst hA (fun σ1 H locs h hst => ?_)
    refine lv_aload_n hx hb d_Rd_passWrong_51 rfl (lv_at hl 0 rfl) ?_
    refine lv_dup hx hb d_Rd_passWrong_52 rfl ?_
    refine va_get (D := D) (ci := 2) (C := R_Rd) (T := T_Rd) (N := 5) hx hb hts in_Rd hown hK hst.1 12 (WS_o12 g σ1) rfl 4 (by decide) (hts _ gw214) (fun _ h9 => h9) rfl d_Rd_passWrong_53 ?_
    refine lv_iconst (v := (1 : Int32)) hx hb d_Rd_passWrong_56 (by decide) ?_
    refine lv_iadd hx hb d_Rd_passWrong_57 ?_
    refine kw_put (D := D) (ci := 2) (ty := .int) (C := R_Rd) (T := T_Rd) (N := 5) hx hb hts in_Rd ty_Rd ty_Rd_ok nm_Rd hown hK hst 12 (WS_o12 g σ1) rfl 4 (by decide) (hts _ gw214) (fun _ h9 => h9) rfl (by decide +kernel) rfl rfl (Nat.le_of_ble_eq_true rfl) (WS_p12_4 g σ1 _) d_Rd_passWrong_58 (fun σ2 H locs e2 hst => ?_)
    replace h := h σ2 e2
    exact kw_vret hx hb hr hlocks hst h d_Rd_passWrong_61
  · replace h := h.2 hc
    refine lv_bipush (v := (14 : Int32)) hx hb d_Rd_passWrong_38 (by decide) ?_
    refine lv_goto (tgt := 44) hx hb d_Rd_passWrong_40 (by decide) ?_
    refine lv_aload_n hx hb d_Rd_passWrong_44 rfl (lv_at hl 0 rfl) ?_
    refine va_get (D := D) (ci := 2) (C := R_Rd) (T := T_Rd) (N := 5) hx hb hts in_Rd hown hK hst.1 12 (WS_o12 g σ) rfl 4 (by decide) (hts _ gw214) (fun _ h9 => h9) rfl d_Rd_passWrong_45 ?_
    refine kw_callv (va_runV (As := [.int (14 : Int32), .int (σ.1 12 4)]) (rest := []) (b := g.1 0) ⟨hx, hb, hml, hown, hts⟩ (c_Tr_blame_0 l (14 : Int32) (σ.1 12 4) h) (cwV 2 hts (gd_v gw638 gw639 gw640 gw7 gw641) rfl rfl rfl (by decide +kernel) ⟨Nat.le_of_ble_eq_true rfl, Nat.le_of_ble_eq_true rfl⟩) ⟨kw_blind (Zk_ok g), va_recv hK hst.1 rfl (WS_o0 g σ), kw_pre (Zk_ok g) hK hZ hA hst⟩ rfl rfl hl.1 rfl (lv_room (Nat.le_of_ble_eq_true rfl)) d_Rd_passWrong_48 ⟨Nat.le_of_ble_eq_true rfl, Nat.le_of_ble_eq_true rfl⟩) hst hA (fun σ1 H locs h hst => ?_)
    refine lv_aload_n hx hb d_Rd_passWrong_51 rfl (lv_at hl 0 rfl) ?_
    refine lv_dup hx hb d_Rd_passWrong_52 rfl ?_
    refine va_get (D := D) (ci := 2) (C := R_Rd) (T := T_Rd) (N := 5) hx hb hts in_Rd hown hK hst.1 12 (WS_o12 g σ1) rfl 4 (by decide) (hts _ gw214) (fun _ h9 => h9) rfl d_Rd_passWrong_53 ?_
    refine lv_iconst (v := (1 : Int32)) hx hb d_Rd_passWrong_56 (by decide) ?_
    refine lv_iadd hx hb d_Rd_passWrong_57 ?_
    refine kw_put (D := D) (ci := 2) (ty := .int) (C := R_Rd) (T := T_Rd) (N := 5) hx hb hts in_Rd ty_Rd ty_Rd_ok nm_Rd hown hK hst 12 (WS_o12 g σ1) rfl 4 (by decide) (hts _ gw214) (fun _ h9 => h9) rfl (by decide +kernel) rfl rfl (Nat.le_of_ble_eq_true rfl) (WS_p12_4 g σ1 _) d_Rd_passWrong_58 (fun σ2 H locs e2 hst => ?_)
    replace h := h σ2 e2
    exact kw_vret hx hb hr hlocks hst h d_Rd_passWrong_61
set_option maxRecDepth 100000 in
set_option maxHeartbeats 4000000 in
theorem a_Rd_passWrong_0 {p : Program} {l : Launch} {e : Env} {s : State} {m : MethodId} {args : Array Value} {below : List Frame} {meth : Method} {c : Code} {D : va_G} {g : Gm} {A : Nat → Prop} {post : Sg → Prop} (C : kC p s m args meth c k_Rd_passWrong 3 (none) GW R_Rd D vwCl g (Zk g) A) : ∀ n : Nat, J_Rd_passWrong_0_1 p l e s m args below meth c D g A post (wp_Rd_passWrong 0 post n) ∧ J_Rd_passWrong_0_2 p l e s m args below meth c D g A post (wp_Rd_passWrong 0 post n) := by
  intro n
  induction n with
  | zero => exact ⟨fun _ _ _ _ _ _ h => h.elim, fun _ _ _ _ _ _ _ h => h.elim⟩
  | succ n ih => exact ⟨fun σ H locs ls hl hst h => b_Rd_passWrong_0_1 (F := wp_Rd_passWrong 0 post n) C (ih.2) σ H locs ls hl hst h, fun x2 σ H locs ls hl hst h => b_Rd_passWrong_0_2 (F := wp_Rd_passWrong 0 post n) C x2 σ H locs ls hl hst h⟩
set_option maxRecDepth 100000 in
set_option maxHeartbeats 4000000 in
theorem c_Rd_passWrong_0 (l : Launch) {D : va_G} {g : Gm} {sz : Nat} (x1 : Int32) {σ : Sg} {post : Sg → Prop} (h : wq_Rd_passWrong 0 x1 σ post) : Met l y_Rd_passWrong (.code y_Rd_passWrong k_Rd_passWrong 3 (none) :: GW) { frames := 1, cells := 0, slots := 0, locals := 22 } (PcW D vwCl (WS g) g (Zk g) σ sz [.ref (g.1 12), .int x1]) (QvW D vwCl (WS g) post (va_A (WS g σ) sz)) 0 0 (va_A (WS g σ) sz) := by
  refine kw_entry (own := R_Rd) (by decide) rfl rfl (Nat.le_of_ble_eq_true rfl) ?_
  intro p e s m below meth c ls hsz C hin hl hst
  obtain ⟨n, h⟩ := h
  cases n with
  | zero => exact h.elim
  | succ n =>
    have ih := a_Rd_passWrong_0 (l := l) (e := e) (below := below) (post := post) C n
    exact b_Rd_passWrong_0_0 (F := wp_Rd_passWrong 0 post n) C (ih.1) (ih.2) x1 σ _ _ ls hl hst h
def J_Rd_passWrong_13_1 (p : Program) (l : Launch) (e : Env) (s : State) (m : MethodId) (args : Array Value) (below : List Frame) (meth : Method) (c : Code) (D : va_G) (g : Gm) (A : Nat → Prop) (post : Sg → Prop) (F : Nat → Int32 → Int32 → Sg → Prop) : Prop := ∀ (σ : Sg) (H : Heap) (locs : List Loc) (ls : Array Slot), lv_has ls 3 [(0, .ref (g.1 25))] → Wst D vwCl (WS g) A s σ H locs → F 1 0 0 σ → W p l e { frames := 1, cells := 0, slots := 0, locals := 22 } s m args below meth c H locs 0 0 (MQ below (QvW D vwCl (WS g) post A) args s 0 0 A) (F0 m 28 ls [])
def J_Rd_passWrong_13_2 (p : Program) (l : Launch) (e : Env) (s : State) (m : MethodId) (args : Array Value) (below : List Frame) (meth : Method) (c : Code) (D : va_G) (g : Gm) (A : Nat → Prop) (post : Sg → Prop) (F : Nat → Int32 → Int32 → Sg → Prop) : Prop := ∀ (x2 : Int32) (σ : Sg) (H : Heap) (locs : List Loc) (ls : Array Slot), lv_has ls 3 [(0, .ref (g.1 25)), (2, .int x2)] → Wst D vwCl (WS g) A s σ H locs → F 2 0 x2 σ → W p l e { frames := 1, cells := 0, slots := 0, locals := 22 } s m args below meth c H locs 0 0 (MQ below (QvW D vwCl (WS g) post A) args s 0 0 A) (F0 m 30 ls [])
set_option maxRecDepth 100000 in
set_option maxHeartbeats 4000000 in
theorem b_Rd_passWrong_13_0 {p : Program} {l : Launch} {e : Env} {s : State} {m : MethodId} {args : Array Value} {below : List Frame} {meth : Method} {c : Code} {D : va_G} {g : Gm} {A : Nat → Prop} {post : Sg → Prop} {F : Nat → Int32 → Int32 → Sg → Prop} (C : kC p s m args meth c k_Rd_passWrong 3 (none) GW R_Rd D vwCl g (Zk g) A) (j1 : J_Rd_passWrong_13_1 p l e s m args below meth c D g A post F) (j2 : J_Rd_passWrong_13_2 p l e s m args below meth c D g A post F) (x1 : Int32) (σ : Sg) (H : Heap) (locs : List Loc) (ls : Array Slot) (hl : lv_has ls 3 [(0, .ref (g.1 25)), (1, .int x1)]) (hst : Wst D vwCl (WS g) A s σ H locs) (h : wb_Rd_passWrong_0 13 F post x1 σ) : W p l e { frames := 1, cells := 0, slots := 0, locals := 22 } s m args below meth c H locs 0 0 (MQ below (QvW D vwCl (WS g) post A) args s 0 0 A) (F0 m 0 ls []) := by
  obtain ⟨hx, hb, hr, hml, hown, hts, hlocks, hK, hZ, hA⟩ := C
  unfold wb_Rd_passWrong_0 at h
  refine lv_iload_n hx hb d_Rd_passWrong_0 rfl (lv_at hl 1 rfl) ?_
  refine lv_bipush (v := (8 : Int32)) hx hb d_Rd_passWrong_1 (by decide) ?_
  refine lv_icmp_lt (tgt := 28) hx hb d_Rd_passWrong_3 (by decide) (fun hc => ?_) (fun hc => ?_)
  · replace h := h.1 hc
    exact j1 σ _ _ _ (lv_sub hl [0] rfl) hst h
  · replace h := h.2 hc
    refine lv_aload_n hx hb d_Rd_passWrong_6 rfl (lv_at hl 0 rfl) ?_
    refine va_get (D := D) (ci := 2) (C := R_Rd) (T := T_Rd) (N := 5) hx hb hts in_Rd hown hK hst.1 25 (WS_o25 g σ) rfl 2 (by decide) (hts _ gw212) (fun _ h9 => h9) rfl d_Rd_passWrong_7 ?_
    refine va_get (D := D) (ci := 1) (C := R_Tx) (T := T_Tx) (N := 2) hx hb hts in_Tx hown hK hst.1 23 (WS_o23 g σ) rfl 0 (by decide) (hts _ gw107) (fun _ h9 => h9) rfl d_Rd_passWrong_10 ?_
    refine lv_aload_n hx hb d_Rd_passWrong_13 rfl (lv_at hl 0 rfl) ?_
    refine va_get (D := D) (ci := 2) (C := R_Rd) (T := T_Rd) (N := 5) hx hb hts in_Rd hown hK hst.1 25 (WS_o25 g σ) rfl 4 (by decide) (hts _ gw214) (fun _ h9 => h9) rfl d_Rd_passWrong_14 ?_
    obtain ⟨hi, h⟩ := h
    refine va_cald hx hb hK hst.1 24 1 (WS_a24 g σ) rfl hi d_Rd_passWrong_17 ?_
    refine kw_calli (va_runS (As := [.int (σ.1 24 ((σ.1 25 4) : Int32).toNatClampNeg)]) (rest := []) ⟨hx, hb, hml, hown, hts⟩ (c_Rd_opens l (σ.1 24 ((σ.1 25 4) : Int32).toNatClampNeg) h) (cwS 1 hts (gd_s gw625 gw626 gw9 gw627) rfl rfl rfl (by decide +kernel) ⟨Nat.le_of_ble_eq_true rfl, Nat.le_of_ble_eq_true rfl⟩) ⟨kw_blind (Zk_ok g), kw_pre (Zk_ok g) hK hZ hA hst⟩ rfl rfl hl.1 rfl (lv_room (Nat.le_of_ble_eq_true rfl)) d_Rd_passWrong_18 ⟨Nat.le_of_ble_eq_true rfl, Nat.le_of_ble_eq_true rfl⟩) hst hA (fun r1 σ1 H locs h hst => ?_)
    refine lv_if_eq (tgt := 28) hx hb d_Rd_passWrong_21 (by decide) (fun hc => ?_) (fun hc => ?_)
    · replace h := h.1 hc
      exact j1 σ1 _ _ _ (lv_sub hl [0] rfl) hst h
    · replace h := h.2 hc
      refine lv_iconst (v := (1 : Int32)) hx hb d_Rd_passWrong_24 (by decide) ?_
      refine lv_goto (tgt := 29) hx hb d_Rd_passWrong_25 (by decide) ?_
      refine lv_istore_n hx hb d_Rd_passWrong_29 rfl hl (by decide) rfl (fun ls hl => ?_)
      have hl : lv_has ls 3 [(2, .int (1 : Int32)), (0, .ref (g.1 25)), (1, .int x1)] := hl
      exact j2 (1 : Int32) σ1 _ _ _ (lv_sub hl [1, 0] rfl) hst h
set_option maxRecDepth 100000 in
set_option maxHeartbeats 4000000 in
theorem b_Rd_passWrong_13_1 {p : Program} {l : Launch} {e : Env} {s : State} {m : MethodId} {args : Array Value} {below : List Frame} {meth : Method} {c : Code} {D : va_G} {g : Gm} {A : Nat → Prop} {post : Sg → Prop} {F : Nat → Int32 → Int32 → Sg → Prop} (C : kC p s m args meth c k_Rd_passWrong 3 (none) GW R_Rd D vwCl g (Zk g) A) (j2 : J_Rd_passWrong_13_2 p l e s m args below meth c D g A post F) (σ : Sg) (H : Heap) (locs : List Loc) (ls : Array Slot) (hl : lv_has ls 3 [(0, .ref (g.1 25))]) (hst : Wst D vwCl (WS g) A s σ H locs) (h : wb_Rd_passWrong_1 13 F post σ) : W p l e { frames := 1, cells := 0, slots := 0, locals := 22 } s m args below meth c H locs 0 0 (MQ below (QvW D vwCl (WS g) post A) args s 0 0 A) (F0 m 28 ls []) := by
  obtain ⟨hx, hb, hr, hml, hown, hts, hlocks, hK, hZ, hA⟩ := C
  unfold wb_Rd_passWrong_1 at h
  refine lv_iconst (v := (0 : Int32)) hx hb d_Rd_passWrong_28 (by decide) ?_
  refine lv_istore_n hx hb d_Rd_passWrong_29 rfl hl (by decide) rfl (fun ls hl => ?_)
  have hl : lv_has ls 3 [(2, .int (0 : Int32)), (0, .ref (g.1 25))] := hl
  exact j2 (0 : Int32) σ _ _ _ (lv_sub hl [1, 0] rfl) hst h
set_option maxRecDepth 100000 in
set_option maxHeartbeats 4000000 in
theorem b_Rd_passWrong_13_2 {p : Program} {l : Launch} {e : Env} {s : State} {m : MethodId} {args : Array Value} {below : List Frame} {meth : Method} {c : Code} {D : va_G} {g : Gm} {A : Nat → Prop} {post : Sg → Prop} {F : Nat → Int32 → Int32 → Sg → Prop} (C : kC p s m args meth c k_Rd_passWrong 3 (none) GW R_Rd D vwCl g (Zk g) A) (x2 : Int32) (σ : Sg) (H : Heap) (locs : List Loc) (ls : Array Slot) (hl : lv_has ls 3 [(0, .ref (g.1 25)), (2, .int x2)]) (hst : Wst D vwCl (WS g) A s σ H locs) (h : wb_Rd_passWrong_2 13 F post x2 σ) : W p l e { frames := 1, cells := 0, slots := 0, locals := 22 } s m args below meth c H locs 0 0 (MQ below (QvW D vwCl (WS g) post A) args s 0 0 A) (F0 m 30 ls []) := by
  obtain ⟨hx, hb, hr, hml, hown, hts, hlocks, hK, hZ, hA⟩ := C
  unfold wb_Rd_passWrong_2 at h
  refine lv_aload_n hx hb d_Rd_passWrong_30 rfl (lv_at hl 0 rfl) ?_
  refine va_get (D := D) (ci := 2) (C := R_Rd) (T := T_Rd) (N := 5) hx hb hts in_Rd hown hK hst.1 25 (WS_o25 g σ) rfl 0 (by decide) (hts _ gw208) (fun _ h9 => h9) rfl d_Rd_passWrong_31 ?_
  refine lv_iload_n hx hb d_Rd_passWrong_34 rfl (lv_at hl 1 rfl) ?_
  refine lv_if_eq (tgt := 43) hx hb d_Rd_passWrong_35 (by decide) (fun hc => ?_) (fun hc => ?_)
  · replace h := h.1 hc
    refine lv_iconst (v := (3 : Int32)) hx hb d_Rd_passWrong_43 (by decide) ?_
    refine lv_aload_n hx hb d_Rd_passWrong_44 rfl (lv_at hl 0 rfl) ?_
    refine va_get (D := D) (ci := 2) (C := R_Rd) (T := T_Rd) (N := 5) hx hb hts in_Rd hown hK hst.1 25 (WS_o25 g σ) rfl 4 (by decide) (hts _ gw214) (fun _ h9 => h9) rfl d_Rd_passWrong_45 ?_
    refine kw_callv (va_runV (As := [.int (3 : Int32), .int (σ.1 25 4)]) (rest := []) (b := g.1 13) ⟨hx, hb, hml, hown, hts⟩ (c_Tr_blame_13 l (3 : Int32) (σ.1 25 4) h) (cwV 2 hts (gd_v gw638 gw639 gw640 gw7 gw641) rfl rfl rfl (by decide +kernel) ⟨Nat.le_of_ble_eq_true rfl, Nat.le_of_ble_eq_true rfl⟩) ⟨kw_blind (Zk_ok g), va_recv hK hst.1 rfl (WS_o13 g σ), kw_pre (Zk_ok g) hK hZ hA hst⟩ rfl rfl hl.1 rfl (lv_room (Nat.le_of_ble_eq_true rfl)) d_Rd_passWrong_48 ⟨Nat.le_of_ble_eq_true rfl, Nat.le_of_ble_eq_true rfl⟩) hst hA (fun σ1 H locs h hst => ?_)
    refine lv_aload_n hx hb d_Rd_passWrong_51 rfl (lv_at hl 0 rfl) ?_
    refine lv_dup hx hb d_Rd_passWrong_52 rfl ?_
    refine va_get (D := D) (ci := 2) (C := R_Rd) (T := T_Rd) (N := 5) hx hb hts in_Rd hown hK hst.1 25 (WS_o25 g σ1) rfl 4 (by decide) (hts _ gw214) (fun _ h9 => h9) rfl d_Rd_passWrong_53 ?_
    refine lv_iconst (v := (1 : Int32)) hx hb d_Rd_passWrong_56 (by decide) ?_
    refine lv_iadd hx hb d_Rd_passWrong_57 ?_
    refine kw_put (D := D) (ci := 2) (ty := .int) (C := R_Rd) (T := T_Rd) (N := 5) hx hb hts in_Rd ty_Rd ty_Rd_ok nm_Rd hown hK hst 25 (WS_o25 g σ1) rfl 4 (by decide) (hts _ gw214) (fun _ h9 => h9) rfl (by decide +kernel) rfl rfl (Nat.le_of_ble_eq_true rfl) (WS_p25_4 g σ1 _) d_Rd_passWrong_58 (fun σ2 H locs e2 hst => ?_)
    replace h := h σ2 e2
    exact kw_vret hx hb hr hlocks hst h d_Rd_passWrong_61
  · replace h := h.2 hc
    refine lv_bipush (v := (14 : Int32)) hx hb d_Rd_passWrong_38 (by decide) ?_
    refine lv_goto (tgt := 44) hx hb d_Rd_passWrong_40 (by decide) ?_
    refine lv_aload_n hx hb d_Rd_passWrong_44 rfl (lv_at hl 0 rfl) ?_
    refine va_get (D := D) (ci := 2) (C := R_Rd) (T := T_Rd) (N := 5) hx hb hts in_Rd hown hK hst.1 25 (WS_o25 g σ) rfl 4 (by decide) (hts _ gw214) (fun _ h9 => h9) rfl d_Rd_passWrong_45 ?_
    refine kw_callv (va_runV (As := [.int (14 : Int32), .int (σ.1 25 4)]) (rest := []) (b := g.1 13) ⟨hx, hb, hml, hown, hts⟩ (c_Tr_blame_13 l (14 : Int32) (σ.1 25 4) h) (cwV 2 hts (gd_v gw638 gw639 gw640 gw7 gw641) rfl rfl rfl (by decide +kernel) ⟨Nat.le_of_ble_eq_true rfl, Nat.le_of_ble_eq_true rfl⟩) ⟨kw_blind (Zk_ok g), va_recv hK hst.1 rfl (WS_o13 g σ), kw_pre (Zk_ok g) hK hZ hA hst⟩ rfl rfl hl.1 rfl (lv_room (Nat.le_of_ble_eq_true rfl)) d_Rd_passWrong_48 ⟨Nat.le_of_ble_eq_true rfl, Nat.le_of_ble_eq_true rfl⟩) hst hA (fun σ1 H locs h hst => ?_)
    refine lv_aload_n hx hb d_Rd_passWrong_51 rfl (lv_at hl 0 rfl) ?_
    refine lv_dup hx hb d_Rd_passWrong_52 rfl ?_
    refine va_get (D := D) (ci := 2) (C := R_Rd) (T := T_Rd) (N := 5) hx hb hts in_Rd hown hK hst.1 25 (WS_o25 g σ1) rfl 4 (by decide) (hts _ gw214) (fun _ h9 => h9) rfl d_Rd_passWrong_53 ?_
    refine lv_iconst (v := (1 : Int32)) hx hb d_Rd_passWrong_56 (by decide) ?_
    refine lv_iadd hx hb d_Rd_passWrong_57 ?_
    refine kw_put (D := D) (ci := 2) (ty := .int) (C := R_Rd) (T := T_Rd) (N := 5) hx hb hts in_Rd ty_Rd ty_Rd_ok nm_Rd hown hK hst 25 (WS_o25 g σ1) rfl 4 (by decide) (hts _ gw214) (fun _ h9 => h9) rfl (by decide +kernel) rfl rfl (Nat.le_of_ble_eq_true rfl) (WS_p25_4 g σ1 _) d_Rd_passWrong_58 (fun σ2 H locs e2 hst => ?_)
    replace h := h σ2 e2
    exact kw_vret hx hb hr hlocks hst h d_Rd_passWrong_61
set_option maxRecDepth 100000 in
set_option maxHeartbeats 4000000 in
theorem a_Rd_passWrong_13 {p : Program} {l : Launch} {e : Env} {s : State} {m : MethodId} {args : Array Value} {below : List Frame} {meth : Method} {c : Code} {D : va_G} {g : Gm} {A : Nat → Prop} {post : Sg → Prop} (C : kC p s m args meth c k_Rd_passWrong 3 (none) GW R_Rd D vwCl g (Zk g) A) : ∀ n : Nat, J_Rd_passWrong_13_1 p l e s m args below meth c D g A post (wp_Rd_passWrong 13 post n) ∧ J_Rd_passWrong_13_2 p l e s m args below meth c D g A post (wp_Rd_passWrong 13 post n) := by
  intro n
  induction n with
  | zero => exact ⟨fun _ _ _ _ _ _ h => h.elim, fun _ _ _ _ _ _ _ h => h.elim⟩
  | succ n ih => exact ⟨fun σ H locs ls hl hst h => b_Rd_passWrong_13_1 (F := wp_Rd_passWrong 13 post n) C (ih.2) σ H locs ls hl hst h, fun x2 σ H locs ls hl hst h => b_Rd_passWrong_13_2 (F := wp_Rd_passWrong 13 post n) C x2 σ H locs ls hl hst h⟩
set_option maxRecDepth 100000 in
set_option maxHeartbeats 4000000 in
theorem c_Rd_passWrong_13 (l : Launch) {D : va_G} {g : Gm} {sz : Nat} (x1 : Int32) {σ : Sg} {post : Sg → Prop} (h : wq_Rd_passWrong 13 x1 σ post) : Met l y_Rd_passWrong (.code y_Rd_passWrong k_Rd_passWrong 3 (none) :: GW) { frames := 1, cells := 0, slots := 0, locals := 22 } (PcW D vwCl (WS g) g (Zk g) σ sz [.ref (g.1 25), .int x1]) (QvW D vwCl (WS g) post (va_A (WS g σ) sz)) 0 0 (va_A (WS g σ) sz) := by
  refine kw_entry (own := R_Rd) (by decide) rfl rfl (Nat.le_of_ble_eq_true rfl) ?_
  intro p e s m below meth c ls hsz C hin hl hst
  obtain ⟨n, h⟩ := h
  cases n with
  | zero => exact h.elim
  | succ n =>
    have ih := a_Rd_passWrong_13 (l := l) (e := e) (below := below) (post := post) C n
    exact b_Rd_passWrong_13_0 (F := wp_Rd_passWrong 13 post n) C (ih.1) (ih.2) x1 σ _ _ ls hl hst h
/-! SchemaDesk$Reader.kindBegunBy (C)I -/
abbrev k_Rd_kindBegunBy : ByteArray := prog_5_method_7_code
abbrev y_Rd_kindBegunBy : MethodName := ⟨"SchemaDesk$Reader", "kindBegunBy", "(C)I"⟩
theorem d_Rd_kindBegunBy_0 : decode k_Rd_kindBegunBy 0 = .ok (.iload_n 0, 1) := by decide +kernel
theorem d_Rd_kindBegunBy_1 : decode k_Rd_kindBegunBy 1 = .ok (.bipush 123, 2) := by decide +kernel
theorem d_Rd_kindBegunBy_3 : decode k_Rd_kindBegunBy 3 = .ok (.if_icmp .ne 6, 3) := by decide +kernel
theorem d_Rd_kindBegunBy_6 : decode k_Rd_kindBegunBy 6 = .ok (.bipush 6, 2) := by decide +kernel
theorem d_Rd_kindBegunBy_8 : decode k_Rd_kindBegunBy 8 = .ok (.ireturn, 1) := by decide +kernel
theorem d_Rd_kindBegunBy_9 : decode k_Rd_kindBegunBy 9 = .ok (.iload_n 0, 1) := by decide +kernel
theorem d_Rd_kindBegunBy_10 : decode k_Rd_kindBegunBy 10 = .ok (.bipush 91, 2) := by decide +kernel
theorem d_Rd_kindBegunBy_12 : decode k_Rd_kindBegunBy 12 = .ok (.if_icmp .ne 5, 3) := by decide +kernel
theorem d_Rd_kindBegunBy_15 : decode k_Rd_kindBegunBy 15 = .ok (.iconst 5, 1) := by decide +kernel
theorem d_Rd_kindBegunBy_16 : decode k_Rd_kindBegunBy 16 = .ok (.ireturn, 1) := by decide +kernel
theorem d_Rd_kindBegunBy_17 : decode k_Rd_kindBegunBy 17 = .ok (.iload_n 0, 1) := by decide +kernel
theorem d_Rd_kindBegunBy_18 : decode k_Rd_kindBegunBy 18 = .ok (.bipush 34, 2) := by decide +kernel
theorem d_Rd_kindBegunBy_20 : decode k_Rd_kindBegunBy 20 = .ok (.if_icmp .ne 5, 3) := by decide +kernel
theorem d_Rd_kindBegunBy_23 : decode k_Rd_kindBegunBy 23 = .ok (.iconst 4, 1) := by decide +kernel
theorem d_Rd_kindBegunBy_24 : decode k_Rd_kindBegunBy 24 = .ok (.ireturn, 1) := by decide +kernel
theorem d_Rd_kindBegunBy_25 : decode k_Rd_kindBegunBy 25 = .ok (.iload_n 0, 1) := by decide +kernel
theorem d_Rd_kindBegunBy_26 : decode k_Rd_kindBegunBy 26 = .ok (.invokestatic 72, 3) := by decide +kernel
theorem d_Rd_kindBegunBy_29 : decode k_Rd_kindBegunBy 29 = .ok (.ifCond .eq 7, 3) := by decide +kernel
theorem d_Rd_kindBegunBy_32 : decode k_Rd_kindBegunBy 32 = .ok (.iconst 0, 1) := by decide +kernel
theorem d_Rd_kindBegunBy_33 : decode k_Rd_kindBegunBy 33 = .ok (.goto 4, 3) := by decide +kernel
theorem d_Rd_kindBegunBy_36 : decode k_Rd_kindBegunBy 36 = .ok (.iconst 3, 1) := by decide +kernel
theorem d_Rd_kindBegunBy_37 : decode k_Rd_kindBegunBy 37 = .ok (.ireturn, 1) := by decide +kernel
def wq_Rd_kindBegunBy (x0 : Int32) (σ : Sg) (post : Int32 → Sg → Prop) : Prop := ((¬ x0 = (123 : Int32) → ((¬ x0 = (91 : Int32) → ((¬ x0 = (34 : Int32) → (wq_Rd_isLowerLetter x0 σ (fun r1 σ1 => ((r1 = 0 → post (3 : Int32) σ1) ∧ (¬ r1 = 0 → post (0 : Int32) σ1))))) ∧ (x0 = (34 : Int32) → post (4 : Int32) σ))) ∧ (x0 = (91 : Int32) → post (5 : Int32) σ))) ∧ (x0 = (123 : Int32) → post (6 : Int32) σ))
set_option maxRecDepth 100000 in
set_option maxHeartbeats 4000000 in
theorem b_Rd_kindBegunBy_0 {p : Program} {l : Launch} {e : Env} {s : State} {m : MethodId} {args : Array Value} {below : List Frame} {meth : Method} {c : Code} {D : va_G} {g : Gm} {A : Nat → Prop} {post : Int32 → Sg → Prop} (C : kC p s m args meth c k_Rd_kindBegunBy 1 (some .int) GW R_Rd D vwCl g (Zk g) A) (x0 : Int32) (σ : Sg) (H : Heap) (locs : List Loc) (ls : Array Slot) (hl : lv_has ls 1 [(0, .int x0)]) (hst : Wst D vwCl (WS g) A s σ H locs) (h : wq_Rd_kindBegunBy x0 σ post) : W p l e { frames := 1, cells := 0, slots := 0, locals := 20 } s m args below meth c H locs 0 0 (MQ below (QiW D vwCl (WS g) post A) args s 0 0 A) (F0 m 0 ls []) := by
  obtain ⟨hx, hb, hr, hml, hown, hts, hlocks, hK, hZ, hA⟩ := C
  unfold wq_Rd_kindBegunBy at h
  refine lv_iload_n hx hb d_Rd_kindBegunBy_0 rfl (lv_at hl 0 rfl) ?_
  refine lv_bipush (v := (123 : Int32)) hx hb d_Rd_kindBegunBy_1 (by decide) ?_
  refine lv_icmp_ne (tgt := 9) hx hb d_Rd_kindBegunBy_3 (by decide) (fun hc => ?_) (fun hc => ?_)
  · replace h := h.1 hc
    refine lv_iload_n hx hb d_Rd_kindBegunBy_9 rfl (lv_at hl 0 rfl) ?_
    refine lv_bipush (v := (91 : Int32)) hx hb d_Rd_kindBegunBy_10 (by decide) ?_
    refine lv_icmp_ne (tgt := 17) hx hb d_Rd_kindBegunBy_12 (by decide) (fun hc => ?_) (fun hc => ?_)
    · replace h := h.1 hc
      refine lv_iload_n hx hb d_Rd_kindBegunBy_17 rfl (lv_at hl 0 rfl) ?_
      refine lv_bipush (v := (34 : Int32)) hx hb d_Rd_kindBegunBy_18 (by decide) ?_
      refine lv_icmp_ne (tgt := 25) hx hb d_Rd_kindBegunBy_20 (by decide) (fun hc => ?_) (fun hc => ?_)
      · replace h := h.1 hc
        refine lv_iload_n hx hb d_Rd_kindBegunBy_25 rfl (lv_at hl 0 rfl) ?_
        refine kw_calli (va_runS (As := [.int x0]) (rest := []) ⟨hx, hb, hml, hown, hts⟩ (c_Rd_isLowerLetter l x0 h) (cwS 1 hts (gd_s gw631 gw632 gw9 gw633) rfl rfl rfl (by decide +kernel) ⟨Nat.le_of_ble_eq_true rfl, Nat.le_of_ble_eq_true rfl⟩) ⟨kw_blind (Zk_ok g), kw_pre (Zk_ok g) hK hZ hA hst⟩ rfl rfl hl.1 rfl (lv_room (Nat.le_of_ble_eq_true rfl)) d_Rd_kindBegunBy_26 ⟨Nat.le_of_ble_eq_true rfl, Nat.le_of_ble_eq_true rfl⟩) hst hA (fun r1 σ1 H locs h hst => ?_)
        refine lv_if_eq (tgt := 36) hx hb d_Rd_kindBegunBy_29 (by decide) (fun hc => ?_) (fun hc => ?_)
        · replace h := h.1 hc
          refine lv_iconst (v := (3 : Int32)) hx hb d_Rd_kindBegunBy_36 (by decide) ?_
          exact kw_iret hx hb hr hlocks hst h d_Rd_kindBegunBy_37
        · replace h := h.2 hc
          refine lv_iconst (v := (0 : Int32)) hx hb d_Rd_kindBegunBy_32 (by decide) ?_
          refine lv_goto (tgt := 37) hx hb d_Rd_kindBegunBy_33 (by decide) ?_
          exact kw_iret hx hb hr hlocks hst h d_Rd_kindBegunBy_37
      · replace h := h.2 hc
        refine lv_iconst (v := (4 : Int32)) hx hb d_Rd_kindBegunBy_23 (by decide) ?_
        exact kw_iret hx hb hr hlocks hst h d_Rd_kindBegunBy_24
    · replace h := h.2 hc
      refine lv_iconst (v := (5 : Int32)) hx hb d_Rd_kindBegunBy_15 (by decide) ?_
      exact kw_iret hx hb hr hlocks hst h d_Rd_kindBegunBy_16
  · replace h := h.2 hc
    refine lv_bipush (v := (6 : Int32)) hx hb d_Rd_kindBegunBy_6 (by decide) ?_
    exact kw_iret hx hb hr hlocks hst h d_Rd_kindBegunBy_8
set_option maxRecDepth 100000 in
set_option maxHeartbeats 4000000 in
theorem c_Rd_kindBegunBy (l : Launch) {D : va_G} {g : Gm} {sz : Nat} (x0 : Int32) {σ : Sg} {post : Int32 → Sg → Prop} (h : wq_Rd_kindBegunBy x0 σ post) : Met l y_Rd_kindBegunBy (.code y_Rd_kindBegunBy k_Rd_kindBegunBy 1 (some .int) :: GW) { frames := 1, cells := 0, slots := 0, locals := 20 } (PcW D vwCl (WS g) g (Zk g) σ sz [.int x0]) (QiW D vwCl (WS g) post (va_A (WS g σ) sz)) 0 0 (va_A (WS g σ) sz) := by
  refine kw_entry (own := R_Rd) (by decide) rfl rfl (Nat.le_of_ble_eq_true rfl) ?_
  intro p e s m below meth c ls hsz C hin hl hst
  exact b_Rd_kindBegunBy_0 C x0 σ _ _ ls hl hst h
/-! SchemaDesk$Reader.passQuoted ()V -/
abbrev k_Rd_passQuoted : ByteArray := prog_5_method_10_code
abbrev y_Rd_passQuoted : MethodName := ⟨"SchemaDesk$Reader", "passQuoted", "()V"⟩
theorem d_Rd_passQuoted_0 : decode k_Rd_passQuoted 0 = .ok (.aload_n 0, 1) := by decide +kernel
theorem d_Rd_passQuoted_1 : decode k_Rd_passQuoted 1 = .ok (.getfield 21, 3) := by decide +kernel
theorem d_Rd_passQuoted_4 : decode k_Rd_passQuoted 4 = .ok (.aload_n 0, 1) := by decide +kernel
theorem d_Rd_passQuoted_5 : decode k_Rd_passQuoted 5 = .ok (.getfield 33, 3) := by decide +kernel
theorem d_Rd_passQuoted_8 : decode k_Rd_passQuoted 8 = .ok (.iconst 1, 1) := by decide +kernel
theorem d_Rd_passQuoted_9 : decode k_Rd_passQuoted 9 = .ok (.iadd, 1) := by decide +kernel
theorem d_Rd_passQuoted_10 : decode k_Rd_passQuoted 10 = .ok (.invokevirtual 112, 3) := by decide +kernel
theorem d_Rd_passQuoted_13 : decode k_Rd_passQuoted 13 = .ok (.istore_n 1, 1) := by decide +kernel
theorem d_Rd_passQuoted_14 : decode k_Rd_passQuoted 14 = .ok (.iload_n 1, 1) := by decide +kernel
theorem d_Rd_passQuoted_15 : decode k_Rd_passQuoted 15 = .ok (.aload_n 0, 1) := by decide +kernel
theorem d_Rd_passQuoted_16 : decode k_Rd_passQuoted 16 = .ok (.getfield 21, 3) := by decide +kernel
theorem d_Rd_passQuoted_19 : decode k_Rd_passQuoted 19 = .ok (.getfield 40, 3) := by decide +kernel
theorem d_Rd_passQuoted_22 : decode k_Rd_passQuoted 22 = .ok (.if_icmp .ge 13, 3) := by decide +kernel
theorem d_Rd_passQuoted_25 : decode k_Rd_passQuoted 25 = .ok (.aload_n 0, 1) := by decide +kernel
theorem d_Rd_passQuoted_26 : decode k_Rd_passQuoted 26 = .ok (.iload_n 1, 1) := by decide +kernel
theorem d_Rd_passQuoted_27 : decode k_Rd_passQuoted 27 = .ok (.iconst 1, 1) := by decide +kernel
theorem d_Rd_passQuoted_28 : decode k_Rd_passQuoted 28 = .ok (.iadd, 1) := by decide +kernel
theorem d_Rd_passQuoted_29 : decode k_Rd_passQuoted 29 = .ok (.putfield 33, 3) := by decide +kernel
theorem d_Rd_passQuoted_32 : decode k_Rd_passQuoted 32 = .ok (.goto 20, 3) := by decide +kernel
theorem d_Rd_passQuoted_35 : decode k_Rd_passQuoted 35 = .ok (.aload_n 0, 1) := by decide +kernel
theorem d_Rd_passQuoted_36 : decode k_Rd_passQuoted 36 = .ok (.getfield 9, 3) := by decide +kernel
theorem d_Rd_passQuoted_39 : decode k_Rd_passQuoted 39 = .ok (.iconst 4, 1) := by decide +kernel
theorem d_Rd_passQuoted_40 : decode k_Rd_passQuoted 40 = .ok (.aload_n 0, 1) := by decide +kernel
theorem d_Rd_passQuoted_41 : decode k_Rd_passQuoted 41 = .ok (.getfield 33, 3) := by decide +kernel
theorem d_Rd_passQuoted_44 : decode k_Rd_passQuoted 44 = .ok (.invokevirtual 53, 3) := by decide +kernel
theorem d_Rd_passQuoted_47 : decode k_Rd_passQuoted 47 = .ok (.aload_n 0, 1) := by decide +kernel
theorem d_Rd_passQuoted_48 : decode k_Rd_passQuoted 48 = .ok (.iload_n 1, 1) := by decide +kernel
theorem d_Rd_passQuoted_49 : decode k_Rd_passQuoted 49 = .ok (.putfield 33, 3) := by decide +kernel
theorem d_Rd_passQuoted_52 : decode k_Rd_passQuoted 52 = .ok (.return_, 1) := by decide +kernel
theorem gw665 : (Jvm.Cond.methodLink "SchemaDesk$Reader" (112 : Nat) ({ cls := "SchemaDesk$Text", name := "quotedEnd", desc := "(I)I" } : Jvm.MethodName)) ∈ GW := gw_t3 (List.mem_of_getElem? (i := 185) rfl) rfl
def wq_Rd_passQuoted (b : Nat) (σ : Sg) (post : Sg → Prop) : Prop := (wq_Tx_quotedEnd b ((σ.1 (b + 12) 4) + (1 : Int32)) σ (fun r1 σ1 => (((σ1.1 (b + 10) 1) ≤ r1 → (wq_Tr_blame b (4 : Int32) (σ1.1 (b + 12) 4) σ1 (fun σ2 => (∀ σ3, σ3 = si σ2 (b + 12) 4 r1 → post σ3)))) ∧ (¬ (σ1.1 (b + 10) 1) ≤ r1 → (∀ σ2, σ2 = si σ1 (b + 12) 4 (r1 + (1 : Int32)) → post σ2)))))
set_option maxRecDepth 100000 in
set_option maxHeartbeats 4000000 in
theorem b_Rd_passQuoted_0_0 {p : Program} {l : Launch} {e : Env} {s : State} {m : MethodId} {args : Array Value} {below : List Frame} {meth : Method} {c : Code} {D : va_G} {g : Gm} {A : Nat → Prop} {post : Sg → Prop} (C : kC p s m args meth c k_Rd_passQuoted 2 (none) GW R_Rd D vwCl g (Zk g) A) (σ : Sg) (H : Heap) (locs : List Loc) (ls : Array Slot) (hl : lv_has ls 2 [(0, .ref (g.1 12))]) (hst : Wst D vwCl (WS g) A s σ H locs) (h : wq_Rd_passQuoted 0  σ post) : W p l e { frames := 1, cells := 0, slots := 0, locals := 22 } s m args below meth c H locs 0 0 (MQ below (QvW D vwCl (WS g) post A) args s 0 0 A) (F0 m 0 ls []) := by
  obtain ⟨hx, hb, hr, hml, hown, hts, hlocks, hK, hZ, hA⟩ := C
  unfold wq_Rd_passQuoted at h
  refine lv_aload_n hx hb d_Rd_passQuoted_0 rfl (lv_at hl 0 rfl) ?_
  refine va_get (D := D) (ci := 2) (C := R_Rd) (T := T_Rd) (N := 5) hx hb hts in_Rd hown hK hst.1 12 (WS_o12 g σ) rfl 2 (by decide) (hts _ gw212) (fun _ h9 => h9) rfl d_Rd_passQuoted_1 ?_
  refine lv_aload_n hx hb d_Rd_passQuoted_4 rfl (lv_at hl 0 rfl) ?_
  refine va_get (D := D) (ci := 2) (C := R_Rd) (T := T_Rd) (N := 5) hx hb hts in_Rd hown hK hst.1 12 (WS_o12 g σ) rfl 4 (by decide) (hts _ gw214) (fun _ h9 => h9) rfl d_Rd_passQuoted_5 ?_
  refine lv_iconst (v := (1 : Int32)) hx hb d_Rd_passQuoted_8 (by decide) ?_
  refine lv_iadd hx hb d_Rd_passQuoted_9 ?_
  refine kw_calli (va_runV (As := [.int ((σ.1 12 4) + (1 : Int32))]) (rest := []) (b := g.1 10) ⟨hx, hb, hml, hown, hts⟩ (c_Tx_quotedEnd_0 l ((σ.1 12 4) + (1 : Int32)) h) (cwV 1 hts (gd_v gw665 gw666 gw667 gw8 gw668) rfl rfl rfl (by decide +kernel) ⟨Nat.le_of_ble_eq_true rfl, Nat.le_of_ble_eq_true rfl⟩) ⟨kw_blind (Zk_ok g), va_recv hK hst.1 rfl (WS_o10 g σ), kw_pre (Zk_ok g) hK hZ hA hst⟩ rfl rfl hl.1 rfl (lv_room (Nat.le_of_ble_eq_true rfl)) d_Rd_passQuoted_10 ⟨Nat.le_of_ble_eq_true rfl, Nat.le_of_ble_eq_true rfl⟩) hst hA (fun r1 σ1 H locs h hst => ?_)
  refine lv_istore_n hx hb d_Rd_passQuoted_13 rfl hl (by decide) rfl (fun ls hl => ?_)
  have hl : lv_has ls 2 [(1, .int r1), (0, .ref (g.1 12))] := hl
  refine lv_iload_n hx hb d_Rd_passQuoted_14 rfl (lv_at hl 0 rfl) ?_
  refine lv_aload_n hx hb d_Rd_passQuoted_15 rfl (lv_at hl 1 rfl) ?_
  refine va_get (D := D) (ci := 2) (C := R_Rd) (T := T_Rd) (N := 5) hx hb hts in_Rd hown hK hst.1 12 (WS_o12 g σ1) rfl 2 (by decide) (hts _ gw212) (fun _ h9 => h9) rfl d_Rd_passQuoted_16 ?_
  refine va_get (D := D) (ci := 1) (C := R_Tx) (T := T_Tx) (N := 2) hx hb hts in_Tx hown hK hst.1 10 (WS_o10 g σ1) rfl 1 (by decide) (hts _ gw114) (fun _ h9 => h9) rfl d_Rd_passQuoted_19 ?_
  refine lv_icmp_ge (tgt := 35) hx hb d_Rd_passQuoted_22 (by decide) (fun hc => ?_) (fun hc => ?_)
  · replace h := h.1 hc
    refine lv_aload_n hx hb d_Rd_passQuoted_35 rfl (lv_at hl 1 rfl) ?_
    refine va_get (D := D) (ci := 2) (C := R_Rd) (T := T_Rd) (N := 5) hx hb hts in_Rd hown hK hst.1 12 (WS_o12 g σ1) rfl 0 (by decide) (hts _ gw208) (fun _ h9 => h9) rfl d_Rd_passQuoted_36 ?_
    refine lv_iconst (v := (4 : Int32)) hx hb d_Rd_passQuoted_39 (by decide) ?_
    refine lv_aload_n hx hb d_Rd_passQuoted_40 rfl (lv_at hl 1 rfl) ?_
    refine va_get (D := D) (ci := 2) (C := R_Rd) (T := T_Rd) (N := 5) hx hb hts in_Rd hown hK hst.1 12 (WS_o12 g σ1) rfl 4 (by decide) (hts _ gw214) (fun _ h9 => h9) rfl d_Rd_passQuoted_41 ?_
    refine kw_callv (va_runV (As := [.int (4 : Int32), .int (σ1.1 12 4)]) (rest := []) (b := g.1 0) ⟨hx, hb, hml, hown, hts⟩ (c_Tr_blame_0 l (4 : Int32) (σ1.1 12 4) h) (cwV 2 hts (gd_v gw638 gw639 gw640 gw7 gw641) rfl rfl rfl (by decide +kernel) ⟨Nat.le_of_ble_eq_true rfl, Nat.le_of_ble_eq_true rfl⟩) ⟨kw_blind (Zk_ok g), va_recv hK hst.1 rfl (WS_o0 g σ1), kw_pre (Zk_ok g) hK hZ hA hst⟩ rfl rfl hl.1 rfl (lv_room (Nat.le_of_ble_eq_true rfl)) d_Rd_passQuoted_44 ⟨Nat.le_of_ble_eq_true rfl, Nat.le_of_ble_eq_true rfl⟩) hst hA (fun σ2 H locs h hst => ?_)
    refine lv_aload_n hx hb d_Rd_passQuoted_47 rfl (lv_at hl 1 rfl) ?_
    refine lv_iload_n hx hb d_Rd_passQuoted_48 rfl (lv_at hl 0 rfl) ?_
    refine kw_put (D := D) (ci := 2) (ty := .int) (C := R_Rd) (T := T_Rd) (N := 5) hx hb hts in_Rd ty_Rd ty_Rd_ok nm_Rd hown hK hst 12 (WS_o12 g σ2) rfl 4 (by decide) (hts _ gw214) (fun _ h9 => h9) rfl (by decide +kernel) rfl rfl (Nat.le_of_ble_eq_true rfl) (WS_p12_4 g σ2 _) d_Rd_passQuoted_49 (fun σ3 H locs e3 hst => ?_)
    replace h := h σ3 e3
    exact kw_vret hx hb hr hlocks hst h d_Rd_passQuoted_52
  · replace h := h.2 hc
    refine lv_aload_n hx hb d_Rd_passQuoted_25 rfl (lv_at hl 1 rfl) ?_
    refine lv_iload_n hx hb d_Rd_passQuoted_26 rfl (lv_at hl 0 rfl) ?_
    refine lv_iconst (v := (1 : Int32)) hx hb d_Rd_passQuoted_27 (by decide) ?_
    refine lv_iadd hx hb d_Rd_passQuoted_28 ?_
    refine kw_put (D := D) (ci := 2) (ty := .int) (C := R_Rd) (T := T_Rd) (N := 5) hx hb hts in_Rd ty_Rd ty_Rd_ok nm_Rd hown hK hst 12 (WS_o12 g σ1) rfl 4 (by decide) (hts _ gw214) (fun _ h9 => h9) rfl (by decide +kernel) rfl rfl (Nat.le_of_ble_eq_true rfl) (WS_p12_4 g σ1 _) d_Rd_passQuoted_29 (fun σ2 H locs e2 hst => ?_)
    replace h := h σ2 e2
    refine lv_goto (tgt := 52) hx hb d_Rd_passQuoted_32 (by decide) ?_
    exact kw_vret hx hb hr hlocks hst h d_Rd_passQuoted_52
set_option maxRecDepth 100000 in
set_option maxHeartbeats 4000000 in
theorem c_Rd_passQuoted_0 (l : Launch) {D : va_G} {g : Gm} {sz : Nat} {σ : Sg} {post : Sg → Prop} (h : wq_Rd_passQuoted 0 σ post) : Met l y_Rd_passQuoted (.code y_Rd_passQuoted k_Rd_passQuoted 2 (none) :: GW) { frames := 1, cells := 0, slots := 0, locals := 22 } (PcW D vwCl (WS g) g (Zk g) σ sz [.ref (g.1 12)]) (QvW D vwCl (WS g) post (va_A (WS g σ) sz)) 0 0 (va_A (WS g σ) sz) := by
  refine kw_entry (own := R_Rd) (by decide) rfl rfl (Nat.le_of_ble_eq_true rfl) ?_
  intro p e s m below meth c ls hsz C hin hl hst
  exact b_Rd_passQuoted_0_0 C σ _ _ ls hl hst h
set_option maxRecDepth 100000 in
set_option maxHeartbeats 4000000 in
theorem b_Rd_passQuoted_13_0 {p : Program} {l : Launch} {e : Env} {s : State} {m : MethodId} {args : Array Value} {below : List Frame} {meth : Method} {c : Code} {D : va_G} {g : Gm} {A : Nat → Prop} {post : Sg → Prop} (C : kC p s m args meth c k_Rd_passQuoted 2 (none) GW R_Rd D vwCl g (Zk g) A) (σ : Sg) (H : Heap) (locs : List Loc) (ls : Array Slot) (hl : lv_has ls 2 [(0, .ref (g.1 25))]) (hst : Wst D vwCl (WS g) A s σ H locs) (h : wq_Rd_passQuoted 13  σ post) : W p l e { frames := 1, cells := 0, slots := 0, locals := 22 } s m args below meth c H locs 0 0 (MQ below (QvW D vwCl (WS g) post A) args s 0 0 A) (F0 m 0 ls []) := by
  obtain ⟨hx, hb, hr, hml, hown, hts, hlocks, hK, hZ, hA⟩ := C
  unfold wq_Rd_passQuoted at h
  refine lv_aload_n hx hb d_Rd_passQuoted_0 rfl (lv_at hl 0 rfl) ?_
  refine va_get (D := D) (ci := 2) (C := R_Rd) (T := T_Rd) (N := 5) hx hb hts in_Rd hown hK hst.1 25 (WS_o25 g σ) rfl 2 (by decide) (hts _ gw212) (fun _ h9 => h9) rfl d_Rd_passQuoted_1 ?_
  refine lv_aload_n hx hb d_Rd_passQuoted_4 rfl (lv_at hl 0 rfl) ?_
  refine va_get (D := D) (ci := 2) (C := R_Rd) (T := T_Rd) (N := 5) hx hb hts in_Rd hown hK hst.1 25 (WS_o25 g σ) rfl 4 (by decide) (hts _ gw214) (fun _ h9 => h9) rfl d_Rd_passQuoted_5 ?_
  refine lv_iconst (v := (1 : Int32)) hx hb d_Rd_passQuoted_8 (by decide) ?_
  refine lv_iadd hx hb d_Rd_passQuoted_9 ?_
  refine kw_calli (va_runV (As := [.int ((σ.1 25 4) + (1 : Int32))]) (rest := []) (b := g.1 23) ⟨hx, hb, hml, hown, hts⟩ (c_Tx_quotedEnd_13 l ((σ.1 25 4) + (1 : Int32)) h) (cwV 1 hts (gd_v gw665 gw666 gw667 gw8 gw668) rfl rfl rfl (by decide +kernel) ⟨Nat.le_of_ble_eq_true rfl, Nat.le_of_ble_eq_true rfl⟩) ⟨kw_blind (Zk_ok g), va_recv hK hst.1 rfl (WS_o23 g σ), kw_pre (Zk_ok g) hK hZ hA hst⟩ rfl rfl hl.1 rfl (lv_room (Nat.le_of_ble_eq_true rfl)) d_Rd_passQuoted_10 ⟨Nat.le_of_ble_eq_true rfl, Nat.le_of_ble_eq_true rfl⟩) hst hA (fun r1 σ1 H locs h hst => ?_)
  refine lv_istore_n hx hb d_Rd_passQuoted_13 rfl hl (by decide) rfl (fun ls hl => ?_)
  have hl : lv_has ls 2 [(1, .int r1), (0, .ref (g.1 25))] := hl
  refine lv_iload_n hx hb d_Rd_passQuoted_14 rfl (lv_at hl 0 rfl) ?_
  refine lv_aload_n hx hb d_Rd_passQuoted_15 rfl (lv_at hl 1 rfl) ?_
  refine va_get (D := D) (ci := 2) (C := R_Rd) (T := T_Rd) (N := 5) hx hb hts in_Rd hown hK hst.1 25 (WS_o25 g σ1) rfl 2 (by decide) (hts _ gw212) (fun _ h9 => h9) rfl d_Rd_passQuoted_16 ?_
  refine va_get (D := D) (ci := 1) (C := R_Tx) (T := T_Tx) (N := 2) hx hb hts in_Tx hown hK hst.1 23 (WS_o23 g σ1) rfl 1 (by decide) (hts _ gw114) (fun _ h9 => h9) rfl d_Rd_passQuoted_19 ?_
  refine lv_icmp_ge (tgt := 35) hx hb d_Rd_passQuoted_22 (by decide) (fun hc => ?_) (fun hc => ?_)
  · replace h := h.1 hc
    refine lv_aload_n hx hb d_Rd_passQuoted_35 rfl (lv_at hl 1 rfl) ?_
    refine va_get (D := D) (ci := 2) (C := R_Rd) (T := T_Rd) (N := 5) hx hb hts in_Rd hown hK hst.1 25 (WS_o25 g σ1) rfl 0 (by decide) (hts _ gw208) (fun _ h9 => h9) rfl d_Rd_passQuoted_36 ?_
    refine lv_iconst (v := (4 : Int32)) hx hb d_Rd_passQuoted_39 (by decide) ?_
    refine lv_aload_n hx hb d_Rd_passQuoted_40 rfl (lv_at hl 1 rfl) ?_
    refine va_get (D := D) (ci := 2) (C := R_Rd) (T := T_Rd) (N := 5) hx hb hts in_Rd hown hK hst.1 25 (WS_o25 g σ1) rfl 4 (by decide) (hts _ gw214) (fun _ h9 => h9) rfl d_Rd_passQuoted_41 ?_
    refine kw_callv (va_runV (As := [.int (4 : Int32), .int (σ1.1 25 4)]) (rest := []) (b := g.1 13) ⟨hx, hb, hml, hown, hts⟩ (c_Tr_blame_13 l (4 : Int32) (σ1.1 25 4) h) (cwV 2 hts (gd_v gw638 gw639 gw640 gw7 gw641) rfl rfl rfl (by decide +kernel) ⟨Nat.le_of_ble_eq_true rfl, Nat.le_of_ble_eq_true rfl⟩) ⟨kw_blind (Zk_ok g), va_recv hK hst.1 rfl (WS_o13 g σ1), kw_pre (Zk_ok g) hK hZ hA hst⟩ rfl rfl hl.1 rfl (lv_room (Nat.le_of_ble_eq_true rfl)) d_Rd_passQuoted_44 ⟨Nat.le_of_ble_eq_true rfl, Nat.le_of_ble_eq_true rfl⟩) hst hA (fun σ2 H locs h hst => ?_)
    refine lv_aload_n hx hb d_Rd_passQuoted_47 rfl (lv_at hl 1 rfl) ?_
    refine lv_iload_n hx hb d_Rd_passQuoted_48 rfl (lv_at hl 0 rfl) ?_
    refine kw_put (D := D) (ci := 2) (ty := .int) (C := R_Rd) (T := T_Rd) (N := 5) hx hb hts in_Rd ty_Rd ty_Rd_ok nm_Rd hown hK hst 25 (WS_o25 g σ2) rfl 4 (by decide) (hts _ gw214) (fun _ h9 => h9) rfl (by decide +kernel) rfl rfl (Nat.le_of_ble_eq_true rfl) (WS_p25_4 g σ2 _) d_Rd_passQuoted_49 (fun σ3 H locs e3 hst => ?_)
    replace h := h σ3 e3
    exact kw_vret hx hb hr hlocks hst h d_Rd_passQuoted_52
  · replace h := h.2 hc
    refine lv_aload_n hx hb d_Rd_passQuoted_25 rfl (lv_at hl 1 rfl) ?_
    refine lv_iload_n hx hb d_Rd_passQuoted_26 rfl (lv_at hl 0 rfl) ?_
    refine lv_iconst (v := (1 : Int32)) hx hb d_Rd_passQuoted_27 (by decide) ?_
    refine lv_iadd hx hb d_Rd_passQuoted_28 ?_
    refine kw_put (D := D) (ci := 2) (ty := .int) (C := R_Rd) (T := T_Rd) (N := 5) hx hb hts in_Rd ty_Rd ty_Rd_ok nm_Rd hown hK hst 25 (WS_o25 g σ1) rfl 4 (by decide) (hts _ gw214) (fun _ h9 => h9) rfl (by decide +kernel) rfl rfl (Nat.le_of_ble_eq_true rfl) (WS_p25_4 g σ1 _) d_Rd_passQuoted_29 (fun σ2 H locs e2 hst => ?_)
    replace h := h σ2 e2
    refine lv_goto (tgt := 52) hx hb d_Rd_passQuoted_32 (by decide) ?_
    exact kw_vret hx hb hr hlocks hst h d_Rd_passQuoted_52
set_option maxRecDepth 100000 in
set_option maxHeartbeats 4000000 in
theorem c_Rd_passQuoted_13 (l : Launch) {D : va_G} {g : Gm} {sz : Nat} {σ : Sg} {post : Sg → Prop} (h : wq_Rd_passQuoted 13 σ post) : Met l y_Rd_passQuoted (.code y_Rd_passQuoted k_Rd_passQuoted 2 (none) :: GW) { frames := 1, cells := 0, slots := 0, locals := 22 } (PcW D vwCl (WS g) g (Zk g) σ sz [.ref (g.1 25)]) (QvW D vwCl (WS g) post (va_A (WS g σ) sz)) 0 0 (va_A (WS g σ) sz) := by
  refine kw_entry (own := R_Rd) (by decide) rfl rfl (Nat.le_of_ble_eq_true rfl) ?_
  intro p e s m below meth c ls hsz C hin hl hst
  exact b_Rd_passQuoted_13_0 C σ _ _ ls hl hst h
/-! SchemaDesk$Reader.readNumber (I)V -/
abbrev k_Rd_readNumber : ByteArray := prog_5_method_11_code
abbrev y_Rd_readNumber : MethodName := ⟨"SchemaDesk$Reader", "readNumber", "(I)V"⟩
theorem d_Rd_readNumber_0 : decode k_Rd_readNumber 0 = .ok (.aload_n 0, 1) := by decide +kernel
theorem d_Rd_readNumber_1 : decode k_Rd_readNumber 1 = .ok (.getfield 33, 3) := by decide +kernel
theorem d_Rd_readNumber_4 : decode k_Rd_readNumber 4 = .ok (.istore_n 2, 1) := by decide +kernel
theorem d_Rd_readNumber_5 : decode k_Rd_readNumber 5 = .ok (.aload_n 0, 1) := by decide +kernel
theorem d_Rd_readNumber_6 : decode k_Rd_readNumber 6 = .ok (.getfield 21, 3) := by decide +kernel
theorem d_Rd_readNumber_9 : decode k_Rd_readNumber 9 = .ok (.getfield 61, 3) := by decide +kernel
theorem d_Rd_readNumber_12 : decode k_Rd_readNumber 12 = .ok (.aload_n 0, 1) := by decide +kernel
theorem d_Rd_readNumber_13 : decode k_Rd_readNumber 13 = .ok (.getfield 33, 3) := by decide +kernel
theorem d_Rd_readNumber_16 : decode k_Rd_readNumber 16 = .ok (.caload, 1) := by decide +kernel
theorem d_Rd_readNumber_17 : decode k_Rd_readNumber 17 = .ok (.bipush 45, 2) := by decide +kernel
theorem d_Rd_readNumber_19 : decode k_Rd_readNumber 19 = .ok (.if_icmp .ne 7, 3) := by decide +kernel
theorem d_Rd_readNumber_22 : decode k_Rd_readNumber 22 = .ok (.iconst 1, 1) := by decide +kernel
theorem d_Rd_readNumber_23 : decode k_Rd_readNumber 23 = .ok (.goto 4, 3) := by decide +kernel
theorem d_Rd_readNumber_26 : decode k_Rd_readNumber 26 = .ok (.iconst 0, 1) := by decide +kernel
theorem d_Rd_readNumber_27 : decode k_Rd_readNumber 27 = .ok (.istore_n 3, 1) := by decide +kernel
theorem d_Rd_readNumber_28 : decode k_Rd_readNumber 28 = .ok (.iload_n 3, 1) := by decide +kernel
theorem d_Rd_readNumber_29 : decode k_Rd_readNumber 29 = .ok (.ifCond .eq 13, 3) := by decide +kernel
theorem d_Rd_readNumber_32 : decode k_Rd_readNumber 32 = .ok (.aload_n 0, 1) := by decide +kernel
theorem d_Rd_readNumber_33 : decode k_Rd_readNumber 33 = .ok (.dup, 1) := by decide +kernel
theorem d_Rd_readNumber_34 : decode k_Rd_readNumber 34 = .ok (.getfield 33, 3) := by decide +kernel
theorem d_Rd_readNumber_37 : decode k_Rd_readNumber 37 = .ok (.iconst 1, 1) := by decide +kernel
theorem d_Rd_readNumber_38 : decode k_Rd_readNumber 38 = .ok (.iadd, 1) := by decide +kernel
theorem d_Rd_readNumber_39 : decode k_Rd_readNumber 39 = .ok (.putfield 33, 3) := by decide +kernel
theorem d_Rd_readNumber_42 : decode k_Rd_readNumber 42 = .ok (.iconst 0, 1) := by decide +kernel
theorem d_Rd_readNumber_43 : decode k_Rd_readNumber 43 = .ok (.istore 4, 2) := by decide +kernel
theorem d_Rd_readNumber_45 : decode k_Rd_readNumber 45 = .ok (.iconst 0, 1) := by decide +kernel
theorem d_Rd_readNumber_46 : decode k_Rd_readNumber 46 = .ok (.istore 5, 2) := by decide +kernel
theorem d_Rd_readNumber_48 : decode k_Rd_readNumber 48 = .ok (.aload_n 0, 1) := by decide +kernel
theorem d_Rd_readNumber_49 : decode k_Rd_readNumber 49 = .ok (.getfield 33, 3) := by decide +kernel
theorem d_Rd_readNumber_52 : decode k_Rd_readNumber 52 = .ok (.aload_n 0, 1) := by decide +kernel
theorem d_Rd_readNumber_53 : decode k_Rd_readNumber 53 = .ok (.getfield 21, 3) := by decide +kernel
theorem d_Rd_readNumber_56 : decode k_Rd_readNumber 56 = .ok (.getfield 40, 3) := by decide +kernel
theorem d_Rd_readNumber_59 : decode k_Rd_readNumber 59 = .ok (.if_icmp .ge 67, 3) := by decide +kernel
theorem d_Rd_readNumber_62 : decode k_Rd_readNumber 62 = .ok (.aload_n 0, 1) := by decide +kernel
theorem d_Rd_readNumber_63 : decode k_Rd_readNumber 63 = .ok (.getfield 21, 3) := by decide +kernel
theorem d_Rd_readNumber_66 : decode k_Rd_readNumber 66 = .ok (.getfield 61, 3) := by decide +kernel
theorem d_Rd_readNumber_69 : decode k_Rd_readNumber 69 = .ok (.aload_n 0, 1) := by decide +kernel
theorem d_Rd_readNumber_70 : decode k_Rd_readNumber 70 = .ok (.getfield 33, 3) := by decide +kernel
theorem d_Rd_readNumber_73 : decode k_Rd_readNumber 73 = .ok (.caload, 1) := by decide +kernel
theorem d_Rd_readNumber_74 : decode k_Rd_readNumber 74 = .ok (.invokestatic 69, 3) := by decide +kernel
theorem d_Rd_readNumber_77 : decode k_Rd_readNumber 77 = .ok (.ifCond .eq 49, 3) := by decide +kernel
theorem d_Rd_readNumber_80 : decode k_Rd_readNumber 80 = .ok (.iload 4, 2) := by decide +kernel
theorem d_Rd_readNumber_82 : decode k_Rd_readNumber 82 = .ok (.bipush 6, 2) := by decide +kernel
theorem d_Rd_readNumber_84 : decode k_Rd_readNumber 84 = .ok (.if_icmp .ge 26, 3) := by decide +kernel
theorem d_Rd_readNumber_87 : decode k_Rd_readNumber 87 = .ok (.bipush 10, 2) := by decide +kernel
theorem d_Rd_readNumber_89 : decode k_Rd_readNumber 89 = .ok (.iload 5, 2) := by decide +kernel
theorem d_Rd_readNumber_91 : decode k_Rd_readNumber 91 = .ok (.imul, 1) := by decide +kernel
theorem d_Rd_readNumber_92 : decode k_Rd_readNumber 92 = .ok (.aload_n 0, 1) := by decide +kernel
theorem d_Rd_readNumber_93 : decode k_Rd_readNumber 93 = .ok (.getfield 21, 3) := by decide +kernel
theorem d_Rd_readNumber_96 : decode k_Rd_readNumber 96 = .ok (.getfield 61, 3) := by decide +kernel
theorem d_Rd_readNumber_99 : decode k_Rd_readNumber 99 = .ok (.aload_n 0, 1) := by decide +kernel
theorem d_Rd_readNumber_100 : decode k_Rd_readNumber 100 = .ok (.getfield 33, 3) := by decide +kernel
theorem d_Rd_readNumber_103 : decode k_Rd_readNumber 103 = .ok (.caload, 1) := by decide +kernel
theorem d_Rd_readNumber_104 : decode k_Rd_readNumber 104 = .ok (.bipush 48, 2) := by decide +kernel
theorem d_Rd_readNumber_106 : decode k_Rd_readNumber 106 = .ok (.isub, 1) := by decide +kernel
theorem d_Rd_readNumber_107 : decode k_Rd_readNumber 107 = .ok (.iadd, 1) := by decide +kernel
theorem d_Rd_readNumber_108 : decode k_Rd_readNumber 108 = .ok (.istore 5, 2) := by decide +kernel
theorem d_Rd_readNumber_110 : decode k_Rd_readNumber 110 = .ok (.iinc 4 1, 3) := by decide +kernel
theorem d_Rd_readNumber_113 : decode k_Rd_readNumber 113 = .ok (.aload_n 0, 1) := by decide +kernel
theorem d_Rd_readNumber_114 : decode k_Rd_readNumber 114 = .ok (.dup, 1) := by decide +kernel
theorem d_Rd_readNumber_115 : decode k_Rd_readNumber 115 = .ok (.getfield 33, 3) := by decide +kernel
theorem d_Rd_readNumber_118 : decode k_Rd_readNumber 118 = .ok (.iconst 1, 1) := by decide +kernel
theorem d_Rd_readNumber_119 : decode k_Rd_readNumber 119 = .ok (.iadd, 1) := by decide +kernel
theorem d_Rd_readNumber_120 : decode k_Rd_readNumber 120 = .ok (.putfield 33, 3) := by decide +kernel
theorem d_Rd_readNumber_123 : decode k_Rd_readNumber 123 = .ok (.goto (-75), 3) := by decide +kernel
theorem d_Rd_readNumber_126 : decode k_Rd_readNumber 126 = .ok (.iload 4, 2) := by decide +kernel
theorem d_Rd_readNumber_128 : decode k_Rd_readNumber 128 = .ok (.ifCond .ne 15, 3) := by decide +kernel
theorem d_Rd_readNumber_131 : decode k_Rd_readNumber 131 = .ok (.aload_n 0, 1) := by decide +kernel
theorem d_Rd_readNumber_132 : decode k_Rd_readNumber 132 = .ok (.getfield 9, 3) := by decide +kernel
theorem d_Rd_readNumber_135 : decode k_Rd_readNumber 135 = .ok (.iconst 5, 1) := by decide +kernel
theorem d_Rd_readNumber_136 : decode k_Rd_readNumber 136 = .ok (.iload_n 2, 1) := by decide +kernel
theorem d_Rd_readNumber_137 : decode k_Rd_readNumber 137 = .ok (.invokevirtual 53, 3) := by decide +kernel
theorem d_Rd_readNumber_140 : decode k_Rd_readNumber 140 = .ok (.goto 20, 3) := by decide +kernel
theorem d_Rd_readNumber_143 : decode k_Rd_readNumber 143 = .ok (.iload 4, 2) := by decide +kernel
theorem d_Rd_readNumber_145 : decode k_Rd_readNumber 145 = .ok (.bipush 6, 2) := by decide +kernel
theorem d_Rd_readNumber_147 : decode k_Rd_readNumber 147 = .ok (.if_icmp .le 13, 3) := by decide +kernel
theorem d_Rd_readNumber_150 : decode k_Rd_readNumber 150 = .ok (.aload_n 0, 1) := by decide +kernel
theorem d_Rd_readNumber_151 : decode k_Rd_readNumber 151 = .ok (.getfield 9, 3) := by decide +kernel
theorem d_Rd_readNumber_154 : decode k_Rd_readNumber 154 = .ok (.bipush 6, 2) := by decide +kernel
theorem d_Rd_readNumber_156 : decode k_Rd_readNumber 156 = .ok (.iload_n 2, 1) := by decide +kernel
theorem d_Rd_readNumber_157 : decode k_Rd_readNumber 157 = .ok (.invokevirtual 53, 3) := by decide +kernel
theorem d_Rd_readNumber_160 : decode k_Rd_readNumber 160 = .ok (.aload_n 0, 1) := by decide +kernel
theorem d_Rd_readNumber_161 : decode k_Rd_readNumber 161 = .ok (.getfield 9, 3) := by decide +kernel
theorem d_Rd_readNumber_164 : decode k_Rd_readNumber 164 = .ok (.getfield 116, 3) := by decide +kernel
theorem d_Rd_readNumber_167 : decode k_Rd_readNumber 167 = .ok (.iload_n 1, 1) := by decide +kernel
theorem d_Rd_readNumber_168 : decode k_Rd_readNumber 168 = .ok (.iload_n 3, 1) := by decide +kernel
theorem d_Rd_readNumber_169 : decode k_Rd_readNumber 169 = .ok (.ifCond .eq 9, 3) := by decide +kernel
theorem d_Rd_readNumber_172 : decode k_Rd_readNumber 172 = .ok (.iload 5, 2) := by decide +kernel
theorem d_Rd_readNumber_174 : decode k_Rd_readNumber 174 = .ok (.ineg, 1) := by decide +kernel
theorem d_Rd_readNumber_175 : decode k_Rd_readNumber 175 = .ok (.goto 5, 3) := by decide +kernel
theorem d_Rd_readNumber_178 : decode k_Rd_readNumber 178 = .ok (.iload 5, 2) := by decide +kernel
theorem d_Rd_readNumber_180 : decode k_Rd_readNumber 180 = .ok (.iastore, 1) := by decide +kernel
theorem d_Rd_readNumber_181 : decode k_Rd_readNumber 181 = .ok (.return_, 1) := by decide +kernel
theorem gw162 : (Jvm.Cond.fieldLink "SchemaDesk$Reader" (116 : Nat) "SchemaDesk$Tree" "number" "[I") ∈ GW := gw_t1 (List.mem_of_getElem? (i := 162) rfl) rfl
def wb_Rd_readNumber_0 (b : Nat) (F : Nat → Int32 → Int32 → Int32 → Int32 → Int32 → Sg → Prop) (post : Sg → Prop) (x1 : Int32) (σ : Sg) : Prop := (vp_in (σ.1 (b + 12) 4) (tl b) ∧ ((¬ (σ.1 (b + 11) ((σ.1 (b + 12) 4) : Int32).toNatClampNeg) = (45 : Int32) → F 1 x1 (σ.1 (b + 12) 4) (0 : Int32) 0 0 σ) ∧ ((σ.1 (b + 11) ((σ.1 (b + 12) 4) : Int32).toNatClampNeg) = (45 : Int32) → F 1 x1 (σ.1 (b + 12) 4) (1 : Int32) 0 0 σ)))
def wb_Rd_readNumber_1 (b : Nat) (F : Nat → Int32 → Int32 → Int32 → Int32 → Int32 → Sg → Prop) (post : Sg → Prop) (x1 : Int32) (x2 : Int32) (x3 : Int32) (σ : Sg) : Prop := ((x3 = 0 → F 2 x1 x2 x3 (0 : Int32) (0 : Int32) σ) ∧ (¬ x3 = 0 → (∀ σ1, σ1 = si σ (b + 12) 4 ((σ.1 (b + 12) 4) + (1 : Int32)) → F 2 x1 x2 x3 (0 : Int32) (0 : Int32) σ1)))
def wb_Rd_readNumber_2 (b : Nat) (F : Nat → Int32 → Int32 → Int32 → Int32 → Int32 → Sg → Prop) (post : Sg → Prop) (x1 : Int32) (x2 : Int32) (x3 : Int32) (x4 : Int32) (x5 : Int32) (σ : Sg) : Prop := (((σ.1 (b + 10) 1) ≤ (σ.1 (b + 12) 4) → F 3 x1 x2 x3 x4 x5 σ) ∧ (¬ (σ.1 (b + 10) 1) ≤ (σ.1 (b + 12) 4) → (vp_in (σ.1 (b + 12) 4) (tl b) ∧ (wq_Rd_isDigit (σ.1 (b + 11) ((σ.1 (b + 12) 4) : Int32).toNatClampNeg) σ (fun r1 σ1 => ((r1 = 0 → F 3 x1 x2 x3 x4 x5 σ1) ∧ (¬ r1 = 0 → (((6 : Int32) ≤ x4 → (∀ σ2, σ2 = si σ1 (b + 12) 4 ((σ1.1 (b + 12) 4) + (1 : Int32)) → F 2 x1 x2 x3 (x4 + 1) x5 σ2)) ∧ (¬ (6 : Int32) ≤ x4 → (vp_in (σ1.1 (b + 12) 4) (tl b) ∧ (∀ σ2, σ2 = si σ1 (b + 12) 4 ((σ1.1 (b + 12) 4) + (1 : Int32)) → F 2 x1 x2 x3 (x4 + 1) (((10 : Int32) * x5) + ((σ1.1 (b + 11) ((σ1.1 (b + 12) 4) : Int32).toNatClampNeg) - (48 : Int32))) σ2)))))))))))
def wb_Rd_readNumber_3 (b : Nat) (F : Nat → Int32 → Int32 → Int32 → Int32 → Int32 → Sg → Prop) (post : Sg → Prop) (x1 : Int32) (x2 : Int32) (x3 : Int32) (x4 : Int32) (x5 : Int32) (σ : Sg) : Prop := ((¬ x4 = 0 → ((x4 ≤ (6 : Int32) → F 4 x1 0 x3 0 x5 σ) ∧ (¬ x4 ≤ (6 : Int32) → (wq_Tr_blame b (6 : Int32) x2 σ (fun σ1 => F 4 x1 0 x3 0 x5 σ1))))) ∧ (x4 = 0 → (wq_Tr_blame b (5 : Int32) x2 σ (fun σ1 => F 4 x1 0 x3 0 x5 σ1))))
def wb_Rd_readNumber_4 (b : Nat) (F : Nat → Int32 → Int32 → Int32 → Int32 → Int32 → Sg → Prop) (post : Sg → Prop) (x1 : Int32) (x3 : Int32) (x5 : Int32) (σ : Sg) : Prop := ((x3 = 0 → (vp_in x1 (tl b) ∧ (∀ σ1, σ1 = si σ (b + 7) x1.toNatClampNeg x5 → post σ1))) ∧ (¬ x3 = 0 → (vp_in x1 (tl b) ∧ (∀ σ1, σ1 = si σ (b + 7) x1.toNatClampNeg (-x5) → post σ1))))
def wp_Rd_readNumber (b : Nat) (post : Sg → Prop) : Nat → Nat → Int32 → Int32 → Int32 → Int32 → Int32 → Sg → Prop
  | 0, _, _, _, _, _, _, _ => False
  | n + 1, k, x1, x2, x3, x4, x5, σ => match k with
    | 0 => wb_Rd_readNumber_0 b (wp_Rd_readNumber b post n) post x1 σ
    | 1 => wb_Rd_readNumber_1 b (wp_Rd_readNumber b post n) post x1 x2 x3 σ
    | 2 => wb_Rd_readNumber_2 b (wp_Rd_readNumber b post n) post x1 x2 x3 x4 x5 σ
    | 3 => wb_Rd_readNumber_3 b (wp_Rd_readNumber b post n) post x1 x2 x3 x4 x5 σ
    | 4 => wb_Rd_readNumber_4 b (wp_Rd_readNumber b post n) post x1 x3 x5 σ
    | _ => False
def wq_Rd_readNumber (b : Nat) (x1 : Int32) (σ : Sg) (post : Sg → Prop) : Prop := ∃ n, wp_Rd_readNumber b post n 0 x1 0 0 0 0 σ
def J_Rd_readNumber_0_1 (p : Program) (l : Launch) (e : Env) (s : State) (m : MethodId) (args : Array Value) (below : List Frame) (meth : Method) (c : Code) (D : va_G) (g : Gm) (A : Nat → Prop) (post : Sg → Prop) (F : Nat → Int32 → Int32 → Int32 → Int32 → Int32 → Sg → Prop) : Prop := ∀ (x1 : Int32) (x2 : Int32) (x3 : Int32) (σ : Sg) (H : Heap) (locs : List Loc) (ls : Array Slot), lv_has ls 6 [(0, .ref (g.1 12)), (1, .int x1), (2, .int x2), (3, .int x3)] → Wst D vwCl (WS g) A s σ H locs → F 1 x1 x2 x3 0 0 σ → W p l e { frames := 1, cells := 0, slots := 0, locals := 22 } s m args below meth c H locs 0 0 (MQ below (QvW D vwCl (WS g) post A) args s 0 0 A) (F0 m 28 ls [])
def J_Rd_readNumber_0_2 (p : Program) (l : Launch) (e : Env) (s : State) (m : MethodId) (args : Array Value) (below : List Frame) (meth : Method) (c : Code) (D : va_G) (g : Gm) (A : Nat → Prop) (post : Sg → Prop) (F : Nat → Int32 → Int32 → Int32 → Int32 → Int32 → Sg → Prop) : Prop := ∀ (x1 : Int32) (x2 : Int32) (x3 : Int32) (x4 : Int32) (x5 : Int32) (σ : Sg) (H : Heap) (locs : List Loc) (ls : Array Slot), lv_has ls 6 [(0, .ref (g.1 12)), (1, .int x1), (2, .int x2), (3, .int x3), (4, .int x4), (5, .int x5)] → Wst D vwCl (WS g) A s σ H locs → F 2 x1 x2 x3 x4 x5 σ → W p l e { frames := 1, cells := 0, slots := 0, locals := 22 } s m args below meth c H locs 0 0 (MQ below (QvW D vwCl (WS g) post A) args s 0 0 A) (F0 m 48 ls [])
def J_Rd_readNumber_0_3 (p : Program) (l : Launch) (e : Env) (s : State) (m : MethodId) (args : Array Value) (below : List Frame) (meth : Method) (c : Code) (D : va_G) (g : Gm) (A : Nat → Prop) (post : Sg → Prop) (F : Nat → Int32 → Int32 → Int32 → Int32 → Int32 → Sg → Prop) : Prop := ∀ (x1 : Int32) (x2 : Int32) (x3 : Int32) (x4 : Int32) (x5 : Int32) (σ : Sg) (H : Heap) (locs : List Loc) (ls : Array Slot), lv_has ls 6 [(0, .ref (g.1 12)), (1, .int x1), (2, .int x2), (3, .int x3), (4, .int x4), (5, .int x5)] → Wst D vwCl (WS g) A s σ H locs → F 3 x1 x2 x3 x4 x5 σ → W p l e { frames := 1, cells := 0, slots := 0, locals := 22 } s m args below meth c H locs 0 0 (MQ below (QvW D vwCl (WS g) post A) args s 0 0 A) (F0 m 126 ls [])
def J_Rd_readNumber_0_4 (p : Program) (l : Launch) (e : Env) (s : State) (m : MethodId) (args : Array Value) (below : List Frame) (meth : Method) (c : Code) (D : va_G) (g : Gm) (A : Nat → Prop) (post : Sg → Prop) (F : Nat → Int32 → Int32 → Int32 → Int32 → Int32 → Sg → Prop) : Prop := ∀ (x1 : Int32) (x3 : Int32) (x5 : Int32) (σ : Sg) (H : Heap) (locs : List Loc) (ls : Array Slot), lv_has ls 6 [(0, .ref (g.1 12)), (1, .int x1), (3, .int x3), (5, .int x5)] → Wst D vwCl (WS g) A s σ H locs → F 4 x1 0 x3 0 x5 σ → W p l e { frames := 1, cells := 0, slots := 0, locals := 22 } s m args below meth c H locs 0 0 (MQ below (QvW D vwCl (WS g) post A) args s 0 0 A) (F0 m 160 ls [])
set_option maxRecDepth 100000 in
set_option maxHeartbeats 4000000 in
theorem b_Rd_readNumber_0_0 {p : Program} {l : Launch} {e : Env} {s : State} {m : MethodId} {args : Array Value} {below : List Frame} {meth : Method} {c : Code} {D : va_G} {g : Gm} {A : Nat → Prop} {post : Sg → Prop} {F : Nat → Int32 → Int32 → Int32 → Int32 → Int32 → Sg → Prop} (C : kC p s m args meth c k_Rd_readNumber 6 (none) GW R_Rd D vwCl g (Zk g) A) (j1 : J_Rd_readNumber_0_1 p l e s m args below meth c D g A post F) (x1 : Int32) (σ : Sg) (H : Heap) (locs : List Loc) (ls : Array Slot) (hl : lv_has ls 6 [(0, .ref (g.1 12)), (1, .int x1)]) (hst : Wst D vwCl (WS g) A s σ H locs) (h : wb_Rd_readNumber_0 0 F post x1 σ) : W p l e { frames := 1, cells := 0, slots := 0, locals := 22 } s m args below meth c H locs 0 0 (MQ below (QvW D vwCl (WS g) post A) args s 0 0 A) (F0 m 0 ls []) := by
  obtain ⟨hx, hb, hr, hml, hown, hts, hlocks, hK, hZ, hA⟩ := C
  unfold wb_Rd_readNumber_0 at h
  refine lv_aload_n hx hb d_Rd_readNumber_0 rfl (lv_at hl 0 rfl) ?_
  refine va_get (D := D) (ci := 2) (C := R_Rd) (T := T_Rd) (N := 5) hx hb hts in_Rd hown hK hst.1 12 (WS_o12 g σ) rfl 4 (by decide) (hts _ gw214) (fun _ h9 => h9) rfl d_Rd_readNumber_1 ?_
  refine lv_istore_n hx hb d_Rd_readNumber_4 rfl hl (by decide) rfl (fun ls hl => ?_)
  have hl : lv_has ls 6 [(2, .int (σ.1 12 4)), (0, .ref (g.1 12)), (1, .int x1)] := hl
  refine lv_aload_n hx hb d_Rd_readNumber_5 rfl (lv_at hl 1 rfl) ?_
  refine va_get (D := D) (ci := 2) (C := R_Rd) (T := T_Rd) (N := 5) hx hb hts in_Rd hown hK hst.1 12 (WS_o12 g σ) rfl 2 (by decide) (hts _ gw212) (fun _ h9 => h9) rfl d_Rd_readNumber_6 ?_
  refine va_get (D := D) (ci := 1) (C := R_Tx) (T := T_Tx) (N := 2) hx hb hts in_Tx hown hK hst.1 10 (WS_o10 g σ) rfl 0 (by decide) (hts _ gw107) (fun _ h9 => h9) rfl d_Rd_readNumber_9 ?_
  refine lv_aload_n hx hb d_Rd_readNumber_12 rfl (lv_at hl 1 rfl) ?_
  refine va_get (D := D) (ci := 2) (C := R_Rd) (T := T_Rd) (N := 5) hx hb hts in_Rd hown hK hst.1 12 (WS_o12 g σ) rfl 4 (by decide) (hts _ gw214) (fun _ h9 => h9) rfl d_Rd_readNumber_13 ?_
  obtain ⟨hi, h⟩ := h
  refine va_cald hx hb hK hst.1 11 1 (WS_a11 g σ) rfl hi d_Rd_readNumber_16 ?_
  refine lv_bipush (v := (45 : Int32)) hx hb d_Rd_readNumber_17 (by decide) ?_
  refine lv_icmp_ne (tgt := 26) hx hb d_Rd_readNumber_19 (by decide) (fun hc => ?_) (fun hc => ?_)
  · replace h := h.1 hc
    refine lv_iconst (v := (0 : Int32)) hx hb d_Rd_readNumber_26 (by decide) ?_
    refine lv_istore_n hx hb d_Rd_readNumber_27 rfl hl (by decide) rfl (fun ls hl => ?_)
    have hl : lv_has ls 6 [(3, .int (0 : Int32)), (2, .int (σ.1 12 4)), (0, .ref (g.1 12)), (1, .int x1)] := hl
    exact j1 x1 (σ.1 12 4) (0 : Int32) σ _ _ _ (lv_sub hl [2, 3, 1, 0] rfl) hst h
  · replace h := h.2 hc
    refine lv_iconst (v := (1 : Int32)) hx hb d_Rd_readNumber_22 (by decide) ?_
    refine lv_goto (tgt := 27) hx hb d_Rd_readNumber_23 (by decide) ?_
    refine lv_istore_n hx hb d_Rd_readNumber_27 rfl hl (by decide) rfl (fun ls hl => ?_)
    have hl : lv_has ls 6 [(3, .int (1 : Int32)), (2, .int (σ.1 12 4)), (0, .ref (g.1 12)), (1, .int x1)] := hl
    exact j1 x1 (σ.1 12 4) (1 : Int32) σ _ _ _ (lv_sub hl [2, 3, 1, 0] rfl) hst h
set_option maxRecDepth 100000 in
set_option maxHeartbeats 4000000 in
theorem b_Rd_readNumber_0_1 {p : Program} {l : Launch} {e : Env} {s : State} {m : MethodId} {args : Array Value} {below : List Frame} {meth : Method} {c : Code} {D : va_G} {g : Gm} {A : Nat → Prop} {post : Sg → Prop} {F : Nat → Int32 → Int32 → Int32 → Int32 → Int32 → Sg → Prop} (C : kC p s m args meth c k_Rd_readNumber 6 (none) GW R_Rd D vwCl g (Zk g) A) (j2 : J_Rd_readNumber_0_2 p l e s m args below meth c D g A post F) (x1 : Int32) (x2 : Int32) (x3 : Int32) (σ : Sg) (H : Heap) (locs : List Loc) (ls : Array Slot) (hl : lv_has ls 6 [(0, .ref (g.1 12)), (1, .int x1), (2, .int x2), (3, .int x3)]) (hst : Wst D vwCl (WS g) A s σ H locs) (h : wb_Rd_readNumber_1 0 F post x1 x2 x3 σ) : W p l e { frames := 1, cells := 0, slots := 0, locals := 22 } s m args below meth c H locs 0 0 (MQ below (QvW D vwCl (WS g) post A) args s 0 0 A) (F0 m 28 ls []) := by
  obtain ⟨hx, hb, hr, hml, hown, hts, hlocks, hK, hZ, hA⟩ := C
  unfold wb_Rd_readNumber_1 at h
  refine lv_iload_n hx hb d_Rd_readNumber_28 rfl (lv_at hl 3 rfl) ?_
  refine lv_if_eq (tgt := 42) hx hb d_Rd_readNumber_29 (by decide) (fun hc => ?_) (fun hc => ?_)
  · replace h := h.1 hc
    refine lv_iconst (v := (0 : Int32)) hx hb d_Rd_readNumber_42 (by decide) ?_
    refine lv_istore hx hb d_Rd_readNumber_43 hl (by decide) rfl (fun ls hl => ?_)
    have hl : lv_has ls 6 [(4, .int (0 : Int32)), (0, .ref (g.1 12)), (1, .int x1), (2, .int x2), (3, .int x3)] := hl
    refine lv_iconst (v := (0 : Int32)) hx hb d_Rd_readNumber_45 (by decide) ?_
    refine lv_istore hx hb d_Rd_readNumber_46 hl (by decide) rfl (fun ls hl => ?_)
    have hl : lv_has ls 6 [(5, .int (0 : Int32)), (4, .int (0 : Int32)), (0, .ref (g.1 12)), (1, .int x1), (2, .int x2), (3, .int x3)] := hl
    exact j2 x1 x2 x3 (0 : Int32) (0 : Int32) σ _ _ _ (lv_sub hl [2, 3, 4, 5, 1, 0] rfl) hst h
  · replace h := h.2 hc
    refine lv_aload_n hx hb d_Rd_readNumber_32 rfl (lv_at hl 0 rfl) ?_
    refine lv_dup hx hb d_Rd_readNumber_33 rfl ?_
    refine va_get (D := D) (ci := 2) (C := R_Rd) (T := T_Rd) (N := 5) hx hb hts in_Rd hown hK hst.1 12 (WS_o12 g σ) rfl 4 (by decide) (hts _ gw214) (fun _ h9 => h9) rfl d_Rd_readNumber_34 ?_
    refine lv_iconst (v := (1 : Int32)) hx hb d_Rd_readNumber_37 (by decide) ?_
    refine lv_iadd hx hb d_Rd_readNumber_38 ?_
    refine kw_put (D := D) (ci := 2) (ty := .int) (C := R_Rd) (T := T_Rd) (N := 5) hx hb hts in_Rd ty_Rd ty_Rd_ok nm_Rd hown hK hst 12 (WS_o12 g σ) rfl 4 (by decide) (hts _ gw214) (fun _ h9 => h9) rfl (by decide +kernel) rfl rfl (Nat.le_of_ble_eq_true rfl) (WS_p12_4 g σ _) d_Rd_readNumber_39 (fun σ1 H locs e1 hst => ?_)
    replace h := h σ1 e1
    refine lv_iconst (v := (0 : Int32)) hx hb d_Rd_readNumber_42 (by decide) ?_
    refine lv_istore hx hb d_Rd_readNumber_43 hl (by decide) rfl (fun ls hl => ?_)
    have hl : lv_has ls 6 [(4, .int (0 : Int32)), (0, .ref (g.1 12)), (1, .int x1), (2, .int x2), (3, .int x3)] := hl
    refine lv_iconst (v := (0 : Int32)) hx hb d_Rd_readNumber_45 (by decide) ?_
    refine lv_istore hx hb d_Rd_readNumber_46 hl (by decide) rfl (fun ls hl => ?_)
    have hl : lv_has ls 6 [(5, .int (0 : Int32)), (4, .int (0 : Int32)), (0, .ref (g.1 12)), (1, .int x1), (2, .int x2), (3, .int x3)] := hl
    exact j2 x1 x2 x3 (0 : Int32) (0 : Int32) σ1 _ _ _ (lv_sub hl [2, 3, 4, 5, 1, 0] rfl) hst h
set_option maxRecDepth 100000 in
set_option maxHeartbeats 4000000 in
theorem b_Rd_readNumber_0_2 {p : Program} {l : Launch} {e : Env} {s : State} {m : MethodId} {args : Array Value} {below : List Frame} {meth : Method} {c : Code} {D : va_G} {g : Gm} {A : Nat → Prop} {post : Sg → Prop} {F : Nat → Int32 → Int32 → Int32 → Int32 → Int32 → Sg → Prop} (C : kC p s m args meth c k_Rd_readNumber 6 (none) GW R_Rd D vwCl g (Zk g) A) (j2 : J_Rd_readNumber_0_2 p l e s m args below meth c D g A post F) (j3 : J_Rd_readNumber_0_3 p l e s m args below meth c D g A post F) (x1 : Int32) (x2 : Int32) (x3 : Int32) (x4 : Int32) (x5 : Int32) (σ : Sg) (H : Heap) (locs : List Loc) (ls : Array Slot) (hl : lv_has ls 6 [(0, .ref (g.1 12)), (1, .int x1), (2, .int x2), (3, .int x3), (4, .int x4), (5, .int x5)]) (hst : Wst D vwCl (WS g) A s σ H locs) (h : wb_Rd_readNumber_2 0 F post x1 x2 x3 x4 x5 σ) : W p l e { frames := 1, cells := 0, slots := 0, locals := 22 } s m args below meth c H locs 0 0 (MQ below (QvW D vwCl (WS g) post A) args s 0 0 A) (F0 m 48 ls []) := by
  obtain ⟨hx, hb, hr, hml, hown, hts, hlocks, hK, hZ, hA⟩ := C
  unfold wb_Rd_readNumber_2 at h
  refine lv_aload_n hx hb d_Rd_readNumber_48 rfl (lv_at hl 0 rfl) ?_
  refine va_get (D := D) (ci := 2) (C := R_Rd) (T := T_Rd) (N := 5) hx hb hts in_Rd hown hK hst.1 12 (WS_o12 g σ) rfl 4 (by decide) (hts _ gw214) (fun _ h9 => h9) rfl d_Rd_readNumber_49 ?_
  refine lv_aload_n hx hb d_Rd_readNumber_52 rfl (lv_at hl 0 rfl) ?_
  refine va_get (D := D) (ci := 2) (C := R_Rd) (T := T_Rd) (N := 5) hx hb hts in_Rd hown hK hst.1 12 (WS_o12 g σ) rfl 2 (by decide) (hts _ gw212) (fun _ h9 => h9) rfl d_Rd_readNumber_53 ?_
  refine va_get (D := D) (ci := 1) (C := R_Tx) (T := T_Tx) (N := 2) hx hb hts in_Tx hown hK hst.1 10 (WS_o10 g σ) rfl 1 (by decide) (hts _ gw114) (fun _ h9 => h9) rfl d_Rd_readNumber_56 ?_
  refine lv_icmp_ge (tgt := 126) hx hb d_Rd_readNumber_59 (by decide) (fun hc => ?_) (fun hc => ?_)
  · replace h := h.1 hc
    exact j3 x1 x2 x3 x4 x5 σ _ _ _ (lv_sub hl [0, 1, 2, 3, 4, 5] rfl) hst h
  · replace h := h.2 hc
    refine lv_aload_n hx hb d_Rd_readNumber_62 rfl (lv_at hl 0 rfl) ?_
    refine va_get (D := D) (ci := 2) (C := R_Rd) (T := T_Rd) (N := 5) hx hb hts in_Rd hown hK hst.1 12 (WS_o12 g σ) rfl 2 (by decide) (hts _ gw212) (fun _ h9 => h9) rfl d_Rd_readNumber_63 ?_
    refine va_get (D := D) (ci := 1) (C := R_Tx) (T := T_Tx) (N := 2) hx hb hts in_Tx hown hK hst.1 10 (WS_o10 g σ) rfl 0 (by decide) (hts _ gw107) (fun _ h9 => h9) rfl d_Rd_readNumber_66 ?_
    refine lv_aload_n hx hb d_Rd_readNumber_69 rfl (lv_at hl 0 rfl) ?_
    refine va_get (D := D) (ci := 2) (C := R_Rd) (T := T_Rd) (N := 5) hx hb hts in_Rd hown hK hst.1 12 (WS_o12 g σ) rfl 4 (by decide) (hts _ gw214) (fun _ h9 => h9) rfl d_Rd_readNumber_70 ?_
    obtain ⟨hi, h⟩ := h
    refine va_cald hx hb hK hst.1 11 1 (WS_a11 g σ) rfl hi d_Rd_readNumber_73 ?_
    refine kw_calli (va_runS (As := [.int (σ.1 11 ((σ.1 12 4) : Int32).toNatClampNeg)]) (rest := []) ⟨hx, hb, hml, hown, hts⟩ (c_Rd_isDigit l (σ.1 11 ((σ.1 12 4) : Int32).toNatClampNeg) h) (cwS 1 hts (gd_s gw628 gw629 gw9 gw630) rfl rfl rfl (by decide +kernel) ⟨Nat.le_of_ble_eq_true rfl, Nat.le_of_ble_eq_true rfl⟩) ⟨kw_blind (Zk_ok g), kw_pre (Zk_ok g) hK hZ hA hst⟩ rfl rfl hl.1 rfl (lv_room (Nat.le_of_ble_eq_true rfl)) d_Rd_readNumber_74 ⟨Nat.le_of_ble_eq_true rfl, Nat.le_of_ble_eq_true rfl⟩) hst hA (fun r1 σ1 H locs h hst => ?_)
    refine lv_if_eq (tgt := 126) hx hb d_Rd_readNumber_77 (by decide) (fun hc => ?_) (fun hc => ?_)
    · replace h := h.1 hc
      exact j3 x1 x2 x3 x4 x5 σ1 _ _ _ (lv_sub hl [0, 1, 2, 3, 4, 5] rfl) hst h
    · replace h := h.2 hc
      refine lv_iload hx hb d_Rd_readNumber_80 (lv_at hl 4 rfl) ?_
      refine lv_bipush (v := (6 : Int32)) hx hb d_Rd_readNumber_82 (by decide) ?_
      refine lv_icmp_ge (tgt := 110) hx hb d_Rd_readNumber_84 (by decide) (fun hc => ?_) (fun hc => ?_)
      · replace h := h.1 hc
        refine lv_iinc (k := 4) (v := (x4 + 1)) hx hb d_Rd_readNumber_110 hl rfl (kw_inc _ (by decide)) (by decide) rfl (fun ls hl => ?_)
        have hl : lv_has ls 6 [(4, .int (x4 + 1)), (0, .ref (g.1 12)), (1, .int x1), (2, .int x2), (3, .int x3), (5, .int x5)] := hl
        refine lv_aload_n hx hb d_Rd_readNumber_113 rfl (lv_at hl 1 rfl) ?_
        refine lv_dup hx hb d_Rd_readNumber_114 rfl ?_
        refine va_get (D := D) (ci := 2) (C := R_Rd) (T := T_Rd) (N := 5) hx hb hts in_Rd hown hK hst.1 12 (WS_o12 g σ1) rfl 4 (by decide) (hts _ gw214) (fun _ h9 => h9) rfl d_Rd_readNumber_115 ?_
        refine lv_iconst (v := (1 : Int32)) hx hb d_Rd_readNumber_118 (by decide) ?_
        refine lv_iadd hx hb d_Rd_readNumber_119 ?_
        refine kw_put (D := D) (ci := 2) (ty := .int) (C := R_Rd) (T := T_Rd) (N := 5) hx hb hts in_Rd ty_Rd ty_Rd_ok nm_Rd hown hK hst 12 (WS_o12 g σ1) rfl 4 (by decide) (hts _ gw214) (fun _ h9 => h9) rfl (by decide +kernel) rfl rfl (Nat.le_of_ble_eq_true rfl) (WS_p12_4 g σ1 _) d_Rd_readNumber_120 (fun σ2 H locs e2 hst => ?_)
        replace h := h σ2 e2
        refine lv_goto (tgt := 48) hx hb d_Rd_readNumber_123 (by decide) ?_
        exact j2 x1 x2 x3 (x4 + 1) x5 σ2 _ _ _ (lv_sub hl [1, 2, 3, 4, 0, 5] rfl) hst h
      · replace h := h.2 hc
        refine lv_bipush (v := (10 : Int32)) hx hb d_Rd_readNumber_87 (by decide) ?_
        refine lv_iload hx hb d_Rd_readNumber_89 (lv_at hl 5 rfl) ?_
        refine lv_imul hx hb d_Rd_readNumber_91 ?_
        refine lv_aload_n hx hb d_Rd_readNumber_92 rfl (lv_at hl 0 rfl) ?_
        refine va_get (D := D) (ci := 2) (C := R_Rd) (T := T_Rd) (N := 5) hx hb hts in_Rd hown hK hst.1 12 (WS_o12 g σ1) rfl 2 (by decide) (hts _ gw212) (fun _ h9 => h9) rfl d_Rd_readNumber_93 ?_
        refine va_get (D := D) (ci := 1) (C := R_Tx) (T := T_Tx) (N := 2) hx hb hts in_Tx hown hK hst.1 10 (WS_o10 g σ1) rfl 0 (by decide) (hts _ gw107) (fun _ h9 => h9) rfl d_Rd_readNumber_96 ?_
        refine lv_aload_n hx hb d_Rd_readNumber_99 rfl (lv_at hl 0 rfl) ?_
        refine va_get (D := D) (ci := 2) (C := R_Rd) (T := T_Rd) (N := 5) hx hb hts in_Rd hown hK hst.1 12 (WS_o12 g σ1) rfl 4 (by decide) (hts _ gw214) (fun _ h9 => h9) rfl d_Rd_readNumber_100 ?_
        obtain ⟨hi, h⟩ := h
        refine va_cald hx hb hK hst.1 11 1 (WS_a11 g σ1) rfl hi d_Rd_readNumber_103 ?_
        refine lv_bipush (v := (48 : Int32)) hx hb d_Rd_readNumber_104 (by decide) ?_
        refine lv_isub hx hb d_Rd_readNumber_106 ?_
        refine lv_iadd hx hb d_Rd_readNumber_107 ?_
        refine lv_istore hx hb d_Rd_readNumber_108 hl (by decide) rfl (fun ls hl => ?_)
        have hl : lv_has ls 6 [(5, .int (((10 : Int32) * x5) + ((σ1.1 11 ((σ1.1 12 4) : Int32).toNatClampNeg) - (48 : Int32)))), (0, .ref (g.1 12)), (1, .int x1), (2, .int x2), (3, .int x3), (4, .int x4)] := hl
        refine lv_iinc (k := 5) (v := (x4 + 1)) hx hb d_Rd_readNumber_110 hl rfl (kw_inc _ (by decide)) (by decide) rfl (fun ls hl => ?_)
        have hl : lv_has ls 6 [(4, .int (x4 + 1)), (5, .int (((10 : Int32) * x5) + ((σ1.1 11 ((σ1.1 12 4) : Int32).toNatClampNeg) - (48 : Int32)))), (0, .ref (g.1 12)), (1, .int x1), (2, .int x2), (3, .int x3)] := hl
        refine lv_aload_n hx hb d_Rd_readNumber_113 rfl (lv_at hl 2 rfl) ?_
        refine lv_dup hx hb d_Rd_readNumber_114 rfl ?_
        refine va_get (D := D) (ci := 2) (C := R_Rd) (T := T_Rd) (N := 5) hx hb hts in_Rd hown hK hst.1 12 (WS_o12 g σ1) rfl 4 (by decide) (hts _ gw214) (fun _ h9 => h9) rfl d_Rd_readNumber_115 ?_
        refine lv_iconst (v := (1 : Int32)) hx hb d_Rd_readNumber_118 (by decide) ?_
        refine lv_iadd hx hb d_Rd_readNumber_119 ?_
        refine kw_put (D := D) (ci := 2) (ty := .int) (C := R_Rd) (T := T_Rd) (N := 5) hx hb hts in_Rd ty_Rd ty_Rd_ok nm_Rd hown hK hst 12 (WS_o12 g σ1) rfl 4 (by decide) (hts _ gw214) (fun _ h9 => h9) rfl (by decide +kernel) rfl rfl (Nat.le_of_ble_eq_true rfl) (WS_p12_4 g σ1 _) d_Rd_readNumber_120 (fun σ2 H locs e2 hst => ?_)
        replace h := h σ2 e2
        refine lv_goto (tgt := 48) hx hb d_Rd_readNumber_123 (by decide) ?_
        exact j2 x1 x2 x3 (x4 + 1) (((10 : Int32) * x5) + ((σ1.1 11 ((σ1.1 12 4) : Int32).toNatClampNeg) - (48 : Int32))) σ2 _ _ _ (lv_sub hl [2, 3, 4, 5, 0, 1] rfl) hst h
set_option maxRecDepth 100000 in
set_option maxHeartbeats 4000000 in
theorem b_Rd_readNumber_0_3 {p : Program} {l : Launch} {e : Env} {s : State} {m : MethodId} {args : Array Value} {below : List Frame} {meth : Method} {c : Code} {D : va_G} {g : Gm} {A : Nat → Prop} {post : Sg → Prop} {F : Nat → Int32 → Int32 → Int32 → Int32 → Int32 → Sg → Prop} (C : kC p s m args meth c k_Rd_readNumber 6 (none) GW R_Rd D vwCl g (Zk g) A) (j4 : J_Rd_readNumber_0_4 p l e s m args below meth c D g A post F) (x1 : Int32) (x2 : Int32) (x3 : Int32) (x4 : Int32) (x5 : Int32) (σ : Sg) (H : Heap) (locs : List Loc) (ls : Array Slot) (hl : lv_has ls 6 [(0, .ref (g.1 12)), (1, .int x1), (2, .int x2), (3, .int x3), (4, .int x4), (5, .int x5)]) (hst : Wst D vwCl (WS g) A s σ H locs) (h : wb_Rd_readNumber_3 0 F post x1 x2 x3 x4 x5 σ) : W p l e { frames := 1, cells := 0, slots := 0, locals := 22 } s m args below meth c H locs 0 0 (MQ below (QvW D vwCl (WS g) post A) args s 0 0 A) (F0 m 126 ls []) := by
  obtain ⟨hx, hb, hr, hml, hown, hts, hlocks, hK, hZ, hA⟩ := C
  unfold wb_Rd_readNumber_3 at h
  refine lv_iload hx hb d_Rd_readNumber_126 (lv_at hl 4 rfl) ?_
  refine lv_if_ne (tgt := 143) hx hb d_Rd_readNumber_128 (by decide) (fun hc => ?_) (fun hc => ?_)
  · replace h := h.1 hc
    refine lv_iload hx hb d_Rd_readNumber_143 (lv_at hl 4 rfl) ?_
    refine lv_bipush (v := (6 : Int32)) hx hb d_Rd_readNumber_145 (by decide) ?_
    refine lv_icmp_le (tgt := 160) hx hb d_Rd_readNumber_147 (by decide) (fun hc => ?_) (fun hc => ?_)
    · replace h := h.1 hc
      exact j4 x1 x3 x5 σ _ _ _ (lv_sub hl [0, 1, 3, 5] rfl) hst h
    · replace h := h.2 hc
      refine lv_aload_n hx hb d_Rd_readNumber_150 rfl (lv_at hl 0 rfl) ?_
      refine va_get (D := D) (ci := 2) (C := R_Rd) (T := T_Rd) (N := 5) hx hb hts in_Rd hown hK hst.1 12 (WS_o12 g σ) rfl 0 (by decide) (hts _ gw208) (fun _ h9 => h9) rfl d_Rd_readNumber_151 ?_
      refine lv_bipush (v := (6 : Int32)) hx hb d_Rd_readNumber_154 (by decide) ?_
      refine lv_iload_n hx hb d_Rd_readNumber_156 rfl (lv_at hl 2 rfl) ?_
      refine kw_callv (va_runV (As := [.int (6 : Int32), .int x2]) (rest := []) (b := g.1 0) ⟨hx, hb, hml, hown, hts⟩ (c_Tr_blame_0 l (6 : Int32) x2 h) (cwV 2 hts (gd_v gw638 gw639 gw640 gw7 gw641) rfl rfl rfl (by decide +kernel) ⟨Nat.le_of_ble_eq_true rfl, Nat.le_of_ble_eq_true rfl⟩) ⟨kw_blind (Zk_ok g), va_recv hK hst.1 rfl (WS_o0 g σ), kw_pre (Zk_ok g) hK hZ hA hst⟩ rfl rfl hl.1 rfl (lv_room (Nat.le_of_ble_eq_true rfl)) d_Rd_readNumber_157 ⟨Nat.le_of_ble_eq_true rfl, Nat.le_of_ble_eq_true rfl⟩) hst hA (fun σ1 H locs h hst => ?_)
      exact j4 x1 x3 x5 σ1 _ _ _ (lv_sub hl [0, 1, 3, 5] rfl) hst h
  · replace h := h.2 hc
    refine lv_aload_n hx hb d_Rd_readNumber_131 rfl (lv_at hl 0 rfl) ?_
    refine va_get (D := D) (ci := 2) (C := R_Rd) (T := T_Rd) (N := 5) hx hb hts in_Rd hown hK hst.1 12 (WS_o12 g σ) rfl 0 (by decide) (hts _ gw208) (fun _ h9 => h9) rfl d_Rd_readNumber_132 ?_
    refine lv_iconst (v := (5 : Int32)) hx hb d_Rd_readNumber_135 (by decide) ?_
    refine lv_iload_n hx hb d_Rd_readNumber_136 rfl (lv_at hl 2 rfl) ?_
    refine kw_callv (va_runV (As := [.int (5 : Int32), .int x2]) (rest := []) (b := g.1 0) ⟨hx, hb, hml, hown, hts⟩ (c_Tr_blame_0 l (5 : Int32) x2 h) (cwV 2 hts (gd_v gw638 gw639 gw640 gw7 gw641) rfl rfl rfl (by decide +kernel) ⟨Nat.le_of_ble_eq_true rfl, Nat.le_of_ble_eq_true rfl⟩) ⟨kw_blind (Zk_ok g), va_recv hK hst.1 rfl (WS_o0 g σ), kw_pre (Zk_ok g) hK hZ hA hst⟩ rfl rfl hl.1 rfl (lv_room (Nat.le_of_ble_eq_true rfl)) d_Rd_readNumber_137 ⟨Nat.le_of_ble_eq_true rfl, Nat.le_of_ble_eq_true rfl⟩) hst hA (fun σ1 H locs h hst => ?_)
    refine lv_goto (tgt := 160) hx hb d_Rd_readNumber_140 (by decide) ?_
    exact j4 x1 x3 x5 σ1 _ _ _ (lv_sub hl [0, 1, 3, 5] rfl) hst h
set_option maxRecDepth 100000 in
set_option maxHeartbeats 4000000 in
theorem b_Rd_readNumber_0_4 {p : Program} {l : Launch} {e : Env} {s : State} {m : MethodId} {args : Array Value} {below : List Frame} {meth : Method} {c : Code} {D : va_G} {g : Gm} {A : Nat → Prop} {post : Sg → Prop} {F : Nat → Int32 → Int32 → Int32 → Int32 → Int32 → Sg → Prop} (C : kC p s m args meth c k_Rd_readNumber 6 (none) GW R_Rd D vwCl g (Zk g) A) (x1 : Int32) (x3 : Int32) (x5 : Int32) (σ : Sg) (H : Heap) (locs : List Loc) (ls : Array Slot) (hl : lv_has ls 6 [(0, .ref (g.1 12)), (1, .int x1), (3, .int x3), (5, .int x5)]) (hst : Wst D vwCl (WS g) A s σ H locs) (h : wb_Rd_readNumber_4 0 F post x1 x3 x5 σ) : W p l e { frames := 1, cells := 0, slots := 0, locals := 22 } s m args below meth c H locs 0 0 (MQ below (QvW D vwCl (WS g) post A) args s 0 0 A) (F0 m 160 ls []) := by
  obtain ⟨hx, hb, hr, hml, hown, hts, hlocks, hK, hZ, hA⟩ := C
  unfold wb_Rd_readNumber_4 at h
  refine lv_aload_n hx hb d_Rd_readNumber_160 rfl (lv_at hl 0 rfl) ?_
  refine va_get (D := D) (ci := 2) (C := R_Rd) (T := T_Rd) (N := 5) hx hb hts in_Rd hown hK hst.1 12 (WS_o12 g σ) rfl 0 (by decide) (hts _ gw208) (fun _ h9 => h9) rfl d_Rd_readNumber_161 ?_
  refine va_get (D := D) (ci := 0) (C := R_Tr) (T := T_Tr) (N := 12) hx hb hts in_Tr hown hK hst.1 0 (WS_o0 g σ) rfl 7 (by decide) (hts _ gw162) (fun _ h9 => h9) rfl d_Rd_readNumber_164 ?_
  refine lv_iload_n hx hb d_Rd_readNumber_167 rfl (lv_at hl 1 rfl) ?_
  refine lv_iload_n hx hb d_Rd_readNumber_168 rfl (lv_at hl 2 rfl) ?_
  refine lv_if_eq (tgt := 178) hx hb d_Rd_readNumber_169 (by decide) (fun hc => ?_) (fun hc => ?_)
  · replace h := h.1 hc
    refine lv_iload hx hb d_Rd_readNumber_178 (lv_at hl 3 rfl) ?_
    obtain ⟨hi, h⟩ := h
    refine kw_iast hx hb hK hst 7 (WS_a7 g σ) hi (WS_s7 g σ _ _) d_Rd_readNumber_180 (fun σ1 H locs e1 hst => ?_)
    replace h := h σ1 e1
    exact kw_vret hx hb hr hlocks hst h d_Rd_readNumber_181
  · replace h := h.2 hc
    refine lv_iload hx hb d_Rd_readNumber_172 (lv_at hl 3 rfl) ?_
    refine lv_ineg hx hb d_Rd_readNumber_174 ?_
    refine lv_goto (tgt := 180) hx hb d_Rd_readNumber_175 (by decide) ?_
    obtain ⟨hi, h⟩ := h
    refine kw_iast hx hb hK hst 7 (WS_a7 g σ) hi (WS_s7 g σ _ _) d_Rd_readNumber_180 (fun σ1 H locs e1 hst => ?_)
    replace h := h σ1 e1
    exact kw_vret hx hb hr hlocks hst h d_Rd_readNumber_181
set_option maxRecDepth 100000 in
set_option maxHeartbeats 4000000 in
theorem a_Rd_readNumber_0 {p : Program} {l : Launch} {e : Env} {s : State} {m : MethodId} {args : Array Value} {below : List Frame} {meth : Method} {c : Code} {D : va_G} {g : Gm} {A : Nat → Prop} {post : Sg → Prop} (C : kC p s m args meth c k_Rd_readNumber 6 (none) GW R_Rd D vwCl g (Zk g) A) : ∀ n : Nat, J_Rd_readNumber_0_1 p l e s m args below meth c D g A post (wp_Rd_readNumber 0 post n) ∧ J_Rd_readNumber_0_2 p l e s m args below meth c D g A post (wp_Rd_readNumber 0 post n) ∧ J_Rd_readNumber_0_3 p l e s m args below meth c D g A post (wp_Rd_readNumber 0 post n) ∧ J_Rd_readNumber_0_4 p l e s m args below meth c D g A post (wp_Rd_readNumber 0 post n) := by
  intro n
  induction n with
  | zero => exact ⟨fun _ _ _ _ _ _ _ _ _ h => h.elim, fun _ _ _ _ _ _ _ _ _ _ _ h => h.elim, fun _ _ _ _ _ _ _ _ _ _ _ h => h.elim, fun _ _ _ _ _ _ _ _ _ h => h.elim⟩
  | succ n ih => exact ⟨fun x1 x2 x3 σ H locs ls hl hst h => b_Rd_readNumber_0_1 (F := wp_Rd_readNumber 0 post n) C (ih.2.1) x1 x2 x3 σ H locs ls hl hst h, fun x1 x2 x3 x4 x5 σ H locs ls hl hst h => b_Rd_readNumber_0_2 (F := wp_Rd_readNumber 0 post n) C (ih.2.1) (ih.2.2.1) x1 x2 x3 x4 x5 σ H locs ls hl hst h, fun x1 x2 x3 x4 x5 σ H locs ls hl hst h => b_Rd_readNumber_0_3 (F := wp_Rd_readNumber 0 post n) C (ih.2.2.2) x1 x2 x3 x4 x5 σ H locs ls hl hst h, fun x1 x3 x5 σ H locs ls hl hst h => b_Rd_readNumber_0_4 (F := wp_Rd_readNumber 0 post n) C x1 x3 x5 σ H locs ls hl hst h⟩
set_option maxRecDepth 100000 in
set_option maxHeartbeats 4000000 in
theorem c_Rd_readNumber_0 (l : Launch) {D : va_G} {g : Gm} {sz : Nat} (x1 : Int32) {σ : Sg} {post : Sg → Prop} (h : wq_Rd_readNumber 0 x1 σ post) : Met l y_Rd_readNumber (.code y_Rd_readNumber k_Rd_readNumber 6 (none) :: GW) { frames := 1, cells := 0, slots := 0, locals := 22 } (PcW D vwCl (WS g) g (Zk g) σ sz [.ref (g.1 12), .int x1]) (QvW D vwCl (WS g) post (va_A (WS g σ) sz)) 0 0 (va_A (WS g σ) sz) := by
  refine kw_entry (own := R_Rd) (by decide) rfl rfl (Nat.le_of_ble_eq_true rfl) ?_
  intro p e s m below meth c ls hsz C hin hl hst
  obtain ⟨n, h⟩ := h
  cases n with
  | zero => exact h.elim
  | succ n =>
    have ih := a_Rd_readNumber_0 (l := l) (e := e) (below := below) (post := post) C n
    exact b_Rd_readNumber_0_0 (F := wp_Rd_readNumber 0 post n) C (ih.1) x1 σ _ _ ls hl hst h
def J_Rd_readNumber_13_1 (p : Program) (l : Launch) (e : Env) (s : State) (m : MethodId) (args : Array Value) (below : List Frame) (meth : Method) (c : Code) (D : va_G) (g : Gm) (A : Nat → Prop) (post : Sg → Prop) (F : Nat → Int32 → Int32 → Int32 → Int32 → Int32 → Sg → Prop) : Prop := ∀ (x1 : Int32) (x2 : Int32) (x3 : Int32) (σ : Sg) (H : Heap) (locs : List Loc) (ls : Array Slot), lv_has ls 6 [(0, .ref (g.1 25)), (1, .int x1), (2, .int x2), (3, .int x3)] → Wst D vwCl (WS g) A s σ H locs → F 1 x1 x2 x3 0 0 σ → W p l e { frames := 1, cells := 0, slots := 0, locals := 22 } s m args below meth c H locs 0 0 (MQ below (QvW D vwCl (WS g) post A) args s 0 0 A) (F0 m 28 ls [])
def J_Rd_readNumber_13_2 (p : Program) (l : Launch) (e : Env) (s : State) (m : MethodId) (args : Array Value) (below : List Frame) (meth : Method) (c : Code) (D : va_G) (g : Gm) (A : Nat → Prop) (post : Sg → Prop) (F : Nat → Int32 → Int32 → Int32 → Int32 → Int32 → Sg → Prop) : Prop := ∀ (x1 : Int32) (x2 : Int32) (x3 : Int32) (x4 : Int32) (x5 : Int32) (σ : Sg) (H : Heap) (locs : List Loc) (ls : Array Slot), lv_has ls 6 [(0, .ref (g.1 25)), (1, .int x1), (2, .int x2), (3, .int x3), (4, .int x4), (5, .int x5)] → Wst D vwCl (WS g) A s σ H locs → F 2 x1 x2 x3 x4 x5 σ → W p l e { frames := 1, cells := 0, slots := 0, locals := 22 } s m args below meth c H locs 0 0 (MQ below (QvW D vwCl (WS g) post A) args s 0 0 A) (F0 m 48 ls [])
def J_Rd_readNumber_13_3 (p : Program) (l : Launch) (e : Env) (s : State) (m : MethodId) (args : Array Value) (below : List Frame) (meth : Method) (c : Code) (D : va_G) (g : Gm) (A : Nat → Prop) (post : Sg → Prop) (F : Nat → Int32 → Int32 → Int32 → Int32 → Int32 → Sg → Prop) : Prop := ∀ (x1 : Int32) (x2 : Int32) (x3 : Int32) (x4 : Int32) (x5 : Int32) (σ : Sg) (H : Heap) (locs : List Loc) (ls : Array Slot), lv_has ls 6 [(0, .ref (g.1 25)), (1, .int x1), (2, .int x2), (3, .int x3), (4, .int x4), (5, .int x5)] → Wst D vwCl (WS g) A s σ H locs → F 3 x1 x2 x3 x4 x5 σ → W p l e { frames := 1, cells := 0, slots := 0, locals := 22 } s m args below meth c H locs 0 0 (MQ below (QvW D vwCl (WS g) post A) args s 0 0 A) (F0 m 126 ls [])
def J_Rd_readNumber_13_4 (p : Program) (l : Launch) (e : Env) (s : State) (m : MethodId) (args : Array Value) (below : List Frame) (meth : Method) (c : Code) (D : va_G) (g : Gm) (A : Nat → Prop) (post : Sg → Prop) (F : Nat → Int32 → Int32 → Int32 → Int32 → Int32 → Sg → Prop) : Prop := ∀ (x1 : Int32) (x3 : Int32) (x5 : Int32) (σ : Sg) (H : Heap) (locs : List Loc) (ls : Array Slot), lv_has ls 6 [(0, .ref (g.1 25)), (1, .int x1), (3, .int x3), (5, .int x5)] → Wst D vwCl (WS g) A s σ H locs → F 4 x1 0 x3 0 x5 σ → W p l e { frames := 1, cells := 0, slots := 0, locals := 22 } s m args below meth c H locs 0 0 (MQ below (QvW D vwCl (WS g) post A) args s 0 0 A) (F0 m 160 ls [])
set_option maxRecDepth 100000 in
set_option maxHeartbeats 4000000 in
theorem b_Rd_readNumber_13_0 {p : Program} {l : Launch} {e : Env} {s : State} {m : MethodId} {args : Array Value} {below : List Frame} {meth : Method} {c : Code} {D : va_G} {g : Gm} {A : Nat → Prop} {post : Sg → Prop} {F : Nat → Int32 → Int32 → Int32 → Int32 → Int32 → Sg → Prop} (C : kC p s m args meth c k_Rd_readNumber 6 (none) GW R_Rd D vwCl g (Zk g) A) (j1 : J_Rd_readNumber_13_1 p l e s m args below meth c D g A post F) (x1 : Int32) (σ : Sg) (H : Heap) (locs : List Loc) (ls : Array Slot) (hl : lv_has ls 6 [(0, .ref (g.1 25)), (1, .int x1)]) (hst : Wst D vwCl (WS g) A s σ H locs) (h : wb_Rd_readNumber_0 13 F post x1 σ) : W p l e { frames := 1, cells := 0, slots := 0, locals := 22 } s m args below meth c H locs 0 0 (MQ below (QvW D vwCl (WS g) post A) args s 0 0 A) (F0 m 0 ls []) := by
  obtain ⟨hx, hb, hr, hml, hown, hts, hlocks, hK, hZ, hA⟩ := C
  unfold wb_Rd_readNumber_0 at h
  refine lv_aload_n hx hb d_Rd_readNumber_0 rfl (lv_at hl 0 rfl) ?_
  refine va_get (D := D) (ci := 2) (C := R_Rd) (T := T_Rd) (N := 5) hx hb hts in_Rd hown hK hst.1 25 (WS_o25 g σ) rfl 4 (by decide) (hts _ gw214) (fun _ h9 => h9) rfl d_Rd_readNumber_1 ?_
  refine lv_istore_n hx hb d_Rd_readNumber_4 rfl hl (by decide) rfl (fun ls hl => ?_)
  have hl : lv_has ls 6 [(2, .int (σ.1 25 4)), (0, .ref (g.1 25)), (1, .int x1)] := hl
  refine lv_aload_n hx hb d_Rd_readNumber_5 rfl (lv_at hl 1 rfl) ?_
  refine va_get (D := D) (ci := 2) (C := R_Rd) (T := T_Rd) (N := 5) hx hb hts in_Rd hown hK hst.1 25 (WS_o25 g σ) rfl 2 (by decide) (hts _ gw212) (fun _ h9 => h9) rfl d_Rd_readNumber_6 ?_
  refine va_get (D := D) (ci := 1) (C := R_Tx) (T := T_Tx) (N := 2) hx hb hts in_Tx hown hK hst.1 23 (WS_o23 g σ) rfl 0 (by decide) (hts _ gw107) (fun _ h9 => h9) rfl d_Rd_readNumber_9 ?_
  refine lv_aload_n hx hb d_Rd_readNumber_12 rfl (lv_at hl 1 rfl) ?_
  refine va_get (D := D) (ci := 2) (C := R_Rd) (T := T_Rd) (N := 5) hx hb hts in_Rd hown hK hst.1 25 (WS_o25 g σ) rfl 4 (by decide) (hts _ gw214) (fun _ h9 => h9) rfl d_Rd_readNumber_13 ?_
  obtain ⟨hi, h⟩ := h
  refine va_cald hx hb hK hst.1 24 1 (WS_a24 g σ) rfl hi d_Rd_readNumber_16 ?_
  refine lv_bipush (v := (45 : Int32)) hx hb d_Rd_readNumber_17 (by decide) ?_
  refine lv_icmp_ne (tgt := 26) hx hb d_Rd_readNumber_19 (by decide) (fun hc => ?_) (fun hc => ?_)
  · replace h := h.1 hc
    refine lv_iconst (v := (0 : Int32)) hx hb d_Rd_readNumber_26 (by decide) ?_
    refine lv_istore_n hx hb d_Rd_readNumber_27 rfl hl (by decide) rfl (fun ls hl => ?_)
    have hl : lv_has ls 6 [(3, .int (0 : Int32)), (2, .int (σ.1 25 4)), (0, .ref (g.1 25)), (1, .int x1)] := hl
    exact j1 x1 (σ.1 25 4) (0 : Int32) σ _ _ _ (lv_sub hl [2, 3, 1, 0] rfl) hst h
  · replace h := h.2 hc
    refine lv_iconst (v := (1 : Int32)) hx hb d_Rd_readNumber_22 (by decide) ?_
    refine lv_goto (tgt := 27) hx hb d_Rd_readNumber_23 (by decide) ?_
    refine lv_istore_n hx hb d_Rd_readNumber_27 rfl hl (by decide) rfl (fun ls hl => ?_)
    have hl : lv_has ls 6 [(3, .int (1 : Int32)), (2, .int (σ.1 25 4)), (0, .ref (g.1 25)), (1, .int x1)] := hl
    exact j1 x1 (σ.1 25 4) (1 : Int32) σ _ _ _ (lv_sub hl [2, 3, 1, 0] rfl) hst h
set_option maxRecDepth 100000 in
set_option maxHeartbeats 4000000 in
theorem b_Rd_readNumber_13_1 {p : Program} {l : Launch} {e : Env} {s : State} {m : MethodId} {args : Array Value} {below : List Frame} {meth : Method} {c : Code} {D : va_G} {g : Gm} {A : Nat → Prop} {post : Sg → Prop} {F : Nat → Int32 → Int32 → Int32 → Int32 → Int32 → Sg → Prop} (C : kC p s m args meth c k_Rd_readNumber 6 (none) GW R_Rd D vwCl g (Zk g) A) (j2 : J_Rd_readNumber_13_2 p l e s m args below meth c D g A post F) (x1 : Int32) (x2 : Int32) (x3 : Int32) (σ : Sg) (H : Heap) (locs : List Loc) (ls : Array Slot) (hl : lv_has ls 6 [(0, .ref (g.1 25)), (1, .int x1), (2, .int x2), (3, .int x3)]) (hst : Wst D vwCl (WS g) A s σ H locs) (h : wb_Rd_readNumber_1 13 F post x1 x2 x3 σ) : W p l e { frames := 1, cells := 0, slots := 0, locals := 22 } s m args below meth c H locs 0 0 (MQ below (QvW D vwCl (WS g) post A) args s 0 0 A) (F0 m 28 ls []) := by
  obtain ⟨hx, hb, hr, hml, hown, hts, hlocks, hK, hZ, hA⟩ := C
  unfold wb_Rd_readNumber_1 at h
  refine lv_iload_n hx hb d_Rd_readNumber_28 rfl (lv_at hl 3 rfl) ?_
  refine lv_if_eq (tgt := 42) hx hb d_Rd_readNumber_29 (by decide) (fun hc => ?_) (fun hc => ?_)
  · replace h := h.1 hc
    refine lv_iconst (v := (0 : Int32)) hx hb d_Rd_readNumber_42 (by decide) ?_
    refine lv_istore hx hb d_Rd_readNumber_43 hl (by decide) rfl (fun ls hl => ?_)
    have hl : lv_has ls 6 [(4, .int (0 : Int32)), (0, .ref (g.1 25)), (1, .int x1), (2, .int x2), (3, .int x3)] := hl
    refine lv_iconst (v := (0 : Int32)) hx hb d_Rd_readNumber_45 (by decide) ?_
    refine lv_istore hx hb d_Rd_readNumber_46 hl (by decide) rfl (fun ls hl => ?_)
    have hl : lv_has ls 6 [(5, .int (0 : Int32)), (4, .int (0 : Int32)), (0, .ref (g.1 25)), (1, .int x1), (2, .int x2), (3, .int x3)] := hl
    exact j2 x1 x2 x3 (0 : Int32) (0 : Int32) σ _ _ _ (lv_sub hl [2, 3, 4, 5, 1, 0] rfl) hst h
  · replace h := h.2 hc
    refine lv_aload_n hx hb d_Rd_readNumber_32 rfl (lv_at hl 0 rfl) ?_
    refine lv_dup hx hb d_Rd_readNumber_33 rfl ?_
    refine va_get (D := D) (ci := 2) (C := R_Rd) (T := T_Rd) (N := 5) hx hb hts in_Rd hown hK hst.1 25 (WS_o25 g σ) rfl 4 (by decide) (hts _ gw214) (fun _ h9 => h9) rfl d_Rd_readNumber_34 ?_
    refine lv_iconst (v := (1 : Int32)) hx hb d_Rd_readNumber_37 (by decide) ?_
    refine lv_iadd hx hb d_Rd_readNumber_38 ?_
    refine kw_put (D := D) (ci := 2) (ty := .int) (C := R_Rd) (T := T_Rd) (N := 5) hx hb hts in_Rd ty_Rd ty_Rd_ok nm_Rd hown hK hst 25 (WS_o25 g σ) rfl 4 (by decide) (hts _ gw214) (fun _ h9 => h9) rfl (by decide +kernel) rfl rfl (Nat.le_of_ble_eq_true rfl) (WS_p25_4 g σ _) d_Rd_readNumber_39 (fun σ1 H locs e1 hst => ?_)
    replace h := h σ1 e1
    refine lv_iconst (v := (0 : Int32)) hx hb d_Rd_readNumber_42 (by decide) ?_
    refine lv_istore hx hb d_Rd_readNumber_43 hl (by decide) rfl (fun ls hl => ?_)
    have hl : lv_has ls 6 [(4, .int (0 : Int32)), (0, .ref (g.1 25)), (1, .int x1), (2, .int x2), (3, .int x3)] := hl
    refine lv_iconst (v := (0 : Int32)) hx hb d_Rd_readNumber_45 (by decide) ?_
    refine lv_istore hx hb d_Rd_readNumber_46 hl (by decide) rfl (fun ls hl => ?_)
    have hl : lv_has ls 6 [(5, .int (0 : Int32)), (4, .int (0 : Int32)), (0, .ref (g.1 25)), (1, .int x1), (2, .int x2), (3, .int x3)] := hl
    exact j2 x1 x2 x3 (0 : Int32) (0 : Int32) σ1 _ _ _ (lv_sub hl [2, 3, 4, 5, 1, 0] rfl) hst h
set_option maxRecDepth 100000 in
set_option maxHeartbeats 4000000 in
theorem b_Rd_readNumber_13_2 {p : Program} {l : Launch} {e : Env} {s : State} {m : MethodId} {args : Array Value} {below : List Frame} {meth : Method} {c : Code} {D : va_G} {g : Gm} {A : Nat → Prop} {post : Sg → Prop} {F : Nat → Int32 → Int32 → Int32 → Int32 → Int32 → Sg → Prop} (C : kC p s m args meth c k_Rd_readNumber 6 (none) GW R_Rd D vwCl g (Zk g) A) (j2 : J_Rd_readNumber_13_2 p l e s m args below meth c D g A post F) (j3 : J_Rd_readNumber_13_3 p l e s m args below meth c D g A post F) (x1 : Int32) (x2 : Int32) (x3 : Int32) (x4 : Int32) (x5 : Int32) (σ : Sg) (H : Heap) (locs : List Loc) (ls : Array Slot) (hl : lv_has ls 6 [(0, .ref (g.1 25)), (1, .int x1), (2, .int x2), (3, .int x3), (4, .int x4), (5, .int x5)]) (hst : Wst D vwCl (WS g) A s σ H locs) (h : wb_Rd_readNumber_2 13 F post x1 x2 x3 x4 x5 σ) : W p l e { frames := 1, cells := 0, slots := 0, locals := 22 } s m args below meth c H locs 0 0 (MQ below (QvW D vwCl (WS g) post A) args s 0 0 A) (F0 m 48 ls []) := by
  obtain ⟨hx, hb, hr, hml, hown, hts, hlocks, hK, hZ, hA⟩ := C
  unfold wb_Rd_readNumber_2 at h
  refine lv_aload_n hx hb d_Rd_readNumber_48 rfl (lv_at hl 0 rfl) ?_
  refine va_get (D := D) (ci := 2) (C := R_Rd) (T := T_Rd) (N := 5) hx hb hts in_Rd hown hK hst.1 25 (WS_o25 g σ) rfl 4 (by decide) (hts _ gw214) (fun _ h9 => h9) rfl d_Rd_readNumber_49 ?_
  refine lv_aload_n hx hb d_Rd_readNumber_52 rfl (lv_at hl 0 rfl) ?_
  refine va_get (D := D) (ci := 2) (C := R_Rd) (T := T_Rd) (N := 5) hx hb hts in_Rd hown hK hst.1 25 (WS_o25 g σ) rfl 2 (by decide) (hts _ gw212) (fun _ h9 => h9) rfl d_Rd_readNumber_53 ?_
  refine va_get (D := D) (ci := 1) (C := R_Tx) (T := T_Tx) (N := 2) hx hb hts in_Tx hown hK hst.1 23 (WS_o23 g σ) rfl 1 (by decide) (hts _ gw114) (fun _ h9 => h9) rfl d_Rd_readNumber_56 ?_
  refine lv_icmp_ge (tgt := 126) hx hb d_Rd_readNumber_59 (by decide) (fun hc => ?_) (fun hc => ?_)
  · replace h := h.1 hc
    exact j3 x1 x2 x3 x4 x5 σ _ _ _ (lv_sub hl [0, 1, 2, 3, 4, 5] rfl) hst h
  · replace h := h.2 hc
    refine lv_aload_n hx hb d_Rd_readNumber_62 rfl (lv_at hl 0 rfl) ?_
    refine va_get (D := D) (ci := 2) (C := R_Rd) (T := T_Rd) (N := 5) hx hb hts in_Rd hown hK hst.1 25 (WS_o25 g σ) rfl 2 (by decide) (hts _ gw212) (fun _ h9 => h9) rfl d_Rd_readNumber_63 ?_
    refine va_get (D := D) (ci := 1) (C := R_Tx) (T := T_Tx) (N := 2) hx hb hts in_Tx hown hK hst.1 23 (WS_o23 g σ) rfl 0 (by decide) (hts _ gw107) (fun _ h9 => h9) rfl d_Rd_readNumber_66 ?_
    refine lv_aload_n hx hb d_Rd_readNumber_69 rfl (lv_at hl 0 rfl) ?_
    refine va_get (D := D) (ci := 2) (C := R_Rd) (T := T_Rd) (N := 5) hx hb hts in_Rd hown hK hst.1 25 (WS_o25 g σ) rfl 4 (by decide) (hts _ gw214) (fun _ h9 => h9) rfl d_Rd_readNumber_70 ?_
    obtain ⟨hi, h⟩ := h
    refine va_cald hx hb hK hst.1 24 1 (WS_a24 g σ) rfl hi d_Rd_readNumber_73 ?_
    refine kw_calli (va_runS (As := [.int (σ.1 24 ((σ.1 25 4) : Int32).toNatClampNeg)]) (rest := []) ⟨hx, hb, hml, hown, hts⟩ (c_Rd_isDigit l (σ.1 24 ((σ.1 25 4) : Int32).toNatClampNeg) h) (cwS 1 hts (gd_s gw628 gw629 gw9 gw630) rfl rfl rfl (by decide +kernel) ⟨Nat.le_of_ble_eq_true rfl, Nat.le_of_ble_eq_true rfl⟩) ⟨kw_blind (Zk_ok g), kw_pre (Zk_ok g) hK hZ hA hst⟩ rfl rfl hl.1 rfl (lv_room (Nat.le_of_ble_eq_true rfl)) d_Rd_readNumber_74 ⟨Nat.le_of_ble_eq_true rfl, Nat.le_of_ble_eq_true rfl⟩) hst hA (fun r1 σ1 H locs h hst => ?_)
    refine lv_if_eq (tgt := 126) hx hb d_Rd_readNumber_77 (by decide) (fun hc => ?_) (fun hc => ?_)
    · replace h := h.1 hc
      exact j3 x1 x2 x3 x4 x5 σ1 _ _ _ (lv_sub hl [0, 1, 2, 3, 4, 5] rfl) hst h
    · replace h := h.2 hc
      refine lv_iload hx hb d_Rd_readNumber_80 (lv_at hl 4 rfl) ?_
      refine lv_bipush (v := (6 : Int32)) hx hb d_Rd_readNumber_82 (by decide) ?_
      refine lv_icmp_ge (tgt := 110) hx hb d_Rd_readNumber_84 (by decide) (fun hc => ?_) (fun hc => ?_)
      · replace h := h.1 hc
        refine lv_iinc (k := 4) (v := (x4 + 1)) hx hb d_Rd_readNumber_110 hl rfl (kw_inc _ (by decide)) (by decide) rfl (fun ls hl => ?_)
        have hl : lv_has ls 6 [(4, .int (x4 + 1)), (0, .ref (g.1 25)), (1, .int x1), (2, .int x2), (3, .int x3), (5, .int x5)] := hl
        refine lv_aload_n hx hb d_Rd_readNumber_113 rfl (lv_at hl 1 rfl) ?_
        refine lv_dup hx hb d_Rd_readNumber_114 rfl ?_
        refine va_get (D := D) (ci := 2) (C := R_Rd) (T := T_Rd) (N := 5) hx hb hts in_Rd hown hK hst.1 25 (WS_o25 g σ1) rfl 4 (by decide) (hts _ gw214) (fun _ h9 => h9) rfl d_Rd_readNumber_115 ?_
        refine lv_iconst (v := (1 : Int32)) hx hb d_Rd_readNumber_118 (by decide) ?_
        refine lv_iadd hx hb d_Rd_readNumber_119 ?_
        refine kw_put (D := D) (ci := 2) (ty := .int) (C := R_Rd) (T := T_Rd) (N := 5) hx hb hts in_Rd ty_Rd ty_Rd_ok nm_Rd hown hK hst 25 (WS_o25 g σ1) rfl 4 (by decide) (hts _ gw214) (fun _ h9 => h9) rfl (by decide +kernel) rfl rfl (Nat.le_of_ble_eq_true rfl) (WS_p25_4 g σ1 _) d_Rd_readNumber_120 (fun σ2 H locs e2 hst => ?_)
        replace h := h σ2 e2
        refine lv_goto (tgt := 48) hx hb d_Rd_readNumber_123 (by decide) ?_
        exact j2 x1 x2 x3 (x4 + 1) x5 σ2 _ _ _ (lv_sub hl [1, 2, 3, 4, 0, 5] rfl) hst h
      · replace h := h.2 hc
        refine lv_bipush (v := (10 : Int32)) hx hb d_Rd_readNumber_87 (by decide) ?_
        refine lv_iload hx hb d_Rd_readNumber_89 (lv_at hl 5 rfl) ?_
        refine lv_imul hx hb d_Rd_readNumber_91 ?_
        refine lv_aload_n hx hb d_Rd_readNumber_92 rfl (lv_at hl 0 rfl) ?_
        refine va_get (D := D) (ci := 2) (C := R_Rd) (T := T_Rd) (N := 5) hx hb hts in_Rd hown hK hst.1 25 (WS_o25 g σ1) rfl 2 (by decide) (hts _ gw212) (fun _ h9 => h9) rfl d_Rd_readNumber_93 ?_
        refine va_get (D := D) (ci := 1) (C := R_Tx) (T := T_Tx) (N := 2) hx hb hts in_Tx hown hK hst.1 23 (WS_o23 g σ1) rfl 0 (by decide) (hts _ gw107) (fun _ h9 => h9) rfl d_Rd_readNumber_96 ?_
        refine lv_aload_n hx hb d_Rd_readNumber_99 rfl (lv_at hl 0 rfl) ?_
        refine va_get (D := D) (ci := 2) (C := R_Rd) (T := T_Rd) (N := 5) hx hb hts in_Rd hown hK hst.1 25 (WS_o25 g σ1) rfl 4 (by decide) (hts _ gw214) (fun _ h9 => h9) rfl d_Rd_readNumber_100 ?_
        obtain ⟨hi, h⟩ := h
        refine va_cald hx hb hK hst.1 24 1 (WS_a24 g σ1) rfl hi d_Rd_readNumber_103 ?_
        refine lv_bipush (v := (48 : Int32)) hx hb d_Rd_readNumber_104 (by decide) ?_
        refine lv_isub hx hb d_Rd_readNumber_106 ?_
        refine lv_iadd hx hb d_Rd_readNumber_107 ?_
        refine lv_istore hx hb d_Rd_readNumber_108 hl (by decide) rfl (fun ls hl => ?_)
        have hl : lv_has ls 6 [(5, .int (((10 : Int32) * x5) + ((σ1.1 24 ((σ1.1 25 4) : Int32).toNatClampNeg) - (48 : Int32)))), (0, .ref (g.1 25)), (1, .int x1), (2, .int x2), (3, .int x3), (4, .int x4)] := hl
        refine lv_iinc (k := 5) (v := (x4 + 1)) hx hb d_Rd_readNumber_110 hl rfl (kw_inc _ (by decide)) (by decide) rfl (fun ls hl => ?_)
        have hl : lv_has ls 6 [(4, .int (x4 + 1)), (5, .int (((10 : Int32) * x5) + ((σ1.1 24 ((σ1.1 25 4) : Int32).toNatClampNeg) - (48 : Int32)))), (0, .ref (g.1 25)), (1, .int x1), (2, .int x2), (3, .int x3)] := hl
        refine lv_aload_n hx hb d_Rd_readNumber_113 rfl (lv_at hl 2 rfl) ?_
        refine lv_dup hx hb d_Rd_readNumber_114 rfl ?_
        refine va_get (D := D) (ci := 2) (C := R_Rd) (T := T_Rd) (N := 5) hx hb hts in_Rd hown hK hst.1 25 (WS_o25 g σ1) rfl 4 (by decide) (hts _ gw214) (fun _ h9 => h9) rfl d_Rd_readNumber_115 ?_
        refine lv_iconst (v := (1 : Int32)) hx hb d_Rd_readNumber_118 (by decide) ?_
        refine lv_iadd hx hb d_Rd_readNumber_119 ?_
        refine kw_put (D := D) (ci := 2) (ty := .int) (C := R_Rd) (T := T_Rd) (N := 5) hx hb hts in_Rd ty_Rd ty_Rd_ok nm_Rd hown hK hst 25 (WS_o25 g σ1) rfl 4 (by decide) (hts _ gw214) (fun _ h9 => h9) rfl (by decide +kernel) rfl rfl (Nat.le_of_ble_eq_true rfl) (WS_p25_4 g σ1 _) d_Rd_readNumber_120 (fun σ2 H locs e2 hst => ?_)
        replace h := h σ2 e2
        refine lv_goto (tgt := 48) hx hb d_Rd_readNumber_123 (by decide) ?_
        exact j2 x1 x2 x3 (x4 + 1) (((10 : Int32) * x5) + ((σ1.1 24 ((σ1.1 25 4) : Int32).toNatClampNeg) - (48 : Int32))) σ2 _ _ _ (lv_sub hl [2, 3, 4, 5, 0, 1] rfl) hst h
set_option maxRecDepth 100000 in
set_option maxHeartbeats 4000000 in
theorem b_Rd_readNumber_13_3 {p : Program} {l : Launch} {e : Env} {s : State} {m : MethodId} {args : Array Value} {below : List Frame} {meth : Method} {c : Code} {D : va_G} {g : Gm} {A : Nat → Prop} {post : Sg → Prop} {F : Nat → Int32 → Int32 → Int32 → Int32 → Int32 → Sg → Prop} (C : kC p s m args meth c k_Rd_readNumber 6 (none) GW R_Rd D vwCl g (Zk g) A) (j4 : J_Rd_readNumber_13_4 p l e s m args below meth c D g A post F) (x1 : Int32) (x2 : Int32) (x3 : Int32) (x4 : Int32) (x5 : Int32) (σ : Sg) (H : Heap) (locs : List Loc) (ls : Array Slot) (hl : lv_has ls 6 [(0, .ref (g.1 25)), (1, .int x1), (2, .int x2), (3, .int x3), (4, .int x4), (5, .int x5)]) (hst : Wst D vwCl (WS g) A s σ H locs) (h : wb_Rd_readNumber_3 13 F post x1 x2 x3 x4 x5 σ) : W p l e { frames := 1, cells := 0, slots := 0, locals := 22 } s m args below meth c H locs 0 0 (MQ below (QvW D vwCl (WS g) post A) args s 0 0 A) (F0 m 126 ls []) := by
  obtain ⟨hx, hb, hr, hml, hown, hts, hlocks, hK, hZ, hA⟩ := C
  unfold wb_Rd_readNumber_3 at h
  refine lv_iload hx hb d_Rd_readNumber_126 (lv_at hl 4 rfl) ?_
  refine lv_if_ne (tgt := 143) hx hb d_Rd_readNumber_128 (by decide) (fun hc => ?_) (fun hc => ?_)
  · replace h := h.1 hc
    refine lv_iload hx hb d_Rd_readNumber_143 (lv_at hl 4 rfl) ?_
    refine lv_bipush (v := (6 : Int32)) hx hb d_Rd_readNumber_145 (by decide) ?_
    refine lv_icmp_le (tgt := 160) hx hb d_Rd_readNumber_147 (by decide) (fun hc => ?_) (fun hc => ?_)
    · replace h := h.1 hc
      exact j4 x1 x3 x5 σ _ _ _ (lv_sub hl [0, 1, 3, 5] rfl) hst h
    · replace h := h.2 hc
      refine lv_aload_n hx hb d_Rd_readNumber_150 rfl (lv_at hl 0 rfl) ?_
      refine va_get (D := D) (ci := 2) (C := R_Rd) (T := T_Rd) (N := 5) hx hb hts in_Rd hown hK hst.1 25 (WS_o25 g σ) rfl 0 (by decide) (hts _ gw208) (fun _ h9 => h9) rfl d_Rd_readNumber_151 ?_
      refine lv_bipush (v := (6 : Int32)) hx hb d_Rd_readNumber_154 (by decide) ?_
      refine lv_iload_n hx hb d_Rd_readNumber_156 rfl (lv_at hl 2 rfl) ?_
      refine kw_callv (va_runV (As := [.int (6 : Int32), .int x2]) (rest := []) (b := g.1 13) ⟨hx, hb, hml, hown, hts⟩ (c_Tr_blame_13 l (6 : Int32) x2 h) (cwV 2 hts (gd_v gw638 gw639 gw640 gw7 gw641) rfl rfl rfl (by decide +kernel) ⟨Nat.le_of_ble_eq_true rfl, Nat.le_of_ble_eq_true rfl⟩) ⟨kw_blind (Zk_ok g), va_recv hK hst.1 rfl (WS_o13 g σ), kw_pre (Zk_ok g) hK hZ hA hst⟩ rfl rfl hl.1 rfl (lv_room (Nat.le_of_ble_eq_true rfl)) d_Rd_readNumber_157 ⟨Nat.le_of_ble_eq_true rfl, Nat.le_of_ble_eq_true rfl⟩) hst hA (fun σ1 H locs h hst => ?_)
      exact j4 x1 x3 x5 σ1 _ _ _ (lv_sub hl [0, 1, 3, 5] rfl) hst h
  · replace h := h.2 hc
    refine lv_aload_n hx hb d_Rd_readNumber_131 rfl (lv_at hl 0 rfl) ?_
    refine va_get (D := D) (ci := 2) (C := R_Rd) (T := T_Rd) (N := 5) hx hb hts in_Rd hown hK hst.1 25 (WS_o25 g σ) rfl 0 (by decide) (hts _ gw208) (fun _ h9 => h9) rfl d_Rd_readNumber_132 ?_
    refine lv_iconst (v := (5 : Int32)) hx hb d_Rd_readNumber_135 (by decide) ?_
    refine lv_iload_n hx hb d_Rd_readNumber_136 rfl (lv_at hl 2 rfl) ?_
    refine kw_callv (va_runV (As := [.int (5 : Int32), .int x2]) (rest := []) (b := g.1 13) ⟨hx, hb, hml, hown, hts⟩ (c_Tr_blame_13 l (5 : Int32) x2 h) (cwV 2 hts (gd_v gw638 gw639 gw640 gw7 gw641) rfl rfl rfl (by decide +kernel) ⟨Nat.le_of_ble_eq_true rfl, Nat.le_of_ble_eq_true rfl⟩) ⟨kw_blind (Zk_ok g), va_recv hK hst.1 rfl (WS_o13 g σ), kw_pre (Zk_ok g) hK hZ hA hst⟩ rfl rfl hl.1 rfl (lv_room (Nat.le_of_ble_eq_true rfl)) d_Rd_readNumber_137 ⟨Nat.le_of_ble_eq_true rfl, Nat.le_of_ble_eq_true rfl⟩) hst hA (fun σ1 H locs h hst => ?_)
    refine lv_goto (tgt := 160) hx hb d_Rd_readNumber_140 (by decide) ?_
    exact j4 x1 x3 x5 σ1 _ _ _ (lv_sub hl [0, 1, 3, 5] rfl) hst h
set_option maxRecDepth 100000 in
set_option maxHeartbeats 4000000 in
theorem b_Rd_readNumber_13_4 {p : Program} {l : Launch} {e : Env} {s : State} {m : MethodId} {args : Array Value} {below : List Frame} {meth : Method} {c : Code} {D : va_G} {g : Gm} {A : Nat → Prop} {post : Sg → Prop} {F : Nat → Int32 → Int32 → Int32 → Int32 → Int32 → Sg → Prop} (C : kC p s m args meth c k_Rd_readNumber 6 (none) GW R_Rd D vwCl g (Zk g) A) (x1 : Int32) (x3 : Int32) (x5 : Int32) (σ : Sg) (H : Heap) (locs : List Loc) (ls : Array Slot) (hl : lv_has ls 6 [(0, .ref (g.1 25)), (1, .int x1), (3, .int x3), (5, .int x5)]) (hst : Wst D vwCl (WS g) A s σ H locs) (h : wb_Rd_readNumber_4 13 F post x1 x3 x5 σ) : W p l e { frames := 1, cells := 0, slots := 0, locals := 22 } s m args below meth c H locs 0 0 (MQ below (QvW D vwCl (WS g) post A) args s 0 0 A) (F0 m 160 ls []) := by
  obtain ⟨hx, hb, hr, hml, hown, hts, hlocks, hK, hZ, hA⟩ := C
  unfold wb_Rd_readNumber_4 at h
  refine lv_aload_n hx hb d_Rd_readNumber_160 rfl (lv_at hl 0 rfl) ?_
  refine va_get (D := D) (ci := 2) (C := R_Rd) (T := T_Rd) (N := 5) hx hb hts in_Rd hown hK hst.1 25 (WS_o25 g σ) rfl 0 (by decide) (hts _ gw208) (fun _ h9 => h9) rfl d_Rd_readNumber_161 ?_
  refine va_get (D := D) (ci := 0) (C := R_Tr) (T := T_Tr) (N := 12) hx hb hts in_Tr hown hK hst.1 13 (WS_o13 g σ) rfl 7 (by decide) (hts _ gw162) (fun _ h9 => h9) rfl d_Rd_readNumber_164 ?_
  refine lv_iload_n hx hb d_Rd_readNumber_167 rfl (lv_at hl 1 rfl) ?_
  refine lv_iload_n hx hb d_Rd_readNumber_168 rfl (lv_at hl 2 rfl) ?_
  refine lv_if_eq (tgt := 178) hx hb d_Rd_readNumber_169 (by decide) (fun hc => ?_) (fun hc => ?_)
  · replace h := h.1 hc
    refine lv_iload hx hb d_Rd_readNumber_178 (lv_at hl 3 rfl) ?_
    obtain ⟨hi, h⟩ := h
    refine kw_iast hx hb hK hst 20 (WS_a20 g σ) hi (WS_s20 g σ _ _) d_Rd_readNumber_180 (fun σ1 H locs e1 hst => ?_)
    replace h := h σ1 e1
    exact kw_vret hx hb hr hlocks hst h d_Rd_readNumber_181
  · replace h := h.2 hc
    refine lv_iload hx hb d_Rd_readNumber_172 (lv_at hl 3 rfl) ?_
    refine lv_ineg hx hb d_Rd_readNumber_174 ?_
    refine lv_goto (tgt := 180) hx hb d_Rd_readNumber_175 (by decide) ?_
    obtain ⟨hi, h⟩ := h
    refine kw_iast hx hb hK hst 20 (WS_a20 g σ) hi (WS_s20 g σ _ _) d_Rd_readNumber_180 (fun σ1 H locs e1 hst => ?_)
    replace h := h σ1 e1
    exact kw_vret hx hb hr hlocks hst h d_Rd_readNumber_181
set_option maxRecDepth 100000 in
set_option maxHeartbeats 4000000 in
theorem a_Rd_readNumber_13 {p : Program} {l : Launch} {e : Env} {s : State} {m : MethodId} {args : Array Value} {below : List Frame} {meth : Method} {c : Code} {D : va_G} {g : Gm} {A : Nat → Prop} {post : Sg → Prop} (C : kC p s m args meth c k_Rd_readNumber 6 (none) GW R_Rd D vwCl g (Zk g) A) : ∀ n : Nat, J_Rd_readNumber_13_1 p l e s m args below meth c D g A post (wp_Rd_readNumber 13 post n) ∧ J_Rd_readNumber_13_2 p l e s m args below meth c D g A post (wp_Rd_readNumber 13 post n) ∧ J_Rd_readNumber_13_3 p l e s m args below meth c D g A post (wp_Rd_readNumber 13 post n) ∧ J_Rd_readNumber_13_4 p l e s m args below meth c D g A post (wp_Rd_readNumber 13 post n) := by
  intro n
  induction n with
  | zero => exact ⟨fun _ _ _ _ _ _ _ _ _ h => h.elim, fun _ _ _ _ _ _ _ _ _ _ _ h => h.elim, fun _ _ _ _ _ _ _ _ _ _ _ h => h.elim, fun _ _ _ _ _ _ _ _ _ h => h.elim⟩
  | succ n ih => exact ⟨fun x1 x2 x3 σ H locs ls hl hst h => b_Rd_readNumber_13_1 (F := wp_Rd_readNumber 13 post n) C (ih.2.1) x1 x2 x3 σ H locs ls hl hst h, fun x1 x2 x3 x4 x5 σ H locs ls hl hst h => b_Rd_readNumber_13_2 (F := wp_Rd_readNumber 13 post n) C (ih.2.1) (ih.2.2.1) x1 x2 x3 x4 x5 σ H locs ls hl hst h, fun x1 x2 x3 x4 x5 σ H locs ls hl hst h => b_Rd_readNumber_13_3 (F := wp_Rd_readNumber 13 post n) C (ih.2.2.2) x1 x2 x3 x4 x5 σ H locs ls hl hst h, fun x1 x3 x5 σ H locs ls hl hst h => b_Rd_readNumber_13_4 (F := wp_Rd_readNumber 13 post n) C x1 x3 x5 σ H locs ls hl hst h⟩
set_option maxRecDepth 100000 in
set_option maxHeartbeats 4000000 in
theorem c_Rd_readNumber_13 (l : Launch) {D : va_G} {g : Gm} {sz : Nat} (x1 : Int32) {σ : Sg} {post : Sg → Prop} (h : wq_Rd_readNumber 13 x1 σ post) : Met l y_Rd_readNumber (.code y_Rd_readNumber k_Rd_readNumber 6 (none) :: GW) { frames := 1, cells := 0, slots := 0, locals := 22 } (PcW D vwCl (WS g) g (Zk g) σ sz [.ref (g.1 25), .int x1]) (QvW D vwCl (WS g) post (va_A (WS g σ) sz)) 0 0 (va_A (WS g σ) sz) := by
  refine kw_entry (own := R_Rd) (by decide) rfl rfl (Nat.le_of_ble_eq_true rfl) ?_
  intro p e s m below meth c ls hsz C hin hl hst
  obtain ⟨n, h⟩ := h
  cases n with
  | zero => exact h.elim
  | succ n =>
    have ih := a_Rd_readNumber_13 (l := l) (e := e) (below := below) (post := post) C n
    exact b_Rd_readNumber_13_0 (F := wp_Rd_readNumber 13 post n) C (ih.1) x1 σ _ _ ls hl hst h
/-! SchemaDesk$Reader.readLetters (I)V -/
abbrev k_Rd_readLetters : ByteArray := prog_5_method_12_code
abbrev y_Rd_readLetters : MethodName := ⟨"SchemaDesk$Reader", "readLetters", "(I)V"⟩
theorem d_Rd_readLetters_0 : decode k_Rd_readLetters 0 = .ok (.aload_n 0, 1) := by decide +kernel
theorem d_Rd_readLetters_1 : decode k_Rd_readLetters 1 = .ok (.getfield 33, 3) := by decide +kernel
theorem d_Rd_readLetters_4 : decode k_Rd_readLetters 4 = .ok (.istore_n 2, 1) := by decide +kernel
theorem d_Rd_readLetters_5 : decode k_Rd_readLetters 5 = .ok (.aload_n 0, 1) := by decide +kernel
theorem d_Rd_readLetters_6 : decode k_Rd_readLetters 6 = .ok (.getfield 33, 3) := by decide +kernel
theorem d_Rd_readLetters_9 : decode k_Rd_readLetters 9 = .ok (.aload_n 0, 1) := by decide +kernel
theorem d_Rd_readLetters_10 : decode k_Rd_readLetters 10 = .ok (.getfield 21, 3) := by decide +kernel
theorem d_Rd_readLetters_13 : decode k_Rd_readLetters 13 = .ok (.getfield 40, 3) := by decide +kernel
theorem d_Rd_readLetters_16 : decode k_Rd_readLetters 16 = .ok (.if_icmp .ge 34, 3) := by decide +kernel
theorem d_Rd_readLetters_19 : decode k_Rd_readLetters 19 = .ok (.aload_n 0, 1) := by decide +kernel
theorem d_Rd_readLetters_20 : decode k_Rd_readLetters 20 = .ok (.getfield 21, 3) := by decide +kernel
theorem d_Rd_readLetters_23 : decode k_Rd_readLetters 23 = .ok (.getfield 61, 3) := by decide +kernel
theorem d_Rd_readLetters_26 : decode k_Rd_readLetters 26 = .ok (.aload_n 0, 1) := by decide +kernel
theorem d_Rd_readLetters_27 : decode k_Rd_readLetters 27 = .ok (.getfield 33, 3) := by decide +kernel
theorem d_Rd_readLetters_30 : decode k_Rd_readLetters 30 = .ok (.caload, 1) := by decide +kernel
theorem d_Rd_readLetters_31 : decode k_Rd_readLetters 31 = .ok (.invokestatic 72, 3) := by decide +kernel
theorem d_Rd_readLetters_34 : decode k_Rd_readLetters 34 = .ok (.ifCond .eq 16, 3) := by decide +kernel
theorem d_Rd_readLetters_37 : decode k_Rd_readLetters 37 = .ok (.aload_n 0, 1) := by decide +kernel
theorem d_Rd_readLetters_38 : decode k_Rd_readLetters 38 = .ok (.dup, 1) := by decide +kernel
theorem d_Rd_readLetters_39 : decode k_Rd_readLetters 39 = .ok (.getfield 33, 3) := by decide +kernel
theorem d_Rd_readLetters_42 : decode k_Rd_readLetters 42 = .ok (.iconst 1, 1) := by decide +kernel
theorem d_Rd_readLetters_43 : decode k_Rd_readLetters 43 = .ok (.iadd, 1) := by decide +kernel
theorem d_Rd_readLetters_44 : decode k_Rd_readLetters 44 = .ok (.putfield 33, 3) := by decide +kernel
theorem d_Rd_readLetters_47 : decode k_Rd_readLetters 47 = .ok (.goto (-42), 3) := by decide +kernel
theorem d_Rd_readLetters_50 : decode k_Rd_readLetters 50 = .ok (.aload_n 0, 1) := by decide +kernel
theorem d_Rd_readLetters_51 : decode k_Rd_readLetters 51 = .ok (.getfield 22, 3) := by decide +kernel
theorem d_Rd_readLetters_54 : decode k_Rd_readLetters 54 = .ok (.bipush 28, 2) := by decide +kernel
theorem d_Rd_readLetters_56 : decode k_Rd_readLetters 56 = .ok (.aload_n 0, 1) := by decide +kernel
theorem d_Rd_readLetters_57 : decode k_Rd_readLetters 57 = .ok (.getfield 21, 3) := by decide +kernel
theorem d_Rd_readLetters_60 : decode k_Rd_readLetters 60 = .ok (.iload_n 2, 1) := by decide +kernel
theorem d_Rd_readLetters_61 : decode k_Rd_readLetters 61 = .ok (.aload_n 0, 1) := by decide +kernel
theorem d_Rd_readLetters_62 : decode k_Rd_readLetters 62 = .ok (.getfield 33, 3) := by decide +kernel
theorem d_Rd_readLetters_65 : decode k_Rd_readLetters 65 = .ok (.invokevirtual 119, 3) := by decide +kernel
theorem d_Rd_readLetters_68 : decode k_Rd_readLetters 68 = .ok (.ifCond .eq 16, 3) := by decide +kernel
theorem d_Rd_readLetters_71 : decode k_Rd_readLetters 71 = .ok (.aload_n 0, 1) := by decide +kernel
theorem d_Rd_readLetters_72 : decode k_Rd_readLetters 72 = .ok (.getfield 9, 3) := by decide +kernel
theorem d_Rd_readLetters_75 : decode k_Rd_readLetters 75 = .ok (.getfield 98, 3) := by decide +kernel
theorem d_Rd_readLetters_78 : decode k_Rd_readLetters 78 = .ok (.iload_n 1, 1) := by decide +kernel
theorem d_Rd_readLetters_79 : decode k_Rd_readLetters 79 = .ok (.iconst 1, 1) := by decide +kernel
theorem d_Rd_readLetters_80 : decode k_Rd_readLetters 80 = .ok (.iastore, 1) := by decide +kernel
theorem d_Rd_readLetters_81 : decode k_Rd_readLetters 81 = .ok (.goto 68, 3) := by decide +kernel
theorem d_Rd_readLetters_84 : decode k_Rd_readLetters 84 = .ok (.aload_n 0, 1) := by decide +kernel
theorem d_Rd_readLetters_85 : decode k_Rd_readLetters 85 = .ok (.getfield 22, 3) := by decide +kernel
theorem d_Rd_readLetters_88 : decode k_Rd_readLetters 88 = .ok (.bipush 29, 2) := by decide +kernel
theorem d_Rd_readLetters_90 : decode k_Rd_readLetters 90 = .ok (.aload_n 0, 1) := by decide +kernel
theorem d_Rd_readLetters_91 : decode k_Rd_readLetters 91 = .ok (.getfield 21, 3) := by decide +kernel
theorem d_Rd_readLetters_94 : decode k_Rd_readLetters 94 = .ok (.iload_n 2, 1) := by decide +kernel
theorem d_Rd_readLetters_95 : decode k_Rd_readLetters 95 = .ok (.aload_n 0, 1) := by decide +kernel
theorem d_Rd_readLetters_96 : decode k_Rd_readLetters 96 = .ok (.getfield 33, 3) := by decide +kernel
theorem d_Rd_readLetters_99 : decode k_Rd_readLetters 99 = .ok (.invokevirtual 119, 3) := by decide +kernel
theorem d_Rd_readLetters_102 : decode k_Rd_readLetters 102 = .ok (.ifCond .eq 16, 3) := by decide +kernel
theorem d_Rd_readLetters_105 : decode k_Rd_readLetters 105 = .ok (.aload_n 0, 1) := by decide +kernel
theorem d_Rd_readLetters_106 : decode k_Rd_readLetters 106 = .ok (.getfield 9, 3) := by decide +kernel
theorem d_Rd_readLetters_109 : decode k_Rd_readLetters 109 = .ok (.getfield 98, 3) := by decide +kernel
theorem d_Rd_readLetters_112 : decode k_Rd_readLetters 112 = .ok (.iload_n 1, 1) := by decide +kernel
theorem d_Rd_readLetters_113 : decode k_Rd_readLetters 113 = .ok (.iconst 2, 1) := by decide +kernel
theorem d_Rd_readLetters_114 : decode k_Rd_readLetters 114 = .ok (.iastore, 1) := by decide +kernel
theorem d_Rd_readLetters_115 : decode k_Rd_readLetters 115 = .ok (.goto 34, 3) := by decide +kernel
theorem d_Rd_readLetters_118 : decode k_Rd_readLetters 118 = .ok (.aload_n 0, 1) := by decide +kernel
theorem d_Rd_readLetters_119 : decode k_Rd_readLetters 119 = .ok (.getfield 22, 3) := by decide +kernel
theorem d_Rd_readLetters_122 : decode k_Rd_readLetters 122 = .ok (.bipush 22, 2) := by decide +kernel
theorem d_Rd_readLetters_124 : decode k_Rd_readLetters 124 = .ok (.aload_n 0, 1) := by decide +kernel
theorem d_Rd_readLetters_125 : decode k_Rd_readLetters 125 = .ok (.getfield 21, 3) := by decide +kernel
theorem d_Rd_readLetters_128 : decode k_Rd_readLetters 128 = .ok (.iload_n 2, 1) := by decide +kernel
theorem d_Rd_readLetters_129 : decode k_Rd_readLetters 129 = .ok (.aload_n 0, 1) := by decide +kernel
theorem d_Rd_readLetters_130 : decode k_Rd_readLetters 130 = .ok (.getfield 33, 3) := by decide +kernel
theorem d_Rd_readLetters_133 : decode k_Rd_readLetters 133 = .ok (.invokevirtual 119, 3) := by decide +kernel
theorem d_Rd_readLetters_136 : decode k_Rd_readLetters 136 = .ok (.ifCond .ne 13, 3) := by decide +kernel
theorem d_Rd_readLetters_139 : decode k_Rd_readLetters 139 = .ok (.aload_n 0, 1) := by decide +kernel
theorem d_Rd_readLetters_140 : decode k_Rd_readLetters 140 = .ok (.getfield 9, 3) := by decide +kernel
theorem d_Rd_readLetters_143 : decode k_Rd_readLetters 143 = .ok (.bipush 7, 2) := by decide +kernel
theorem d_Rd_readLetters_145 : decode k_Rd_readLetters 145 = .ok (.iload_n 2, 1) := by decide +kernel
theorem d_Rd_readLetters_146 : decode k_Rd_readLetters 146 = .ok (.invokevirtual 53, 3) := by decide +kernel
theorem d_Rd_readLetters_149 : decode k_Rd_readLetters 149 = .ok (.return_, 1) := by decide +kernel
theorem gw213 : (Jvm.Cond.fieldLink "SchemaDesk$Reader" (22 : Nat) "SchemaDesk$Reader" "words" "LSchemaDesk$WordBook;") ∈ GW := gw_t1 (List.mem_of_getElem? (i := 213) rfl) rfl
theorem gw681 : (Jvm.Cond.methodLink "SchemaDesk$Reader" (119 : Nat) ({ cls := "SchemaDesk$WordBook", name := "isWord", desc := "(ILSchemaDesk$Text;II)Z" } : Jvm.MethodName)) ∈ GW := gw_t3 (List.mem_of_getElem? (i := 201) rfl) rfl
theorem gw682 : (Jvm.Cond.instanceMethod ({ cls := "SchemaDesk$WordBook", name := "isWord", desc := "(ILSchemaDesk$Text;II)Z" } : Jvm.MethodName)) ∈ GW := gw_t3 (List.mem_of_getElem? (i := 202) rfl) rfl
theorem gw683 : (Jvm.Cond.selects "SchemaDesk$WordBook" ({ cls := "SchemaDesk$WordBook", name := "isWord", desc := "(ILSchemaDesk$Text;II)Z" } : Jvm.MethodName) ({ cls := "SchemaDesk$WordBook", name := "isWord", desc := "(ILSchemaDesk$Text;II)Z" } : Jvm.MethodName)) ∈ GW := gw_t3 (List.mem_of_getElem? (i := 203) rfl) rfl
theorem gw2 : (Jvm.Cond.initialized "SchemaDesk$WordBook") ∈ GW := gw_t1 (List.mem_of_getElem? (i := 2) rfl) rfl
theorem gw684 : (Jvm.Cond.code ({ cls := "SchemaDesk$WordBook", name := "isWord", desc := "(ILSchemaDesk$Text;II)Z" } : Jvm.MethodName) prog_10_method_4_code (7 : Nat) (Option.some Jvm.ClassFile.FieldType.boolean)) ∈ GW := gw_t3 (List.mem_of_getElem? (i := 204) rfl) rfl
theorem gw135 : (Jvm.Cond.fieldLink "SchemaDesk$Reader" (98 : Nat) "SchemaDesk$Tree" "kind" "[I") ∈ GW := gw_t1 (List.mem_of_getElem? (i := 135) rfl) rfl
def wb_Rd_readLetters_0 (b : Nat) (F : Nat → Int32 → Int32 → Sg → Prop) (post : Sg → Prop) (x1 : Int32) (σ : Sg) : Prop := F 1 x1 (σ.1 (b + 12) 4) σ
def wb_Rd_readLetters_1 (b : Nat) (F : Nat → Int32 → Int32 → Sg → Prop) (post : Sg → Prop) (x1 : Int32) (x2 : Int32) (σ : Sg) : Prop := (((σ.1 (b + 10) 1) ≤ (σ.1 (b + 12) 4) → F 2 x1 x2 σ) ∧ (¬ (σ.1 (b + 10) 1) ≤ (σ.1 (b + 12) 4) → (vp_in (σ.1 (b + 12) 4) (tl b) ∧ (wq_Rd_isLowerLetter (σ.1 (b + 11) ((σ.1 (b + 12) 4) : Int32).toNatClampNeg) σ (fun r1 σ1 => ((r1 = 0 → F 2 x1 x2 σ1) ∧ (¬ r1 = 0 → (∀ σ2, σ2 = si σ1 (b + 12) 4 ((σ1.1 (b + 12) 4) + (1 : Int32)) → F 1 x1 x2 σ2))))))))
def wb_Rd_readLetters_2 (b : Nat) (F : Nat → Int32 → Int32 → Sg → Prop) (post : Sg → Prop) (x1 : Int32) (x2 : Int32) (σ : Sg) : Prop := (wq_Wb_isWord b (28 : Int32) x2 (σ.1 (b + 12) 4) σ (fun r1 σ1 => ((r1 = 0 → (wq_Wb_isWord b (29 : Int32) x2 (σ1.1 (b + 12) 4) σ1 (fun r2 σ2 => ((r2 = 0 → (wq_Wb_isWord b (22 : Int32) x2 (σ2.1 (b + 12) 4) σ2 (fun r3 σ3 => ((¬ r3 = 0 → post σ3) ∧ (r3 = 0 → (wq_Tr_blame b (7 : Int32) x2 σ3 (fun σ4 => post σ4))))))) ∧ (¬ r2 = 0 → (vp_in x1 (tl b) ∧ (∀ σ3, σ3 = si σ2 (b + 1) x1.toNatClampNeg (2 : Int32) → post σ3))))))) ∧ (¬ r1 = 0 → (vp_in x1 (tl b) ∧ (∀ σ2, σ2 = si σ1 (b + 1) x1.toNatClampNeg (1 : Int32) → post σ2))))))
def wp_Rd_readLetters (b : Nat) (post : Sg → Prop) : Nat → Nat → Int32 → Int32 → Sg → Prop
  | 0, _, _, _, _ => False
  | n + 1, k, x1, x2, σ => match k with
    | 0 => wb_Rd_readLetters_0 b (wp_Rd_readLetters b post n) post x1 σ
    | 1 => wb_Rd_readLetters_1 b (wp_Rd_readLetters b post n) post x1 x2 σ
    | 2 => wb_Rd_readLetters_2 b (wp_Rd_readLetters b post n) post x1 x2 σ
    | _ => False
def wq_Rd_readLetters (b : Nat) (x1 : Int32) (σ : Sg) (post : Sg → Prop) : Prop := ∃ n, wp_Rd_readLetters b post n 0 x1 0 σ
def J_Rd_readLetters_0_1 (p : Program) (l : Launch) (e : Env) (s : State) (m : MethodId) (args : Array Value) (below : List Frame) (meth : Method) (c : Code) (D : va_G) (g : Gm) (A : Nat → Prop) (post : Sg → Prop) (F : Nat → Int32 → Int32 → Sg → Prop) : Prop := ∀ (x1 : Int32) (x2 : Int32) (σ : Sg) (H : Heap) (locs : List Loc) (ls : Array Slot), lv_has ls 3 [(0, .ref (g.1 12)), (1, .int x1), (2, .int x2)] → Wst D vwCl (WS g) A s σ H locs → F 1 x1 x2 σ → W p l e { frames := 1, cells := 0, slots := 0, locals := 26 } s m args below meth c H locs 0 0 (MQ below (QvW D vwCl (WS g) post A) args s 0 0 A) (F0 m 5 ls [])
def J_Rd_readLetters_0_2 (p : Program) (l : Launch) (e : Env) (s : State) (m : MethodId) (args : Array Value) (below : List Frame) (meth : Method) (c : Code) (D : va_G) (g : Gm) (A : Nat → Prop) (post : Sg → Prop) (F : Nat → Int32 → Int32 → Sg → Prop) : Prop := ∀ (x1 : Int32) (x2 : Int32) (σ : Sg) (H : Heap) (locs : List Loc) (ls : Array Slot), lv_has ls 3 [(0, .ref (g.1 12)), (1, .int x1), (2, .int x2)] → Wst D vwCl (WS g) A s σ H locs → F 2 x1 x2 σ → W p l e { frames := 1, cells := 0, slots := 0, locals := 26 } s m args below meth c H locs 0 0 (MQ below (QvW D vwCl (WS g) post A) args s 0 0 A) (F0 m 50 ls [])
set_option maxRecDepth 100000 in
set_option maxHeartbeats 4000000 in
theorem b_Rd_readLetters_0_0 {p : Program} {l : Launch} {e : Env} {s : State} {m : MethodId} {args : Array Value} {below : List Frame} {meth : Method} {c : Code} {D : va_G} {g : Gm} {A : Nat → Prop} {post : Sg → Prop} {F : Nat → Int32 → Int32 → Sg → Prop} (C : kC p s m args meth c k_Rd_readLetters 3 (none) GW R_Rd D vwCl g (Zk g) A) (j1 : J_Rd_readLetters_0_1 p l e s m args below meth c D g A post F) (x1 : Int32) (σ : Sg) (H : Heap) (locs : List Loc) (ls : Array Slot) (hl : lv_has ls 3 [(0, .ref (g.1 12)), (1, .int x1)]) (hst : Wst D vwCl (WS g) A s σ H locs) (h : wb_Rd_readLetters_0 0 F post x1 σ) : W p l e { frames := 1, cells := 0, slots := 0, locals := 26 } s m args below meth c H locs 0 0 (MQ below (QvW D vwCl (WS g) post A) args s 0 0 A) (F0 m 0 ls []) := by
  obtain ⟨hx, hb, hr, hml, hown, hts, hlocks, hK, hZ, hA⟩ := C
  unfold wb_Rd_readLetters_0 at h
  refine lv_aload_n hx hb d_Rd_readLetters_0 rfl (lv_at hl 0 rfl) ?_
  refine va_get (D := D) (ci := 2) (C := R_Rd) (T := T_Rd) (N := 5) hx hb hts in_Rd hown hK hst.1 12 (WS_o12 g σ) rfl 4 (by decide) (hts _ gw214) (fun _ h9 => h9) rfl d_Rd_readLetters_1 ?_
  refine lv_istore_n hx hb d_Rd_readLetters_4 rfl hl (by decide) rfl (fun ls hl => ?_)
  have hl : lv_has ls 3 [(2, .int (σ.1 12 4)), (0, .ref (g.1 12)), (1, .int x1)] := hl
  exact j1 x1 (σ.1 12 4) σ _ _ _ (lv_sub hl [1, 2, 0] rfl) hst h
set_option maxRecDepth 100000 in
set_option maxHeartbeats 4000000 in
theorem b_Rd_readLetters_0_1 {p : Program} {l : Launch} {e : Env} {s : State} {m : MethodId} {args : Array Value} {below : List Frame} {meth : Method} {c : Code} {D : va_G} {g : Gm} {A : Nat → Prop} {post : Sg → Prop} {F : Nat → Int32 → Int32 → Sg → Prop} (C : kC p s m args meth c k_Rd_readLetters 3 (none) GW R_Rd D vwCl g (Zk g) A) (j1 : J_Rd_readLetters_0_1 p l e s m args below meth c D g A post F) (j2 : J_Rd_readLetters_0_2 p l e s m args below meth c D g A post F) (x1 : Int32) (x2 : Int32) (σ : Sg) (H : Heap) (locs : List Loc) (ls : Array Slot) (hl : lv_has ls 3 [(0, .ref (g.1 12)), (1, .int x1), (2, .int x2)]) (hst : Wst D vwCl (WS g) A s σ H locs) (h : wb_Rd_readLetters_1 0 F post x1 x2 σ) : W p l e { frames := 1, cells := 0, slots := 0, locals := 26 } s m args below meth c H locs 0 0 (MQ below (QvW D vwCl (WS g) post A) args s 0 0 A) (F0 m 5 ls []) := by
  obtain ⟨hx, hb, hr, hml, hown, hts, hlocks, hK, hZ, hA⟩ := C
  unfold wb_Rd_readLetters_1 at h
  refine lv_aload_n hx hb d_Rd_readLetters_5 rfl (lv_at hl 0 rfl) ?_
  refine va_get (D := D) (ci := 2) (C := R_Rd) (T := T_Rd) (N := 5) hx hb hts in_Rd hown hK hst.1 12 (WS_o12 g σ) rfl 4 (by decide) (hts _ gw214) (fun _ h9 => h9) rfl d_Rd_readLetters_6 ?_
  refine lv_aload_n hx hb d_Rd_readLetters_9 rfl (lv_at hl 0 rfl) ?_
  refine va_get (D := D) (ci := 2) (C := R_Rd) (T := T_Rd) (N := 5) hx hb hts in_Rd hown hK hst.1 12 (WS_o12 g σ) rfl 2 (by decide) (hts _ gw212) (fun _ h9 => h9) rfl d_Rd_readLetters_10 ?_
  refine va_get (D := D) (ci := 1) (C := R_Tx) (T := T_Tx) (N := 2) hx hb hts in_Tx hown hK hst.1 10 (WS_o10 g σ) rfl 1 (by decide) (hts _ gw114) (fun _ h9 => h9) rfl d_Rd_readLetters_13 ?_
  refine lv_icmp_ge (tgt := 50) hx hb d_Rd_readLetters_16 (by decide) (fun hc => ?_) (fun hc => ?_)
  · replace h := h.1 hc
    exact j2 x1 x2 σ _ _ _ (lv_sub hl [0, 1, 2] rfl) hst h
  · replace h := h.2 hc
    refine lv_aload_n hx hb d_Rd_readLetters_19 rfl (lv_at hl 0 rfl) ?_
    refine va_get (D := D) (ci := 2) (C := R_Rd) (T := T_Rd) (N := 5) hx hb hts in_Rd hown hK hst.1 12 (WS_o12 g σ) rfl 2 (by decide) (hts _ gw212) (fun _ h9 => h9) rfl d_Rd_readLetters_20 ?_
    refine va_get (D := D) (ci := 1) (C := R_Tx) (T := T_Tx) (N := 2) hx hb hts in_Tx hown hK hst.1 10 (WS_o10 g σ) rfl 0 (by decide) (hts _ gw107) (fun _ h9 => h9) rfl d_Rd_readLetters_23 ?_
    refine lv_aload_n hx hb d_Rd_readLetters_26 rfl (lv_at hl 0 rfl) ?_
    refine va_get (D := D) (ci := 2) (C := R_Rd) (T := T_Rd) (N := 5) hx hb hts in_Rd hown hK hst.1 12 (WS_o12 g σ) rfl 4 (by decide) (hts _ gw214) (fun _ h9 => h9) rfl d_Rd_readLetters_27 ?_
    obtain ⟨hi, h⟩ := h
    refine va_cald hx hb hK hst.1 11 1 (WS_a11 g σ) rfl hi d_Rd_readLetters_30 ?_
    refine kw_calli (va_runS (As := [.int (σ.1 11 ((σ.1 12 4) : Int32).toNatClampNeg)]) (rest := []) ⟨hx, hb, hml, hown, hts⟩ (c_Rd_isLowerLetter l (σ.1 11 ((σ.1 12 4) : Int32).toNatClampNeg) h) (cwS 1 hts (gd_s gw631 gw632 gw9 gw633) rfl rfl rfl (by decide +kernel) ⟨Nat.le_of_ble_eq_true rfl, Nat.le_of_ble_eq_true rfl⟩) ⟨kw_blind (Zk_ok g), kw_pre (Zk_ok g) hK hZ hA hst⟩ rfl rfl hl.1 rfl (lv_room (Nat.le_of_ble_eq_true rfl)) d_Rd_readLetters_31 ⟨Nat.le_of_ble_eq_true rfl, Nat.le_of_ble_eq_true rfl⟩) hst hA (fun r1 σ1 H locs h hst => ?_)
    refine lv_if_eq (tgt := 50) hx hb d_Rd_readLetters_34 (by decide) (fun hc => ?_) (fun hc => ?_)
    · replace h := h.1 hc
      exact j2 x1 x2 σ1 _ _ _ (lv_sub hl [0, 1, 2] rfl) hst h
    · replace h := h.2 hc
      refine lv_aload_n hx hb d_Rd_readLetters_37 rfl (lv_at hl 0 rfl) ?_
      refine lv_dup hx hb d_Rd_readLetters_38 rfl ?_
      refine va_get (D := D) (ci := 2) (C := R_Rd) (T := T_Rd) (N := 5) hx hb hts in_Rd hown hK hst.1 12 (WS_o12 g σ1) rfl 4 (by decide) (hts _ gw214) (fun _ h9 => h9) rfl d_Rd_readLetters_39 ?_
      refine lv_iconst (v := (1 : Int32)) hx hb d_Rd_readLetters_42 (by decide) ?_
      refine lv_iadd hx hb d_Rd_readLetters_43 ?_
      refine kw_put (D := D) (ci := 2) (ty := .int) (C := R_Rd) (T := T_Rd) (N := 5) hx hb hts in_Rd ty_Rd ty_Rd_ok nm_Rd hown hK hst 12 (WS_o12 g σ1) rfl 4 (by decide) (hts _ gw214) (fun _ h9 => h9) rfl (by decide +kernel) rfl rfl (Nat.le_of_ble_eq_true rfl) (WS_p12_4 g σ1 _) d_Rd_readLetters_44 (fun σ2 H locs e2 hst => ?_)
      replace h := h σ2 e2
      refine lv_goto (tgt := 5) hx hb d_Rd_readLetters_47 (by decide) ?_
      exact j1 x1 x2 σ2 _ _ _ (lv_sub hl [0, 1, 2] rfl) hst h
set_option maxRecDepth 100000 in
set_option maxHeartbeats 4000000 in
theorem b_Rd_readLetters_0_2 {p : Program} {l : Launch} {e : Env} {s : State} {m : MethodId} {args : Array Value} {below : List Frame} {meth : Method} {c : Code} {D : va_G} {g : Gm} {A : Nat → Prop} {post : Sg → Prop} {F : Nat → Int32 → Int32 → Sg → Prop} (C : kC p s m args meth c k_Rd_readLetters 3 (none) GW R_Rd D vwCl g (Zk g) A) (x1 : Int32) (x2 : Int32) (σ : Sg) (H : Heap) (locs : List Loc) (ls : Array Slot) (hl : lv_has ls 3 [(0, .ref (g.1 12)), (1, .int x1), (2, .int x2)]) (hst : Wst D vwCl (WS g) A s σ H locs) (h : wb_Rd_readLetters_2 0 F post x1 x2 σ) : W p l e { frames := 1, cells := 0, slots := 0, locals := 26 } s m args below meth c H locs 0 0 (MQ below (QvW D vwCl (WS g) post A) args s 0 0 A) (F0 m 50 ls []) := by
  obtain ⟨hx, hb, hr, hml, hown, hts, hlocks, hK, hZ, hA⟩ := C
  unfold wb_Rd_readLetters_2 at h
  refine lv_aload_n hx hb d_Rd_readLetters_50 rfl (lv_at hl 0 rfl) ?_
  refine va_get (D := D) (ci := 2) (C := R_Rd) (T := T_Rd) (N := 5) hx hb hts in_Rd hown hK hst.1 12 (WS_o12 g σ) rfl 3 (by decide) (hts _ gw213) (fun _ h9 => h9) rfl d_Rd_readLetters_51 ?_
  refine lv_bipush (v := (28 : Int32)) hx hb d_Rd_readLetters_54 (by decide) ?_
  refine lv_aload_n hx hb d_Rd_readLetters_56 rfl (lv_at hl 0 rfl) ?_
  refine va_get (D := D) (ci := 2) (C := R_Rd) (T := T_Rd) (N := 5) hx hb hts in_Rd hown hK hst.1 12 (WS_o12 g σ) rfl 2 (by decide) (hts _ gw212) (fun _ h9 => h9) rfl d_Rd_readLetters_57 ?_
  refine lv_iload_n hx hb d_Rd_readLetters_60 rfl (lv_at hl 2 rfl) ?_
  refine lv_aload_n hx hb d_Rd_readLetters_61 rfl (lv_at hl 0 rfl) ?_
  refine va_get (D := D) (ci := 2) (C := R_Rd) (T := T_Rd) (N := 5) hx hb hts in_Rd hown hK hst.1 12 (WS_o12 g σ) rfl 4 (by decide) (hts _ gw214) (fun _ h9 => h9) rfl d_Rd_readLetters_62 ?_
  refine kw_calli (va_runV (As := [.int (28 : Int32), .ref (g.1 10), .int x2, .int (σ.1 12 4)]) (rest := []) (b := g.1 26) ⟨hx, hb, hml, hown, hts⟩ (c_Wb_isWord_0 l (28 : Int32) x2 (σ.1 12 4) h) (cwV 4 hts (gd_v gw681 gw682 gw683 gw2 gw684) rfl rfl rfl (by decide +kernel) ⟨Nat.le_of_ble_eq_true rfl, Nat.le_of_ble_eq_true rfl⟩) ⟨kw_blind (Zk_ok g), va_recv hK hst.1 rfl (WS_o26 g σ), kw_pre (Zk_ok g) hK hZ hA hst⟩ rfl rfl hl.1 rfl (lv_room (Nat.le_of_ble_eq_true rfl)) d_Rd_readLetters_65 ⟨Nat.le_of_ble_eq_true rfl, Nat.le_of_ble_eq_true rfl⟩) hst hA (fun r1 σ1 H locs h hst => ?_)
  refine lv_if_eq (tgt := 84) hx hb d_Rd_readLetters_68 (by decide) (fun hc => ?_) (fun hc => ?_)
  · replace h := h.1 hc
    refine lv_aload_n hx hb d_Rd_readLetters_84 rfl (lv_at hl 0 rfl) ?_
    refine va_get (D := D) (ci := 2) (C := R_Rd) (T := T_Rd) (N := 5) hx hb hts in_Rd hown hK hst.1 12 (WS_o12 g σ1) rfl 3 (by decide) (hts _ gw213) (fun _ h9 => h9) rfl d_Rd_readLetters_85 ?_
    refine lv_bipush (v := (29 : Int32)) hx hb d_Rd_readLetters_88 (by decide) ?_
    refine lv_aload_n hx hb d_Rd_readLetters_90 rfl (lv_at hl 0 rfl) ?_
    refine va_get (D := D) (ci := 2) (C := R_Rd) (T := T_Rd) (N := 5) hx hb hts in_Rd hown hK hst.1 12 (WS_o12 g σ1) rfl 2 (by decide) (hts _ gw212) (fun _ h9 => h9) rfl d_Rd_readLetters_91 ?_
    refine lv_iload_n hx hb d_Rd_readLetters_94 rfl (lv_at hl 2 rfl) ?_
    refine lv_aload_n hx hb d_Rd_readLetters_95 rfl (lv_at hl 0 rfl) ?_
    refine va_get (D := D) (ci := 2) (C := R_Rd) (T := T_Rd) (N := 5) hx hb hts in_Rd hown hK hst.1 12 (WS_o12 g σ1) rfl 4 (by decide) (hts _ gw214) (fun _ h9 => h9) rfl d_Rd_readLetters_96 ?_
    refine kw_calli (va_runV (As := [.int (29 : Int32), .ref (g.1 10), .int x2, .int (σ1.1 12 4)]) (rest := []) (b := g.1 26) ⟨hx, hb, hml, hown, hts⟩ (c_Wb_isWord_0 l (29 : Int32) x2 (σ1.1 12 4) h) (cwV 4 hts (gd_v gw681 gw682 gw683 gw2 gw684) rfl rfl rfl (by decide +kernel) ⟨Nat.le_of_ble_eq_true rfl, Nat.le_of_ble_eq_true rfl⟩) ⟨kw_blind (Zk_ok g), va_recv hK hst.1 rfl (WS_o26 g σ1), kw_pre (Zk_ok g) hK hZ hA hst⟩ rfl rfl hl.1 rfl (lv_room (Nat.le_of_ble_eq_true rfl)) d_Rd_readLetters_99 ⟨Nat.le_of_ble_eq_true rfl, Nat.le_of_ble_eq_true rfl⟩) hst hA (fun r2 σ2 H locs h hst => ?_)
    refine lv_if_eq (tgt := 118) hx hb d_Rd_readLetters_102 (by decide) (fun hc => ?_) (fun hc => ?_)
    · replace h := h.1 hc
      refine lv_aload_n hx hb d_Rd_readLetters_118 rfl (lv_at hl 0 rfl) ?_
      refine va_get (D := D) (ci := 2) (C := R_Rd) (T := T_Rd) (N := 5) hx hb hts in_Rd hown hK hst.1 12 (WS_o12 g σ2) rfl 3 (by decide) (hts _ gw213) (fun _ h9 => h9) rfl d_Rd_readLetters_119 ?_
      refine lv_bipush (v := (22 : Int32)) hx hb d_Rd_readLetters_122 (by decide) ?_
      refine lv_aload_n hx hb d_Rd_readLetters_124 rfl (lv_at hl 0 rfl) ?_
      refine va_get (D := D) (ci := 2) (C := R_Rd) (T := T_Rd) (N := 5) hx hb hts in_Rd hown hK hst.1 12 (WS_o12 g σ2) rfl 2 (by decide) (hts _ gw212) (fun _ h9 => h9) rfl d_Rd_readLetters_125 ?_
      refine lv_iload_n hx hb d_Rd_readLetters_128 rfl (lv_at hl 2 rfl) ?_
      refine lv_aload_n hx hb d_Rd_readLetters_129 rfl (lv_at hl 0 rfl) ?_
      refine va_get (D := D) (ci := 2) (C := R_Rd) (T := T_Rd) (N := 5) hx hb hts in_Rd hown hK hst.1 12 (WS_o12 g σ2) rfl 4 (by decide) (hts _ gw214) (fun _ h9 => h9) rfl d_Rd_readLetters_130 ?_
      refine kw_calli (va_runV (As := [.int (22 : Int32), .ref (g.1 10), .int x2, .int (σ2.1 12 4)]) (rest := []) (b := g.1 26) ⟨hx, hb, hml, hown, hts⟩ (c_Wb_isWord_0 l (22 : Int32) x2 (σ2.1 12 4) h) (cwV 4 hts (gd_v gw681 gw682 gw683 gw2 gw684) rfl rfl rfl (by decide +kernel) ⟨Nat.le_of_ble_eq_true rfl, Nat.le_of_ble_eq_true rfl⟩) ⟨kw_blind (Zk_ok g), va_recv hK hst.1 rfl (WS_o26 g σ2), kw_pre (Zk_ok g) hK hZ hA hst⟩ rfl rfl hl.1 rfl (lv_room (Nat.le_of_ble_eq_true rfl)) d_Rd_readLetters_133 ⟨Nat.le_of_ble_eq_true rfl, Nat.le_of_ble_eq_true rfl⟩) hst hA (fun r3 σ3 H locs h hst => ?_)
      refine lv_if_ne (tgt := 149) hx hb d_Rd_readLetters_136 (by decide) (fun hc => ?_) (fun hc => ?_)
      · replace h := h.1 hc
        exact kw_vret hx hb hr hlocks hst h d_Rd_readLetters_149
      · replace h := h.2 hc
        refine lv_aload_n hx hb d_Rd_readLetters_139 rfl (lv_at hl 0 rfl) ?_
        refine va_get (D := D) (ci := 2) (C := R_Rd) (T := T_Rd) (N := 5) hx hb hts in_Rd hown hK hst.1 12 (WS_o12 g σ3) rfl 0 (by decide) (hts _ gw208) (fun _ h9 => h9) rfl d_Rd_readLetters_140 ?_
        refine lv_bipush (v := (7 : Int32)) hx hb d_Rd_readLetters_143 (by decide) ?_
        refine lv_iload_n hx hb d_Rd_readLetters_145 rfl (lv_at hl 2 rfl) ?_
        refine kw_callv (va_runV (As := [.int (7 : Int32), .int x2]) (rest := []) (b := g.1 0) ⟨hx, hb, hml, hown, hts⟩ (c_Tr_blame_0 l (7 : Int32) x2 h) (cwV 2 hts (gd_v gw638 gw639 gw640 gw7 gw641) rfl rfl rfl (by decide +kernel) ⟨Nat.le_of_ble_eq_true rfl, Nat.le_of_ble_eq_true rfl⟩) ⟨kw_blind (Zk_ok g), va_recv hK hst.1 rfl (WS_o0 g σ3), kw_pre (Zk_ok g) hK hZ hA hst⟩ rfl rfl hl.1 rfl (lv_room (Nat.le_of_ble_eq_true rfl)) d_Rd_readLetters_146 ⟨Nat.le_of_ble_eq_true rfl, Nat.le_of_ble_eq_true rfl⟩) hst hA (fun σ4 H locs h hst => ?_)
        exact kw_vret hx hb hr hlocks hst h d_Rd_readLetters_149
    · replace h := h.2 hc
      refine lv_aload_n hx hb d_Rd_readLetters_105 rfl (lv_at hl 0 rfl) ?_
      refine va_get (D := D) (ci := 2) (C := R_Rd) (T := T_Rd) (N := 5) hx hb hts in_Rd hown hK hst.1 12 (WS_o12 g σ2) rfl 0 (by decide) (hts _ gw208) (fun _ h9 => h9) rfl d_Rd_readLetters_106 ?_
      refine va_get (D := D) (ci := 0) (C := R_Tr) (T := T_Tr) (N := 12) hx hb hts in_Tr hown hK hst.1 0 (WS_o0 g σ2) rfl 1 (by decide) (hts _ gw135) (fun _ h9 => h9) rfl d_Rd_readLetters_109 ?_
      refine lv_iload_n hx hb d_Rd_readLetters_112 rfl (lv_at hl 1 rfl) ?_
      refine lv_iconst (v := (2 : Int32)) hx hb d_Rd_readLetters_113 (by decide) ?_
      obtain ⟨hi, h⟩ := h
      refine kw_iast hx hb hK hst 1 (WS_a1 g σ2) hi (WS_s1 g σ2 _ _) d_Rd_readLetters_114 (fun σ3 H locs e3 hst => ?_)
      replace h := h σ3 e3
      refine lv_goto (tgt := 149) hx hb d_Rd_readLetters_115 (by decide) ?_
      exact kw_vret hx hb hr hlocks hst h d_Rd_readLetters_149
  · replace h := h.2 hc
    refine lv_aload_n hx hb d_Rd_readLetters_71 rfl (lv_at hl 0 rfl) ?_
    refine va_get (D := D) (ci := 2) (C := R_Rd) (T := T_Rd) (N := 5) hx hb hts in_Rd hown hK hst.1 12 (WS_o12 g σ1) rfl 0 (by decide) (hts _ gw208) (fun _ h9 => h9) rfl d_Rd_readLetters_72 ?_
    refine va_get (D := D) (ci := 0) (C := R_Tr) (T := T_Tr) (N := 12) hx hb hts in_Tr hown hK hst.1 0 (WS_o0 g σ1) rfl 1 (by decide) (hts _ gw135) (fun _ h9 => h9) rfl d_Rd_readLetters_75 ?_
    refine lv_iload_n hx hb d_Rd_readLetters_78 rfl (lv_at hl 1 rfl) ?_
    refine lv_iconst (v := (1 : Int32)) hx hb d_Rd_readLetters_79 (by decide) ?_
    obtain ⟨hi, h⟩ := h
    refine kw_iast hx hb hK hst 1 (WS_a1 g σ1) hi (WS_s1 g σ1 _ _) d_Rd_readLetters_80 (fun σ2 H locs e2 hst => ?_)
    replace h := h σ2 e2
    refine lv_goto (tgt := 149) hx hb d_Rd_readLetters_81 (by decide) ?_
    exact kw_vret hx hb hr hlocks hst h d_Rd_readLetters_149
set_option maxRecDepth 100000 in
set_option maxHeartbeats 4000000 in
theorem a_Rd_readLetters_0 {p : Program} {l : Launch} {e : Env} {s : State} {m : MethodId} {args : Array Value} {below : List Frame} {meth : Method} {c : Code} {D : va_G} {g : Gm} {A : Nat → Prop} {post : Sg → Prop} (C : kC p s m args meth c k_Rd_readLetters 3 (none) GW R_Rd D vwCl g (Zk g) A) : ∀ n : Nat, J_Rd_readLetters_0_1 p l e s m args below meth c D g A post (wp_Rd_readLetters 0 post n) ∧ J_Rd_readLetters_0_2 p l e s m args below meth c D g A post (wp_Rd_readLetters 0 post n) := by
  intro n
  induction n with
  | zero => exact ⟨fun _ _ _ _ _ _ _ _ h => h.elim, fun _ _ _ _ _ _ _ _ h => h.elim⟩
  | succ n ih => exact ⟨fun x1 x2 σ H locs ls hl hst h => b_Rd_readLetters_0_1 (F := wp_Rd_readLetters 0 post n) C (ih.1) (ih.2) x1 x2 σ H locs ls hl hst h, fun x1 x2 σ H locs ls hl hst h => b_Rd_readLetters_0_2 (F := wp_Rd_readLetters 0 post n) C x1 x2 σ H locs ls hl hst h⟩
set_option maxRecDepth 100000 in
set_option maxHeartbeats 4000000 in
theorem c_Rd_readLetters_0 (l : Launch) {D : va_G} {g : Gm} {sz : Nat} (x1 : Int32) {σ : Sg} {post : Sg → Prop} (h : wq_Rd_readLetters 0 x1 σ post) : Met l y_Rd_readLetters (.code y_Rd_readLetters k_Rd_readLetters 3 (none) :: GW) { frames := 1, cells := 0, slots := 0, locals := 26 } (PcW D vwCl (WS g) g (Zk g) σ sz [.ref (g.1 12), .int x1]) (QvW D vwCl (WS g) post (va_A (WS g σ) sz)) 0 0 (va_A (WS g σ) sz) := by
  refine kw_entry (own := R_Rd) (by decide) rfl rfl (Nat.le_of_ble_eq_true rfl) ?_
  intro p e s m below meth c ls hsz C hin hl hst
  obtain ⟨n, h⟩ := h
  cases n with
  | zero => exact h.elim
  | succ n =>
    have ih := a_Rd_readLetters_0 (l := l) (e := e) (below := below) (post := post) C n
    exact b_Rd_readLetters_0_0 (F := wp_Rd_readLetters 0 post n) C (ih.1) x1 σ _ _ ls hl hst h
def J_Rd_readLetters_13_1 (p : Program) (l : Launch) (e : Env) (s : State) (m : MethodId) (args : Array Value) (below : List Frame) (meth : Method) (c : Code) (D : va_G) (g : Gm) (A : Nat → Prop) (post : Sg → Prop) (F : Nat → Int32 → Int32 → Sg → Prop) : Prop := ∀ (x1 : Int32) (x2 : Int32) (σ : Sg) (H : Heap) (locs : List Loc) (ls : Array Slot), lv_has ls 3 [(0, .ref (g.1 25)), (1, .int x1), (2, .int x2)] → Wst D vwCl (WS g) A s σ H locs → F 1 x1 x2 σ → W p l e { frames := 1, cells := 0, slots := 0, locals := 26 } s m args below meth c H locs 0 0 (MQ below (QvW D vwCl (WS g) post A) args s 0 0 A) (F0 m 5 ls [])
def J_Rd_readLetters_13_2 (p : Program) (l : Launch) (e : Env) (s : State) (m : MethodId) (args : Array Value) (below : List Frame) (meth : Method) (c : Code) (D : va_G) (g : Gm) (A : Nat → Prop) (post : Sg → Prop) (F : Nat → Int32 → Int32 → Sg → Prop) : Prop := ∀ (x1 : Int32) (x2 : Int32) (σ : Sg) (H : Heap) (locs : List Loc) (ls : Array Slot), lv_has ls 3 [(0, .ref (g.1 25)), (1, .int x1), (2, .int x2)] → Wst D vwCl (WS g) A s σ H locs → F 2 x1 x2 σ → W p l e { frames := 1, cells := 0, slots := 0, locals := 26 } s m args below meth c H locs 0 0 (MQ below (QvW D vwCl (WS g) post A) args s 0 0 A) (F0 m 50 ls [])
set_option maxRecDepth 100000 in
set_option maxHeartbeats 4000000 in
theorem b_Rd_readLetters_13_0 {p : Program} {l : Launch} {e : Env} {s : State} {m : MethodId} {args : Array Value} {below : List Frame} {meth : Method} {c : Code} {D : va_G} {g : Gm} {A : Nat → Prop} {post : Sg → Prop} {F : Nat → Int32 → Int32 → Sg → Prop} (C : kC p s m args meth c k_Rd_readLetters 3 (none) GW R_Rd D vwCl g (Zk g) A) (j1 : J_Rd_readLetters_13_1 p l e s m args below meth c D g A post F) (x1 : Int32) (σ : Sg) (H : Heap) (locs : List Loc) (ls : Array Slot) (hl : lv_has ls 3 [(0, .ref (g.1 25)), (1, .int x1)]) (hst : Wst D vwCl (WS g) A s σ H locs) (h : wb_Rd_readLetters_0 13 F post x1 σ) : W p l e { frames := 1, cells := 0, slots := 0, locals := 26 } s m args below meth c H locs 0 0 (MQ below (QvW D vwCl (WS g) post A) args s 0 0 A) (F0 m 0 ls []) := by
  obtain ⟨hx, hb, hr, hml, hown, hts, hlocks, hK, hZ, hA⟩ := C
  unfold wb_Rd_readLetters_0 at h
  refine lv_aload_n hx hb d_Rd_readLetters_0 rfl (lv_at hl 0 rfl) ?_
  refine va_get (D := D) (ci := 2) (C := R_Rd) (T := T_Rd) (N := 5) hx hb hts in_Rd hown hK hst.1 25 (WS_o25 g σ) rfl 4 (by decide) (hts _ gw214) (fun _ h9 => h9) rfl d_Rd_readLetters_1 ?_
  refine lv_istore_n hx hb d_Rd_readLetters_4 rfl hl (by decide) rfl (fun ls hl => ?_)
  have hl : lv_has ls 3 [(2, .int (σ.1 25 4)), (0, .ref (g.1 25)), (1, .int x1)] := hl
  exact j1 x1 (σ.1 25 4) σ _ _ _ (lv_sub hl [1, 2, 0] rfl) hst h
set_option maxRecDepth 100000 in
set_option maxHeartbeats 4000000 in
theorem b_Rd_readLetters_13_1 {p : Program} {l : Launch} {e : Env} {s : State} {m : MethodId} {args : Array Value} {below : List Frame} {meth : Method} {c : Code} {D : va_G} {g : Gm} {A : Nat → Prop} {post : Sg → Prop} {F : Nat → Int32 → Int32 → Sg → Prop} (C : kC p s m args meth c k_Rd_readLetters 3 (none) GW R_Rd D vwCl g (Zk g) A) (j1 : J_Rd_readLetters_13_1 p l e s m args below meth c D g A post F) (j2 : J_Rd_readLetters_13_2 p l e s m args below meth c D g A post F) (x1 : Int32) (x2 : Int32) (σ : Sg) (H : Heap) (locs : List Loc) (ls : Array Slot) (hl : lv_has ls 3 [(0, .ref (g.1 25)), (1, .int x1), (2, .int x2)]) (hst : Wst D vwCl (WS g) A s σ H locs) (h : wb_Rd_readLetters_1 13 F post x1 x2 σ) : W p l e { frames := 1, cells := 0, slots := 0, locals := 26 } s m args below meth c H locs 0 0 (MQ below (QvW D vwCl (WS g) post A) args s 0 0 A) (F0 m 5 ls []) := by
  obtain ⟨hx, hb, hr, hml, hown, hts, hlocks, hK, hZ, hA⟩ := C
  unfold wb_Rd_readLetters_1 at h
  refine lv_aload_n hx hb d_Rd_readLetters_5 rfl (lv_at hl 0 rfl) ?_
  refine va_get (D := D) (ci := 2) (C := R_Rd) (T := T_Rd) (N := 5) hx hb hts in_Rd hown hK hst.1 25 (WS_o25 g σ) rfl 4 (by decide) (hts _ gw214) (fun _ h9 => h9) rfl d_Rd_readLetters_6 ?_
  refine lv_aload_n hx hb d_Rd_readLetters_9 rfl (lv_at hl 0 rfl) ?_
  refine va_get (D := D) (ci := 2) (C := R_Rd) (T := T_Rd) (N := 5) hx hb hts in_Rd hown hK hst.1 25 (WS_o25 g σ) rfl 2 (by decide) (hts _ gw212) (fun _ h9 => h9) rfl d_Rd_readLetters_10 ?_
  refine va_get (D := D) (ci := 1) (C := R_Tx) (T := T_Tx) (N := 2) hx hb hts in_Tx hown hK hst.1 23 (WS_o23 g σ) rfl 1 (by decide) (hts _ gw114) (fun _ h9 => h9) rfl d_Rd_readLetters_13 ?_
  refine lv_icmp_ge (tgt := 50) hx hb d_Rd_readLetters_16 (by decide) (fun hc => ?_) (fun hc => ?_)
  · replace h := h.1 hc
    exact j2 x1 x2 σ _ _ _ (lv_sub hl [0, 1, 2] rfl) hst h
  · replace h := h.2 hc
    refine lv_aload_n hx hb d_Rd_readLetters_19 rfl (lv_at hl 0 rfl) ?_
    refine va_get (D := D) (ci := 2) (C := R_Rd) (T := T_Rd) (N := 5) hx hb hts in_Rd hown hK hst.1 25 (WS_o25 g σ) rfl 2 (by decide) (hts _ gw212) (fun _ h9 => h9) rfl d_Rd_readLetters_20 ?_
    refine va_get (D := D) (ci := 1) (C := R_Tx) (T := T_Tx) (N := 2) hx hb hts in_Tx hown hK hst.1 23 (WS_o23 g σ) rfl 0 (by decide) (hts _ gw107) (fun _ h9 => h9) rfl d_Rd_readLetters_23 ?_
    refine lv_aload_n hx hb d_Rd_readLetters_26 rfl (lv_at hl 0 rfl) ?_
    refine va_get (D := D) (ci := 2) (C := R_Rd) (T := T_Rd) (N := 5) hx hb hts in_Rd hown hK hst.1 25 (WS_o25 g σ) rfl 4 (by decide) (hts _ gw214) (fun _ h9 => h9) rfl d_Rd_readLetters_27 ?_
    obtain ⟨hi, h⟩ := h
    refine va_cald hx hb hK hst.1 24 1 (WS_a24 g σ) rfl hi d_Rd_readLetters_30 ?_
    refine kw_calli (va_runS (As := [.int (σ.1 24 ((σ.1 25 4) : Int32).toNatClampNeg)]) (rest := []) ⟨hx, hb, hml, hown, hts⟩ (c_Rd_isLowerLetter l (σ.1 24 ((σ.1 25 4) : Int32).toNatClampNeg) h) (cwS 1 hts (gd_s gw631 gw632 gw9 gw633) rfl rfl rfl (by decide +kernel) ⟨Nat.le_of_ble_eq_true rfl, Nat.le_of_ble_eq_true rfl⟩) ⟨kw_blind (Zk_ok g), kw_pre (Zk_ok g) hK hZ hA hst⟩ rfl rfl hl.1 rfl (lv_room (Nat.le_of_ble_eq_true rfl)) d_Rd_readLetters_31 ⟨Nat.le_of_ble_eq_true rfl, Nat.le_of_ble_eq_true rfl⟩) hst hA (fun r1 σ1 H locs h hst => ?_)
    refine lv_if_eq (tgt := 50) hx hb d_Rd_readLetters_34 (by decide) (fun hc => ?_) (fun hc => ?_)
    · replace h := h.1 hc
      exact j2 x1 x2 σ1 _ _ _ (lv_sub hl [0, 1, 2] rfl) hst h
    · replace h := h.2 hc
      refine lv_aload_n hx hb d_Rd_readLetters_37 rfl (lv_at hl 0 rfl) ?_
      refine lv_dup hx hb d_Rd_readLetters_38 rfl ?_
      refine va_get (D := D) (ci := 2) (C := R_Rd) (T := T_Rd) (N := 5) hx hb hts in_Rd hown hK hst.1 25 (WS_o25 g σ1) rfl 4 (by decide) (hts _ gw214) (fun _ h9 => h9) rfl d_Rd_readLetters_39 ?_
      refine lv_iconst (v := (1 : Int32)) hx hb d_Rd_readLetters_42 (by decide) ?_
      refine lv_iadd hx hb d_Rd_readLetters_43 ?_
      refine kw_put (D := D) (ci := 2) (ty := .int) (C := R_Rd) (T := T_Rd) (N := 5) hx hb hts in_Rd ty_Rd ty_Rd_ok nm_Rd hown hK hst 25 (WS_o25 g σ1) rfl 4 (by decide) (hts _ gw214) (fun _ h9 => h9) rfl (by decide +kernel) rfl rfl (Nat.le_of_ble_eq_true rfl) (WS_p25_4 g σ1 _) d_Rd_readLetters_44 (fun σ2 H locs e2 hst => ?_)
      replace h := h σ2 e2
      refine lv_goto (tgt := 5) hx hb d_Rd_readLetters_47 (by decide) ?_
      exact j1 x1 x2 σ2 _ _ _ (lv_sub hl [0, 1, 2] rfl) hst h
set_option maxRecDepth 100000 in
set_option maxHeartbeats 4000000 in
theorem b_Rd_readLetters_13_2 {p : Program} {l : Launch} {e : Env} {s : State} {m : MethodId} {args : Array Value} {below : List Frame} {meth : Method} {c : Code} {D : va_G} {g : Gm} {A : Nat → Prop} {post : Sg → Prop} {F : Nat → Int32 → Int32 → Sg → Prop} (C : kC p s m args meth c k_Rd_readLetters 3 (none) GW R_Rd D vwCl g (Zk g) A) (x1 : Int32) (x2 : Int32) (σ : Sg) (H : Heap) (locs : List Loc) (ls : Array Slot) (hl : lv_has ls 3 [(0, .ref (g.1 25)), (1, .int x1), (2, .int x2)]) (hst : Wst D vwCl (WS g) A s σ H locs) (h : wb_Rd_readLetters_2 13 F post x1 x2 σ) : W p l e { frames := 1, cells := 0, slots := 0, locals := 26 } s m args below meth c H locs 0 0 (MQ below (QvW D vwCl (WS g) post A) args s 0 0 A) (F0 m 50 ls []) := by
  obtain ⟨hx, hb, hr, hml, hown, hts, hlocks, hK, hZ, hA⟩ := C
  unfold wb_Rd_readLetters_2 at h
  refine lv_aload_n hx hb d_Rd_readLetters_50 rfl (lv_at hl 0 rfl) ?_
  refine va_get (D := D) (ci := 2) (C := R_Rd) (T := T_Rd) (N := 5) hx hb hts in_Rd hown hK hst.1 25 (WS_o25 g σ) rfl 3 (by decide) (hts _ gw213) (fun _ h9 => h9) rfl d_Rd_readLetters_51 ?_
  refine lv_bipush (v := (28 : Int32)) hx hb d_Rd_readLetters_54 (by decide) ?_
  refine lv_aload_n hx hb d_Rd_readLetters_56 rfl (lv_at hl 0 rfl) ?_
  refine va_get (D := D) (ci := 2) (C := R_Rd) (T := T_Rd) (N := 5) hx hb hts in_Rd hown hK hst.1 25 (WS_o25 g σ) rfl 2 (by decide) (hts _ gw212) (fun _ h9 => h9) rfl d_Rd_readLetters_57 ?_
  refine lv_iload_n hx hb d_Rd_readLetters_60 rfl (lv_at hl 2 rfl) ?_
  refine lv_aload_n hx hb d_Rd_readLetters_61 rfl (lv_at hl 0 rfl) ?_
  refine va_get (D := D) (ci := 2) (C := R_Rd) (T := T_Rd) (N := 5) hx hb hts in_Rd hown hK hst.1 25 (WS_o25 g σ) rfl 4 (by decide) (hts _ gw214) (fun _ h9 => h9) rfl d_Rd_readLetters_62 ?_
  refine kw_calli (va_runV (As := [.int (28 : Int32), .ref (g.1 23), .int x2, .int (σ.1 25 4)]) (rest := []) (b := g.1 26) ⟨hx, hb, hml, hown, hts⟩ (c_Wb_isWord_13 l (28 : Int32) x2 (σ.1 25 4) h) (cwV 4 hts (gd_v gw681 gw682 gw683 gw2 gw684) rfl rfl rfl (by decide +kernel) ⟨Nat.le_of_ble_eq_true rfl, Nat.le_of_ble_eq_true rfl⟩) ⟨kw_blind (Zk_ok g), va_recv hK hst.1 rfl (WS_o26 g σ), kw_pre (Zk_ok g) hK hZ hA hst⟩ rfl rfl hl.1 rfl (lv_room (Nat.le_of_ble_eq_true rfl)) d_Rd_readLetters_65 ⟨Nat.le_of_ble_eq_true rfl, Nat.le_of_ble_eq_true rfl⟩) hst hA (fun r1 σ1 H locs h hst => ?_)
  refine lv_if_eq (tgt := 84) hx hb d_Rd_readLetters_68 (by decide) (fun hc => ?_) (fun hc => ?_)
  · replace h := h.1 hc
    refine lv_aload_n hx hb d_Rd_readLetters_84 rfl (lv_at hl 0 rfl) ?_
    refine va_get (D := D) (ci := 2) (C := R_Rd) (T := T_Rd) (N := 5) hx hb hts in_Rd hown hK hst.1 25 (WS_o25 g σ1) rfl 3 (by decide) (hts _ gw213) (fun _ h9 => h9) rfl d_Rd_readLetters_85 ?_
    refine lv_bipush (v := (29 : Int32)) hx hb d_Rd_readLetters_88 (by decide) ?_
    refine lv_aload_n hx hb d_Rd_readLetters_90 rfl (lv_at hl 0 rfl) ?_
    refine va_get (D := D) (ci := 2) (C := R_Rd) (T := T_Rd) (N := 5) hx hb hts in_Rd hown hK hst.1 25 (WS_o25 g σ1) rfl 2 (by decide) (hts _ gw212) (fun _ h9 => h9) rfl d_Rd_readLetters_91 ?_
    refine lv_iload_n hx hb d_Rd_readLetters_94 rfl (lv_at hl 2 rfl) ?_
    refine lv_aload_n hx hb d_Rd_readLetters_95 rfl (lv_at hl 0 rfl) ?_
    refine va_get (D := D) (ci := 2) (C := R_Rd) (T := T_Rd) (N := 5) hx hb hts in_Rd hown hK hst.1 25 (WS_o25 g σ1) rfl 4 (by decide) (hts _ gw214) (fun _ h9 => h9) rfl d_Rd_readLetters_96 ?_
    refine kw_calli (va_runV (As := [.int (29 : Int32), .ref (g.1 23), .int x2, .int (σ1.1 25 4)]) (rest := []) (b := g.1 26) ⟨hx, hb, hml, hown, hts⟩ (c_Wb_isWord_13 l (29 : Int32) x2 (σ1.1 25 4) h) (cwV 4 hts (gd_v gw681 gw682 gw683 gw2 gw684) rfl rfl rfl (by decide +kernel) ⟨Nat.le_of_ble_eq_true rfl, Nat.le_of_ble_eq_true rfl⟩) ⟨kw_blind (Zk_ok g), va_recv hK hst.1 rfl (WS_o26 g σ1), kw_pre (Zk_ok g) hK hZ hA hst⟩ rfl rfl hl.1 rfl (lv_room (Nat.le_of_ble_eq_true rfl)) d_Rd_readLetters_99 ⟨Nat.le_of_ble_eq_true rfl, Nat.le_of_ble_eq_true rfl⟩) hst hA (fun r2 σ2 H locs h hst => ?_)
    refine lv_if_eq (tgt := 118) hx hb d_Rd_readLetters_102 (by decide) (fun hc => ?_) (fun hc => ?_)
    · replace h := h.1 hc
      refine lv_aload_n hx hb d_Rd_readLetters_118 rfl (lv_at hl 0 rfl) ?_
      refine va_get (D := D) (ci := 2) (C := R_Rd) (T := T_Rd) (N := 5) hx hb hts in_Rd hown hK hst.1 25 (WS_o25 g σ2) rfl 3 (by decide) (hts _ gw213) (fun _ h9 => h9) rfl d_Rd_readLetters_119 ?_
      refine lv_bipush (v := (22 : Int32)) hx hb d_Rd_readLetters_122 (by decide) ?_
      refine lv_aload_n hx hb d_Rd_readLetters_124 rfl (lv_at hl 0 rfl) ?_
      refine va_get (D := D) (ci := 2) (C := R_Rd) (T := T_Rd) (N := 5) hx hb hts in_Rd hown hK hst.1 25 (WS_o25 g σ2) rfl 2 (by decide) (hts _ gw212) (fun _ h9 => h9) rfl d_Rd_readLetters_125 ?_
      refine lv_iload_n hx hb d_Rd_readLetters_128 rfl (lv_at hl 2 rfl) ?_
      refine lv_aload_n hx hb d_Rd_readLetters_129 rfl (lv_at hl 0 rfl) ?_
      refine va_get (D := D) (ci := 2) (C := R_Rd) (T := T_Rd) (N := 5) hx hb hts in_Rd hown hK hst.1 25 (WS_o25 g σ2) rfl 4 (by decide) (hts _ gw214) (fun _ h9 => h9) rfl d_Rd_readLetters_130 ?_
      refine kw_calli (va_runV (As := [.int (22 : Int32), .ref (g.1 23), .int x2, .int (σ2.1 25 4)]) (rest := []) (b := g.1 26) ⟨hx, hb, hml, hown, hts⟩ (c_Wb_isWord_13 l (22 : Int32) x2 (σ2.1 25 4) h) (cwV 4 hts (gd_v gw681 gw682 gw683 gw2 gw684) rfl rfl rfl (by decide +kernel) ⟨Nat.le_of_ble_eq_true rfl, Nat.le_of_ble_eq_true rfl⟩) ⟨kw_blind (Zk_ok g), va_recv hK hst.1 rfl (WS_o26 g σ2), kw_pre (Zk_ok g) hK hZ hA hst⟩ rfl rfl hl.1 rfl (lv_room (Nat.le_of_ble_eq_true rfl)) d_Rd_readLetters_133 ⟨Nat.le_of_ble_eq_true rfl, Nat.le_of_ble_eq_true rfl⟩) hst hA (fun r3 σ3 H locs h hst => ?_)
      refine lv_if_ne (tgt := 149) hx hb d_Rd_readLetters_136 (by decide) (fun hc => ?_) (fun hc => ?_)
      · replace h := h.1 hc
        exact kw_vret hx hb hr hlocks hst h d_Rd_readLetters_149
      · replace h := h.2 hc
        refine lv_aload_n hx hb d_Rd_readLetters_139 rfl (lv_at hl 0 rfl) ?_
        refine va_get (D := D) (ci := 2) (C := R_Rd) (T := T_Rd) (N := 5) hx hb hts in_Rd hown hK hst.1 25 (WS_o25 g σ3) rfl 0 (by decide) (hts _ gw208) (fun _ h9 => h9) rfl d_Rd_readLetters_140 ?_
        refine lv_bipush (v := (7 : Int32)) hx hb d_Rd_readLetters_143 (by decide) ?_
        refine lv_iload_n hx hb d_Rd_readLetters_145 rfl (lv_at hl 2 rfl) ?_
        refine kw_callv (va_runV (As := [.int (7 : Int32), .int x2]) (rest := []) (b := g.1 13) ⟨hx, hb, hml, hown, hts⟩ (c_Tr_blame_13 l (7 : Int32) x2 h) (cwV 2 hts (gd_v gw638 gw639 gw640 gw7 gw641) rfl rfl rfl (by decide +kernel) ⟨Nat.le_of_ble_eq_true rfl, Nat.le_of_ble_eq_true rfl⟩) ⟨kw_blind (Zk_ok g), va_recv hK hst.1 rfl (WS_o13 g σ3), kw_pre (Zk_ok g) hK hZ hA hst⟩ rfl rfl hl.1 rfl (lv_room (Nat.le_of_ble_eq_true rfl)) d_Rd_readLetters_146 ⟨Nat.le_of_ble_eq_true rfl, Nat.le_of_ble_eq_true rfl⟩) hst hA (fun σ4 H locs h hst => ?_)
        exact kw_vret hx hb hr hlocks hst h d_Rd_readLetters_149
    · replace h := h.2 hc
      refine lv_aload_n hx hb d_Rd_readLetters_105 rfl (lv_at hl 0 rfl) ?_
      refine va_get (D := D) (ci := 2) (C := R_Rd) (T := T_Rd) (N := 5) hx hb hts in_Rd hown hK hst.1 25 (WS_o25 g σ2) rfl 0 (by decide) (hts _ gw208) (fun _ h9 => h9) rfl d_Rd_readLetters_106 ?_
      refine va_get (D := D) (ci := 0) (C := R_Tr) (T := T_Tr) (N := 12) hx hb hts in_Tr hown hK hst.1 13 (WS_o13 g σ2) rfl 1 (by decide) (hts _ gw135) (fun _ h9 => h9) rfl d_Rd_readLetters_109 ?_
      refine lv_iload_n hx hb d_Rd_readLetters_112 rfl (lv_at hl 1 rfl) ?_
      refine lv_iconst (v := (2 : Int32)) hx hb d_Rd_readLetters_113 (by decide) ?_
      obtain ⟨hi, h⟩ := h
      refine kw_iast hx hb hK hst 14 (WS_a14 g σ2) hi (WS_s14 g σ2 _ _) d_Rd_readLetters_114 (fun σ3 H locs e3 hst => ?_)
      replace h := h σ3 e3
      refine lv_goto (tgt := 149) hx hb d_Rd_readLetters_115 (by decide) ?_
      exact kw_vret hx hb hr hlocks hst h d_Rd_readLetters_149
  · replace h := h.2 hc
    refine lv_aload_n hx hb d_Rd_readLetters_71 rfl (lv_at hl 0 rfl) ?_
    refine va_get (D := D) (ci := 2) (C := R_Rd) (T := T_Rd) (N := 5) hx hb hts in_Rd hown hK hst.1 25 (WS_o25 g σ1) rfl 0 (by decide) (hts _ gw208) (fun _ h9 => h9) rfl d_Rd_readLetters_72 ?_
    refine va_get (D := D) (ci := 0) (C := R_Tr) (T := T_Tr) (N := 12) hx hb hts in_Tr hown hK hst.1 13 (WS_o13 g σ1) rfl 1 (by decide) (hts _ gw135) (fun _ h9 => h9) rfl d_Rd_readLetters_75 ?_
    refine lv_iload_n hx hb d_Rd_readLetters_78 rfl (lv_at hl 1 rfl) ?_
    refine lv_iconst (v := (1 : Int32)) hx hb d_Rd_readLetters_79 (by decide) ?_
    obtain ⟨hi, h⟩ := h
    refine kw_iast hx hb hK hst 14 (WS_a14 g σ1) hi (WS_s14 g σ1 _ _) d_Rd_readLetters_80 (fun σ2 H locs e2 hst => ?_)
    replace h := h σ2 e2
    refine lv_goto (tgt := 149) hx hb d_Rd_readLetters_81 (by decide) ?_
    exact kw_vret hx hb hr hlocks hst h d_Rd_readLetters_149
set_option maxRecDepth 100000 in
set_option maxHeartbeats 4000000 in
theorem a_Rd_readLetters_13 {p : Program} {l : Launch} {e : Env} {s : State} {m : MethodId} {args : Array Value} {below : List Frame} {meth : Method} {c : Code} {D : va_G} {g : Gm} {A : Nat → Prop} {post : Sg → Prop} (C : kC p s m args meth c k_Rd_readLetters 3 (none) GW R_Rd D vwCl g (Zk g) A) : ∀ n : Nat, J_Rd_readLetters_13_1 p l e s m args below meth c D g A post (wp_Rd_readLetters 13 post n) ∧ J_Rd_readLetters_13_2 p l e s m args below meth c D g A post (wp_Rd_readLetters 13 post n) := by
  intro n
  induction n with
  | zero => exact ⟨fun _ _ _ _ _ _ _ _ h => h.elim, fun _ _ _ _ _ _ _ _ h => h.elim⟩
  | succ n ih => exact ⟨fun x1 x2 σ H locs ls hl hst h => b_Rd_readLetters_13_1 (F := wp_Rd_readLetters 13 post n) C (ih.1) (ih.2) x1 x2 σ H locs ls hl hst h, fun x1 x2 σ H locs ls hl hst h => b_Rd_readLetters_13_2 (F := wp_Rd_readLetters 13 post n) C x1 x2 σ H locs ls hl hst h⟩
set_option maxRecDepth 100000 in
set_option maxHeartbeats 4000000 in
theorem c_Rd_readLetters_13 (l : Launch) {D : va_G} {g : Gm} {sz : Nat} (x1 : Int32) {σ : Sg} {post : Sg → Prop} (h : wq_Rd_readLetters 13 x1 σ post) : Met l y_Rd_readLetters (.code y_Rd_readLetters k_Rd_readLetters 3 (none) :: GW) { frames := 1, cells := 0, slots := 0, locals := 26 } (PcW D vwCl (WS g) g (Zk g) σ sz [.ref (g.1 25), .int x1]) (QvW D vwCl (WS g) post (va_A (WS g σ) sz)) 0 0 (va_A (WS g σ) sz) := by
  refine kw_entry (own := R_Rd) (by decide) rfl rfl (Nat.le_of_ble_eq_true rfl) ?_
  intro p e s m below meth c ls hsz C hin hl hst
  obtain ⟨n, h⟩ := h
  cases n with
  | zero => exact h.elim
  | succ n =>
    have ih := a_Rd_readLetters_13 (l := l) (e := e) (below := below) (post := post) C n
    exact b_Rd_readLetters_13_0 (F := wp_Rd_readLetters 13 post n) C (ih.1) x1 σ _ _ ls hl hst h
