theorem gd_x {own : String} {idx n : Nat} {y : MethodName} {b : ByteArray} {ret : Option FieldType} (h1 : Cond.methodLink own idx y ∈ GW) (h2 : Cond.static y ∈ GW) (h3 : Cond.initialized y.cls ∈ GW) (h5 : Cond.code y b n ret ∈ GW) : GoodIn GW (va_wsS own idx y (Cond.code y b n ret :: GW)) := by
  intro w hw
  have hm : w ∈ GW := by
    simp only [va_wsS, List.cons_append, List.nil_append, List.mem_cons] at hw
    rcases hw with rfl | rfl | rfl | rfl | hw <;> assumption
  exact ⟨hm, GW_good w hm⟩
/-! java/util/Arrays.fill ([JJ)V -/
abbrev k_Ar_fill : ByteArray := prog_26_method_101_code
abbrev y_Ar_fill : MethodName := ⟨"java/util/Arrays", "fill", "([JJ)V"⟩
theorem d_Ar_fill_0 : decode k_Ar_fill 0 = .ok (.iconst 0, 1) := by decide +kernel
theorem d_Ar_fill_1 : decode k_Ar_fill 1 = .ok (.istore_n 3, 1) := by decide +kernel
theorem d_Ar_fill_2 : decode k_Ar_fill 2 = .ok (.aload_n 0, 1) := by decide +kernel
theorem d_Ar_fill_3 : decode k_Ar_fill 3 = .ok (.arraylength, 1) := by decide +kernel
theorem d_Ar_fill_4 : decode k_Ar_fill 4 = .ok (.istore 4, 2) := by decide +kernel
theorem d_Ar_fill_6 : decode k_Ar_fill 6 = .ok (.iload_n 3, 1) := by decide +kernel
theorem d_Ar_fill_7 : decode k_Ar_fill 7 = .ok (.iload 4, 2) := by decide +kernel
theorem d_Ar_fill_9 : decode k_Ar_fill 9 = .ok (.if_icmp .ge 13, 3) := by decide +kernel
theorem d_Ar_fill_12 : decode k_Ar_fill 12 = .ok (.aload_n 0, 1) := by decide +kernel
theorem d_Ar_fill_13 : decode k_Ar_fill 13 = .ok (.iload_n 3, 1) := by decide +kernel
theorem d_Ar_fill_14 : decode k_Ar_fill 14 = .ok (.lload_n 1, 1) := by decide +kernel
theorem d_Ar_fill_15 : decode k_Ar_fill 15 = .ok (.lastore, 1) := by decide +kernel
theorem d_Ar_fill_16 : decode k_Ar_fill 16 = .ok (.iinc 3 1, 3) := by decide +kernel
theorem d_Ar_fill_19 : decode k_Ar_fill 19 = .ok (.goto (-13), 3) := by decide +kernel
theorem d_Ar_fill_22 : decode k_Ar_fill 22 = .ok (.return_, 1) := by decide +kernel
def wb_Ar_fill_0 (b : Nat) (F : Nat → Int32 → Int32 → Int64 → Sg → Prop) (post : Sg → Prop) (y1 : Int64) (σ : Sg) : Prop := F 1 (0 : Int32) (320 : Int32) y1 σ
def wb_Ar_fill_1 (b : Nat) (F : Nat → Int32 → Int32 → Int64 → Sg → Prop) (post : Sg → Prop) (y1 : Int64) (x3 : Int32) (x4 : Int32) (σ : Sg) : Prop := ((x4 ≤ x3 → post σ) ∧ (¬ x4 ≤ x3 → (vp_in x3 320 ∧ (∀ σ1, σ1 = sl σ (b + 1) x3.toNatClampNeg y1 → F 1 (x3 + 1) x4 y1 σ1))))
def wp_Ar_fill (b : Nat) (post : Sg → Prop) : Nat → Nat → Int32 → Int32 → Int64 → Sg → Prop
  | 0, _, _, _, _, _ => False
  | n + 1, k, x3, x4, y1, σ => match k with
    | 0 => wb_Ar_fill_0 b (wp_Ar_fill b post n) post y1 σ
    | 1 => wb_Ar_fill_1 b (wp_Ar_fill b post n) post y1 x3 x4 σ
    | _ => False
def wq_Ar_fill (b : Nat) (y1 : Int64) (σ : Sg) (post : Sg → Prop) : Prop := ∃ n, wp_Ar_fill b post n 0 0 0 y1 σ
def J_Ar_fill_36_1 (p : Program) (l : Launch) (e : Env) (s : State) (m : MethodId) (args : Array Value) (below : List Frame) (meth : Method) (c : Code) (D : va_G) (g : Gm) (A : Nat → Prop) (post : Sg → Prop) (F : Nat → Int32 → Int32 → Int64 → Sg → Prop) : Prop := ∀ (y1 : Int64) (x3 : Int32) (x4 : Int32) (σ : Sg) (H : Heap) (locs : List Loc) (ls : Array Slot), lv_has ls 5 [(0, .ref (g.1 37)), (1, .long y1), (3, .int x3), (4, .int x4)] → Wst D vwCl (WS g) A s σ H locs → F 1 x3 x4 y1 σ → W p l e { frames := 0, cells := 0, slots := 0, locals := 0 } s m args below meth c H locs 0 0 (MQ below (QvW D vwCl (WS g) post A) args s 0 0 A) (F0 m 6 ls [])
set_option maxRecDepth 100000 in
set_option maxHeartbeats 4000000 in
theorem b_Ar_fill_36_0 {p : Program} {l : Launch} {e : Env} {s : State} {m : MethodId} {args : Array Value} {below : List Frame} {meth : Method} {c : Code} {D : va_G} {g : Gm} {A : Nat → Prop} {post : Sg → Prop} {F : Nat → Int32 → Int32 → Int64 → Sg → Prop} (C : kC p s m args meth c k_Ar_fill 5 (none) GW R_Ar D vwCl g (Zk g) A) (j1 : J_Ar_fill_36_1 p l e s m args below meth c D g A post F) (y1 : Int64) (σ : Sg) (H : Heap) (locs : List Loc) (ls : Array Slot) (hl : lv_has ls 5 [(0, .ref (g.1 37)), (1, .long y1)]) (hst : Wst D vwCl (WS g) A s σ H locs) (h : wb_Ar_fill_0 36 F post y1 σ) : W p l e { frames := 0, cells := 0, slots := 0, locals := 0 } s m args below meth c H locs 0 0 (MQ below (QvW D vwCl (WS g) post A) args s 0 0 A) (F0 m 0 ls []) := by
  obtain ⟨hx, hb, hr, hml, hown, hts, hlocks, hK, hZ, hA⟩ := C
  unfold wb_Ar_fill_0 at h
  refine lv_iconst (v := (0 : Int32)) hx hb d_Ar_fill_0 (by decide) ?_
  refine lv_istore_n hx hb d_Ar_fill_1 rfl hl (by decide) rfl (fun ls hl => ?_)
  have hl : lv_has ls 5 [(3, .int (0 : Int32)), (0, .ref (g.1 37)), (1, .long y1)] := hl
  refine lv_aload_n hx hb d_Ar_fill_2 rfl (lv_at hl 1 rfl) ?_
  refine va_alen (v := (320 : Int32)) hx hb hK hst.1 37 3 (WS_a37 g σ) rfl rfl d_Ar_fill_3 ?_
  refine lv_istore hx hb d_Ar_fill_4 hl (by decide) rfl (fun ls hl => ?_)
  have hl : lv_has ls 5 [(4, .int (320 : Int32)), (3, .int (0 : Int32)), (0, .ref (g.1 37)), (1, .long y1)] := hl
  exact j1 y1 (0 : Int32) (320 : Int32) σ _ _ _ (lv_sub hl [2, 3, 1, 0] rfl) hst h
set_option maxRecDepth 100000 in
set_option maxHeartbeats 4000000 in
theorem b_Ar_fill_36_1 {p : Program} {l : Launch} {e : Env} {s : State} {m : MethodId} {args : Array Value} {below : List Frame} {meth : Method} {c : Code} {D : va_G} {g : Gm} {A : Nat → Prop} {post : Sg → Prop} {F : Nat → Int32 → Int32 → Int64 → Sg → Prop} (C : kC p s m args meth c k_Ar_fill 5 (none) GW R_Ar D vwCl g (Zk g) A) (j1 : J_Ar_fill_36_1 p l e s m args below meth c D g A post F) (y1 : Int64) (x3 : Int32) (x4 : Int32) (σ : Sg) (H : Heap) (locs : List Loc) (ls : Array Slot) (hl : lv_has ls 5 [(0, .ref (g.1 37)), (1, .long y1), (3, .int x3), (4, .int x4)]) (hst : Wst D vwCl (WS g) A s σ H locs) (h : wb_Ar_fill_1 36 F post y1 x3 x4 σ) : W p l e { frames := 0, cells := 0, slots := 0, locals := 0 } s m args below meth c H locs 0 0 (MQ below (QvW D vwCl (WS g) post A) args s 0 0 A) (F0 m 6 ls []) := by
  obtain ⟨hx, hb, hr, hml, hown, hts, hlocks, hK, hZ, hA⟩ := C
  unfold wb_Ar_fill_1 at h
  refine lv_iload_n hx hb d_Ar_fill_6 rfl (lv_at hl 2 rfl) ?_
  refine lv_iload hx hb d_Ar_fill_7 (lv_at hl 3 rfl) ?_
  refine lv_icmp_ge (tgt := 22) hx hb d_Ar_fill_9 (by decide) (fun hc => ?_) (fun hc => ?_)
  · replace h := h.1 hc
    exact kw_vret hx hb hr hlocks hst h d_Ar_fill_22
  · replace h := h.2 hc
    refine lv_aload_n hx hb d_Ar_fill_12 rfl (lv_at hl 0 rfl) ?_
    refine lv_iload_n hx hb d_Ar_fill_13 rfl (lv_at hl 2 rfl) ?_
    refine lv_lload_n hx hb d_Ar_fill_14 rfl (lv_at hl 1 rfl) ?_
    obtain ⟨hi, h⟩ := h
    refine kw_last hx hb hK hst 37 (WS_a37 g σ) hi (WS_s37 g σ _ _) d_Ar_fill_15 (fun σ1 H locs e1 hst => ?_)
    replace h := h σ1 e1
    refine lv_iinc (k := 2) (v := (x3 + 1)) hx hb d_Ar_fill_16 hl rfl (kw_inc _ (by decide)) (by decide) rfl (fun ls hl => ?_)
    have hl : lv_has ls 5 [(3, .int (x3 + 1)), (0, .ref (g.1 37)), (1, .long y1), (4, .int x4)] := hl
    refine lv_goto (tgt := 6) hx hb d_Ar_fill_19 (by decide) ?_
    exact j1 y1 (x3 + 1) x4 σ1 _ _ _ (lv_sub hl [1, 2, 0, 3] rfl) hst h
set_option maxRecDepth 100000 in
set_option maxHeartbeats 4000000 in
theorem a_Ar_fill_36 {p : Program} {l : Launch} {e : Env} {s : State} {m : MethodId} {args : Array Value} {below : List Frame} {meth : Method} {c : Code} {D : va_G} {g : Gm} {A : Nat → Prop} {post : Sg → Prop} (C : kC p s m args meth c k_Ar_fill 5 (none) GW R_Ar D vwCl g (Zk g) A) : ∀ n : Nat, J_Ar_fill_36_1 p l e s m args below meth c D g A post (wp_Ar_fill 36 post n) := by
  intro n
  induction n with
  | zero => exact fun _ _ _ _ _ _ _ _ _ h => h.elim
  | succ n ih => exact fun y1 x3 x4 σ H locs ls hl hst h => b_Ar_fill_36_1 (F := wp_Ar_fill 36 post n) C (ih) y1 x3 x4 σ H locs ls hl hst h
set_option maxRecDepth 100000 in
set_option maxHeartbeats 4000000 in
theorem c_Ar_fill_36 (l : Launch) {D : va_G} {g : Gm} {sz : Nat} (y1 : Int64) {σ : Sg} {post : Sg → Prop} (h : wq_Ar_fill 36 y1 σ post) : Met l y_Ar_fill (.code y_Ar_fill k_Ar_fill 5 (none) :: GW) { frames := 0, cells := 0, slots := 0, locals := 0 } (PcW D vwCl (WS g) g (Zk g) σ sz [.ref (g.1 37), .long y1]) (QvW D vwCl (WS g) post (va_A (WS g σ) sz)) 0 0 (va_A (WS g σ) sz) := by
  refine kw_entry (own := R_Ar) (by decide) rfl rfl (Nat.le_of_ble_eq_true rfl) ?_
  intro p e s m below meth c ls hsz C hin hl hst
  obtain ⟨n, h⟩ := h
  cases n with
  | zero => exact h.elim
  | succ n =>
    have ih := a_Ar_fill_36 (l := l) (e := e) (below := below) (post := post) C n
    exact b_Ar_fill_36_0 (F := wp_Ar_fill 36 post n) C (ih) y1 σ _ _ ls hl hst h
def J_Ar_fill_38_1 (p : Program) (l : Launch) (e : Env) (s : State) (m : MethodId) (args : Array Value) (below : List Frame) (meth : Method) (c : Code) (D : va_G) (g : Gm) (A : Nat → Prop) (post : Sg → Prop) (F : Nat → Int32 → Int32 → Int64 → Sg → Prop) : Prop := ∀ (y1 : Int64) (x3 : Int32) (x4 : Int32) (σ : Sg) (H : Heap) (locs : List Loc) (ls : Array Slot), lv_has ls 5 [(0, .ref (g.1 39)), (1, .long y1), (3, .int x3), (4, .int x4)] → Wst D vwCl (WS g) A s σ H locs → F 1 x3 x4 y1 σ → W p l e { frames := 0, cells := 0, slots := 0, locals := 0 } s m args below meth c H locs 0 0 (MQ below (QvW D vwCl (WS g) post A) args s 0 0 A) (F0 m 6 ls [])
set_option maxRecDepth 100000 in
set_option maxHeartbeats 4000000 in
theorem b_Ar_fill_38_0 {p : Program} {l : Launch} {e : Env} {s : State} {m : MethodId} {args : Array Value} {below : List Frame} {meth : Method} {c : Code} {D : va_G} {g : Gm} {A : Nat → Prop} {post : Sg → Prop} {F : Nat → Int32 → Int32 → Int64 → Sg → Prop} (C : kC p s m args meth c k_Ar_fill 5 (none) GW R_Ar D vwCl g (Zk g) A) (j1 : J_Ar_fill_38_1 p l e s m args below meth c D g A post F) (y1 : Int64) (σ : Sg) (H : Heap) (locs : List Loc) (ls : Array Slot) (hl : lv_has ls 5 [(0, .ref (g.1 39)), (1, .long y1)]) (hst : Wst D vwCl (WS g) A s σ H locs) (h : wb_Ar_fill_0 38 F post y1 σ) : W p l e { frames := 0, cells := 0, slots := 0, locals := 0 } s m args below meth c H locs 0 0 (MQ below (QvW D vwCl (WS g) post A) args s 0 0 A) (F0 m 0 ls []) := by
  obtain ⟨hx, hb, hr, hml, hown, hts, hlocks, hK, hZ, hA⟩ := C
  unfold wb_Ar_fill_0 at h
  refine lv_iconst (v := (0 : Int32)) hx hb d_Ar_fill_0 (by decide) ?_
  refine lv_istore_n hx hb d_Ar_fill_1 rfl hl (by decide) rfl (fun ls hl => ?_)
  have hl : lv_has ls 5 [(3, .int (0 : Int32)), (0, .ref (g.1 39)), (1, .long y1)] := hl
  refine lv_aload_n hx hb d_Ar_fill_2 rfl (lv_at hl 1 rfl) ?_
  refine va_alen (v := (320 : Int32)) hx hb hK hst.1 39 3 (WS_a39 g σ) rfl rfl d_Ar_fill_3 ?_
  refine lv_istore hx hb d_Ar_fill_4 hl (by decide) rfl (fun ls hl => ?_)
  have hl : lv_has ls 5 [(4, .int (320 : Int32)), (3, .int (0 : Int32)), (0, .ref (g.1 39)), (1, .long y1)] := hl
  exact j1 y1 (0 : Int32) (320 : Int32) σ _ _ _ (lv_sub hl [2, 3, 1, 0] rfl) hst h
set_option maxRecDepth 100000 in
set_option maxHeartbeats 4000000 in
theorem b_Ar_fill_38_1 {p : Program} {l : Launch} {e : Env} {s : State} {m : MethodId} {args : Array Value} {below : List Frame} {meth : Method} {c : Code} {D : va_G} {g : Gm} {A : Nat → Prop} {post : Sg → Prop} {F : Nat → Int32 → Int32 → Int64 → Sg → Prop} (C : kC p s m args meth c k_Ar_fill 5 (none) GW R_Ar D vwCl g (Zk g) A) (j1 : J_Ar_fill_38_1 p l e s m args below meth c D g A post F) (y1 : Int64) (x3 : Int32) (x4 : Int32) (σ : Sg) (H : Heap) (locs : List Loc) (ls : Array Slot) (hl : lv_has ls 5 [(0, .ref (g.1 39)), (1, .long y1), (3, .int x3), (4, .int x4)]) (hst : Wst D vwCl (WS g) A s σ H locs) (h : wb_Ar_fill_1 38 F post y1 x3 x4 σ) : W p l e { frames := 0, cells := 0, slots := 0, locals := 0 } s m args below meth c H locs 0 0 (MQ below (QvW D vwCl (WS g) post A) args s 0 0 A) (F0 m 6 ls []) := by
  obtain ⟨hx, hb, hr, hml, hown, hts, hlocks, hK, hZ, hA⟩ := C
  unfold wb_Ar_fill_1 at h
  refine lv_iload_n hx hb d_Ar_fill_6 rfl (lv_at hl 2 rfl) ?_
  refine lv_iload hx hb d_Ar_fill_7 (lv_at hl 3 rfl) ?_
  refine lv_icmp_ge (tgt := 22) hx hb d_Ar_fill_9 (by decide) (fun hc => ?_) (fun hc => ?_)
  · replace h := h.1 hc
    exact kw_vret hx hb hr hlocks hst h d_Ar_fill_22
  · replace h := h.2 hc
    refine lv_aload_n hx hb d_Ar_fill_12 rfl (lv_at hl 0 rfl) ?_
    refine lv_iload_n hx hb d_Ar_fill_13 rfl (lv_at hl 2 rfl) ?_
    refine lv_lload_n hx hb d_Ar_fill_14 rfl (lv_at hl 1 rfl) ?_
    obtain ⟨hi, h⟩ := h
    refine kw_last hx hb hK hst 39 (WS_a39 g σ) hi (WS_s39 g σ _ _) d_Ar_fill_15 (fun σ1 H locs e1 hst => ?_)
    replace h := h σ1 e1
    refine lv_iinc (k := 2) (v := (x3 + 1)) hx hb d_Ar_fill_16 hl rfl (kw_inc _ (by decide)) (by decide) rfl (fun ls hl => ?_)
    have hl : lv_has ls 5 [(3, .int (x3 + 1)), (0, .ref (g.1 39)), (1, .long y1), (4, .int x4)] := hl
    refine lv_goto (tgt := 6) hx hb d_Ar_fill_19 (by decide) ?_
    exact j1 y1 (x3 + 1) x4 σ1 _ _ _ (lv_sub hl [1, 2, 0, 3] rfl) hst h
set_option maxRecDepth 100000 in
set_option maxHeartbeats 4000000 in
theorem a_Ar_fill_38 {p : Program} {l : Launch} {e : Env} {s : State} {m : MethodId} {args : Array Value} {below : List Frame} {meth : Method} {c : Code} {D : va_G} {g : Gm} {A : Nat → Prop} {post : Sg → Prop} (C : kC p s m args meth c k_Ar_fill 5 (none) GW R_Ar D vwCl g (Zk g) A) : ∀ n : Nat, J_Ar_fill_38_1 p l e s m args below meth c D g A post (wp_Ar_fill 38 post n) := by
  intro n
  induction n with
  | zero => exact fun _ _ _ _ _ _ _ _ _ h => h.elim
  | succ n ih => exact fun y1 x3 x4 σ H locs ls hl hst h => b_Ar_fill_38_1 (F := wp_Ar_fill 38 post n) C (ih) y1 x3 x4 σ H locs ls hl hst h
set_option maxRecDepth 100000 in
set_option maxHeartbeats 4000000 in
theorem c_Ar_fill_38 (l : Launch) {D : va_G} {g : Gm} {sz : Nat} (y1 : Int64) {σ : Sg} {post : Sg → Prop} (h : wq_Ar_fill 38 y1 σ post) : Met l y_Ar_fill (.code y_Ar_fill k_Ar_fill 5 (none) :: GW) { frames := 0, cells := 0, slots := 0, locals := 0 } (PcW D vwCl (WS g) g (Zk g) σ sz [.ref (g.1 39), .long y1]) (QvW D vwCl (WS g) post (va_A (WS g σ) sz)) 0 0 (va_A (WS g σ) sz) := by
  refine kw_entry (own := R_Ar) (by decide) rfl rfl (Nat.le_of_ble_eq_true rfl) ?_
  intro p e s m below meth c ls hsz C hin hl hst
  obtain ⟨n, h⟩ := h
  cases n with
  | zero => exact h.elim
  | succ n =>
    have ih := a_Ar_fill_38 (l := l) (e := e) (below := below) (post := post) C n
    exact b_Ar_fill_38_0 (F := wp_Ar_fill 38 post n) C (ih) y1 σ _ _ ls hl hst h
def J_Ar_fill_41_1 (p : Program) (l : Launch) (e : Env) (s : State) (m : MethodId) (args : Array Value) (below : List Frame) (meth : Method) (c : Code) (D : va_G) (g : Gm) (A : Nat → Prop) (post : Sg → Prop) (F : Nat → Int32 → Int32 → Int64 → Sg → Prop) : Prop := ∀ (y1 : Int64) (x3 : Int32) (x4 : Int32) (σ : Sg) (H : Heap) (locs : List Loc) (ls : Array Slot), lv_has ls 5 [(0, .ref (g.1 42)), (1, .long y1), (3, .int x3), (4, .int x4)] → Wst D vwCl (WS g) A s σ H locs → F 1 x3 x4 y1 σ → W p l e { frames := 0, cells := 0, slots := 0, locals := 0 } s m args below meth c H locs 0 0 (MQ below (QvW D vwCl (WS g) post A) args s 0 0 A) (F0 m 6 ls [])
set_option maxRecDepth 100000 in
set_option maxHeartbeats 4000000 in
theorem b_Ar_fill_41_0 {p : Program} {l : Launch} {e : Env} {s : State} {m : MethodId} {args : Array Value} {below : List Frame} {meth : Method} {c : Code} {D : va_G} {g : Gm} {A : Nat → Prop} {post : Sg → Prop} {F : Nat → Int32 → Int32 → Int64 → Sg → Prop} (C : kC p s m args meth c k_Ar_fill 5 (none) GW R_Ar D vwCl g (Zk g) A) (j1 : J_Ar_fill_41_1 p l e s m args below meth c D g A post F) (y1 : Int64) (σ : Sg) (H : Heap) (locs : List Loc) (ls : Array Slot) (hl : lv_has ls 5 [(0, .ref (g.1 42)), (1, .long y1)]) (hst : Wst D vwCl (WS g) A s σ H locs) (h : wb_Ar_fill_0 41 F post y1 σ) : W p l e { frames := 0, cells := 0, slots := 0, locals := 0 } s m args below meth c H locs 0 0 (MQ below (QvW D vwCl (WS g) post A) args s 0 0 A) (F0 m 0 ls []) := by
  obtain ⟨hx, hb, hr, hml, hown, hts, hlocks, hK, hZ, hA⟩ := C
  unfold wb_Ar_fill_0 at h
  refine lv_iconst (v := (0 : Int32)) hx hb d_Ar_fill_0 (by decide) ?_
  refine lv_istore_n hx hb d_Ar_fill_1 rfl hl (by decide) rfl (fun ls hl => ?_)
  have hl : lv_has ls 5 [(3, .int (0 : Int32)), (0, .ref (g.1 42)), (1, .long y1)] := hl
  refine lv_aload_n hx hb d_Ar_fill_2 rfl (lv_at hl 1 rfl) ?_
  refine va_alen (v := (320 : Int32)) hx hb hK hst.1 42 3 (WS_a42 g σ) rfl rfl d_Ar_fill_3 ?_
  refine lv_istore hx hb d_Ar_fill_4 hl (by decide) rfl (fun ls hl => ?_)
  have hl : lv_has ls 5 [(4, .int (320 : Int32)), (3, .int (0 : Int32)), (0, .ref (g.1 42)), (1, .long y1)] := hl
  exact j1 y1 (0 : Int32) (320 : Int32) σ _ _ _ (lv_sub hl [2, 3, 1, 0] rfl) hst h
set_option maxRecDepth 100000 in
set_option maxHeartbeats 4000000 in
theorem b_Ar_fill_41_1 {p : Program} {l : Launch} {e : Env} {s : State} {m : MethodId} {args : Array Value} {below : List Frame} {meth : Method} {c : Code} {D : va_G} {g : Gm} {A : Nat → Prop} {post : Sg → Prop} {F : Nat → Int32 → Int32 → Int64 → Sg → Prop} (C : kC p s m args meth c k_Ar_fill 5 (none) GW R_Ar D vwCl g (Zk g) A) (j1 : J_Ar_fill_41_1 p l e s m args below meth c D g A post F) (y1 : Int64) (x3 : Int32) (x4 : Int32) (σ : Sg) (H : Heap) (locs : List Loc) (ls : Array Slot) (hl : lv_has ls 5 [(0, .ref (g.1 42)), (1, .long y1), (3, .int x3), (4, .int x4)]) (hst : Wst D vwCl (WS g) A s σ H locs) (h : wb_Ar_fill_1 41 F post y1 x3 x4 σ) : W p l e { frames := 0, cells := 0, slots := 0, locals := 0 } s m args below meth c H locs 0 0 (MQ below (QvW D vwCl (WS g) post A) args s 0 0 A) (F0 m 6 ls []) := by
  obtain ⟨hx, hb, hr, hml, hown, hts, hlocks, hK, hZ, hA⟩ := C
  unfold wb_Ar_fill_1 at h
  refine lv_iload_n hx hb d_Ar_fill_6 rfl (lv_at hl 2 rfl) ?_
  refine lv_iload hx hb d_Ar_fill_7 (lv_at hl 3 rfl) ?_
  refine lv_icmp_ge (tgt := 22) hx hb d_Ar_fill_9 (by decide) (fun hc => ?_) (fun hc => ?_)
  · replace h := h.1 hc
    exact kw_vret hx hb hr hlocks hst h d_Ar_fill_22
  · replace h := h.2 hc
    refine lv_aload_n hx hb d_Ar_fill_12 rfl (lv_at hl 0 rfl) ?_
    refine lv_iload_n hx hb d_Ar_fill_13 rfl (lv_at hl 2 rfl) ?_
    refine lv_lload_n hx hb d_Ar_fill_14 rfl (lv_at hl 1 rfl) ?_
    obtain ⟨hi, h⟩ := h
    refine kw_last hx hb hK hst 42 (WS_a42 g σ) hi (WS_s42 g σ _ _) d_Ar_fill_15 (fun σ1 H locs e1 hst => ?_)
    replace h := h σ1 e1
    refine lv_iinc (k := 2) (v := (x3 + 1)) hx hb d_Ar_fill_16 hl rfl (kw_inc _ (by decide)) (by decide) rfl (fun ls hl => ?_)
    have hl : lv_has ls 5 [(3, .int (x3 + 1)), (0, .ref (g.1 42)), (1, .long y1), (4, .int x4)] := hl
    refine lv_goto (tgt := 6) hx hb d_Ar_fill_19 (by decide) ?_
    exact j1 y1 (x3 + 1) x4 σ1 _ _ _ (lv_sub hl [1, 2, 0, 3] rfl) hst h
set_option maxRecDepth 100000 in
set_option maxHeartbeats 4000000 in
theorem a_Ar_fill_41 {p : Program} {l : Launch} {e : Env} {s : State} {m : MethodId} {args : Array Value} {below : List Frame} {meth : Method} {c : Code} {D : va_G} {g : Gm} {A : Nat → Prop} {post : Sg → Prop} (C : kC p s m args meth c k_Ar_fill 5 (none) GW R_Ar D vwCl g (Zk g) A) : ∀ n : Nat, J_Ar_fill_41_1 p l e s m args below meth c D g A post (wp_Ar_fill 41 post n) := by
  intro n
  induction n with
  | zero => exact fun _ _ _ _ _ _ _ _ _ h => h.elim
  | succ n ih => exact fun y1 x3 x4 σ H locs ls hl hst h => b_Ar_fill_41_1 (F := wp_Ar_fill 41 post n) C (ih) y1 x3 x4 σ H locs ls hl hst h
set_option maxRecDepth 100000 in
set_option maxHeartbeats 4000000 in
theorem c_Ar_fill_41 (l : Launch) {D : va_G} {g : Gm} {sz : Nat} (y1 : Int64) {σ : Sg} {post : Sg → Prop} (h : wq_Ar_fill 41 y1 σ post) : Met l y_Ar_fill (.code y_Ar_fill k_Ar_fill 5 (none) :: GW) { frames := 0, cells := 0, slots := 0, locals := 0 } (PcW D vwCl (WS g) g (Zk g) σ sz [.ref (g.1 42), .long y1]) (QvW D vwCl (WS g) post (va_A (WS g σ) sz)) 0 0 (va_A (WS g σ) sz) := by
  refine kw_entry (own := R_Ar) (by decide) rfl rfl (Nat.le_of_ble_eq_true rfl) ?_
  intro p e s m below meth c ls hsz C hin hl hst
  obtain ⟨n, h⟩ := h
  cases n with
  | zero => exact h.elim
  | succ n =>
    have ih := a_Ar_fill_41 (l := l) (e := e) (below := below) (post := post) C n
    exact b_Ar_fill_41_0 (F := wp_Ar_fill 41 post n) C (ih) y1 σ _ _ ls hl hst h
def J_Ar_fill_43_1 (p : Program) (l : Launch) (e : Env) (s : State) (m : MethodId) (args : Array Value) (below : List Frame) (meth : Method) (c : Code) (D : va_G) (g : Gm) (A : Nat → Prop) (post : Sg → Prop) (F : Nat → Int32 → Int32 → Int64 → Sg → Prop) : Prop := ∀ (y1 : Int64) (x3 : Int32) (x4 : Int32) (σ : Sg) (H : Heap) (locs : List Loc) (ls : Array Slot), lv_has ls 5 [(0, .ref (g.1 44)), (1, .long y1), (3, .int x3), (4, .int x4)] → Wst D vwCl (WS g) A s σ H locs → F 1 x3 x4 y1 σ → W p l e { frames := 0, cells := 0, slots := 0, locals := 0 } s m args below meth c H locs 0 0 (MQ below (QvW D vwCl (WS g) post A) args s 0 0 A) (F0 m 6 ls [])
set_option maxRecDepth 100000 in
set_option maxHeartbeats 4000000 in
theorem b_Ar_fill_43_0 {p : Program} {l : Launch} {e : Env} {s : State} {m : MethodId} {args : Array Value} {below : List Frame} {meth : Method} {c : Code} {D : va_G} {g : Gm} {A : Nat → Prop} {post : Sg → Prop} {F : Nat → Int32 → Int32 → Int64 → Sg → Prop} (C : kC p s m args meth c k_Ar_fill 5 (none) GW R_Ar D vwCl g (Zk g) A) (j1 : J_Ar_fill_43_1 p l e s m args below meth c D g A post F) (y1 : Int64) (σ : Sg) (H : Heap) (locs : List Loc) (ls : Array Slot) (hl : lv_has ls 5 [(0, .ref (g.1 44)), (1, .long y1)]) (hst : Wst D vwCl (WS g) A s σ H locs) (h : wb_Ar_fill_0 43 F post y1 σ) : W p l e { frames := 0, cells := 0, slots := 0, locals := 0 } s m args below meth c H locs 0 0 (MQ below (QvW D vwCl (WS g) post A) args s 0 0 A) (F0 m 0 ls []) := by
  obtain ⟨hx, hb, hr, hml, hown, hts, hlocks, hK, hZ, hA⟩ := C
  unfold wb_Ar_fill_0 at h
  refine lv_iconst (v := (0 : Int32)) hx hb d_Ar_fill_0 (by decide) ?_
  refine lv_istore_n hx hb d_Ar_fill_1 rfl hl (by decide) rfl (fun ls hl => ?_)
  have hl : lv_has ls 5 [(3, .int (0 : Int32)), (0, .ref (g.1 44)), (1, .long y1)] := hl
  refine lv_aload_n hx hb d_Ar_fill_2 rfl (lv_at hl 1 rfl) ?_
  refine va_alen (v := (320 : Int32)) hx hb hK hst.1 44 3 (WS_a44 g σ) rfl rfl d_Ar_fill_3 ?_
  refine lv_istore hx hb d_Ar_fill_4 hl (by decide) rfl (fun ls hl => ?_)
  have hl : lv_has ls 5 [(4, .int (320 : Int32)), (3, .int (0 : Int32)), (0, .ref (g.1 44)), (1, .long y1)] := hl
  exact j1 y1 (0 : Int32) (320 : Int32) σ _ _ _ (lv_sub hl [2, 3, 1, 0] rfl) hst h
set_option maxRecDepth 100000 in
set_option maxHeartbeats 4000000 in
theorem b_Ar_fill_43_1 {p : Program} {l : Launch} {e : Env} {s : State} {m : MethodId} {args : Array Value} {below : List Frame} {meth : Method} {c : Code} {D : va_G} {g : Gm} {A : Nat → Prop} {post : Sg → Prop} {F : Nat → Int32 → Int32 → Int64 → Sg → Prop} (C : kC p s m args meth c k_Ar_fill 5 (none) GW R_Ar D vwCl g (Zk g) A) (j1 : J_Ar_fill_43_1 p l e s m args below meth c D g A post F) (y1 : Int64) (x3 : Int32) (x4 : Int32) (σ : Sg) (H : Heap) (locs : List Loc) (ls : Array Slot) (hl : lv_has ls 5 [(0, .ref (g.1 44)), (1, .long y1), (3, .int x3), (4, .int x4)]) (hst : Wst D vwCl (WS g) A s σ H locs) (h : wb_Ar_fill_1 43 F post y1 x3 x4 σ) : W p l e { frames := 0, cells := 0, slots := 0, locals := 0 } s m args below meth c H locs 0 0 (MQ below (QvW D vwCl (WS g) post A) args s 0 0 A) (F0 m 6 ls []) := by
  obtain ⟨hx, hb, hr, hml, hown, hts, hlocks, hK, hZ, hA⟩ := C
  unfold wb_Ar_fill_1 at h
  refine lv_iload_n hx hb d_Ar_fill_6 rfl (lv_at hl 2 rfl) ?_
  refine lv_iload hx hb d_Ar_fill_7 (lv_at hl 3 rfl) ?_
  refine lv_icmp_ge (tgt := 22) hx hb d_Ar_fill_9 (by decide) (fun hc => ?_) (fun hc => ?_)
  · replace h := h.1 hc
    exact kw_vret hx hb hr hlocks hst h d_Ar_fill_22
  · replace h := h.2 hc
    refine lv_aload_n hx hb d_Ar_fill_12 rfl (lv_at hl 0 rfl) ?_
    refine lv_iload_n hx hb d_Ar_fill_13 rfl (lv_at hl 2 rfl) ?_
    refine lv_lload_n hx hb d_Ar_fill_14 rfl (lv_at hl 1 rfl) ?_
    obtain ⟨hi, h⟩ := h
    refine kw_last hx hb hK hst 44 (WS_a44 g σ) hi (WS_s44 g σ _ _) d_Ar_fill_15 (fun σ1 H locs e1 hst => ?_)
    replace h := h σ1 e1
    refine lv_iinc (k := 2) (v := (x3 + 1)) hx hb d_Ar_fill_16 hl rfl (kw_inc _ (by decide)) (by decide) rfl (fun ls hl => ?_)
    have hl : lv_has ls 5 [(3, .int (x3 + 1)), (0, .ref (g.1 44)), (1, .long y1), (4, .int x4)] := hl
    refine lv_goto (tgt := 6) hx hb d_Ar_fill_19 (by decide) ?_
    exact j1 y1 (x3 + 1) x4 σ1 _ _ _ (lv_sub hl [1, 2, 0, 3] rfl) hst h
set_option maxRecDepth 100000 in
set_option maxHeartbeats 4000000 in
theorem a_Ar_fill_43 {p : Program} {l : Launch} {e : Env} {s : State} {m : MethodId} {args : Array Value} {below : List Frame} {meth : Method} {c : Code} {D : va_G} {g : Gm} {A : Nat → Prop} {post : Sg → Prop} (C : kC p s m args meth c k_Ar_fill 5 (none) GW R_Ar D vwCl g (Zk g) A) : ∀ n : Nat, J_Ar_fill_43_1 p l e s m args below meth c D g A post (wp_Ar_fill 43 post n) := by
  intro n
  induction n with
  | zero => exact fun _ _ _ _ _ _ _ _ _ h => h.elim
  | succ n ih => exact fun y1 x3 x4 σ H locs ls hl hst h => b_Ar_fill_43_1 (F := wp_Ar_fill 43 post n) C (ih) y1 x3 x4 σ H locs ls hl hst h
set_option maxRecDepth 100000 in
set_option maxHeartbeats 4000000 in
theorem c_Ar_fill_43 (l : Launch) {D : va_G} {g : Gm} {sz : Nat} (y1 : Int64) {σ : Sg} {post : Sg → Prop} (h : wq_Ar_fill 43 y1 σ post) : Met l y_Ar_fill (.code y_Ar_fill k_Ar_fill 5 (none) :: GW) { frames := 0, cells := 0, slots := 0, locals := 0 } (PcW D vwCl (WS g) g (Zk g) σ sz [.ref (g.1 44), .long y1]) (QvW D vwCl (WS g) post (va_A (WS g σ) sz)) 0 0 (va_A (WS g σ) sz) := by
  refine kw_entry (own := R_Ar) (by decide) rfl rfl (Nat.le_of_ble_eq_true rfl) ?_
  intro p e s m below meth c ls hsz C hin hl hst
  obtain ⟨n, h⟩ := h
  cases n with
  | zero => exact h.elim
  | succ n =>
    have ih := a_Ar_fill_43 (l := l) (e := e) (below := below) (post := post) C n
    exact b_Ar_fill_43_0 (F := wp_Ar_fill 43 post n) C (ih) y1 σ _ _ ls hl hst h
def J_Ar_fill_49_1 (p : Program) (l : Launch) (e : Env) (s : State) (m : MethodId) (args : Array Value) (below : List Frame) (meth : Method) (c : Code) (D : va_G) (g : Gm) (A : Nat → Prop) (post : Sg → Prop) (F : Nat → Int32 → Int32 → Int64 → Sg → Prop) : Prop := ∀ (y1 : Int64) (x3 : Int32) (x4 : Int32) (σ : Sg) (H : Heap) (locs : List Loc) (ls : Array Slot), lv_has ls 5 [(0, .ref (g.1 50)), (1, .long y1), (3, .int x3), (4, .int x4)] → Wst D vwCl (WS g) A s σ H locs → F 1 x3 x4 y1 σ → W p l e { frames := 0, cells := 0, slots := 0, locals := 0 } s m args below meth c H locs 0 0 (MQ below (QvW D vwCl (WS g) post A) args s 0 0 A) (F0 m 6 ls [])
set_option maxRecDepth 100000 in
set_option maxHeartbeats 4000000 in
theorem b_Ar_fill_49_0 {p : Program} {l : Launch} {e : Env} {s : State} {m : MethodId} {args : Array Value} {below : List Frame} {meth : Method} {c : Code} {D : va_G} {g : Gm} {A : Nat → Prop} {post : Sg → Prop} {F : Nat → Int32 → Int32 → Int64 → Sg → Prop} (C : kC p s m args meth c k_Ar_fill 5 (none) GW R_Ar D vwCl g (Zk g) A) (j1 : J_Ar_fill_49_1 p l e s m args below meth c D g A post F) (y1 : Int64) (σ : Sg) (H : Heap) (locs : List Loc) (ls : Array Slot) (hl : lv_has ls 5 [(0, .ref (g.1 50)), (1, .long y1)]) (hst : Wst D vwCl (WS g) A s σ H locs) (h : wb_Ar_fill_0 49 F post y1 σ) : W p l e { frames := 0, cells := 0, slots := 0, locals := 0 } s m args below meth c H locs 0 0 (MQ below (QvW D vwCl (WS g) post A) args s 0 0 A) (F0 m 0 ls []) := by
  obtain ⟨hx, hb, hr, hml, hown, hts, hlocks, hK, hZ, hA⟩ := C
  unfold wb_Ar_fill_0 at h
  refine lv_iconst (v := (0 : Int32)) hx hb d_Ar_fill_0 (by decide) ?_
  refine lv_istore_n hx hb d_Ar_fill_1 rfl hl (by decide) rfl (fun ls hl => ?_)
  have hl : lv_has ls 5 [(3, .int (0 : Int32)), (0, .ref (g.1 50)), (1, .long y1)] := hl
  refine lv_aload_n hx hb d_Ar_fill_2 rfl (lv_at hl 1 rfl) ?_
  refine va_alen (v := (320 : Int32)) hx hb hK hst.1 50 3 (WS_a50 g σ) rfl rfl d_Ar_fill_3 ?_
  refine lv_istore hx hb d_Ar_fill_4 hl (by decide) rfl (fun ls hl => ?_)
  have hl : lv_has ls 5 [(4, .int (320 : Int32)), (3, .int (0 : Int32)), (0, .ref (g.1 50)), (1, .long y1)] := hl
  exact j1 y1 (0 : Int32) (320 : Int32) σ _ _ _ (lv_sub hl [2, 3, 1, 0] rfl) hst h
set_option maxRecDepth 100000 in
set_option maxHeartbeats 4000000 in
theorem b_Ar_fill_49_1 {p : Program} {l : Launch} {e : Env} {s : State} {m : MethodId} {args : Array Value} {below : List Frame} {meth : Method} {c : Code} {D : va_G} {g : Gm} {A : Nat → Prop} {post : Sg → Prop} {F : Nat → Int32 → Int32 → Int64 → Sg → Prop} (C : kC p s m args meth c k_Ar_fill 5 (none) GW R_Ar D vwCl g (Zk g) A) (j1 : J_Ar_fill_49_1 p l e s m args below meth c D g A post F) (y1 : Int64) (x3 : Int32) (x4 : Int32) (σ : Sg) (H : Heap) (locs : List Loc) (ls : Array Slot) (hl : lv_has ls 5 [(0, .ref (g.1 50)), (1, .long y1), (3, .int x3), (4, .int x4)]) (hst : Wst D vwCl (WS g) A s σ H locs) (h : wb_Ar_fill_1 49 F post y1 x3 x4 σ) : W p l e { frames := 0, cells := 0, slots := 0, locals := 0 } s m args below meth c H locs 0 0 (MQ below (QvW D vwCl (WS g) post A) args s 0 0 A) (F0 m 6 ls []) := by
  obtain ⟨hx, hb, hr, hml, hown, hts, hlocks, hK, hZ, hA⟩ := C
  unfold wb_Ar_fill_1 at h
  refine lv_iload_n hx hb d_Ar_fill_6 rfl (lv_at hl 2 rfl) ?_
  refine lv_iload hx hb d_Ar_fill_7 (lv_at hl 3 rfl) ?_
  refine lv_icmp_ge (tgt := 22) hx hb d_Ar_fill_9 (by decide) (fun hc => ?_) (fun hc => ?_)
  · replace h := h.1 hc
    exact kw_vret hx hb hr hlocks hst h d_Ar_fill_22
  · replace h := h.2 hc
    refine lv_aload_n hx hb d_Ar_fill_12 rfl (lv_at hl 0 rfl) ?_
    refine lv_iload_n hx hb d_Ar_fill_13 rfl (lv_at hl 2 rfl) ?_
    refine lv_lload_n hx hb d_Ar_fill_14 rfl (lv_at hl 1 rfl) ?_
    obtain ⟨hi, h⟩ := h
    refine kw_last hx hb hK hst 50 (WS_a50 g σ) hi (WS_s50 g σ _ _) d_Ar_fill_15 (fun σ1 H locs e1 hst => ?_)
    replace h := h σ1 e1
    refine lv_iinc (k := 2) (v := (x3 + 1)) hx hb d_Ar_fill_16 hl rfl (kw_inc _ (by decide)) (by decide) rfl (fun ls hl => ?_)
    have hl : lv_has ls 5 [(3, .int (x3 + 1)), (0, .ref (g.1 50)), (1, .long y1), (4, .int x4)] := hl
    refine lv_goto (tgt := 6) hx hb d_Ar_fill_19 (by decide) ?_
    exact j1 y1 (x3 + 1) x4 σ1 _ _ _ (lv_sub hl [1, 2, 0, 3] rfl) hst h
set_option maxRecDepth 100000 in
set_option maxHeartbeats 4000000 in
theorem a_Ar_fill_49 {p : Program} {l : Launch} {e : Env} {s : State} {m : MethodId} {args : Array Value} {below : List Frame} {meth : Method} {c : Code} {D : va_G} {g : Gm} {A : Nat → Prop} {post : Sg → Prop} (C : kC p s m args meth c k_Ar_fill 5 (none) GW R_Ar D vwCl g (Zk g) A) : ∀ n : Nat, J_Ar_fill_49_1 p l e s m args below meth c D g A post (wp_Ar_fill 49 post n) := by
  intro n
  induction n with
  | zero => exact fun _ _ _ _ _ _ _ _ _ h => h.elim
  | succ n ih => exact fun y1 x3 x4 σ H locs ls hl hst h => b_Ar_fill_49_1 (F := wp_Ar_fill 49 post n) C (ih) y1 x3 x4 σ H locs ls hl hst h
set_option maxRecDepth 100000 in
set_option maxHeartbeats 4000000 in
theorem c_Ar_fill_49 (l : Launch) {D : va_G} {g : Gm} {sz : Nat} (y1 : Int64) {σ : Sg} {post : Sg → Prop} (h : wq_Ar_fill 49 y1 σ post) : Met l y_Ar_fill (.code y_Ar_fill k_Ar_fill 5 (none) :: GW) { frames := 0, cells := 0, slots := 0, locals := 0 } (PcW D vwCl (WS g) g (Zk g) σ sz [.ref (g.1 50), .long y1]) (QvW D vwCl (WS g) post (va_A (WS g σ) sz)) 0 0 (va_A (WS g σ) sz) := by
  refine kw_entry (own := R_Ar) (by decide) rfl rfl (Nat.le_of_ble_eq_true rfl) ?_
  intro p e s m below meth c ls hsz C hin hl hst
  obtain ⟨n, h⟩ := h
  cases n with
  | zero => exact h.elim
  | succ n =>
    have ih := a_Ar_fill_49 (l := l) (e := e) (below := below) (post := post) C n
    exact b_Ar_fill_49_0 (F := wp_Ar_fill 49 post n) C (ih) y1 σ _ _ ls hl hst h
/-! SchemaDesk$Marks.clear ()V -/
abbrev k_Mk_clear : ByteArray := prog_2_method_2_code
abbrev y_Mk_clear : MethodName := ⟨"SchemaDesk$Marks", "clear", "()V"⟩
theorem d_Mk_clear_0 : decode k_Mk_clear 0 = .ok (.aload_n 0, 1) := by decide +kernel
theorem d_Mk_clear_1 : decode k_Mk_clear 1 = .ok (.getfield 9, 3) := by decide +kernel
theorem d_Mk_clear_4 : decode k_Mk_clear 4 = .ok (.lconst 0, 1) := by decide +kernel
theorem d_Mk_clear_5 : decode k_Mk_clear 5 = .ok (.invokestatic 15, 3) := by decide +kernel
theorem d_Mk_clear_8 : decode k_Mk_clear 8 = .ok (.return_, 1) := by decide +kernel
theorem gw804 : (Jvm.Cond.methodLink "SchemaDesk$Marks" (15 : Nat) ({ cls := "java/util/Arrays", name := "fill", desc := "([JJ)V" } : Jvm.MethodName)) ∈ GW := gw_t4 (List.mem_of_getElem? (i := 84) rfl) rfl
theorem gw805 : (Jvm.Cond.static ({ cls := "java/util/Arrays", name := "fill", desc := "([JJ)V" } : Jvm.MethodName)) ∈ GW := gw_t4 (List.mem_of_getElem? (i := 85) rfl) rfl
theorem gw25 : (Jvm.Cond.initialized "java/util/Arrays") ∈ GW := gw_t1 (List.mem_of_getElem? (i := 25) rfl) rfl
theorem gw806 : (Jvm.Cond.code ({ cls := "java/util/Arrays", name := "fill", desc := "([JJ)V" } : Jvm.MethodName) prog_26_method_101_code (5 : Nat) (Option.none : Option Jvm.ClassFile.FieldType)) ∈ GW := gw_t4 (List.mem_of_getElem? (i := 86) rfl) rfl
def wq_Mk_clear (b : Nat) (σ : Sg) (post : Sg → Prop) : Prop := (wq_Ar_fill b (0 : Int64) σ (fun σ1 => post σ1))
set_option maxRecDepth 100000 in
set_option maxHeartbeats 4000000 in
theorem b_Mk_clear_36_0 {p : Program} {l : Launch} {e : Env} {s : State} {m : MethodId} {args : Array Value} {below : List Frame} {meth : Method} {c : Code} {D : va_G} {g : Gm} {A : Nat → Prop} {post : Sg → Prop} (C : kC p s m args meth c k_Mk_clear 1 (none) GW R_Mk D vwCl g (Zk g) A) (σ : Sg) (H : Heap) (locs : List Loc) (ls : Array Slot) (hl : lv_has ls 1 [(0, .ref (g.1 36))]) (hst : Wst D vwCl (WS g) A s σ H locs) (h : wq_Mk_clear 36  σ post) : W p l e { frames := 1, cells := 0, slots := 0, locals := 24 } s m args below meth c H locs 0 0 (MQ below (QvW D vwCl (WS g) post A) args s 0 0 A) (F0 m 0 ls []) := by
  obtain ⟨hx, hb, hr, hml, hown, hts, hlocks, hK, hZ, hA⟩ := C
  unfold wq_Mk_clear at h
  refine lv_aload_n hx hb d_Mk_clear_0 rfl (lv_at hl 0 rfl) ?_
  refine va_get (D := D) (ci := 3) (C := R_Mk) (T := T_Mk) (N := 1) hx hb hts in_Mk hown hK hst.1 36 (WS_o36 g σ) rfl 0 (by decide) (hts _ gw294) (fun _ h9 => h9) rfl d_Mk_clear_1 ?_
  refine lv_lconst (v := (0 : Int64)) hx hb d_Mk_clear_4 (by decide) ?_
  refine kw_callv (va_runS (As := [.ref (g.1 37), .long (0 : Int64)]) (rest := []) ⟨hx, hb, hml, hown, hts⟩ (c_Ar_fill_36 l (0 : Int64) h) (va_cwS 2 hts (gd_x gw804 gw805 gw25 gw806) rfl rfl rfl (by decide +kernel) ⟨Nat.le_of_ble_eq_true rfl, Nat.le_of_ble_eq_true rfl⟩) ⟨kw_blind (Zk_ok g), kw_pre (Zk_ok g) hK hZ hA hst⟩ rfl rfl hl.1 rfl (lv_room (Nat.le_of_ble_eq_true rfl)) d_Mk_clear_5 ⟨Nat.le_of_ble_eq_true rfl, Nat.le_of_ble_eq_true rfl⟩) hst hA (fun σ1 H locs h hst => ?_)
  exact kw_vret hx hb hr hlocks hst h d_Mk_clear_8
set_option maxRecDepth 100000 in
set_option maxHeartbeats 4000000 in
theorem c_Mk_clear_36 (l : Launch) {D : va_G} {g : Gm} {sz : Nat} {σ : Sg} {post : Sg → Prop} (h : wq_Mk_clear 36 σ post) : Met l y_Mk_clear (.code y_Mk_clear k_Mk_clear 1 (none) :: GW) { frames := 1, cells := 0, slots := 0, locals := 24 } (PcW D vwCl (WS g) g (Zk g) σ sz [.ref (g.1 36)]) (QvW D vwCl (WS g) post (va_A (WS g σ) sz)) 0 0 (va_A (WS g σ) sz) := by
  refine kw_entry (own := R_Mk) (by decide) rfl rfl (Nat.le_of_ble_eq_true rfl) ?_
  intro p e s m below meth c ls hsz C hin hl hst
  exact b_Mk_clear_36_0 C σ _ _ ls hl hst h
set_option maxRecDepth 100000 in
set_option maxHeartbeats 4000000 in
theorem b_Mk_clear_38_0 {p : Program} {l : Launch} {e : Env} {s : State} {m : MethodId} {args : Array Value} {below : List Frame} {meth : Method} {c : Code} {D : va_G} {g : Gm} {A : Nat → Prop} {post : Sg → Prop} (C : kC p s m args meth c k_Mk_clear 1 (none) GW R_Mk D vwCl g (Zk g) A) (σ : Sg) (H : Heap) (locs : List Loc) (ls : Array Slot) (hl : lv_has ls 1 [(0, .ref (g.1 38))]) (hst : Wst D vwCl (WS g) A s σ H locs) (h : wq_Mk_clear 38  σ post) : W p l e { frames := 1, cells := 0, slots := 0, locals := 24 } s m args below meth c H locs 0 0 (MQ below (QvW D vwCl (WS g) post A) args s 0 0 A) (F0 m 0 ls []) := by
  obtain ⟨hx, hb, hr, hml, hown, hts, hlocks, hK, hZ, hA⟩ := C
  unfold wq_Mk_clear at h
  refine lv_aload_n hx hb d_Mk_clear_0 rfl (lv_at hl 0 rfl) ?_
  refine va_get (D := D) (ci := 3) (C := R_Mk) (T := T_Mk) (N := 1) hx hb hts in_Mk hown hK hst.1 38 (WS_o38 g σ) rfl 0 (by decide) (hts _ gw294) (fun _ h9 => h9) rfl d_Mk_clear_1 ?_
  refine lv_lconst (v := (0 : Int64)) hx hb d_Mk_clear_4 (by decide) ?_
  refine kw_callv (va_runS (As := [.ref (g.1 39), .long (0 : Int64)]) (rest := []) ⟨hx, hb, hml, hown, hts⟩ (c_Ar_fill_38 l (0 : Int64) h) (va_cwS 2 hts (gd_x gw804 gw805 gw25 gw806) rfl rfl rfl (by decide +kernel) ⟨Nat.le_of_ble_eq_true rfl, Nat.le_of_ble_eq_true rfl⟩) ⟨kw_blind (Zk_ok g), kw_pre (Zk_ok g) hK hZ hA hst⟩ rfl rfl hl.1 rfl (lv_room (Nat.le_of_ble_eq_true rfl)) d_Mk_clear_5 ⟨Nat.le_of_ble_eq_true rfl, Nat.le_of_ble_eq_true rfl⟩) hst hA (fun σ1 H locs h hst => ?_)
  exact kw_vret hx hb hr hlocks hst h d_Mk_clear_8
set_option maxRecDepth 100000 in
set_option maxHeartbeats 4000000 in
theorem c_Mk_clear_38 (l : Launch) {D : va_G} {g : Gm} {sz : Nat} {σ : Sg} {post : Sg → Prop} (h : wq_Mk_clear 38 σ post) : Met l y_Mk_clear (.code y_Mk_clear k_Mk_clear 1 (none) :: GW) { frames := 1, cells := 0, slots := 0, locals := 24 } (PcW D vwCl (WS g) g (Zk g) σ sz [.ref (g.1 38)]) (QvW D vwCl (WS g) post (va_A (WS g σ) sz)) 0 0 (va_A (WS g σ) sz) := by
  refine kw_entry (own := R_Mk) (by decide) rfl rfl (Nat.le_of_ble_eq_true rfl) ?_
  intro p e s m below meth c ls hsz C hin hl hst
  exact b_Mk_clear_38_0 C σ _ _ ls hl hst h
set_option maxRecDepth 100000 in
set_option maxHeartbeats 4000000 in
theorem b_Mk_clear_41_0 {p : Program} {l : Launch} {e : Env} {s : State} {m : MethodId} {args : Array Value} {below : List Frame} {meth : Method} {c : Code} {D : va_G} {g : Gm} {A : Nat → Prop} {post : Sg → Prop} (C : kC p s m args meth c k_Mk_clear 1 (none) GW R_Mk D vwCl g (Zk g) A) (σ : Sg) (H : Heap) (locs : List Loc) (ls : Array Slot) (hl : lv_has ls 1 [(0, .ref (g.1 41))]) (hst : Wst D vwCl (WS g) A s σ H locs) (h : wq_Mk_clear 41  σ post) : W p l e { frames := 1, cells := 0, slots := 0, locals := 24 } s m args below meth c H locs 0 0 (MQ below (QvW D vwCl (WS g) post A) args s 0 0 A) (F0 m 0 ls []) := by
  obtain ⟨hx, hb, hr, hml, hown, hts, hlocks, hK, hZ, hA⟩ := C
  unfold wq_Mk_clear at h
  refine lv_aload_n hx hb d_Mk_clear_0 rfl (lv_at hl 0 rfl) ?_
  refine va_get (D := D) (ci := 3) (C := R_Mk) (T := T_Mk) (N := 1) hx hb hts in_Mk hown hK hst.1 41 (WS_o41 g σ) rfl 0 (by decide) (hts _ gw294) (fun _ h9 => h9) rfl d_Mk_clear_1 ?_
  refine lv_lconst (v := (0 : Int64)) hx hb d_Mk_clear_4 (by decide) ?_
  refine kw_callv (va_runS (As := [.ref (g.1 42), .long (0 : Int64)]) (rest := []) ⟨hx, hb, hml, hown, hts⟩ (c_Ar_fill_41 l (0 : Int64) h) (va_cwS 2 hts (gd_x gw804 gw805 gw25 gw806) rfl rfl rfl (by decide +kernel) ⟨Nat.le_of_ble_eq_true rfl, Nat.le_of_ble_eq_true rfl⟩) ⟨kw_blind (Zk_ok g), kw_pre (Zk_ok g) hK hZ hA hst⟩ rfl rfl hl.1 rfl (lv_room (Nat.le_of_ble_eq_true rfl)) d_Mk_clear_5 ⟨Nat.le_of_ble_eq_true rfl, Nat.le_of_ble_eq_true rfl⟩) hst hA (fun σ1 H locs h hst => ?_)
  exact kw_vret hx hb hr hlocks hst h d_Mk_clear_8
set_option maxRecDepth 100000 in
set_option maxHeartbeats 4000000 in
theorem c_Mk_clear_41 (l : Launch) {D : va_G} {g : Gm} {sz : Nat} {σ : Sg} {post : Sg → Prop} (h : wq_Mk_clear 41 σ post) : Met l y_Mk_clear (.code y_Mk_clear k_Mk_clear 1 (none) :: GW) { frames := 1, cells := 0, slots := 0, locals := 24 } (PcW D vwCl (WS g) g (Zk g) σ sz [.ref (g.1 41)]) (QvW D vwCl (WS g) post (va_A (WS g σ) sz)) 0 0 (va_A (WS g σ) sz) := by
  refine kw_entry (own := R_Mk) (by decide) rfl rfl (Nat.le_of_ble_eq_true rfl) ?_
  intro p e s m below meth c ls hsz C hin hl hst
  exact b_Mk_clear_41_0 C σ _ _ ls hl hst h
set_option maxRecDepth 100000 in
set_option maxHeartbeats 4000000 in
theorem b_Mk_clear_43_0 {p : Program} {l : Launch} {e : Env} {s : State} {m : MethodId} {args : Array Value} {below : List Frame} {meth : Method} {c : Code} {D : va_G} {g : Gm} {A : Nat → Prop} {post : Sg → Prop} (C : kC p s m args meth c k_Mk_clear 1 (none) GW R_Mk D vwCl g (Zk g) A) (σ : Sg) (H : Heap) (locs : List Loc) (ls : Array Slot) (hl : lv_has ls 1 [(0, .ref (g.1 43))]) (hst : Wst D vwCl (WS g) A s σ H locs) (h : wq_Mk_clear 43  σ post) : W p l e { frames := 1, cells := 0, slots := 0, locals := 24 } s m args below meth c H locs 0 0 (MQ below (QvW D vwCl (WS g) post A) args s 0 0 A) (F0 m 0 ls []) := by
  obtain ⟨hx, hb, hr, hml, hown, hts, hlocks, hK, hZ, hA⟩ := C
  unfold wq_Mk_clear at h
  refine lv_aload_n hx hb d_Mk_clear_0 rfl (lv_at hl 0 rfl) ?_
  refine va_get (D := D) (ci := 3) (C := R_Mk) (T := T_Mk) (N := 1) hx hb hts in_Mk hown hK hst.1 43 (WS_o43 g σ) rfl 0 (by decide) (hts _ gw294) (fun _ h9 => h9) rfl d_Mk_clear_1 ?_
  refine lv_lconst (v := (0 : Int64)) hx hb d_Mk_clear_4 (by decide) ?_
  refine kw_callv (va_runS (As := [.ref (g.1 44), .long (0 : Int64)]) (rest := []) ⟨hx, hb, hml, hown, hts⟩ (c_Ar_fill_43 l (0 : Int64) h) (va_cwS 2 hts (gd_x gw804 gw805 gw25 gw806) rfl rfl rfl (by decide +kernel) ⟨Nat.le_of_ble_eq_true rfl, Nat.le_of_ble_eq_true rfl⟩) ⟨kw_blind (Zk_ok g), kw_pre (Zk_ok g) hK hZ hA hst⟩ rfl rfl hl.1 rfl (lv_room (Nat.le_of_ble_eq_true rfl)) d_Mk_clear_5 ⟨Nat.le_of_ble_eq_true rfl, Nat.le_of_ble_eq_true rfl⟩) hst hA (fun σ1 H locs h hst => ?_)
  exact kw_vret hx hb hr hlocks hst h d_Mk_clear_8
set_option maxRecDepth 100000 in
set_option maxHeartbeats 4000000 in
theorem c_Mk_clear_43 (l : Launch) {D : va_G} {g : Gm} {sz : Nat} {σ : Sg} {post : Sg → Prop} (h : wq_Mk_clear 43 σ post) : Met l y_Mk_clear (.code y_Mk_clear k_Mk_clear 1 (none) :: GW) { frames := 1, cells := 0, slots := 0, locals := 24 } (PcW D vwCl (WS g) g (Zk g) σ sz [.ref (g.1 43)]) (QvW D vwCl (WS g) post (va_A (WS g σ) sz)) 0 0 (va_A (WS g σ) sz) := by
  refine kw_entry (own := R_Mk) (by decide) rfl rfl (Nat.le_of_ble_eq_true rfl) ?_
  intro p e s m below meth c ls hsz C hin hl hst
  exact b_Mk_clear_43_0 C σ _ _ ls hl hst h
set_option maxRecDepth 100000 in
set_option maxHeartbeats 4000000 in
theorem b_Mk_clear_49_0 {p : Program} {l : Launch} {e : Env} {s : State} {m : MethodId} {args : Array Value} {below : List Frame} {meth : Method} {c : Code} {D : va_G} {g : Gm} {A : Nat → Prop} {post : Sg → Prop} (C : kC p s m args meth c k_Mk_clear 1 (none) GW R_Mk D vwCl g (Zk g) A) (σ : Sg) (H : Heap) (locs : List Loc) (ls : Array Slot) (hl : lv_has ls 1 [(0, .ref (g.1 49))]) (hst : Wst D vwCl (WS g) A s σ H locs) (h : wq_Mk_clear 49  σ post) : W p l e { frames := 1, cells := 0, slots := 0, locals := 24 } s m args below meth c H locs 0 0 (MQ below (QvW D vwCl (WS g) post A) args s 0 0 A) (F0 m 0 ls []) := by
  obtain ⟨hx, hb, hr, hml, hown, hts, hlocks, hK, hZ, hA⟩ := C
  unfold wq_Mk_clear at h
  refine lv_aload_n hx hb d_Mk_clear_0 rfl (lv_at hl 0 rfl) ?_
  refine va_get (D := D) (ci := 3) (C := R_Mk) (T := T_Mk) (N := 1) hx hb hts in_Mk hown hK hst.1 49 (WS_o49 g σ) rfl 0 (by decide) (hts _ gw294) (fun _ h9 => h9) rfl d_Mk_clear_1 ?_
  refine lv_lconst (v := (0 : Int64)) hx hb d_Mk_clear_4 (by decide) ?_
  refine kw_callv (va_runS (As := [.ref (g.1 50), .long (0 : Int64)]) (rest := []) ⟨hx, hb, hml, hown, hts⟩ (c_Ar_fill_49 l (0 : Int64) h) (va_cwS 2 hts (gd_x gw804 gw805 gw25 gw806) rfl rfl rfl (by decide +kernel) ⟨Nat.le_of_ble_eq_true rfl, Nat.le_of_ble_eq_true rfl⟩) ⟨kw_blind (Zk_ok g), kw_pre (Zk_ok g) hK hZ hA hst⟩ rfl rfl hl.1 rfl (lv_room (Nat.le_of_ble_eq_true rfl)) d_Mk_clear_5 ⟨Nat.le_of_ble_eq_true rfl, Nat.le_of_ble_eq_true rfl⟩) hst hA (fun σ1 H locs h hst => ?_)
  exact kw_vret hx hb hr hlocks hst h d_Mk_clear_8
set_option maxRecDepth 100000 in
set_option maxHeartbeats 4000000 in
theorem c_Mk_clear_49 (l : Launch) {D : va_G} {g : Gm} {sz : Nat} {σ : Sg} {post : Sg → Prop} (h : wq_Mk_clear 49 σ post) : Met l y_Mk_clear (.code y_Mk_clear k_Mk_clear 1 (none) :: GW) { frames := 1, cells := 0, slots := 0, locals := 24 } (PcW D vwCl (WS g) g (Zk g) σ sz [.ref (g.1 49)]) (QvW D vwCl (WS g) post (va_A (WS g σ) sz)) 0 0 (va_A (WS g σ) sz) := by
  refine kw_entry (own := R_Mk) (by decide) rfl rfl (Nat.le_of_ble_eq_true rfl) ?_
  intro p e s m below meth c ls hsz C hin hl hst
  exact b_Mk_clear_49_0 C σ _ _ ls hl hst h
