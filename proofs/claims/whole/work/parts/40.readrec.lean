abbrev k_Rd_readValue : ByteArray := prog_5_method_6_code
abbrev y_Rd_readValue : MethodName := ⟨"SchemaDesk$Reader", "readValue", "(III)V"⟩
/-! SchemaDesk$Reader.readMember (II)V -/
abbrev k_Rd_readMember : ByteArray := prog_5_method_9_code
abbrev y_Rd_readMember : MethodName := ⟨"SchemaDesk$Reader", "readMember", "(II)V"⟩
theorem d_Rd_readMember_0 : decode k_Rd_readMember 0 = .ok (.aload_n 0, 1) := by decide +kernel
theorem d_Rd_readMember_1 : decode k_Rd_readMember 1 = .ok (.getfield 33, 3) := by decide +kernel
theorem d_Rd_readMember_4 : decode k_Rd_readMember 4 = .ok (.istore_n 3, 1) := by decide +kernel
theorem d_Rd_readMember_5 : decode k_Rd_readMember 5 = .ok (.aload_n 0, 1) := by decide +kernel
theorem d_Rd_readMember_6 : decode k_Rd_readMember 6 = .ok (.invokevirtual 86, 3) := by decide +kernel
theorem d_Rd_readMember_9 : decode k_Rd_readMember 9 = .ok (.aload_n 0, 1) := by decide +kernel
theorem d_Rd_readMember_10 : decode k_Rd_readMember 10 = .ok (.getfield 9, 3) := by decide +kernel
theorem d_Rd_readMember_13 : decode k_Rd_readMember 13 = .ok (.iload_n 1, 1) := by decide +kernel
theorem d_Rd_readMember_14 : decode k_Rd_readMember 14 = .ok (.aload_n 0, 1) := by decide +kernel
theorem d_Rd_readMember_15 : decode k_Rd_readMember 15 = .ok (.getfield 21, 3) := by decide +kernel
theorem d_Rd_readMember_18 : decode k_Rd_readMember 18 = .ok (.iload_n 3, 1) := by decide +kernel
theorem d_Rd_readMember_19 : decode k_Rd_readMember 19 = .ok (.iconst 1, 1) := by decide +kernel
theorem d_Rd_readMember_20 : decode k_Rd_readMember 20 = .ok (.iadd, 1) := by decide +kernel
theorem d_Rd_readMember_21 : decode k_Rd_readMember 21 = .ok (.invokevirtual 108, 3) := by decide +kernel
theorem d_Rd_readMember_24 : decode k_Rd_readMember 24 = .ok (.iconst (-1), 1) := by decide +kernel
theorem d_Rd_readMember_25 : decode k_Rd_readMember 25 = .ok (.if_icmp .eq 13, 3) := by decide +kernel
theorem d_Rd_readMember_28 : decode k_Rd_readMember 28 = .ok (.aload_n 0, 1) := by decide +kernel
theorem d_Rd_readMember_29 : decode k_Rd_readMember 29 = .ok (.getfield 9, 3) := by decide +kernel
theorem d_Rd_readMember_32 : decode k_Rd_readMember 32 = .ok (.bipush 13, 2) := by decide +kernel
theorem d_Rd_readMember_34 : decode k_Rd_readMember 34 = .ok (.iload_n 3, 1) := by decide +kernel
theorem d_Rd_readMember_35 : decode k_Rd_readMember 35 = .ok (.invokevirtual 53, 3) := by decide +kernel
theorem d_Rd_readMember_38 : decode k_Rd_readMember 38 = .ok (.aload_n 0, 1) := by decide +kernel
theorem d_Rd_readMember_39 : decode k_Rd_readMember 39 = .ok (.invokevirtual 37, 3) := by decide +kernel
theorem d_Rd_readMember_42 : decode k_Rd_readMember 42 = .ok (.aload_n 0, 1) := by decide +kernel
theorem d_Rd_readMember_43 : decode k_Rd_readMember 43 = .ok (.getfield 33, 3) := by decide +kernel
theorem d_Rd_readMember_46 : decode k_Rd_readMember 46 = .ok (.aload_n 0, 1) := by decide +kernel
theorem d_Rd_readMember_47 : decode k_Rd_readMember 47 = .ok (.getfield 21, 3) := by decide +kernel
theorem d_Rd_readMember_50 : decode k_Rd_readMember 50 = .ok (.getfield 40, 3) := by decide +kernel
theorem d_Rd_readMember_53 : decode k_Rd_readMember 53 = .ok (.if_icmp .ge 33, 3) := by decide +kernel
theorem d_Rd_readMember_56 : decode k_Rd_readMember 56 = .ok (.aload_n 0, 1) := by decide +kernel
theorem d_Rd_readMember_57 : decode k_Rd_readMember 57 = .ok (.getfield 21, 3) := by decide +kernel
theorem d_Rd_readMember_60 : decode k_Rd_readMember 60 = .ok (.getfield 61, 3) := by decide +kernel
theorem d_Rd_readMember_63 : decode k_Rd_readMember 63 = .ok (.aload_n 0, 1) := by decide +kernel
theorem d_Rd_readMember_64 : decode k_Rd_readMember 64 = .ok (.getfield 33, 3) := by decide +kernel
theorem d_Rd_readMember_67 : decode k_Rd_readMember 67 = .ok (.caload, 1) := by decide +kernel
theorem d_Rd_readMember_68 : decode k_Rd_readMember 68 = .ok (.bipush 58, 2) := by decide +kernel
theorem d_Rd_readMember_70 : decode k_Rd_readMember 70 = .ok (.if_icmp .ne 16, 3) := by decide +kernel
theorem d_Rd_readMember_73 : decode k_Rd_readMember 73 = .ok (.aload_n 0, 1) := by decide +kernel
theorem d_Rd_readMember_74 : decode k_Rd_readMember 74 = .ok (.dup, 1) := by decide +kernel
theorem d_Rd_readMember_75 : decode k_Rd_readMember 75 = .ok (.getfield 33, 3) := by decide +kernel
theorem d_Rd_readMember_78 : decode k_Rd_readMember 78 = .ok (.iconst 1, 1) := by decide +kernel
theorem d_Rd_readMember_79 : decode k_Rd_readMember 79 = .ok (.iadd, 1) := by decide +kernel
theorem d_Rd_readMember_80 : decode k_Rd_readMember 80 = .ok (.putfield 33, 3) := by decide +kernel
theorem d_Rd_readMember_83 : decode k_Rd_readMember 83 = .ok (.goto 16, 3) := by decide +kernel
theorem d_Rd_readMember_86 : decode k_Rd_readMember 86 = .ok (.aload_n 0, 1) := by decide +kernel
theorem d_Rd_readMember_87 : decode k_Rd_readMember 87 = .ok (.getfield 9, 3) := by decide +kernel
theorem d_Rd_readMember_90 : decode k_Rd_readMember 90 = .ok (.bipush 11, 2) := by decide +kernel
theorem d_Rd_readMember_92 : decode k_Rd_readMember 92 = .ok (.aload_n 0, 1) := by decide +kernel
theorem d_Rd_readMember_93 : decode k_Rd_readMember 93 = .ok (.getfield 33, 3) := by decide +kernel
theorem d_Rd_readMember_96 : decode k_Rd_readMember 96 = .ok (.invokevirtual 53, 3) := by decide +kernel
theorem d_Rd_readMember_99 : decode k_Rd_readMember 99 = .ok (.aload_n 0, 1) := by decide +kernel
theorem d_Rd_readMember_100 : decode k_Rd_readMember 100 = .ok (.invokevirtual 37, 3) := by decide +kernel
theorem d_Rd_readMember_103 : decode k_Rd_readMember 103 = .ok (.aload_n 0, 1) := by decide +kernel
theorem d_Rd_readMember_104 : decode k_Rd_readMember 104 = .ok (.iload_n 2, 1) := by decide +kernel
theorem d_Rd_readMember_105 : decode k_Rd_readMember 105 = .ok (.invokevirtual 45, 3) := by decide +kernel
theorem d_Rd_readMember_108 : decode k_Rd_readMember 108 = .ok (.ifCond .eq 13, 3) := by decide +kernel
theorem d_Rd_readMember_111 : decode k_Rd_readMember 111 = .ok (.aload_n 0, 1) := by decide +kernel
theorem d_Rd_readMember_112 : decode k_Rd_readMember 112 = .ok (.iload_n 1, 1) := by decide +kernel
theorem d_Rd_readMember_113 : decode k_Rd_readMember 113 = .ok (.iload_n 3, 1) := by decide +kernel
theorem d_Rd_readMember_114 : decode k_Rd_readMember 114 = .ok (.iload_n 2, 1) := by decide +kernel
theorem d_Rd_readMember_115 : decode k_Rd_readMember 115 = .ok (.invokevirtual 57, 3) := by decide +kernel
theorem d_Rd_readMember_118 : decode k_Rd_readMember 118 = .ok (.goto 16, 3) := by decide +kernel
theorem d_Rd_readMember_121 : decode k_Rd_readMember 121 = .ok (.aload_n 0, 1) := by decide +kernel
theorem d_Rd_readMember_122 : decode k_Rd_readMember 122 = .ok (.getfield 9, 3) := by decide +kernel
theorem d_Rd_readMember_125 : decode k_Rd_readMember 125 = .ok (.bipush 12, 2) := by decide +kernel
theorem d_Rd_readMember_127 : decode k_Rd_readMember 127 = .ok (.aload_n 0, 1) := by decide +kernel
theorem d_Rd_readMember_128 : decode k_Rd_readMember 128 = .ok (.getfield 33, 3) := by decide +kernel
theorem d_Rd_readMember_131 : decode k_Rd_readMember 131 = .ok (.invokevirtual 53, 3) := by decide +kernel
theorem d_Rd_readMember_134 : decode k_Rd_readMember 134 = .ok (.return_, 1) := by decide +kernel
theorem gw661 : (Jvm.Cond.methodLink "SchemaDesk$Reader" (86 : Nat) ({ cls := "SchemaDesk$Reader", name := "passQuoted", desc := "()V" } : Jvm.MethodName)) ∈ GW := gw_t3 (List.mem_of_getElem? (i := 181) rfl) rfl
theorem gw663 : (Jvm.Cond.instanceMethod ({ cls := "SchemaDesk$Reader", name := "passQuoted", desc := "()V" } : Jvm.MethodName)) ∈ GW := gw_t3 (List.mem_of_getElem? (i := 183) rfl) rfl
theorem gs10 : Cond.selects "SchemaDesk$Reader" ⟨"SchemaDesk$Reader", "passQuoted", "()V"⟩ ⟨"SchemaDesk$Reader", "passQuoted", "()V"⟩ ∈ GW := gw_p1 (q := (⟨"SchemaDesk$Reader", "passQuoted", "()V"⟩, 5)) (List.mem_of_getElem? (i := 10) rfl)
theorem gw664 : (Jvm.Cond.code ({ cls := "SchemaDesk$Reader", name := "passQuoted", desc := "()V" } : Jvm.MethodName) prog_5_method_10_code (2 : Nat) (Option.none : Option Jvm.ClassFile.FieldType)) ∈ GW := gw_t3 (List.mem_of_getElem? (i := 184) rfl) rfl
theorem gw669 : (Jvm.Cond.methodLink "SchemaDesk$Reader" (108 : Nat) ({ cls := "SchemaDesk$Tree", name := "childNamed", desc := "(ILSchemaDesk$Text;I)I" } : Jvm.MethodName)) ∈ GW := gw_t3 (List.mem_of_getElem? (i := 189) rfl) rfl
theorem gw617 : (Jvm.Cond.methodLink "SchemaDesk$Reader" (37 : Nat) ({ cls := "SchemaDesk$Reader", name := "passBlanks", desc := "()V" } : Jvm.MethodName)) ∈ GW := gw_t3 (List.mem_of_getElem? (i := 137) rfl) rfl
theorem gw619 : (Jvm.Cond.instanceMethod ({ cls := "SchemaDesk$Reader", name := "passBlanks", desc := "()V" } : Jvm.MethodName)) ∈ GW := gw_t3 (List.mem_of_getElem? (i := 139) rfl) rfl
theorem gs4 : Cond.selects "SchemaDesk$Reader" ⟨"SchemaDesk$Reader", "passBlanks", "()V"⟩ ⟨"SchemaDesk$Reader", "passBlanks", "()V"⟩ ∈ GW := gw_p1 (q := (⟨"SchemaDesk$Reader", "passBlanks", "()V"⟩, 5)) (List.mem_of_getElem? (i := 4) rfl)
theorem gw620 : (Jvm.Cond.code ({ cls := "SchemaDesk$Reader", name := "passBlanks", desc := "()V" } : Jvm.MethodName) prog_5_method_3_code (1 : Nat) (Option.none : Option Jvm.ClassFile.FieldType)) ∈ GW := gw_t3 (List.mem_of_getElem? (i := 140) rfl) rfl
theorem gw621 : (Jvm.Cond.methodLink "SchemaDesk$Reader" (45 : Nat) ({ cls := "SchemaDesk$Reader", name := "valueBegins", desc := "(I)Z" } : Jvm.MethodName)) ∈ GW := gw_t3 (List.mem_of_getElem? (i := 141) rfl) rfl
theorem gw623 : (Jvm.Cond.instanceMethod ({ cls := "SchemaDesk$Reader", name := "valueBegins", desc := "(I)Z" } : Jvm.MethodName)) ∈ GW := gw_t3 (List.mem_of_getElem? (i := 143) rfl) rfl
theorem gs5 : Cond.selects "SchemaDesk$Reader" ⟨"SchemaDesk$Reader", "valueBegins", "(I)Z"⟩ ⟨"SchemaDesk$Reader", "valueBegins", "(I)Z"⟩ ∈ GW := gw_p1 (q := (⟨"SchemaDesk$Reader", "valueBegins", "(I)Z"⟩, 5)) (List.mem_of_getElem? (i := 5) rfl)
theorem gw624 : (Jvm.Cond.code ({ cls := "SchemaDesk$Reader", name := "valueBegins", desc := "(I)Z" } : Jvm.MethodName) prog_5_method_4_code (3 : Nat) (Option.some Jvm.ClassFile.FieldType.boolean)) ∈ GW := gw_t3 (List.mem_of_getElem? (i := 144) rfl) rfl
theorem gw642 : (Jvm.Cond.methodLink "SchemaDesk$Reader" (57 : Nat) ({ cls := "SchemaDesk$Reader", name := "readValue", desc := "(III)V" } : Jvm.MethodName)) ∈ GW := gw_t3 (List.mem_of_getElem? (i := 162) rfl) rfl
theorem gw644 : (Jvm.Cond.instanceMethod ({ cls := "SchemaDesk$Reader", name := "readValue", desc := "(III)V" } : Jvm.MethodName)) ∈ GW := gw_t3 (List.mem_of_getElem? (i := 164) rfl) rfl
theorem gs7 : Cond.selects "SchemaDesk$Reader" ⟨"SchemaDesk$Reader", "readValue", "(III)V"⟩ ⟨"SchemaDesk$Reader", "readValue", "(III)V"⟩ ∈ GW := gw_p1 (q := (⟨"SchemaDesk$Reader", "readValue", "(III)V"⟩, 5)) (List.mem_of_getElem? (i := 7) rfl)
theorem gw645 : (Jvm.Cond.code ({ cls := "SchemaDesk$Reader", name := "readValue", desc := "(III)V" } : Jvm.MethodName) prog_5_method_6_code (6 : Nat) (Option.none : Option Jvm.ClassFile.FieldType)) ∈ GW := gw_t3 (List.mem_of_getElem? (i := 165) rfl) rfl
def wb_Rd_readMember_0 (V : Nat → Int32 → Int32 → Int32 → Sg → (Sg → Prop) → Prop) (b : Nat) (F : Nat → Int32 → Int32 → Int32 → Sg → Prop) (post : Sg → Prop) (x1 : Int32) (x2 : Int32) (σ : Sg) : Prop := (wq_Rd_passQuoted b σ (fun σ1 => (wq_Tr_childNamed b b x1 ((σ.1 (b + 12) 4) + (1 : Int32)) σ1 (fun r2 σ2 => ((r2 = (-1 : Int32) → F 1 x1 x2 (σ.1 (b + 12) 4) σ2) ∧ (¬ r2 = (-1 : Int32) → (wq_Tr_blame b (13 : Int32) (σ.1 (b + 12) 4) σ2 (fun σ3 => F 1 x1 x2 (σ.1 (b + 12) 4) σ3))))))))
def wb_Rd_readMember_1 (V : Nat → Int32 → Int32 → Int32 → Sg → (Sg → Prop) → Prop) (b : Nat) (F : Nat → Int32 → Int32 → Int32 → Sg → Prop) (post : Sg → Prop) (x1 : Int32) (x2 : Int32) (x3 : Int32) (σ : Sg) : Prop := (wq_Rd_passBlanks b σ (fun σ1 => (((σ1.1 (b + 10) 1) ≤ (σ1.1 (b + 12) 4) → F 2 x1 x2 x3 σ1) ∧ (¬ (σ1.1 (b + 10) 1) ≤ (σ1.1 (b + 12) 4) → (vp_in (σ1.1 (b + 12) 4) (tl b) ∧ ((¬ (σ1.1 (b + 11) ((σ1.1 (b + 12) 4) : Int32).toNatClampNeg) = (58 : Int32) → F 2 x1 x2 x3 σ1) ∧ ((σ1.1 (b + 11) ((σ1.1 (b + 12) 4) : Int32).toNatClampNeg) = (58 : Int32) → (∀ σ2, σ2 = si σ1 (b + 12) 4 ((σ1.1 (b + 12) 4) + (1 : Int32)) → F 3 x1 x2 x3 σ2))))))))
def wb_Rd_readMember_2 (V : Nat → Int32 → Int32 → Int32 → Sg → (Sg → Prop) → Prop) (b : Nat) (F : Nat → Int32 → Int32 → Int32 → Sg → Prop) (post : Sg → Prop) (x1 : Int32) (x2 : Int32) (x3 : Int32) (σ : Sg) : Prop := (wq_Tr_blame b (11 : Int32) (σ.1 (b + 12) 4) σ (fun σ1 => F 3 x1 x2 x3 σ1))
def wb_Rd_readMember_3 (V : Nat → Int32 → Int32 → Int32 → Sg → (Sg → Prop) → Prop) (b : Nat) (F : Nat → Int32 → Int32 → Int32 → Sg → Prop) (post : Sg → Prop) (x1 : Int32) (x2 : Int32) (x3 : Int32) (σ : Sg) : Prop := (wq_Rd_passBlanks b σ (fun σ1 => (wq_Rd_valueBegins b x2 σ1 (fun r2 σ2 => ((r2 = 0 → (wq_Tr_blame b (12 : Int32) (σ2.1 (b + 12) 4) σ2 (fun σ3 => post σ3))) ∧ (¬ r2 = 0 → (V b x1 x3 x2 σ2 (fun σ3 => post σ3))))))))
def wp_Rd_readMember (V : Nat → Int32 → Int32 → Int32 → Sg → (Sg → Prop) → Prop) (b : Nat) (post : Sg → Prop) : Nat → Nat → Int32 → Int32 → Int32 → Sg → Prop
  | 0, _, _, _, _, _ => False
  | n + 1, k, x1, x2, x3, σ => match k with
    | 0 => wb_Rd_readMember_0 V b (wp_Rd_readMember V b post n) post x1 x2 σ
    | 1 => wb_Rd_readMember_1 V b (wp_Rd_readMember V b post n) post x1 x2 x3 σ
    | 2 => wb_Rd_readMember_2 V b (wp_Rd_readMember V b post n) post x1 x2 x3 σ
    | 3 => wb_Rd_readMember_3 V b (wp_Rd_readMember V b post n) post x1 x2 x3 σ
    | _ => False
def wq_Rd_readMember (V : Nat → Int32 → Int32 → Int32 → Sg → (Sg → Prop) → Prop) (b : Nat) (x1 : Int32) (x2 : Int32) (σ : Sg) (post : Sg → Prop) : Prop := ∃ n, wp_Rd_readMember V b post n 0 x1 x2 0 σ
def J_Rd_readMember_0_1 (p : Program) (l : Launch) (e : Env) (s : State) (m : MethodId) (args : Array Value) (below : List Frame) (meth : Method) (c : Code) (D : va_G) (g : Gm) (A : Nat → Prop) (d : Nat) (post : Sg → Prop) (F : Nat → Int32 → Int32 → Int32 → Sg → Prop) : Prop := ∀ (x1 : Int32) (x2 : Int32) (x3 : Int32) (σ : Sg) (H : Heap) (locs : List Loc) (ls : Array Slot), lv_has ls 4 [(0, .ref (g.1 12)), (1, .int x1), (2, .int x2), (3, .int x3)] → Wst D vwCl (WS g) A s σ H locs → F 1 x1 x2 x3 σ → W p l e { frames := (5 + 3 * d), cells := 0, slots := 0, locals := (125 + 76 * d) } s m args below meth c H locs 0 0 (MQ below (QvW D vwCl (WS g) post A) args s 0 0 A) (F0 m 38 ls [])
def J_Rd_readMember_0_2 (p : Program) (l : Launch) (e : Env) (s : State) (m : MethodId) (args : Array Value) (below : List Frame) (meth : Method) (c : Code) (D : va_G) (g : Gm) (A : Nat → Prop) (d : Nat) (post : Sg → Prop) (F : Nat → Int32 → Int32 → Int32 → Sg → Prop) : Prop := ∀ (x1 : Int32) (x2 : Int32) (x3 : Int32) (σ : Sg) (H : Heap) (locs : List Loc) (ls : Array Slot), lv_has ls 4 [(0, .ref (g.1 12)), (1, .int x1), (2, .int x2), (3, .int x3)] → Wst D vwCl (WS g) A s σ H locs → F 2 x1 x2 x3 σ → W p l e { frames := (5 + 3 * d), cells := 0, slots := 0, locals := (125 + 76 * d) } s m args below meth c H locs 0 0 (MQ below (QvW D vwCl (WS g) post A) args s 0 0 A) (F0 m 86 ls [])
def J_Rd_readMember_0_3 (p : Program) (l : Launch) (e : Env) (s : State) (m : MethodId) (args : Array Value) (below : List Frame) (meth : Method) (c : Code) (D : va_G) (g : Gm) (A : Nat → Prop) (d : Nat) (post : Sg → Prop) (F : Nat → Int32 → Int32 → Int32 → Sg → Prop) : Prop := ∀ (x1 : Int32) (x2 : Int32) (x3 : Int32) (σ : Sg) (H : Heap) (locs : List Loc) (ls : Array Slot), lv_has ls 4 [(0, .ref (g.1 12)), (1, .int x1), (2, .int x2), (3, .int x3)] → Wst D vwCl (WS g) A s σ H locs → F 3 x1 x2 x3 σ → W p l e { frames := (5 + 3 * d), cells := 0, slots := 0, locals := (125 + 76 * d) } s m args below meth c H locs 0 0 (MQ below (QvW D vwCl (WS g) post A) args s 0 0 A) (F0 m 99 ls [])
set_option maxRecDepth 100000 in
set_option maxHeartbeats 4000000 in
theorem b_Rd_readMember_0_0 {p : Program} {l : Launch} {e : Env} {s : State} {m : MethodId} {args : Array Value} {below : List Frame} {meth : Method} {c : Code} {D : va_G} {g : Gm} {A : Nat → Prop} {post : Sg → Prop} {F : Nat → Int32 → Int32 → Int32 → Sg → Prop} (C : kC p s m args meth c k_Rd_readMember 4 (none) GW R_Rd D vwCl g (Zk g) A) {V : Nat → Int32 → Int32 → Int32 → Sg → (Sg → Prop) → Prop} {d : Nat} (hV : ∀ (sz : Nat) (x1 : Int32) (x2 : Int32) (x3 : Int32) (σ : Sg) (post : Sg → Prop), V 0 x1 x2 x3 σ post → Met l y_Rd_readValue (.code y_Rd_readValue k_Rd_readValue 6 (none) :: GW) { frames := (4 + 3 * d), cells := 0, slots := 0, locals := (100 + 76 * d) } (PcW D vwCl (WS g) g (Zk g) σ sz [.ref (g.1 12), .int x1, .int x2, .int x3]) (QvW D vwCl (WS g) post (va_A (WS g σ) sz)) 0 0 (va_A (WS g σ) sz)) (j1 : J_Rd_readMember_0_1 p l e s m args below meth c D g A d post F) (x1 : Int32) (x2 : Int32) (σ : Sg) (H : Heap) (locs : List Loc) (ls : Array Slot) (hl : lv_has ls 4 [(0, .ref (g.1 12)), (1, .int x1), (2, .int x2)]) (hst : Wst D vwCl (WS g) A s σ H locs) (h : wb_Rd_readMember_0 V 0 F post x1 x2 σ) : W p l e { frames := (5 + 3 * d), cells := 0, slots := 0, locals := (125 + 76 * d) } s m args below meth c H locs 0 0 (MQ below (QvW D vwCl (WS g) post A) args s 0 0 A) (F0 m 0 ls []) := by
  obtain ⟨hx, hb, hr, hml, hown, hts, hlocks, hK, hZ, hA⟩ := C
  unfold wb_Rd_readMember_0 at h
  refine lv_aload_n hx hb d_Rd_readMember_0 rfl (lv_at hl 0 rfl) ?_
  refine va_get (D := D) (ci := 2) (C := R_Rd) (T := T_Rd) (N := 5) hx hb hts in_Rd hown hK hst.1 12 (WS_o12 g σ) rfl 4 (by decide) (hts _ gw214) (fun _ h9 => h9) rfl d_Rd_readMember_1 ?_
  refine lv_istore_n hx hb d_Rd_readMember_4 rfl hl (by decide) rfl (fun ls hl => ?_)
  have hl : lv_has ls 4 [(3, .int (σ.1 12 4)), (0, .ref (g.1 12)), (1, .int x1), (2, .int x2)] := hl
  refine lv_aload_n hx hb d_Rd_readMember_5 rfl (lv_at hl 1 rfl) ?_
  refine kw_callv (va_runV (As := []) (rest := []) (b := g.1 12) ⟨hx, hb, hml, hown, hts⟩ (c_Rd_passQuoted_0 l h) (cwV 0 hts (gd_v gw661 gw663 gs10 gw9 gw664) rfl rfl rfl (by decide +kernel) ⟨show 1 + 1 ≤ (5 + 3 * d) by omega, show 8 + (2 + 11) + 22 ≤ (125 + 76 * d) by omega⟩) ⟨kw_blind (Zk_ok g), va_recv hK hst.1 rfl (WS_o12 g σ), kw_pre (Zk_ok g) hK hZ hA hst⟩ rfl rfl hl.1 rfl (lv_room (Nat.le_of_ble_eq_true rfl)) d_Rd_readMember_6 ⟨Nat.le_of_ble_eq_true rfl, Nat.le_of_ble_eq_true rfl⟩) hst hA (fun σ1 H locs h hst => ?_)
  refine lv_aload_n hx hb d_Rd_readMember_9 rfl (lv_at hl 1 rfl) ?_
  refine va_get (D := D) (ci := 2) (C := R_Rd) (T := T_Rd) (N := 5) hx hb hts in_Rd hown hK hst.1 12 (WS_o12 g σ1) rfl 0 (by decide) (hts _ gw208) (fun _ h9 => h9) rfl d_Rd_readMember_10 ?_
  refine lv_iload_n hx hb d_Rd_readMember_13 rfl (lv_at hl 2 rfl) ?_
  refine lv_aload_n hx hb d_Rd_readMember_14 rfl (lv_at hl 1 rfl) ?_
  refine va_get (D := D) (ci := 2) (C := R_Rd) (T := T_Rd) (N := 5) hx hb hts in_Rd hown hK hst.1 12 (WS_o12 g σ1) rfl 2 (by decide) (hts _ gw212) (fun _ h9 => h9) rfl d_Rd_readMember_15 ?_
  refine lv_iload_n hx hb d_Rd_readMember_18 rfl (lv_at hl 0 rfl) ?_
  refine lv_iconst (v := (1 : Int32)) hx hb d_Rd_readMember_19 (by decide) ?_
  refine lv_iadd hx hb d_Rd_readMember_20 ?_
  refine kw_calli (va_runV (As := [.int x1, .ref (g.1 10), .int ((σ.1 12 4) + (1 : Int32))]) (rest := []) (b := g.1 0) ⟨hx, hb, hml, hown, hts⟩ (c_Tr_childNamed_0_0 l x1 ((σ.1 12 4) + (1 : Int32)) h) (cwV 3 hts (gd_v gw669 gw670 gw671 gw7 gw672) rfl rfl rfl (by decide +kernel) ⟨show 1 + 1 ≤ (5 + 3 * d) by omega, show 8 + (6 + 11) + 26 ≤ (125 + 76 * d) by omega⟩) ⟨kw_blind (Zk_ok g), va_recv hK hst.1 rfl (WS_o0 g σ1), kw_pre (Zk_ok g) hK hZ hA hst⟩ rfl rfl hl.1 rfl (lv_room (Nat.le_of_ble_eq_true rfl)) d_Rd_readMember_21 ⟨Nat.le_of_ble_eq_true rfl, Nat.le_of_ble_eq_true rfl⟩) hst hA (fun r2 σ2 H locs h hst => ?_)
  refine lv_iconst (v := (-1 : Int32)) hx hb d_Rd_readMember_24 (by decide) ?_
  refine lv_icmp_eq (tgt := 38) hx hb d_Rd_readMember_25 (by decide) (fun hc => ?_) (fun hc => ?_)
  · replace h := h.1 hc
    exact j1 x1 x2 (σ.1 12 4) σ2 _ _ _ (lv_sub hl [1, 2, 3, 0] rfl) hst h
  · replace h := h.2 hc
    refine lv_aload_n hx hb d_Rd_readMember_28 rfl (lv_at hl 1 rfl) ?_
    refine va_get (D := D) (ci := 2) (C := R_Rd) (T := T_Rd) (N := 5) hx hb hts in_Rd hown hK hst.1 12 (WS_o12 g σ2) rfl 0 (by decide) (hts _ gw208) (fun _ h9 => h9) rfl d_Rd_readMember_29 ?_
    refine lv_bipush (v := (13 : Int32)) hx hb d_Rd_readMember_32 (by decide) ?_
    refine lv_iload_n hx hb d_Rd_readMember_34 rfl (lv_at hl 0 rfl) ?_
    refine kw_callv (va_runV (As := [.int (13 : Int32), .int (σ.1 12 4)]) (rest := []) (b := g.1 0) ⟨hx, hb, hml, hown, hts⟩ (c_Tr_blame_0 l (13 : Int32) (σ.1 12 4) h) (cwV 2 hts (gd_v gw638 gw639 gw640 gw7 gw641) rfl rfl rfl (by decide +kernel) ⟨show 0 + 1 ≤ (5 + 3 * d) by omega, show 8 + (3 + 11) + 0 ≤ (125 + 76 * d) by omega⟩) ⟨kw_blind (Zk_ok g), va_recv hK hst.1 rfl (WS_o0 g σ2), kw_pre (Zk_ok g) hK hZ hA hst⟩ rfl rfl hl.1 rfl (lv_room (Nat.le_of_ble_eq_true rfl)) d_Rd_readMember_35 ⟨Nat.le_of_ble_eq_true rfl, Nat.le_of_ble_eq_true rfl⟩) hst hA (fun σ3 H locs h hst => ?_)
    exact j1 x1 x2 (σ.1 12 4) σ3 _ _ _ (lv_sub hl [1, 2, 3, 0] rfl) hst h
set_option maxRecDepth 100000 in
set_option maxHeartbeats 4000000 in
theorem b_Rd_readMember_0_1 {p : Program} {l : Launch} {e : Env} {s : State} {m : MethodId} {args : Array Value} {below : List Frame} {meth : Method} {c : Code} {D : va_G} {g : Gm} {A : Nat → Prop} {post : Sg → Prop} {F : Nat → Int32 → Int32 → Int32 → Sg → Prop} (C : kC p s m args meth c k_Rd_readMember 4 (none) GW R_Rd D vwCl g (Zk g) A) {V : Nat → Int32 → Int32 → Int32 → Sg → (Sg → Prop) → Prop} {d : Nat} (hV : ∀ (sz : Nat) (x1 : Int32) (x2 : Int32) (x3 : Int32) (σ : Sg) (post : Sg → Prop), V 0 x1 x2 x3 σ post → Met l y_Rd_readValue (.code y_Rd_readValue k_Rd_readValue 6 (none) :: GW) { frames := (4 + 3 * d), cells := 0, slots := 0, locals := (100 + 76 * d) } (PcW D vwCl (WS g) g (Zk g) σ sz [.ref (g.1 12), .int x1, .int x2, .int x3]) (QvW D vwCl (WS g) post (va_A (WS g σ) sz)) 0 0 (va_A (WS g σ) sz)) (j2 : J_Rd_readMember_0_2 p l e s m args below meth c D g A d post F) (j3 : J_Rd_readMember_0_3 p l e s m args below meth c D g A d post F) (x1 : Int32) (x2 : Int32) (x3 : Int32) (σ : Sg) (H : Heap) (locs : List Loc) (ls : Array Slot) (hl : lv_has ls 4 [(0, .ref (g.1 12)), (1, .int x1), (2, .int x2), (3, .int x3)]) (hst : Wst D vwCl (WS g) A s σ H locs) (h : wb_Rd_readMember_1 V 0 F post x1 x2 x3 σ) : W p l e { frames := (5 + 3 * d), cells := 0, slots := 0, locals := (125 + 76 * d) } s m args below meth c H locs 0 0 (MQ below (QvW D vwCl (WS g) post A) args s 0 0 A) (F0 m 38 ls []) := by
  obtain ⟨hx, hb, hr, hml, hown, hts, hlocks, hK, hZ, hA⟩ := C
  unfold wb_Rd_readMember_1 at h
  refine lv_aload_n hx hb d_Rd_readMember_38 rfl (lv_at hl 0 rfl) ?_
  refine kw_callv (va_runV (As := []) (rest := []) (b := g.1 12) ⟨hx, hb, hml, hown, hts⟩ (c_Rd_passBlanks_0 l h) (cwV 0 hts (gd_v gw617 gw619 gs4 gw9 gw620) rfl rfl rfl (by decide +kernel) ⟨show 0 + 1 ≤ (5 + 3 * d) by omega, show 8 + (1 + 11) + 0 ≤ (125 + 76 * d) by omega⟩) ⟨kw_blind (Zk_ok g), va_recv hK hst.1 rfl (WS_o12 g σ), kw_pre (Zk_ok g) hK hZ hA hst⟩ rfl rfl hl.1 rfl (lv_room (Nat.le_of_ble_eq_true rfl)) d_Rd_readMember_39 ⟨Nat.le_of_ble_eq_true rfl, Nat.le_of_ble_eq_true rfl⟩) hst hA (fun σ1 H locs h hst => ?_)
  refine lv_aload_n hx hb d_Rd_readMember_42 rfl (lv_at hl 0 rfl) ?_
  refine va_get (D := D) (ci := 2) (C := R_Rd) (T := T_Rd) (N := 5) hx hb hts in_Rd hown hK hst.1 12 (WS_o12 g σ1) rfl 4 (by decide) (hts _ gw214) (fun _ h9 => h9) rfl d_Rd_readMember_43 ?_
  refine lv_aload_n hx hb d_Rd_readMember_46 rfl (lv_at hl 0 rfl) ?_
  refine va_get (D := D) (ci := 2) (C := R_Rd) (T := T_Rd) (N := 5) hx hb hts in_Rd hown hK hst.1 12 (WS_o12 g σ1) rfl 2 (by decide) (hts _ gw212) (fun _ h9 => h9) rfl d_Rd_readMember_47 ?_
  refine va_get (D := D) (ci := 1) (C := R_Tx) (T := T_Tx) (N := 2) hx hb hts in_Tx hown hK hst.1 10 (WS_o10 g σ1) rfl 1 (by decide) (hts _ gw114) (fun _ h9 => h9) rfl d_Rd_readMember_50 ?_
  refine lv_icmp_ge (tgt := 86) hx hb d_Rd_readMember_53 (by decide) (fun hc => ?_) (fun hc => ?_)
  · replace h := h.1 hc
    exact j2 x1 x2 x3 σ1 _ _ _ (lv_sub hl [0, 1, 2, 3] rfl) hst h
  · replace h := h.2 hc
    refine lv_aload_n hx hb d_Rd_readMember_56 rfl (lv_at hl 0 rfl) ?_
    refine va_get (D := D) (ci := 2) (C := R_Rd) (T := T_Rd) (N := 5) hx hb hts in_Rd hown hK hst.1 12 (WS_o12 g σ1) rfl 2 (by decide) (hts _ gw212) (fun _ h9 => h9) rfl d_Rd_readMember_57 ?_
    refine va_get (D := D) (ci := 1) (C := R_Tx) (T := T_Tx) (N := 2) hx hb hts in_Tx hown hK hst.1 10 (WS_o10 g σ1) rfl 0 (by decide) (hts _ gw107) (fun _ h9 => h9) rfl d_Rd_readMember_60 ?_
    refine lv_aload_n hx hb d_Rd_readMember_63 rfl (lv_at hl 0 rfl) ?_
    refine va_get (D := D) (ci := 2) (C := R_Rd) (T := T_Rd) (N := 5) hx hb hts in_Rd hown hK hst.1 12 (WS_o12 g σ1) rfl 4 (by decide) (hts _ gw214) (fun _ h9 => h9) rfl d_Rd_readMember_64 ?_
    obtain ⟨hi, h⟩ := h
    refine va_cald hx hb hK hst.1 11 1 (WS_a11 g σ1) rfl hi d_Rd_readMember_67 ?_
    refine lv_bipush (v := (58 : Int32)) hx hb d_Rd_readMember_68 (by decide) ?_
    refine lv_icmp_ne (tgt := 86) hx hb d_Rd_readMember_70 (by decide) (fun hc => ?_) (fun hc => ?_)
    · replace h := h.1 hc
      exact j2 x1 x2 x3 σ1 _ _ _ (lv_sub hl [0, 1, 2, 3] rfl) hst h
    · replace h := h.2 hc
      refine lv_aload_n hx hb d_Rd_readMember_73 rfl (lv_at hl 0 rfl) ?_
      refine lv_dup hx hb d_Rd_readMember_74 rfl ?_
      refine va_get (D := D) (ci := 2) (C := R_Rd) (T := T_Rd) (N := 5) hx hb hts in_Rd hown hK hst.1 12 (WS_o12 g σ1) rfl 4 (by decide) (hts _ gw214) (fun _ h9 => h9) rfl d_Rd_readMember_75 ?_
      refine lv_iconst (v := (1 : Int32)) hx hb d_Rd_readMember_78 (by decide) ?_
      refine lv_iadd hx hb d_Rd_readMember_79 ?_
      refine kw_put (D := D) (ci := 2) (ty := .int) (C := R_Rd) (T := T_Rd) (N := 5) hx hb hts in_Rd ty_Rd ty_Rd_ok nm_Rd hown hK hst 12 (WS_o12 g σ1) rfl 4 (by decide) (hts _ gw214) (fun _ h9 => h9) rfl (by decide +kernel) rfl rfl (Nat.le_of_ble_eq_true rfl) (WS_p12_4 g σ1 _) d_Rd_readMember_80 (fun σ2 H locs e2 hst => ?_)
      replace h := h σ2 e2
      refine lv_goto (tgt := 99) hx hb d_Rd_readMember_83 (by decide) ?_
      exact j3 x1 x2 x3 σ2 _ _ _ (lv_sub hl [0, 1, 2, 3] rfl) hst h
set_option maxRecDepth 100000 in
set_option maxHeartbeats 4000000 in
theorem b_Rd_readMember_0_2 {p : Program} {l : Launch} {e : Env} {s : State} {m : MethodId} {args : Array Value} {below : List Frame} {meth : Method} {c : Code} {D : va_G} {g : Gm} {A : Nat → Prop} {post : Sg → Prop} {F : Nat → Int32 → Int32 → Int32 → Sg → Prop} (C : kC p s m args meth c k_Rd_readMember 4 (none) GW R_Rd D vwCl g (Zk g) A) {V : Nat → Int32 → Int32 → Int32 → Sg → (Sg → Prop) → Prop} {d : Nat} (hV : ∀ (sz : Nat) (x1 : Int32) (x2 : Int32) (x3 : Int32) (σ : Sg) (post : Sg → Prop), V 0 x1 x2 x3 σ post → Met l y_Rd_readValue (.code y_Rd_readValue k_Rd_readValue 6 (none) :: GW) { frames := (4 + 3 * d), cells := 0, slots := 0, locals := (100 + 76 * d) } (PcW D vwCl (WS g) g (Zk g) σ sz [.ref (g.1 12), .int x1, .int x2, .int x3]) (QvW D vwCl (WS g) post (va_A (WS g σ) sz)) 0 0 (va_A (WS g σ) sz)) (j3 : J_Rd_readMember_0_3 p l e s m args below meth c D g A d post F) (x1 : Int32) (x2 : Int32) (x3 : Int32) (σ : Sg) (H : Heap) (locs : List Loc) (ls : Array Slot) (hl : lv_has ls 4 [(0, .ref (g.1 12)), (1, .int x1), (2, .int x2), (3, .int x3)]) (hst : Wst D vwCl (WS g) A s σ H locs) (h : wb_Rd_readMember_2 V 0 F post x1 x2 x3 σ) : W p l e { frames := (5 + 3 * d), cells := 0, slots := 0, locals := (125 + 76 * d) } s m args below meth c H locs 0 0 (MQ below (QvW D vwCl (WS g) post A) args s 0 0 A) (F0 m 86 ls []) := by
  obtain ⟨hx, hb, hr, hml, hown, hts, hlocks, hK, hZ, hA⟩ := C
  unfold wb_Rd_readMember_2 at h
  refine lv_aload_n hx hb d_Rd_readMember_86 rfl (lv_at hl 0 rfl) ?_
  refine va_get (D := D) (ci := 2) (C := R_Rd) (T := T_Rd) (N := 5) hx hb hts in_Rd hown hK hst.1 12 (WS_o12 g σ) rfl 0 (by decide) (hts _ gw208) (fun _ h9 => h9) rfl d_Rd_readMember_87 ?_
  refine lv_bipush (v := (11 : Int32)) hx hb d_Rd_readMember_90 (by decide) ?_
  refine lv_aload_n hx hb d_Rd_readMember_92 rfl (lv_at hl 0 rfl) ?_
  refine va_get (D := D) (ci := 2) (C := R_Rd) (T := T_Rd) (N := 5) hx hb hts in_Rd hown hK hst.1 12 (WS_o12 g σ) rfl 4 (by decide) (hts _ gw214) (fun _ h9 => h9) rfl d_Rd_readMember_93 ?_
  refine kw_callv (va_runV (As := [.int (11 : Int32), .int (σ.1 12 4)]) (rest := []) (b := g.1 0) ⟨hx, hb, hml, hown, hts⟩ (c_Tr_blame_0 l (11 : Int32) (σ.1 12 4) h) (cwV 2 hts (gd_v gw638 gw639 gw640 gw7 gw641) rfl rfl rfl (by decide +kernel) ⟨show 0 + 1 ≤ (5 + 3 * d) by omega, show 8 + (3 + 11) + 0 ≤ (125 + 76 * d) by omega⟩) ⟨kw_blind (Zk_ok g), va_recv hK hst.1 rfl (WS_o0 g σ), kw_pre (Zk_ok g) hK hZ hA hst⟩ rfl rfl hl.1 rfl (lv_room (Nat.le_of_ble_eq_true rfl)) d_Rd_readMember_96 ⟨Nat.le_of_ble_eq_true rfl, Nat.le_of_ble_eq_true rfl⟩) hst hA (fun σ1 H locs h hst => ?_)
  exact j3 x1 x2 x3 σ1 _ _ _ (lv_sub hl [0, 1, 2, 3] rfl) hst h
set_option maxRecDepth 100000 in
set_option maxHeartbeats 4000000 in
theorem b_Rd_readMember_0_3 {p : Program} {l : Launch} {e : Env} {s : State} {m : MethodId} {args : Array Value} {below : List Frame} {meth : Method} {c : Code} {D : va_G} {g : Gm} {A : Nat → Prop} {post : Sg → Prop} {F : Nat → Int32 → Int32 → Int32 → Sg → Prop} (C : kC p s m args meth c k_Rd_readMember 4 (none) GW R_Rd D vwCl g (Zk g) A) {V : Nat → Int32 → Int32 → Int32 → Sg → (Sg → Prop) → Prop} {d : Nat} (hV : ∀ (sz : Nat) (x1 : Int32) (x2 : Int32) (x3 : Int32) (σ : Sg) (post : Sg → Prop), V 0 x1 x2 x3 σ post → Met l y_Rd_readValue (.code y_Rd_readValue k_Rd_readValue 6 (none) :: GW) { frames := (4 + 3 * d), cells := 0, slots := 0, locals := (100 + 76 * d) } (PcW D vwCl (WS g) g (Zk g) σ sz [.ref (g.1 12), .int x1, .int x2, .int x3]) (QvW D vwCl (WS g) post (va_A (WS g σ) sz)) 0 0 (va_A (WS g σ) sz)) (x1 : Int32) (x2 : Int32) (x3 : Int32) (σ : Sg) (H : Heap) (locs : List Loc) (ls : Array Slot) (hl : lv_has ls 4 [(0, .ref (g.1 12)), (1, .int x1), (2, .int x2), (3, .int x3)]) (hst : Wst D vwCl (WS g) A s σ H locs) (h : wb_Rd_readMember_3 V 0 F post x1 x2 x3 σ) : W p l e { frames := (5 + 3 * d), cells := 0, slots := 0, locals := (125 + 76 * d) } s m args below meth c H locs 0 0 (MQ below (QvW D vwCl (WS g) post A) args s 0 0 A) (F0 m 99 ls []) := by
  obtain ⟨hx, hb, hr, hml, hown, hts, hlocks, hK, hZ, hA⟩ := C
  unfold wb_Rd_readMember_3 at h
  refine lv_aload_n hx hb d_Rd_readMember_99 rfl (lv_at hl 0 rfl) ?_
  refine kw_callv (va_runV (As := []) (rest := []) (b := g.1 12) ⟨hx, hb, hml, hown, hts⟩ (c_Rd_passBlanks_0 l h) (cwV 0 hts (gd_v gw617 gw619 gs4 gw9 gw620) rfl rfl rfl (by decide +kernel) ⟨show 0 + 1 ≤ (5 + 3 * d) by omega, show 8 + (1 + 11) + 0 ≤ (125 + 76 * d) by omega⟩) ⟨kw_blind (Zk_ok g), va_recv hK hst.1 rfl (WS_o12 g σ), kw_pre (Zk_ok g) hK hZ hA hst⟩ rfl rfl hl.1 rfl (lv_room (Nat.le_of_ble_eq_true rfl)) d_Rd_readMember_100 ⟨Nat.le_of_ble_eq_true rfl, Nat.le_of_ble_eq_true rfl⟩) hst hA (fun σ1 H locs h hst => ?_)
  refine lv_aload_n hx hb d_Rd_readMember_103 rfl (lv_at hl 0 rfl) ?_
  refine lv_iload_n hx hb d_Rd_readMember_104 rfl (lv_at hl 2 rfl) ?_
  refine kw_calli (va_runV (As := [.int x2]) (rest := []) (b := g.1 12) ⟨hx, hb, hml, hown, hts⟩ (c_Rd_valueBegins_0 l x2 h) (cwV 1 hts (gd_v gw621 gw623 gs5 gw9 gw624) rfl rfl rfl (by decide +kernel) ⟨show 1 + 1 ≤ (5 + 3 * d) by omega, show 8 + (3 + 11) + 20 ≤ (125 + 76 * d) by omega⟩) ⟨kw_blind (Zk_ok g), va_recv hK hst.1 rfl (WS_o12 g σ1), kw_pre (Zk_ok g) hK hZ hA hst⟩ rfl rfl hl.1 rfl (lv_room (Nat.le_of_ble_eq_true rfl)) d_Rd_readMember_105 ⟨Nat.le_of_ble_eq_true rfl, Nat.le_of_ble_eq_true rfl⟩) hst hA (fun r2 σ2 H locs h hst => ?_)
  refine lv_if_eq (tgt := 121) hx hb d_Rd_readMember_108 (by decide) (fun hc => ?_) (fun hc => ?_)
  · replace h := h.1 hc
    refine lv_aload_n hx hb d_Rd_readMember_121 rfl (lv_at hl 0 rfl) ?_
    refine va_get (D := D) (ci := 2) (C := R_Rd) (T := T_Rd) (N := 5) hx hb hts in_Rd hown hK hst.1 12 (WS_o12 g σ2) rfl 0 (by decide) (hts _ gw208) (fun _ h9 => h9) rfl d_Rd_readMember_122 ?_
    refine lv_bipush (v := (12 : Int32)) hx hb d_Rd_readMember_125 (by decide) ?_
    refine lv_aload_n hx hb d_Rd_readMember_127 rfl (lv_at hl 0 rfl) ?_
    refine va_get (D := D) (ci := 2) (C := R_Rd) (T := T_Rd) (N := 5) hx hb hts in_Rd hown hK hst.1 12 (WS_o12 g σ2) rfl 4 (by decide) (hts _ gw214) (fun _ h9 => h9) rfl d_Rd_readMember_128 ?_
    refine kw_callv (va_runV (As := [.int (12 : Int32), .int (σ2.1 12 4)]) (rest := []) (b := g.1 0) ⟨hx, hb, hml, hown, hts⟩ (c_Tr_blame_0 l (12 : Int32) (σ2.1 12 4) h) (cwV 2 hts (gd_v gw638 gw639 gw640 gw7 gw641) rfl rfl rfl (by decide +kernel) ⟨show 0 + 1 ≤ (5 + 3 * d) by omega, show 8 + (3 + 11) + 0 ≤ (125 + 76 * d) by omega⟩) ⟨kw_blind (Zk_ok g), va_recv hK hst.1 rfl (WS_o0 g σ2), kw_pre (Zk_ok g) hK hZ hA hst⟩ rfl rfl hl.1 rfl (lv_room (Nat.le_of_ble_eq_true rfl)) d_Rd_readMember_131 ⟨Nat.le_of_ble_eq_true rfl, Nat.le_of_ble_eq_true rfl⟩) hst hA (fun σ3 H locs h hst => ?_)
    exact kw_vret hx hb hr hlocks hst h d_Rd_readMember_134
  · replace h := h.2 hc
    refine lv_aload_n hx hb d_Rd_readMember_111 rfl (lv_at hl 0 rfl) ?_
    refine lv_iload_n hx hb d_Rd_readMember_112 rfl (lv_at hl 1 rfl) ?_
    refine lv_iload_n hx hb d_Rd_readMember_113 rfl (lv_at hl 3 rfl) ?_
    refine lv_iload_n hx hb d_Rd_readMember_114 rfl (lv_at hl 2 rfl) ?_
    refine kw_callv (va_runV (As := [.int x1, .int x3, .int x2]) (rest := []) (b := g.1 12) ⟨hx, hb, hml, hown, hts⟩ (hV _ x1 x3 x2 _ _ h) (cwV 3 hts (gd_v gw642 gw644 gs7 gw9 gw645) rfl rfl rfl (by decide +kernel) ⟨show (4 + 3 * d) + 1 ≤ (5 + 3 * d) by omega, show 8 + (6 + 11) + (100 + 76 * d) ≤ (125 + 76 * d) by omega⟩) ⟨kw_blind (Zk_ok g), va_recv hK hst.1 rfl (WS_o12 g σ2), kw_pre (Zk_ok g) hK hZ hA hst⟩ rfl rfl hl.1 rfl (lv_room (Nat.le_of_ble_eq_true rfl)) d_Rd_readMember_115 ⟨Nat.le_of_ble_eq_true rfl, Nat.le_of_ble_eq_true rfl⟩) hst hA (fun σ3 H locs h hst => ?_)
    refine lv_goto (tgt := 134) hx hb d_Rd_readMember_118 (by decide) ?_
    exact kw_vret hx hb hr hlocks hst h d_Rd_readMember_134
set_option maxRecDepth 100000 in
set_option maxHeartbeats 4000000 in
theorem a_Rd_readMember_0 {p : Program} {l : Launch} {e : Env} {s : State} {m : MethodId} {args : Array Value} {below : List Frame} {meth : Method} {c : Code} {D : va_G} {g : Gm} {A : Nat → Prop} {post : Sg → Prop} (C : kC p s m args meth c k_Rd_readMember 4 (none) GW R_Rd D vwCl g (Zk g) A) {V : Nat → Int32 → Int32 → Int32 → Sg → (Sg → Prop) → Prop} {d : Nat} (hV : ∀ (sz : Nat) (x1 : Int32) (x2 : Int32) (x3 : Int32) (σ : Sg) (post : Sg → Prop), V 0 x1 x2 x3 σ post → Met l y_Rd_readValue (.code y_Rd_readValue k_Rd_readValue 6 (none) :: GW) { frames := (4 + 3 * d), cells := 0, slots := 0, locals := (100 + 76 * d) } (PcW D vwCl (WS g) g (Zk g) σ sz [.ref (g.1 12), .int x1, .int x2, .int x3]) (QvW D vwCl (WS g) post (va_A (WS g σ) sz)) 0 0 (va_A (WS g σ) sz)) : ∀ n : Nat, J_Rd_readMember_0_1 p l e s m args below meth c D g A d post (wp_Rd_readMember V 0 post n) ∧ J_Rd_readMember_0_2 p l e s m args below meth c D g A d post (wp_Rd_readMember V 0 post n) ∧ J_Rd_readMember_0_3 p l e s m args below meth c D g A d post (wp_Rd_readMember V 0 post n) := by
  intro n
  induction n with
  | zero => exact ⟨fun _ _ _ _ _ _ _ _ _ h => h.elim, fun _ _ _ _ _ _ _ _ _ h => h.elim, fun _ _ _ _ _ _ _ _ _ h => h.elim⟩
  | succ n ih => exact ⟨fun x1 x2 x3 σ H locs ls hl hst h => b_Rd_readMember_0_1 (F := wp_Rd_readMember V 0 post n) C hV (ih.2.1) (ih.2.2) x1 x2 x3 σ H locs ls hl hst h, fun x1 x2 x3 σ H locs ls hl hst h => b_Rd_readMember_0_2 (F := wp_Rd_readMember V 0 post n) C hV (ih.2.2) x1 x2 x3 σ H locs ls hl hst h, fun x1 x2 x3 σ H locs ls hl hst h => b_Rd_readMember_0_3 (F := wp_Rd_readMember V 0 post n) C hV x1 x2 x3 σ H locs ls hl hst h⟩
set_option maxRecDepth 100000 in
set_option maxHeartbeats 4000000 in
theorem c_Rd_readMember_0 (l : Launch) {D : va_G} {g : Gm} (V : Nat → Int32 → Int32 → Int32 → Sg → (Sg → Prop) → Prop) (d : Nat) (hV : ∀ (sz : Nat) (x1 : Int32) (x2 : Int32) (x3 : Int32) (σ : Sg) (post : Sg → Prop), V 0 x1 x2 x3 σ post → Met l y_Rd_readValue (.code y_Rd_readValue k_Rd_readValue 6 (none) :: GW) { frames := (4 + 3 * d), cells := 0, slots := 0, locals := (100 + 76 * d) } (PcW D vwCl (WS g) g (Zk g) σ sz [.ref (g.1 12), .int x1, .int x2, .int x3]) (QvW D vwCl (WS g) post (va_A (WS g σ) sz)) 0 0 (va_A (WS g σ) sz)) {sz : Nat} (x1 : Int32) (x2 : Int32) {σ : Sg} {post : Sg → Prop} (h : wq_Rd_readMember V 0 x1 x2 σ post) : Met l y_Rd_readMember (.code y_Rd_readMember k_Rd_readMember 4 (none) :: GW) { frames := (5 + 3 * d), cells := 0, slots := 0, locals := (125 + 76 * d) } (PcW D vwCl (WS g) g (Zk g) σ sz [.ref (g.1 12), .int x1, .int x2]) (QvW D vwCl (WS g) post (va_A (WS g σ) sz)) 0 0 (va_A (WS g σ) sz) := by
  refine kw_entry (own := R_Rd) (by decide) rfl rfl (Nat.le_of_ble_eq_true rfl) ?_
  intro p e s m below meth c ls hsz C hin hl hst
  obtain ⟨n, h⟩ := h
  cases n with
  | zero => exact h.elim
  | succ n =>
    have ih := a_Rd_readMember_0 (l := l) (e := e) (below := below) (post := post) C hV n
    exact b_Rd_readMember_0_0 (F := wp_Rd_readMember V 0 post n) C hV (ih.1) x1 x2 σ _ _ ls hl hst h
def J_Rd_readMember_13_1 (p : Program) (l : Launch) (e : Env) (s : State) (m : MethodId) (args : Array Value) (below : List Frame) (meth : Method) (c : Code) (D : va_G) (g : Gm) (A : Nat → Prop) (d : Nat) (post : Sg → Prop) (F : Nat → Int32 → Int32 → Int32 → Sg → Prop) : Prop := ∀ (x1 : Int32) (x2 : Int32) (x3 : Int32) (σ : Sg) (H : Heap) (locs : List Loc) (ls : Array Slot), lv_has ls 4 [(0, .ref (g.1 25)), (1, .int x1), (2, .int x2), (3, .int x3)] → Wst D vwCl (WS g) A s σ H locs → F 1 x1 x2 x3 σ → W p l e { frames := (5 + 3 * d), cells := 0, slots := 0, locals := (125 + 76 * d) } s m args below meth c H locs 0 0 (MQ below (QvW D vwCl (WS g) post A) args s 0 0 A) (F0 m 38 ls [])
def J_Rd_readMember_13_2 (p : Program) (l : Launch) (e : Env) (s : State) (m : MethodId) (args : Array Value) (below : List Frame) (meth : Method) (c : Code) (D : va_G) (g : Gm) (A : Nat → Prop) (d : Nat) (post : Sg → Prop) (F : Nat → Int32 → Int32 → Int32 → Sg → Prop) : Prop := ∀ (x1 : Int32) (x2 : Int32) (x3 : Int32) (σ : Sg) (H : Heap) (locs : List Loc) (ls : Array Slot), lv_has ls 4 [(0, .ref (g.1 25)), (1, .int x1), (2, .int x2), (3, .int x3)] → Wst D vwCl (WS g) A s σ H locs → F 2 x1 x2 x3 σ → W p l e { frames := (5 + 3 * d), cells := 0, slots := 0, locals := (125 + 76 * d) } s m args below meth c H locs 0 0 (MQ below (QvW D vwCl (WS g) post A) args s 0 0 A) (F0 m 86 ls [])
def J_Rd_readMember_13_3 (p : Program) (l : Launch) (e : Env) (s : State) (m : MethodId) (args : Array Value) (below : List Frame) (meth : Method) (c : Code) (D : va_G) (g : Gm) (A : Nat → Prop) (d : Nat) (post : Sg → Prop) (F : Nat → Int32 → Int32 → Int32 → Sg → Prop) : Prop := ∀ (x1 : Int32) (x2 : Int32) (x3 : Int32) (σ : Sg) (H : Heap) (locs : List Loc) (ls : Array Slot), lv_has ls 4 [(0, .ref (g.1 25)), (1, .int x1), (2, .int x2), (3, .int x3)] → Wst D vwCl (WS g) A s σ H locs → F 3 x1 x2 x3 σ → W p l e { frames := (5 + 3 * d), cells := 0, slots := 0, locals := (125 + 76 * d) } s m args below meth c H locs 0 0 (MQ below (QvW D vwCl (WS g) post A) args s 0 0 A) (F0 m 99 ls [])
set_option maxRecDepth 100000 in
set_option maxHeartbeats 4000000 in
theorem b_Rd_readMember_13_0 {p : Program} {l : Launch} {e : Env} {s : State} {m : MethodId} {args : Array Value} {below : List Frame} {meth : Method} {c : Code} {D : va_G} {g : Gm} {A : Nat → Prop} {post : Sg → Prop} {F : Nat → Int32 → Int32 → Int32 → Sg → Prop} (C : kC p s m args meth c k_Rd_readMember 4 (none) GW R_Rd D vwCl g (Zk g) A) {V : Nat → Int32 → Int32 → Int32 → Sg → (Sg → Prop) → Prop} {d : Nat} (hV : ∀ (sz : Nat) (x1 : Int32) (x2 : Int32) (x3 : Int32) (σ : Sg) (post : Sg → Prop), V 13 x1 x2 x3 σ post → Met l y_Rd_readValue (.code y_Rd_readValue k_Rd_readValue 6 (none) :: GW) { frames := (4 + 3 * d), cells := 0, slots := 0, locals := (100 + 76 * d) } (PcW D vwCl (WS g) g (Zk g) σ sz [.ref (g.1 25), .int x1, .int x2, .int x3]) (QvW D vwCl (WS g) post (va_A (WS g σ) sz)) 0 0 (va_A (WS g σ) sz)) (j1 : J_Rd_readMember_13_1 p l e s m args below meth c D g A d post F) (x1 : Int32) (x2 : Int32) (σ : Sg) (H : Heap) (locs : List Loc) (ls : Array Slot) (hl : lv_has ls 4 [(0, .ref (g.1 25)), (1, .int x1), (2, .int x2)]) (hst : Wst D vwCl (WS g) A s σ H locs) (h : wb_Rd_readMember_0 V 13 F post x1 x2 σ) : W p l e { frames := (5 + 3 * d), cells := 0, slots := 0, locals := (125 + 76 * d) } s m args below meth c H locs 0 0 (MQ below (QvW D vwCl (WS g) post A) args s 0 0 A) (F0 m 0 ls []) := by
  obtain ⟨hx, hb, hr, hml, hown, hts, hlocks, hK, hZ, hA⟩ := C
  unfold wb_Rd_readMember_0 at h
  refine lv_aload_n hx hb d_Rd_readMember_0 rfl (lv_at hl 0 rfl) ?_
  refine va_get (D := D) (ci := 2) (C := R_Rd) (T := T_Rd) (N := 5) hx hb hts in_Rd hown hK hst.1 25 (WS_o25 g σ) rfl 4 (by decide) (hts _ gw214) (fun _ h9 => h9) rfl d_Rd_readMember_1 ?_
  refine lv_istore_n hx hb d_Rd_readMember_4 rfl hl (by decide) rfl (fun ls hl => ?_)
  have hl : lv_has ls 4 [(3, .int (σ.1 25 4)), (0, .ref (g.1 25)), (1, .int x1), (2, .int x2)] := hl
  refine lv_aload_n hx hb d_Rd_readMember_5 rfl (lv_at hl 1 rfl) ?_
  refine kw_callv (va_runV (As := []) (rest := []) (b := g.1 25) ⟨hx, hb, hml, hown, hts⟩ (c_Rd_passQuoted_13 l h) (cwV 0 hts (gd_v gw661 gw663 gs10 gw9 gw664) rfl rfl rfl (by decide +kernel) ⟨show 1 + 1 ≤ (5 + 3 * d) by omega, show 8 + (2 + 11) + 22 ≤ (125 + 76 * d) by omega⟩) ⟨kw_blind (Zk_ok g), va_recv hK hst.1 rfl (WS_o25 g σ), kw_pre (Zk_ok g) hK hZ hA hst⟩ rfl rfl hl.1 rfl (lv_room (Nat.le_of_ble_eq_true rfl)) d_Rd_readMember_6 ⟨Nat.le_of_ble_eq_true rfl, Nat.le_of_ble_eq_true rfl⟩) hst hA (fun σ1 H locs h hst => ?_)
  refine lv_aload_n hx hb d_Rd_readMember_9 rfl (lv_at hl 1 rfl) ?_
  refine va_get (D := D) (ci := 2) (C := R_Rd) (T := T_Rd) (N := 5) hx hb hts in_Rd hown hK hst.1 25 (WS_o25 g σ1) rfl 0 (by decide) (hts _ gw208) (fun _ h9 => h9) rfl d_Rd_readMember_10 ?_
  refine lv_iload_n hx hb d_Rd_readMember_13 rfl (lv_at hl 2 rfl) ?_
  refine lv_aload_n hx hb d_Rd_readMember_14 rfl (lv_at hl 1 rfl) ?_
  refine va_get (D := D) (ci := 2) (C := R_Rd) (T := T_Rd) (N := 5) hx hb hts in_Rd hown hK hst.1 25 (WS_o25 g σ1) rfl 2 (by decide) (hts _ gw212) (fun _ h9 => h9) rfl d_Rd_readMember_15 ?_
  refine lv_iload_n hx hb d_Rd_readMember_18 rfl (lv_at hl 0 rfl) ?_
  refine lv_iconst (v := (1 : Int32)) hx hb d_Rd_readMember_19 (by decide) ?_
  refine lv_iadd hx hb d_Rd_readMember_20 ?_
  refine kw_calli (va_runV (As := [.int x1, .ref (g.1 23), .int ((σ.1 25 4) + (1 : Int32))]) (rest := []) (b := g.1 13) ⟨hx, hb, hml, hown, hts⟩ (c_Tr_childNamed_13_13 l x1 ((σ.1 25 4) + (1 : Int32)) h) (cwV 3 hts (gd_v gw669 gw670 gw671 gw7 gw672) rfl rfl rfl (by decide +kernel) ⟨show 1 + 1 ≤ (5 + 3 * d) by omega, show 8 + (6 + 11) + 26 ≤ (125 + 76 * d) by omega⟩) ⟨kw_blind (Zk_ok g), va_recv hK hst.1 rfl (WS_o13 g σ1), kw_pre (Zk_ok g) hK hZ hA hst⟩ rfl rfl hl.1 rfl (lv_room (Nat.le_of_ble_eq_true rfl)) d_Rd_readMember_21 ⟨Nat.le_of_ble_eq_true rfl, Nat.le_of_ble_eq_true rfl⟩) hst hA (fun r2 σ2 H locs h hst => ?_)
  refine lv_iconst (v := (-1 : Int32)) hx hb d_Rd_readMember_24 (by decide) ?_
  refine lv_icmp_eq (tgt := 38) hx hb d_Rd_readMember_25 (by decide) (fun hc => ?_) (fun hc => ?_)
  · replace h := h.1 hc
    exact j1 x1 x2 (σ.1 25 4) σ2 _ _ _ (lv_sub hl [1, 2, 3, 0] rfl) hst h
  · replace h := h.2 hc
    refine lv_aload_n hx hb d_Rd_readMember_28 rfl (lv_at hl 1 rfl) ?_
    refine va_get (D := D) (ci := 2) (C := R_Rd) (T := T_Rd) (N := 5) hx hb hts in_Rd hown hK hst.1 25 (WS_o25 g σ2) rfl 0 (by decide) (hts _ gw208) (fun _ h9 => h9) rfl d_Rd_readMember_29 ?_
    refine lv_bipush (v := (13 : Int32)) hx hb d_Rd_readMember_32 (by decide) ?_
    refine lv_iload_n hx hb d_Rd_readMember_34 rfl (lv_at hl 0 rfl) ?_
    refine kw_callv (va_runV (As := [.int (13 : Int32), .int (σ.1 25 4)]) (rest := []) (b := g.1 13) ⟨hx, hb, hml, hown, hts⟩ (c_Tr_blame_13 l (13 : Int32) (σ.1 25 4) h) (cwV 2 hts (gd_v gw638 gw639 gw640 gw7 gw641) rfl rfl rfl (by decide +kernel) ⟨show 0 + 1 ≤ (5 + 3 * d) by omega, show 8 + (3 + 11) + 0 ≤ (125 + 76 * d) by omega⟩) ⟨kw_blind (Zk_ok g), va_recv hK hst.1 rfl (WS_o13 g σ2), kw_pre (Zk_ok g) hK hZ hA hst⟩ rfl rfl hl.1 rfl (lv_room (Nat.le_of_ble_eq_true rfl)) d_Rd_readMember_35 ⟨Nat.le_of_ble_eq_true rfl, Nat.le_of_ble_eq_true rfl⟩) hst hA (fun σ3 H locs h hst => ?_)
    exact j1 x1 x2 (σ.1 25 4) σ3 _ _ _ (lv_sub hl [1, 2, 3, 0] rfl) hst h
set_option maxRecDepth 100000 in
set_option maxHeartbeats 4000000 in
theorem b_Rd_readMember_13_1 {p : Program} {l : Launch} {e : Env} {s : State} {m : MethodId} {args : Array Value} {below : List Frame} {meth : Method} {c : Code} {D : va_G} {g : Gm} {A : Nat → Prop} {post : Sg → Prop} {F : Nat → Int32 → Int32 → Int32 → Sg → Prop} (C : kC p s m args meth c k_Rd_readMember 4 (none) GW R_Rd D vwCl g (Zk g) A) {V : Nat → Int32 → Int32 → Int32 → Sg → (Sg → Prop) → Prop} {d : Nat} (hV : ∀ (sz : Nat) (x1 : Int32) (x2 : Int32) (x3 : Int32) (σ : Sg) (post : Sg → Prop), V 13 x1 x2 x3 σ post → Met l y_Rd_readValue (.code y_Rd_readValue k_Rd_readValue 6 (none) :: GW) { frames := (4 + 3 * d), cells := 0, slots := 0, locals := (100 + 76 * d) } (PcW D vwCl (WS g) g (Zk g) σ sz [.ref (g.1 25), .int x1, .int x2, .int x3]) (QvW D vwCl (WS g) post (va_A (WS g σ) sz)) 0 0 (va_A (WS g σ) sz)) (j2 : J_Rd_readMember_13_2 p l e s m args below meth c D g A d post F) (j3 : J_Rd_readMember_13_3 p l e s m args below meth c D g A d post F) (x1 : Int32) (x2 : Int32) (x3 : Int32) (σ : Sg) (H : Heap) (locs : List Loc) (ls : Array Slot) (hl : lv_has ls 4 [(0, .ref (g.1 25)), (1, .int x1), (2, .int x2), (3, .int x3)]) (hst : Wst D vwCl (WS g) A s σ H locs) (h : wb_Rd_readMember_1 V 13 F post x1 x2 x3 σ) : W p l e { frames := (5 + 3 * d), cells := 0, slots := 0, locals := (125 + 76 * d) } s m args below meth c H locs 0 0 (MQ below (QvW D vwCl (WS g) post A) args s 0 0 A) (F0 m 38 ls []) := by
  obtain ⟨hx, hb, hr, hml, hown, hts, hlocks, hK, hZ, hA⟩ := C
  unfold wb_Rd_readMember_1 at h
  refine lv_aload_n hx hb d_Rd_readMember_38 rfl (lv_at hl 0 rfl) ?_
  refine kw_callv (va_runV (As := []) (rest := []) (b := g.1 25) ⟨hx, hb, hml, hown, hts⟩ (c_Rd_passBlanks_13 l h) (cwV 0 hts (gd_v gw617 gw619 gs4 gw9 gw620) rfl rfl rfl (by decide +kernel) ⟨show 0 + 1 ≤ (5 + 3 * d) by omega, show 8 + (1 + 11) + 0 ≤ (125 + 76 * d) by omega⟩) ⟨kw_blind (Zk_ok g), va_recv hK hst.1 rfl (WS_o25 g σ), kw_pre (Zk_ok g) hK hZ hA hst⟩ rfl rfl hl.1 rfl (lv_room (Nat.le_of_ble_eq_true rfl)) d_Rd_readMember_39 ⟨Nat.le_of_ble_eq_true rfl, Nat.le_of_ble_eq_true rfl⟩) hst hA (fun σ1 H locs h hst => ?_)
  refine lv_aload_n hx hb d_Rd_readMember_42 rfl (lv_at hl 0 rfl) ?_
  refine va_get (D := D) (ci := 2) (C := R_Rd) (T := T_Rd) (N := 5) hx hb hts in_Rd hown hK hst.1 25 (WS_o25 g σ1) rfl 4 (by decide) (hts _ gw214) (fun _ h9 => h9) rfl d_Rd_readMember_43 ?_
  refine lv_aload_n hx hb d_Rd_readMember_46 rfl (lv_at hl 0 rfl) ?_
  refine va_get (D := D) (ci := 2) (C := R_Rd) (T := T_Rd) (N := 5) hx hb hts in_Rd hown hK hst.1 25 (WS_o25 g σ1) rfl 2 (by decide) (hts _ gw212) (fun _ h9 => h9) rfl d_Rd_readMember_47 ?_
  refine va_get (D := D) (ci := 1) (C := R_Tx) (T := T_Tx) (N := 2) hx hb hts in_Tx hown hK hst.1 23 (WS_o23 g σ1) rfl 1 (by decide) (hts _ gw114) (fun _ h9 => h9) rfl d_Rd_readMember_50 ?_
  refine lv_icmp_ge (tgt := 86) hx hb d_Rd_readMember_53 (by decide) (fun hc => ?_) (fun hc => ?_)
  · replace h := h.1 hc
    exact j2 x1 x2 x3 σ1 _ _ _ (lv_sub hl [0, 1, 2, 3] rfl) hst h
  · replace h := h.2 hc
    refine lv_aload_n hx hb d_Rd_readMember_56 rfl (lv_at hl 0 rfl) ?_
    refine va_get (D := D) (ci := 2) (C := R_Rd) (T := T_Rd) (N := 5) hx hb hts in_Rd hown hK hst.1 25 (WS_o25 g σ1) rfl 2 (by decide) (hts _ gw212) (fun _ h9 => h9) rfl d_Rd_readMember_57 ?_
    refine va_get (D := D) (ci := 1) (C := R_Tx) (T := T_Tx) (N := 2) hx hb hts in_Tx hown hK hst.1 23 (WS_o23 g σ1) rfl 0 (by decide) (hts _ gw107) (fun _ h9 => h9) rfl d_Rd_readMember_60 ?_
    refine lv_aload_n hx hb d_Rd_readMember_63 rfl (lv_at hl 0 rfl) ?_
    refine va_get (D := D) (ci := 2) (C := R_Rd) (T := T_Rd) (N := 5) hx hb hts in_Rd hown hK hst.1 25 (WS_o25 g σ1) rfl 4 (by decide) (hts _ gw214) (fun _ h9 => h9) rfl d_Rd_readMember_64 ?_
    obtain ⟨hi, h⟩ := h
    refine va_cald hx hb hK hst.1 24 1 (WS_a24 g σ1) rfl hi d_Rd_readMember_67 ?_
    refine lv_bipush (v := (58 : Int32)) hx hb d_Rd_readMember_68 (by decide) ?_
    refine lv_icmp_ne (tgt := 86) hx hb d_Rd_readMember_70 (by decide) (fun hc => ?_) (fun hc => ?_)
    · replace h := h.1 hc
      exact j2 x1 x2 x3 σ1 _ _ _ (lv_sub hl [0, 1, 2, 3] rfl) hst h
    · replace h := h.2 hc
      refine lv_aload_n hx hb d_Rd_readMember_73 rfl (lv_at hl 0 rfl) ?_
      refine lv_dup hx hb d_Rd_readMember_74 rfl ?_
      refine va_get (D := D) (ci := 2) (C := R_Rd) (T := T_Rd) (N := 5) hx hb hts in_Rd hown hK hst.1 25 (WS_o25 g σ1) rfl 4 (by decide) (hts _ gw214) (fun _ h9 => h9) rfl d_Rd_readMember_75 ?_
      refine lv_iconst (v := (1 : Int32)) hx hb d_Rd_readMember_78 (by decide) ?_
      refine lv_iadd hx hb d_Rd_readMember_79 ?_
      refine kw_put (D := D) (ci := 2) (ty := .int) (C := R_Rd) (T := T_Rd) (N := 5) hx hb hts in_Rd ty_Rd ty_Rd_ok nm_Rd hown hK hst 25 (WS_o25 g σ1) rfl 4 (by decide) (hts _ gw214) (fun _ h9 => h9) rfl (by decide +kernel) rfl rfl (Nat.le_of_ble_eq_true rfl) (WS_p25_4 g σ1 _) d_Rd_readMember_80 (fun σ2 H locs e2 hst => ?_)
      replace h := h σ2 e2
      refine lv_goto (tgt := 99) hx hb d_Rd_readMember_83 (by decide) ?_
      exact j3 x1 x2 x3 σ2 _ _ _ (lv_sub hl [0, 1, 2, 3] rfl) hst h
set_option maxRecDepth 100000 in
set_option maxHeartbeats 4000000 in
theorem b_Rd_readMember_13_2 {p : Program} {l : Launch} {e : Env} {s : State} {m : MethodId} {args : Array Value} {below : List Frame} {meth : Method} {c : Code} {D : va_G} {g : Gm} {A : Nat → Prop} {post : Sg → Prop} {F : Nat → Int32 → Int32 → Int32 → Sg → Prop} (C : kC p s m args meth c k_Rd_readMember 4 (none) GW R_Rd D vwCl g (Zk g) A) {V : Nat → Int32 → Int32 → Int32 → Sg → (Sg → Prop) → Prop} {d : Nat} (hV : ∀ (sz : Nat) (x1 : Int32) (x2 : Int32) (x3 : Int32) (σ : Sg) (post : Sg → Prop), V 13 x1 x2 x3 σ post → Met l y_Rd_readValue (.code y_Rd_readValue k_Rd_readValue 6 (none) :: GW) { frames := (4 + 3 * d), cells := 0, slots := 0, locals := (100 + 76 * d) } (PcW D vwCl (WS g) g (Zk g) σ sz [.ref (g.1 25), .int x1, .int x2, .int x3]) (QvW D vwCl (WS g) post (va_A (WS g σ) sz)) 0 0 (va_A (WS g σ) sz)) (j3 : J_Rd_readMember_13_3 p l e s m args below meth c D g A d post F) (x1 : Int32) (x2 : Int32) (x3 : Int32) (σ : Sg) (H : Heap) (locs : List Loc) (ls : Array Slot) (hl : lv_has ls 4 [(0, .ref (g.1 25)), (1, .int x1), (2, .int x2), (3, .int x3)]) (hst : Wst D vwCl (WS g) A s σ H locs) (h : wb_Rd_readMember_2 V 13 F post x1 x2 x3 σ) : W p l e { frames := (5 + 3 * d), cells := 0, slots := 0, locals := (125 + 76 * d) } s m args below meth c H locs 0 0 (MQ below (QvW D vwCl (WS g) post A) args s 0 0 A) (F0 m 86 ls []) := by
  obtain ⟨hx, hb, hr, hml, hown, hts, hlocks, hK, hZ, hA⟩ := C
  unfold wb_Rd_readMember_2 at h
  refine lv_aload_n hx hb d_Rd_readMember_86 rfl (lv_at hl 0 rfl) ?_
  refine va_get (D := D) (ci := 2) (C := R_Rd) (T := T_Rd) (N := 5) hx hb hts in_Rd hown hK hst.1 25 (WS_o25 g σ) rfl 0 (by decide) (hts _ gw208) (fun _ h9 => h9) rfl d_Rd_readMember_87 ?_
  refine lv_bipush (v := (11 : Int32)) hx hb d_Rd_readMember_90 (by decide) ?_
  refine lv_aload_n hx hb d_Rd_readMember_92 rfl (lv_at hl 0 rfl) ?_
  refine va_get (D := D) (ci := 2) (C := R_Rd) (T := T_Rd) (N := 5) hx hb hts in_Rd hown hK hst.1 25 (WS_o25 g σ) rfl 4 (by decide) (hts _ gw214) (fun _ h9 => h9) rfl d_Rd_readMember_93 ?_
  refine kw_callv (va_runV (As := [.int (11 : Int32), .int (σ.1 25 4)]) (rest := []) (b := g.1 13) ⟨hx, hb, hml, hown, hts⟩ (c_Tr_blame_13 l (11 : Int32) (σ.1 25 4) h) (cwV 2 hts (gd_v gw638 gw639 gw640 gw7 gw641) rfl rfl rfl (by decide +kernel) ⟨show 0 + 1 ≤ (5 + 3 * d) by omega, show 8 + (3 + 11) + 0 ≤ (125 + 76 * d) by omega⟩) ⟨kw_blind (Zk_ok g), va_recv hK hst.1 rfl (WS_o13 g σ), kw_pre (Zk_ok g) hK hZ hA hst⟩ rfl rfl hl.1 rfl (lv_room (Nat.le_of_ble_eq_true rfl)) d_Rd_readMember_96 ⟨Nat.le_of_ble_eq_true rfl, Nat.le_of_ble_eq_true rfl⟩) hst hA (fun σ1 H locs h hst => ?_)
  exact j3 x1 x2 x3 σ1 _ _ _ (lv_sub hl [0, 1, 2, 3] rfl) hst h
set_option maxRecDepth 100000 in
set_option maxHeartbeats 4000000 in
theorem b_Rd_readMember_13_3 {p : Program} {l : Launch} {e : Env} {s : State} {m : MethodId} {args : Array Value} {below : List Frame} {meth : Method} {c : Code} {D : va_G} {g : Gm} {A : Nat → Prop} {post : Sg → Prop} {F : Nat → Int32 → Int32 → Int32 → Sg → Prop} (C : kC p s m args meth c k_Rd_readMember 4 (none) GW R_Rd D vwCl g (Zk g) A) {V : Nat → Int32 → Int32 → Int32 → Sg → (Sg → Prop) → Prop} {d : Nat} (hV : ∀ (sz : Nat) (x1 : Int32) (x2 : Int32) (x3 : Int32) (σ : Sg) (post : Sg → Prop), V 13 x1 x2 x3 σ post → Met l y_Rd_readValue (.code y_Rd_readValue k_Rd_readValue 6 (none) :: GW) { frames := (4 + 3 * d), cells := 0, slots := 0, locals := (100 + 76 * d) } (PcW D vwCl (WS g) g (Zk g) σ sz [.ref (g.1 25), .int x1, .int x2, .int x3]) (QvW D vwCl (WS g) post (va_A (WS g σ) sz)) 0 0 (va_A (WS g σ) sz)) (x1 : Int32) (x2 : Int32) (x3 : Int32) (σ : Sg) (H : Heap) (locs : List Loc) (ls : Array Slot) (hl : lv_has ls 4 [(0, .ref (g.1 25)), (1, .int x1), (2, .int x2), (3, .int x3)]) (hst : Wst D vwCl (WS g) A s σ H locs) (h : wb_Rd_readMember_3 V 13 F post x1 x2 x3 σ) : W p l e { frames := (5 + 3 * d), cells := 0, slots := 0, locals := (125 + 76 * d) } s m args below meth c H locs 0 0 (MQ below (QvW D vwCl (WS g) post A) args s 0 0 A) (F0 m 99 ls []) := by
  obtain ⟨hx, hb, hr, hml, hown, hts, hlocks, hK, hZ, hA⟩ := C
  unfold wb_Rd_readMember_3 at h
  refine lv_aload_n hx hb d_Rd_readMember_99 rfl (lv_at hl 0 rfl) ?_
  refine kw_callv (va_runV (As := []) (rest := []) (b := g.1 25) ⟨hx, hb, hml, hown, hts⟩ (c_Rd_passBlanks_13 l h) (cwV 0 hts (gd_v gw617 gw619 gs4 gw9 gw620) rfl rfl rfl (by decide +kernel) ⟨show 0 + 1 ≤ (5 + 3 * d) by omega, show 8 + (1 + 11) + 0 ≤ (125 + 76 * d) by omega⟩) ⟨kw_blind (Zk_ok g), va_recv hK hst.1 rfl (WS_o25 g σ), kw_pre (Zk_ok g) hK hZ hA hst⟩ rfl rfl hl.1 rfl (lv_room (Nat.le_of_ble_eq_true rfl)) d_Rd_readMember_100 ⟨Nat.le_of_ble_eq_true rfl, Nat.le_of_ble_eq_true rfl⟩) hst hA (fun σ1 H locs h hst => ?_)
  refine lv_aload_n hx hb d_Rd_readMember_103 rfl (lv_at hl 0 rfl) ?_
  refine lv_iload_n hx hb d_Rd_readMember_104 rfl (lv_at hl 2 rfl) ?_
  refine kw_calli (va_runV (As := [.int x2]) (rest := []) (b := g.1 25) ⟨hx, hb, hml, hown, hts⟩ (c_Rd_valueBegins_13 l x2 h) (cwV 1 hts (gd_v gw621 gw623 gs5 gw9 gw624) rfl rfl rfl (by decide +kernel) ⟨show 1 + 1 ≤ (5 + 3 * d) by omega, show 8 + (3 + 11) + 20 ≤ (125 + 76 * d) by omega⟩) ⟨kw_blind (Zk_ok g), va_recv hK hst.1 rfl (WS_o25 g σ1), kw_pre (Zk_ok g) hK hZ hA hst⟩ rfl rfl hl.1 rfl (lv_room (Nat.le_of_ble_eq_true rfl)) d_Rd_readMember_105 ⟨Nat.le_of_ble_eq_true rfl, Nat.le_of_ble_eq_true rfl⟩) hst hA (fun r2 σ2 H locs h hst => ?_)
  refine lv_if_eq (tgt := 121) hx hb d_Rd_readMember_108 (by decide) (fun hc => ?_) (fun hc => ?_)
  · replace h := h.1 hc
    refine lv_aload_n hx hb d_Rd_readMember_121 rfl (lv_at hl 0 rfl) ?_
    refine va_get (D := D) (ci := 2) (C := R_Rd) (T := T_Rd) (N := 5) hx hb hts in_Rd hown hK hst.1 25 (WS_o25 g σ2) rfl 0 (by decide) (hts _ gw208) (fun _ h9 => h9) rfl d_Rd_readMember_122 ?_
    refine lv_bipush (v := (12 : Int32)) hx hb d_Rd_readMember_125 (by decide) ?_
    refine lv_aload_n hx hb d_Rd_readMember_127 rfl (lv_at hl 0 rfl) ?_
    refine va_get (D := D) (ci := 2) (C := R_Rd) (T := T_Rd) (N := 5) hx hb hts in_Rd hown hK hst.1 25 (WS_o25 g σ2) rfl 4 (by decide) (hts _ gw214) (fun _ h9 => h9) rfl d_Rd_readMember_128 ?_
    refine kw_callv (va_runV (As := [.int (12 : Int32), .int (σ2.1 25 4)]) (rest := []) (b := g.1 13) ⟨hx, hb, hml, hown, hts⟩ (c_Tr_blame_13 l (12 : Int32) (σ2.1 25 4) h) (cwV 2 hts (gd_v gw638 gw639 gw640 gw7 gw641) rfl rfl rfl (by decide +kernel) ⟨show 0 + 1 ≤ (5 + 3 * d) by omega, show 8 + (3 + 11) + 0 ≤ (125 + 76 * d) by omega⟩) ⟨kw_blind (Zk_ok g), va_recv hK hst.1 rfl (WS_o13 g σ2), kw_pre (Zk_ok g) hK hZ hA hst⟩ rfl rfl hl.1 rfl (lv_room (Nat.le_of_ble_eq_true rfl)) d_Rd_readMember_131 ⟨Nat.le_of_ble_eq_true rfl, Nat.le_of_ble_eq_true rfl⟩) hst hA (fun σ3 H locs h hst => ?_)
    exact kw_vret hx hb hr hlocks hst h d_Rd_readMember_134
  · replace h := h.2 hc
    refine lv_aload_n hx hb d_Rd_readMember_111 rfl (lv_at hl 0 rfl) ?_
    refine lv_iload_n hx hb d_Rd_readMember_112 rfl (lv_at hl 1 rfl) ?_
    refine lv_iload_n hx hb d_Rd_readMember_113 rfl (lv_at hl 3 rfl) ?_
    refine lv_iload_n hx hb d_Rd_readMember_114 rfl (lv_at hl 2 rfl) ?_
    refine kw_callv (va_runV (As := [.int x1, .int x3, .int x2]) (rest := []) (b := g.1 25) ⟨hx, hb, hml, hown, hts⟩ (hV _ x1 x3 x2 _ _ h) (cwV 3 hts (gd_v gw642 gw644 gs7 gw9 gw645) rfl rfl rfl (by decide +kernel) ⟨show (4 + 3 * d) + 1 ≤ (5 + 3 * d) by omega, show 8 + (6 + 11) + (100 + 76 * d) ≤ (125 + 76 * d) by omega⟩) ⟨kw_blind (Zk_ok g), va_recv hK hst.1 rfl (WS_o25 g σ2), kw_pre (Zk_ok g) hK hZ hA hst⟩ rfl rfl hl.1 rfl (lv_room (Nat.le_of_ble_eq_true rfl)) d_Rd_readMember_115 ⟨Nat.le_of_ble_eq_true rfl, Nat.le_of_ble_eq_true rfl⟩) hst hA (fun σ3 H locs h hst => ?_)
    refine lv_goto (tgt := 134) hx hb d_Rd_readMember_118 (by decide) ?_
    exact kw_vret hx hb hr hlocks hst h d_Rd_readMember_134
set_option maxRecDepth 100000 in
set_option maxHeartbeats 4000000 in
theorem a_Rd_readMember_13 {p : Program} {l : Launch} {e : Env} {s : State} {m : MethodId} {args : Array Value} {below : List Frame} {meth : Method} {c : Code} {D : va_G} {g : Gm} {A : Nat → Prop} {post : Sg → Prop} (C : kC p s m args meth c k_Rd_readMember 4 (none) GW R_Rd D vwCl g (Zk g) A) {V : Nat → Int32 → Int32 → Int32 → Sg → (Sg → Prop) → Prop} {d : Nat} (hV : ∀ (sz : Nat) (x1 : Int32) (x2 : Int32) (x3 : Int32) (σ : Sg) (post : Sg → Prop), V 13 x1 x2 x3 σ post → Met l y_Rd_readValue (.code y_Rd_readValue k_Rd_readValue 6 (none) :: GW) { frames := (4 + 3 * d), cells := 0, slots := 0, locals := (100 + 76 * d) } (PcW D vwCl (WS g) g (Zk g) σ sz [.ref (g.1 25), .int x1, .int x2, .int x3]) (QvW D vwCl (WS g) post (va_A (WS g σ) sz)) 0 0 (va_A (WS g σ) sz)) : ∀ n : Nat, J_Rd_readMember_13_1 p l e s m args below meth c D g A d post (wp_Rd_readMember V 13 post n) ∧ J_Rd_readMember_13_2 p l e s m args below meth c D g A d post (wp_Rd_readMember V 13 post n) ∧ J_Rd_readMember_13_3 p l e s m args below meth c D g A d post (wp_Rd_readMember V 13 post n) := by
  intro n
  induction n with
  | zero => exact ⟨fun _ _ _ _ _ _ _ _ _ h => h.elim, fun _ _ _ _ _ _ _ _ _ h => h.elim, fun _ _ _ _ _ _ _ _ _ h => h.elim⟩
  | succ n ih => exact ⟨fun x1 x2 x3 σ H locs ls hl hst h => b_Rd_readMember_13_1 (F := wp_Rd_readMember V 13 post n) C hV (ih.2.1) (ih.2.2) x1 x2 x3 σ H locs ls hl hst h, fun x1 x2 x3 σ H locs ls hl hst h => b_Rd_readMember_13_2 (F := wp_Rd_readMember V 13 post n) C hV (ih.2.2) x1 x2 x3 σ H locs ls hl hst h, fun x1 x2 x3 σ H locs ls hl hst h => b_Rd_readMember_13_3 (F := wp_Rd_readMember V 13 post n) C hV x1 x2 x3 σ H locs ls hl hst h⟩
set_option maxRecDepth 100000 in
set_option maxHeartbeats 4000000 in
theorem c_Rd_readMember_13 (l : Launch) {D : va_G} {g : Gm} (V : Nat → Int32 → Int32 → Int32 → Sg → (Sg → Prop) → Prop) (d : Nat) (hV : ∀ (sz : Nat) (x1 : Int32) (x2 : Int32) (x3 : Int32) (σ : Sg) (post : Sg → Prop), V 13 x1 x2 x3 σ post → Met l y_Rd_readValue (.code y_Rd_readValue k_Rd_readValue 6 (none) :: GW) { frames := (4 + 3 * d), cells := 0, slots := 0, locals := (100 + 76 * d) } (PcW D vwCl (WS g) g (Zk g) σ sz [.ref (g.1 25), .int x1, .int x2, .int x3]) (QvW D vwCl (WS g) post (va_A (WS g σ) sz)) 0 0 (va_A (WS g σ) sz)) {sz : Nat} (x1 : Int32) (x2 : Int32) {σ : Sg} {post : Sg → Prop} (h : wq_Rd_readMember V 13 x1 x2 σ post) : Met l y_Rd_readMember (.code y_Rd_readMember k_Rd_readMember 4 (none) :: GW) { frames := (5 + 3 * d), cells := 0, slots := 0, locals := (125 + 76 * d) } (PcW D vwCl (WS g) g (Zk g) σ sz [.ref (g.1 25), .int x1, .int x2]) (QvW D vwCl (WS g) post (va_A (WS g σ) sz)) 0 0 (va_A (WS g σ) sz) := by
  refine kw_entry (own := R_Rd) (by decide) rfl rfl (Nat.le_of_ble_eq_true rfl) ?_
  intro p e s m below meth c ls hsz C hin hl hst
  obtain ⟨n, h⟩ := h
  cases n with
  | zero => exact h.elim
  | succ n =>
    have ih := a_Rd_readMember_13 (l := l) (e := e) (below := below) (post := post) C hV n
    exact b_Rd_readMember_13_0 (F := wp_Rd_readMember V 13 post n) C hV (ih.1) x1 x2 σ _ _ ls hl hst h
/-! SchemaDesk$Reader.readInside (II)V -/
abbrev k_Rd_readInside : ByteArray := prog_5_method_8_code
abbrev y_Rd_readInside : MethodName := ⟨"SchemaDesk$Reader", "readInside", "(II)V"⟩
theorem d_Rd_readInside_0 : decode k_Rd_readInside 0 = .ok (.aload_n 0, 1) := by decide +kernel
theorem d_Rd_readInside_1 : decode k_Rd_readInside 1 = .ok (.getfield 9, 3) := by decide +kernel
theorem d_Rd_readInside_4 : decode k_Rd_readInside 4 = .ok (.getfield 98, 3) := by decide +kernel
theorem d_Rd_readInside_7 : decode k_Rd_readInside 7 = .ok (.iload_n 1, 1) := by decide +kernel
theorem d_Rd_readInside_8 : decode k_Rd_readInside 8 = .ok (.iaload, 1) := by decide +kernel
theorem d_Rd_readInside_9 : decode k_Rd_readInside 9 = .ok (.bipush 6, 2) := by decide +kernel
theorem d_Rd_readInside_11 : decode k_Rd_readInside 11 = .ok (.if_icmp .ne 7, 3) := by decide +kernel
theorem d_Rd_readInside_14 : decode k_Rd_readInside 14 = .ok (.iconst 1, 1) := by decide +kernel
theorem d_Rd_readInside_15 : decode k_Rd_readInside 15 = .ok (.goto 4, 3) := by decide +kernel
theorem d_Rd_readInside_18 : decode k_Rd_readInside 18 = .ok (.iconst 0, 1) := by decide +kernel
theorem d_Rd_readInside_19 : decode k_Rd_readInside 19 = .ok (.istore_n 3, 1) := by decide +kernel
theorem d_Rd_readInside_20 : decode k_Rd_readInside 20 = .ok (.iload_n 3, 1) := by decide +kernel
theorem d_Rd_readInside_21 : decode k_Rd_readInside 21 = .ok (.ifCond .eq 8, 3) := by decide +kernel
theorem d_Rd_readInside_24 : decode k_Rd_readInside 24 = .ok (.bipush 125, 2) := by decide +kernel
theorem d_Rd_readInside_26 : decode k_Rd_readInside 26 = .ok (.goto 5, 3) := by decide +kernel
theorem d_Rd_readInside_29 : decode k_Rd_readInside 29 = .ok (.bipush 93, 2) := by decide +kernel
theorem d_Rd_readInside_31 : decode k_Rd_readInside 31 = .ok (.istore 4, 2) := by decide +kernel
theorem d_Rd_readInside_33 : decode k_Rd_readInside 33 = .ok (.iconst 0, 1) := by decide +kernel
theorem d_Rd_readInside_34 : decode k_Rd_readInside 34 = .ok (.istore 5, 2) := by decide +kernel
theorem d_Rd_readInside_36 : decode k_Rd_readInside 36 = .ok (.iconst 0, 1) := by decide +kernel
theorem d_Rd_readInside_37 : decode k_Rd_readInside 37 = .ok (.istore 6, 2) := by decide +kernel
theorem d_Rd_readInside_39 : decode k_Rd_readInside 39 = .ok (.iconst 0, 1) := by decide +kernel
theorem d_Rd_readInside_40 : decode k_Rd_readInside 40 = .ok (.istore 7, 2) := by decide +kernel
theorem d_Rd_readInside_42 : decode k_Rd_readInside 42 = .ok (.iload 7, 2) := by decide +kernel
theorem d_Rd_readInside_44 : decode k_Rd_readInside 44 = .ok (.aload_n 0, 1) := by decide +kernel
theorem d_Rd_readInside_45 : decode k_Rd_readInside 45 = .ok (.getfield 21, 3) := by decide +kernel
theorem d_Rd_readInside_48 : decode k_Rd_readInside 48 = .ok (.getfield 40, 3) := by decide +kernel
theorem d_Rd_readInside_51 : decode k_Rd_readInside 51 = .ok (.if_icmp .gt 215, 3) := by decide +kernel
theorem d_Rd_readInside_54 : decode k_Rd_readInside 54 = .ok (.aload_n 0, 1) := by decide +kernel
theorem d_Rd_readInside_55 : decode k_Rd_readInside 55 = .ok (.invokevirtual 37, 3) := by decide +kernel
theorem d_Rd_readInside_58 : decode k_Rd_readInside 58 = .ok (.aload_n 0, 1) := by decide +kernel
theorem d_Rd_readInside_59 : decode k_Rd_readInside 59 = .ok (.getfield 33, 3) := by decide +kernel
theorem d_Rd_readInside_62 : decode k_Rd_readInside 62 = .ok (.aload_n 0, 1) := by decide +kernel
theorem d_Rd_readInside_63 : decode k_Rd_readInside 63 = .ok (.getfield 21, 3) := by decide +kernel
theorem d_Rd_readInside_66 : decode k_Rd_readInside 66 = .ok (.getfield 40, 3) := by decide +kernel
theorem d_Rd_readInside_69 : decode k_Rd_readInside 69 = .ok (.if_icmp .lt 21, 3) := by decide +kernel
theorem d_Rd_readInside_72 : decode k_Rd_readInside 72 = .ok (.aload_n 0, 1) := by decide +kernel
theorem d_Rd_readInside_73 : decode k_Rd_readInside 73 = .ok (.getfield 9, 3) := by decide +kernel
theorem d_Rd_readInside_76 : decode k_Rd_readInside 76 = .ok (.iconst 4, 1) := by decide +kernel
theorem d_Rd_readInside_77 : decode k_Rd_readInside 77 = .ok (.aload_n 0, 1) := by decide +kernel
theorem d_Rd_readInside_78 : decode k_Rd_readInside 78 = .ok (.getfield 9, 3) := by decide +kernel
theorem d_Rd_readInside_81 : decode k_Rd_readInside 81 = .ok (.getfield 102, 3) := by decide +kernel
theorem d_Rd_readInside_84 : decode k_Rd_readInside 84 = .ok (.iload_n 1, 1) := by decide +kernel
theorem d_Rd_readInside_85 : decode k_Rd_readInside 85 = .ok (.iaload, 1) := by decide +kernel
theorem d_Rd_readInside_86 : decode k_Rd_readInside 86 = .ok (.invokevirtual 53, 3) := by decide +kernel
theorem d_Rd_readInside_89 : decode k_Rd_readInside 89 = .ok (.return_, 1) := by decide +kernel
theorem d_Rd_readInside_90 : decode k_Rd_readInside 90 = .ok (.aload_n 0, 1) := by decide +kernel
theorem d_Rd_readInside_91 : decode k_Rd_readInside 91 = .ok (.getfield 21, 3) := by decide +kernel
theorem d_Rd_readInside_94 : decode k_Rd_readInside 94 = .ok (.getfield 61, 3) := by decide +kernel
theorem d_Rd_readInside_97 : decode k_Rd_readInside 97 = .ok (.aload_n 0, 1) := by decide +kernel
theorem d_Rd_readInside_98 : decode k_Rd_readInside 98 = .ok (.getfield 33, 3) := by decide +kernel
theorem d_Rd_readInside_101 : decode k_Rd_readInside 101 = .ok (.caload, 1) := by decide +kernel
theorem d_Rd_readInside_102 : decode k_Rd_readInside 102 = .ok (.istore 8, 2) := by decide +kernel
theorem d_Rd_readInside_104 : decode k_Rd_readInside 104 = .ok (.iload 8, 2) := by decide +kernel
theorem d_Rd_readInside_106 : decode k_Rd_readInside 106 = .ok (.iload 4, 2) := by decide +kernel
theorem d_Rd_readInside_108 : decode k_Rd_readInside 108 = .ok (.if_icmp .ne 37, 3) := by decide +kernel
theorem d_Rd_readInside_111 : decode k_Rd_readInside 111 = .ok (.iload 5, 2) := by decide +kernel
theorem d_Rd_readInside_113 : decode k_Rd_readInside 113 = .ok (.ifCond .eq 21, 3) := by decide +kernel
theorem d_Rd_readInside_116 : decode k_Rd_readInside 116 = .ok (.iload 6, 2) := by decide +kernel
theorem d_Rd_readInside_118 : decode k_Rd_readInside 118 = .ok (.ifCond .ne 16, 3) := by decide +kernel
theorem d_Rd_readInside_121 : decode k_Rd_readInside 121 = .ok (.aload_n 0, 1) := by decide +kernel
theorem d_Rd_readInside_122 : decode k_Rd_readInside 122 = .ok (.getfield 9, 3) := by decide +kernel
theorem d_Rd_readInside_125 : decode k_Rd_readInside 125 = .ok (.bipush 10, 2) := by decide +kernel
theorem d_Rd_readInside_127 : decode k_Rd_readInside 127 = .ok (.aload_n 0, 1) := by decide +kernel
theorem d_Rd_readInside_128 : decode k_Rd_readInside 128 = .ok (.getfield 33, 3) := by decide +kernel
theorem d_Rd_readInside_131 : decode k_Rd_readInside 131 = .ok (.invokevirtual 53, 3) := by decide +kernel
theorem d_Rd_readInside_134 : decode k_Rd_readInside 134 = .ok (.aload_n 0, 1) := by decide +kernel
theorem d_Rd_readInside_135 : decode k_Rd_readInside 135 = .ok (.dup, 1) := by decide +kernel
theorem d_Rd_readInside_136 : decode k_Rd_readInside 136 = .ok (.getfield 33, 3) := by decide +kernel
theorem d_Rd_readInside_139 : decode k_Rd_readInside 139 = .ok (.iconst 1, 1) := by decide +kernel
theorem d_Rd_readInside_140 : decode k_Rd_readInside 140 = .ok (.iadd, 1) := by decide +kernel
theorem d_Rd_readInside_141 : decode k_Rd_readInside 141 = .ok (.putfield 33, 3) := by decide +kernel
theorem d_Rd_readInside_144 : decode k_Rd_readInside 144 = .ok (.return_, 1) := by decide +kernel
theorem d_Rd_readInside_145 : decode k_Rd_readInside 145 = .ok (.iload 8, 2) := by decide +kernel
theorem d_Rd_readInside_147 : decode k_Rd_readInside 147 = .ok (.bipush 44, 2) := by decide +kernel
theorem d_Rd_readInside_149 : decode k_Rd_readInside 149 = .ok (.if_icmp .ne 40, 3) := by decide +kernel
theorem d_Rd_readInside_152 : decode k_Rd_readInside 152 = .ok (.iload 6, 2) := by decide +kernel
theorem d_Rd_readInside_154 : decode k_Rd_readInside 154 = .ok (.ifCond .ne 16, 3) := by decide +kernel
theorem d_Rd_readInside_157 : decode k_Rd_readInside 157 = .ok (.aload_n 0, 1) := by decide +kernel
theorem d_Rd_readInside_158 : decode k_Rd_readInside 158 = .ok (.getfield 9, 3) := by decide +kernel
theorem d_Rd_readInside_161 : decode k_Rd_readInside 161 = .ok (.bipush 8, 2) := by decide +kernel
theorem d_Rd_readInside_163 : decode k_Rd_readInside 163 = .ok (.aload_n 0, 1) := by decide +kernel
theorem d_Rd_readInside_164 : decode k_Rd_readInside 164 = .ok (.getfield 33, 3) := by decide +kernel
theorem d_Rd_readInside_167 : decode k_Rd_readInside 167 = .ok (.invokevirtual 53, 3) := by decide +kernel
theorem d_Rd_readInside_170 : decode k_Rd_readInside 170 = .ok (.aload_n 0, 1) := by decide +kernel
theorem d_Rd_readInside_171 : decode k_Rd_readInside 171 = .ok (.dup, 1) := by decide +kernel
theorem d_Rd_readInside_172 : decode k_Rd_readInside 172 = .ok (.getfield 33, 3) := by decide +kernel
theorem d_Rd_readInside_175 : decode k_Rd_readInside 175 = .ok (.iconst 1, 1) := by decide +kernel
theorem d_Rd_readInside_176 : decode k_Rd_readInside 176 = .ok (.iadd, 1) := by decide +kernel
theorem d_Rd_readInside_177 : decode k_Rd_readInside 177 = .ok (.putfield 33, 3) := by decide +kernel
theorem d_Rd_readInside_180 : decode k_Rd_readInside 180 = .ok (.iconst 1, 1) := by decide +kernel
theorem d_Rd_readInside_181 : decode k_Rd_readInside 181 = .ok (.istore 5, 2) := by decide +kernel
theorem d_Rd_readInside_183 : decode k_Rd_readInside 183 = .ok (.iconst 0, 1) := by decide +kernel
theorem d_Rd_readInside_184 : decode k_Rd_readInside 184 = .ok (.istore 6, 2) := by decide +kernel
theorem d_Rd_readInside_186 : decode k_Rd_readInside 186 = .ok (.goto 74, 3) := by decide +kernel
theorem d_Rd_readInside_189 : decode k_Rd_readInside 189 = .ok (.iload_n 3, 1) := by decide +kernel
theorem d_Rd_readInside_190 : decode k_Rd_readInside 190 = .ok (.ifCond .eq 13, 3) := by decide +kernel
theorem d_Rd_readInside_193 : decode k_Rd_readInside 193 = .ok (.iload 8, 2) := by decide +kernel
theorem d_Rd_readInside_195 : decode k_Rd_readInside 195 = .ok (.bipush 34, 2) := by decide +kernel
theorem d_Rd_readInside_197 : decode k_Rd_readInside 197 = .ok (.if_icmp .ne 58, 3) := by decide +kernel
theorem d_Rd_readInside_200 : decode k_Rd_readInside 200 = .ok (.goto 11, 3) := by decide +kernel
theorem d_Rd_readInside_203 : decode k_Rd_readInside 203 = .ok (.aload_n 0, 1) := by decide +kernel
theorem d_Rd_readInside_204 : decode k_Rd_readInside 204 = .ok (.iload_n 2, 1) := by decide +kernel
theorem d_Rd_readInside_205 : decode k_Rd_readInside 205 = .ok (.invokevirtual 45, 3) := by decide +kernel
theorem d_Rd_readInside_208 : decode k_Rd_readInside 208 = .ok (.ifCond .eq 47, 3) := by decide +kernel
theorem d_Rd_readInside_211 : decode k_Rd_readInside 211 = .ok (.iload 6, 2) := by decide +kernel
theorem d_Rd_readInside_213 : decode k_Rd_readInside 213 = .ok (.ifCond .eq 16, 3) := by decide +kernel
theorem d_Rd_readInside_216 : decode k_Rd_readInside 216 = .ok (.aload_n 0, 1) := by decide +kernel
theorem d_Rd_readInside_217 : decode k_Rd_readInside 217 = .ok (.getfield 9, 3) := by decide +kernel
theorem d_Rd_readInside_220 : decode k_Rd_readInside 220 = .ok (.bipush 9, 2) := by decide +kernel
theorem d_Rd_readInside_222 : decode k_Rd_readInside 222 = .ok (.aload_n 0, 1) := by decide +kernel
theorem d_Rd_readInside_223 : decode k_Rd_readInside 223 = .ok (.getfield 33, 3) := by decide +kernel
theorem d_Rd_readInside_226 : decode k_Rd_readInside 226 = .ok (.invokevirtual 53, 3) := by decide +kernel
theorem d_Rd_readInside_229 : decode k_Rd_readInside 229 = .ok (.iload_n 3, 1) := by decide +kernel
theorem d_Rd_readInside_230 : decode k_Rd_readInside 230 = .ok (.ifCond .eq 12, 3) := by decide +kernel
theorem d_Rd_readInside_233 : decode k_Rd_readInside 233 = .ok (.aload_n 0, 1) := by decide +kernel
theorem d_Rd_readInside_234 : decode k_Rd_readInside 234 = .ok (.iload_n 1, 1) := by decide +kernel
theorem d_Rd_readInside_235 : decode k_Rd_readInside 235 = .ok (.iload_n 2, 1) := by decide +kernel
theorem d_Rd_readInside_236 : decode k_Rd_readInside 236 = .ok (.invokevirtual 105, 3) := by decide +kernel
theorem d_Rd_readInside_239 : decode k_Rd_readInside 239 = .ok (.goto 10, 3) := by decide +kernel
theorem d_Rd_readInside_242 : decode k_Rd_readInside 242 = .ok (.aload_n 0, 1) := by decide +kernel
theorem d_Rd_readInside_243 : decode k_Rd_readInside 243 = .ok (.iload_n 1, 1) := by decide +kernel
theorem d_Rd_readInside_244 : decode k_Rd_readInside 244 = .ok (.iconst (-1), 1) := by decide +kernel
theorem d_Rd_readInside_245 : decode k_Rd_readInside 245 = .ok (.iload_n 2, 1) := by decide +kernel
theorem d_Rd_readInside_246 : decode k_Rd_readInside 246 = .ok (.invokevirtual 57, 3) := by decide +kernel
theorem d_Rd_readInside_249 : decode k_Rd_readInside 249 = .ok (.iconst 1, 1) := by decide +kernel
theorem d_Rd_readInside_250 : decode k_Rd_readInside 250 = .ok (.istore 6, 2) := by decide +kernel
theorem d_Rd_readInside_252 : decode k_Rd_readInside 252 = .ok (.goto 8, 3) := by decide +kernel
theorem d_Rd_readInside_255 : decode k_Rd_readInside 255 = .ok (.aload_n 0, 1) := by decide +kernel
theorem d_Rd_readInside_256 : decode k_Rd_readInside 256 = .ok (.iload_n 2, 1) := by decide +kernel
theorem d_Rd_readInside_257 : decode k_Rd_readInside 257 = .ok (.invokevirtual 49, 3) := by decide +kernel
theorem d_Rd_readInside_260 : decode k_Rd_readInside 260 = .ok (.iinc 7 1, 3) := by decide +kernel
theorem d_Rd_readInside_263 : decode k_Rd_readInside 263 = .ok (.goto (-221), 3) := by decide +kernel
theorem d_Rd_readInside_266 : decode k_Rd_readInside 266 = .ok (.return_, 1) := by decide +kernel
theorem gw634 : (Jvm.Cond.methodLink "SchemaDesk$Reader" (49 : Nat) ({ cls := "SchemaDesk$Reader", name := "passWrong", desc := "(I)V" } : Jvm.MethodName)) ∈ GW := gw_t3 (List.mem_of_getElem? (i := 154) rfl) rfl
theorem gw636 : (Jvm.Cond.instanceMethod ({ cls := "SchemaDesk$Reader", name := "passWrong", desc := "(I)V" } : Jvm.MethodName)) ∈ GW := gw_t3 (List.mem_of_getElem? (i := 156) rfl) rfl
theorem gs6 : Cond.selects "SchemaDesk$Reader" ⟨"SchemaDesk$Reader", "passWrong", "(I)V"⟩ ⟨"SchemaDesk$Reader", "passWrong", "(I)V"⟩ ∈ GW := gw_p1 (q := (⟨"SchemaDesk$Reader", "passWrong", "(I)V"⟩, 5)) (List.mem_of_getElem? (i := 6) rfl)
theorem gw637 : (Jvm.Cond.code ({ cls := "SchemaDesk$Reader", name := "passWrong", desc := "(I)V" } : Jvm.MethodName) prog_5_method_5_code (3 : Nat) (Option.none : Option Jvm.ClassFile.FieldType)) ∈ GW := gw_t3 (List.mem_of_getElem? (i := 157) rfl) rfl
theorem gw140 : (Jvm.Cond.fieldLink "SchemaDesk$Reader" (102 : Nat) "SchemaDesk$Tree" "from" "[I") ∈ GW := gw_t1 (List.mem_of_getElem? (i := 140) rfl) rfl
theorem gw657 : (Jvm.Cond.methodLink "SchemaDesk$Reader" (105 : Nat) ({ cls := "SchemaDesk$Reader", name := "readMember", desc := "(II)V" } : Jvm.MethodName)) ∈ GW := gw_t3 (List.mem_of_getElem? (i := 177) rfl) rfl
theorem gw659 : (Jvm.Cond.instanceMethod ({ cls := "SchemaDesk$Reader", name := "readMember", desc := "(II)V" } : Jvm.MethodName)) ∈ GW := gw_t3 (List.mem_of_getElem? (i := 179) rfl) rfl
theorem gs9 : Cond.selects "SchemaDesk$Reader" ⟨"SchemaDesk$Reader", "readMember", "(II)V"⟩ ⟨"SchemaDesk$Reader", "readMember", "(II)V"⟩ ∈ GW := gw_p1 (q := (⟨"SchemaDesk$Reader", "readMember", "(II)V"⟩, 5)) (List.mem_of_getElem? (i := 9) rfl)
theorem gw660 : (Jvm.Cond.code ({ cls := "SchemaDesk$Reader", name := "readMember", desc := "(II)V" } : Jvm.MethodName) prog_5_method_9_code (4 : Nat) (Option.none : Option Jvm.ClassFile.FieldType)) ∈ GW := gw_t3 (List.mem_of_getElem? (i := 180) rfl) rfl
def wb_Rd_readInside_0 (V : Nat → Int32 → Int32 → Int32 → Sg → (Sg → Prop) → Prop) (b : Nat) (F : Nat → Int32 → Int32 → Int32 → Int32 → Int32 → Int32 → Int32 → Sg → Prop) (post : Sg → Prop) (x1 : Int32) (x2 : Int32) (σ : Sg) : Prop := (vp_in x1 (tl b) ∧ ((¬ (σ.1 (b + 1) x1.toNatClampNeg) = (6 : Int32) → F 1 x1 x2 (0 : Int32) 0 0 0 0 σ) ∧ ((σ.1 (b + 1) x1.toNatClampNeg) = (6 : Int32) → F 1 x1 x2 (1 : Int32) 0 0 0 0 σ)))
def wb_Rd_readInside_1 (V : Nat → Int32 → Int32 → Int32 → Sg → (Sg → Prop) → Prop) (b : Nat) (F : Nat → Int32 → Int32 → Int32 → Int32 → Int32 → Int32 → Int32 → Sg → Prop) (post : Sg → Prop) (x1 : Int32) (x2 : Int32) (x3 : Int32) (σ : Sg) : Prop := ((x3 = 0 → F 2 x1 x2 x3 (93 : Int32) (0 : Int32) (0 : Int32) (0 : Int32) σ) ∧ (¬ x3 = 0 → F 2 x1 x2 x3 (125 : Int32) (0 : Int32) (0 : Int32) (0 : Int32) σ))
def wb_Rd_readInside_2 (V : Nat → Int32 → Int32 → Int32 → Sg → (Sg → Prop) → Prop) (b : Nat) (F : Nat → Int32 → Int32 → Int32 → Int32 → Int32 → Int32 → Int32 → Sg → Prop) (post : Sg → Prop) (x1 : Int32) (x2 : Int32) (x3 : Int32) (x4 : Int32) (x5 : Int32) (x6 : Int32) (x7 : Int32) (σ : Sg) : Prop := (((σ.1 (b + 10) 1) < x7 → post σ) ∧ (¬ (σ.1 (b + 10) 1) < x7 → (wq_Rd_passBlanks b σ (fun σ1 => (((σ1.1 (b + 12) 4) < (σ1.1 (b + 10) 1) → (vp_in (σ1.1 (b + 12) 4) (tl b) ∧ ((¬ (σ1.1 (b + 11) ((σ1.1 (b + 12) 4) : Int32).toNatClampNeg) = x4 → ((¬ (σ1.1 (b + 11) ((σ1.1 (b + 12) 4) : Int32).toNatClampNeg) = (44 : Int32) → ((x3 = 0 → (wq_Rd_valueBegins b x2 σ1 (fun r2 σ2 => ((r2 = 0 → (wq_Rd_passWrong b x2 σ2 (fun σ3 => F 2 x1 x2 x3 x4 x5 x6 (x7 + 1) σ3))) ∧ (¬ r2 = 0 → F 3 x1 x2 x3 x4 x5 x6 x7 σ2))))) ∧ (¬ x3 = 0 → ((¬ (σ1.1 (b + 11) ((σ1.1 (b + 12) 4) : Int32).toNatClampNeg) = (34 : Int32) → (wq_Rd_passWrong b x2 σ1 (fun σ2 => F 2 x1 x2 x3 x4 x5 x6 (x7 + 1) σ2))) ∧ ((σ1.1 (b + 11) ((σ1.1 (b + 12) 4) : Int32).toNatClampNeg) = (34 : Int32) → F 3 x1 x2 x3 x4 x5 x6 x7 σ1))))) ∧ ((σ1.1 (b + 11) ((σ1.1 (b + 12) 4) : Int32).toNatClampNeg) = (44 : Int32) → ((¬ x6 = 0 → F 4 x1 x2 x3 x4 0 0 x7 σ1) ∧ (x6 = 0 → (wq_Tr_blame b (8 : Int32) (σ1.1 (b + 12) 4) σ1 (fun σ2 => F 4 x1 x2 x3 x4 0 0 x7 σ2))))))) ∧ ((σ1.1 (b + 11) ((σ1.1 (b + 12) 4) : Int32).toNatClampNeg) = x4 → ((x5 = 0 → (∀ σ2, σ2 = si σ1 (b + 12) 4 ((σ1.1 (b + 12) 4) + (1 : Int32)) → post σ2)) ∧ (¬ x5 = 0 → ((¬ x6 = 0 → (∀ σ2, σ2 = si σ1 (b + 12) 4 ((σ1.1 (b + 12) 4) + (1 : Int32)) → post σ2)) ∧ (x6 = 0 → (wq_Tr_blame b (10 : Int32) (σ1.1 (b + 12) 4) σ1 (fun σ2 => (∀ σ3, σ3 = si σ2 (b + 12) 4 ((σ2.1 (b + 12) 4) + (1 : Int32)) → post σ3))))))))))) ∧ (¬ (σ1.1 (b + 12) 4) < (σ1.1 (b + 10) 1) → (vp_in x1 (tl b) ∧ (wq_Tr_blame b (4 : Int32) (σ1.1 (b + 2) x1.toNatClampNeg) σ1 (fun σ2 => post σ2)))))))))
def wb_Rd_readInside_3 (V : Nat → Int32 → Int32 → Int32 → Sg → (Sg → Prop) → Prop) (b : Nat) (F : Nat → Int32 → Int32 → Int32 → Int32 → Int32 → Int32 → Int32 → Sg → Prop) (post : Sg → Prop) (x1 : Int32) (x2 : Int32) (x3 : Int32) (x4 : Int32) (x5 : Int32) (x6 : Int32) (x7 : Int32) (σ : Sg) : Prop := ((x6 = 0 → F 5 x1 x2 x3 x4 x5 0 x7 σ) ∧ (¬ x6 = 0 → (wq_Tr_blame b (9 : Int32) (σ.1 (b + 12) 4) σ (fun σ1 => F 5 x1 x2 x3 x4 x5 0 x7 σ1))))
def wb_Rd_readInside_4 (V : Nat → Int32 → Int32 → Int32 → Sg → (Sg → Prop) → Prop) (b : Nat) (F : Nat → Int32 → Int32 → Int32 → Int32 → Int32 → Int32 → Int32 → Sg → Prop) (post : Sg → Prop) (x1 : Int32) (x2 : Int32) (x3 : Int32) (x4 : Int32) (x7 : Int32) (σ : Sg) : Prop := (∀ σ1, σ1 = si σ (b + 12) 4 ((σ.1 (b + 12) 4) + (1 : Int32)) → F 2 x1 x2 x3 x4 (1 : Int32) (0 : Int32) (x7 + 1) σ1)
def wb_Rd_readInside_5 (V : Nat → Int32 → Int32 → Int32 → Sg → (Sg → Prop) → Prop) (b : Nat) (F : Nat → Int32 → Int32 → Int32 → Int32 → Int32 → Int32 → Int32 → Sg → Prop) (post : Sg → Prop) (x1 : Int32) (x2 : Int32) (x3 : Int32) (x4 : Int32) (x5 : Int32) (x7 : Int32) (σ : Sg) : Prop := ((x3 = 0 → (V b x1 (-1 : Int32) x2 σ (fun σ1 => F 2 x1 x2 x3 x4 x5 (1 : Int32) (x7 + 1) σ1))) ∧ (¬ x3 = 0 → (wq_Rd_readMember V b x1 x2 σ (fun σ1 => F 2 x1 x2 x3 x4 x5 (1 : Int32) (x7 + 1) σ1))))
def wp_Rd_readInside (V : Nat → Int32 → Int32 → Int32 → Sg → (Sg → Prop) → Prop) (b : Nat) (post : Sg → Prop) : Nat → Nat → Int32 → Int32 → Int32 → Int32 → Int32 → Int32 → Int32 → Sg → Prop
  | 0, _, _, _, _, _, _, _, _, _ => False
  | n + 1, k, x1, x2, x3, x4, x5, x6, x7, σ => match k with
    | 0 => wb_Rd_readInside_0 V b (wp_Rd_readInside V b post n) post x1 x2 σ
    | 1 => wb_Rd_readInside_1 V b (wp_Rd_readInside V b post n) post x1 x2 x3 σ
    | 2 => wb_Rd_readInside_2 V b (wp_Rd_readInside V b post n) post x1 x2 x3 x4 x5 x6 x7 σ
    | 3 => wb_Rd_readInside_3 V b (wp_Rd_readInside V b post n) post x1 x2 x3 x4 x5 x6 x7 σ
    | 4 => wb_Rd_readInside_4 V b (wp_Rd_readInside V b post n) post x1 x2 x3 x4 x7 σ
    | 5 => wb_Rd_readInside_5 V b (wp_Rd_readInside V b post n) post x1 x2 x3 x4 x5 x7 σ
    | _ => False
def wq_Rd_readInside (V : Nat → Int32 → Int32 → Int32 → Sg → (Sg → Prop) → Prop) (b : Nat) (x1 : Int32) (x2 : Int32) (σ : Sg) (post : Sg → Prop) : Prop := ∃ n, wp_Rd_readInside V b post n 0 x1 x2 0 0 0 0 0 σ
def J_Rd_readInside_0_1 (p : Program) (l : Launch) (e : Env) (s : State) (m : MethodId) (args : Array Value) (below : List Frame) (meth : Method) (c : Code) (D : va_G) (g : Gm) (A : Nat → Prop) (d : Nat) (post : Sg → Prop) (F : Nat → Int32 → Int32 → Int32 → Int32 → Int32 → Int32 → Int32 → Sg → Prop) : Prop := ∀ (x1 : Int32) (x2 : Int32) (x3 : Int32) (σ : Sg) (H : Heap) (locs : List Loc) (ls : Array Slot), lv_has ls 9 [(0, .ref (g.1 12)), (1, .int x1), (2, .int x2), (3, .int x3)] → Wst D vwCl (WS g) A s σ H locs → F 1 x1 x2 x3 0 0 0 0 σ → W p l e { frames := (6 + 3 * d), cells := 0, slots := 0, locals := (148 + 76 * d) } s m args below meth c H locs 0 0 (MQ below (QvW D vwCl (WS g) post A) args s 0 0 A) (F0 m 20 ls [])
def J_Rd_readInside_0_2 (p : Program) (l : Launch) (e : Env) (s : State) (m : MethodId) (args : Array Value) (below : List Frame) (meth : Method) (c : Code) (D : va_G) (g : Gm) (A : Nat → Prop) (d : Nat) (post : Sg → Prop) (F : Nat → Int32 → Int32 → Int32 → Int32 → Int32 → Int32 → Int32 → Sg → Prop) : Prop := ∀ (x1 : Int32) (x2 : Int32) (x3 : Int32) (x4 : Int32) (x5 : Int32) (x6 : Int32) (x7 : Int32) (σ : Sg) (H : Heap) (locs : List Loc) (ls : Array Slot), lv_has ls 9 [(0, .ref (g.1 12)), (1, .int x1), (2, .int x2), (3, .int x3), (4, .int x4), (5, .int x5), (6, .int x6), (7, .int x7)] → Wst D vwCl (WS g) A s σ H locs → F 2 x1 x2 x3 x4 x5 x6 x7 σ → W p l e { frames := (6 + 3 * d), cells := 0, slots := 0, locals := (148 + 76 * d) } s m args below meth c H locs 0 0 (MQ below (QvW D vwCl (WS g) post A) args s 0 0 A) (F0 m 42 ls [])
def J_Rd_readInside_0_3 (p : Program) (l : Launch) (e : Env) (s : State) (m : MethodId) (args : Array Value) (below : List Frame) (meth : Method) (c : Code) (D : va_G) (g : Gm) (A : Nat → Prop) (d : Nat) (post : Sg → Prop) (F : Nat → Int32 → Int32 → Int32 → Int32 → Int32 → Int32 → Int32 → Sg → Prop) : Prop := ∀ (x1 : Int32) (x2 : Int32) (x3 : Int32) (x4 : Int32) (x5 : Int32) (x6 : Int32) (x7 : Int32) (σ : Sg) (H : Heap) (locs : List Loc) (ls : Array Slot), lv_has ls 9 [(0, .ref (g.1 12)), (1, .int x1), (2, .int x2), (3, .int x3), (4, .int x4), (5, .int x5), (6, .int x6), (7, .int x7)] → Wst D vwCl (WS g) A s σ H locs → F 3 x1 x2 x3 x4 x5 x6 x7 σ → W p l e { frames := (6 + 3 * d), cells := 0, slots := 0, locals := (148 + 76 * d) } s m args below meth c H locs 0 0 (MQ below (QvW D vwCl (WS g) post A) args s 0 0 A) (F0 m 211 ls [])
def J_Rd_readInside_0_4 (p : Program) (l : Launch) (e : Env) (s : State) (m : MethodId) (args : Array Value) (below : List Frame) (meth : Method) (c : Code) (D : va_G) (g : Gm) (A : Nat → Prop) (d : Nat) (post : Sg → Prop) (F : Nat → Int32 → Int32 → Int32 → Int32 → Int32 → Int32 → Int32 → Sg → Prop) : Prop := ∀ (x1 : Int32) (x2 : Int32) (x3 : Int32) (x4 : Int32) (x7 : Int32) (σ : Sg) (H : Heap) (locs : List Loc) (ls : Array Slot), lv_has ls 9 [(0, .ref (g.1 12)), (1, .int x1), (2, .int x2), (3, .int x3), (4, .int x4), (7, .int x7)] → Wst D vwCl (WS g) A s σ H locs → F 4 x1 x2 x3 x4 0 0 x7 σ → W p l e { frames := (6 + 3 * d), cells := 0, slots := 0, locals := (148 + 76 * d) } s m args below meth c H locs 0 0 (MQ below (QvW D vwCl (WS g) post A) args s 0 0 A) (F0 m 170 ls [])
def J_Rd_readInside_0_5 (p : Program) (l : Launch) (e : Env) (s : State) (m : MethodId) (args : Array Value) (below : List Frame) (meth : Method) (c : Code) (D : va_G) (g : Gm) (A : Nat → Prop) (d : Nat) (post : Sg → Prop) (F : Nat → Int32 → Int32 → Int32 → Int32 → Int32 → Int32 → Int32 → Sg → Prop) : Prop := ∀ (x1 : Int32) (x2 : Int32) (x3 : Int32) (x4 : Int32) (x5 : Int32) (x7 : Int32) (σ : Sg) (H : Heap) (locs : List Loc) (ls : Array Slot), lv_has ls 9 [(0, .ref (g.1 12)), (1, .int x1), (2, .int x2), (3, .int x3), (4, .int x4), (5, .int x5), (7, .int x7)] → Wst D vwCl (WS g) A s σ H locs → F 5 x1 x2 x3 x4 x5 0 x7 σ → W p l e { frames := (6 + 3 * d), cells := 0, slots := 0, locals := (148 + 76 * d) } s m args below meth c H locs 0 0 (MQ below (QvW D vwCl (WS g) post A) args s 0 0 A) (F0 m 229 ls [])
set_option maxRecDepth 100000 in
set_option maxHeartbeats 4000000 in
theorem b_Rd_readInside_0_0 {p : Program} {l : Launch} {e : Env} {s : State} {m : MethodId} {args : Array Value} {below : List Frame} {meth : Method} {c : Code} {D : va_G} {g : Gm} {A : Nat → Prop} {post : Sg → Prop} {F : Nat → Int32 → Int32 → Int32 → Int32 → Int32 → Int32 → Int32 → Sg → Prop} (C : kC p s m args meth c k_Rd_readInside 9 (none) GW R_Rd D vwCl g (Zk g) A) {V : Nat → Int32 → Int32 → Int32 → Sg → (Sg → Prop) → Prop} {d : Nat} (hV : ∀ (sz : Nat) (x1 : Int32) (x2 : Int32) (x3 : Int32) (σ : Sg) (post : Sg → Prop), V 0 x1 x2 x3 σ post → Met l y_Rd_readValue (.code y_Rd_readValue k_Rd_readValue 6 (none) :: GW) { frames := (4 + 3 * d), cells := 0, slots := 0, locals := (100 + 76 * d) } (PcW D vwCl (WS g) g (Zk g) σ sz [.ref (g.1 12), .int x1, .int x2, .int x3]) (QvW D vwCl (WS g) post (va_A (WS g σ) sz)) 0 0 (va_A (WS g σ) sz)) (j1 : J_Rd_readInside_0_1 p l e s m args below meth c D g A d post F) (x1 : Int32) (x2 : Int32) (σ : Sg) (H : Heap) (locs : List Loc) (ls : Array Slot) (hl : lv_has ls 9 [(0, .ref (g.1 12)), (1, .int x1), (2, .int x2)]) (hst : Wst D vwCl (WS g) A s σ H locs) (h : wb_Rd_readInside_0 V 0 F post x1 x2 σ) : W p l e { frames := (6 + 3 * d), cells := 0, slots := 0, locals := (148 + 76 * d) } s m args below meth c H locs 0 0 (MQ below (QvW D vwCl (WS g) post A) args s 0 0 A) (F0 m 0 ls []) := by
  obtain ⟨hx, hb, hr, hml, hown, hts, hlocks, hK, hZ, hA⟩ := C
  unfold wb_Rd_readInside_0 at h
  refine lv_aload_n hx hb d_Rd_readInside_0 rfl (lv_at hl 0 rfl) ?_
  refine va_get (D := D) (ci := 2) (C := R_Rd) (T := T_Rd) (N := 5) hx hb hts in_Rd hown hK hst.1 12 (WS_o12 g σ) rfl 0 (by decide) (hts _ gw208) (fun _ h9 => h9) rfl d_Rd_readInside_1 ?_
  refine va_get (D := D) (ci := 0) (C := R_Tr) (T := T_Tr) (N := 12) hx hb hts in_Tr hown hK hst.1 0 (WS_o0 g σ) rfl 1 (by decide) (hts _ gw135) (fun _ h9 => h9) rfl d_Rd_readInside_4 ?_
  refine lv_iload_n hx hb d_Rd_readInside_7 rfl (lv_at hl 1 rfl) ?_
  obtain ⟨hi, h⟩ := h
  refine va_iald hx hb hK hst.1 1 0 (WS_a1 g σ) rfl hi d_Rd_readInside_8 ?_
  refine lv_bipush (v := (6 : Int32)) hx hb d_Rd_readInside_9 (by decide) ?_
  refine lv_icmp_ne (tgt := 18) hx hb d_Rd_readInside_11 (by decide) (fun hc => ?_) (fun hc => ?_)
  · replace h := h.1 hc
    refine lv_iconst (v := (0 : Int32)) hx hb d_Rd_readInside_18 (by decide) ?_
    refine lv_istore_n hx hb d_Rd_readInside_19 rfl hl (by decide) rfl (fun ls hl => ?_)
    have hl : lv_has ls 9 [(3, .int (0 : Int32)), (0, .ref (g.1 12)), (1, .int x1), (2, .int x2)] := hl
    exact j1 x1 x2 (0 : Int32) σ _ _ _ (lv_sub hl [1, 2, 3, 0] rfl) hst h
  · replace h := h.2 hc
    refine lv_iconst (v := (1 : Int32)) hx hb d_Rd_readInside_14 (by decide) ?_
    refine lv_goto (tgt := 19) hx hb d_Rd_readInside_15 (by decide) ?_
    refine lv_istore_n hx hb d_Rd_readInside_19 rfl hl (by decide) rfl (fun ls hl => ?_)
    have hl : lv_has ls 9 [(3, .int (1 : Int32)), (0, .ref (g.1 12)), (1, .int x1), (2, .int x2)] := hl
    exact j1 x1 x2 (1 : Int32) σ _ _ _ (lv_sub hl [1, 2, 3, 0] rfl) hst h
set_option maxRecDepth 100000 in
set_option maxHeartbeats 4000000 in
theorem b_Rd_readInside_0_1 {p : Program} {l : Launch} {e : Env} {s : State} {m : MethodId} {args : Array Value} {below : List Frame} {meth : Method} {c : Code} {D : va_G} {g : Gm} {A : Nat → Prop} {post : Sg → Prop} {F : Nat → Int32 → Int32 → Int32 → Int32 → Int32 → Int32 → Int32 → Sg → Prop} (C : kC p s m args meth c k_Rd_readInside 9 (none) GW R_Rd D vwCl g (Zk g) A) {V : Nat → Int32 → Int32 → Int32 → Sg → (Sg → Prop) → Prop} {d : Nat} (hV : ∀ (sz : Nat) (x1 : Int32) (x2 : Int32) (x3 : Int32) (σ : Sg) (post : Sg → Prop), V 0 x1 x2 x3 σ post → Met l y_Rd_readValue (.code y_Rd_readValue k_Rd_readValue 6 (none) :: GW) { frames := (4 + 3 * d), cells := 0, slots := 0, locals := (100 + 76 * d) } (PcW D vwCl (WS g) g (Zk g) σ sz [.ref (g.1 12), .int x1, .int x2, .int x3]) (QvW D vwCl (WS g) post (va_A (WS g σ) sz)) 0 0 (va_A (WS g σ) sz)) (j2 : J_Rd_readInside_0_2 p l e s m args below meth c D g A d post F) (x1 : Int32) (x2 : Int32) (x3 : Int32) (σ : Sg) (H : Heap) (locs : List Loc) (ls : Array Slot) (hl : lv_has ls 9 [(0, .ref (g.1 12)), (1, .int x1), (2, .int x2), (3, .int x3)]) (hst : Wst D vwCl (WS g) A s σ H locs) (h : wb_Rd_readInside_1 V 0 F post x1 x2 x3 σ) : W p l e { frames := (6 + 3 * d), cells := 0, slots := 0, locals := (148 + 76 * d) } s m args below meth c H locs 0 0 (MQ below (QvW D vwCl (WS g) post A) args s 0 0 A) (F0 m 20 ls []) := by
  obtain ⟨hx, hb, hr, hml, hown, hts, hlocks, hK, hZ, hA⟩ := C
  unfold wb_Rd_readInside_1 at h
  refine lv_iload_n hx hb d_Rd_readInside_20 rfl (lv_at hl 3 rfl) ?_
  refine lv_if_eq (tgt := 29) hx hb d_Rd_readInside_21 (by decide) (fun hc => ?_) (fun hc => ?_)
  · replace h := h.1 hc
    refine lv_bipush (v := (93 : Int32)) hx hb d_Rd_readInside_29 (by decide) ?_
    refine lv_istore hx hb d_Rd_readInside_31 hl (by decide) rfl (fun ls hl => ?_)
    have hl : lv_has ls 9 [(4, .int (93 : Int32)), (0, .ref (g.1 12)), (1, .int x1), (2, .int x2), (3, .int x3)] := hl
    refine lv_iconst (v := (0 : Int32)) hx hb d_Rd_readInside_33 (by decide) ?_
    refine lv_istore hx hb d_Rd_readInside_34 hl (by decide) rfl (fun ls hl => ?_)
    have hl : lv_has ls 9 [(5, .int (0 : Int32)), (4, .int (93 : Int32)), (0, .ref (g.1 12)), (1, .int x1), (2, .int x2), (3, .int x3)] := hl
    refine lv_iconst (v := (0 : Int32)) hx hb d_Rd_readInside_36 (by decide) ?_
    refine lv_istore hx hb d_Rd_readInside_37 hl (by decide) rfl (fun ls hl => ?_)
    have hl : lv_has ls 9 [(6, .int (0 : Int32)), (5, .int (0 : Int32)), (4, .int (93 : Int32)), (0, .ref (g.1 12)), (1, .int x1), (2, .int x2), (3, .int x3)] := hl
    refine lv_iconst (v := (0 : Int32)) hx hb d_Rd_readInside_39 (by decide) ?_
    refine lv_istore hx hb d_Rd_readInside_40 hl (by decide) rfl (fun ls hl => ?_)
    have hl : lv_has ls 9 [(7, .int (0 : Int32)), (6, .int (0 : Int32)), (5, .int (0 : Int32)), (4, .int (93 : Int32)), (0, .ref (g.1 12)), (1, .int x1), (2, .int x2), (3, .int x3)] := hl
    exact j2 x1 x2 x3 (93 : Int32) (0 : Int32) (0 : Int32) (0 : Int32) σ _ _ _ (lv_sub hl [4, 5, 6, 7, 3, 2, 1, 0] rfl) hst h
  · replace h := h.2 hc
    refine lv_bipush (v := (125 : Int32)) hx hb d_Rd_readInside_24 (by decide) ?_
    refine lv_goto (tgt := 31) hx hb d_Rd_readInside_26 (by decide) ?_
    refine lv_istore hx hb d_Rd_readInside_31 hl (by decide) rfl (fun ls hl => ?_)
    have hl : lv_has ls 9 [(4, .int (125 : Int32)), (0, .ref (g.1 12)), (1, .int x1), (2, .int x2), (3, .int x3)] := hl
    refine lv_iconst (v := (0 : Int32)) hx hb d_Rd_readInside_33 (by decide) ?_
    refine lv_istore hx hb d_Rd_readInside_34 hl (by decide) rfl (fun ls hl => ?_)
    have hl : lv_has ls 9 [(5, .int (0 : Int32)), (4, .int (125 : Int32)), (0, .ref (g.1 12)), (1, .int x1), (2, .int x2), (3, .int x3)] := hl
    refine lv_iconst (v := (0 : Int32)) hx hb d_Rd_readInside_36 (by decide) ?_
    refine lv_istore hx hb d_Rd_readInside_37 hl (by decide) rfl (fun ls hl => ?_)
    have hl : lv_has ls 9 [(6, .int (0 : Int32)), (5, .int (0 : Int32)), (4, .int (125 : Int32)), (0, .ref (g.1 12)), (1, .int x1), (2, .int x2), (3, .int x3)] := hl
    refine lv_iconst (v := (0 : Int32)) hx hb d_Rd_readInside_39 (by decide) ?_
    refine lv_istore hx hb d_Rd_readInside_40 hl (by decide) rfl (fun ls hl => ?_)
    have hl : lv_has ls 9 [(7, .int (0 : Int32)), (6, .int (0 : Int32)), (5, .int (0 : Int32)), (4, .int (125 : Int32)), (0, .ref (g.1 12)), (1, .int x1), (2, .int x2), (3, .int x3)] := hl
    exact j2 x1 x2 x3 (125 : Int32) (0 : Int32) (0 : Int32) (0 : Int32) σ _ _ _ (lv_sub hl [4, 5, 6, 7, 3, 2, 1, 0] rfl) hst h
set_option maxRecDepth 100000 in
set_option maxHeartbeats 4000000 in
theorem b_Rd_readInside_0_2 {p : Program} {l : Launch} {e : Env} {s : State} {m : MethodId} {args : Array Value} {below : List Frame} {meth : Method} {c : Code} {D : va_G} {g : Gm} {A : Nat → Prop} {post : Sg → Prop} {F : Nat → Int32 → Int32 → Int32 → Int32 → Int32 → Int32 → Int32 → Sg → Prop} (C : kC p s m args meth c k_Rd_readInside 9 (none) GW R_Rd D vwCl g (Zk g) A) {V : Nat → Int32 → Int32 → Int32 → Sg → (Sg → Prop) → Prop} {d : Nat} (hV : ∀ (sz : Nat) (x1 : Int32) (x2 : Int32) (x3 : Int32) (σ : Sg) (post : Sg → Prop), V 0 x1 x2 x3 σ post → Met l y_Rd_readValue (.code y_Rd_readValue k_Rd_readValue 6 (none) :: GW) { frames := (4 + 3 * d), cells := 0, slots := 0, locals := (100 + 76 * d) } (PcW D vwCl (WS g) g (Zk g) σ sz [.ref (g.1 12), .int x1, .int x2, .int x3]) (QvW D vwCl (WS g) post (va_A (WS g σ) sz)) 0 0 (va_A (WS g σ) sz)) (j2 : J_Rd_readInside_0_2 p l e s m args below meth c D g A d post F) (j3 : J_Rd_readInside_0_3 p l e s m args below meth c D g A d post F) (j4 : J_Rd_readInside_0_4 p l e s m args below meth c D g A d post F) (x1 : Int32) (x2 : Int32) (x3 : Int32) (x4 : Int32) (x5 : Int32) (x6 : Int32) (x7 : Int32) (σ : Sg) (H : Heap) (locs : List Loc) (ls : Array Slot) (hl : lv_has ls 9 [(0, .ref (g.1 12)), (1, .int x1), (2, .int x2), (3, .int x3), (4, .int x4), (5, .int x5), (6, .int x6), (7, .int x7)]) (hst : Wst D vwCl (WS g) A s σ H locs) (h : wb_Rd_readInside_2 V 0 F post x1 x2 x3 x4 x5 x6 x7 σ) : W p l e { frames := (6 + 3 * d), cells := 0, slots := 0, locals := (148 + 76 * d) } s m args below meth c H locs 0 0 (MQ below (QvW D vwCl (WS g) post A) args s 0 0 A) (F0 m 42 ls []) := by
  obtain ⟨hx, hb, hr, hml, hown, hts, hlocks, hK, hZ, hA⟩ := C
  unfold wb_Rd_readInside_2 at h
  refine lv_iload hx hb d_Rd_readInside_42 (lv_at hl 7 rfl) ?_
  refine lv_aload_n hx hb d_Rd_readInside_44 rfl (lv_at hl 0 rfl) ?_
  refine va_get (D := D) (ci := 2) (C := R_Rd) (T := T_Rd) (N := 5) hx hb hts in_Rd hown hK hst.1 12 (WS_o12 g σ) rfl 2 (by decide) (hts _ gw212) (fun _ h9 => h9) rfl d_Rd_readInside_45 ?_
  refine va_get (D := D) (ci := 1) (C := R_Tx) (T := T_Tx) (N := 2) hx hb hts in_Tx hown hK hst.1 10 (WS_o10 g σ) rfl 1 (by decide) (hts _ gw114) (fun _ h9 => h9) rfl d_Rd_readInside_48 ?_
  refine lv_icmp_gt (tgt := 266) hx hb d_Rd_readInside_51 (by decide) (fun hc => ?_) (fun hc => ?_)
  · replace h := h.1 hc
    exact kw_vret hx hb hr hlocks hst h d_Rd_readInside_266
  · replace h := h.2 hc
    refine lv_aload_n hx hb d_Rd_readInside_54 rfl (lv_at hl 0 rfl) ?_
    refine kw_callv (va_runV (As := []) (rest := []) (b := g.1 12) ⟨hx, hb, hml, hown, hts⟩ (c_Rd_passBlanks_0 l h) (cwV 0 hts (gd_v gw617 gw619 gs4 gw9 gw620) rfl rfl rfl (by decide +kernel) ⟨show 0 + 1 ≤ (6 + 3 * d) by omega, show 8 + (1 + 11) + 0 ≤ (148 + 76 * d) by omega⟩) ⟨kw_blind (Zk_ok g), va_recv hK hst.1 rfl (WS_o12 g σ), kw_pre (Zk_ok g) hK hZ hA hst⟩ rfl rfl hl.1 rfl (lv_room (Nat.le_of_ble_eq_true rfl)) d_Rd_readInside_55 ⟨Nat.le_of_ble_eq_true rfl, Nat.le_of_ble_eq_true rfl⟩) hst hA (fun σ1 H locs h hst => ?_)
    refine lv_aload_n hx hb d_Rd_readInside_58 rfl (lv_at hl 0 rfl) ?_
    refine va_get (D := D) (ci := 2) (C := R_Rd) (T := T_Rd) (N := 5) hx hb hts in_Rd hown hK hst.1 12 (WS_o12 g σ1) rfl 4 (by decide) (hts _ gw214) (fun _ h9 => h9) rfl d_Rd_readInside_59 ?_
    refine lv_aload_n hx hb d_Rd_readInside_62 rfl (lv_at hl 0 rfl) ?_
    refine va_get (D := D) (ci := 2) (C := R_Rd) (T := T_Rd) (N := 5) hx hb hts in_Rd hown hK hst.1 12 (WS_o12 g σ1) rfl 2 (by decide) (hts _ gw212) (fun _ h9 => h9) rfl d_Rd_readInside_63 ?_
    refine va_get (D := D) (ci := 1) (C := R_Tx) (T := T_Tx) (N := 2) hx hb hts in_Tx hown hK hst.1 10 (WS_o10 g σ1) rfl 1 (by decide) (hts _ gw114) (fun _ h9 => h9) rfl d_Rd_readInside_66 ?_
    refine lv_icmp_lt (tgt := 90) hx hb d_Rd_readInside_69 (by decide) (fun hc => ?_) (fun hc => ?_)
    · replace h := h.1 hc
      refine lv_aload_n hx hb d_Rd_readInside_90 rfl (lv_at hl 0 rfl) ?_
      refine va_get (D := D) (ci := 2) (C := R_Rd) (T := T_Rd) (N := 5) hx hb hts in_Rd hown hK hst.1 12 (WS_o12 g σ1) rfl 2 (by decide) (hts _ gw212) (fun _ h9 => h9) rfl d_Rd_readInside_91 ?_
      refine va_get (D := D) (ci := 1) (C := R_Tx) (T := T_Tx) (N := 2) hx hb hts in_Tx hown hK hst.1 10 (WS_o10 g σ1) rfl 0 (by decide) (hts _ gw107) (fun _ h9 => h9) rfl d_Rd_readInside_94 ?_
      refine lv_aload_n hx hb d_Rd_readInside_97 rfl (lv_at hl 0 rfl) ?_
      refine va_get (D := D) (ci := 2) (C := R_Rd) (T := T_Rd) (N := 5) hx hb hts in_Rd hown hK hst.1 12 (WS_o12 g σ1) rfl 4 (by decide) (hts _ gw214) (fun _ h9 => h9) rfl d_Rd_readInside_98 ?_
      obtain ⟨hi, h⟩ := h
      refine va_cald hx hb hK hst.1 11 1 (WS_a11 g σ1) rfl hi d_Rd_readInside_101 ?_
      refine lv_istore hx hb d_Rd_readInside_102 hl (by decide) rfl (fun ls hl => ?_)
      have hl : lv_has ls 9 [(8, .int (σ1.1 11 ((σ1.1 12 4) : Int32).toNatClampNeg)), (0, .ref (g.1 12)), (1, .int x1), (2, .int x2), (3, .int x3), (4, .int x4), (5, .int x5), (6, .int x6), (7, .int x7)] := hl
      refine lv_iload hx hb d_Rd_readInside_104 (lv_at hl 0 rfl) ?_
      refine lv_iload hx hb d_Rd_readInside_106 (lv_at hl 5 rfl) ?_
      refine lv_icmp_ne (tgt := 145) hx hb d_Rd_readInside_108 (by decide) (fun hc => ?_) (fun hc => ?_)
      · replace h := h.1 hc
        refine lv_iload hx hb d_Rd_readInside_145 (lv_at hl 0 rfl) ?_
        refine lv_bipush (v := (44 : Int32)) hx hb d_Rd_readInside_147 (by decide) ?_
        refine lv_icmp_ne (tgt := 189) hx hb d_Rd_readInside_149 (by decide) (fun hc => ?_) (fun hc => ?_)
        · replace h := h.1 hc
          refine lv_iload_n hx hb d_Rd_readInside_189 rfl (lv_at hl 4 rfl) ?_
          refine lv_if_eq (tgt := 203) hx hb d_Rd_readInside_190 (by decide) (fun hc => ?_) (fun hc => ?_)
          · replace h := h.1 hc
            refine lv_aload_n hx hb d_Rd_readInside_203 rfl (lv_at hl 1 rfl) ?_
            refine lv_iload_n hx hb d_Rd_readInside_204 rfl (lv_at hl 3 rfl) ?_
            refine kw_calli (va_runV (As := [.int x2]) (rest := []) (b := g.1 12) ⟨hx, hb, hml, hown, hts⟩ (c_Rd_valueBegins_0 l x2 h) (cwV 1 hts (gd_v gw621 gw623 gs5 gw9 gw624) rfl rfl rfl (by decide +kernel) ⟨show 1 + 1 ≤ (6 + 3 * d) by omega, show 8 + (3 + 11) + 20 ≤ (148 + 76 * d) by omega⟩) ⟨kw_blind (Zk_ok g), va_recv hK hst.1 rfl (WS_o12 g σ1), kw_pre (Zk_ok g) hK hZ hA hst⟩ rfl rfl hl.1 rfl (lv_room (Nat.le_of_ble_eq_true rfl)) d_Rd_readInside_205 ⟨Nat.le_of_ble_eq_true rfl, Nat.le_of_ble_eq_true rfl⟩) hst hA (fun r2 σ2 H locs h hst => ?_)
            refine lv_if_eq (tgt := 255) hx hb d_Rd_readInside_208 (by decide) (fun hc => ?_) (fun hc => ?_)
            · replace h := h.1 hc
              refine lv_aload_n hx hb d_Rd_readInside_255 rfl (lv_at hl 1 rfl) ?_
              refine lv_iload_n hx hb d_Rd_readInside_256 rfl (lv_at hl 3 rfl) ?_
              refine kw_callv (va_runV (As := [.int x2]) (rest := []) (b := g.1 12) ⟨hx, hb, hml, hown, hts⟩ (c_Rd_passWrong_0 l x2 h) (cwV 1 hts (gd_v gw634 gw636 gs6 gw9 gw637) rfl rfl rfl (by decide +kernel) ⟨show 1 + 1 ≤ (6 + 3 * d) by omega, show 8 + (3 + 11) + 22 ≤ (148 + 76 * d) by omega⟩) ⟨kw_blind (Zk_ok g), va_recv hK hst.1 rfl (WS_o12 g σ2), kw_pre (Zk_ok g) hK hZ hA hst⟩ rfl rfl hl.1 rfl (lv_room (Nat.le_of_ble_eq_true rfl)) d_Rd_readInside_257 ⟨Nat.le_of_ble_eq_true rfl, Nat.le_of_ble_eq_true rfl⟩) hst hA (fun σ3 H locs h hst => ?_)
              refine lv_iinc (k := 8) (v := (x7 + 1)) hx hb d_Rd_readInside_260 hl rfl (kw_inc _ (by decide)) (by decide) rfl (fun ls hl => ?_)
              have hl : lv_has ls 9 [(7, .int (x7 + 1)), (8, .int (σ1.1 11 ((σ1.1 12 4) : Int32).toNatClampNeg)), (0, .ref (g.1 12)), (1, .int x1), (2, .int x2), (3, .int x3), (4, .int x4), (5, .int x5), (6, .int x6)] := hl
              refine lv_goto (tgt := 42) hx hb d_Rd_readInside_263 (by decide) ?_
              exact j2 x1 x2 x3 x4 x5 x6 (x7 + 1) σ3 _ _ _ (lv_sub hl [2, 3, 4, 5, 6, 7, 8, 0] rfl) hst h
            · replace h := h.2 hc
              exact j3 x1 x2 x3 x4 x5 x6 x7 σ2 _ _ _ (lv_sub hl [1, 2, 3, 4, 5, 6, 7, 8] rfl) hst h
          · replace h := h.2 hc
            refine lv_iload hx hb d_Rd_readInside_193 (lv_at hl 0 rfl) ?_
            refine lv_bipush (v := (34 : Int32)) hx hb d_Rd_readInside_195 (by decide) ?_
            refine lv_icmp_ne (tgt := 255) hx hb d_Rd_readInside_197 (by decide) (fun hc => ?_) (fun hc => ?_)
            · replace h := h.1 hc
              refine lv_aload_n hx hb d_Rd_readInside_255 rfl (lv_at hl 1 rfl) ?_
              refine lv_iload_n hx hb d_Rd_readInside_256 rfl (lv_at hl 3 rfl) ?_
              refine kw_callv (va_runV (As := [.int x2]) (rest := []) (b := g.1 12) ⟨hx, hb, hml, hown, hts⟩ (c_Rd_passWrong_0 l x2 h) (cwV 1 hts (gd_v gw634 gw636 gs6 gw9 gw637) rfl rfl rfl (by decide +kernel) ⟨show 1 + 1 ≤ (6 + 3 * d) by omega, show 8 + (3 + 11) + 22 ≤ (148 + 76 * d) by omega⟩) ⟨kw_blind (Zk_ok g), va_recv hK hst.1 rfl (WS_o12 g σ1), kw_pre (Zk_ok g) hK hZ hA hst⟩ rfl rfl hl.1 rfl (lv_room (Nat.le_of_ble_eq_true rfl)) d_Rd_readInside_257 ⟨Nat.le_of_ble_eq_true rfl, Nat.le_of_ble_eq_true rfl⟩) hst hA (fun σ2 H locs h hst => ?_)
              refine lv_iinc (k := 8) (v := (x7 + 1)) hx hb d_Rd_readInside_260 hl rfl (kw_inc _ (by decide)) (by decide) rfl (fun ls hl => ?_)
              have hl : lv_has ls 9 [(7, .int (x7 + 1)), (8, .int (σ1.1 11 ((σ1.1 12 4) : Int32).toNatClampNeg)), (0, .ref (g.1 12)), (1, .int x1), (2, .int x2), (3, .int x3), (4, .int x4), (5, .int x5), (6, .int x6)] := hl
              refine lv_goto (tgt := 42) hx hb d_Rd_readInside_263 (by decide) ?_
              exact j2 x1 x2 x3 x4 x5 x6 (x7 + 1) σ2 _ _ _ (lv_sub hl [2, 3, 4, 5, 6, 7, 8, 0] rfl) hst h
            · replace h := h.2 hc
              refine lv_goto (tgt := 211) hx hb d_Rd_readInside_200 (by decide) ?_
              exact j3 x1 x2 x3 x4 x5 x6 x7 σ1 _ _ _ (lv_sub hl [1, 2, 3, 4, 5, 6, 7, 8] rfl) hst h
        · replace h := h.2 hc
          refine lv_iload hx hb d_Rd_readInside_152 (lv_at hl 7 rfl) ?_
          refine lv_if_ne (tgt := 170) hx hb d_Rd_readInside_154 (by decide) (fun hc => ?_) (fun hc => ?_)
          · replace h := h.1 hc
            exact j4 x1 x2 x3 x4 x7 σ1 _ _ _ (lv_sub hl [1, 2, 3, 4, 5, 8] rfl) hst h
          · replace h := h.2 hc
            refine lv_aload_n hx hb d_Rd_readInside_157 rfl (lv_at hl 1 rfl) ?_
            refine va_get (D := D) (ci := 2) (C := R_Rd) (T := T_Rd) (N := 5) hx hb hts in_Rd hown hK hst.1 12 (WS_o12 g σ1) rfl 0 (by decide) (hts _ gw208) (fun _ h9 => h9) rfl d_Rd_readInside_158 ?_
            refine lv_bipush (v := (8 : Int32)) hx hb d_Rd_readInside_161 (by decide) ?_
            refine lv_aload_n hx hb d_Rd_readInside_163 rfl (lv_at hl 1 rfl) ?_
            refine va_get (D := D) (ci := 2) (C := R_Rd) (T := T_Rd) (N := 5) hx hb hts in_Rd hown hK hst.1 12 (WS_o12 g σ1) rfl 4 (by decide) (hts _ gw214) (fun _ h9 => h9) rfl d_Rd_readInside_164 ?_
            refine kw_callv (va_runV (As := [.int (8 : Int32), .int (σ1.1 12 4)]) (rest := []) (b := g.1 0) ⟨hx, hb, hml, hown, hts⟩ (c_Tr_blame_0 l (8 : Int32) (σ1.1 12 4) h) (cwV 2 hts (gd_v gw638 gw639 gw640 gw7 gw641) rfl rfl rfl (by decide +kernel) ⟨show 0 + 1 ≤ (6 + 3 * d) by omega, show 8 + (3 + 11) + 0 ≤ (148 + 76 * d) by omega⟩) ⟨kw_blind (Zk_ok g), va_recv hK hst.1 rfl (WS_o0 g σ1), kw_pre (Zk_ok g) hK hZ hA hst⟩ rfl rfl hl.1 rfl (lv_room (Nat.le_of_ble_eq_true rfl)) d_Rd_readInside_167 ⟨Nat.le_of_ble_eq_true rfl, Nat.le_of_ble_eq_true rfl⟩) hst hA (fun σ2 H locs h hst => ?_)
            exact j4 x1 x2 x3 x4 x7 σ2 _ _ _ (lv_sub hl [1, 2, 3, 4, 5, 8] rfl) hst h
      · replace h := h.2 hc
        refine lv_iload hx hb d_Rd_readInside_111 (lv_at hl 6 rfl) ?_
        refine lv_if_eq (tgt := 134) hx hb d_Rd_readInside_113 (by decide) (fun hc => ?_) (fun hc => ?_)
        · replace h := h.1 hc
          refine lv_aload_n hx hb d_Rd_readInside_134 rfl (lv_at hl 1 rfl) ?_
          refine lv_dup hx hb d_Rd_readInside_135 rfl ?_
          refine va_get (D := D) (ci := 2) (C := R_Rd) (T := T_Rd) (N := 5) hx hb hts in_Rd hown hK hst.1 12 (WS_o12 g σ1) rfl 4 (by decide) (hts _ gw214) (fun _ h9 => h9) rfl d_Rd_readInside_136 ?_
          refine lv_iconst (v := (1 : Int32)) hx hb d_Rd_readInside_139 (by decide) ?_
          refine lv_iadd hx hb d_Rd_readInside_140 ?_
          refine kw_put (D := D) (ci := 2) (ty := .int) (C := R_Rd) (T := T_Rd) (N := 5) hx hb hts in_Rd ty_Rd ty_Rd_ok nm_Rd hown hK hst 12 (WS_o12 g σ1) rfl 4 (by decide) (hts _ gw214) (fun _ h9 => h9) rfl (by decide +kernel) rfl rfl (Nat.le_of_ble_eq_true rfl) (WS_p12_4 g σ1 _) d_Rd_readInside_141 (fun σ2 H locs e2 hst => ?_)
          replace h := h σ2 e2
          exact kw_vret hx hb hr hlocks hst h d_Rd_readInside_144
        · replace h := h.2 hc
          refine lv_iload hx hb d_Rd_readInside_116 (lv_at hl 7 rfl) ?_
          refine lv_if_ne (tgt := 134) hx hb d_Rd_readInside_118 (by decide) (fun hc => ?_) (fun hc => ?_)
          · replace h := h.1 hc
            refine lv_aload_n hx hb d_Rd_readInside_134 rfl (lv_at hl 1 rfl) ?_
            refine lv_dup hx hb d_Rd_readInside_135 rfl ?_
            refine va_get (D := D) (ci := 2) (C := R_Rd) (T := T_Rd) (N := 5) hx hb hts in_Rd hown hK hst.1 12 (WS_o12 g σ1) rfl 4 (by decide) (hts _ gw214) (fun _ h9 => h9) rfl d_Rd_readInside_136 ?_
            refine lv_iconst (v := (1 : Int32)) hx hb d_Rd_readInside_139 (by decide) ?_
            refine lv_iadd hx hb d_Rd_readInside_140 ?_
            refine kw_put (D := D) (ci := 2) (ty := .int) (C := R_Rd) (T := T_Rd) (N := 5) hx hb hts in_Rd ty_Rd ty_Rd_ok nm_Rd hown hK hst 12 (WS_o12 g σ1) rfl 4 (by decide) (hts _ gw214) (fun _ h9 => h9) rfl (by decide +kernel) rfl rfl (Nat.le_of_ble_eq_true rfl) (WS_p12_4 g σ1 _) d_Rd_readInside_141 (fun σ2 H locs e2 hst => ?_)
            replace h := h σ2 e2
            exact kw_vret hx hb hr hlocks hst h d_Rd_readInside_144
          · replace h := h.2 hc
            refine lv_aload_n hx hb d_Rd_readInside_121 rfl (lv_at hl 1 rfl) ?_
            refine va_get (D := D) (ci := 2) (C := R_Rd) (T := T_Rd) (N := 5) hx hb hts in_Rd hown hK hst.1 12 (WS_o12 g σ1) rfl 0 (by decide) (hts _ gw208) (fun _ h9 => h9) rfl d_Rd_readInside_122 ?_
            refine lv_bipush (v := (10 : Int32)) hx hb d_Rd_readInside_125 (by decide) ?_
            refine lv_aload_n hx hb d_Rd_readInside_127 rfl (lv_at hl 1 rfl) ?_
            refine va_get (D := D) (ci := 2) (C := R_Rd) (T := T_Rd) (N := 5) hx hb hts in_Rd hown hK hst.1 12 (WS_o12 g σ1) rfl 4 (by decide) (hts _ gw214) (fun _ h9 => h9) rfl d_Rd_readInside_128 ?_
            refine kw_callv (va_runV (As := [.int (10 : Int32), .int (σ1.1 12 4)]) (rest := []) (b := g.1 0) ⟨hx, hb, hml, hown, hts⟩ (c_Tr_blame_0 l (10 : Int32) (σ1.1 12 4) h) (cwV 2 hts (gd_v gw638 gw639 gw640 gw7 gw641) rfl rfl rfl (by decide +kernel) ⟨show 0 + 1 ≤ (6 + 3 * d) by omega, show 8 + (3 + 11) + 0 ≤ (148 + 76 * d) by omega⟩) ⟨kw_blind (Zk_ok g), va_recv hK hst.1 rfl (WS_o0 g σ1), kw_pre (Zk_ok g) hK hZ hA hst⟩ rfl rfl hl.1 rfl (lv_room (Nat.le_of_ble_eq_true rfl)) d_Rd_readInside_131 ⟨Nat.le_of_ble_eq_true rfl, Nat.le_of_ble_eq_true rfl⟩) hst hA (fun σ2 H locs h hst => ?_)
            refine lv_aload_n hx hb d_Rd_readInside_134 rfl (lv_at hl 1 rfl) ?_
            refine lv_dup hx hb d_Rd_readInside_135 rfl ?_
            refine va_get (D := D) (ci := 2) (C := R_Rd) (T := T_Rd) (N := 5) hx hb hts in_Rd hown hK hst.1 12 (WS_o12 g σ2) rfl 4 (by decide) (hts _ gw214) (fun _ h9 => h9) rfl d_Rd_readInside_136 ?_
            refine lv_iconst (v := (1 : Int32)) hx hb d_Rd_readInside_139 (by decide) ?_
            refine lv_iadd hx hb d_Rd_readInside_140 ?_
            refine kw_put (D := D) (ci := 2) (ty := .int) (C := R_Rd) (T := T_Rd) (N := 5) hx hb hts in_Rd ty_Rd ty_Rd_ok nm_Rd hown hK hst 12 (WS_o12 g σ2) rfl 4 (by decide) (hts _ gw214) (fun _ h9 => h9) rfl (by decide +kernel) rfl rfl (Nat.le_of_ble_eq_true rfl) (WS_p12_4 g σ2 _) d_Rd_readInside_141 (fun σ3 H locs e3 hst => ?_)
            replace h := h σ3 e3
            exact kw_vret hx hb hr hlocks hst h d_Rd_readInside_144
    · replace h := h.2 hc
      refine lv_aload_n hx hb d_Rd_readInside_72 rfl (lv_at hl 0 rfl) ?_
      refine va_get (D := D) (ci := 2) (C := R_Rd) (T := T_Rd) (N := 5) hx hb hts in_Rd hown hK hst.1 12 (WS_o12 g σ1) rfl 0 (by decide) (hts _ gw208) (fun _ h9 => h9) rfl d_Rd_readInside_73 ?_
      refine lv_iconst (v := (4 : Int32)) hx hb d_Rd_readInside_76 (by decide) ?_
      refine lv_aload_n hx hb d_Rd_readInside_77 rfl (lv_at hl 0 rfl) ?_
      refine va_get (D := D) (ci := 2) (C := R_Rd) (T := T_Rd) (N := 5) hx hb hts in_Rd hown hK hst.1 12 (WS_o12 g σ1) rfl 0 (by decide) (hts _ gw208) (fun _ h9 => h9) rfl d_Rd_readInside_78 ?_
      refine va_get (D := D) (ci := 0) (C := R_Tr) (T := T_Tr) (N := 12) hx hb hts in_Tr hown hK hst.1 0 (WS_o0 g σ1) rfl 2 (by decide) (hts _ gw140) (fun _ h9 => h9) rfl d_Rd_readInside_81 ?_
      refine lv_iload_n hx hb d_Rd_readInside_84 rfl (lv_at hl 1 rfl) ?_
      obtain ⟨hi, h⟩ := h
      refine va_iald hx hb hK hst.1 2 0 (WS_a2 g σ1) rfl hi d_Rd_readInside_85 ?_
      refine kw_callv (va_runV (As := [.int (4 : Int32), .int (σ1.1 2 x1.toNatClampNeg)]) (rest := []) (b := g.1 0) ⟨hx, hb, hml, hown, hts⟩ (c_Tr_blame_0 l (4 : Int32) (σ1.1 2 x1.toNatClampNeg) h) (cwV 2 hts (gd_v gw638 gw639 gw640 gw7 gw641) rfl rfl rfl (by decide +kernel) ⟨show 0 + 1 ≤ (6 + 3 * d) by omega, show 8 + (3 + 11) + 0 ≤ (148 + 76 * d) by omega⟩) ⟨kw_blind (Zk_ok g), va_recv hK hst.1 rfl (WS_o0 g σ1), kw_pre (Zk_ok g) hK hZ hA hst⟩ rfl rfl hl.1 rfl (lv_room (Nat.le_of_ble_eq_true rfl)) d_Rd_readInside_86 ⟨Nat.le_of_ble_eq_true rfl, Nat.le_of_ble_eq_true rfl⟩) hst hA (fun σ2 H locs h hst => ?_)
      exact kw_vret hx hb hr hlocks hst h d_Rd_readInside_89
set_option maxRecDepth 100000 in
set_option maxHeartbeats 4000000 in
theorem b_Rd_readInside_0_3 {p : Program} {l : Launch} {e : Env} {s : State} {m : MethodId} {args : Array Value} {below : List Frame} {meth : Method} {c : Code} {D : va_G} {g : Gm} {A : Nat → Prop} {post : Sg → Prop} {F : Nat → Int32 → Int32 → Int32 → Int32 → Int32 → Int32 → Int32 → Sg → Prop} (C : kC p s m args meth c k_Rd_readInside 9 (none) GW R_Rd D vwCl g (Zk g) A) {V : Nat → Int32 → Int32 → Int32 → Sg → (Sg → Prop) → Prop} {d : Nat} (hV : ∀ (sz : Nat) (x1 : Int32) (x2 : Int32) (x3 : Int32) (σ : Sg) (post : Sg → Prop), V 0 x1 x2 x3 σ post → Met l y_Rd_readValue (.code y_Rd_readValue k_Rd_readValue 6 (none) :: GW) { frames := (4 + 3 * d), cells := 0, slots := 0, locals := (100 + 76 * d) } (PcW D vwCl (WS g) g (Zk g) σ sz [.ref (g.1 12), .int x1, .int x2, .int x3]) (QvW D vwCl (WS g) post (va_A (WS g σ) sz)) 0 0 (va_A (WS g σ) sz)) (j5 : J_Rd_readInside_0_5 p l e s m args below meth c D g A d post F) (x1 : Int32) (x2 : Int32) (x3 : Int32) (x4 : Int32) (x5 : Int32) (x6 : Int32) (x7 : Int32) (σ : Sg) (H : Heap) (locs : List Loc) (ls : Array Slot) (hl : lv_has ls 9 [(0, .ref (g.1 12)), (1, .int x1), (2, .int x2), (3, .int x3), (4, .int x4), (5, .int x5), (6, .int x6), (7, .int x7)]) (hst : Wst D vwCl (WS g) A s σ H locs) (h : wb_Rd_readInside_3 V 0 F post x1 x2 x3 x4 x5 x6 x7 σ) : W p l e { frames := (6 + 3 * d), cells := 0, slots := 0, locals := (148 + 76 * d) } s m args below meth c H locs 0 0 (MQ below (QvW D vwCl (WS g) post A) args s 0 0 A) (F0 m 211 ls []) := by
  obtain ⟨hx, hb, hr, hml, hown, hts, hlocks, hK, hZ, hA⟩ := C
  unfold wb_Rd_readInside_3 at h
  refine lv_iload hx hb d_Rd_readInside_211 (lv_at hl 6 rfl) ?_
  refine lv_if_eq (tgt := 229) hx hb d_Rd_readInside_213 (by decide) (fun hc => ?_) (fun hc => ?_)
  · replace h := h.1 hc
    exact j5 x1 x2 x3 x4 x5 x7 σ _ _ _ (lv_sub hl [0, 1, 2, 3, 4, 5, 7] rfl) hst h
  · replace h := h.2 hc
    refine lv_aload_n hx hb d_Rd_readInside_216 rfl (lv_at hl 0 rfl) ?_
    refine va_get (D := D) (ci := 2) (C := R_Rd) (T := T_Rd) (N := 5) hx hb hts in_Rd hown hK hst.1 12 (WS_o12 g σ) rfl 0 (by decide) (hts _ gw208) (fun _ h9 => h9) rfl d_Rd_readInside_217 ?_
    refine lv_bipush (v := (9 : Int32)) hx hb d_Rd_readInside_220 (by decide) ?_
    refine lv_aload_n hx hb d_Rd_readInside_222 rfl (lv_at hl 0 rfl) ?_
    refine va_get (D := D) (ci := 2) (C := R_Rd) (T := T_Rd) (N := 5) hx hb hts in_Rd hown hK hst.1 12 (WS_o12 g σ) rfl 4 (by decide) (hts _ gw214) (fun _ h9 => h9) rfl d_Rd_readInside_223 ?_
    refine kw_callv (va_runV (As := [.int (9 : Int32), .int (σ.1 12 4)]) (rest := []) (b := g.1 0) ⟨hx, hb, hml, hown, hts⟩ (c_Tr_blame_0 l (9 : Int32) (σ.1 12 4) h) (cwV 2 hts (gd_v gw638 gw639 gw640 gw7 gw641) rfl rfl rfl (by decide +kernel) ⟨show 0 + 1 ≤ (6 + 3 * d) by omega, show 8 + (3 + 11) + 0 ≤ (148 + 76 * d) by omega⟩) ⟨kw_blind (Zk_ok g), va_recv hK hst.1 rfl (WS_o0 g σ), kw_pre (Zk_ok g) hK hZ hA hst⟩ rfl rfl hl.1 rfl (lv_room (Nat.le_of_ble_eq_true rfl)) d_Rd_readInside_226 ⟨Nat.le_of_ble_eq_true rfl, Nat.le_of_ble_eq_true rfl⟩) hst hA (fun σ1 H locs h hst => ?_)
    exact j5 x1 x2 x3 x4 x5 x7 σ1 _ _ _ (lv_sub hl [0, 1, 2, 3, 4, 5, 7] rfl) hst h
set_option maxRecDepth 100000 in
set_option maxHeartbeats 4000000 in
theorem b_Rd_readInside_0_4 {p : Program} {l : Launch} {e : Env} {s : State} {m : MethodId} {args : Array Value} {below : List Frame} {meth : Method} {c : Code} {D : va_G} {g : Gm} {A : Nat → Prop} {post : Sg → Prop} {F : Nat → Int32 → Int32 → Int32 → Int32 → Int32 → Int32 → Int32 → Sg → Prop} (C : kC p s m args meth c k_Rd_readInside 9 (none) GW R_Rd D vwCl g (Zk g) A) {V : Nat → Int32 → Int32 → Int32 → Sg → (Sg → Prop) → Prop} {d : Nat} (hV : ∀ (sz : Nat) (x1 : Int32) (x2 : Int32) (x3 : Int32) (σ : Sg) (post : Sg → Prop), V 0 x1 x2 x3 σ post → Met l y_Rd_readValue (.code y_Rd_readValue k_Rd_readValue 6 (none) :: GW) { frames := (4 + 3 * d), cells := 0, slots := 0, locals := (100 + 76 * d) } (PcW D vwCl (WS g) g (Zk g) σ sz [.ref (g.1 12), .int x1, .int x2, .int x3]) (QvW D vwCl (WS g) post (va_A (WS g σ) sz)) 0 0 (va_A (WS g σ) sz)) (j2 : J_Rd_readInside_0_2 p l e s m args below meth c D g A d post F) (x1 : Int32) (x2 : Int32) (x3 : Int32) (x4 : Int32) (x7 : Int32) (σ : Sg) (H : Heap) (locs : List Loc) (ls : Array Slot) (hl : lv_has ls 9 [(0, .ref (g.1 12)), (1, .int x1), (2, .int x2), (3, .int x3), (4, .int x4), (7, .int x7)]) (hst : Wst D vwCl (WS g) A s σ H locs) (h : wb_Rd_readInside_4 V 0 F post x1 x2 x3 x4 x7 σ) : W p l e { frames := (6 + 3 * d), cells := 0, slots := 0, locals := (148 + 76 * d) } s m args below meth c H locs 0 0 (MQ below (QvW D vwCl (WS g) post A) args s 0 0 A) (F0 m 170 ls []) := by
  obtain ⟨hx, hb, hr, hml, hown, hts, hlocks, hK, hZ, hA⟩ := C
  unfold wb_Rd_readInside_4 at h
  refine lv_aload_n hx hb d_Rd_readInside_170 rfl (lv_at hl 0 rfl) ?_
  refine lv_dup hx hb d_Rd_readInside_171 rfl ?_
  refine va_get (D := D) (ci := 2) (C := R_Rd) (T := T_Rd) (N := 5) hx hb hts in_Rd hown hK hst.1 12 (WS_o12 g σ) rfl 4 (by decide) (hts _ gw214) (fun _ h9 => h9) rfl d_Rd_readInside_172 ?_
  refine lv_iconst (v := (1 : Int32)) hx hb d_Rd_readInside_175 (by decide) ?_
  refine lv_iadd hx hb d_Rd_readInside_176 ?_
  refine kw_put (D := D) (ci := 2) (ty := .int) (C := R_Rd) (T := T_Rd) (N := 5) hx hb hts in_Rd ty_Rd ty_Rd_ok nm_Rd hown hK hst 12 (WS_o12 g σ) rfl 4 (by decide) (hts _ gw214) (fun _ h9 => h9) rfl (by decide +kernel) rfl rfl (Nat.le_of_ble_eq_true rfl) (WS_p12_4 g σ _) d_Rd_readInside_177 (fun σ1 H locs e1 hst => ?_)
  replace h := h σ1 e1
  refine lv_iconst (v := (1 : Int32)) hx hb d_Rd_readInside_180 (by decide) ?_
  refine lv_istore hx hb d_Rd_readInside_181 hl (by decide) rfl (fun ls hl => ?_)
  have hl : lv_has ls 9 [(5, .int (1 : Int32)), (0, .ref (g.1 12)), (1, .int x1), (2, .int x2), (3, .int x3), (4, .int x4), (7, .int x7)] := hl
  refine lv_iconst (v := (0 : Int32)) hx hb d_Rd_readInside_183 (by decide) ?_
  refine lv_istore hx hb d_Rd_readInside_184 hl (by decide) rfl (fun ls hl => ?_)
  have hl : lv_has ls 9 [(6, .int (0 : Int32)), (5, .int (1 : Int32)), (0, .ref (g.1 12)), (1, .int x1), (2, .int x2), (3, .int x3), (4, .int x4), (7, .int x7)] := hl
  refine lv_goto (tgt := 260) hx hb d_Rd_readInside_186 (by decide) ?_
  refine lv_iinc (k := 7) (v := (x7 + 1)) hx hb d_Rd_readInside_260 hl rfl (kw_inc _ (by decide)) (by decide) rfl (fun ls hl => ?_)
  have hl : lv_has ls 9 [(7, .int (x7 + 1)), (6, .int (0 : Int32)), (5, .int (1 : Int32)), (0, .ref (g.1 12)), (1, .int x1), (2, .int x2), (3, .int x3), (4, .int x4)] := hl
  refine lv_goto (tgt := 42) hx hb d_Rd_readInside_263 (by decide) ?_
  exact j2 x1 x2 x3 x4 (1 : Int32) (0 : Int32) (x7 + 1) σ1 _ _ _ (lv_sub hl [3, 4, 5, 6, 7, 2, 1, 0] rfl) hst h
set_option maxRecDepth 100000 in
set_option maxHeartbeats 4000000 in
theorem b_Rd_readInside_0_5 {p : Program} {l : Launch} {e : Env} {s : State} {m : MethodId} {args : Array Value} {below : List Frame} {meth : Method} {c : Code} {D : va_G} {g : Gm} {A : Nat → Prop} {post : Sg → Prop} {F : Nat → Int32 → Int32 → Int32 → Int32 → Int32 → Int32 → Int32 → Sg → Prop} (C : kC p s m args meth c k_Rd_readInside 9 (none) GW R_Rd D vwCl g (Zk g) A) {V : Nat → Int32 → Int32 → Int32 → Sg → (Sg → Prop) → Prop} {d : Nat} (hV : ∀ (sz : Nat) (x1 : Int32) (x2 : Int32) (x3 : Int32) (σ : Sg) (post : Sg → Prop), V 0 x1 x2 x3 σ post → Met l y_Rd_readValue (.code y_Rd_readValue k_Rd_readValue 6 (none) :: GW) { frames := (4 + 3 * d), cells := 0, slots := 0, locals := (100 + 76 * d) } (PcW D vwCl (WS g) g (Zk g) σ sz [.ref (g.1 12), .int x1, .int x2, .int x3]) (QvW D vwCl (WS g) post (va_A (WS g σ) sz)) 0 0 (va_A (WS g σ) sz)) (j2 : J_Rd_readInside_0_2 p l e s m args below meth c D g A d post F) (x1 : Int32) (x2 : Int32) (x3 : Int32) (x4 : Int32) (x5 : Int32) (x7 : Int32) (σ : Sg) (H : Heap) (locs : List Loc) (ls : Array Slot) (hl : lv_has ls 9 [(0, .ref (g.1 12)), (1, .int x1), (2, .int x2), (3, .int x3), (4, .int x4), (5, .int x5), (7, .int x7)]) (hst : Wst D vwCl (WS g) A s σ H locs) (h : wb_Rd_readInside_5 V 0 F post x1 x2 x3 x4 x5 x7 σ) : W p l e { frames := (6 + 3 * d), cells := 0, slots := 0, locals := (148 + 76 * d) } s m args below meth c H locs 0 0 (MQ below (QvW D vwCl (WS g) post A) args s 0 0 A) (F0 m 229 ls []) := by
  obtain ⟨hx, hb, hr, hml, hown, hts, hlocks, hK, hZ, hA⟩ := C
  unfold wb_Rd_readInside_5 at h
  refine lv_iload_n hx hb d_Rd_readInside_229 rfl (lv_at hl 3 rfl) ?_
  refine lv_if_eq (tgt := 242) hx hb d_Rd_readInside_230 (by decide) (fun hc => ?_) (fun hc => ?_)
  · replace h := h.1 hc
    refine lv_aload_n hx hb d_Rd_readInside_242 rfl (lv_at hl 0 rfl) ?_
    refine lv_iload_n hx hb d_Rd_readInside_243 rfl (lv_at hl 1 rfl) ?_
    refine lv_iconst (v := (-1 : Int32)) hx hb d_Rd_readInside_244 (by decide) ?_
    refine lv_iload_n hx hb d_Rd_readInside_245 rfl (lv_at hl 2 rfl) ?_
    refine kw_callv (va_runV (As := [.int x1, .int (-1 : Int32), .int x2]) (rest := []) (b := g.1 12) ⟨hx, hb, hml, hown, hts⟩ (hV _ x1 (-1 : Int32) x2 _ _ h) (cwV 3 hts (gd_v gw642 gw644 gs7 gw9 gw645) rfl rfl rfl (by decide +kernel) ⟨show (4 + 3 * d) + 1 ≤ (6 + 3 * d) by omega, show 8 + (6 + 11) + (100 + 76 * d) ≤ (148 + 76 * d) by omega⟩) ⟨kw_blind (Zk_ok g), va_recv hK hst.1 rfl (WS_o12 g σ), kw_pre (Zk_ok g) hK hZ hA hst⟩ rfl rfl hl.1 rfl (lv_room (Nat.le_of_ble_eq_true rfl)) d_Rd_readInside_246 ⟨Nat.le_of_ble_eq_true rfl, Nat.le_of_ble_eq_true rfl⟩) hst hA (fun σ1 H locs h hst => ?_)
    refine lv_iconst (v := (1 : Int32)) hx hb d_Rd_readInside_249 (by decide) ?_
    refine lv_istore hx hb d_Rd_readInside_250 hl (by decide) rfl (fun ls hl => ?_)
    have hl : lv_has ls 9 [(6, .int (1 : Int32)), (0, .ref (g.1 12)), (1, .int x1), (2, .int x2), (3, .int x3), (4, .int x4), (5, .int x5), (7, .int x7)] := hl
    refine lv_goto (tgt := 260) hx hb d_Rd_readInside_252 (by decide) ?_
    refine lv_iinc (k := 7) (v := (x7 + 1)) hx hb d_Rd_readInside_260 hl rfl (kw_inc _ (by decide)) (by decide) rfl (fun ls hl => ?_)
    have hl : lv_has ls 9 [(7, .int (x7 + 1)), (6, .int (1 : Int32)), (0, .ref (g.1 12)), (1, .int x1), (2, .int x2), (3, .int x3), (4, .int x4), (5, .int x5)] := hl
    refine lv_goto (tgt := 42) hx hb d_Rd_readInside_263 (by decide) ?_
    exact j2 x1 x2 x3 x4 x5 (1 : Int32) (x7 + 1) σ1 _ _ _ (lv_sub hl [2, 3, 4, 5, 6, 7, 1, 0] rfl) hst h
  · replace h := h.2 hc
    refine lv_aload_n hx hb d_Rd_readInside_233 rfl (lv_at hl 0 rfl) ?_
    refine lv_iload_n hx hb d_Rd_readInside_234 rfl (lv_at hl 1 rfl) ?_
    refine lv_iload_n hx hb d_Rd_readInside_235 rfl (lv_at hl 2 rfl) ?_
    refine kw_callv (va_runV (As := [.int x1, .int x2]) (rest := []) (b := g.1 12) ⟨hx, hb, hml, hown, hts⟩ (c_Rd_readMember_0 l V d hV x1 x2 h) (cwV 2 hts (gd_v gw657 gw659 gs9 gw9 gw660) rfl rfl rfl (by decide +kernel) ⟨show (5 + 3 * d) + 1 ≤ (6 + 3 * d) by omega, show 8 + (4 + 11) + (125 + 76 * d) ≤ (148 + 76 * d) by omega⟩) ⟨kw_blind (Zk_ok g), va_recv hK hst.1 rfl (WS_o12 g σ), kw_pre (Zk_ok g) hK hZ hA hst⟩ rfl rfl hl.1 rfl (lv_room (Nat.le_of_ble_eq_true rfl)) d_Rd_readInside_236 ⟨Nat.le_of_ble_eq_true rfl, Nat.le_of_ble_eq_true rfl⟩) hst hA (fun σ1 H locs h hst => ?_)
    refine lv_goto (tgt := 249) hx hb d_Rd_readInside_239 (by decide) ?_
    refine lv_iconst (v := (1 : Int32)) hx hb d_Rd_readInside_249 (by decide) ?_
    refine lv_istore hx hb d_Rd_readInside_250 hl (by decide) rfl (fun ls hl => ?_)
    have hl : lv_has ls 9 [(6, .int (1 : Int32)), (0, .ref (g.1 12)), (1, .int x1), (2, .int x2), (3, .int x3), (4, .int x4), (5, .int x5), (7, .int x7)] := hl
    refine lv_goto (tgt := 260) hx hb d_Rd_readInside_252 (by decide) ?_
    refine lv_iinc (k := 7) (v := (x7 + 1)) hx hb d_Rd_readInside_260 hl rfl (kw_inc _ (by decide)) (by decide) rfl (fun ls hl => ?_)
    have hl : lv_has ls 9 [(7, .int (x7 + 1)), (6, .int (1 : Int32)), (0, .ref (g.1 12)), (1, .int x1), (2, .int x2), (3, .int x3), (4, .int x4), (5, .int x5)] := hl
    refine lv_goto (tgt := 42) hx hb d_Rd_readInside_263 (by decide) ?_
    exact j2 x1 x2 x3 x4 x5 (1 : Int32) (x7 + 1) σ1 _ _ _ (lv_sub hl [2, 3, 4, 5, 6, 7, 1, 0] rfl) hst h
set_option maxRecDepth 100000 in
set_option maxHeartbeats 4000000 in
theorem a_Rd_readInside_0 {p : Program} {l : Launch} {e : Env} {s : State} {m : MethodId} {args : Array Value} {below : List Frame} {meth : Method} {c : Code} {D : va_G} {g : Gm} {A : Nat → Prop} {post : Sg → Prop} (C : kC p s m args meth c k_Rd_readInside 9 (none) GW R_Rd D vwCl g (Zk g) A) {V : Nat → Int32 → Int32 → Int32 → Sg → (Sg → Prop) → Prop} {d : Nat} (hV : ∀ (sz : Nat) (x1 : Int32) (x2 : Int32) (x3 : Int32) (σ : Sg) (post : Sg → Prop), V 0 x1 x2 x3 σ post → Met l y_Rd_readValue (.code y_Rd_readValue k_Rd_readValue 6 (none) :: GW) { frames := (4 + 3 * d), cells := 0, slots := 0, locals := (100 + 76 * d) } (PcW D vwCl (WS g) g (Zk g) σ sz [.ref (g.1 12), .int x1, .int x2, .int x3]) (QvW D vwCl (WS g) post (va_A (WS g σ) sz)) 0 0 (va_A (WS g σ) sz)) : ∀ n : Nat, J_Rd_readInside_0_1 p l e s m args below meth c D g A d post (wp_Rd_readInside V 0 post n) ∧ J_Rd_readInside_0_2 p l e s m args below meth c D g A d post (wp_Rd_readInside V 0 post n) ∧ J_Rd_readInside_0_3 p l e s m args below meth c D g A d post (wp_Rd_readInside V 0 post n) ∧ J_Rd_readInside_0_4 p l e s m args below meth c D g A d post (wp_Rd_readInside V 0 post n) ∧ J_Rd_readInside_0_5 p l e s m args below meth c D g A d post (wp_Rd_readInside V 0 post n) := by
  intro n
  induction n with
  | zero => exact ⟨fun _ _ _ _ _ _ _ _ _ h => h.elim, fun _ _ _ _ _ _ _ _ _ _ _ _ _ h => h.elim, fun _ _ _ _ _ _ _ _ _ _ _ _ _ h => h.elim, fun _ _ _ _ _ _ _ _ _ _ _ h => h.elim, fun _ _ _ _ _ _ _ _ _ _ _ _ h => h.elim⟩
  | succ n ih => exact ⟨fun x1 x2 x3 σ H locs ls hl hst h => b_Rd_readInside_0_1 (F := wp_Rd_readInside V 0 post n) C hV (ih.2.1) x1 x2 x3 σ H locs ls hl hst h, fun x1 x2 x3 x4 x5 x6 x7 σ H locs ls hl hst h => b_Rd_readInside_0_2 (F := wp_Rd_readInside V 0 post n) C hV (ih.2.1) (ih.2.2.1) (ih.2.2.2.1) x1 x2 x3 x4 x5 x6 x7 σ H locs ls hl hst h, fun x1 x2 x3 x4 x5 x6 x7 σ H locs ls hl hst h => b_Rd_readInside_0_3 (F := wp_Rd_readInside V 0 post n) C hV (ih.2.2.2.2) x1 x2 x3 x4 x5 x6 x7 σ H locs ls hl hst h, fun x1 x2 x3 x4 x7 σ H locs ls hl hst h => b_Rd_readInside_0_4 (F := wp_Rd_readInside V 0 post n) C hV (ih.2.1) x1 x2 x3 x4 x7 σ H locs ls hl hst h, fun x1 x2 x3 x4 x5 x7 σ H locs ls hl hst h => b_Rd_readInside_0_5 (F := wp_Rd_readInside V 0 post n) C hV (ih.2.1) x1 x2 x3 x4 x5 x7 σ H locs ls hl hst h⟩
set_option maxRecDepth 100000 in
set_option maxHeartbeats 4000000 in
theorem c_Rd_readInside_0 (l : Launch) {D : va_G} {g : Gm} (V : Nat → Int32 → Int32 → Int32 → Sg → (Sg → Prop) → Prop) (d : Nat) (hV : ∀ (sz : Nat) (x1 : Int32) (x2 : Int32) (x3 : Int32) (σ : Sg) (post : Sg → Prop), V 0 x1 x2 x3 σ post → Met l y_Rd_readValue (.code y_Rd_readValue k_Rd_readValue 6 (none) :: GW) { frames := (4 + 3 * d), cells := 0, slots := 0, locals := (100 + 76 * d) } (PcW D vwCl (WS g) g (Zk g) σ sz [.ref (g.1 12), .int x1, .int x2, .int x3]) (QvW D vwCl (WS g) post (va_A (WS g σ) sz)) 0 0 (va_A (WS g σ) sz)) {sz : Nat} (x1 : Int32) (x2 : Int32) {σ : Sg} {post : Sg → Prop} (h : wq_Rd_readInside V 0 x1 x2 σ post) : Met l y_Rd_readInside (.code y_Rd_readInside k_Rd_readInside 9 (none) :: GW) { frames := (6 + 3 * d), cells := 0, slots := 0, locals := (148 + 76 * d) } (PcW D vwCl (WS g) g (Zk g) σ sz [.ref (g.1 12), .int x1, .int x2]) (QvW D vwCl (WS g) post (va_A (WS g σ) sz)) 0 0 (va_A (WS g σ) sz) := by
  refine kw_entry (own := R_Rd) (by decide) rfl rfl (Nat.le_of_ble_eq_true rfl) ?_
  intro p e s m below meth c ls hsz C hin hl hst
  obtain ⟨n, h⟩ := h
  cases n with
  | zero => exact h.elim
  | succ n =>
    have ih := a_Rd_readInside_0 (l := l) (e := e) (below := below) (post := post) C hV n
    exact b_Rd_readInside_0_0 (F := wp_Rd_readInside V 0 post n) C hV (ih.1) x1 x2 σ _ _ ls hl hst h
def J_Rd_readInside_13_1 (p : Program) (l : Launch) (e : Env) (s : State) (m : MethodId) (args : Array Value) (below : List Frame) (meth : Method) (c : Code) (D : va_G) (g : Gm) (A : Nat → Prop) (d : Nat) (post : Sg → Prop) (F : Nat → Int32 → Int32 → Int32 → Int32 → Int32 → Int32 → Int32 → Sg → Prop) : Prop := ∀ (x1 : Int32) (x2 : Int32) (x3 : Int32) (σ : Sg) (H : Heap) (locs : List Loc) (ls : Array Slot), lv_has ls 9 [(0, .ref (g.1 25)), (1, .int x1), (2, .int x2), (3, .int x3)] → Wst D vwCl (WS g) A s σ H locs → F 1 x1 x2 x3 0 0 0 0 σ → W p l e { frames := (6 + 3 * d), cells := 0, slots := 0, locals := (148 + 76 * d) } s m args below meth c H locs 0 0 (MQ below (QvW D vwCl (WS g) post A) args s 0 0 A) (F0 m 20 ls [])
def J_Rd_readInside_13_2 (p : Program) (l : Launch) (e : Env) (s : State) (m : MethodId) (args : Array Value) (below : List Frame) (meth : Method) (c : Code) (D : va_G) (g : Gm) (A : Nat → Prop) (d : Nat) (post : Sg → Prop) (F : Nat → Int32 → Int32 → Int32 → Int32 → Int32 → Int32 → Int32 → Sg → Prop) : Prop := ∀ (x1 : Int32) (x2 : Int32) (x3 : Int32) (x4 : Int32) (x5 : Int32) (x6 : Int32) (x7 : Int32) (σ : Sg) (H : Heap) (locs : List Loc) (ls : Array Slot), lv_has ls 9 [(0, .ref (g.1 25)), (1, .int x1), (2, .int x2), (3, .int x3), (4, .int x4), (5, .int x5), (6, .int x6), (7, .int x7)] → Wst D vwCl (WS g) A s σ H locs → F 2 x1 x2 x3 x4 x5 x6 x7 σ → W p l e { frames := (6 + 3 * d), cells := 0, slots := 0, locals := (148 + 76 * d) } s m args below meth c H locs 0 0 (MQ below (QvW D vwCl (WS g) post A) args s 0 0 A) (F0 m 42 ls [])
def J_Rd_readInside_13_3 (p : Program) (l : Launch) (e : Env) (s : State) (m : MethodId) (args : Array Value) (below : List Frame) (meth : Method) (c : Code) (D : va_G) (g : Gm) (A : Nat → Prop) (d : Nat) (post : Sg → Prop) (F : Nat → Int32 → Int32 → Int32 → Int32 → Int32 → Int32 → Int32 → Sg → Prop) : Prop := ∀ (x1 : Int32) (x2 : Int32) (x3 : Int32) (x4 : Int32) (x5 : Int32) (x6 : Int32) (x7 : Int32) (σ : Sg) (H : Heap) (locs : List Loc) (ls : Array Slot), lv_has ls 9 [(0, .ref (g.1 25)), (1, .int x1), (2, .int x2), (3, .int x3), (4, .int x4), (5, .int x5), (6, .int x6), (7, .int x7)] → Wst D vwCl (WS g) A s σ H locs → F 3 x1 x2 x3 x4 x5 x6 x7 σ → W p l e { frames := (6 + 3 * d), cells := 0, slots := 0, locals := (148 + 76 * d) } s m args below meth c H locs 0 0 (MQ below (QvW D vwCl (WS g) post A) args s 0 0 A) (F0 m 211 ls [])
def J_Rd_readInside_13_4 (p : Program) (l : Launch) (e : Env) (s : State) (m : MethodId) (args : Array Value) (below : List Frame) (meth : Method) (c : Code) (D : va_G) (g : Gm) (A : Nat → Prop) (d : Nat) (post : Sg → Prop) (F : Nat → Int32 → Int32 → Int32 → Int32 → Int32 → Int32 → Int32 → Sg → Prop) : Prop := ∀ (x1 : Int32) (x2 : Int32) (x3 : Int32) (x4 : Int32) (x7 : Int32) (σ : Sg) (H : Heap) (locs : List Loc) (ls : Array Slot), lv_has ls 9 [(0, .ref (g.1 25)), (1, .int x1), (2, .int x2), (3, .int x3), (4, .int x4), (7, .int x7)] → Wst D vwCl (WS g) A s σ H locs → F 4 x1 x2 x3 x4 0 0 x7 σ → W p l e { frames := (6 + 3 * d), cells := 0, slots := 0, locals := (148 + 76 * d) } s m args below meth c H locs 0 0 (MQ below (QvW D vwCl (WS g) post A) args s 0 0 A) (F0 m 170 ls [])
def J_Rd_readInside_13_5 (p : Program) (l : Launch) (e : Env) (s : State) (m : MethodId) (args : Array Value) (below : List Frame) (meth : Method) (c : Code) (D : va_G) (g : Gm) (A : Nat → Prop) (d : Nat) (post : Sg → Prop) (F : Nat → Int32 → Int32 → Int32 → Int32 → Int32 → Int32 → Int32 → Sg → Prop) : Prop := ∀ (x1 : Int32) (x2 : Int32) (x3 : Int32) (x4 : Int32) (x5 : Int32) (x7 : Int32) (σ : Sg) (H : Heap) (locs : List Loc) (ls : Array Slot), lv_has ls 9 [(0, .ref (g.1 25)), (1, .int x1), (2, .int x2), (3, .int x3), (4, .int x4), (5, .int x5), (7, .int x7)] → Wst D vwCl (WS g) A s σ H locs → F 5 x1 x2 x3 x4 x5 0 x7 σ → W p l e { frames := (6 + 3 * d), cells := 0, slots := 0, locals := (148 + 76 * d) } s m args below meth c H locs 0 0 (MQ below (QvW D vwCl (WS g) post A) args s 0 0 A) (F0 m 229 ls [])
set_option maxRecDepth 100000 in
set_option maxHeartbeats 4000000 in
theorem b_Rd_readInside_13_0 {p : Program} {l : Launch} {e : Env} {s : State} {m : MethodId} {args : Array Value} {below : List Frame} {meth : Method} {c : Code} {D : va_G} {g : Gm} {A : Nat → Prop} {post : Sg → Prop} {F : Nat → Int32 → Int32 → Int32 → Int32 → Int32 → Int32 → Int32 → Sg → Prop} (C : kC p s m args meth c k_Rd_readInside 9 (none) GW R_Rd D vwCl g (Zk g) A) {V : Nat → Int32 → Int32 → Int32 → Sg → (Sg → Prop) → Prop} {d : Nat} (hV : ∀ (sz : Nat) (x1 : Int32) (x2 : Int32) (x3 : Int32) (σ : Sg) (post : Sg → Prop), V 13 x1 x2 x3 σ post → Met l y_Rd_readValue (.code y_Rd_readValue k_Rd_readValue 6 (none) :: GW) { frames := (4 + 3 * d), cells := 0, slots := 0, locals := (100 + 76 * d) } (PcW D vwCl (WS g) g (Zk g) σ sz [.ref (g.1 25), .int x1, .int x2, .int x3]) (QvW D vwCl (WS g) post (va_A (WS g σ) sz)) 0 0 (va_A (WS g σ) sz)) (j1 : J_Rd_readInside_13_1 p l e s m args below meth c D g A d post F) (x1 : Int32) (x2 : Int32) (σ : Sg) (H : Heap) (locs : List Loc) (ls : Array Slot) (hl : lv_has ls 9 [(0, .ref (g.1 25)), (1, .int x1), (2, .int x2)]) (hst : Wst D vwCl (WS g) A s σ H locs) (h : wb_Rd_readInside_0 V 13 F post x1 x2 σ) : W p l e { frames := (6 + 3 * d), cells := 0, slots := 0, locals := (148 + 76 * d) } s m args below meth c H locs 0 0 (MQ below (QvW D vwCl (WS g) post A) args s 0 0 A) (F0 m 0 ls []) := by
  obtain ⟨hx, hb, hr, hml, hown, hts, hlocks, hK, hZ, hA⟩ := C
  unfold wb_Rd_readInside_0 at h
  refine lv_aload_n hx hb d_Rd_readInside_0 rfl (lv_at hl 0 rfl) ?_
  refine va_get (D := D) (ci := 2) (C := R_Rd) (T := T_Rd) (N := 5) hx hb hts in_Rd hown hK hst.1 25 (WS_o25 g σ) rfl 0 (by decide) (hts _ gw208) (fun _ h9 => h9) rfl d_Rd_readInside_1 ?_
  refine va_get (D := D) (ci := 0) (C := R_Tr) (T := T_Tr) (N := 12) hx hb hts in_Tr hown hK hst.1 13 (WS_o13 g σ) rfl 1 (by decide) (hts _ gw135) (fun _ h9 => h9) rfl d_Rd_readInside_4 ?_
  refine lv_iload_n hx hb d_Rd_readInside_7 rfl (lv_at hl 1 rfl) ?_
  obtain ⟨hi, h⟩ := h
  refine va_iald hx hb hK hst.1 14 0 (WS_a14 g σ) rfl hi d_Rd_readInside_8 ?_
  refine lv_bipush (v := (6 : Int32)) hx hb d_Rd_readInside_9 (by decide) ?_
  refine lv_icmp_ne (tgt := 18) hx hb d_Rd_readInside_11 (by decide) (fun hc => ?_) (fun hc => ?_)
  · replace h := h.1 hc
    refine lv_iconst (v := (0 : Int32)) hx hb d_Rd_readInside_18 (by decide) ?_
    refine lv_istore_n hx hb d_Rd_readInside_19 rfl hl (by decide) rfl (fun ls hl => ?_)
    have hl : lv_has ls 9 [(3, .int (0 : Int32)), (0, .ref (g.1 25)), (1, .int x1), (2, .int x2)] := hl
    exact j1 x1 x2 (0 : Int32) σ _ _ _ (lv_sub hl [1, 2, 3, 0] rfl) hst h
  · replace h := h.2 hc
    refine lv_iconst (v := (1 : Int32)) hx hb d_Rd_readInside_14 (by decide) ?_
    refine lv_goto (tgt := 19) hx hb d_Rd_readInside_15 (by decide) ?_
    refine lv_istore_n hx hb d_Rd_readInside_19 rfl hl (by decide) rfl (fun ls hl => ?_)
    have hl : lv_has ls 9 [(3, .int (1 : Int32)), (0, .ref (g.1 25)), (1, .int x1), (2, .int x2)] := hl
    exact j1 x1 x2 (1 : Int32) σ _ _ _ (lv_sub hl [1, 2, 3, 0] rfl) hst h
set_option maxRecDepth 100000 in
set_option maxHeartbeats 4000000 in
theorem b_Rd_readInside_13_1 {p : Program} {l : Launch} {e : Env} {s : State} {m : MethodId} {args : Array Value} {below : List Frame} {meth : Method} {c : Code} {D : va_G} {g : Gm} {A : Nat → Prop} {post : Sg → Prop} {F : Nat → Int32 → Int32 → Int32 → Int32 → Int32 → Int32 → Int32 → Sg → Prop} (C : kC p s m args meth c k_Rd_readInside 9 (none) GW R_Rd D vwCl g (Zk g) A) {V : Nat → Int32 → Int32 → Int32 → Sg → (Sg → Prop) → Prop} {d : Nat} (hV : ∀ (sz : Nat) (x1 : Int32) (x2 : Int32) (x3 : Int32) (σ : Sg) (post : Sg → Prop), V 13 x1 x2 x3 σ post → Met l y_Rd_readValue (.code y_Rd_readValue k_Rd_readValue 6 (none) :: GW) { frames := (4 + 3 * d), cells := 0, slots := 0, locals := (100 + 76 * d) } (PcW D vwCl (WS g) g (Zk g) σ sz [.ref (g.1 25), .int x1, .int x2, .int x3]) (QvW D vwCl (WS g) post (va_A (WS g σ) sz)) 0 0 (va_A (WS g σ) sz)) (j2 : J_Rd_readInside_13_2 p l e s m args below meth c D g A d post F) (x1 : Int32) (x2 : Int32) (x3 : Int32) (σ : Sg) (H : Heap) (locs : List Loc) (ls : Array Slot) (hl : lv_has ls 9 [(0, .ref (g.1 25)), (1, .int x1), (2, .int x2), (3, .int x3)]) (hst : Wst D vwCl (WS g) A s σ H locs) (h : wb_Rd_readInside_1 V 13 F post x1 x2 x3 σ) : W p l e { frames := (6 + 3 * d), cells := 0, slots := 0, locals := (148 + 76 * d) } s m args below meth c H locs 0 0 (MQ below (QvW D vwCl (WS g) post A) args s 0 0 A) (F0 m 20 ls []) := by
  obtain ⟨hx, hb, hr, hml, hown, hts, hlocks, hK, hZ, hA⟩ := C
  unfold wb_Rd_readInside_1 at h
  refine lv_iload_n hx hb d_Rd_readInside_20 rfl (lv_at hl 3 rfl) ?_
  refine lv_if_eq (tgt := 29) hx hb d_Rd_readInside_21 (by decide) (fun hc => ?_) (fun hc => ?_)
  · replace h := h.1 hc
    refine lv_bipush (v := (93 : Int32)) hx hb d_Rd_readInside_29 (by decide) ?_
    refine lv_istore hx hb d_Rd_readInside_31 hl (by decide) rfl (fun ls hl => ?_)
    have hl : lv_has ls 9 [(4, .int (93 : Int32)), (0, .ref (g.1 25)), (1, .int x1), (2, .int x2), (3, .int x3)] := hl
    refine lv_iconst (v := (0 : Int32)) hx hb d_Rd_readInside_33 (by decide) ?_
    refine lv_istore hx hb d_Rd_readInside_34 hl (by decide) rfl (fun ls hl => ?_)
    have hl : lv_has ls 9 [(5, .int (0 : Int32)), (4, .int (93 : Int32)), (0, .ref (g.1 25)), (1, .int x1), (2, .int x2), (3, .int x3)] := hl
    refine lv_iconst (v := (0 : Int32)) hx hb d_Rd_readInside_36 (by decide) ?_
    refine lv_istore hx hb d_Rd_readInside_37 hl (by decide) rfl (fun ls hl => ?_)
    have hl : lv_has ls 9 [(6, .int (0 : Int32)), (5, .int (0 : Int32)), (4, .int (93 : Int32)), (0, .ref (g.1 25)), (1, .int x1), (2, .int x2), (3, .int x3)] := hl
    refine lv_iconst (v := (0 : Int32)) hx hb d_Rd_readInside_39 (by decide) ?_
    refine lv_istore hx hb d_Rd_readInside_40 hl (by decide) rfl (fun ls hl => ?_)
    have hl : lv_has ls 9 [(7, .int (0 : Int32)), (6, .int (0 : Int32)), (5, .int (0 : Int32)), (4, .int (93 : Int32)), (0, .ref (g.1 25)), (1, .int x1), (2, .int x2), (3, .int x3)] := hl
    exact j2 x1 x2 x3 (93 : Int32) (0 : Int32) (0 : Int32) (0 : Int32) σ _ _ _ (lv_sub hl [4, 5, 6, 7, 3, 2, 1, 0] rfl) hst h
  · replace h := h.2 hc
    refine lv_bipush (v := (125 : Int32)) hx hb d_Rd_readInside_24 (by decide) ?_
    refine lv_goto (tgt := 31) hx hb d_Rd_readInside_26 (by decide) ?_
    refine lv_istore hx hb d_Rd_readInside_31 hl (by decide) rfl (fun ls hl => ?_)
    have hl : lv_has ls 9 [(4, .int (125 : Int32)), (0, .ref (g.1 25)), (1, .int x1), (2, .int x2), (3, .int x3)] := hl
    refine lv_iconst (v := (0 : Int32)) hx hb d_Rd_readInside_33 (by decide) ?_
    refine lv_istore hx hb d_Rd_readInside_34 hl (by decide) rfl (fun ls hl => ?_)
    have hl : lv_has ls 9 [(5, .int (0 : Int32)), (4, .int (125 : Int32)), (0, .ref (g.1 25)), (1, .int x1), (2, .int x2), (3, .int x3)] := hl
    refine lv_iconst (v := (0 : Int32)) hx hb d_Rd_readInside_36 (by decide) ?_
    refine lv_istore hx hb d_Rd_readInside_37 hl (by decide) rfl (fun ls hl => ?_)
    have hl : lv_has ls 9 [(6, .int (0 : Int32)), (5, .int (0 : Int32)), (4, .int (125 : Int32)), (0, .ref (g.1 25)), (1, .int x1), (2, .int x2), (3, .int x3)] := hl
    refine lv_iconst (v := (0 : Int32)) hx hb d_Rd_readInside_39 (by decide) ?_
    refine lv_istore hx hb d_Rd_readInside_40 hl (by decide) rfl (fun ls hl => ?_)
    have hl : lv_has ls 9 [(7, .int (0 : Int32)), (6, .int (0 : Int32)), (5, .int (0 : Int32)), (4, .int (125 : Int32)), (0, .ref (g.1 25)), (1, .int x1), (2, .int x2), (3, .int x3)] := hl
    exact j2 x1 x2 x3 (125 : Int32) (0 : Int32) (0 : Int32) (0 : Int32) σ _ _ _ (lv_sub hl [4, 5, 6, 7, 3, 2, 1, 0] rfl) hst h
set_option maxRecDepth 100000 in
set_option maxHeartbeats 4000000 in
theorem b_Rd_readInside_13_2 {p : Program} {l : Launch} {e : Env} {s : State} {m : MethodId} {args : Array Value} {below : List Frame} {meth : Method} {c : Code} {D : va_G} {g : Gm} {A : Nat → Prop} {post : Sg → Prop} {F : Nat → Int32 → Int32 → Int32 → Int32 → Int32 → Int32 → Int32 → Sg → Prop} (C : kC p s m args meth c k_Rd_readInside 9 (none) GW R_Rd D vwCl g (Zk g) A) {V : Nat → Int32 → Int32 → Int32 → Sg → (Sg → Prop) → Prop} {d : Nat} (hV : ∀ (sz : Nat) (x1 : Int32) (x2 : Int32) (x3 : Int32) (σ : Sg) (post : Sg → Prop), V 13 x1 x2 x3 σ post → Met l y_Rd_readValue (.code y_Rd_readValue k_Rd_readValue 6 (none) :: GW) { frames := (4 + 3 * d), cells := 0, slots := 0, locals := (100 + 76 * d) } (PcW D vwCl (WS g) g (Zk g) σ sz [.ref (g.1 25), .int x1, .int x2, .int x3]) (QvW D vwCl (WS g) post (va_A (WS g σ) sz)) 0 0 (va_A (WS g σ) sz)) (j2 : J_Rd_readInside_13_2 p l e s m args below meth c D g A d post F) (j3 : J_Rd_readInside_13_3 p l e s m args below meth c D g A d post F) (j4 : J_Rd_readInside_13_4 p l e s m args below meth c D g A d post F) (x1 : Int32) (x2 : Int32) (x3 : Int32) (x4 : Int32) (x5 : Int32) (x6 : Int32) (x7 : Int32) (σ : Sg) (H : Heap) (locs : List Loc) (ls : Array Slot) (hl : lv_has ls 9 [(0, .ref (g.1 25)), (1, .int x1), (2, .int x2), (3, .int x3), (4, .int x4), (5, .int x5), (6, .int x6), (7, .int x7)]) (hst : Wst D vwCl (WS g) A s σ H locs) (h : wb_Rd_readInside_2 V 13 F post x1 x2 x3 x4 x5 x6 x7 σ) : W p l e { frames := (6 + 3 * d), cells := 0, slots := 0, locals := (148 + 76 * d) } s m args below meth c H locs 0 0 (MQ below (QvW D vwCl (WS g) post A) args s 0 0 A) (F0 m 42 ls []) := by
  obtain ⟨hx, hb, hr, hml, hown, hts, hlocks, hK, hZ, hA⟩ := C
  unfold wb_Rd_readInside_2 at h
  refine lv_iload hx hb d_Rd_readInside_42 (lv_at hl 7 rfl) ?_
  refine lv_aload_n hx hb d_Rd_readInside_44 rfl (lv_at hl 0 rfl) ?_
  refine va_get (D := D) (ci := 2) (C := R_Rd) (T := T_Rd) (N := 5) hx hb hts in_Rd hown hK hst.1 25 (WS_o25 g σ) rfl 2 (by decide) (hts _ gw212) (fun _ h9 => h9) rfl d_Rd_readInside_45 ?_
  refine va_get (D := D) (ci := 1) (C := R_Tx) (T := T_Tx) (N := 2) hx hb hts in_Tx hown hK hst.1 23 (WS_o23 g σ) rfl 1 (by decide) (hts _ gw114) (fun _ h9 => h9) rfl d_Rd_readInside_48 ?_
  refine lv_icmp_gt (tgt := 266) hx hb d_Rd_readInside_51 (by decide) (fun hc => ?_) (fun hc => ?_)
  · replace h := h.1 hc
    exact kw_vret hx hb hr hlocks hst h d_Rd_readInside_266
  · replace h := h.2 hc
    refine lv_aload_n hx hb d_Rd_readInside_54 rfl (lv_at hl 0 rfl) ?_
    refine kw_callv (va_runV (As := []) (rest := []) (b := g.1 25) ⟨hx, hb, hml, hown, hts⟩ (c_Rd_passBlanks_13 l h) (cwV 0 hts (gd_v gw617 gw619 gs4 gw9 gw620) rfl rfl rfl (by decide +kernel) ⟨show 0 + 1 ≤ (6 + 3 * d) by omega, show 8 + (1 + 11) + 0 ≤ (148 + 76 * d) by omega⟩) ⟨kw_blind (Zk_ok g), va_recv hK hst.1 rfl (WS_o25 g σ), kw_pre (Zk_ok g) hK hZ hA hst⟩ rfl rfl hl.1 rfl (lv_room (Nat.le_of_ble_eq_true rfl)) d_Rd_readInside_55 ⟨Nat.le_of_ble_eq_true rfl, Nat.le_of_ble_eq_true rfl⟩) hst hA (fun σ1 H locs h hst => ?_)
    refine lv_aload_n hx hb d_Rd_readInside_58 rfl (lv_at hl 0 rfl) ?_
    refine va_get (D := D) (ci := 2) (C := R_Rd) (T := T_Rd) (N := 5) hx hb hts in_Rd hown hK hst.1 25 (WS_o25 g σ1) rfl 4 (by decide) (hts _ gw214) (fun _ h9 => h9) rfl d_Rd_readInside_59 ?_
    refine lv_aload_n hx hb d_Rd_readInside_62 rfl (lv_at hl 0 rfl) ?_
    refine va_get (D := D) (ci := 2) (C := R_Rd) (T := T_Rd) (N := 5) hx hb hts in_Rd hown hK hst.1 25 (WS_o25 g σ1) rfl 2 (by decide) (hts _ gw212) (fun _ h9 => h9) rfl d_Rd_readInside_63 ?_
    refine va_get (D := D) (ci := 1) (C := R_Tx) (T := T_Tx) (N := 2) hx hb hts in_Tx hown hK hst.1 23 (WS_o23 g σ1) rfl 1 (by decide) (hts _ gw114) (fun _ h9 => h9) rfl d_Rd_readInside_66 ?_
    refine lv_icmp_lt (tgt := 90) hx hb d_Rd_readInside_69 (by decide) (fun hc => ?_) (fun hc => ?_)
    · replace h := h.1 hc
      refine lv_aload_n hx hb d_Rd_readInside_90 rfl (lv_at hl 0 rfl) ?_
      refine va_get (D := D) (ci := 2) (C := R_Rd) (T := T_Rd) (N := 5) hx hb hts in_Rd hown hK hst.1 25 (WS_o25 g σ1) rfl 2 (by decide) (hts _ gw212) (fun _ h9 => h9) rfl d_Rd_readInside_91 ?_
      refine va_get (D := D) (ci := 1) (C := R_Tx) (T := T_Tx) (N := 2) hx hb hts in_Tx hown hK hst.1 23 (WS_o23 g σ1) rfl 0 (by decide) (hts _ gw107) (fun _ h9 => h9) rfl d_Rd_readInside_94 ?_
      refine lv_aload_n hx hb d_Rd_readInside_97 rfl (lv_at hl 0 rfl) ?_
      refine va_get (D := D) (ci := 2) (C := R_Rd) (T := T_Rd) (N := 5) hx hb hts in_Rd hown hK hst.1 25 (WS_o25 g σ1) rfl 4 (by decide) (hts _ gw214) (fun _ h9 => h9) rfl d_Rd_readInside_98 ?_
      obtain ⟨hi, h⟩ := h
      refine va_cald hx hb hK hst.1 24 1 (WS_a24 g σ1) rfl hi d_Rd_readInside_101 ?_
      refine lv_istore hx hb d_Rd_readInside_102 hl (by decide) rfl (fun ls hl => ?_)
      have hl : lv_has ls 9 [(8, .int (σ1.1 24 ((σ1.1 25 4) : Int32).toNatClampNeg)), (0, .ref (g.1 25)), (1, .int x1), (2, .int x2), (3, .int x3), (4, .int x4), (5, .int x5), (6, .int x6), (7, .int x7)] := hl
      refine lv_iload hx hb d_Rd_readInside_104 (lv_at hl 0 rfl) ?_
      refine lv_iload hx hb d_Rd_readInside_106 (lv_at hl 5 rfl) ?_
      refine lv_icmp_ne (tgt := 145) hx hb d_Rd_readInside_108 (by decide) (fun hc => ?_) (fun hc => ?_)
      · replace h := h.1 hc
        refine lv_iload hx hb d_Rd_readInside_145 (lv_at hl 0 rfl) ?_
        refine lv_bipush (v := (44 : Int32)) hx hb d_Rd_readInside_147 (by decide) ?_
        refine lv_icmp_ne (tgt := 189) hx hb d_Rd_readInside_149 (by decide) (fun hc => ?_) (fun hc => ?_)
        · replace h := h.1 hc
          refine lv_iload_n hx hb d_Rd_readInside_189 rfl (lv_at hl 4 rfl) ?_
          refine lv_if_eq (tgt := 203) hx hb d_Rd_readInside_190 (by decide) (fun hc => ?_) (fun hc => ?_)
          · replace h := h.1 hc
            refine lv_aload_n hx hb d_Rd_readInside_203 rfl (lv_at hl 1 rfl) ?_
            refine lv_iload_n hx hb d_Rd_readInside_204 rfl (lv_at hl 3 rfl) ?_
            refine kw_calli (va_runV (As := [.int x2]) (rest := []) (b := g.1 25) ⟨hx, hb, hml, hown, hts⟩ (c_Rd_valueBegins_13 l x2 h) (cwV 1 hts (gd_v gw621 gw623 gs5 gw9 gw624) rfl rfl rfl (by decide +kernel) ⟨show 1 + 1 ≤ (6 + 3 * d) by omega, show 8 + (3 + 11) + 20 ≤ (148 + 76 * d) by omega⟩) ⟨kw_blind (Zk_ok g), va_recv hK hst.1 rfl (WS_o25 g σ1), kw_pre (Zk_ok g) hK hZ hA hst⟩ rfl rfl hl.1 rfl (lv_room (Nat.le_of_ble_eq_true rfl)) d_Rd_readInside_205 ⟨Nat.le_of_ble_eq_true rfl, Nat.le_of_ble_eq_true rfl⟩) hst hA (fun r2 σ2 H locs h hst => ?_)
            refine lv_if_eq (tgt := 255) hx hb d_Rd_readInside_208 (by decide) (fun hc => ?_) (fun hc => ?_)
            · replace h := h.1 hc
              refine lv_aload_n hx hb d_Rd_readInside_255 rfl (lv_at hl 1 rfl) ?_
              refine lv_iload_n hx hb d_Rd_readInside_256 rfl (lv_at hl 3 rfl) ?_
              refine kw_callv (va_runV (As := [.int x2]) (rest := []) (b := g.1 25) ⟨hx, hb, hml, hown, hts⟩ (c_Rd_passWrong_13 l x2 h) (cwV 1 hts (gd_v gw634 gw636 gs6 gw9 gw637) rfl rfl rfl (by decide +kernel) ⟨show 1 + 1 ≤ (6 + 3 * d) by omega, show 8 + (3 + 11) + 22 ≤ (148 + 76 * d) by omega⟩) ⟨kw_blind (Zk_ok g), va_recv hK hst.1 rfl (WS_o25 g σ2), kw_pre (Zk_ok g) hK hZ hA hst⟩ rfl rfl hl.1 rfl (lv_room (Nat.le_of_ble_eq_true rfl)) d_Rd_readInside_257 ⟨Nat.le_of_ble_eq_true rfl, Nat.le_of_ble_eq_true rfl⟩) hst hA (fun σ3 H locs h hst => ?_)
              refine lv_iinc (k := 8) (v := (x7 + 1)) hx hb d_Rd_readInside_260 hl rfl (kw_inc _ (by decide)) (by decide) rfl (fun ls hl => ?_)
              have hl : lv_has ls 9 [(7, .int (x7 + 1)), (8, .int (σ1.1 24 ((σ1.1 25 4) : Int32).toNatClampNeg)), (0, .ref (g.1 25)), (1, .int x1), (2, .int x2), (3, .int x3), (4, .int x4), (5, .int x5), (6, .int x6)] := hl
              refine lv_goto (tgt := 42) hx hb d_Rd_readInside_263 (by decide) ?_
              exact j2 x1 x2 x3 x4 x5 x6 (x7 + 1) σ3 _ _ _ (lv_sub hl [2, 3, 4, 5, 6, 7, 8, 0] rfl) hst h
            · replace h := h.2 hc
              exact j3 x1 x2 x3 x4 x5 x6 x7 σ2 _ _ _ (lv_sub hl [1, 2, 3, 4, 5, 6, 7, 8] rfl) hst h
          · replace h := h.2 hc
            refine lv_iload hx hb d_Rd_readInside_193 (lv_at hl 0 rfl) ?_
            refine lv_bipush (v := (34 : Int32)) hx hb d_Rd_readInside_195 (by decide) ?_
            refine lv_icmp_ne (tgt := 255) hx hb d_Rd_readInside_197 (by decide) (fun hc => ?_) (fun hc => ?_)
            · replace h := h.1 hc
              refine lv_aload_n hx hb d_Rd_readInside_255 rfl (lv_at hl 1 rfl) ?_
              refine lv_iload_n hx hb d_Rd_readInside_256 rfl (lv_at hl 3 rfl) ?_
              refine kw_callv (va_runV (As := [.int x2]) (rest := []) (b := g.1 25) ⟨hx, hb, hml, hown, hts⟩ (c_Rd_passWrong_13 l x2 h) (cwV 1 hts (gd_v gw634 gw636 gs6 gw9 gw637) rfl rfl rfl (by decide +kernel) ⟨show 1 + 1 ≤ (6 + 3 * d) by omega, show 8 + (3 + 11) + 22 ≤ (148 + 76 * d) by omega⟩) ⟨kw_blind (Zk_ok g), va_recv hK hst.1 rfl (WS_o25 g σ1), kw_pre (Zk_ok g) hK hZ hA hst⟩ rfl rfl hl.1 rfl (lv_room (Nat.le_of_ble_eq_true rfl)) d_Rd_readInside_257 ⟨Nat.le_of_ble_eq_true rfl, Nat.le_of_ble_eq_true rfl⟩) hst hA (fun σ2 H locs h hst => ?_)
              refine lv_iinc (k := 8) (v := (x7 + 1)) hx hb d_Rd_readInside_260 hl rfl (kw_inc _ (by decide)) (by decide) rfl (fun ls hl => ?_)
              have hl : lv_has ls 9 [(7, .int (x7 + 1)), (8, .int (σ1.1 24 ((σ1.1 25 4) : Int32).toNatClampNeg)), (0, .ref (g.1 25)), (1, .int x1), (2, .int x2), (3, .int x3), (4, .int x4), (5, .int x5), (6, .int x6)] := hl
              refine lv_goto (tgt := 42) hx hb d_Rd_readInside_263 (by decide) ?_
              exact j2 x1 x2 x3 x4 x5 x6 (x7 + 1) σ2 _ _ _ (lv_sub hl [2, 3, 4, 5, 6, 7, 8, 0] rfl) hst h
            · replace h := h.2 hc
              refine lv_goto (tgt := 211) hx hb d_Rd_readInside_200 (by decide) ?_
              exact j3 x1 x2 x3 x4 x5 x6 x7 σ1 _ _ _ (lv_sub hl [1, 2, 3, 4, 5, 6, 7, 8] rfl) hst h
        · replace h := h.2 hc
          refine lv_iload hx hb d_Rd_readInside_152 (lv_at hl 7 rfl) ?_
          refine lv_if_ne (tgt := 170) hx hb d_Rd_readInside_154 (by decide) (fun hc => ?_) (fun hc => ?_)
          · replace h := h.1 hc
            exact j4 x1 x2 x3 x4 x7 σ1 _ _ _ (lv_sub hl [1, 2, 3, 4, 5, 8] rfl) hst h
          · replace h := h.2 hc
            refine lv_aload_n hx hb d_Rd_readInside_157 rfl (lv_at hl 1 rfl) ?_
            refine va_get (D := D) (ci := 2) (C := R_Rd) (T := T_Rd) (N := 5) hx hb hts in_Rd hown hK hst.1 25 (WS_o25 g σ1) rfl 0 (by decide) (hts _ gw208) (fun _ h9 => h9) rfl d_Rd_readInside_158 ?_
            refine lv_bipush (v := (8 : Int32)) hx hb d_Rd_readInside_161 (by decide) ?_
            refine lv_aload_n hx hb d_Rd_readInside_163 rfl (lv_at hl 1 rfl) ?_
            refine va_get (D := D) (ci := 2) (C := R_Rd) (T := T_Rd) (N := 5) hx hb hts in_Rd hown hK hst.1 25 (WS_o25 g σ1) rfl 4 (by decide) (hts _ gw214) (fun _ h9 => h9) rfl d_Rd_readInside_164 ?_
            refine kw_callv (va_runV (As := [.int (8 : Int32), .int (σ1.1 25 4)]) (rest := []) (b := g.1 13) ⟨hx, hb, hml, hown, hts⟩ (c_Tr_blame_13 l (8 : Int32) (σ1.1 25 4) h) (cwV 2 hts (gd_v gw638 gw639 gw640 gw7 gw641) rfl rfl rfl (by decide +kernel) ⟨show 0 + 1 ≤ (6 + 3 * d) by omega, show 8 + (3 + 11) + 0 ≤ (148 + 76 * d) by omega⟩) ⟨kw_blind (Zk_ok g), va_recv hK hst.1 rfl (WS_o13 g σ1), kw_pre (Zk_ok g) hK hZ hA hst⟩ rfl rfl hl.1 rfl (lv_room (Nat.le_of_ble_eq_true rfl)) d_Rd_readInside_167 ⟨Nat.le_of_ble_eq_true rfl, Nat.le_of_ble_eq_true rfl⟩) hst hA (fun σ2 H locs h hst => ?_)
            exact j4 x1 x2 x3 x4 x7 σ2 _ _ _ (lv_sub hl [1, 2, 3, 4, 5, 8] rfl) hst h
      · replace h := h.2 hc
        refine lv_iload hx hb d_Rd_readInside_111 (lv_at hl 6 rfl) ?_
        refine lv_if_eq (tgt := 134) hx hb d_Rd_readInside_113 (by decide) (fun hc => ?_) (fun hc => ?_)
        · replace h := h.1 hc
          refine lv_aload_n hx hb d_Rd_readInside_134 rfl (lv_at hl 1 rfl) ?_
          refine lv_dup hx hb d_Rd_readInside_135 rfl ?_
          refine va_get (D := D) (ci := 2) (C := R_Rd) (T := T_Rd) (N := 5) hx hb hts in_Rd hown hK hst.1 25 (WS_o25 g σ1) rfl 4 (by decide) (hts _ gw214) (fun _ h9 => h9) rfl d_Rd_readInside_136 ?_
          refine lv_iconst (v := (1 : Int32)) hx hb d_Rd_readInside_139 (by decide) ?_
          refine lv_iadd hx hb d_Rd_readInside_140 ?_
          refine kw_put (D := D) (ci := 2) (ty := .int) (C := R_Rd) (T := T_Rd) (N := 5) hx hb hts in_Rd ty_Rd ty_Rd_ok nm_Rd hown hK hst 25 (WS_o25 g σ1) rfl 4 (by decide) (hts _ gw214) (fun _ h9 => h9) rfl (by decide +kernel) rfl rfl (Nat.le_of_ble_eq_true rfl) (WS_p25_4 g σ1 _) d_Rd_readInside_141 (fun σ2 H locs e2 hst => ?_)
          replace h := h σ2 e2
          exact kw_vret hx hb hr hlocks hst h d_Rd_readInside_144
        · replace h := h.2 hc
          refine lv_iload hx hb d_Rd_readInside_116 (lv_at hl 7 rfl) ?_
          refine lv_if_ne (tgt := 134) hx hb d_Rd_readInside_118 (by decide) (fun hc => ?_) (fun hc => ?_)
          · replace h := h.1 hc
            refine lv_aload_n hx hb d_Rd_readInside_134 rfl (lv_at hl 1 rfl) ?_
            refine lv_dup hx hb d_Rd_readInside_135 rfl ?_
            refine va_get (D := D) (ci := 2) (C := R_Rd) (T := T_Rd) (N := 5) hx hb hts in_Rd hown hK hst.1 25 (WS_o25 g σ1) rfl 4 (by decide) (hts _ gw214) (fun _ h9 => h9) rfl d_Rd_readInside_136 ?_
            refine lv_iconst (v := (1 : Int32)) hx hb d_Rd_readInside_139 (by decide) ?_
            refine lv_iadd hx hb d_Rd_readInside_140 ?_
            refine kw_put (D := D) (ci := 2) (ty := .int) (C := R_Rd) (T := T_Rd) (N := 5) hx hb hts in_Rd ty_Rd ty_Rd_ok nm_Rd hown hK hst 25 (WS_o25 g σ1) rfl 4 (by decide) (hts _ gw214) (fun _ h9 => h9) rfl (by decide +kernel) rfl rfl (Nat.le_of_ble_eq_true rfl) (WS_p25_4 g σ1 _) d_Rd_readInside_141 (fun σ2 H locs e2 hst => ?_)
            replace h := h σ2 e2
            exact kw_vret hx hb hr hlocks hst h d_Rd_readInside_144
          · replace h := h.2 hc
            refine lv_aload_n hx hb d_Rd_readInside_121 rfl (lv_at hl 1 rfl) ?_
            refine va_get (D := D) (ci := 2) (C := R_Rd) (T := T_Rd) (N := 5) hx hb hts in_Rd hown hK hst.1 25 (WS_o25 g σ1) rfl 0 (by decide) (hts _ gw208) (fun _ h9 => h9) rfl d_Rd_readInside_122 ?_
            refine lv_bipush (v := (10 : Int32)) hx hb d_Rd_readInside_125 (by decide) ?_
            refine lv_aload_n hx hb d_Rd_readInside_127 rfl (lv_at hl 1 rfl) ?_
            refine va_get (D := D) (ci := 2) (C := R_Rd) (T := T_Rd) (N := 5) hx hb hts in_Rd hown hK hst.1 25 (WS_o25 g σ1) rfl 4 (by decide) (hts _ gw214) (fun _ h9 => h9) rfl d_Rd_readInside_128 ?_
            refine kw_callv (va_runV (As := [.int (10 : Int32), .int (σ1.1 25 4)]) (rest := []) (b := g.1 13) ⟨hx, hb, hml, hown, hts⟩ (c_Tr_blame_13 l (10 : Int32) (σ1.1 25 4) h) (cwV 2 hts (gd_v gw638 gw639 gw640 gw7 gw641) rfl rfl rfl (by decide +kernel) ⟨show 0 + 1 ≤ (6 + 3 * d) by omega, show 8 + (3 + 11) + 0 ≤ (148 + 76 * d) by omega⟩) ⟨kw_blind (Zk_ok g), va_recv hK hst.1 rfl (WS_o13 g σ1), kw_pre (Zk_ok g) hK hZ hA hst⟩ rfl rfl hl.1 rfl (lv_room (Nat.le_of_ble_eq_true rfl)) d_Rd_readInside_131 ⟨Nat.le_of_ble_eq_true rfl, Nat.le_of_ble_eq_true rfl⟩) hst hA (fun σ2 H locs h hst => ?_)
            refine lv_aload_n hx hb d_Rd_readInside_134 rfl (lv_at hl 1 rfl) ?_
            refine lv_dup hx hb d_Rd_readInside_135 rfl ?_
            refine va_get (D := D) (ci := 2) (C := R_Rd) (T := T_Rd) (N := 5) hx hb hts in_Rd hown hK hst.1 25 (WS_o25 g σ2) rfl 4 (by decide) (hts _ gw214) (fun _ h9 => h9) rfl d_Rd_readInside_136 ?_
            refine lv_iconst (v := (1 : Int32)) hx hb d_Rd_readInside_139 (by decide) ?_
            refine lv_iadd hx hb d_Rd_readInside_140 ?_
            refine kw_put (D := D) (ci := 2) (ty := .int) (C := R_Rd) (T := T_Rd) (N := 5) hx hb hts in_Rd ty_Rd ty_Rd_ok nm_Rd hown hK hst 25 (WS_o25 g σ2) rfl 4 (by decide) (hts _ gw214) (fun _ h9 => h9) rfl (by decide +kernel) rfl rfl (Nat.le_of_ble_eq_true rfl) (WS_p25_4 g σ2 _) d_Rd_readInside_141 (fun σ3 H locs e3 hst => ?_)
            replace h := h σ3 e3
            exact kw_vret hx hb hr hlocks hst h d_Rd_readInside_144
    · replace h := h.2 hc
      refine lv_aload_n hx hb d_Rd_readInside_72 rfl (lv_at hl 0 rfl) ?_
      refine va_get (D := D) (ci := 2) (C := R_Rd) (T := T_Rd) (N := 5) hx hb hts in_Rd hown hK hst.1 25 (WS_o25 g σ1) rfl 0 (by decide) (hts _ gw208) (fun _ h9 => h9) rfl d_Rd_readInside_73 ?_
      refine lv_iconst (v := (4 : Int32)) hx hb d_Rd_readInside_76 (by decide) ?_
      refine lv_aload_n hx hb d_Rd_readInside_77 rfl (lv_at hl 0 rfl) ?_
      refine va_get (D := D) (ci := 2) (C := R_Rd) (T := T_Rd) (N := 5) hx hb hts in_Rd hown hK hst.1 25 (WS_o25 g σ1) rfl 0 (by decide) (hts _ gw208) (fun _ h9 => h9) rfl d_Rd_readInside_78 ?_
      refine va_get (D := D) (ci := 0) (C := R_Tr) (T := T_Tr) (N := 12) hx hb hts in_Tr hown hK hst.1 13 (WS_o13 g σ1) rfl 2 (by decide) (hts _ gw140) (fun _ h9 => h9) rfl d_Rd_readInside_81 ?_
      refine lv_iload_n hx hb d_Rd_readInside_84 rfl (lv_at hl 1 rfl) ?_
      obtain ⟨hi, h⟩ := h
      refine va_iald hx hb hK hst.1 15 0 (WS_a15 g σ1) rfl hi d_Rd_readInside_85 ?_
      refine kw_callv (va_runV (As := [.int (4 : Int32), .int (σ1.1 15 x1.toNatClampNeg)]) (rest := []) (b := g.1 13) ⟨hx, hb, hml, hown, hts⟩ (c_Tr_blame_13 l (4 : Int32) (σ1.1 15 x1.toNatClampNeg) h) (cwV 2 hts (gd_v gw638 gw639 gw640 gw7 gw641) rfl rfl rfl (by decide +kernel) ⟨show 0 + 1 ≤ (6 + 3 * d) by omega, show 8 + (3 + 11) + 0 ≤ (148 + 76 * d) by omega⟩) ⟨kw_blind (Zk_ok g), va_recv hK hst.1 rfl (WS_o13 g σ1), kw_pre (Zk_ok g) hK hZ hA hst⟩ rfl rfl hl.1 rfl (lv_room (Nat.le_of_ble_eq_true rfl)) d_Rd_readInside_86 ⟨Nat.le_of_ble_eq_true rfl, Nat.le_of_ble_eq_true rfl⟩) hst hA (fun σ2 H locs h hst => ?_)
      exact kw_vret hx hb hr hlocks hst h d_Rd_readInside_89
set_option maxRecDepth 100000 in
set_option maxHeartbeats 4000000 in
theorem b_Rd_readInside_13_3 {p : Program} {l : Launch} {e : Env} {s : State} {m : MethodId} {args : Array Value} {below : List Frame} {meth : Method} {c : Code} {D : va_G} {g : Gm} {A : Nat → Prop} {post : Sg → Prop} {F : Nat → Int32 → Int32 → Int32 → Int32 → Int32 → Int32 → Int32 → Sg → Prop} (C : kC p s m args meth c k_Rd_readInside 9 (none) GW R_Rd D vwCl g (Zk g) A) {V : Nat → Int32 → Int32 → Int32 → Sg → (Sg → Prop) → Prop} {d : Nat} (hV : ∀ (sz : Nat) (x1 : Int32) (x2 : Int32) (x3 : Int32) (σ : Sg) (post : Sg → Prop), V 13 x1 x2 x3 σ post → Met l y_Rd_readValue (.code y_Rd_readValue k_Rd_readValue 6 (none) :: GW) { frames := (4 + 3 * d), cells := 0, slots := 0, locals := (100 + 76 * d) } (PcW D vwCl (WS g) g (Zk g) σ sz [.ref (g.1 25), .int x1, .int x2, .int x3]) (QvW D vwCl (WS g) post (va_A (WS g σ) sz)) 0 0 (va_A (WS g σ) sz)) (j5 : J_Rd_readInside_13_5 p l e s m args below meth c D g A d post F) (x1 : Int32) (x2 : Int32) (x3 : Int32) (x4 : Int32) (x5 : Int32) (x6 : Int32) (x7 : Int32) (σ : Sg) (H : Heap) (locs : List Loc) (ls : Array Slot) (hl : lv_has ls 9 [(0, .ref (g.1 25)), (1, .int x1), (2, .int x2), (3, .int x3), (4, .int x4), (5, .int x5), (6, .int x6), (7, .int x7)]) (hst : Wst D vwCl (WS g) A s σ H locs) (h : wb_Rd_readInside_3 V 13 F post x1 x2 x3 x4 x5 x6 x7 σ) : W p l e { frames := (6 + 3 * d), cells := 0, slots := 0, locals := (148 + 76 * d) } s m args below meth c H locs 0 0 (MQ below (QvW D vwCl (WS g) post A) args s 0 0 A) (F0 m 211 ls []) := by
  obtain ⟨hx, hb, hr, hml, hown, hts, hlocks, hK, hZ, hA⟩ := C
  unfold wb_Rd_readInside_3 at h
  refine lv_iload hx hb d_Rd_readInside_211 (lv_at hl 6 rfl) ?_
  refine lv_if_eq (tgt := 229) hx hb d_Rd_readInside_213 (by decide) (fun hc => ?_) (fun hc => ?_)
  · replace h := h.1 hc
    exact j5 x1 x2 x3 x4 x5 x7 σ _ _ _ (lv_sub hl [0, 1, 2, 3, 4, 5, 7] rfl) hst h
  · replace h := h.2 hc
    refine lv_aload_n hx hb d_Rd_readInside_216 rfl (lv_at hl 0 rfl) ?_
    refine va_get (D := D) (ci := 2) (C := R_Rd) (T := T_Rd) (N := 5) hx hb hts in_Rd hown hK hst.1 25 (WS_o25 g σ) rfl 0 (by decide) (hts _ gw208) (fun _ h9 => h9) rfl d_Rd_readInside_217 ?_
    refine lv_bipush (v := (9 : Int32)) hx hb d_Rd_readInside_220 (by decide) ?_
    refine lv_aload_n hx hb d_Rd_readInside_222 rfl (lv_at hl 0 rfl) ?_
    refine va_get (D := D) (ci := 2) (C := R_Rd) (T := T_Rd) (N := 5) hx hb hts in_Rd hown hK hst.1 25 (WS_o25 g σ) rfl 4 (by decide) (hts _ gw214) (fun _ h9 => h9) rfl d_Rd_readInside_223 ?_
    refine kw_callv (va_runV (As := [.int (9 : Int32), .int (σ.1 25 4)]) (rest := []) (b := g.1 13) ⟨hx, hb, hml, hown, hts⟩ (c_Tr_blame_13 l (9 : Int32) (σ.1 25 4) h) (cwV 2 hts (gd_v gw638 gw639 gw640 gw7 gw641) rfl rfl rfl (by decide +kernel) ⟨show 0 + 1 ≤ (6 + 3 * d) by omega, show 8 + (3 + 11) + 0 ≤ (148 + 76 * d) by omega⟩) ⟨kw_blind (Zk_ok g), va_recv hK hst.1 rfl (WS_o13 g σ), kw_pre (Zk_ok g) hK hZ hA hst⟩ rfl rfl hl.1 rfl (lv_room (Nat.le_of_ble_eq_true rfl)) d_Rd_readInside_226 ⟨Nat.le_of_ble_eq_true rfl, Nat.le_of_ble_eq_true rfl⟩) hst hA (fun σ1 H locs h hst => ?_)
    exact j5 x1 x2 x3 x4 x5 x7 σ1 _ _ _ (lv_sub hl [0, 1, 2, 3, 4, 5, 7] rfl) hst h
set_option maxRecDepth 100000 in
set_option maxHeartbeats 4000000 in
theorem b_Rd_readInside_13_4 {p : Program} {l : Launch} {e : Env} {s : State} {m : MethodId} {args : Array Value} {below : List Frame} {meth : Method} {c : Code} {D : va_G} {g : Gm} {A : Nat → Prop} {post : Sg → Prop} {F : Nat → Int32 → Int32 → Int32 → Int32 → Int32 → Int32 → Int32 → Sg → Prop} (C : kC p s m args meth c k_Rd_readInside 9 (none) GW R_Rd D vwCl g (Zk g) A) {V : Nat → Int32 → Int32 → Int32 → Sg → (Sg → Prop) → Prop} {d : Nat} (hV : ∀ (sz : Nat) (x1 : Int32) (x2 : Int32) (x3 : Int32) (σ : Sg) (post : Sg → Prop), V 13 x1 x2 x3 σ post → Met l y_Rd_readValue (.code y_Rd_readValue k_Rd_readValue 6 (none) :: GW) { frames := (4 + 3 * d), cells := 0, slots := 0, locals := (100 + 76 * d) } (PcW D vwCl (WS g) g (Zk g) σ sz [.ref (g.1 25), .int x1, .int x2, .int x3]) (QvW D vwCl (WS g) post (va_A (WS g σ) sz)) 0 0 (va_A (WS g σ) sz)) (j2 : J_Rd_readInside_13_2 p l e s m args below meth c D g A d post F) (x1 : Int32) (x2 : Int32) (x3 : Int32) (x4 : Int32) (x7 : Int32) (σ : Sg) (H : Heap) (locs : List Loc) (ls : Array Slot) (hl : lv_has ls 9 [(0, .ref (g.1 25)), (1, .int x1), (2, .int x2), (3, .int x3), (4, .int x4), (7, .int x7)]) (hst : Wst D vwCl (WS g) A s σ H locs) (h : wb_Rd_readInside_4 V 13 F post x1 x2 x3 x4 x7 σ) : W p l e { frames := (6 + 3 * d), cells := 0, slots := 0, locals := (148 + 76 * d) } s m args below meth c H locs 0 0 (MQ below (QvW D vwCl (WS g) post A) args s 0 0 A) (F0 m 170 ls []) := by
  obtain ⟨hx, hb, hr, hml, hown, hts, hlocks, hK, hZ, hA⟩ := C
  unfold wb_Rd_readInside_4 at h
  refine lv_aload_n hx hb d_Rd_readInside_170 rfl (lv_at hl 0 rfl) ?_
  refine lv_dup hx hb d_Rd_readInside_171 rfl ?_
  refine va_get (D := D) (ci := 2) (C := R_Rd) (T := T_Rd) (N := 5) hx hb hts in_Rd hown hK hst.1 25 (WS_o25 g σ) rfl 4 (by decide) (hts _ gw214) (fun _ h9 => h9) rfl d_Rd_readInside_172 ?_
  refine lv_iconst (v := (1 : Int32)) hx hb d_Rd_readInside_175 (by decide) ?_
  refine lv_iadd hx hb d_Rd_readInside_176 ?_
  refine kw_put (D := D) (ci := 2) (ty := .int) (C := R_Rd) (T := T_Rd) (N := 5) hx hb hts in_Rd ty_Rd ty_Rd_ok nm_Rd hown hK hst 25 (WS_o25 g σ) rfl 4 (by decide) (hts _ gw214) (fun _ h9 => h9) rfl (by decide +kernel) rfl rfl (Nat.le_of_ble_eq_true rfl) (WS_p25_4 g σ _) d_Rd_readInside_177 (fun σ1 H locs e1 hst => ?_)
  replace h := h σ1 e1
  refine lv_iconst (v := (1 : Int32)) hx hb d_Rd_readInside_180 (by decide) ?_
  refine lv_istore hx hb d_Rd_readInside_181 hl (by decide) rfl (fun ls hl => ?_)
  have hl : lv_has ls 9 [(5, .int (1 : Int32)), (0, .ref (g.1 25)), (1, .int x1), (2, .int x2), (3, .int x3), (4, .int x4), (7, .int x7)] := hl
  refine lv_iconst (v := (0 : Int32)) hx hb d_Rd_readInside_183 (by decide) ?_
  refine lv_istore hx hb d_Rd_readInside_184 hl (by decide) rfl (fun ls hl => ?_)
  have hl : lv_has ls 9 [(6, .int (0 : Int32)), (5, .int (1 : Int32)), (0, .ref (g.1 25)), (1, .int x1), (2, .int x2), (3, .int x3), (4, .int x4), (7, .int x7)] := hl
  refine lv_goto (tgt := 260) hx hb d_Rd_readInside_186 (by decide) ?_
  refine lv_iinc (k := 7) (v := (x7 + 1)) hx hb d_Rd_readInside_260 hl rfl (kw_inc _ (by decide)) (by decide) rfl (fun ls hl => ?_)
  have hl : lv_has ls 9 [(7, .int (x7 + 1)), (6, .int (0 : Int32)), (5, .int (1 : Int32)), (0, .ref (g.1 25)), (1, .int x1), (2, .int x2), (3, .int x3), (4, .int x4)] := hl
  refine lv_goto (tgt := 42) hx hb d_Rd_readInside_263 (by decide) ?_
  exact j2 x1 x2 x3 x4 (1 : Int32) (0 : Int32) (x7 + 1) σ1 _ _ _ (lv_sub hl [3, 4, 5, 6, 7, 2, 1, 0] rfl) hst h
set_option maxRecDepth 100000 in
set_option maxHeartbeats 4000000 in
theorem b_Rd_readInside_13_5 {p : Program} {l : Launch} {e : Env} {s : State} {m : MethodId} {args : Array Value} {below : List Frame} {meth : Method} {c : Code} {D : va_G} {g : Gm} {A : Nat → Prop} {post : Sg → Prop} {F : Nat → Int32 → Int32 → Int32 → Int32 → Int32 → Int32 → Int32 → Sg → Prop} (C : kC p s m args meth c k_Rd_readInside 9 (none) GW R_Rd D vwCl g (Zk g) A) {V : Nat → Int32 → Int32 → Int32 → Sg → (Sg → Prop) → Prop} {d : Nat} (hV : ∀ (sz : Nat) (x1 : Int32) (x2 : Int32) (x3 : Int32) (σ : Sg) (post : Sg → Prop), V 13 x1 x2 x3 σ post → Met l y_Rd_readValue (.code y_Rd_readValue k_Rd_readValue 6 (none) :: GW) { frames := (4 + 3 * d), cells := 0, slots := 0, locals := (100 + 76 * d) } (PcW D vwCl (WS g) g (Zk g) σ sz [.ref (g.1 25), .int x1, .int x2, .int x3]) (QvW D vwCl (WS g) post (va_A (WS g σ) sz)) 0 0 (va_A (WS g σ) sz)) (j2 : J_Rd_readInside_13_2 p l e s m args below meth c D g A d post F) (x1 : Int32) (x2 : Int32) (x3 : Int32) (x4 : Int32) (x5 : Int32) (x7 : Int32) (σ : Sg) (H : Heap) (locs : List Loc) (ls : Array Slot) (hl : lv_has ls 9 [(0, .ref (g.1 25)), (1, .int x1), (2, .int x2), (3, .int x3), (4, .int x4), (5, .int x5), (7, .int x7)]) (hst : Wst D vwCl (WS g) A s σ H locs) (h : wb_Rd_readInside_5 V 13 F post x1 x2 x3 x4 x5 x7 σ) : W p l e { frames := (6 + 3 * d), cells := 0, slots := 0, locals := (148 + 76 * d) } s m args below meth c H locs 0 0 (MQ below (QvW D vwCl (WS g) post A) args s 0 0 A) (F0 m 229 ls []) := by
  obtain ⟨hx, hb, hr, hml, hown, hts, hlocks, hK, hZ, hA⟩ := C
  unfold wb_Rd_readInside_5 at h
  refine lv_iload_n hx hb d_Rd_readInside_229 rfl (lv_at hl 3 rfl) ?_
  refine lv_if_eq (tgt := 242) hx hb d_Rd_readInside_230 (by decide) (fun hc => ?_) (fun hc => ?_)
  · replace h := h.1 hc
    refine lv_aload_n hx hb d_Rd_readInside_242 rfl (lv_at hl 0 rfl) ?_
    refine lv_iload_n hx hb d_Rd_readInside_243 rfl (lv_at hl 1 rfl) ?_
    refine lv_iconst (v := (-1 : Int32)) hx hb d_Rd_readInside_244 (by decide) ?_
    refine lv_iload_n hx hb d_Rd_readInside_245 rfl (lv_at hl 2 rfl) ?_
    refine kw_callv (va_runV (As := [.int x1, .int (-1 : Int32), .int x2]) (rest := []) (b := g.1 25) ⟨hx, hb, hml, hown, hts⟩ (hV _ x1 (-1 : Int32) x2 _ _ h) (cwV 3 hts (gd_v gw642 gw644 gs7 gw9 gw645) rfl rfl rfl (by decide +kernel) ⟨show (4 + 3 * d) + 1 ≤ (6 + 3 * d) by omega, show 8 + (6 + 11) + (100 + 76 * d) ≤ (148 + 76 * d) by omega⟩) ⟨kw_blind (Zk_ok g), va_recv hK hst.1 rfl (WS_o25 g σ), kw_pre (Zk_ok g) hK hZ hA hst⟩ rfl rfl hl.1 rfl (lv_room (Nat.le_of_ble_eq_true rfl)) d_Rd_readInside_246 ⟨Nat.le_of_ble_eq_true rfl, Nat.le_of_ble_eq_true rfl⟩) hst hA (fun σ1 H locs h hst => ?_)
    refine lv_iconst (v := (1 : Int32)) hx hb d_Rd_readInside_249 (by decide) ?_
    refine lv_istore hx hb d_Rd_readInside_250 hl (by decide) rfl (fun ls hl => ?_)
    have hl : lv_has ls 9 [(6, .int (1 : Int32)), (0, .ref (g.1 25)), (1, .int x1), (2, .int x2), (3, .int x3), (4, .int x4), (5, .int x5), (7, .int x7)] := hl
    refine lv_goto (tgt := 260) hx hb d_Rd_readInside_252 (by decide) ?_
    refine lv_iinc (k := 7) (v := (x7 + 1)) hx hb d_Rd_readInside_260 hl rfl (kw_inc _ (by decide)) (by decide) rfl (fun ls hl => ?_)
    have hl : lv_has ls 9 [(7, .int (x7 + 1)), (6, .int (1 : Int32)), (0, .ref (g.1 25)), (1, .int x1), (2, .int x2), (3, .int x3), (4, .int x4), (5, .int x5)] := hl
    refine lv_goto (tgt := 42) hx hb d_Rd_readInside_263 (by decide) ?_
    exact j2 x1 x2 x3 x4 x5 (1 : Int32) (x7 + 1) σ1 _ _ _ (lv_sub hl [2, 3, 4, 5, 6, 7, 1, 0] rfl) hst h
  · replace h := h.2 hc
    refine lv_aload_n hx hb d_Rd_readInside_233 rfl (lv_at hl 0 rfl) ?_
    refine lv_iload_n hx hb d_Rd_readInside_234 rfl (lv_at hl 1 rfl) ?_
    refine lv_iload_n hx hb d_Rd_readInside_235 rfl (lv_at hl 2 rfl) ?_
    refine kw_callv (va_runV (As := [.int x1, .int x2]) (rest := []) (b := g.1 25) ⟨hx, hb, hml, hown, hts⟩ (c_Rd_readMember_13 l V d hV x1 x2 h) (cwV 2 hts (gd_v gw657 gw659 gs9 gw9 gw660) rfl rfl rfl (by decide +kernel) ⟨show (5 + 3 * d) + 1 ≤ (6 + 3 * d) by omega, show 8 + (4 + 11) + (125 + 76 * d) ≤ (148 + 76 * d) by omega⟩) ⟨kw_blind (Zk_ok g), va_recv hK hst.1 rfl (WS_o25 g σ), kw_pre (Zk_ok g) hK hZ hA hst⟩ rfl rfl hl.1 rfl (lv_room (Nat.le_of_ble_eq_true rfl)) d_Rd_readInside_236 ⟨Nat.le_of_ble_eq_true rfl, Nat.le_of_ble_eq_true rfl⟩) hst hA (fun σ1 H locs h hst => ?_)
    refine lv_goto (tgt := 249) hx hb d_Rd_readInside_239 (by decide) ?_
    refine lv_iconst (v := (1 : Int32)) hx hb d_Rd_readInside_249 (by decide) ?_
    refine lv_istore hx hb d_Rd_readInside_250 hl (by decide) rfl (fun ls hl => ?_)
    have hl : lv_has ls 9 [(6, .int (1 : Int32)), (0, .ref (g.1 25)), (1, .int x1), (2, .int x2), (3, .int x3), (4, .int x4), (5, .int x5), (7, .int x7)] := hl
    refine lv_goto (tgt := 260) hx hb d_Rd_readInside_252 (by decide) ?_
    refine lv_iinc (k := 7) (v := (x7 + 1)) hx hb d_Rd_readInside_260 hl rfl (kw_inc _ (by decide)) (by decide) rfl (fun ls hl => ?_)
    have hl : lv_has ls 9 [(7, .int (x7 + 1)), (6, .int (1 : Int32)), (0, .ref (g.1 25)), (1, .int x1), (2, .int x2), (3, .int x3), (4, .int x4), (5, .int x5)] := hl
    refine lv_goto (tgt := 42) hx hb d_Rd_readInside_263 (by decide) ?_
    exact j2 x1 x2 x3 x4 x5 (1 : Int32) (x7 + 1) σ1 _ _ _ (lv_sub hl [2, 3, 4, 5, 6, 7, 1, 0] rfl) hst h
set_option maxRecDepth 100000 in
set_option maxHeartbeats 4000000 in
theorem a_Rd_readInside_13 {p : Program} {l : Launch} {e : Env} {s : State} {m : MethodId} {args : Array Value} {below : List Frame} {meth : Method} {c : Code} {D : va_G} {g : Gm} {A : Nat → Prop} {post : Sg → Prop} (C : kC p s m args meth c k_Rd_readInside 9 (none) GW R_Rd D vwCl g (Zk g) A) {V : Nat → Int32 → Int32 → Int32 → Sg → (Sg → Prop) → Prop} {d : Nat} (hV : ∀ (sz : Nat) (x1 : Int32) (x2 : Int32) (x3 : Int32) (σ : Sg) (post : Sg → Prop), V 13 x1 x2 x3 σ post → Met l y_Rd_readValue (.code y_Rd_readValue k_Rd_readValue 6 (none) :: GW) { frames := (4 + 3 * d), cells := 0, slots := 0, locals := (100 + 76 * d) } (PcW D vwCl (WS g) g (Zk g) σ sz [.ref (g.1 25), .int x1, .int x2, .int x3]) (QvW D vwCl (WS g) post (va_A (WS g σ) sz)) 0 0 (va_A (WS g σ) sz)) : ∀ n : Nat, J_Rd_readInside_13_1 p l e s m args below meth c D g A d post (wp_Rd_readInside V 13 post n) ∧ J_Rd_readInside_13_2 p l e s m args below meth c D g A d post (wp_Rd_readInside V 13 post n) ∧ J_Rd_readInside_13_3 p l e s m args below meth c D g A d post (wp_Rd_readInside V 13 post n) ∧ J_Rd_readInside_13_4 p l e s m args below meth c D g A d post (wp_Rd_readInside V 13 post n) ∧ J_Rd_readInside_13_5 p l e s m args below meth c D g A d post (wp_Rd_readInside V 13 post n) := by
  intro n
  induction n with
  | zero => exact ⟨fun _ _ _ _ _ _ _ _ _ h => h.elim, fun _ _ _ _ _ _ _ _ _ _ _ _ _ h => h.elim, fun _ _ _ _ _ _ _ _ _ _ _ _ _ h => h.elim, fun _ _ _ _ _ _ _ _ _ _ _ h => h.elim, fun _ _ _ _ _ _ _ _ _ _ _ _ h => h.elim⟩
  | succ n ih => exact ⟨fun x1 x2 x3 σ H locs ls hl hst h => b_Rd_readInside_13_1 (F := wp_Rd_readInside V 13 post n) C hV (ih.2.1) x1 x2 x3 σ H locs ls hl hst h, fun x1 x2 x3 x4 x5 x6 x7 σ H locs ls hl hst h => b_Rd_readInside_13_2 (F := wp_Rd_readInside V 13 post n) C hV (ih.2.1) (ih.2.2.1) (ih.2.2.2.1) x1 x2 x3 x4 x5 x6 x7 σ H locs ls hl hst h, fun x1 x2 x3 x4 x5 x6 x7 σ H locs ls hl hst h => b_Rd_readInside_13_3 (F := wp_Rd_readInside V 13 post n) C hV (ih.2.2.2.2) x1 x2 x3 x4 x5 x6 x7 σ H locs ls hl hst h, fun x1 x2 x3 x4 x7 σ H locs ls hl hst h => b_Rd_readInside_13_4 (F := wp_Rd_readInside V 13 post n) C hV (ih.2.1) x1 x2 x3 x4 x7 σ H locs ls hl hst h, fun x1 x2 x3 x4 x5 x7 σ H locs ls hl hst h => b_Rd_readInside_13_5 (F := wp_Rd_readInside V 13 post n) C hV (ih.2.1) x1 x2 x3 x4 x5 x7 σ H locs ls hl hst h⟩
set_option maxRecDepth 100000 in
set_option maxHeartbeats 4000000 in
theorem c_Rd_readInside_13 (l : Launch) {D : va_G} {g : Gm} (V : Nat → Int32 → Int32 → Int32 → Sg → (Sg → Prop) → Prop) (d : Nat) (hV : ∀ (sz : Nat) (x1 : Int32) (x2 : Int32) (x3 : Int32) (σ : Sg) (post : Sg → Prop), V 13 x1 x2 x3 σ post → Met l y_Rd_readValue (.code y_Rd_readValue k_Rd_readValue 6 (none) :: GW) { frames := (4 + 3 * d), cells := 0, slots := 0, locals := (100 + 76 * d) } (PcW D vwCl (WS g) g (Zk g) σ sz [.ref (g.1 25), .int x1, .int x2, .int x3]) (QvW D vwCl (WS g) post (va_A (WS g σ) sz)) 0 0 (va_A (WS g σ) sz)) {sz : Nat} (x1 : Int32) (x2 : Int32) {σ : Sg} {post : Sg → Prop} (h : wq_Rd_readInside V 13 x1 x2 σ post) : Met l y_Rd_readInside (.code y_Rd_readInside k_Rd_readInside 9 (none) :: GW) { frames := (6 + 3 * d), cells := 0, slots := 0, locals := (148 + 76 * d) } (PcW D vwCl (WS g) g (Zk g) σ sz [.ref (g.1 25), .int x1, .int x2]) (QvW D vwCl (WS g) post (va_A (WS g σ) sz)) 0 0 (va_A (WS g σ) sz) := by
  refine kw_entry (own := R_Rd) (by decide) rfl rfl (Nat.le_of_ble_eq_true rfl) ?_
  intro p e s m below meth c ls hsz C hin hl hst
  obtain ⟨n, h⟩ := h
  cases n with
  | zero => exact h.elim
  | succ n =>
    have ih := a_Rd_readInside_13 (l := l) (e := e) (below := below) (post := post) C hV n
    exact b_Rd_readInside_13_0 (F := wp_Rd_readInside V 13 post n) C hV (ih.1) x1 x2 σ _ _ ls hl hst h
/-! SchemaDesk$Reader.readValue (III)V -/
theorem d_Rd_readValue_0 : decode k_Rd_readValue 0 = .ok (.aload_n 0, 1) := by decide +kernel
theorem d_Rd_readValue_1 : decode k_Rd_readValue 1 = .ok (.getfield 21, 3) := by decide +kernel
theorem d_Rd_readValue_4 : decode k_Rd_readValue 4 = .ok (.getfield 61, 3) := by decide +kernel
theorem d_Rd_readValue_7 : decode k_Rd_readValue 7 = .ok (.aload_n 0, 1) := by decide +kernel
theorem d_Rd_readValue_8 : decode k_Rd_readValue 8 = .ok (.getfield 33, 3) := by decide +kernel
theorem d_Rd_readValue_11 : decode k_Rd_readValue 11 = .ok (.caload, 1) := by decide +kernel
theorem d_Rd_readValue_12 : decode k_Rd_readValue 12 = .ok (.istore 4, 2) := by decide +kernel
theorem d_Rd_readValue_14 : decode k_Rd_readValue 14 = .ok (.aload_n 0, 1) := by decide +kernel
theorem d_Rd_readValue_15 : decode k_Rd_readValue 15 = .ok (.getfield 9, 3) := by decide +kernel
theorem d_Rd_readValue_18 : decode k_Rd_readValue 18 = .ok (.iload 4, 2) := by decide +kernel
theorem d_Rd_readValue_20 : decode k_Rd_readValue 20 = .ok (.invokestatic 75, 3) := by decide +kernel
theorem d_Rd_readValue_23 : decode k_Rd_readValue 23 = .ok (.aload_n 0, 1) := by decide +kernel
theorem d_Rd_readValue_24 : decode k_Rd_readValue 24 = .ok (.getfield 33, 3) := by decide +kernel
theorem d_Rd_readValue_27 : decode k_Rd_readValue 27 = .ok (.iload_n 1, 1) := by decide +kernel
theorem d_Rd_readValue_28 : decode k_Rd_readValue 28 = .ok (.iload_n 2, 1) := by decide +kernel
theorem d_Rd_readValue_29 : decode k_Rd_readValue 29 = .ok (.invokevirtual 79, 3) := by decide +kernel
theorem d_Rd_readValue_32 : decode k_Rd_readValue 32 = .ok (.istore 5, 2) := by decide +kernel
theorem d_Rd_readValue_34 : decode k_Rd_readValue 34 = .ok (.iload 4, 2) := by decide +kernel
theorem d_Rd_readValue_36 : decode k_Rd_readValue 36 = .ok (.invokestatic 65, 3) := by decide +kernel
theorem d_Rd_readValue_39 : decode k_Rd_readValue 39 = .ok (.ifCond .eq 25, 3) := by decide +kernel
theorem d_Rd_readValue_42 : decode k_Rd_readValue 42 = .ok (.aload_n 0, 1) := by decide +kernel
theorem d_Rd_readValue_43 : decode k_Rd_readValue 43 = .ok (.dup, 1) := by decide +kernel
theorem d_Rd_readValue_44 : decode k_Rd_readValue 44 = .ok (.getfield 33, 3) := by decide +kernel
theorem d_Rd_readValue_47 : decode k_Rd_readValue 47 = .ok (.iconst 1, 1) := by decide +kernel
theorem d_Rd_readValue_48 : decode k_Rd_readValue 48 = .ok (.iadd, 1) := by decide +kernel
theorem d_Rd_readValue_49 : decode k_Rd_readValue 49 = .ok (.putfield 33, 3) := by decide +kernel
theorem d_Rd_readValue_52 : decode k_Rd_readValue 52 = .ok (.aload_n 0, 1) := by decide +kernel
theorem d_Rd_readValue_53 : decode k_Rd_readValue 53 = .ok (.iload 5, 2) := by decide +kernel
theorem d_Rd_readValue_55 : decode k_Rd_readValue 55 = .ok (.iload_n 3, 1) := by decide +kernel
theorem d_Rd_readValue_56 : decode k_Rd_readValue 56 = .ok (.iconst 1, 1) := by decide +kernel
theorem d_Rd_readValue_57 : decode k_Rd_readValue 57 = .ok (.iadd, 1) := by decide +kernel
theorem d_Rd_readValue_58 : decode k_Rd_readValue 58 = .ok (.invokevirtual 83, 3) := by decide +kernel
theorem d_Rd_readValue_61 : decode k_Rd_readValue 61 = .ok (.goto 40, 3) := by decide +kernel
theorem d_Rd_readValue_64 : decode k_Rd_readValue 64 = .ok (.iload 4, 2) := by decide +kernel
theorem d_Rd_readValue_66 : decode k_Rd_readValue 66 = .ok (.bipush 34, 2) := by decide +kernel
theorem d_Rd_readValue_68 : decode k_Rd_readValue 68 = .ok (.if_icmp .ne 10, 3) := by decide +kernel
theorem d_Rd_readValue_71 : decode k_Rd_readValue 71 = .ok (.aload_n 0, 1) := by decide +kernel
theorem d_Rd_readValue_72 : decode k_Rd_readValue 72 = .ok (.invokevirtual 86, 3) := by decide +kernel
theorem d_Rd_readValue_75 : decode k_Rd_readValue 75 = .ok (.goto 26, 3) := by decide +kernel
theorem d_Rd_readValue_78 : decode k_Rd_readValue 78 = .ok (.iload 4, 2) := by decide +kernel
theorem d_Rd_readValue_80 : decode k_Rd_readValue 80 = .ok (.invokestatic 72, 3) := by decide +kernel
theorem d_Rd_readValue_83 : decode k_Rd_readValue 83 = .ok (.ifCond .eq 12, 3) := by decide +kernel
theorem d_Rd_readValue_86 : decode k_Rd_readValue 86 = .ok (.aload_n 0, 1) := by decide +kernel
theorem d_Rd_readValue_87 : decode k_Rd_readValue 87 = .ok (.iload 5, 2) := by decide +kernel
theorem d_Rd_readValue_89 : decode k_Rd_readValue 89 = .ok (.invokevirtual 89, 3) := by decide +kernel
theorem d_Rd_readValue_92 : decode k_Rd_readValue 92 = .ok (.goto 9, 3) := by decide +kernel
theorem d_Rd_readValue_95 : decode k_Rd_readValue 95 = .ok (.aload_n 0, 1) := by decide +kernel
theorem d_Rd_readValue_96 : decode k_Rd_readValue 96 = .ok (.iload 5, 2) := by decide +kernel
theorem d_Rd_readValue_98 : decode k_Rd_readValue 98 = .ok (.invokevirtual 92, 3) := by decide +kernel
theorem d_Rd_readValue_101 : decode k_Rd_readValue 101 = .ok (.aload_n 0, 1) := by decide +kernel
theorem d_Rd_readValue_102 : decode k_Rd_readValue 102 = .ok (.getfield 9, 3) := by decide +kernel
theorem d_Rd_readValue_105 : decode k_Rd_readValue 105 = .ok (.iload 5, 2) := by decide +kernel
theorem d_Rd_readValue_107 : decode k_Rd_readValue 107 = .ok (.aload_n 0, 1) := by decide +kernel
theorem d_Rd_readValue_108 : decode k_Rd_readValue 108 = .ok (.getfield 33, 3) := by decide +kernel
theorem d_Rd_readValue_111 : decode k_Rd_readValue 111 = .ok (.invokevirtual 95, 3) := by decide +kernel
theorem d_Rd_readValue_114 : decode k_Rd_readValue 114 = .ok (.return_, 1) := by decide +kernel
theorem gw646 : (Jvm.Cond.methodLink "SchemaDesk$Reader" (75 : Nat) ({ cls := "SchemaDesk$Reader", name := "kindBegunBy", desc := "(C)I" } : Jvm.MethodName)) ∈ GW := gw_t3 (List.mem_of_getElem? (i := 166) rfl) rfl
theorem gw647 : (Jvm.Cond.static ({ cls := "SchemaDesk$Reader", name := "kindBegunBy", desc := "(C)I" } : Jvm.MethodName)) ∈ GW := gw_t3 (List.mem_of_getElem? (i := 167) rfl) rfl
theorem gw648 : (Jvm.Cond.code ({ cls := "SchemaDesk$Reader", name := "kindBegunBy", desc := "(C)I" } : Jvm.MethodName) prog_5_method_7_code (1 : Nat) (Option.some Jvm.ClassFile.FieldType.int)) ∈ GW := gw_t3 (List.mem_of_getElem? (i := 168) rfl) rfl
theorem gw649 : (Jvm.Cond.methodLink "SchemaDesk$Reader" (79 : Nat) ({ cls := "SchemaDesk$Tree", name := "open", desc := "(IIII)I" } : Jvm.MethodName)) ∈ GW := gw_t3 (List.mem_of_getElem? (i := 169) rfl) rfl
theorem gw650 : (Jvm.Cond.instanceMethod ({ cls := "SchemaDesk$Tree", name := "open", desc := "(IIII)I" } : Jvm.MethodName)) ∈ GW := gw_t3 (List.mem_of_getElem? (i := 170) rfl) rfl
theorem gw651 : (Jvm.Cond.selects "SchemaDesk$Tree" ({ cls := "SchemaDesk$Tree", name := "open", desc := "(IIII)I" } : Jvm.MethodName) ({ cls := "SchemaDesk$Tree", name := "open", desc := "(IIII)I" } : Jvm.MethodName)) ∈ GW := gw_t3 (List.mem_of_getElem? (i := 171) rfl) rfl
theorem gw652 : (Jvm.Cond.code ({ cls := "SchemaDesk$Tree", name := "open", desc := "(IIII)I" } : Jvm.MethodName) prog_8_method_4_code (6 : Nat) (Option.some Jvm.ClassFile.FieldType.int)) ∈ GW := gw_t3 (List.mem_of_getElem? (i := 172) rfl) rfl
theorem gw685 : (Jvm.Cond.methodLink "SchemaDesk$Reader" (92 : Nat) ({ cls := "SchemaDesk$Reader", name := "readNumber", desc := "(I)V" } : Jvm.MethodName)) ∈ GW := gw_t3 (List.mem_of_getElem? (i := 205) rfl) rfl
theorem gw687 : (Jvm.Cond.instanceMethod ({ cls := "SchemaDesk$Reader", name := "readNumber", desc := "(I)V" } : Jvm.MethodName)) ∈ GW := gw_t3 (List.mem_of_getElem? (i := 207) rfl) rfl
theorem gs12 : Cond.selects "SchemaDesk$Reader" ⟨"SchemaDesk$Reader", "readNumber", "(I)V"⟩ ⟨"SchemaDesk$Reader", "readNumber", "(I)V"⟩ ∈ GW := gw_p1 (q := (⟨"SchemaDesk$Reader", "readNumber", "(I)V"⟩, 5)) (List.mem_of_getElem? (i := 12) rfl)
theorem gw688 : (Jvm.Cond.code ({ cls := "SchemaDesk$Reader", name := "readNumber", desc := "(I)V" } : Jvm.MethodName) prog_5_method_11_code (6 : Nat) (Option.none : Option Jvm.ClassFile.FieldType)) ∈ GW := gw_t3 (List.mem_of_getElem? (i := 208) rfl) rfl
theorem gw689 : (Jvm.Cond.methodLink "SchemaDesk$Reader" (95 : Nat) ({ cls := "SchemaDesk$Tree", name := "close", desc := "(II)V" } : Jvm.MethodName)) ∈ GW := gw_t3 (List.mem_of_getElem? (i := 209) rfl) rfl
theorem gw690 : (Jvm.Cond.instanceMethod ({ cls := "SchemaDesk$Tree", name := "close", desc := "(II)V" } : Jvm.MethodName)) ∈ GW := gw_t3 (List.mem_of_getElem? (i := 210) rfl) rfl
theorem gw691 : (Jvm.Cond.selects "SchemaDesk$Tree" ({ cls := "SchemaDesk$Tree", name := "close", desc := "(II)V" } : Jvm.MethodName) ({ cls := "SchemaDesk$Tree", name := "close", desc := "(II)V" } : Jvm.MethodName)) ∈ GW := gw_t3 (List.mem_of_getElem? (i := 211) rfl) rfl
theorem gw692 : (Jvm.Cond.code ({ cls := "SchemaDesk$Tree", name := "close", desc := "(II)V" } : Jvm.MethodName) prog_8_method_5_code (3 : Nat) (Option.none : Option Jvm.ClassFile.FieldType)) ∈ GW := gw_t3 (List.mem_of_getElem? (i := 212) rfl) rfl
theorem gw677 : (Jvm.Cond.methodLink "SchemaDesk$Reader" (89 : Nat) ({ cls := "SchemaDesk$Reader", name := "readLetters", desc := "(I)V" } : Jvm.MethodName)) ∈ GW := gw_t3 (List.mem_of_getElem? (i := 197) rfl) rfl
theorem gw679 : (Jvm.Cond.instanceMethod ({ cls := "SchemaDesk$Reader", name := "readLetters", desc := "(I)V" } : Jvm.MethodName)) ∈ GW := gw_t3 (List.mem_of_getElem? (i := 199) rfl) rfl
theorem gs11 : Cond.selects "SchemaDesk$Reader" ⟨"SchemaDesk$Reader", "readLetters", "(I)V"⟩ ⟨"SchemaDesk$Reader", "readLetters", "(I)V"⟩ ∈ GW := gw_p1 (q := (⟨"SchemaDesk$Reader", "readLetters", "(I)V"⟩, 5)) (List.mem_of_getElem? (i := 11) rfl)
theorem gw680 : (Jvm.Cond.code ({ cls := "SchemaDesk$Reader", name := "readLetters", desc := "(I)V" } : Jvm.MethodName) prog_5_method_12_code (3 : Nat) (Option.none : Option Jvm.ClassFile.FieldType)) ∈ GW := gw_t3 (List.mem_of_getElem? (i := 200) rfl) rfl
theorem gw653 : (Jvm.Cond.methodLink "SchemaDesk$Reader" (83 : Nat) ({ cls := "SchemaDesk$Reader", name := "readInside", desc := "(II)V" } : Jvm.MethodName)) ∈ GW := gw_t3 (List.mem_of_getElem? (i := 173) rfl) rfl
theorem gw655 : (Jvm.Cond.instanceMethod ({ cls := "SchemaDesk$Reader", name := "readInside", desc := "(II)V" } : Jvm.MethodName)) ∈ GW := gw_t3 (List.mem_of_getElem? (i := 175) rfl) rfl
theorem gs8 : Cond.selects "SchemaDesk$Reader" ⟨"SchemaDesk$Reader", "readInside", "(II)V"⟩ ⟨"SchemaDesk$Reader", "readInside", "(II)V"⟩ ∈ GW := gw_p1 (q := (⟨"SchemaDesk$Reader", "readInside", "(II)V"⟩, 5)) (List.mem_of_getElem? (i := 8) rfl)
theorem gw656 : (Jvm.Cond.code ({ cls := "SchemaDesk$Reader", name := "readInside", desc := "(II)V" } : Jvm.MethodName) prog_5_method_8_code (9 : Nat) (Option.none : Option Jvm.ClassFile.FieldType)) ∈ GW := gw_t3 (List.mem_of_getElem? (i := 176) rfl) rfl
def wqf_Rd_readValue (V : Nat → Int32 → Int32 → Int32 → Sg → (Sg → Prop) → Prop) (b : Nat) (x1 : Int32) (x2 : Int32) (x3 : Int32) (σ : Sg) (post : Sg → Prop) : Prop := (vp_in (σ.1 (b + 12) 4) (tl b) ∧ (wq_Rd_kindBegunBy (σ.1 (b + 11) ((σ.1 (b + 12) 4) : Int32).toNatClampNeg) σ (fun r1 σ1 => (wq_Tr_open b r1 (σ1.1 (b + 12) 4) x1 x2 σ1 (fun r2 σ2 => (wq_Rd_opens (σ.1 (b + 11) ((σ.1 (b + 12) 4) : Int32).toNatClampNeg) σ2 (fun r3 σ3 => ((r3 = 0 → ((¬ (σ.1 (b + 11) ((σ.1 (b + 12) 4) : Int32).toNatClampNeg) = (34 : Int32) → (wq_Rd_isLowerLetter (σ.1 (b + 11) ((σ.1 (b + 12) 4) : Int32).toNatClampNeg) σ3 (fun r4 σ4 => ((r4 = 0 → (wq_Rd_readNumber b r2 σ4 (fun σ5 => (wq_Tr_close b r2 (σ5.1 (b + 12) 4) σ5 (fun σ6 => post σ6))))) ∧ (¬ r4 = 0 → (wq_Rd_readLetters b r2 σ4 (fun σ5 => (wq_Tr_close b r2 (σ5.1 (b + 12) 4) σ5 (fun σ6 => post σ6))))))))) ∧ ((σ.1 (b + 11) ((σ.1 (b + 12) 4) : Int32).toNatClampNeg) = (34 : Int32) → (wq_Rd_passQuoted b σ3 (fun σ4 => (wq_Tr_close b r2 (σ4.1 (b + 12) 4) σ4 (fun σ5 => post σ5))))))) ∧ (¬ r3 = 0 → (∀ σ4, σ4 = si σ3 (b + 12) 4 ((σ3.1 (b + 12) 4) + (1 : Int32)) → (wq_Rd_readInside V b r2 (x3 + (1 : Int32)) σ4 (fun σ5 => (wq_Tr_close b r2 (σ5.1 (b + 12) 4) σ5 (fun σ6 => post σ6))))))))))))))
set_option maxRecDepth 100000 in
set_option maxHeartbeats 4000000 in
theorem b_Rd_readValuef_0_0 {p : Program} {l : Launch} {e : Env} {s : State} {m : MethodId} {args : Array Value} {below : List Frame} {meth : Method} {c : Code} {D : va_G} {g : Gm} {A : Nat → Prop} {post : Sg → Prop} (C : kC p s m args meth c k_Rd_readValue 6 (none) GW R_Rd D vwCl g (Zk g) A) {V : Nat → Int32 → Int32 → Int32 → Sg → (Sg → Prop) → Prop} {d : Nat} (hV : ∀ (sz : Nat) (x1 : Int32) (x2 : Int32) (x3 : Int32) (σ : Sg) (post : Sg → Prop), V 0 x1 x2 x3 σ post → Met l y_Rd_readValue (.code y_Rd_readValue k_Rd_readValue 6 (none) :: GW) { frames := (4 + 3 * d), cells := 0, slots := 0, locals := (100 + 76 * d) } (PcW D vwCl (WS g) g (Zk g) σ sz [.ref (g.1 12), .int x1, .int x2, .int x3]) (QvW D vwCl (WS g) post (va_A (WS g σ) sz)) 0 0 (va_A (WS g σ) sz)) (x1 : Int32) (x2 : Int32) (x3 : Int32) (σ : Sg) (H : Heap) (locs : List Loc) (ls : Array Slot) (hl : lv_has ls 6 [(0, .ref (g.1 12)), (1, .int x1), (2, .int x2), (3, .int x3)]) (hst : Wst D vwCl (WS g) A s σ H locs) (h : wqf_Rd_readValue V 0 x1 x2 x3 σ post) : W p l e { frames := (7 + 3 * d), cells := 0, slots := 0, locals := (176 + 76 * d) } s m args below meth c H locs 0 0 (MQ below (QvW D vwCl (WS g) post A) args s 0 0 A) (F0 m 0 ls []) := by
  obtain ⟨hx, hb, hr, hml, hown, hts, hlocks, hK, hZ, hA⟩ := C
  unfold wqf_Rd_readValue at h
  refine lv_aload_n hx hb d_Rd_readValue_0 rfl (lv_at hl 0 rfl) ?_
  refine va_get (D := D) (ci := 2) (C := R_Rd) (T := T_Rd) (N := 5) hx hb hts in_Rd hown hK hst.1 12 (WS_o12 g σ) rfl 2 (by decide) (hts _ gw212) (fun _ h9 => h9) rfl d_Rd_readValue_1 ?_
  refine va_get (D := D) (ci := 1) (C := R_Tx) (T := T_Tx) (N := 2) hx hb hts in_Tx hown hK hst.1 10 (WS_o10 g σ) rfl 0 (by decide) (hts _ gw107) (fun _ h9 => h9) rfl d_Rd_readValue_4 ?_
  refine lv_aload_n hx hb d_Rd_readValue_7 rfl (lv_at hl 0 rfl) ?_
  refine va_get (D := D) (ci := 2) (C := R_Rd) (T := T_Rd) (N := 5) hx hb hts in_Rd hown hK hst.1 12 (WS_o12 g σ) rfl 4 (by decide) (hts _ gw214) (fun _ h9 => h9) rfl d_Rd_readValue_8 ?_
  obtain ⟨hi, h⟩ := h
  refine va_cald hx hb hK hst.1 11 1 (WS_a11 g σ) rfl hi d_Rd_readValue_11 ?_
  refine lv_istore hx hb d_Rd_readValue_12 hl (by decide) rfl (fun ls hl => ?_)
  have hl : lv_has ls 6 [(4, .int (σ.1 11 ((σ.1 12 4) : Int32).toNatClampNeg)), (0, .ref (g.1 12)), (1, .int x1), (2, .int x2), (3, .int x3)] := hl
  refine lv_aload_n hx hb d_Rd_readValue_14 rfl (lv_at hl 1 rfl) ?_
  refine va_get (D := D) (ci := 2) (C := R_Rd) (T := T_Rd) (N := 5) hx hb hts in_Rd hown hK hst.1 12 (WS_o12 g σ) rfl 0 (by decide) (hts _ gw208) (fun _ h9 => h9) rfl d_Rd_readValue_15 ?_
  refine lv_iload hx hb d_Rd_readValue_18 (lv_at hl 0 rfl) ?_
  refine kw_calli (va_runS (As := [.int (σ.1 11 ((σ.1 12 4) : Int32).toNatClampNeg)]) (rest := [.ref (g.1 0)]) ⟨hx, hb, hml, hown, hts⟩ (c_Rd_kindBegunBy l (σ.1 11 ((σ.1 12 4) : Int32).toNatClampNeg) h) (cwS 1 hts (gd_s gw646 gw647 gw9 gw648) rfl rfl rfl (by decide +kernel) ⟨show 1 + 1 ≤ (7 + 3 * d) by omega, show 8 + (1 + 11) + 20 ≤ (176 + 76 * d) by omega⟩) ⟨kw_blind (Zk_ok g), kw_pre (Zk_ok g) hK hZ hA hst⟩ rfl rfl hl.1 rfl (lv_room (Nat.le_of_ble_eq_true rfl)) d_Rd_readValue_20 ⟨Nat.le_of_ble_eq_true rfl, Nat.le_of_ble_eq_true rfl⟩) hst hA (fun r1 σ1 H locs h hst => ?_)
  refine lv_aload_n hx hb d_Rd_readValue_23 rfl (lv_at hl 1 rfl) ?_
  refine va_get (D := D) (ci := 2) (C := R_Rd) (T := T_Rd) (N := 5) hx hb hts in_Rd hown hK hst.1 12 (WS_o12 g σ1) rfl 4 (by decide) (hts _ gw214) (fun _ h9 => h9) rfl d_Rd_readValue_24 ?_
  refine lv_iload_n hx hb d_Rd_readValue_27 rfl (lv_at hl 2 rfl) ?_
  refine lv_iload_n hx hb d_Rd_readValue_28 rfl (lv_at hl 3 rfl) ?_
  refine kw_calli (va_runV (As := [.int r1, .int (σ1.1 12 4), .int x1, .int x2]) (rest := []) (b := g.1 0) ⟨hx, hb, hml, hown, hts⟩ (c_Tr_open_0 l r1 (σ1.1 12 4) x1 x2 h) (cwV 4 hts (gd_v gw649 gw650 gw651 gw7 gw652) rfl rfl rfl (by decide +kernel) ⟨show 0 + 1 ≤ (7 + 3 * d) by omega, show 8 + (6 + 11) + 0 ≤ (176 + 76 * d) by omega⟩) ⟨kw_blind (Zk_ok g), va_recv hK hst.1 rfl (WS_o0 g σ1), kw_pre (Zk_ok g) hK hZ hA hst⟩ rfl rfl hl.1 rfl (lv_room (Nat.le_of_ble_eq_true rfl)) d_Rd_readValue_29 ⟨Nat.le_of_ble_eq_true rfl, Nat.le_of_ble_eq_true rfl⟩) hst hA (fun r2 σ2 H locs h hst => ?_)
  refine lv_istore hx hb d_Rd_readValue_32 hl (by decide) rfl (fun ls hl => ?_)
  have hl : lv_has ls 6 [(5, .int r2), (4, .int (σ.1 11 ((σ.1 12 4) : Int32).toNatClampNeg)), (0, .ref (g.1 12)), (1, .int x1), (2, .int x2), (3, .int x3)] := hl
  refine lv_iload hx hb d_Rd_readValue_34 (lv_at hl 1 rfl) ?_
  refine kw_calli (va_runS (As := [.int (σ.1 11 ((σ.1 12 4) : Int32).toNatClampNeg)]) (rest := []) ⟨hx, hb, hml, hown, hts⟩ (c_Rd_opens l (σ.1 11 ((σ.1 12 4) : Int32).toNatClampNeg) h) (cwS 1 hts (gd_s gw625 gw626 gw9 gw627) rfl rfl rfl (by decide +kernel) ⟨show 0 + 1 ≤ (7 + 3 * d) by omega, show 8 + (1 + 11) + 0 ≤ (176 + 76 * d) by omega⟩) ⟨kw_blind (Zk_ok g), kw_pre (Zk_ok g) hK hZ hA hst⟩ rfl rfl hl.1 rfl (lv_room (Nat.le_of_ble_eq_true rfl)) d_Rd_readValue_36 ⟨Nat.le_of_ble_eq_true rfl, Nat.le_of_ble_eq_true rfl⟩) hst hA (fun r3 σ3 H locs h hst => ?_)
  refine lv_if_eq (tgt := 64) hx hb d_Rd_readValue_39 (by decide) (fun hc => ?_) (fun hc => ?_)
  · replace h := h.1 hc
    refine lv_iload hx hb d_Rd_readValue_64 (lv_at hl 1 rfl) ?_
    refine lv_bipush (v := (34 : Int32)) hx hb d_Rd_readValue_66 (by decide) ?_
    refine lv_icmp_ne (tgt := 78) hx hb d_Rd_readValue_68 (by decide) (fun hc => ?_) (fun hc => ?_)
    · replace h := h.1 hc
      refine lv_iload hx hb d_Rd_readValue_78 (lv_at hl 1 rfl) ?_
      refine kw_calli (va_runS (As := [.int (σ.1 11 ((σ.1 12 4) : Int32).toNatClampNeg)]) (rest := []) ⟨hx, hb, hml, hown, hts⟩ (c_Rd_isLowerLetter l (σ.1 11 ((σ.1 12 4) : Int32).toNatClampNeg) h) (cwS 1 hts (gd_s gw631 gw632 gw9 gw633) rfl rfl rfl (by decide +kernel) ⟨show 0 + 1 ≤ (7 + 3 * d) by omega, show 8 + (1 + 11) + 0 ≤ (176 + 76 * d) by omega⟩) ⟨kw_blind (Zk_ok g), kw_pre (Zk_ok g) hK hZ hA hst⟩ rfl rfl hl.1 rfl (lv_room (Nat.le_of_ble_eq_true rfl)) d_Rd_readValue_80 ⟨Nat.le_of_ble_eq_true rfl, Nat.le_of_ble_eq_true rfl⟩) hst hA (fun r4 σ4 H locs h hst => ?_)
      refine lv_if_eq (tgt := 95) hx hb d_Rd_readValue_83 (by decide) (fun hc => ?_) (fun hc => ?_)
      · replace h := h.1 hc
        refine lv_aload_n hx hb d_Rd_readValue_95 rfl (lv_at hl 2 rfl) ?_
        refine lv_iload hx hb d_Rd_readValue_96 (lv_at hl 0 rfl) ?_
        refine kw_callv (va_runV (As := [.int r2]) (rest := []) (b := g.1 12) ⟨hx, hb, hml, hown, hts⟩ (c_Rd_readNumber_0 l r2 h) (cwV 1 hts (gd_v gw685 gw687 gs12 gw9 gw688) rfl rfl rfl (by decide +kernel) ⟨show 1 + 1 ≤ (7 + 3 * d) by omega, show 8 + (6 + 11) + 22 ≤ (176 + 76 * d) by omega⟩) ⟨kw_blind (Zk_ok g), va_recv hK hst.1 rfl (WS_o12 g σ4), kw_pre (Zk_ok g) hK hZ hA hst⟩ rfl rfl hl.1 rfl (lv_room (Nat.le_of_ble_eq_true rfl)) d_Rd_readValue_98 ⟨Nat.le_of_ble_eq_true rfl, Nat.le_of_ble_eq_true rfl⟩) hst hA (fun σ5 H locs h hst => ?_)
        refine lv_aload_n hx hb d_Rd_readValue_101 rfl (lv_at hl 2 rfl) ?_
        refine va_get (D := D) (ci := 2) (C := R_Rd) (T := T_Rd) (N := 5) hx hb hts in_Rd hown hK hst.1 12 (WS_o12 g σ5) rfl 0 (by decide) (hts _ gw208) (fun _ h9 => h9) rfl d_Rd_readValue_102 ?_
        refine lv_iload hx hb d_Rd_readValue_105 (lv_at hl 0 rfl) ?_
        refine lv_aload_n hx hb d_Rd_readValue_107 rfl (lv_at hl 2 rfl) ?_
        refine va_get (D := D) (ci := 2) (C := R_Rd) (T := T_Rd) (N := 5) hx hb hts in_Rd hown hK hst.1 12 (WS_o12 g σ5) rfl 4 (by decide) (hts _ gw214) (fun _ h9 => h9) rfl d_Rd_readValue_108 ?_
        refine kw_callv (va_runV (As := [.int r2, .int (σ5.1 12 4)]) (rest := []) (b := g.1 0) ⟨hx, hb, hml, hown, hts⟩ (c_Tr_close_0 l r2 (σ5.1 12 4) h) (cwV 2 hts (gd_v gw689 gw690 gw691 gw7 gw692) rfl rfl rfl (by decide +kernel) ⟨show 0 + 1 ≤ (7 + 3 * d) by omega, show 8 + (3 + 11) + 0 ≤ (176 + 76 * d) by omega⟩) ⟨kw_blind (Zk_ok g), va_recv hK hst.1 rfl (WS_o0 g σ5), kw_pre (Zk_ok g) hK hZ hA hst⟩ rfl rfl hl.1 rfl (lv_room (Nat.le_of_ble_eq_true rfl)) d_Rd_readValue_111 ⟨Nat.le_of_ble_eq_true rfl, Nat.le_of_ble_eq_true rfl⟩) hst hA (fun σ6 H locs h hst => ?_)
        exact kw_vret hx hb hr hlocks hst h d_Rd_readValue_114
      · replace h := h.2 hc
        refine lv_aload_n hx hb d_Rd_readValue_86 rfl (lv_at hl 2 rfl) ?_
        refine lv_iload hx hb d_Rd_readValue_87 (lv_at hl 0 rfl) ?_
        refine kw_callv (va_runV (As := [.int r2]) (rest := []) (b := g.1 12) ⟨hx, hb, hml, hown, hts⟩ (c_Rd_readLetters_0 l r2 h) (cwV 1 hts (gd_v gw677 gw679 gs11 gw9 gw680) rfl rfl rfl (by decide +kernel) ⟨show 1 + 1 ≤ (7 + 3 * d) by omega, show 8 + (3 + 11) + 26 ≤ (176 + 76 * d) by omega⟩) ⟨kw_blind (Zk_ok g), va_recv hK hst.1 rfl (WS_o12 g σ4), kw_pre (Zk_ok g) hK hZ hA hst⟩ rfl rfl hl.1 rfl (lv_room (Nat.le_of_ble_eq_true rfl)) d_Rd_readValue_89 ⟨Nat.le_of_ble_eq_true rfl, Nat.le_of_ble_eq_true rfl⟩) hst hA (fun σ5 H locs h hst => ?_)
        refine lv_goto (tgt := 101) hx hb d_Rd_readValue_92 (by decide) ?_
        refine lv_aload_n hx hb d_Rd_readValue_101 rfl (lv_at hl 2 rfl) ?_
        refine va_get (D := D) (ci := 2) (C := R_Rd) (T := T_Rd) (N := 5) hx hb hts in_Rd hown hK hst.1 12 (WS_o12 g σ5) rfl 0 (by decide) (hts _ gw208) (fun _ h9 => h9) rfl d_Rd_readValue_102 ?_
        refine lv_iload hx hb d_Rd_readValue_105 (lv_at hl 0 rfl) ?_
        refine lv_aload_n hx hb d_Rd_readValue_107 rfl (lv_at hl 2 rfl) ?_
        refine va_get (D := D) (ci := 2) (C := R_Rd) (T := T_Rd) (N := 5) hx hb hts in_Rd hown hK hst.1 12 (WS_o12 g σ5) rfl 4 (by decide) (hts _ gw214) (fun _ h9 => h9) rfl d_Rd_readValue_108 ?_
        refine kw_callv (va_runV (As := [.int r2, .int (σ5.1 12 4)]) (rest := []) (b := g.1 0) ⟨hx, hb, hml, hown, hts⟩ (c_Tr_close_0 l r2 (σ5.1 12 4) h) (cwV 2 hts (gd_v gw689 gw690 gw691 gw7 gw692) rfl rfl rfl (by decide +kernel) ⟨show 0 + 1 ≤ (7 + 3 * d) by omega, show 8 + (3 + 11) + 0 ≤ (176 + 76 * d) by omega⟩) ⟨kw_blind (Zk_ok g), va_recv hK hst.1 rfl (WS_o0 g σ5), kw_pre (Zk_ok g) hK hZ hA hst⟩ rfl rfl hl.1 rfl (lv_room (Nat.le_of_ble_eq_true rfl)) d_Rd_readValue_111 ⟨Nat.le_of_ble_eq_true rfl, Nat.le_of_ble_eq_true rfl⟩) hst hA (fun σ6 H locs h hst => ?_)
        exact kw_vret hx hb hr hlocks hst h d_Rd_readValue_114
    · replace h := h.2 hc
      refine lv_aload_n hx hb d_Rd_readValue_71 rfl (lv_at hl 2 rfl) ?_
      refine kw_callv (va_runV (As := []) (rest := []) (b := g.1 12) ⟨hx, hb, hml, hown, hts⟩ (c_Rd_passQuoted_0 l h) (cwV 0 hts (gd_v gw661 gw663 gs10 gw9 gw664) rfl rfl rfl (by decide +kernel) ⟨show 1 + 1 ≤ (7 + 3 * d) by omega, show 8 + (2 + 11) + 22 ≤ (176 + 76 * d) by omega⟩) ⟨kw_blind (Zk_ok g), va_recv hK hst.1 rfl (WS_o12 g σ3), kw_pre (Zk_ok g) hK hZ hA hst⟩ rfl rfl hl.1 rfl (lv_room (Nat.le_of_ble_eq_true rfl)) d_Rd_readValue_72 ⟨Nat.le_of_ble_eq_true rfl, Nat.le_of_ble_eq_true rfl⟩) hst hA (fun σ4 H locs h hst => ?_)
      refine lv_goto (tgt := 101) hx hb d_Rd_readValue_75 (by decide) ?_
      refine lv_aload_n hx hb d_Rd_readValue_101 rfl (lv_at hl 2 rfl) ?_
      refine va_get (D := D) (ci := 2) (C := R_Rd) (T := T_Rd) (N := 5) hx hb hts in_Rd hown hK hst.1 12 (WS_o12 g σ4) rfl 0 (by decide) (hts _ gw208) (fun _ h9 => h9) rfl d_Rd_readValue_102 ?_
      refine lv_iload hx hb d_Rd_readValue_105 (lv_at hl 0 rfl) ?_
      refine lv_aload_n hx hb d_Rd_readValue_107 rfl (lv_at hl 2 rfl) ?_
      refine va_get (D := D) (ci := 2) (C := R_Rd) (T := T_Rd) (N := 5) hx hb hts in_Rd hown hK hst.1 12 (WS_o12 g σ4) rfl 4 (by decide) (hts _ gw214) (fun _ h9 => h9) rfl d_Rd_readValue_108 ?_
      refine kw_callv (va_runV (As := [.int r2, .int (σ4.1 12 4)]) (rest := []) (b := g.1 0) ⟨hx, hb, hml, hown, hts⟩ (c_Tr_close_0 l r2 (σ4.1 12 4) h) (cwV 2 hts (gd_v gw689 gw690 gw691 gw7 gw692) rfl rfl rfl (by decide +kernel) ⟨show 0 + 1 ≤ (7 + 3 * d) by omega, show 8 + (3 + 11) + 0 ≤ (176 + 76 * d) by omega⟩) ⟨kw_blind (Zk_ok g), va_recv hK hst.1 rfl (WS_o0 g σ4), kw_pre (Zk_ok g) hK hZ hA hst⟩ rfl rfl hl.1 rfl (lv_room (Nat.le_of_ble_eq_true rfl)) d_Rd_readValue_111 ⟨Nat.le_of_ble_eq_true rfl, Nat.le_of_ble_eq_true rfl⟩) hst hA (fun σ5 H locs h hst => ?_)
      exact kw_vret hx hb hr hlocks hst h d_Rd_readValue_114
  · replace h := h.2 hc
    refine lv_aload_n hx hb d_Rd_readValue_42 rfl (lv_at hl 2 rfl) ?_
    refine lv_dup hx hb d_Rd_readValue_43 rfl ?_
    refine va_get (D := D) (ci := 2) (C := R_Rd) (T := T_Rd) (N := 5) hx hb hts in_Rd hown hK hst.1 12 (WS_o12 g σ3) rfl 4 (by decide) (hts _ gw214) (fun _ h9 => h9) rfl d_Rd_readValue_44 ?_
    refine lv_iconst (v := (1 : Int32)) hx hb d_Rd_readValue_47 (by decide) ?_
    refine lv_iadd hx hb d_Rd_readValue_48 ?_
    refine kw_put (D := D) (ci := 2) (ty := .int) (C := R_Rd) (T := T_Rd) (N := 5) hx hb hts in_Rd ty_Rd ty_Rd_ok nm_Rd hown hK hst 12 (WS_o12 g σ3) rfl 4 (by decide) (hts _ gw214) (fun _ h9 => h9) rfl (by decide +kernel) rfl rfl (Nat.le_of_ble_eq_true rfl) (WS_p12_4 g σ3 _) d_Rd_readValue_49 (fun σ4 H locs e4 hst => ?_)
    replace h := h σ4 e4
    refine lv_aload_n hx hb d_Rd_readValue_52 rfl (lv_at hl 2 rfl) ?_
    refine lv_iload hx hb d_Rd_readValue_53 (lv_at hl 0 rfl) ?_
    refine lv_iload_n hx hb d_Rd_readValue_55 rfl (lv_at hl 5 rfl) ?_
    refine lv_iconst (v := (1 : Int32)) hx hb d_Rd_readValue_56 (by decide) ?_
    refine lv_iadd hx hb d_Rd_readValue_57 ?_
    refine kw_callv (va_runV (As := [.int r2, .int (x3 + (1 : Int32))]) (rest := []) (b := g.1 12) ⟨hx, hb, hml, hown, hts⟩ (c_Rd_readInside_0 l V d hV r2 (x3 + (1 : Int32)) h) (cwV 2 hts (gd_v gw653 gw655 gs8 gw9 gw656) rfl rfl rfl (by decide +kernel) ⟨show (6 + 3 * d) + 1 ≤ (7 + 3 * d) by omega, show 8 + (9 + 11) + (148 + 76 * d) ≤ (176 + 76 * d) by omega⟩) ⟨kw_blind (Zk_ok g), va_recv hK hst.1 rfl (WS_o12 g σ4), kw_pre (Zk_ok g) hK hZ hA hst⟩ rfl rfl hl.1 rfl (lv_room (Nat.le_of_ble_eq_true rfl)) d_Rd_readValue_58 ⟨Nat.le_of_ble_eq_true rfl, Nat.le_of_ble_eq_true rfl⟩) hst hA (fun σ5 H locs h hst => ?_)
    refine lv_goto (tgt := 101) hx hb d_Rd_readValue_61 (by decide) ?_
    refine lv_aload_n hx hb d_Rd_readValue_101 rfl (lv_at hl 2 rfl) ?_
    refine va_get (D := D) (ci := 2) (C := R_Rd) (T := T_Rd) (N := 5) hx hb hts in_Rd hown hK hst.1 12 (WS_o12 g σ5) rfl 0 (by decide) (hts _ gw208) (fun _ h9 => h9) rfl d_Rd_readValue_102 ?_
    refine lv_iload hx hb d_Rd_readValue_105 (lv_at hl 0 rfl) ?_
    refine lv_aload_n hx hb d_Rd_readValue_107 rfl (lv_at hl 2 rfl) ?_
    refine va_get (D := D) (ci := 2) (C := R_Rd) (T := T_Rd) (N := 5) hx hb hts in_Rd hown hK hst.1 12 (WS_o12 g σ5) rfl 4 (by decide) (hts _ gw214) (fun _ h9 => h9) rfl d_Rd_readValue_108 ?_
    refine kw_callv (va_runV (As := [.int r2, .int (σ5.1 12 4)]) (rest := []) (b := g.1 0) ⟨hx, hb, hml, hown, hts⟩ (c_Tr_close_0 l r2 (σ5.1 12 4) h) (cwV 2 hts (gd_v gw689 gw690 gw691 gw7 gw692) rfl rfl rfl (by decide +kernel) ⟨show 0 + 1 ≤ (7 + 3 * d) by omega, show 8 + (3 + 11) + 0 ≤ (176 + 76 * d) by omega⟩) ⟨kw_blind (Zk_ok g), va_recv hK hst.1 rfl (WS_o0 g σ5), kw_pre (Zk_ok g) hK hZ hA hst⟩ rfl rfl hl.1 rfl (lv_room (Nat.le_of_ble_eq_true rfl)) d_Rd_readValue_111 ⟨Nat.le_of_ble_eq_true rfl, Nat.le_of_ble_eq_true rfl⟩) hst hA (fun σ6 H locs h hst => ?_)
    exact kw_vret hx hb hr hlocks hst h d_Rd_readValue_114
set_option maxRecDepth 100000 in
set_option maxHeartbeats 4000000 in
theorem c_Rd_readValuef_0 (l : Launch) {D : va_G} {g : Gm} (V : Nat → Int32 → Int32 → Int32 → Sg → (Sg → Prop) → Prop) (d : Nat) (hV : ∀ (sz : Nat) (x1 : Int32) (x2 : Int32) (x3 : Int32) (σ : Sg) (post : Sg → Prop), V 0 x1 x2 x3 σ post → Met l y_Rd_readValue (.code y_Rd_readValue k_Rd_readValue 6 (none) :: GW) { frames := (4 + 3 * d), cells := 0, slots := 0, locals := (100 + 76 * d) } (PcW D vwCl (WS g) g (Zk g) σ sz [.ref (g.1 12), .int x1, .int x2, .int x3]) (QvW D vwCl (WS g) post (va_A (WS g σ) sz)) 0 0 (va_A (WS g σ) sz)) {sz : Nat} (x1 : Int32) (x2 : Int32) (x3 : Int32) {σ : Sg} {post : Sg → Prop} (h : wqf_Rd_readValue V 0 x1 x2 x3 σ post) : Met l y_Rd_readValue (.code y_Rd_readValue k_Rd_readValue 6 (none) :: GW) { frames := (7 + 3 * d), cells := 0, slots := 0, locals := (176 + 76 * d) } (PcW D vwCl (WS g) g (Zk g) σ sz [.ref (g.1 12), .int x1, .int x2, .int x3]) (QvW D vwCl (WS g) post (va_A (WS g σ) sz)) 0 0 (va_A (WS g σ) sz) := by
  refine kw_entry (own := R_Rd) (by decide) rfl rfl (Nat.le_of_ble_eq_true rfl) ?_
  intro p e s m below meth c ls hsz C hin hl hst
  exact b_Rd_readValuef_0_0 C hV x1 x2 x3 σ _ _ ls hl hst h
set_option maxRecDepth 100000 in
set_option maxHeartbeats 4000000 in
theorem b_Rd_readValuef_13_0 {p : Program} {l : Launch} {e : Env} {s : State} {m : MethodId} {args : Array Value} {below : List Frame} {meth : Method} {c : Code} {D : va_G} {g : Gm} {A : Nat → Prop} {post : Sg → Prop} (C : kC p s m args meth c k_Rd_readValue 6 (none) GW R_Rd D vwCl g (Zk g) A) {V : Nat → Int32 → Int32 → Int32 → Sg → (Sg → Prop) → Prop} {d : Nat} (hV : ∀ (sz : Nat) (x1 : Int32) (x2 : Int32) (x3 : Int32) (σ : Sg) (post : Sg → Prop), V 13 x1 x2 x3 σ post → Met l y_Rd_readValue (.code y_Rd_readValue k_Rd_readValue 6 (none) :: GW) { frames := (4 + 3 * d), cells := 0, slots := 0, locals := (100 + 76 * d) } (PcW D vwCl (WS g) g (Zk g) σ sz [.ref (g.1 25), .int x1, .int x2, .int x3]) (QvW D vwCl (WS g) post (va_A (WS g σ) sz)) 0 0 (va_A (WS g σ) sz)) (x1 : Int32) (x2 : Int32) (x3 : Int32) (σ : Sg) (H : Heap) (locs : List Loc) (ls : Array Slot) (hl : lv_has ls 6 [(0, .ref (g.1 25)), (1, .int x1), (2, .int x2), (3, .int x3)]) (hst : Wst D vwCl (WS g) A s σ H locs) (h : wqf_Rd_readValue V 13 x1 x2 x3 σ post) : W p l e { frames := (7 + 3 * d), cells := 0, slots := 0, locals := (176 + 76 * d) } s m args below meth c H locs 0 0 (MQ below (QvW D vwCl (WS g) post A) args s 0 0 A) (F0 m 0 ls []) := by
  obtain ⟨hx, hb, hr, hml, hown, hts, hlocks, hK, hZ, hA⟩ := C
  unfold wqf_Rd_readValue at h
  refine lv_aload_n hx hb d_Rd_readValue_0 rfl (lv_at hl 0 rfl) ?_
  refine va_get (D := D) (ci := 2) (C := R_Rd) (T := T_Rd) (N := 5) hx hb hts in_Rd hown hK hst.1 25 (WS_o25 g σ) rfl 2 (by decide) (hts _ gw212) (fun _ h9 => h9) rfl d_Rd_readValue_1 ?_
  refine va_get (D := D) (ci := 1) (C := R_Tx) (T := T_Tx) (N := 2) hx hb hts in_Tx hown hK hst.1 23 (WS_o23 g σ) rfl 0 (by decide) (hts _ gw107) (fun _ h9 => h9) rfl d_Rd_readValue_4 ?_
  refine lv_aload_n hx hb d_Rd_readValue_7 rfl (lv_at hl 0 rfl) ?_
  refine va_get (D := D) (ci := 2) (C := R_Rd) (T := T_Rd) (N := 5) hx hb hts in_Rd hown hK hst.1 25 (WS_o25 g σ) rfl 4 (by decide) (hts _ gw214) (fun _ h9 => h9) rfl d_Rd_readValue_8 ?_
  obtain ⟨hi, h⟩ := h
  refine va_cald hx hb hK hst.1 24 1 (WS_a24 g σ) rfl hi d_Rd_readValue_11 ?_
  refine lv_istore hx hb d_Rd_readValue_12 hl (by decide) rfl (fun ls hl => ?_)
  have hl : lv_has ls 6 [(4, .int (σ.1 24 ((σ.1 25 4) : Int32).toNatClampNeg)), (0, .ref (g.1 25)), (1, .int x1), (2, .int x2), (3, .int x3)] := hl
  refine lv_aload_n hx hb d_Rd_readValue_14 rfl (lv_at hl 1 rfl) ?_
  refine va_get (D := D) (ci := 2) (C := R_Rd) (T := T_Rd) (N := 5) hx hb hts in_Rd hown hK hst.1 25 (WS_o25 g σ) rfl 0 (by decide) (hts _ gw208) (fun _ h9 => h9) rfl d_Rd_readValue_15 ?_
  refine lv_iload hx hb d_Rd_readValue_18 (lv_at hl 0 rfl) ?_
  refine kw_calli (va_runS (As := [.int (σ.1 24 ((σ.1 25 4) : Int32).toNatClampNeg)]) (rest := [.ref (g.1 13)]) ⟨hx, hb, hml, hown, hts⟩ (c_Rd_kindBegunBy l (σ.1 24 ((σ.1 25 4) : Int32).toNatClampNeg) h) (cwS 1 hts (gd_s gw646 gw647 gw9 gw648) rfl rfl rfl (by decide +kernel) ⟨show 1 + 1 ≤ (7 + 3 * d) by omega, show 8 + (1 + 11) + 20 ≤ (176 + 76 * d) by omega⟩) ⟨kw_blind (Zk_ok g), kw_pre (Zk_ok g) hK hZ hA hst⟩ rfl rfl hl.1 rfl (lv_room (Nat.le_of_ble_eq_true rfl)) d_Rd_readValue_20 ⟨Nat.le_of_ble_eq_true rfl, Nat.le_of_ble_eq_true rfl⟩) hst hA (fun r1 σ1 H locs h hst => ?_)
  refine lv_aload_n hx hb d_Rd_readValue_23 rfl (lv_at hl 1 rfl) ?_
  refine va_get (D := D) (ci := 2) (C := R_Rd) (T := T_Rd) (N := 5) hx hb hts in_Rd hown hK hst.1 25 (WS_o25 g σ1) rfl 4 (by decide) (hts _ gw214) (fun _ h9 => h9) rfl d_Rd_readValue_24 ?_
  refine lv_iload_n hx hb d_Rd_readValue_27 rfl (lv_at hl 2 rfl) ?_
  refine lv_iload_n hx hb d_Rd_readValue_28 rfl (lv_at hl 3 rfl) ?_
  refine kw_calli (va_runV (As := [.int r1, .int (σ1.1 25 4), .int x1, .int x2]) (rest := []) (b := g.1 13) ⟨hx, hb, hml, hown, hts⟩ (c_Tr_open_13 l r1 (σ1.1 25 4) x1 x2 h) (cwV 4 hts (gd_v gw649 gw650 gw651 gw7 gw652) rfl rfl rfl (by decide +kernel) ⟨show 0 + 1 ≤ (7 + 3 * d) by omega, show 8 + (6 + 11) + 0 ≤ (176 + 76 * d) by omega⟩) ⟨kw_blind (Zk_ok g), va_recv hK hst.1 rfl (WS_o13 g σ1), kw_pre (Zk_ok g) hK hZ hA hst⟩ rfl rfl hl.1 rfl (lv_room (Nat.le_of_ble_eq_true rfl)) d_Rd_readValue_29 ⟨Nat.le_of_ble_eq_true rfl, Nat.le_of_ble_eq_true rfl⟩) hst hA (fun r2 σ2 H locs h hst => ?_)
  refine lv_istore hx hb d_Rd_readValue_32 hl (by decide) rfl (fun ls hl => ?_)
  have hl : lv_has ls 6 [(5, .int r2), (4, .int (σ.1 24 ((σ.1 25 4) : Int32).toNatClampNeg)), (0, .ref (g.1 25)), (1, .int x1), (2, .int x2), (3, .int x3)] := hl
  refine lv_iload hx hb d_Rd_readValue_34 (lv_at hl 1 rfl) ?_
  refine kw_calli (va_runS (As := [.int (σ.1 24 ((σ.1 25 4) : Int32).toNatClampNeg)]) (rest := []) ⟨hx, hb, hml, hown, hts⟩ (c_Rd_opens l (σ.1 24 ((σ.1 25 4) : Int32).toNatClampNeg) h) (cwS 1 hts (gd_s gw625 gw626 gw9 gw627) rfl rfl rfl (by decide +kernel) ⟨show 0 + 1 ≤ (7 + 3 * d) by omega, show 8 + (1 + 11) + 0 ≤ (176 + 76 * d) by omega⟩) ⟨kw_blind (Zk_ok g), kw_pre (Zk_ok g) hK hZ hA hst⟩ rfl rfl hl.1 rfl (lv_room (Nat.le_of_ble_eq_true rfl)) d_Rd_readValue_36 ⟨Nat.le_of_ble_eq_true rfl, Nat.le_of_ble_eq_true rfl⟩) hst hA (fun r3 σ3 H locs h hst => ?_)
  refine lv_if_eq (tgt := 64) hx hb d_Rd_readValue_39 (by decide) (fun hc => ?_) (fun hc => ?_)
  · replace h := h.1 hc
    refine lv_iload hx hb d_Rd_readValue_64 (lv_at hl 1 rfl) ?_
    refine lv_bipush (v := (34 : Int32)) hx hb d_Rd_readValue_66 (by decide) ?_
    refine lv_icmp_ne (tgt := 78) hx hb d_Rd_readValue_68 (by decide) (fun hc => ?_) (fun hc => ?_)
    · replace h := h.1 hc
      refine lv_iload hx hb d_Rd_readValue_78 (lv_at hl 1 rfl) ?_
      refine kw_calli (va_runS (As := [.int (σ.1 24 ((σ.1 25 4) : Int32).toNatClampNeg)]) (rest := []) ⟨hx, hb, hml, hown, hts⟩ (c_Rd_isLowerLetter l (σ.1 24 ((σ.1 25 4) : Int32).toNatClampNeg) h) (cwS 1 hts (gd_s gw631 gw632 gw9 gw633) rfl rfl rfl (by decide +kernel) ⟨show 0 + 1 ≤ (7 + 3 * d) by omega, show 8 + (1 + 11) + 0 ≤ (176 + 76 * d) by omega⟩) ⟨kw_blind (Zk_ok g), kw_pre (Zk_ok g) hK hZ hA hst⟩ rfl rfl hl.1 rfl (lv_room (Nat.le_of_ble_eq_true rfl)) d_Rd_readValue_80 ⟨Nat.le_of_ble_eq_true rfl, Nat.le_of_ble_eq_true rfl⟩) hst hA (fun r4 σ4 H locs h hst => ?_)
      refine lv_if_eq (tgt := 95) hx hb d_Rd_readValue_83 (by decide) (fun hc => ?_) (fun hc => ?_)
      · replace h := h.1 hc
        refine lv_aload_n hx hb d_Rd_readValue_95 rfl (lv_at hl 2 rfl) ?_
        refine lv_iload hx hb d_Rd_readValue_96 (lv_at hl 0 rfl) ?_
        refine kw_callv (va_runV (As := [.int r2]) (rest := []) (b := g.1 25) ⟨hx, hb, hml, hown, hts⟩ (c_Rd_readNumber_13 l r2 h) (cwV 1 hts (gd_v gw685 gw687 gs12 gw9 gw688) rfl rfl rfl (by decide +kernel) ⟨show 1 + 1 ≤ (7 + 3 * d) by omega, show 8 + (6 + 11) + 22 ≤ (176 + 76 * d) by omega⟩) ⟨kw_blind (Zk_ok g), va_recv hK hst.1 rfl (WS_o25 g σ4), kw_pre (Zk_ok g) hK hZ hA hst⟩ rfl rfl hl.1 rfl (lv_room (Nat.le_of_ble_eq_true rfl)) d_Rd_readValue_98 ⟨Nat.le_of_ble_eq_true rfl, Nat.le_of_ble_eq_true rfl⟩) hst hA (fun σ5 H locs h hst => ?_)
        refine lv_aload_n hx hb d_Rd_readValue_101 rfl (lv_at hl 2 rfl) ?_
        refine va_get (D := D) (ci := 2) (C := R_Rd) (T := T_Rd) (N := 5) hx hb hts in_Rd hown hK hst.1 25 (WS_o25 g σ5) rfl 0 (by decide) (hts _ gw208) (fun _ h9 => h9) rfl d_Rd_readValue_102 ?_
        refine lv_iload hx hb d_Rd_readValue_105 (lv_at hl 0 rfl) ?_
        refine lv_aload_n hx hb d_Rd_readValue_107 rfl (lv_at hl 2 rfl) ?_
        refine va_get (D := D) (ci := 2) (C := R_Rd) (T := T_Rd) (N := 5) hx hb hts in_Rd hown hK hst.1 25 (WS_o25 g σ5) rfl 4 (by decide) (hts _ gw214) (fun _ h9 => h9) rfl d_Rd_readValue_108 ?_
        refine kw_callv (va_runV (As := [.int r2, .int (σ5.1 25 4)]) (rest := []) (b := g.1 13) ⟨hx, hb, hml, hown, hts⟩ (c_Tr_close_13 l r2 (σ5.1 25 4) h) (cwV 2 hts (gd_v gw689 gw690 gw691 gw7 gw692) rfl rfl rfl (by decide +kernel) ⟨show 0 + 1 ≤ (7 + 3 * d) by omega, show 8 + (3 + 11) + 0 ≤ (176 + 76 * d) by omega⟩) ⟨kw_blind (Zk_ok g), va_recv hK hst.1 rfl (WS_o13 g σ5), kw_pre (Zk_ok g) hK hZ hA hst⟩ rfl rfl hl.1 rfl (lv_room (Nat.le_of_ble_eq_true rfl)) d_Rd_readValue_111 ⟨Nat.le_of_ble_eq_true rfl, Nat.le_of_ble_eq_true rfl⟩) hst hA (fun σ6 H locs h hst => ?_)
        exact kw_vret hx hb hr hlocks hst h d_Rd_readValue_114
      · replace h := h.2 hc
        refine lv_aload_n hx hb d_Rd_readValue_86 rfl (lv_at hl 2 rfl) ?_
        refine lv_iload hx hb d_Rd_readValue_87 (lv_at hl 0 rfl) ?_
        refine kw_callv (va_runV (As := [.int r2]) (rest := []) (b := g.1 25) ⟨hx, hb, hml, hown, hts⟩ (c_Rd_readLetters_13 l r2 h) (cwV 1 hts (gd_v gw677 gw679 gs11 gw9 gw680) rfl rfl rfl (by decide +kernel) ⟨show 1 + 1 ≤ (7 + 3 * d) by omega, show 8 + (3 + 11) + 26 ≤ (176 + 76 * d) by omega⟩) ⟨kw_blind (Zk_ok g), va_recv hK hst.1 rfl (WS_o25 g σ4), kw_pre (Zk_ok g) hK hZ hA hst⟩ rfl rfl hl.1 rfl (lv_room (Nat.le_of_ble_eq_true rfl)) d_Rd_readValue_89 ⟨Nat.le_of_ble_eq_true rfl, Nat.le_of_ble_eq_true rfl⟩) hst hA (fun σ5 H locs h hst => ?_)
        refine lv_goto (tgt := 101) hx hb d_Rd_readValue_92 (by decide) ?_
        refine lv_aload_n hx hb d_Rd_readValue_101 rfl (lv_at hl 2 rfl) ?_
        refine va_get (D := D) (ci := 2) (C := R_Rd) (T := T_Rd) (N := 5) hx hb hts in_Rd hown hK hst.1 25 (WS_o25 g σ5) rfl 0 (by decide) (hts _ gw208) (fun _ h9 => h9) rfl d_Rd_readValue_102 ?_
        refine lv_iload hx hb d_Rd_readValue_105 (lv_at hl 0 rfl) ?_
        refine lv_aload_n hx hb d_Rd_readValue_107 rfl (lv_at hl 2 rfl) ?_
        refine va_get (D := D) (ci := 2) (C := R_Rd) (T := T_Rd) (N := 5) hx hb hts in_Rd hown hK hst.1 25 (WS_o25 g σ5) rfl 4 (by decide) (hts _ gw214) (fun _ h9 => h9) rfl d_Rd_readValue_108 ?_
        refine kw_callv (va_runV (As := [.int r2, .int (σ5.1 25 4)]) (rest := []) (b := g.1 13) ⟨hx, hb, hml, hown, hts⟩ (c_Tr_close_13 l r2 (σ5.1 25 4) h) (cwV 2 hts (gd_v gw689 gw690 gw691 gw7 gw692) rfl rfl rfl (by decide +kernel) ⟨show 0 + 1 ≤ (7 + 3 * d) by omega, show 8 + (3 + 11) + 0 ≤ (176 + 76 * d) by omega⟩) ⟨kw_blind (Zk_ok g), va_recv hK hst.1 rfl (WS_o13 g σ5), kw_pre (Zk_ok g) hK hZ hA hst⟩ rfl rfl hl.1 rfl (lv_room (Nat.le_of_ble_eq_true rfl)) d_Rd_readValue_111 ⟨Nat.le_of_ble_eq_true rfl, Nat.le_of_ble_eq_true rfl⟩) hst hA (fun σ6 H locs h hst => ?_)
        exact kw_vret hx hb hr hlocks hst h d_Rd_readValue_114
    · replace h := h.2 hc
      refine lv_aload_n hx hb d_Rd_readValue_71 rfl (lv_at hl 2 rfl) ?_
      refine kw_callv (va_runV (As := []) (rest := []) (b := g.1 25) ⟨hx, hb, hml, hown, hts⟩ (c_Rd_passQuoted_13 l h) (cwV 0 hts (gd_v gw661 gw663 gs10 gw9 gw664) rfl rfl rfl (by decide +kernel) ⟨show 1 + 1 ≤ (7 + 3 * d) by omega, show 8 + (2 + 11) + 22 ≤ (176 + 76 * d) by omega⟩) ⟨kw_blind (Zk_ok g), va_recv hK hst.1 rfl (WS_o25 g σ3), kw_pre (Zk_ok g) hK hZ hA hst⟩ rfl rfl hl.1 rfl (lv_room (Nat.le_of_ble_eq_true rfl)) d_Rd_readValue_72 ⟨Nat.le_of_ble_eq_true rfl, Nat.le_of_ble_eq_true rfl⟩) hst hA (fun σ4 H locs h hst => ?_)
      refine lv_goto (tgt := 101) hx hb d_Rd_readValue_75 (by decide) ?_
      refine lv_aload_n hx hb d_Rd_readValue_101 rfl (lv_at hl 2 rfl) ?_
      refine va_get (D := D) (ci := 2) (C := R_Rd) (T := T_Rd) (N := 5) hx hb hts in_Rd hown hK hst.1 25 (WS_o25 g σ4) rfl 0 (by decide) (hts _ gw208) (fun _ h9 => h9) rfl d_Rd_readValue_102 ?_
      refine lv_iload hx hb d_Rd_readValue_105 (lv_at hl 0 rfl) ?_
      refine lv_aload_n hx hb d_Rd_readValue_107 rfl (lv_at hl 2 rfl) ?_
      refine va_get (D := D) (ci := 2) (C := R_Rd) (T := T_Rd) (N := 5) hx hb hts in_Rd hown hK hst.1 25 (WS_o25 g σ4) rfl 4 (by decide) (hts _ gw214) (fun _ h9 => h9) rfl d_Rd_readValue_108 ?_
      refine kw_callv (va_runV (As := [.int r2, .int (σ4.1 25 4)]) (rest := []) (b := g.1 13) ⟨hx, hb, hml, hown, hts⟩ (c_Tr_close_13 l r2 (σ4.1 25 4) h) (cwV 2 hts (gd_v gw689 gw690 gw691 gw7 gw692) rfl rfl rfl (by decide +kernel) ⟨show 0 + 1 ≤ (7 + 3 * d) by omega, show 8 + (3 + 11) + 0 ≤ (176 + 76 * d) by omega⟩) ⟨kw_blind (Zk_ok g), va_recv hK hst.1 rfl (WS_o13 g σ4), kw_pre (Zk_ok g) hK hZ hA hst⟩ rfl rfl hl.1 rfl (lv_room (Nat.le_of_ble_eq_true rfl)) d_Rd_readValue_111 ⟨Nat.le_of_ble_eq_true rfl, Nat.le_of_ble_eq_true rfl⟩) hst hA (fun σ5 H locs h hst => ?_)
      exact kw_vret hx hb hr hlocks hst h d_Rd_readValue_114
  · replace h := h.2 hc
    refine lv_aload_n hx hb d_Rd_readValue_42 rfl (lv_at hl 2 rfl) ?_
    refine lv_dup hx hb d_Rd_readValue_43 rfl ?_
    refine va_get (D := D) (ci := 2) (C := R_Rd) (T := T_Rd) (N := 5) hx hb hts in_Rd hown hK hst.1 25 (WS_o25 g σ3) rfl 4 (by decide) (hts _ gw214) (fun _ h9 => h9) rfl d_Rd_readValue_44 ?_
    refine lv_iconst (v := (1 : Int32)) hx hb d_Rd_readValue_47 (by decide) ?_
    refine lv_iadd hx hb d_Rd_readValue_48 ?_
    refine kw_put (D := D) (ci := 2) (ty := .int) (C := R_Rd) (T := T_Rd) (N := 5) hx hb hts in_Rd ty_Rd ty_Rd_ok nm_Rd hown hK hst 25 (WS_o25 g σ3) rfl 4 (by decide) (hts _ gw214) (fun _ h9 => h9) rfl (by decide +kernel) rfl rfl (Nat.le_of_ble_eq_true rfl) (WS_p25_4 g σ3 _) d_Rd_readValue_49 (fun σ4 H locs e4 hst => ?_)
    replace h := h σ4 e4
    refine lv_aload_n hx hb d_Rd_readValue_52 rfl (lv_at hl 2 rfl) ?_
    refine lv_iload hx hb d_Rd_readValue_53 (lv_at hl 0 rfl) ?_
    refine lv_iload_n hx hb d_Rd_readValue_55 rfl (lv_at hl 5 rfl) ?_
    refine lv_iconst (v := (1 : Int32)) hx hb d_Rd_readValue_56 (by decide) ?_
    refine lv_iadd hx hb d_Rd_readValue_57 ?_
    refine kw_callv (va_runV (As := [.int r2, .int (x3 + (1 : Int32))]) (rest := []) (b := g.1 25) ⟨hx, hb, hml, hown, hts⟩ (c_Rd_readInside_13 l V d hV r2 (x3 + (1 : Int32)) h) (cwV 2 hts (gd_v gw653 gw655 gs8 gw9 gw656) rfl rfl rfl (by decide +kernel) ⟨show (6 + 3 * d) + 1 ≤ (7 + 3 * d) by omega, show 8 + (9 + 11) + (148 + 76 * d) ≤ (176 + 76 * d) by omega⟩) ⟨kw_blind (Zk_ok g), va_recv hK hst.1 rfl (WS_o25 g σ4), kw_pre (Zk_ok g) hK hZ hA hst⟩ rfl rfl hl.1 rfl (lv_room (Nat.le_of_ble_eq_true rfl)) d_Rd_readValue_58 ⟨Nat.le_of_ble_eq_true rfl, Nat.le_of_ble_eq_true rfl⟩) hst hA (fun σ5 H locs h hst => ?_)
    refine lv_goto (tgt := 101) hx hb d_Rd_readValue_61 (by decide) ?_
    refine lv_aload_n hx hb d_Rd_readValue_101 rfl (lv_at hl 2 rfl) ?_
    refine va_get (D := D) (ci := 2) (C := R_Rd) (T := T_Rd) (N := 5) hx hb hts in_Rd hown hK hst.1 25 (WS_o25 g σ5) rfl 0 (by decide) (hts _ gw208) (fun _ h9 => h9) rfl d_Rd_readValue_102 ?_
    refine lv_iload hx hb d_Rd_readValue_105 (lv_at hl 0 rfl) ?_
    refine lv_aload_n hx hb d_Rd_readValue_107 rfl (lv_at hl 2 rfl) ?_
    refine va_get (D := D) (ci := 2) (C := R_Rd) (T := T_Rd) (N := 5) hx hb hts in_Rd hown hK hst.1 25 (WS_o25 g σ5) rfl 4 (by decide) (hts _ gw214) (fun _ h9 => h9) rfl d_Rd_readValue_108 ?_
    refine kw_callv (va_runV (As := [.int r2, .int (σ5.1 25 4)]) (rest := []) (b := g.1 13) ⟨hx, hb, hml, hown, hts⟩ (c_Tr_close_13 l r2 (σ5.1 25 4) h) (cwV 2 hts (gd_v gw689 gw690 gw691 gw7 gw692) rfl rfl rfl (by decide +kernel) ⟨show 0 + 1 ≤ (7 + 3 * d) by omega, show 8 + (3 + 11) + 0 ≤ (176 + 76 * d) by omega⟩) ⟨kw_blind (Zk_ok g), va_recv hK hst.1 rfl (WS_o13 g σ5), kw_pre (Zk_ok g) hK hZ hA hst⟩ rfl rfl hl.1 rfl (lv_room (Nat.le_of_ble_eq_true rfl)) d_Rd_readValue_111 ⟨Nat.le_of_ble_eq_true rfl, Nat.le_of_ble_eq_true rfl⟩) hst hA (fun σ6 H locs h hst => ?_)
    exact kw_vret hx hb hr hlocks hst h d_Rd_readValue_114
set_option maxRecDepth 100000 in
set_option maxHeartbeats 4000000 in
theorem c_Rd_readValuef_13 (l : Launch) {D : va_G} {g : Gm} (V : Nat → Int32 → Int32 → Int32 → Sg → (Sg → Prop) → Prop) (d : Nat) (hV : ∀ (sz : Nat) (x1 : Int32) (x2 : Int32) (x3 : Int32) (σ : Sg) (post : Sg → Prop), V 13 x1 x2 x3 σ post → Met l y_Rd_readValue (.code y_Rd_readValue k_Rd_readValue 6 (none) :: GW) { frames := (4 + 3 * d), cells := 0, slots := 0, locals := (100 + 76 * d) } (PcW D vwCl (WS g) g (Zk g) σ sz [.ref (g.1 25), .int x1, .int x2, .int x3]) (QvW D vwCl (WS g) post (va_A (WS g σ) sz)) 0 0 (va_A (WS g σ) sz)) {sz : Nat} (x1 : Int32) (x2 : Int32) (x3 : Int32) {σ : Sg} {post : Sg → Prop} (h : wqf_Rd_readValue V 13 x1 x2 x3 σ post) : Met l y_Rd_readValue (.code y_Rd_readValue k_Rd_readValue 6 (none) :: GW) { frames := (7 + 3 * d), cells := 0, slots := 0, locals := (176 + 76 * d) } (PcW D vwCl (WS g) g (Zk g) σ sz [.ref (g.1 25), .int x1, .int x2, .int x3]) (QvW D vwCl (WS g) post (va_A (WS g σ) sz)) 0 0 (va_A (WS g σ) sz) := by
  refine kw_entry (own := R_Rd) (by decide) rfl rfl (Nat.le_of_ble_eq_true rfl) ?_
  intro p e s m below meth c ls hsz C hin hl hst
  exact b_Rd_readValuef_13_0 C hV x1 x2 x3 σ _ _ ls hl hst h
def wd_Rd_readValue : Nat → Nat → Int32 → Int32 → Int32 → Sg → (Sg → Prop) → Prop
  | 0 => fun _ _ _ _ _ _ => False
  | d + 1 => wqf_Rd_readValue (wd_Rd_readValue d)
def wq_Rd_readValue (b : Nat) (x1 : Int32) (x2 : Int32) (x3 : Int32) (σ : Sg) (post : Sg → Prop) : Prop := wd_Rd_readValue 10 b x1 x2 x3 σ post
set_option maxRecDepth 100000 in
set_option maxHeartbeats 4000000 in
theorem cd_Rd_readValue_0 (l : Launch) {D : va_G} {g : Gm} : ∀ (d sz : Nat) (x1 : Int32) (x2 : Int32) (x3 : Int32) (σ : Sg) (post : Sg → Prop), wd_Rd_readValue d 0 x1 x2 x3 σ post → Met l y_Rd_readValue (.code y_Rd_readValue k_Rd_readValue 6 (none) :: GW) { frames := (4 + 3 * d), cells := 0, slots := 0, locals := (100 + 76 * d) } (PcW D vwCl (WS g) g (Zk g) σ sz [.ref (g.1 12), .int x1, .int x2, .int x3]) (QvW D vwCl (WS g) post (va_A (WS g σ) sz)) 0 0 (va_A (WS g σ) sz) := by
  intro d
  induction d with
  | zero => intro sz x1 x2 x3 σ post h; exact h.elim
  | succ d ih => intro sz x1 x2 x3 σ post h; (have e1 : 4 + 3 * (d + 1) = 7 + 3 * d := by omega); (have e2 : 100 + 76 * (d + 1) = 176 + 76 * d := by omega); rw [e1, e2]; exact c_Rd_readValuef_0 l (wd_Rd_readValue d) d ih x1 x2 x3 h
set_option maxRecDepth 100000 in
theorem c_Rd_readValue_0 (l : Launch) {D : va_G} {g : Gm} {sz : Nat} (x1 : Int32) (x2 : Int32) (x3 : Int32) {σ : Sg} {post : Sg → Prop} (h : wq_Rd_readValue 0 x1 x2 x3 σ post) : Met l y_Rd_readValue (.code y_Rd_readValue k_Rd_readValue 6 (none) :: GW) { frames := 34, cells := 0, slots := 0, locals := 860 } (PcW D vwCl (WS g) g (Zk g) σ sz [.ref (g.1 12), .int x1, .int x2, .int x3]) (QvW D vwCl (WS g) post (va_A (WS g σ) sz)) 0 0 (va_A (WS g σ) sz) := cd_Rd_readValue_0 l 10 sz x1 x2 x3 σ post h
set_option maxRecDepth 100000 in
set_option maxHeartbeats 4000000 in
theorem cd_Rd_readValue_13 (l : Launch) {D : va_G} {g : Gm} : ∀ (d sz : Nat) (x1 : Int32) (x2 : Int32) (x3 : Int32) (σ : Sg) (post : Sg → Prop), wd_Rd_readValue d 13 x1 x2 x3 σ post → Met l y_Rd_readValue (.code y_Rd_readValue k_Rd_readValue 6 (none) :: GW) { frames := (4 + 3 * d), cells := 0, slots := 0, locals := (100 + 76 * d) } (PcW D vwCl (WS g) g (Zk g) σ sz [.ref (g.1 25), .int x1, .int x2, .int x3]) (QvW D vwCl (WS g) post (va_A (WS g σ) sz)) 0 0 (va_A (WS g σ) sz) := by
  intro d
  induction d with
  | zero => intro sz x1 x2 x3 σ post h; exact h.elim
  | succ d ih => intro sz x1 x2 x3 σ post h; (have e1 : 4 + 3 * (d + 1) = 7 + 3 * d := by omega); (have e2 : 100 + 76 * (d + 1) = 176 + 76 * d := by omega); rw [e1, e2]; exact c_Rd_readValuef_13 l (wd_Rd_readValue d) d ih x1 x2 x3 h
set_option maxRecDepth 100000 in
theorem c_Rd_readValue_13 (l : Launch) {D : va_G} {g : Gm} {sz : Nat} (x1 : Int32) (x2 : Int32) (x3 : Int32) {σ : Sg} {post : Sg → Prop} (h : wq_Rd_readValue 13 x1 x2 x3 σ post) : Met l y_Rd_readValue (.code y_Rd_readValue k_Rd_readValue 6 (none) :: GW) { frames := 34, cells := 0, slots := 0, locals := 860 } (PcW D vwCl (WS g) g (Zk g) σ sz [.ref (g.1 25), .int x1, .int x2, .int x3]) (QvW D vwCl (WS g) post (va_A (WS g σ) sz)) 0 0 (va_A (WS g σ) sz) := cd_Rd_readValue_13 l 10 sz x1 x2 x3 σ post h
