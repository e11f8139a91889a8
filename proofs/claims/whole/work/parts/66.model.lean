/-! SchemaDeskModel.evaluate (II)V -/
abbrev k_Md_evaluate : ByteArray := prog_12_method_56_code
abbrev y_Md_evaluate : MethodName := ⟨"SchemaDeskModel", "evaluate", "(II)V"⟩
theorem d_Md_evaluate_0 : decode k_Md_evaluate 0 = .ok (.aload_n 0, 1) := by decide +kernel
theorem d_Md_evaluate_1 : decode k_Md_evaluate 1 = .ok (.lconst 0, 1) := by decide +kernel
theorem d_Md_evaluate_2 : decode k_Md_evaluate 2 = .ok (.putfield 277, 3) := by decide +kernel
theorem d_Md_evaluate_5 : decode k_Md_evaluate 5 = .ok (.aload_n 0, 1) := by decide +kernel
theorem d_Md_evaluate_6 : decode k_Md_evaluate 6 = .ok (.lconst 0, 1) := by decide +kernel
theorem d_Md_evaluate_7 : decode k_Md_evaluate 7 = .ok (.putfield 281, 3) := by decide +kernel
theorem d_Md_evaluate_10 : decode k_Md_evaluate 10 = .ok (.aload_n 0, 1) := by decide +kernel
theorem d_Md_evaluate_11 : decode k_Md_evaluate 11 = .ok (.getfield 77, 3) := by decide +kernel
theorem d_Md_evaluate_14 : decode k_Md_evaluate 14 = .ok (.iload_n 2, 1) := by decide +kernel
theorem d_Md_evaluate_15 : decode k_Md_evaluate 15 = .ok (.iaload, 1) := by decide +kernel
theorem d_Md_evaluate_16 : decode k_Md_evaluate 16 = .ok (.bipush 6, 2) := by decide +kernel
theorem d_Md_evaluate_18 : decode k_Md_evaluate 18 = .ok (.if_icmp .ne 12, 3) := by decide +kernel
theorem d_Md_evaluate_21 : decode k_Md_evaluate 21 = .ok (.aload_n 0, 1) := by decide +kernel
theorem d_Md_evaluate_22 : decode k_Md_evaluate 22 = .ok (.getfield 95, 3) := by decide +kernel
theorem d_Md_evaluate_25 : decode k_Md_evaluate 25 = .ok (.iload_n 2, 1) := by decide +kernel
theorem d_Md_evaluate_26 : decode k_Md_evaluate 26 = .ok (.iaload, 1) := by decide +kernel
theorem d_Md_evaluate_27 : decode k_Md_evaluate 27 = .ok (.goto 4, 3) := by decide +kernel
theorem d_Md_evaluate_30 : decode k_Md_evaluate 30 = .ok (.iconst (-1), 1) := by decide +kernel
theorem d_Md_evaluate_31 : decode k_Md_evaluate 31 = .ok (.istore_n 3, 1) := by decide +kernel
theorem d_Md_evaluate_32 : decode k_Md_evaluate 32 = .ok (.iload_n 3, 1) := by decide +kernel
theorem d_Md_evaluate_33 : decode k_Md_evaluate 33 = .ok (.ifCond .lt 46, 3) := by decide +kernel
theorem d_Md_evaluate_36 : decode k_Md_evaluate 36 = .ok (.aload_n 0, 1) := by decide +kernel
theorem d_Md_evaluate_37 : decode k_Md_evaluate 37 = .ok (.iload_n 1, 1) := by decide +kernel
theorem d_Md_evaluate_38 : decode k_Md_evaluate 38 = .ok (.iload_n 3, 1) := by decide +kernel
theorem d_Md_evaluate_39 : decode k_Md_evaluate 39 = .ok (.invokevirtual 313, 3) := by decide +kernel
theorem d_Md_evaluate_42 : decode k_Md_evaluate 42 = .ok (.ifCond .ge 18, 3) := by decide +kernel
theorem d_Md_evaluate_45 : decode k_Md_evaluate 45 = .ok (.aload_n 0, 1) := by decide +kernel
theorem d_Md_evaluate_46 : decode k_Md_evaluate 46 = .ok (.getfield 129, 3) := by decide +kernel
theorem d_Md_evaluate_49 : decode k_Md_evaluate 49 = .ok (.bipush 22, 2) := by decide +kernel
theorem d_Md_evaluate_51 : decode k_Md_evaluate 51 = .ok (.iload_n 1, 1) := by decide +kernel
theorem d_Md_evaluate_52 : decode k_Md_evaluate 52 = .ok (.imul, 1) := by decide +kernel
theorem d_Md_evaluate_53 : decode k_Md_evaluate 53 = .ok (.bipush 13, 2) := by decide +kernel
theorem d_Md_evaluate_55 : decode k_Md_evaluate 55 = .ok (.iadd, 1) := by decide +kernel
theorem d_Md_evaluate_56 : decode k_Md_evaluate 56 = .ok (.iaload, 1) := by decide +kernel
theorem d_Md_evaluate_57 : decode k_Md_evaluate 57 = .ok (.ifCond .lt 12, 3) := by decide +kernel
theorem d_Md_evaluate_60 : decode k_Md_evaluate 60 = .ok (.aload_n 0, 1) := by decide +kernel
theorem d_Md_evaluate_61 : decode k_Md_evaluate 61 = .ok (.iload_n 3, 1) := by decide +kernel
theorem d_Md_evaluate_62 : decode k_Md_evaluate 62 = .ok (.sipush 160, 3) := by decide +kernel
theorem d_Md_evaluate_65 : decode k_Md_evaluate 65 = .ok (.isub, 1) := by decide +kernel
theorem d_Md_evaluate_66 : decode k_Md_evaluate 66 = .ok (.invokevirtual 288, 3) := by decide +kernel
theorem d_Md_evaluate_69 : decode k_Md_evaluate 69 = .ok (.aload_n 0, 1) := by decide +kernel
theorem d_Md_evaluate_70 : decode k_Md_evaluate 70 = .ok (.getfield 98, 3) := by decide +kernel
theorem d_Md_evaluate_73 : decode k_Md_evaluate 73 = .ok (.iload_n 3, 1) := by decide +kernel
theorem d_Md_evaluate_74 : decode k_Md_evaluate 74 = .ok (.iaload, 1) := by decide +kernel
theorem d_Md_evaluate_75 : decode k_Md_evaluate 75 = .ok (.istore_n 3, 1) := by decide +kernel
theorem d_Md_evaluate_76 : decode k_Md_evaluate 76 = .ok (.goto (-44), 3) := by decide +kernel
theorem d_Md_evaluate_79 : decode k_Md_evaluate 79 = .ok (.bipush 15, 2) := by decide +kernel
theorem d_Md_evaluate_81 : decode k_Md_evaluate 81 = .ok (.istore_n 3, 1) := by decide +kernel
theorem d_Md_evaluate_82 : decode k_Md_evaluate 82 = .ok (.iload_n 3, 1) := by decide +kernel
theorem d_Md_evaluate_83 : decode k_Md_evaluate 83 = .ok (.bipush 17, 2) := by decide +kernel
theorem d_Md_evaluate_85 : decode k_Md_evaluate 85 = .ok (.if_icmp .gt 75, 3) := by decide +kernel
theorem d_Md_evaluate_88 : decode k_Md_evaluate 88 = .ok (.aload_n 0, 1) := by decide +kernel
theorem d_Md_evaluate_89 : decode k_Md_evaluate 89 = .ok (.getfield 129, 3) := by decide +kernel
theorem d_Md_evaluate_92 : decode k_Md_evaluate 92 = .ok (.bipush 22, 2) := by decide +kernel
theorem d_Md_evaluate_94 : decode k_Md_evaluate 94 = .ok (.iload_n 1, 1) := by decide +kernel
theorem d_Md_evaluate_95 : decode k_Md_evaluate 95 = .ok (.imul, 1) := by decide +kernel
theorem d_Md_evaluate_96 : decode k_Md_evaluate 96 = .ok (.iload_n 3, 1) := by decide +kernel
theorem d_Md_evaluate_97 : decode k_Md_evaluate 97 = .ok (.iadd, 1) := by decide +kernel
theorem d_Md_evaluate_98 : decode k_Md_evaluate 98 = .ok (.iaload, 1) := by decide +kernel
theorem d_Md_evaluate_99 : decode k_Md_evaluate 99 = .ok (.istore 4, 2) := by decide +kernel
theorem d_Md_evaluate_101 : decode k_Md_evaluate 101 = .ok (.iload 4, 2) := by decide +kernel
theorem d_Md_evaluate_103 : decode k_Md_evaluate 103 = .ok (.ifCond .lt 24, 3) := by decide +kernel
theorem d_Md_evaluate_106 : decode k_Md_evaluate 106 = .ok (.aload_n 0, 1) := by decide +kernel
theorem d_Md_evaluate_107 : decode k_Md_evaluate 107 = .ok (.getfield 77, 3) := by decide +kernel
theorem d_Md_evaluate_110 : decode k_Md_evaluate 110 = .ok (.iload 4, 2) := by decide +kernel
theorem d_Md_evaluate_112 : decode k_Md_evaluate 112 = .ok (.iaload, 1) := by decide +kernel
theorem d_Md_evaluate_113 : decode k_Md_evaluate 113 = .ok (.iconst 5, 1) := by decide +kernel
theorem d_Md_evaluate_114 : decode k_Md_evaluate 114 = .ok (.if_icmp .ne 13, 3) := by decide +kernel
theorem d_Md_evaluate_117 : decode k_Md_evaluate 117 = .ok (.aload_n 0, 1) := by decide +kernel
theorem d_Md_evaluate_118 : decode k_Md_evaluate 118 = .ok (.getfield 95, 3) := by decide +kernel
theorem d_Md_evaluate_121 : decode k_Md_evaluate 121 = .ok (.iload 4, 2) := by decide +kernel
theorem d_Md_evaluate_123 : decode k_Md_evaluate 123 = .ok (.iaload, 1) := by decide +kernel
theorem d_Md_evaluate_124 : decode k_Md_evaluate 124 = .ok (.goto 4, 3) := by decide +kernel
theorem d_Md_evaluate_127 : decode k_Md_evaluate 127 = .ok (.iconst (-1), 1) := by decide +kernel
theorem d_Md_evaluate_128 : decode k_Md_evaluate 128 = .ok (.istore 5, 2) := by decide +kernel
theorem d_Md_evaluate_130 : decode k_Md_evaluate 130 = .ok (.iload 5, 2) := by decide +kernel
theorem d_Md_evaluate_132 : decode k_Md_evaluate 132 = .ok (.ifCond .lt 22, 3) := by decide +kernel
theorem d_Md_evaluate_135 : decode k_Md_evaluate 135 = .ok (.aload_n 0, 1) := by decide +kernel
theorem d_Md_evaluate_136 : decode k_Md_evaluate 136 = .ok (.iload 5, 2) := by decide +kernel
theorem d_Md_evaluate_138 : decode k_Md_evaluate 138 = .ok (.iload_n 2, 1) := by decide +kernel
theorem d_Md_evaluate_139 : decode k_Md_evaluate 139 = .ok (.invokevirtual 323, 3) := by decide +kernel
theorem d_Md_evaluate_142 : decode k_Md_evaluate 142 = .ok (.aload_n 0, 1) := by decide +kernel
theorem d_Md_evaluate_143 : decode k_Md_evaluate 143 = .ok (.getfield 98, 3) := by decide +kernel
theorem d_Md_evaluate_146 : decode k_Md_evaluate 146 = .ok (.iload 5, 2) := by decide +kernel
theorem d_Md_evaluate_148 : decode k_Md_evaluate 148 = .ok (.iaload, 1) := by decide +kernel
theorem d_Md_evaluate_149 : decode k_Md_evaluate 149 = .ok (.istore 5, 2) := by decide +kernel
theorem d_Md_evaluate_151 : decode k_Md_evaluate 151 = .ok (.goto (-21), 3) := by decide +kernel
theorem d_Md_evaluate_154 : decode k_Md_evaluate 154 = .ok (.iinc 3 1, 3) := by decide +kernel
theorem d_Md_evaluate_157 : decode k_Md_evaluate 157 = .ok (.goto (-75), 3) := by decide +kernel
theorem d_Md_evaluate_160 : decode k_Md_evaluate 160 = .ok (.aload_n 0, 1) := by decide +kernel
theorem d_Md_evaluate_161 : decode k_Md_evaluate 161 = .ok (.getfield 129, 3) := by decide +kernel
theorem d_Md_evaluate_164 : decode k_Md_evaluate 164 = .ok (.bipush 22, 2) := by decide +kernel
theorem d_Md_evaluate_166 : decode k_Md_evaluate 166 = .ok (.iload_n 1, 1) := by decide +kernel
theorem d_Md_evaluate_167 : decode k_Md_evaluate 167 = .ok (.imul, 1) := by decide +kernel
theorem d_Md_evaluate_168 : decode k_Md_evaluate 168 = .ok (.bipush 19, 2) := by decide +kernel
theorem d_Md_evaluate_170 : decode k_Md_evaluate 170 = .ok (.iadd, 1) := by decide +kernel
theorem d_Md_evaluate_171 : decode k_Md_evaluate 171 = .ok (.iaload, 1) := by decide +kernel
theorem d_Md_evaluate_172 : decode k_Md_evaluate 172 = .ok (.istore_n 3, 1) := by decide +kernel
theorem d_Md_evaluate_173 : decode k_Md_evaluate 173 = .ok (.iload_n 3, 1) := by decide +kernel
theorem d_Md_evaluate_174 : decode k_Md_evaluate 174 = .ok (.ifCond .lt 23, 3) := by decide +kernel
theorem d_Md_evaluate_177 : decode k_Md_evaluate 177 = .ok (.aload_n 0, 1) := by decide +kernel
theorem d_Md_evaluate_178 : decode k_Md_evaluate 178 = .ok (.getfield 132, 3) := by decide +kernel
theorem d_Md_evaluate_181 : decode k_Md_evaluate 181 = .ok (.iload_n 3, 1) := by decide +kernel
theorem d_Md_evaluate_182 : decode k_Md_evaluate 182 = .ok (.iaload, 1) := by decide +kernel
theorem d_Md_evaluate_183 : decode k_Md_evaluate 183 = .ok (.ifCond .lt 14, 3) := by decide +kernel
theorem d_Md_evaluate_186 : decode k_Md_evaluate 186 = .ok (.aload_n 0, 1) := by decide +kernel
theorem d_Md_evaluate_187 : decode k_Md_evaluate 187 = .ok (.aload_n 0, 1) := by decide +kernel
theorem d_Md_evaluate_188 : decode k_Md_evaluate 188 = .ok (.getfield 132, 3) := by decide +kernel
theorem d_Md_evaluate_191 : decode k_Md_evaluate 191 = .ok (.iload_n 3, 1) := by decide +kernel
theorem d_Md_evaluate_192 : decode k_Md_evaluate 192 = .ok (.iaload, 1) := by decide +kernel
theorem d_Md_evaluate_193 : decode k_Md_evaluate 193 = .ok (.iload_n 2, 1) := by decide +kernel
theorem d_Md_evaluate_194 : decode k_Md_evaluate 194 = .ok (.invokevirtual 323, 3) := by decide +kernel
theorem d_Md_evaluate_197 : decode k_Md_evaluate 197 = .ok (.return_, 1) := by decide +kernel
theorem gw1392 : (Jvm.Cond.methodLink "SchemaDeskModel" (323 : Nat) ({ cls := "SchemaDeskModel", name := "unite", desc := "(II)V" } : Jvm.MethodName)) ∈ GW := gw_t6 (List.mem_of_getElem? (i := 192) rfl) rfl
theorem gw1394 : (Jvm.Cond.instanceMethod ({ cls := "SchemaDeskModel", name := "unite", desc := "(II)V" } : Jvm.MethodName)) ∈ GW := gw_t6 (List.mem_of_getElem? (i := 194) rfl) rfl
theorem gs75 : Cond.selects "SchemaDeskModel" ⟨"SchemaDeskModel", "unite", "(II)V"⟩ ⟨"SchemaDeskModel", "unite", "(II)V"⟩ ∈ GW := gw_p5 (q := (⟨"SchemaDeskModel", "unite", "(II)V"⟩, 46)) (List.mem_of_getElem? (i := 11) rfl)
theorem gw1395 : (Jvm.Cond.code ({ cls := "SchemaDeskModel", name := "unite", desc := "(II)V" } : Jvm.MethodName) prog_12_method_57_code (3 : Nat) (Option.none : Option Jvm.ClassFile.FieldType)) ∈ GW := gw_t6 (List.mem_of_getElem? (i := 195) rfl) rfl
def wb_Md_evaluate_0 (F : Nat → Int32 → Int32 → Int32 → Int32 → Sg → Prop) (post : Sg → Prop) (x1 : Int32) (x2 : Int32) (σ : Sg) : Prop := (∀ σ1, σ1 = sl σ 54 38 (0 : Int64) → (∀ σ2, σ2 = sl σ1 54 39 (0 : Int64) → (vp_in x2 240 ∧ ((¬ (σ2.1 59 x2.toNatClampNeg) = (6 : Int32) → F 1 x1 x2 (-1 : Int32) 0 σ2) ∧ ((σ2.1 59 x2.toNatClampNeg) = (6 : Int32) → (vp_in x2 240 ∧ F 1 x1 x2 (σ2.1 65 x2.toNatClampNeg) 0 σ2))))))
def wb_Md_evaluate_1 (F : Nat → Int32 → Int32 → Int32 → Int32 → Sg → Prop) (post : Sg → Prop) (x1 : Int32) (x2 : Int32) (x3 : Int32) (σ : Sg) : Prop := ((x3 < 0 → F 2 x1 x2 (15 : Int32) 0 σ) ∧ (¬ x3 < 0 → (wq_Md_propertyFor x1 x3 σ (fun r1 σ1 => ((0 ≤ r1 → F 3 x1 x2 x3 0 σ1) ∧ (¬ 0 ≤ r1 → (vp_in (((22 : Int32) * x1) + (13 : Int32)) 3520 ∧ (((σ1.1 76 ((((22 : Int32) * x1) + (13 : Int32)) : Int32).toNatClampNeg) < 0 → (vp_in x3 240 ∧ F 1 x1 x2 (σ1.1 66 x3.toNatClampNeg) 0 σ1)) ∧ (¬ (σ1.1 76 ((((22 : Int32) * x1) + (13 : Int32)) : Int32).toNatClampNeg) < 0 → F 3 x1 x2 x3 0 σ1)))))))))
def wb_Md_evaluate_2 (F : Nat → Int32 → Int32 → Int32 → Int32 → Sg → Prop) (post : Sg → Prop) (x1 : Int32) (x2 : Int32) (x3 : Int32) (σ : Sg) : Prop := (((17 : Int32) < x3 → (vp_in (((22 : Int32) * x1) + (19 : Int32)) 3520 ∧ (((σ.1 76 ((((22 : Int32) * x1) + (19 : Int32)) : Int32).toNatClampNeg) < 0 → post σ) ∧ (¬ (σ.1 76 ((((22 : Int32) * x1) + (19 : Int32)) : Int32).toNatClampNeg) < 0 → (vp_in (σ.1 76 ((((22 : Int32) * x1) + (19 : Int32)) : Int32).toNatClampNeg) 160 ∧ (((σ.1 77 ((σ.1 76 ((((22 : Int32) * x1) + (19 : Int32)) : Int32).toNatClampNeg) : Int32).toNatClampNeg) < 0 → post σ) ∧ (¬ (σ.1 77 ((σ.1 76 ((((22 : Int32) * x1) + (19 : Int32)) : Int32).toNatClampNeg) : Int32).toNatClampNeg) < 0 → (vp_in (σ.1 76 ((((22 : Int32) * x1) + (19 : Int32)) : Int32).toNatClampNeg) 160 ∧ (wq_Md_unite (σ.1 77 ((σ.1 76 ((((22 : Int32) * x1) + (19 : Int32)) : Int32).toNatClampNeg) : Int32).toNatClampNeg) x2 σ (fun σ1 => post σ1)))))))))) ∧ (¬ (17 : Int32) < x3 → (vp_in (((22 : Int32) * x1) + x3) 3520 ∧ (((σ.1 76 ((((22 : Int32) * x1) + x3) : Int32).toNatClampNeg) < 0 → F 4 x1 x2 x3 (-1 : Int32) σ) ∧ (¬ (σ.1 76 ((((22 : Int32) * x1) + x3) : Int32).toNatClampNeg) < 0 → (vp_in (σ.1 76 ((((22 : Int32) * x1) + x3) : Int32).toNatClampNeg) 240 ∧ ((¬ (σ.1 59 ((σ.1 76 ((((22 : Int32) * x1) + x3) : Int32).toNatClampNeg) : Int32).toNatClampNeg) = (5 : Int32) → F 4 x1 x2 x3 (-1 : Int32) σ) ∧ ((σ.1 59 ((σ.1 76 ((((22 : Int32) * x1) + x3) : Int32).toNatClampNeg) : Int32).toNatClampNeg) = (5 : Int32) → (vp_in (σ.1 76 ((((22 : Int32) * x1) + x3) : Int32).toNatClampNeg) 240 ∧ F 4 x1 x2 x3 (σ.1 65 ((σ.1 76 ((((22 : Int32) * x1) + x3) : Int32).toNatClampNeg) : Int32).toNatClampNeg) σ)))))))))
def wb_Md_evaluate_3 (F : Nat → Int32 → Int32 → Int32 → Int32 → Sg → Prop) (post : Sg → Prop) (x1 : Int32) (x2 : Int32) (x3 : Int32) (σ : Sg) : Prop := (wq_Md_add (x3 - (160 : Int32)) σ (fun σ1 => (vp_in x3 240 ∧ F 1 x1 x2 (σ1.1 66 x3.toNatClampNeg) 0 σ1)))
def wb_Md_evaluate_4 (F : Nat → Int32 → Int32 → Int32 → Int32 → Sg → Prop) (post : Sg → Prop) (x1 : Int32) (x2 : Int32) (x3 : Int32) (x5 : Int32) (σ : Sg) : Prop := ((x5 < 0 → F 2 x1 x2 (x3 + 1) 0 σ) ∧ (¬ x5 < 0 → (wq_Md_unite x5 x2 σ (fun σ1 => (vp_in x5 240 ∧ F 4 x1 x2 x3 (σ1.1 66 x5.toNatClampNeg) σ1)))))
def wp_Md_evaluate (post : Sg → Prop) : Nat → Nat → Int32 → Int32 → Int32 → Int32 → Sg → Prop
  | 0, _, _, _, _, _, _ => False
  | n + 1, k, x1, x2, x3, x5, σ => match k with
    | 0 => wb_Md_evaluate_0 (wp_Md_evaluate post n) post x1 x2 σ
    | 1 => wb_Md_evaluate_1 (wp_Md_evaluate post n) post x1 x2 x3 σ
    | 2 => wb_Md_evaluate_2 (wp_Md_evaluate post n) post x1 x2 x3 σ
    | 3 => wb_Md_evaluate_3 (wp_Md_evaluate post n) post x1 x2 x3 σ
    | 4 => wb_Md_evaluate_4 (wp_Md_evaluate post n) post x1 x2 x3 x5 σ
    | _ => False
def wq_Md_evaluate (x1 : Int32) (x2 : Int32) (σ : Sg) (post : Sg → Prop) : Prop := ∃ n, wp_Md_evaluate post n 0 x1 x2 0 0 σ
def J_Md_evaluate_1 (p : Program) (l : Launch) (e : Env) (s : State) (m : MethodId) (args : Array Value) (below : List Frame) (meth : Method) (c : Code) (D : va_G) (g : Gm) (A : Nat → Prop) (post : Sg → Prop) (F : Nat → Int32 → Int32 → Int32 → Int32 → Sg → Prop) : Prop := ∀ (x1 : Int32) (x2 : Int32) (x3 : Int32) (σ : Sg) (H : Heap) (locs : List Loc) (ls : Array Slot), lv_has ls 6 [(0, .ref (g.1 54)), (1, .int x1), (2, .int x2), (3, .int x3)] → Wst D vwCl (WS g) A s σ H locs → F 1 x1 x2 x3 0 σ → W p l e { frames := 3, cells := 0, slots := 0, locals := 74 } s m args below meth c H locs 0 0 (MQ below (QvW D vwCl (WS g) post A) args s 0 0 A) (F0 m 32 ls [])
def J_Md_evaluate_2 (p : Program) (l : Launch) (e : Env) (s : State) (m : MethodId) (args : Array Value) (below : List Frame) (meth : Method) (c : Code) (D : va_G) (g : Gm) (A : Nat → Prop) (post : Sg → Prop) (F : Nat → Int32 → Int32 → Int32 → Int32 → Sg → Prop) : Prop := ∀ (x1 : Int32) (x2 : Int32) (x3 : Int32) (σ : Sg) (H : Heap) (locs : List Loc) (ls : Array Slot), lv_has ls 6 [(0, .ref (g.1 54)), (1, .int x1), (2, .int x2), (3, .int x3)] → Wst D vwCl (WS g) A s σ H locs → F 2 x1 x2 x3 0 σ → W p l e { frames := 3, cells := 0, slots := 0, locals := 74 } s m args below meth c H locs 0 0 (MQ below (QvW D vwCl (WS g) post A) args s 0 0 A) (F0 m 82 ls [])
def J_Md_evaluate_3 (p : Program) (l : Launch) (e : Env) (s : State) (m : MethodId) (args : Array Value) (below : List Frame) (meth : Method) (c : Code) (D : va_G) (g : Gm) (A : Nat → Prop) (post : Sg → Prop) (F : Nat → Int32 → Int32 → Int32 → Int32 → Sg → Prop) : Prop := ∀ (x1 : Int32) (x2 : Int32) (x3 : Int32) (σ : Sg) (H : Heap) (locs : List Loc) (ls : Array Slot), lv_has ls 6 [(0, .ref (g.1 54)), (1, .int x1), (2, .int x2), (3, .int x3)] → Wst D vwCl (WS g) A s σ H locs → F 3 x1 x2 x3 0 σ → W p l e { frames := 3, cells := 0, slots := 0, locals := 74 } s m args below meth c H locs 0 0 (MQ below (QvW D vwCl (WS g) post A) args s 0 0 A) (F0 m 60 ls [])
def J_Md_evaluate_4 (p : Program) (l : Launch) (e : Env) (s : State) (m : MethodId) (args : Array Value) (below : List Frame) (meth : Method) (c : Code) (D : va_G) (g : Gm) (A : Nat → Prop) (post : Sg → Prop) (F : Nat → Int32 → Int32 → Int32 → Int32 → Sg → Prop) : Prop := ∀ (x1 : Int32) (x2 : Int32) (x3 : Int32) (x5 : Int32) (σ : Sg) (H : Heap) (locs : List Loc) (ls : Array Slot), lv_has ls 6 [(0, .ref (g.1 54)), (1, .int x1), (2, .int x2), (3, .int x3), (5, .int x5)] → Wst D vwCl (WS g) A s σ H locs → F 4 x1 x2 x3 x5 σ → W p l e { frames := 3, cells := 0, slots := 0, locals := 74 } s m args below meth c H locs 0 0 (MQ below (QvW D vwCl (WS g) post A) args s 0 0 A) (F0 m 130 ls [])
set_option maxRecDepth 100000 in
set_option maxHeartbeats 4000000 in
theorem b_Md_evaluate_0 {p : Program} {l : Launch} {e : Env} {s : State} {m : MethodId} {args : Array Value} {below : List Frame} {meth : Method} {c : Code} {D : va_G} {g : Gm} {A : Nat → Prop} {post : Sg → Prop} {F : Nat → Int32 → Int32 → Int32 → Int32 → Sg → Prop} (C : kC p s m args meth c k_Md_evaluate 6 (none) GW R_Md D vwCl g (Zk g) A) (j1 : J_Md_evaluate_1 p l e s m args below meth c D g A post F) (x1 : Int32) (x2 : Int32) (σ : Sg) (H : Heap) (locs : List Loc) (ls : Array Slot) (hl : lv_has ls 6 [(0, .ref (g.1 54)), (1, .int x1), (2, .int x2)]) (hst : Wst D vwCl (WS g) A s σ H locs) (h : wb_Md_evaluate_0 F post x1 x2 σ) : W p l e { frames := 3, cells := 0, slots := 0, locals := 74 } s m args below meth c H locs 0 0 (MQ below (QvW D vwCl (WS g) post A) args s 0 0 A) (F0 m 0 ls []) := by
  obtain ⟨hx, hb, hr, hml, hown, hts, hlocks, hK, hZ, hA⟩ := C
  unfold wb_Md_evaluate_0 at h
  refine lv_aload_n hx hb d_Md_evaluate_0 rfl (lv_at hl 0 rfl) ?_
  refine lv_lconst (v := (0 : Int64)) hx hb d_Md_evaluate_1 (by decide) ?_
  refine kw_putl (D := D) (ci := 10) (ty := .long) (C := R_Md) (T := T_Md) (N := 46) hx hb hts in_Md ty_Md ty_Md_ok nm_Md hown hK hst 54 (WS_o54 g σ) rfl 38 (by decide) (hts _ gw1102) (fun _ h9 => h9) rfl (by decide +kernel) rfl rfl (Nat.le_of_ble_eq_true rfl) (WS_p54_38 g σ _) d_Md_evaluate_2 (fun σ1 H locs e1 hst => ?_)
  replace h := h σ1 e1
  refine lv_aload_n hx hb d_Md_evaluate_5 rfl (lv_at hl 0 rfl) ?_
  refine lv_lconst (v := (0 : Int64)) hx hb d_Md_evaluate_6 (by decide) ?_
  refine kw_putl (D := D) (ci := 10) (ty := .long) (C := R_Md) (T := T_Md) (N := 46) hx hb hts in_Md ty_Md ty_Md_ok nm_Md hown hK hst 54 (WS_o54 g σ1) rfl 39 (by decide) (hts _ gw1103) (fun _ h9 => h9) rfl (by decide +kernel) rfl rfl (Nat.le_of_ble_eq_true rfl) (WS_p54_39 g σ1 _) d_Md_evaluate_7 (fun σ2 H locs e2 hst => ?_)
  replace h := h σ2 e2
  refine lv_aload_n hx hb d_Md_evaluate_10 rfl (lv_at hl 0 rfl) ?_
  refine va_get (D := D) (ci := 10) (C := R_Md) (T := T_Md) (N := 46) hx hb hts in_Md hown hK hst.1 54 (WS_o54 g σ2) rfl 5 (by decide) (hts _ gw1069) (fun _ h9 => h9) rfl d_Md_evaluate_11 ?_
  refine lv_iload_n hx hb d_Md_evaluate_14 rfl (lv_at hl 2 rfl) ?_
  obtain ⟨hi, h⟩ := h
  refine va_iald hx hb hK hst.1 59 0 (WS_a59 g σ2) rfl hi d_Md_evaluate_15 ?_
  refine lv_bipush (v := (6 : Int32)) hx hb d_Md_evaluate_16 (by decide) ?_
  refine lv_icmp_ne (tgt := 30) hx hb d_Md_evaluate_18 (by decide) (fun hc => ?_) (fun hc => ?_)
  · replace h := h.1 hc
    refine lv_iconst (v := (-1 : Int32)) hx hb d_Md_evaluate_30 (by decide) ?_
    refine lv_istore_n hx hb d_Md_evaluate_31 rfl hl (by decide) rfl (fun ls hl => ?_)
    have hl : lv_has ls 6 [(3, .int (-1 : Int32)), (0, .ref (g.1 54)), (1, .int x1), (2, .int x2)] := hl
    exact j1 x1 x2 (-1 : Int32) σ2 _ _ _ (lv_sub hl [1, 2, 3, 0] rfl) hst h
  · replace h := h.2 hc
    refine lv_aload_n hx hb d_Md_evaluate_21 rfl (lv_at hl 0 rfl) ?_
    refine va_get (D := D) (ci := 10) (C := R_Md) (T := T_Md) (N := 46) hx hb hts in_Md hown hK hst.1 54 (WS_o54 g σ2) rfl 11 (by decide) (hts _ gw1075) (fun _ h9 => h9) rfl d_Md_evaluate_22 ?_
    refine lv_iload_n hx hb d_Md_evaluate_25 rfl (lv_at hl 2 rfl) ?_
    obtain ⟨hi, h⟩ := h
    refine va_iald hx hb hK hst.1 65 0 (WS_a65 g σ2) rfl hi d_Md_evaluate_26 ?_
    refine lv_goto (tgt := 31) hx hb d_Md_evaluate_27 (by decide) ?_
    refine lv_istore_n hx hb d_Md_evaluate_31 rfl hl (by decide) rfl (fun ls hl => ?_)
    have hl : lv_has ls 6 [(3, .int (σ2.1 65 x2.toNatClampNeg)), (0, .ref (g.1 54)), (1, .int x1), (2, .int x2)] := hl
    exact j1 x1 x2 (σ2.1 65 x2.toNatClampNeg) σ2 _ _ _ (lv_sub hl [1, 2, 3, 0] rfl) hst h
set_option maxRecDepth 100000 in
set_option maxHeartbeats 4000000 in
theorem b_Md_evaluate_1 {p : Program} {l : Launch} {e : Env} {s : State} {m : MethodId} {args : Array Value} {below : List Frame} {meth : Method} {c : Code} {D : va_G} {g : Gm} {A : Nat → Prop} {post : Sg → Prop} {F : Nat → Int32 → Int32 → Int32 → Int32 → Sg → Prop} (C : kC p s m args meth c k_Md_evaluate 6 (none) GW R_Md D vwCl g (Zk g) A) (j1 : J_Md_evaluate_1 p l e s m args below meth c D g A post F) (j2 : J_Md_evaluate_2 p l e s m args below meth c D g A post F) (j3 : J_Md_evaluate_3 p l e s m args below meth c D g A post F) (x1 : Int32) (x2 : Int32) (x3 : Int32) (σ : Sg) (H : Heap) (locs : List Loc) (ls : Array Slot) (hl : lv_has ls 6 [(0, .ref (g.1 54)), (1, .int x1), (2, .int x2), (3, .int x3)]) (hst : Wst D vwCl (WS g) A s σ H locs) (h : wb_Md_evaluate_1 F post x1 x2 x3 σ) : W p l e { frames := 3, cells := 0, slots := 0, locals := 74 } s m args below meth c H locs 0 0 (MQ below (QvW D vwCl (WS g) post A) args s 0 0 A) (F0 m 32 ls []) := by
  obtain ⟨hx, hb, hr, hml, hown, hts, hlocks, hK, hZ, hA⟩ := C
  unfold wb_Md_evaluate_1 at h
  refine lv_iload_n hx hb d_Md_evaluate_32 rfl (lv_at hl 3 rfl) ?_
  refine lv_if_lt (tgt := 79) hx hb d_Md_evaluate_33 (by decide) (fun hc => ?_) (fun hc => ?_)
  · replace h := h.1 hc
    refine lv_bipush (v := (15 : Int32)) hx hb d_Md_evaluate_79 (by decide) ?_
    refine lv_istore_n hx hb d_Md_evaluate_81 rfl hl (by decide) rfl (fun ls hl => ?_)
    have hl : lv_has ls 6 [(3, .int (15 : Int32)), (0, .ref (g.1 54)), (1, .int x1), (2, .int x2)] := hl
    exact j2 x1 x2 (15 : Int32) σ _ _ _ (lv_sub hl [1, 2, 3, 0] rfl) hst h
  · replace h := h.2 hc
    refine lv_aload_n hx hb d_Md_evaluate_36 rfl (lv_at hl 0 rfl) ?_
    refine lv_iload_n hx hb d_Md_evaluate_37 rfl (lv_at hl 1 rfl) ?_
    refine lv_iload_n hx hb d_Md_evaluate_38 rfl (lv_at hl 3 rfl) ?_
    refine kw_calli (va_runV (As := [.int x1, .int x3]) (rest := []) (b := g.1 54) ⟨hx, hb, hml, hown, hts⟩ (c_Md_propertyFor l x1 x3 h) (cwV 2 hts (gd_v gw1388 gw1390 gs74 gw15 gw1391) rfl rfl rfl (by decide +kernel) ⟨Nat.le_of_ble_eq_true rfl, Nat.le_of_ble_eq_true rfl⟩) ⟨kw_blind (Zk_ok g), va_recv hK hst.1 rfl (WS_o54 g σ), kw_pre (Zk_ok g) hK hZ hA hst⟩ rfl rfl hl.1 rfl (lv_room (Nat.le_of_ble_eq_true rfl)) d_Md_evaluate_39 ⟨Nat.le_of_ble_eq_true rfl, Nat.le_of_ble_eq_true rfl⟩) hst hA (fun r1 σ1 H locs h hst => ?_)
    refine lv_if_ge (tgt := 60) hx hb d_Md_evaluate_42 (by decide) (fun hc => ?_) (fun hc => ?_)
    · replace h := h.1 hc
      exact j3 x1 x2 x3 σ1 _ _ _ (lv_sub hl [0, 1, 2, 3] rfl) hst h
    · replace h := h.2 hc
      refine lv_aload_n hx hb d_Md_evaluate_45 rfl (lv_at hl 0 rfl) ?_
      refine va_get (D := D) (ci := 10) (C := R_Md) (T := T_Md) (N := 46) hx hb hts in_Md hown hK hst.1 54 (WS_o54 g σ1) rfl 25 (by decide) (hts _ gw1089) (fun _ h9 => h9) rfl d_Md_evaluate_46 ?_
      refine lv_bipush (v := (22 : Int32)) hx hb d_Md_evaluate_49 (by decide) ?_
      refine lv_iload_n hx hb d_Md_evaluate_51 rfl (lv_at hl 1 rfl) ?_
      refine lv_imul hx hb d_Md_evaluate_52 ?_
      refine lv_bipush (v := (13 : Int32)) hx hb d_Md_evaluate_53 (by decide) ?_
      refine lv_iadd hx hb d_Md_evaluate_55 ?_
      obtain ⟨hi, h⟩ := h
      refine va_iald hx hb hK hst.1 76 0 (WS_a76 g σ1) rfl hi d_Md_evaluate_56 ?_
      refine lv_if_lt (tgt := 69) hx hb d_Md_evaluate_57 (by decide) (fun hc => ?_) (fun hc => ?_)
      · replace h := h.1 hc
        refine lv_aload_n hx hb d_Md_evaluate_69 rfl (lv_at hl 0 rfl) ?_
        refine va_get (D := D) (ci := 10) (C := R_Md) (T := T_Md) (N := 46) hx hb hts in_Md hown hK hst.1 54 (WS_o54 g σ1) rfl 12 (by decide) (hts _ gw1076) (fun _ h9 => h9) rfl d_Md_evaluate_70 ?_
        refine lv_iload_n hx hb d_Md_evaluate_73 rfl (lv_at hl 3 rfl) ?_
        obtain ⟨hi, h⟩ := h
        refine va_iald hx hb hK hst.1 66 0 (WS_a66 g σ1) rfl hi d_Md_evaluate_74 ?_
        refine lv_istore_n hx hb d_Md_evaluate_75 rfl hl (by decide) rfl (fun ls hl => ?_)
        have hl : lv_has ls 6 [(3, .int (σ1.1 66 x3.toNatClampNeg)), (0, .ref (g.1 54)), (1, .int x1), (2, .int x2)] := hl
        refine lv_goto (tgt := 32) hx hb d_Md_evaluate_76 (by decide) ?_
        exact j1 x1 x2 (σ1.1 66 x3.toNatClampNeg) σ1 _ _ _ (lv_sub hl [1, 2, 3, 0] rfl) hst h
      · replace h := h.2 hc
        exact j3 x1 x2 x3 σ1 _ _ _ (lv_sub hl [0, 1, 2, 3] rfl) hst h
set_option maxRecDepth 100000 in
set_option maxHeartbeats 4000000 in
theorem b_Md_evaluate_2 {p : Program} {l : Launch} {e : Env} {s : State} {m : MethodId} {args : Array Value} {below : List Frame} {meth : Method} {c : Code} {D : va_G} {g : Gm} {A : Nat → Prop} {post : Sg → Prop} {F : Nat → Int32 → Int32 → Int32 → Int32 → Sg → Prop} (C : kC p s m args meth c k_Md_evaluate 6 (none) GW R_Md D vwCl g (Zk g) A) (j4 : J_Md_evaluate_4 p l e s m args below meth c D g A post F) (x1 : Int32) (x2 : Int32) (x3 : Int32) (σ : Sg) (H : Heap) (locs : List Loc) (ls : Array Slot) (hl : lv_has ls 6 [(0, .ref (g.1 54)), (1, .int x1), (2, .int x2), (3, .int x3)]) (hst : Wst D vwCl (WS g) A s σ H locs) (h : wb_Md_evaluate_2 F post x1 x2 x3 σ) : W p l e { frames := 3, cells := 0, slots := 0, locals := 74 } s m args below meth c H locs 0 0 (MQ below (QvW D vwCl (WS g) post A) args s 0 0 A) (F0 m 82 ls []) := by
  obtain ⟨hx, hb, hr, hml, hown, hts, hlocks, hK, hZ, hA⟩ := C
  unfold wb_Md_evaluate_2 at h
  refine lv_iload_n hx hb d_Md_evaluate_82 rfl (lv_at hl 3 rfl) ?_
  refine lv_bipush (v := (17 : Int32)) hx hb d_Md_evaluate_83 (by decide) ?_
  refine lv_icmp_gt (tgt := 160) hx hb d_Md_evaluate_85 (by decide) (fun hc => ?_) (fun hc => ?_)
  · replace h := h.1 hc
    refine lv_aload_n hx hb d_Md_evaluate_160 rfl (lv_at hl 0 rfl) ?_
    refine va_get (D := D) (ci := 10) (C := R_Md) (T := T_Md) (N := 46) hx hb hts in_Md hown hK hst.1 54 (WS_o54 g σ) rfl 25 (by decide) (hts _ gw1089) (fun _ h9 => h9) rfl d_Md_evaluate_161 ?_
    refine lv_bipush (v := (22 : Int32)) hx hb d_Md_evaluate_164 (by decide) ?_
    refine lv_iload_n hx hb d_Md_evaluate_166 rfl (lv_at hl 1 rfl) ?_
    refine lv_imul hx hb d_Md_evaluate_167 ?_
    refine lv_bipush (v := (19 : Int32)) hx hb d_Md_evaluate_168 (by decide) ?_
    refine lv_iadd hx hb d_Md_evaluate_170 ?_
    obtain ⟨hi, h⟩ := h
    refine va_iald hx hb hK hst.1 76 0 (WS_a76 g σ) rfl hi d_Md_evaluate_171 ?_
    refine lv_istore_n hx hb d_Md_evaluate_172 rfl hl (by decide) rfl (fun ls hl => ?_)
    have hl : lv_has ls 6 [(3, .int (σ.1 76 ((((22 : Int32) * x1) + (19 : Int32)) : Int32).toNatClampNeg)), (0, .ref (g.1 54)), (1, .int x1), (2, .int x2)] := hl
    refine lv_iload_n hx hb d_Md_evaluate_173 rfl (lv_at hl 0 rfl) ?_
    refine lv_if_lt (tgt := 197) hx hb d_Md_evaluate_174 (by decide) (fun hc => ?_) (fun hc => ?_)
    · replace h := h.1 hc
      exact kw_vret hx hb hr hlocks hst h d_Md_evaluate_197
    · replace h := h.2 hc
      refine lv_aload_n hx hb d_Md_evaluate_177 rfl (lv_at hl 1 rfl) ?_
      refine va_get (D := D) (ci := 10) (C := R_Md) (T := T_Md) (N := 46) hx hb hts in_Md hown hK hst.1 54 (WS_o54 g σ) rfl 26 (by decide) (hts _ gw1090) (fun _ h9 => h9) rfl d_Md_evaluate_178 ?_
      refine lv_iload_n hx hb d_Md_evaluate_181 rfl (lv_at hl 0 rfl) ?_
      obtain ⟨hi, h⟩ := h
      refine va_iald hx hb hK hst.1 77 0 (WS_a77 g σ) rfl hi d_Md_evaluate_182 ?_
      refine lv_if_lt (tgt := 197) hx hb d_Md_evaluate_183 (by decide) (fun hc => ?_) (fun hc => ?_)
      · replace h := h.1 hc
        exact kw_vret hx hb hr hlocks hst h d_Md_evaluate_197
      · replace h := h.2 hc
        refine lv_aload_n hx hb d_Md_evaluate_186 rfl (lv_at hl 1 rfl) ?_
        refine lv_aload_n hx hb d_Md_evaluate_187 rfl (lv_at hl 1 rfl) ?_
        refine va_get (D := D) (ci := 10) (C := R_Md) (T := T_Md) (N := 46) hx hb hts in_Md hown hK hst.1 54 (WS_o54 g σ) rfl 26 (by decide) (hts _ gw1090) (fun _ h9 => h9) rfl d_Md_evaluate_188 ?_
        refine lv_iload_n hx hb d_Md_evaluate_191 rfl (lv_at hl 0 rfl) ?_
        obtain ⟨hi, h⟩ := h
        refine va_iald hx hb hK hst.1 77 0 (WS_a77 g σ) rfl hi d_Md_evaluate_192 ?_
        refine lv_iload_n hx hb d_Md_evaluate_193 rfl (lv_at hl 3 rfl) ?_
        refine kw_callv (va_runV (As := [.int (σ.1 77 ((σ.1 76 ((((22 : Int32) * x1) + (19 : Int32)) : Int32).toNatClampNeg) : Int32).toNatClampNeg), .int x2]) (rest := []) (b := g.1 54) ⟨hx, hb, hml, hown, hts⟩ (c_Md_unite l (σ.1 77 ((σ.1 76 ((((22 : Int32) * x1) + (19 : Int32)) : Int32).toNatClampNeg) : Int32).toNatClampNeg) x2 h) (cwV 2 hts (gd_v gw1392 gw1394 gs75 gw15 gw1395) rfl rfl rfl (by decide +kernel) ⟨Nat.le_of_ble_eq_true rfl, Nat.le_of_ble_eq_true rfl⟩) ⟨kw_blind (Zk_ok g), va_recv hK hst.1 rfl (WS_o54 g σ), kw_pre (Zk_ok g) hK hZ hA hst⟩ rfl rfl hl.1 rfl (lv_room (Nat.le_of_ble_eq_true rfl)) d_Md_evaluate_194 ⟨Nat.le_of_ble_eq_true rfl, Nat.le_of_ble_eq_true rfl⟩) hst hA (fun σ1 H locs h hst => ?_)
        exact kw_vret hx hb hr hlocks hst h d_Md_evaluate_197
  · replace h := h.2 hc
    refine lv_aload_n hx hb d_Md_evaluate_88 rfl (lv_at hl 0 rfl) ?_
    refine va_get (D := D) (ci := 10) (C := R_Md) (T := T_Md) (N := 46) hx hb hts in_Md hown hK hst.1 54 (WS_o54 g σ) rfl 25 (by decide) (hts _ gw1089) (fun _ h9 => h9) rfl d_Md_evaluate_89 ?_
    refine lv_bipush (v := (22 : Int32)) hx hb d_Md_evaluate_92 (by decide) ?_
    refine lv_iload_n hx hb d_Md_evaluate_94 rfl (lv_at hl 1 rfl) ?_
    refine lv_imul hx hb d_Md_evaluate_95 ?_
    refine lv_iload_n hx hb d_Md_evaluate_96 rfl (lv_at hl 3 rfl) ?_
    refine lv_iadd hx hb d_Md_evaluate_97 ?_
    obtain ⟨hi, h⟩ := h
    refine va_iald hx hb hK hst.1 76 0 (WS_a76 g σ) rfl hi d_Md_evaluate_98 ?_
    refine lv_istore hx hb d_Md_evaluate_99 hl (by decide) rfl (fun ls hl => ?_)
    have hl : lv_has ls 6 [(4, .int (σ.1 76 ((((22 : Int32) * x1) + x3) : Int32).toNatClampNeg)), (0, .ref (g.1 54)), (1, .int x1), (2, .int x2), (3, .int x3)] := hl
    refine lv_iload hx hb d_Md_evaluate_101 (lv_at hl 0 rfl) ?_
    refine lv_if_lt (tgt := 127) hx hb d_Md_evaluate_103 (by decide) (fun hc => ?_) (fun hc => ?_)
    · replace h := h.1 hc
      refine lv_iconst (v := (-1 : Int32)) hx hb d_Md_evaluate_127 (by decide) ?_
      refine lv_istore hx hb d_Md_evaluate_128 hl (by decide) rfl (fun ls hl => ?_)
      have hl : lv_has ls 6 [(5, .int (-1 : Int32)), (4, .int (σ.1 76 ((((22 : Int32) * x1) + x3) : Int32).toNatClampNeg)), (0, .ref (g.1 54)), (1, .int x1), (2, .int x2), (3, .int x3)] := hl
      exact j4 x1 x2 x3 (-1 : Int32) σ _ _ _ (lv_sub hl [2, 3, 4, 5, 0] rfl) hst h
    · replace h := h.2 hc
      refine lv_aload_n hx hb d_Md_evaluate_106 rfl (lv_at hl 1 rfl) ?_
      refine va_get (D := D) (ci := 10) (C := R_Md) (T := T_Md) (N := 46) hx hb hts in_Md hown hK hst.1 54 (WS_o54 g σ) rfl 5 (by decide) (hts _ gw1069) (fun _ h9 => h9) rfl d_Md_evaluate_107 ?_
      refine lv_iload hx hb d_Md_evaluate_110 (lv_at hl 0 rfl) ?_
      obtain ⟨hi, h⟩ := h
      refine va_iald hx hb hK hst.1 59 0 (WS_a59 g σ) rfl hi d_Md_evaluate_112 ?_
      refine lv_iconst (v := (5 : Int32)) hx hb d_Md_evaluate_113 (by decide) ?_
      refine lv_icmp_ne (tgt := 127) hx hb d_Md_evaluate_114 (by decide) (fun hc => ?_) (fun hc => ?_)
      · replace h := h.1 hc
        refine lv_iconst (v := (-1 : Int32)) hx hb d_Md_evaluate_127 (by decide) ?_
        refine lv_istore hx hb d_Md_evaluate_128 hl (by decide) rfl (fun ls hl => ?_)
        have hl : lv_has ls 6 [(5, .int (-1 : Int32)), (4, .int (σ.1 76 ((((22 : Int32) * x1) + x3) : Int32).toNatClampNeg)), (0, .ref (g.1 54)), (1, .int x1), (2, .int x2), (3, .int x3)] := hl
        exact j4 x1 x2 x3 (-1 : Int32) σ _ _ _ (lv_sub hl [2, 3, 4, 5, 0] rfl) hst h
      · replace h := h.2 hc
        refine lv_aload_n hx hb d_Md_evaluate_117 rfl (lv_at hl 1 rfl) ?_
        refine va_get (D := D) (ci := 10) (C := R_Md) (T := T_Md) (N := 46) hx hb hts in_Md hown hK hst.1 54 (WS_o54 g σ) rfl 11 (by decide) (hts _ gw1075) (fun _ h9 => h9) rfl d_Md_evaluate_118 ?_
        refine lv_iload hx hb d_Md_evaluate_121 (lv_at hl 0 rfl) ?_
        obtain ⟨hi, h⟩ := h
        refine va_iald hx hb hK hst.1 65 0 (WS_a65 g σ) rfl hi d_Md_evaluate_123 ?_
        refine lv_goto (tgt := 128) hx hb d_Md_evaluate_124 (by decide) ?_
        refine lv_istore hx hb d_Md_evaluate_128 hl (by decide) rfl (fun ls hl => ?_)
        have hl : lv_has ls 6 [(5, .int (σ.1 65 ((σ.1 76 ((((22 : Int32) * x1) + x3) : Int32).toNatClampNeg) : Int32).toNatClampNeg)), (4, .int (σ.1 76 ((((22 : Int32) * x1) + x3) : Int32).toNatClampNeg)), (0, .ref (g.1 54)), (1, .int x1), (2, .int x2), (3, .int x3)] := hl
        exact j4 x1 x2 x3 (σ.1 65 ((σ.1 76 ((((22 : Int32) * x1) + x3) : Int32).toNatClampNeg) : Int32).toNatClampNeg) σ _ _ _ (lv_sub hl [2, 3, 4, 5, 0] rfl) hst h
set_option maxRecDepth 100000 in
set_option maxHeartbeats 4000000 in
theorem b_Md_evaluate_3 {p : Program} {l : Launch} {e : Env} {s : State} {m : MethodId} {args : Array Value} {below : List Frame} {meth : Method} {c : Code} {D : va_G} {g : Gm} {A : Nat → Prop} {post : Sg → Prop} {F : Nat → Int32 → Int32 → Int32 → Int32 → Sg → Prop} (C : kC p s m args meth c k_Md_evaluate 6 (none) GW R_Md D vwCl g (Zk g) A) (j1 : J_Md_evaluate_1 p l e s m args below meth c D g A post F) (x1 : Int32) (x2 : Int32) (x3 : Int32) (σ : Sg) (H : Heap) (locs : List Loc) (ls : Array Slot) (hl : lv_has ls 6 [(0, .ref (g.1 54)), (1, .int x1), (2, .int x2), (3, .int x3)]) (hst : Wst D vwCl (WS g) A s σ H locs) (h : wb_Md_evaluate_3 F post x1 x2 x3 σ) : W p l e { frames := 3, cells := 0, slots := 0, locals := 74 } s m args below meth c H locs 0 0 (MQ below (QvW D vwCl (WS g) post A) args s 0 0 A) (F0 m 60 ls []) := by
  obtain ⟨hx, hb, hr, hml, hown, hts, hlocks, hK, hZ, hA⟩ := C
  unfold wb_Md_evaluate_3 at h
  refine lv_aload_n hx hb d_Md_evaluate_60 rfl (lv_at hl 0 rfl) ?_
  refine lv_iload_n hx hb d_Md_evaluate_61 rfl (lv_at hl 3 rfl) ?_
  refine lv_sipush (v := (160 : Int32)) hx hb d_Md_evaluate_62 (by decide) ?_
  refine lv_isub hx hb d_Md_evaluate_65 ?_
  refine kw_callv (va_runV (As := [.int (x3 - (160 : Int32))]) (rest := []) (b := g.1 54) ⟨hx, hb, hml, hown, hts⟩ (c_Md_add l (x3 - (160 : Int32)) h) (cwV 1 hts (gd_v gw1376 gw1378 gs71 gw15 gw1379) rfl rfl rfl (by decide +kernel) ⟨Nat.le_of_ble_eq_true rfl, Nat.le_of_ble_eq_true rfl⟩) ⟨kw_blind (Zk_ok g), va_recv hK hst.1 rfl (WS_o54 g σ), kw_pre (Zk_ok g) hK hZ hA hst⟩ rfl rfl hl.1 rfl (lv_room (Nat.le_of_ble_eq_true rfl)) d_Md_evaluate_66 ⟨Nat.le_of_ble_eq_true rfl, Nat.le_of_ble_eq_true rfl⟩) hst hA (fun σ1 H locs h hst => ?_)
  refine lv_aload_n hx hb d_Md_evaluate_69 rfl (lv_at hl 0 rfl) ?_
  refine va_get (D := D) (ci := 10) (C := R_Md) (T := T_Md) (N := 46) hx hb hts in_Md hown hK hst.1 54 (WS_o54 g σ1) rfl 12 (by decide) (hts _ gw1076) (fun _ h9 => h9) rfl d_Md_evaluate_70 ?_
  refine lv_iload_n hx hb d_Md_evaluate_73 rfl (lv_at hl 3 rfl) ?_
  obtain ⟨hi, h⟩ := h
  refine va_iald hx hb hK hst.1 66 0 (WS_a66 g σ1) rfl hi d_Md_evaluate_74 ?_
  refine lv_istore_n hx hb d_Md_evaluate_75 rfl hl (by decide) rfl (fun ls hl => ?_)
  have hl : lv_has ls 6 [(3, .int (σ1.1 66 x3.toNatClampNeg)), (0, .ref (g.1 54)), (1, .int x1), (2, .int x2)] := hl
  refine lv_goto (tgt := 32) hx hb d_Md_evaluate_76 (by decide) ?_
  exact j1 x1 x2 (σ1.1 66 x3.toNatClampNeg) σ1 _ _ _ (lv_sub hl [1, 2, 3, 0] rfl) hst h
set_option maxRecDepth 100000 in
set_option maxHeartbeats 4000000 in
theorem b_Md_evaluate_4 {p : Program} {l : Launch} {e : Env} {s : State} {m : MethodId} {args : Array Value} {below : List Frame} {meth : Method} {c : Code} {D : va_G} {g : Gm} {A : Nat → Prop} {post : Sg → Prop} {F : Nat → Int32 → Int32 → Int32 → Int32 → Sg → Prop} (C : kC p s m args meth c k_Md_evaluate 6 (none) GW R_Md D vwCl g (Zk g) A) (j2 : J_Md_evaluate_2 p l e s m args below meth c D g A post F) (j4 : J_Md_evaluate_4 p l e s m args below meth c D g A post F) (x1 : Int32) (x2 : Int32) (x3 : Int32) (x5 : Int32) (σ : Sg) (H : Heap) (locs : List Loc) (ls : Array Slot) (hl : lv_has ls 6 [(0, .ref (g.1 54)), (1, .int x1), (2, .int x2), (3, .int x3), (5, .int x5)]) (hst : Wst D vwCl (WS g) A s σ H locs) (h : wb_Md_evaluate_4 F post x1 x2 x3 x5 σ) : W p l e { frames := 3, cells := 0, slots := 0, locals := 74 } s m args below meth c H locs 0 0 (MQ below (QvW D vwCl (WS g) post A) args s 0 0 A) (F0 m 130 ls []) := by
  obtain ⟨hx, hb, hr, hml, hown, hts, hlocks, hK, hZ, hA⟩ := C
  unfold wb_Md_evaluate_4 at h
  refine lv_iload hx hb d_Md_evaluate_130 (lv_at hl 4 rfl) ?_
  refine lv_if_lt (tgt := 154) hx hb d_Md_evaluate_132 (by decide) (fun hc => ?_) (fun hc => ?_)
  · replace h := h.1 hc
    refine lv_iinc (k := 3) (v := (x3 + 1)) hx hb d_Md_evaluate_154 hl rfl (kw_inc _ (by decide)) (by decide) rfl (fun ls hl => ?_)
    have hl : lv_has ls 6 [(3, .int (x3 + 1)), (0, .ref (g.1 54)), (1, .int x1), (2, .int x2), (5, .int x5)] := hl
    refine lv_goto (tgt := 82) hx hb d_Md_evaluate_157 (by decide) ?_
    exact j2 x1 x2 (x3 + 1) σ _ _ _ (lv_sub hl [1, 2, 3, 0] rfl) hst h
  · replace h := h.2 hc
    refine lv_aload_n hx hb d_Md_evaluate_135 rfl (lv_at hl 0 rfl) ?_
    refine lv_iload hx hb d_Md_evaluate_136 (lv_at hl 4 rfl) ?_
    refine lv_iload_n hx hb d_Md_evaluate_138 rfl (lv_at hl 2 rfl) ?_
    refine kw_callv (va_runV (As := [.int x5, .int x2]) (rest := []) (b := g.1 54) ⟨hx, hb, hml, hown, hts⟩ (c_Md_unite l x5 x2 h) (cwV 2 hts (gd_v gw1392 gw1394 gs75 gw15 gw1395) rfl rfl rfl (by decide +kernel) ⟨Nat.le_of_ble_eq_true rfl, Nat.le_of_ble_eq_true rfl⟩) ⟨kw_blind (Zk_ok g), va_recv hK hst.1 rfl (WS_o54 g σ), kw_pre (Zk_ok g) hK hZ hA hst⟩ rfl rfl hl.1 rfl (lv_room (Nat.le_of_ble_eq_true rfl)) d_Md_evaluate_139 ⟨Nat.le_of_ble_eq_true rfl, Nat.le_of_ble_eq_true rfl⟩) hst hA (fun σ1 H locs h hst => ?_)
    refine lv_aload_n hx hb d_Md_evaluate_142 rfl (lv_at hl 0 rfl) ?_
    refine va_get (D := D) (ci := 10) (C := R_Md) (T := T_Md) (N := 46) hx hb hts in_Md hown hK hst.1 54 (WS_o54 g σ1) rfl 12 (by decide) (hts _ gw1076) (fun _ h9 => h9) rfl d_Md_evaluate_143 ?_
    refine lv_iload hx hb d_Md_evaluate_146 (lv_at hl 4 rfl) ?_
    obtain ⟨hi, h⟩ := h
    refine va_iald hx hb hK hst.1 66 0 (WS_a66 g σ1) rfl hi d_Md_evaluate_148 ?_
    refine lv_istore hx hb d_Md_evaluate_149 hl (by decide) rfl (fun ls hl => ?_)
    have hl : lv_has ls 6 [(5, .int (σ1.1 66 x5.toNatClampNeg)), (0, .ref (g.1 54)), (1, .int x1), (2, .int x2), (3, .int x3)] := hl
    refine lv_goto (tgt := 130) hx hb d_Md_evaluate_151 (by decide) ?_
    exact j4 x1 x2 x3 (σ1.1 66 x5.toNatClampNeg) σ1 _ _ _ (lv_sub hl [1, 2, 3, 4, 0] rfl) hst h
set_option maxRecDepth 100000 in
set_option maxHeartbeats 4000000 in
theorem a_Md_evaluate {p : Program} {l : Launch} {e : Env} {s : State} {m : MethodId} {args : Array Value} {below : List Frame} {meth : Method} {c : Code} {D : va_G} {g : Gm} {A : Nat → Prop} {post : Sg → Prop} (C : kC p s m args meth c k_Md_evaluate 6 (none) GW R_Md D vwCl g (Zk g) A) : ∀ n : Nat, J_Md_evaluate_1 p l e s m args below meth c D g A post (wp_Md_evaluate post n) ∧ J_Md_evaluate_2 p l e s m args below meth c D g A post (wp_Md_evaluate post n) ∧ J_Md_evaluate_3 p l e s m args below meth c D g A post (wp_Md_evaluate post n) ∧ J_Md_evaluate_4 p l e s m args below meth c D g A post (wp_Md_evaluate post n) := by
  intro n
  induction n with
  | zero => exact ⟨fun _ _ _ _ _ _ _ _ _ h => h.elim, fun _ _ _ _ _ _ _ _ _ h => h.elim, fun _ _ _ _ _ _ _ _ _ h => h.elim, fun _ _ _ _ _ _ _ _ _ _ h => h.elim⟩
  | succ n ih => exact ⟨fun x1 x2 x3 σ H locs ls hl hst h => b_Md_evaluate_1 (F := wp_Md_evaluate post n) C (ih.1) (ih.2.1) (ih.2.2.1) x1 x2 x3 σ H locs ls hl hst h, fun x1 x2 x3 σ H locs ls hl hst h => b_Md_evaluate_2 (F := wp_Md_evaluate post n) C (ih.2.2.2) x1 x2 x3 σ H locs ls hl hst h, fun x1 x2 x3 σ H locs ls hl hst h => b_Md_evaluate_3 (F := wp_Md_evaluate post n) C (ih.1) x1 x2 x3 σ H locs ls hl hst h, fun x1 x2 x3 x5 σ H locs ls hl hst h => b_Md_evaluate_4 (F := wp_Md_evaluate post n) C (ih.2.1) (ih.2.2.2) x1 x2 x3 x5 σ H locs ls hl hst h⟩
set_option maxRecDepth 100000 in
set_option maxHeartbeats 4000000 in
theorem c_Md_evaluate (l : Launch) {D : va_G} {g : Gm} {sz : Nat} (x1 : Int32) (x2 : Int32) {σ : Sg} {post : Sg → Prop} (h : wq_Md_evaluate x1 x2 σ post) : Met l y_Md_evaluate (.code y_Md_evaluate k_Md_evaluate 6 (none) :: GW) { frames := 3, cells := 0, slots := 0, locals := 74 } (PcW D vwCl (WS g) g (Zk g) σ sz [.ref (g.1 54), .int x1, .int x2]) (QvW D vwCl (WS g) post (va_A (WS g σ) sz)) 0 0 (va_A (WS g σ) sz) := by
  refine kw_entry (own := R_Md) (by decide) rfl rfl (Nat.le_of_ble_eq_true rfl) ?_
  intro p e s m below meth c ls hsz C hin hl hst
  obtain ⟨n, h⟩ := h
  cases n with
  | zero => exact h.elim
  | succ n =>
    have ih := a_Md_evaluate (l := l) (e := e) (below := below) (post := post) C n
    exact b_Md_evaluate_0 (F := wp_Md_evaluate post n) C (ih.1) x1 x2 σ _ _ ls hl hst h
/-! SchemaDeskModel.fill (I)V -/
abbrev k_Md_fill : ByteArray := prog_12_method_59_code
abbrev y_Md_fill : MethodName := ⟨"SchemaDeskModel", "fill", "(I)V"⟩
theorem d_Md_fill_0 : decode k_Md_fill 0 = .ok (.iconst 0, 1) := by decide +kernel
theorem d_Md_fill_1 : decode k_Md_fill 1 = .ok (.istore_n 2, 1) := by decide +kernel
theorem d_Md_fill_2 : decode k_Md_fill 2 = .ok (.iload_n 2, 1) := by decide +kernel
theorem d_Md_fill_3 : decode k_Md_fill 3 = .ok (.aload_n 0, 1) := by decide +kernel
theorem d_Md_fill_4 : decode k_Md_fill 4 = .ok (.getfield 297, 3) := by decide +kernel
theorem d_Md_fill_7 : decode k_Md_fill 7 = .ok (.if_icmp .ge 259, 3) := by decide +kernel
theorem d_Md_fill_10 : decode k_Md_fill 10 = .ok (.aload_n 0, 1) := by decide +kernel
theorem d_Md_fill_11 : decode k_Md_fill 11 = .ok (.getfield 135, 3) := by decide +kernel
theorem d_Md_fill_14 : decode k_Md_fill 14 = .ok (.iload_n 2, 1) := by decide +kernel
theorem d_Md_fill_15 : decode k_Md_fill 15 = .ok (.iaload, 1) := by decide +kernel
theorem d_Md_fill_16 : decode k_Md_fill 16 = .ok (.istore_n 3, 1) := by decide +kernel
theorem d_Md_fill_17 : decode k_Md_fill 17 = .ok (.aload_n 0, 1) := by decide +kernel
theorem d_Md_fill_18 : decode k_Md_fill 18 = .ok (.getfield 77, 3) := by decide +kernel
theorem d_Md_fill_21 : decode k_Md_fill 21 = .ok (.iload_n 3, 1) := by decide +kernel
theorem d_Md_fill_22 : decode k_Md_fill 22 = .ok (.iaload, 1) := by decide +kernel
theorem d_Md_fill_23 : decode k_Md_fill 23 = .ok (.iconst 1, 1) := by decide +kernel
theorem d_Md_fill_24 : decode k_Md_fill 24 = .ok (.if_icmp .eq 7, 3) := by decide +kernel
theorem d_Md_fill_27 : decode k_Md_fill 27 = .ok (.iconst 1, 1) := by decide +kernel
theorem d_Md_fill_28 : decode k_Md_fill 28 = .ok (.goto 4, 3) := by decide +kernel
theorem d_Md_fill_31 : decode k_Md_fill 31 = .ok (.iconst 0, 1) := by decide +kernel
theorem d_Md_fill_32 : decode k_Md_fill 32 = .ok (.istore 4, 2) := by decide +kernel
theorem d_Md_fill_34 : decode k_Md_fill 34 = .ok (.aload_n 0, 1) := by decide +kernel
theorem d_Md_fill_35 : decode k_Md_fill 35 = .ok (.lconst 0, 1) := by decide +kernel
theorem d_Md_fill_36 : decode k_Md_fill 36 = .ok (.putfield 277, 3) := by decide +kernel
theorem d_Md_fill_39 : decode k_Md_fill 39 = .ok (.aload_n 0, 1) := by decide +kernel
theorem d_Md_fill_40 : decode k_Md_fill 40 = .ok (.lconst 0, 1) := by decide +kernel
theorem d_Md_fill_41 : decode k_Md_fill 41 = .ok (.putfield 281, 3) := by decide +kernel
theorem d_Md_fill_44 : decode k_Md_fill 44 = .ok (.aload_n 0, 1) := by decide +kernel
theorem d_Md_fill_45 : decode k_Md_fill 45 = .ok (.getfield 77, 3) := by decide +kernel
theorem d_Md_fill_48 : decode k_Md_fill 48 = .ok (.iload_n 3, 1) := by decide +kernel
theorem d_Md_fill_49 : decode k_Md_fill 49 = .ok (.iaload, 1) := by decide +kernel
theorem d_Md_fill_50 : decode k_Md_fill 50 = .ok (.bipush 6, 2) := by decide +kernel
theorem d_Md_fill_52 : decode k_Md_fill 52 = .ok (.if_icmp .ne 134, 3) := by decide +kernel
theorem d_Md_fill_55 : decode k_Md_fill 55 = .ok (.aload_n 0, 1) := by decide +kernel
theorem d_Md_fill_56 : decode k_Md_fill 56 = .ok (.iload_n 3, 1) := by decide +kernel
theorem d_Md_fill_57 : decode k_Md_fill 57 = .ok (.iload_n 1, 1) := by decide +kernel
theorem d_Md_fill_58 : decode k_Md_fill 58 = .ok (.invokevirtual 342, 3) := by decide +kernel
theorem d_Md_fill_61 : decode k_Md_fill 61 = .ok (.iconst 1, 1) := by decide +kernel
theorem d_Md_fill_62 : decode k_Md_fill 62 = .ok (.istore 5, 2) := by decide +kernel
theorem d_Md_fill_64 : decode k_Md_fill 64 = .ok (.iload 5, 2) := by decide +kernel
theorem d_Md_fill_66 : decode k_Md_fill 66 = .ok (.bipush 20, 2) := by decide +kernel
theorem d_Md_fill_68 : decode k_Md_fill 68 = .ok (.if_icmp .gt 53, 3) := by decide +kernel
theorem d_Md_fill_71 : decode k_Md_fill 71 = .ok (.aload_n 0, 1) := by decide +kernel
theorem d_Md_fill_72 : decode k_Md_fill 72 = .ok (.getfield 129, 3) := by decide +kernel
theorem d_Md_fill_75 : decode k_Md_fill 75 = .ok (.bipush 22, 2) := by decide +kernel
theorem d_Md_fill_77 : decode k_Md_fill 77 = .ok (.iload_n 3, 1) := by decide +kernel
theorem d_Md_fill_78 : decode k_Md_fill 78 = .ok (.imul, 1) := by decide +kernel
theorem d_Md_fill_79 : decode k_Md_fill 79 = .ok (.iload 5, 2) := by decide +kernel
theorem d_Md_fill_81 : decode k_Md_fill 81 = .ok (.iadd, 1) := by decide +kernel
theorem d_Md_fill_82 : decode k_Md_fill 82 = .ok (.iaload, 1) := by decide +kernel
theorem d_Md_fill_83 : decode k_Md_fill 83 = .ok (.istore 6, 2) := by decide +kernel
theorem d_Md_fill_85 : decode k_Md_fill 85 = .ok (.iload 4, 2) := by decide +kernel
theorem d_Md_fill_87 : decode k_Md_fill 87 = .ok (.ifCond .eq 25, 3) := by decide +kernel
theorem d_Md_fill_90 : decode k_Md_fill 90 = .ok (.iload 6, 2) := by decide +kernel
theorem d_Md_fill_92 : decode k_Md_fill 92 = .ok (.ifCond .lt 16, 3) := by decide +kernel
theorem d_Md_fill_95 : decode k_Md_fill 95 = .ok (.aload_n 0, 1) := by decide +kernel
theorem d_Md_fill_96 : decode k_Md_fill 96 = .ok (.iload_n 3, 1) := by decide +kernel
theorem d_Md_fill_97 : decode k_Md_fill 97 = .ok (.iload 5, 2) := by decide +kernel
theorem d_Md_fill_99 : decode k_Md_fill 99 = .ok (.iload 6, 2) := by decide +kernel
theorem d_Md_fill_101 : decode k_Md_fill 101 = .ok (.iload_n 1, 1) := by decide +kernel
theorem d_Md_fill_102 : decode k_Md_fill 102 = .ok (.invokevirtual 345, 3) := by decide +kernel
theorem d_Md_fill_105 : decode k_Md_fill 105 = .ok (.ifCond .eq 7, 3) := by decide +kernel
theorem d_Md_fill_108 : decode k_Md_fill 108 = .ok (.iconst 1, 1) := by decide +kernel
theorem d_Md_fill_109 : decode k_Md_fill 109 = .ok (.goto 4, 3) := by decide +kernel
theorem d_Md_fill_112 : decode k_Md_fill 112 = .ok (.iconst 0, 1) := by decide +kernel
theorem d_Md_fill_113 : decode k_Md_fill 113 = .ok (.istore 4, 2) := by decide +kernel
theorem d_Md_fill_115 : decode k_Md_fill 115 = .ok (.iinc 5 1, 3) := by decide +kernel
theorem d_Md_fill_118 : decode k_Md_fill 118 = .ok (.goto (-54), 3) := by decide +kernel
theorem d_Md_fill_121 : decode k_Md_fill 121 = .ok (.aload_n 0, 1) := by decide +kernel
theorem d_Md_fill_122 : decode k_Md_fill 122 = .ok (.getfield 77, 3) := by decide +kernel
theorem d_Md_fill_125 : decode k_Md_fill 125 = .ok (.iload_n 1, 1) := by decide +kernel
theorem d_Md_fill_126 : decode k_Md_fill 126 = .ok (.iaload, 1) := by decide +kernel
theorem d_Md_fill_127 : decode k_Md_fill 127 = .ok (.bipush 6, 2) := by decide +kernel
theorem d_Md_fill_129 : decode k_Md_fill 129 = .ok (.if_icmp .ne 27, 3) := by decide +kernel
theorem d_Md_fill_132 : decode k_Md_fill 132 = .ok (.aload_n 0, 1) := by decide +kernel
theorem d_Md_fill_133 : decode k_Md_fill 133 = .ok (.getfield 129, 3) := by decide +kernel
theorem d_Md_fill_136 : decode k_Md_fill 136 = .ok (.bipush 22, 2) := by decide +kernel
theorem d_Md_fill_138 : decode k_Md_fill 138 = .ok (.iload_n 3, 1) := by decide +kernel
theorem d_Md_fill_139 : decode k_Md_fill 139 = .ok (.imul, 1) := by decide +kernel
theorem d_Md_fill_140 : decode k_Md_fill 140 = .ok (.bipush 20, 2) := by decide +kernel
theorem d_Md_fill_142 : decode k_Md_fill 142 = .ok (.iadd, 1) := by decide +kernel
theorem d_Md_fill_143 : decode k_Md_fill 143 = .ok (.iaload, 1) := by decide +kernel
theorem d_Md_fill_144 : decode k_Md_fill 144 = .ok (.ifCond .lt 12, 3) := by decide +kernel
theorem d_Md_fill_147 : decode k_Md_fill 147 = .ok (.aload_n 0, 1) := by decide +kernel
theorem d_Md_fill_148 : decode k_Md_fill 148 = .ok (.getfield 95, 3) := by decide +kernel
theorem d_Md_fill_151 : decode k_Md_fill 151 = .ok (.iload_n 1, 1) := by decide +kernel
theorem d_Md_fill_152 : decode k_Md_fill 152 = .ok (.iaload, 1) := by decide +kernel
theorem d_Md_fill_153 : decode k_Md_fill 153 = .ok (.goto 4, 3) := by decide +kernel
theorem d_Md_fill_156 : decode k_Md_fill 156 = .ok (.iconst (-1), 1) := by decide +kernel
theorem d_Md_fill_157 : decode k_Md_fill 157 = .ok (.istore 5, 2) := by decide +kernel
theorem d_Md_fill_159 : decode k_Md_fill 159 = .ok (.iload 5, 2) := by decide +kernel
theorem d_Md_fill_161 : decode k_Md_fill 161 = .ok (.ifCond .lt 25, 3) := by decide +kernel
theorem d_Md_fill_164 : decode k_Md_fill 164 = .ok (.aload_n 0, 1) := by decide +kernel
theorem d_Md_fill_165 : decode k_Md_fill 165 = .ok (.iload 5, 2) := by decide +kernel
theorem d_Md_fill_167 : decode k_Md_fill 167 = .ok (.sipush 160, 3) := by decide +kernel
theorem d_Md_fill_170 : decode k_Md_fill 170 = .ok (.isub, 1) := by decide +kernel
theorem d_Md_fill_171 : decode k_Md_fill 171 = .ok (.invokevirtual 288, 3) := by decide +kernel
theorem d_Md_fill_174 : decode k_Md_fill 174 = .ok (.aload_n 0, 1) := by decide +kernel
theorem d_Md_fill_175 : decode k_Md_fill 175 = .ok (.getfield 98, 3) := by decide +kernel
theorem d_Md_fill_178 : decode k_Md_fill 178 = .ok (.iload 5, 2) := by decide +kernel
theorem d_Md_fill_180 : decode k_Md_fill 180 = .ok (.iaload, 1) := by decide +kernel
theorem d_Md_fill_181 : decode k_Md_fill 181 = .ok (.istore 5, 2) := by decide +kernel
theorem d_Md_fill_183 : decode k_Md_fill 183 = .ok (.goto (-24), 3) := by decide +kernel
theorem d_Md_fill_186 : decode k_Md_fill 186 = .ok (.aload_n 0, 1) := by decide +kernel
theorem d_Md_fill_187 : decode k_Md_fill 187 = .ok (.getfield 159, 3) := by decide +kernel
theorem d_Md_fill_190 : decode k_Md_fill 190 = .ok (.iload_n 3, 1) := by decide +kernel
theorem d_Md_fill_191 : decode k_Md_fill 191 = .ok (.aload_n 0, 1) := by decide +kernel
theorem d_Md_fill_192 : decode k_Md_fill 192 = .ok (.getfield 277, 3) := by decide +kernel
theorem d_Md_fill_195 : decode k_Md_fill 195 = .ok (.lastore, 1) := by decide +kernel
theorem d_Md_fill_196 : decode k_Md_fill 196 = .ok (.aload_n 0, 1) := by decide +kernel
theorem d_Md_fill_197 : decode k_Md_fill 197 = .ok (.getfield 162, 3) := by decide +kernel
theorem d_Md_fill_200 : decode k_Md_fill 200 = .ok (.iload_n 3, 1) := by decide +kernel
theorem d_Md_fill_201 : decode k_Md_fill 201 = .ok (.aload_n 0, 1) := by decide +kernel
theorem d_Md_fill_202 : decode k_Md_fill 202 = .ok (.getfield 281, 3) := by decide +kernel
theorem d_Md_fill_205 : decode k_Md_fill 205 = .ok (.lastore, 1) := by decide +kernel
theorem d_Md_fill_206 : decode k_Md_fill 206 = .ok (.aload_n 0, 1) := by decide +kernel
theorem d_Md_fill_207 : decode k_Md_fill 207 = .ok (.aload_n 0, 1) := by decide +kernel
theorem d_Md_fill_208 : decode k_Md_fill 208 = .ok (.getfield 147, 3) := by decide +kernel
theorem d_Md_fill_211 : decode k_Md_fill 211 = .ok (.iload_n 3, 1) := by decide +kernel
theorem d_Md_fill_212 : decode k_Md_fill 212 = .ok (.laload, 1) := by decide +kernel
theorem d_Md_fill_213 : decode k_Md_fill 213 = .ok (.putfield 277, 3) := by decide +kernel
theorem d_Md_fill_216 : decode k_Md_fill 216 = .ok (.aload_n 0, 1) := by decide +kernel
theorem d_Md_fill_217 : decode k_Md_fill 217 = .ok (.aload_n 0, 1) := by decide +kernel
theorem d_Md_fill_218 : decode k_Md_fill 218 = .ok (.getfield 150, 3) := by decide +kernel
theorem d_Md_fill_221 : decode k_Md_fill 221 = .ok (.iload_n 3, 1) := by decide +kernel
theorem d_Md_fill_222 : decode k_Md_fill 222 = .ok (.laload, 1) := by decide +kernel
theorem d_Md_fill_223 : decode k_Md_fill 223 = .ok (.putfield 281, 3) := by decide +kernel
theorem d_Md_fill_226 : decode k_Md_fill 226 = .ok (.iload 4, 2) := by decide +kernel
theorem d_Md_fill_228 : decode k_Md_fill 228 = .ok (.ifCond .eq 12, 3) := by decide +kernel
theorem d_Md_fill_231 : decode k_Md_fill 231 = .ok (.aload_n 0, 1) := by decide +kernel
theorem d_Md_fill_232 : decode k_Md_fill 232 = .ok (.iload_n 1, 1) := by decide +kernel
theorem d_Md_fill_233 : decode k_Md_fill 233 = .ok (.sipush 160, 3) := by decide +kernel
theorem d_Md_fill_236 : decode k_Md_fill 236 = .ok (.isub, 1) := by decide +kernel
theorem d_Md_fill_237 : decode k_Md_fill 237 = .ok (.invokevirtual 288, 3) := by decide +kernel
theorem d_Md_fill_240 : decode k_Md_fill 240 = .ok (.aload_n 0, 1) := by decide +kernel
theorem d_Md_fill_241 : decode k_Md_fill 241 = .ok (.getfield 147, 3) := by decide +kernel
theorem d_Md_fill_244 : decode k_Md_fill 244 = .ok (.iload_n 3, 1) := by decide +kernel
theorem d_Md_fill_245 : decode k_Md_fill 245 = .ok (.aload_n 0, 1) := by decide +kernel
theorem d_Md_fill_246 : decode k_Md_fill 246 = .ok (.getfield 277, 3) := by decide +kernel
theorem d_Md_fill_249 : decode k_Md_fill 249 = .ok (.lastore, 1) := by decide +kernel
theorem d_Md_fill_250 : decode k_Md_fill 250 = .ok (.aload_n 0, 1) := by decide +kernel
theorem d_Md_fill_251 : decode k_Md_fill 251 = .ok (.getfield 150, 3) := by decide +kernel
theorem d_Md_fill_254 : decode k_Md_fill 254 = .ok (.iload_n 3, 1) := by decide +kernel
theorem d_Md_fill_255 : decode k_Md_fill 255 = .ok (.aload_n 0, 1) := by decide +kernel
theorem d_Md_fill_256 : decode k_Md_fill 256 = .ok (.getfield 281, 3) := by decide +kernel
theorem d_Md_fill_259 : decode k_Md_fill 259 = .ok (.lastore, 1) := by decide +kernel
theorem d_Md_fill_260 : decode k_Md_fill 260 = .ok (.iinc 2 1, 3) := by decide +kernel
theorem d_Md_fill_263 : decode k_Md_fill 263 = .ok (.goto (-261), 3) := by decide +kernel
theorem d_Md_fill_266 : decode k_Md_fill 266 = .ok (.return_, 1) := by decide +kernel
theorem gw1384 : (Jvm.Cond.methodLink "SchemaDeskModel" (342 : Nat) ({ cls := "SchemaDeskModel", name := "evaluate", desc := "(II)V" } : Jvm.MethodName)) ∈ GW := gw_t6 (List.mem_of_getElem? (i := 184) rfl) rfl
theorem gw1386 : (Jvm.Cond.instanceMethod ({ cls := "SchemaDeskModel", name := "evaluate", desc := "(II)V" } : Jvm.MethodName)) ∈ GW := gw_t6 (List.mem_of_getElem? (i := 186) rfl) rfl
theorem gs73 : Cond.selects "SchemaDeskModel" ⟨"SchemaDeskModel", "evaluate", "(II)V"⟩ ⟨"SchemaDeskModel", "evaluate", "(II)V"⟩ ∈ GW := gw_p5 (q := (⟨"SchemaDeskModel", "evaluate", "(II)V"⟩, 46)) (List.mem_of_getElem? (i := 9) rfl)
theorem gw1387 : (Jvm.Cond.code ({ cls := "SchemaDeskModel", name := "evaluate", desc := "(II)V" } : Jvm.MethodName) prog_12_method_56_code (6 : Nat) (Option.none : Option Jvm.ClassFile.FieldType)) ∈ GW := gw_t6 (List.mem_of_getElem? (i := 187) rfl) rfl
theorem gw1400 : (Jvm.Cond.methodLink "SchemaDeskModel" (345 : Nat) ({ cls := "SchemaDeskModel", name := "says", desc := "(IIII)Z" } : Jvm.MethodName)) ∈ GW := gw_t6 (List.mem_of_getElem? (i := 200) rfl) rfl
theorem gw1402 : (Jvm.Cond.instanceMethod ({ cls := "SchemaDeskModel", name := "says", desc := "(IIII)Z" } : Jvm.MethodName)) ∈ GW := gw_t6 (List.mem_of_getElem? (i := 202) rfl) rfl
theorem gs77 : Cond.selects "SchemaDeskModel" ⟨"SchemaDeskModel", "says", "(IIII)Z"⟩ ⟨"SchemaDeskModel", "says", "(IIII)Z"⟩ ∈ GW := gw_p5 (q := (⟨"SchemaDeskModel", "says", "(IIII)Z"⟩, 46)) (List.mem_of_getElem? (i := 13) rfl)
theorem gw1403 : (Jvm.Cond.code ({ cls := "SchemaDeskModel", name := "says", desc := "(IIII)Z" } : Jvm.MethodName) prog_12_method_58_code (7 : Nat) (Option.some Jvm.ClassFile.FieldType.boolean)) ∈ GW := gw_t6 (List.mem_of_getElem? (i := 203) rfl) rfl
def wb_Md_fill_0 (F : Nat → Int32 → Int32 → Int32 → Int32 → Int32 → Sg → Prop) (post : Sg → Prop) (x1 : Int32) (σ : Sg) : Prop := F 1 x1 (0 : Int32) 0 0 0 σ
def wb_Md_fill_1 (F : Nat → Int32 → Int32 → Int32 → Int32 → Int32 → Sg → Prop) (post : Sg → Prop) (x1 : Int32) (x2 : Int32) (σ : Sg) : Prop := (((σ.1 54 28) ≤ x2 → post σ) ∧ (¬ (σ.1 54 28) ≤ x2 → (vp_in x2 160 ∧ (vp_in (σ.1 78 x2.toNatClampNeg) 240 ∧ (((σ.1 59 ((σ.1 78 x2.toNatClampNeg) : Int32).toNatClampNeg) = (1 : Int32) → F 2 x1 x2 (σ.1 78 x2.toNatClampNeg) (0 : Int32) 0 σ) ∧ (¬ (σ.1 59 ((σ.1 78 x2.toNatClampNeg) : Int32).toNatClampNeg) = (1 : Int32) → F 2 x1 x2 (σ.1 78 x2.toNatClampNeg) (1 : Int32) 0 σ))))))
def wb_Md_fill_2 (F : Nat → Int32 → Int32 → Int32 → Int32 → Int32 → Sg → Prop) (post : Sg → Prop) (x1 : Int32) (x2 : Int32) (x3 : Int32) (x4 : Int32) (σ : Sg) : Prop := (∀ σ1, σ1 = sl σ 54 38 (0 : Int64) → (∀ σ2, σ2 = sl σ1 54 39 (0 : Int64) → (vp_in x3 240 ∧ ((¬ (σ2.1 59 x3.toNatClampNeg) = (6 : Int32) → F 3 x1 x2 x3 x4 0 σ2) ∧ ((σ2.1 59 x3.toNatClampNeg) = (6 : Int32) → (wq_Md_evaluate x3 x1 σ2 (fun σ3 => F 4 x1 x2 x3 x4 (1 : Int32) σ3)))))))
def wb_Md_fill_3 (F : Nat → Int32 → Int32 → Int32 → Int32 → Int32 → Sg → Prop) (post : Sg → Prop) (x1 : Int32) (x2 : Int32) (x3 : Int32) (x4 : Int32) (σ : Sg) : Prop := (vp_in x3 160 ∧ (∀ σ1, σ1 = sl σ 86 x3.toNatClampNeg (σ.2.1 54 38) → (vp_in x3 160 ∧ (∀ σ2, σ2 = sl σ1 87 x3.toNatClampNeg (σ1.2.1 54 39) → (vp_in x3 160 ∧ (∀ σ3, σ3 = sl σ2 54 38 (σ2.2.1 82 x3.toNatClampNeg) → (vp_in x3 160 ∧ (∀ σ4, σ4 = sl σ3 54 39 (σ3.2.1 83 x3.toNatClampNeg) → ((x4 = 0 → F 6 x1 x2 x3 0 0 σ4) ∧ (¬ x4 = 0 → (wq_Md_add (x1 - (160 : Int32)) σ4 (fun σ5 => F 6 x1 x2 x3 0 0 σ5))))))))))))
def wb_Md_fill_4 (F : Nat → Int32 → Int32 → Int32 → Int32 → Int32 → Sg → Prop) (post : Sg → Prop) (x1 : Int32) (x2 : Int32) (x3 : Int32) (x4 : Int32) (x5 : Int32) (σ : Sg) : Prop := (((20 : Int32) < x5 → (vp_in x1 240 ∧ ((¬ (σ.1 59 x1.toNatClampNeg) = (6 : Int32) → F 5 x1 x2 x3 x4 (-1 : Int32) σ) ∧ ((σ.1 59 x1.toNatClampNeg) = (6 : Int32) → (vp_in (((22 : Int32) * x3) + (20 : Int32)) 3520 ∧ (((σ.1 76 ((((22 : Int32) * x3) + (20 : Int32)) : Int32).toNatClampNeg) < 0 → F 5 x1 x2 x3 x4 (-1 : Int32) σ) ∧ (¬ (σ.1 76 ((((22 : Int32) * x3) + (20 : Int32)) : Int32).toNatClampNeg) < 0 → (vp_in x1 240 ∧ F 5 x1 x2 x3 x4 (σ.1 65 x1.toNatClampNeg) σ)))))))) ∧ (¬ (20 : Int32) < x5 → (vp_in (((22 : Int32) * x3) + x5) 3520 ∧ ((x4 = 0 → F 4 x1 x2 x3 (0 : Int32) (x5 + 1) σ) ∧ (¬ x4 = 0 → (((σ.1 76 ((((22 : Int32) * x3) + x5) : Int32).toNatClampNeg) < 0 → F 4 x1 x2 x3 (1 : Int32) (x5 + 1) σ) ∧ (¬ (σ.1 76 ((((22 : Int32) * x3) + x5) : Int32).toNatClampNeg) < 0 → (wq_Md_says x3 x5 (σ.1 76 ((((22 : Int32) * x3) + x5) : Int32).toNatClampNeg) x1 σ (fun r1 σ1 => ((r1 = 0 → F 4 x1 x2 x3 (0 : Int32) (x5 + 1) σ1) ∧ (¬ r1 = 0 → F 4 x1 x2 x3 (1 : Int32) (x5 + 1) σ1)))))))))))
def wb_Md_fill_5 (F : Nat → Int32 → Int32 → Int32 → Int32 → Int32 → Sg → Prop) (post : Sg → Prop) (x1 : Int32) (x2 : Int32) (x3 : Int32) (x4 : Int32) (x5 : Int32) (σ : Sg) : Prop := ((x5 < 0 → F 3 x1 x2 x3 x4 0 σ) ∧ (¬ x5 < 0 → (wq_Md_add (x5 - (160 : Int32)) σ (fun σ1 => (vp_in x5 240 ∧ F 5 x1 x2 x3 x4 (σ1.1 66 x5.toNatClampNeg) σ1)))))
def wb_Md_fill_6 (F : Nat → Int32 → Int32 → Int32 → Int32 → Int32 → Sg → Prop) (post : Sg → Prop) (x1 : Int32) (x2 : Int32) (x3 : Int32) (σ : Sg) : Prop := (vp_in x3 160 ∧ (∀ σ1, σ1 = sl σ 82 x3.toNatClampNeg (σ.2.1 54 38) → (vp_in x3 160 ∧ (∀ σ2, σ2 = sl σ1 83 x3.toNatClampNeg (σ1.2.1 54 39) → F 1 x1 (x2 + 1) 0 0 0 σ2))))
def wp_Md_fill (post : Sg → Prop) : Nat → Nat → Int32 → Int32 → Int32 → Int32 → Int32 → Sg → Prop
  | 0, _, _, _, _, _, _, _ => False
  | n + 1, k, x1, x2, x3, x4, x5, σ => match k with
    | 0 => wb_Md_fill_0 (wp_Md_fill post n) post x1 σ
    | 1 => wb_Md_fill_1 (wp_Md_fill post n) post x1 x2 σ
    | 2 => wb_Md_fill_2 (wp_Md_fill post n) post x1 x2 x3 x4 σ
    | 3 => wb_Md_fill_3 (wp_Md_fill post n) post x1 x2 x3 x4 σ
    | 4 => wb_Md_fill_4 (wp_Md_fill post n) post x1 x2 x3 x4 x5 σ
    | 5 => wb_Md_fill_5 (wp_Md_fill post n) post x1 x2 x3 x4 x5 σ
    | 6 => wb_Md_fill_6 (wp_Md_fill post n) post x1 x2 x3 σ
    | _ => False
def wq_Md_fill (x1 : Int32) (σ : Sg) (post : Sg → Prop) : Prop := ∃ n, wp_Md_fill post n 0 x1 0 0 0 0 σ
def J_Md_fill_1 (p : Program) (l : Launch) (e : Env) (s : State) (m : MethodId) (args : Array Value) (below : List Frame) (meth : Method) (c : Code) (D : va_G) (g : Gm) (A : Nat → Prop) (post : Sg → Prop) (F : Nat → Int32 → Int32 → Int32 → Int32 → Int32 → Sg → Prop) : Prop := ∀ (x1 : Int32) (x2 : Int32) (σ : Sg) (H : Heap) (locs : List Loc) (ls : Array Slot), lv_has ls 7 [(0, .ref (g.1 54)), (1, .int x1), (2, .int x2)] → Wst D vwCl (WS g) A s σ H locs → F 1 x1 x2 0 0 0 σ → W p l e { frames := 6, cells := 0, slots := 0, locals := 152 } s m args below meth c H locs 0 0 (MQ below (QvW D vwCl (WS g) post A) args s 0 0 A) (F0 m 2 ls [])
def J_Md_fill_2 (p : Program) (l : Launch) (e : Env) (s : State) (m : MethodId) (args : Array Value) (below : List Frame) (meth : Method) (c : Code) (D : va_G) (g : Gm) (A : Nat → Prop) (post : Sg → Prop) (F : Nat → Int32 → Int32 → Int32 → Int32 → Int32 → Sg → Prop) : Prop := ∀ (x1 : Int32) (x2 : Int32) (x3 : Int32) (x4 : Int32) (σ : Sg) (H : Heap) (locs : List Loc) (ls : Array Slot), lv_has ls 7 [(0, .ref (g.1 54)), (1, .int x1), (2, .int x2), (3, .int x3), (4, .int x4)] → Wst D vwCl (WS g) A s σ H locs → F 2 x1 x2 x3 x4 0 σ → W p l e { frames := 6, cells := 0, slots := 0, locals := 152 } s m args below meth c H locs 0 0 (MQ below (QvW D vwCl (WS g) post A) args s 0 0 A) (F0 m 34 ls [])
def J_Md_fill_3 (p : Program) (l : Launch) (e : Env) (s : State) (m : MethodId) (args : Array Value) (below : List Frame) (meth : Method) (c : Code) (D : va_G) (g : Gm) (A : Nat → Prop) (post : Sg → Prop) (F : Nat → Int32 → Int32 → Int32 → Int32 → Int32 → Sg → Prop) : Prop := ∀ (x1 : Int32) (x2 : Int32) (x3 : Int32) (x4 : Int32) (σ : Sg) (H : Heap) (locs : List Loc) (ls : Array Slot), lv_has ls 7 [(0, .ref (g.1 54)), (1, .int x1), (2, .int x2), (3, .int x3), (4, .int x4)] → Wst D vwCl (WS g) A s σ H locs → F 3 x1 x2 x3 x4 0 σ → W p l e { frames := 6, cells := 0, slots := 0, locals := 152 } s m args below meth c H locs 0 0 (MQ below (QvW D vwCl (WS g) post A) args s 0 0 A) (F0 m 186 ls [])
def J_Md_fill_4 (p : Program) (l : Launch) (e : Env) (s : State) (m : MethodId) (args : Array Value) (below : List Frame) (meth : Method) (c : Code) (D : va_G) (g : Gm) (A : Nat → Prop) (post : Sg → Prop) (F : Nat → Int32 → Int32 → Int32 → Int32 → Int32 → Sg → Prop) : Prop := ∀ (x1 : Int32) (x2 : Int32) (x3 : Int32) (x4 : Int32) (x5 : Int32) (σ : Sg) (H : Heap) (locs : List Loc) (ls : Array Slot), lv_has ls 7 [(0, .ref (g.1 54)), (1, .int x1), (2, .int x2), (3, .int x3), (4, .int x4), (5, .int x5)] → Wst D vwCl (WS g) A s σ H locs → F 4 x1 x2 x3 x4 x5 σ → W p l e { frames := 6, cells := 0, slots := 0, locals := 152 } s m args below meth c H locs 0 0 (MQ below (QvW D vwCl (WS g) post A) args s 0 0 A) (F0 m 64 ls [])
def J_Md_fill_5 (p : Program) (l : Launch) (e : Env) (s : State) (m : MethodId) (args : Array Value) (below : List Frame) (meth : Method) (c : Code) (D : va_G) (g : Gm) (A : Nat → Prop) (post : Sg → Prop) (F : Nat → Int32 → Int32 → Int32 → Int32 → Int32 → Sg → Prop) : Prop := ∀ (x1 : Int32) (x2 : Int32) (x3 : Int32) (x4 : Int32) (x5 : Int32) (σ : Sg) (H : Heap) (locs : List Loc) (ls : Array Slot), lv_has ls 7 [(0, .ref (g.1 54)), (1, .int x1), (2, .int x2), (3, .int x3), (4, .int x4), (5, .int x5)] → Wst D vwCl (WS g) A s σ H locs → F 5 x1 x2 x3 x4 x5 σ → W p l e { frames := 6, cells := 0, slots := 0, locals := 152 } s m args below meth c H locs 0 0 (MQ below (QvW D vwCl (WS g) post A) args s 0 0 A) (F0 m 159 ls [])
def J_Md_fill_6 (p : Program) (l : Launch) (e : Env) (s : State) (m : MethodId) (args : Array Value) (below : List Frame) (meth : Method) (c : Code) (D : va_G) (g : Gm) (A : Nat → Prop) (post : Sg → Prop) (F : Nat → Int32 → Int32 → Int32 → Int32 → Int32 → Sg → Prop) : Prop := ∀ (x1 : Int32) (x2 : Int32) (x3 : Int32) (σ : Sg) (H : Heap) (locs : List Loc) (ls : Array Slot), lv_has ls 7 [(0, .ref (g.1 54)), (1, .int x1), (2, .int x2), (3, .int x3)] → Wst D vwCl (WS g) A s σ H locs → F 6 x1 x2 x3 0 0 σ → W p l e { frames := 6, cells := 0, slots := 0, locals := 152 } s m args below meth c H locs 0 0 (MQ below (QvW D vwCl (WS g) post A) args s 0 0 A) (F0 m 240 ls [])
set_option maxRecDepth 100000 in
set_option maxHeartbeats 4000000 in
theorem b_Md_fill_0 {p : Program} {l : Launch} {e : Env} {s : State} {m : MethodId} {args : Array Value} {below : List Frame} {meth : Method} {c : Code} {D : va_G} {g : Gm} {A : Nat → Prop} {post : Sg → Prop} {F : Nat → Int32 → Int32 → Int32 → Int32 → Int32 → Sg → Prop} (C : kC p s m args meth c k_Md_fill 7 (none) GW R_Md D vwCl g (Zk g) A) (j1 : J_Md_fill_1 p l e s m args below meth c D g A post F) (x1 : Int32) (σ : Sg) (H : Heap) (locs : List Loc) (ls : Array Slot) (hl : lv_has ls 7 [(0, .ref (g.1 54)), (1, .int x1)]) (hst : Wst D vwCl (WS g) A s σ H locs) (h : wb_Md_fill_0 F post x1 σ) : W p l e { frames := 6, cells := 0, slots := 0, locals := 152 } s m args below meth c H locs 0 0 (MQ below (QvW D vwCl (WS g) post A) args s 0 0 A) (F0 m 0 ls []) := by
  obtain ⟨hx, hb, hr, hml, hown, hts, hlocks, hK, hZ, hA⟩ := C
  unfold wb_Md_fill_0 at h
  refine lv_iconst (v := (0 : Int32)) hx hb d_Md_fill_0 (by decide) ?_
  refine lv_istore_n hx hb d_Md_fill_1 rfl hl (by decide) rfl (fun ls hl => ?_)
  have hl : lv_has ls 7 [(2, .int (0 : Int32)), (0, .ref (g.1 54)), (1, .int x1)] := hl
  exact j1 x1 (0 : Int32) σ _ _ _ (lv_sub hl [1, 2, 0] rfl) hst h
set_option maxRecDepth 100000 in
set_option maxHeartbeats 4000000 in
theorem b_Md_fill_1 {p : Program} {l : Launch} {e : Env} {s : State} {m : MethodId} {args : Array Value} {below : List Frame} {meth : Method} {c : Code} {D : va_G} {g : Gm} {A : Nat → Prop} {post : Sg → Prop} {F : Nat → Int32 → Int32 → Int32 → Int32 → Int32 → Sg → Prop} (C : kC p s m args meth c k_Md_fill 7 (none) GW R_Md D vwCl g (Zk g) A) (j2 : J_Md_fill_2 p l e s m args below meth c D g A post F) (x1 : Int32) (x2 : Int32) (σ : Sg) (H : Heap) (locs : List Loc) (ls : Array Slot) (hl : lv_has ls 7 [(0, .ref (g.1 54)), (1, .int x1), (2, .int x2)]) (hst : Wst D vwCl (WS g) A s σ H locs) (h : wb_Md_fill_1 F post x1 x2 σ) : W p l e { frames := 6, cells := 0, slots := 0, locals := 152 } s m args below meth c H locs 0 0 (MQ below (QvW D vwCl (WS g) post A) args s 0 0 A) (F0 m 2 ls []) := by
  obtain ⟨hx, hb, hr, hml, hown, hts, hlocks, hK, hZ, hA⟩ := C
  unfold wb_Md_fill_1 at h
  refine lv_iload_n hx hb d_Md_fill_2 rfl (lv_at hl 2 rfl) ?_
  refine lv_aload_n hx hb d_Md_fill_3 rfl (lv_at hl 0 rfl) ?_
  refine va_get (D := D) (ci := 10) (C := R_Md) (T := T_Md) (N := 46) hx hb hts in_Md hown hK hst.1 54 (WS_o54 g σ) rfl 28 (by decide) (hts _ gw1092) (fun _ h9 => h9) rfl d_Md_fill_4 ?_
  refine lv_icmp_ge (tgt := 266) hx hb d_Md_fill_7 (by decide) (fun hc => ?_) (fun hc => ?_)
  · replace h := h.1 hc
    exact kw_vret hx hb hr hlocks hst h d_Md_fill_266
  · replace h := h.2 hc
    refine lv_aload_n hx hb d_Md_fill_10 rfl (lv_at hl 0 rfl) ?_
    refine va_get (D := D) (ci := 10) (C := R_Md) (T := T_Md) (N := 46) hx hb hts in_Md hown hK hst.1 54 (WS_o54 g σ) rfl 27 (by decide) (hts _ gw1091) (fun _ h9 => h9) rfl d_Md_fill_11 ?_
    refine lv_iload_n hx hb d_Md_fill_14 rfl (lv_at hl 2 rfl) ?_
    obtain ⟨hi, h⟩ := h
    refine va_iald hx hb hK hst.1 78 0 (WS_a78 g σ) rfl hi d_Md_fill_15 ?_
    refine lv_istore_n hx hb d_Md_fill_16 rfl hl (by decide) rfl (fun ls hl => ?_)
    have hl : lv_has ls 7 [(3, .int (σ.1 78 x2.toNatClampNeg)), (0, .ref (g.1 54)), (1, .int x1), (2, .int x2)] := hl
    refine lv_aload_n hx hb d_Md_fill_17 rfl (lv_at hl 1 rfl) ?_
    refine va_get (D := D) (ci := 10) (C := R_Md) (T := T_Md) (N := 46) hx hb hts in_Md hown hK hst.1 54 (WS_o54 g σ) rfl 5 (by decide) (hts _ gw1069) (fun _ h9 => h9) rfl d_Md_fill_18 ?_
    refine lv_iload_n hx hb d_Md_fill_21 rfl (lv_at hl 0 rfl) ?_
    obtain ⟨hi, h⟩ := h
    refine va_iald hx hb hK hst.1 59 0 (WS_a59 g σ) rfl hi d_Md_fill_22 ?_
    refine lv_iconst (v := (1 : Int32)) hx hb d_Md_fill_23 (by decide) ?_
    refine lv_icmp_eq (tgt := 31) hx hb d_Md_fill_24 (by decide) (fun hc => ?_) (fun hc => ?_)
    · replace h := h.1 hc
      refine lv_iconst (v := (0 : Int32)) hx hb d_Md_fill_31 (by decide) ?_
      refine lv_istore hx hb d_Md_fill_32 hl (by decide) rfl (fun ls hl => ?_)
      have hl : lv_has ls 7 [(4, .int (0 : Int32)), (3, .int (σ.1 78 x2.toNatClampNeg)), (0, .ref (g.1 54)), (1, .int x1), (2, .int x2)] := hl
      exact j2 x1 x2 (σ.1 78 x2.toNatClampNeg) (0 : Int32) σ _ _ _ (lv_sub hl [2, 3, 4, 1, 0] rfl) hst h
    · replace h := h.2 hc
      refine lv_iconst (v := (1 : Int32)) hx hb d_Md_fill_27 (by decide) ?_
      refine lv_goto (tgt := 32) hx hb d_Md_fill_28 (by decide) ?_
      refine lv_istore hx hb d_Md_fill_32 hl (by decide) rfl (fun ls hl => ?_)
      have hl : lv_has ls 7 [(4, .int (1 : Int32)), (3, .int (σ.1 78 x2.toNatClampNeg)), (0, .ref (g.1 54)), (1, .int x1), (2, .int x2)] := hl
      exact j2 x1 x2 (σ.1 78 x2.toNatClampNeg) (1 : Int32) σ _ _ _ (lv_sub hl [2, 3, 4, 1, 0] rfl) hst h
set_option maxRecDepth 100000 in
set_option maxHeartbeats 4000000 in
theorem b_Md_fill_2 {p : Program} {l : Launch} {e : Env} {s : State} {m : MethodId} {args : Array Value} {below : List Frame} {meth : Method} {c : Code} {D : va_G} {g : Gm} {A : Nat → Prop} {post : Sg → Prop} {F : Nat → Int32 → Int32 → Int32 → Int32 → Int32 → Sg → Prop} (C : kC p s m args meth c k_Md_fill 7 (none) GW R_Md D vwCl g (Zk g) A) (j3 : J_Md_fill_3 p l e s m args below meth c D g A post F) (j4 : J_Md_fill_4 p l e s m args below meth c D g A post F) (x1 : Int32) (x2 : Int32) (x3 : Int32) (x4 : Int32) (σ : Sg) (H : Heap) (locs : List Loc) (ls : Array Slot) (hl : lv_has ls 7 [(0, .ref (g.1 54)), (1, .int x1), (2, .int x2), (3, .int x3), (4, .int x4)]) (hst : Wst D vwCl (WS g) A s σ H locs) (h : wb_Md_fill_2 F post x1 x2 x3 x4 σ) : W p l e { frames := 6, cells := 0, slots := 0, locals := 152 } s m args below meth c H locs 0 0 (MQ below (QvW D vwCl (WS g) post A) args s 0 0 A) (F0 m 34 ls []) := by
  obtain ⟨hx, hb, hr, hml, hown, hts, hlocks, hK, hZ, hA⟩ := C
  unfold wb_Md_fill_2 at h
  refine lv_aload_n hx hb d_Md_fill_34 rfl (lv_at hl 0 rfl) ?_
  refine lv_lconst (v := (0 : Int64)) hx hb d_Md_fill_35 (by decide) ?_
  refine kw_putl (D := D) (ci := 10) (ty := .long) (C := R_Md) (T := T_Md) (N := 46) hx hb hts in_Md ty_Md ty_Md_ok nm_Md hown hK hst 54 (WS_o54 g σ) rfl 38 (by decide) (hts _ gw1102) (fun _ h9 => h9) rfl (by decide +kernel) rfl rfl (Nat.le_of_ble_eq_true rfl) (WS_p54_38 g σ _) d_Md_fill_36 (fun σ1 H locs e1 hst => ?_)
  replace h := h σ1 e1
  refine lv_aload_n hx hb d_Md_fill_39 rfl (lv_at hl 0 rfl) ?_
  refine lv_lconst (v := (0 : Int64)) hx hb d_Md_fill_40 (by decide) ?_
  refine kw_putl (D := D) (ci := 10) (ty := .long) (C := R_Md) (T := T_Md) (N := 46) hx hb hts in_Md ty_Md ty_Md_ok nm_Md hown hK hst 54 (WS_o54 g σ1) rfl 39 (by decide) (hts _ gw1103) (fun _ h9 => h9) rfl (by decide +kernel) rfl rfl (Nat.le_of_ble_eq_true rfl) (WS_p54_39 g σ1 _) d_Md_fill_41 (fun σ2 H locs e2 hst => ?_)
  replace h := h σ2 e2
  refine lv_aload_n hx hb d_Md_fill_44 rfl (lv_at hl 0 rfl) ?_
  refine va_get (D := D) (ci := 10) (C := R_Md) (T := T_Md) (N := 46) hx hb hts in_Md hown hK hst.1 54 (WS_o54 g σ2) rfl 5 (by decide) (hts _ gw1069) (fun _ h9 => h9) rfl d_Md_fill_45 ?_
  refine lv_iload_n hx hb d_Md_fill_48 rfl (lv_at hl 3 rfl) ?_
  obtain ⟨hi, h⟩ := h
  refine va_iald hx hb hK hst.1 59 0 (WS_a59 g σ2) rfl hi d_Md_fill_49 ?_
  refine lv_bipush (v := (6 : Int32)) hx hb d_Md_fill_50 (by decide) ?_
  refine lv_icmp_ne (tgt := 186) hx hb d_Md_fill_52 (by decide) (fun hc => ?_) (fun hc => ?_)
  · replace h := h.1 hc
    exact j3 x1 x2 x3 x4 σ2 _ _ _ (lv_sub hl [0, 1, 2, 3, 4] rfl) hst h
  · replace h := h.2 hc
    refine lv_aload_n hx hb d_Md_fill_55 rfl (lv_at hl 0 rfl) ?_
    refine lv_iload_n hx hb d_Md_fill_56 rfl (lv_at hl 3 rfl) ?_
    refine lv_iload_n hx hb d_Md_fill_57 rfl (lv_at hl 1 rfl) ?_
    refine kw_callv (va_runV (As := [.int x3, .int x1]) (rest := []) (b := g.1 54) ⟨hx, hb, hml, hown, hts⟩ (c_Md_evaluate l x3 x1 h) (cwV 2 hts (gd_v gw1384 gw1386 gs73 gw15 gw1387) rfl rfl rfl (by decide +kernel) ⟨Nat.le_of_ble_eq_true rfl, Nat.le_of_ble_eq_true rfl⟩) ⟨kw_blind (Zk_ok g), va_recv hK hst.1 rfl (WS_o54 g σ2), kw_pre (Zk_ok g) hK hZ hA hst⟩ rfl rfl hl.1 rfl (lv_room (Nat.le_of_ble_eq_true rfl)) d_Md_fill_58 ⟨Nat.le_of_ble_eq_true rfl, Nat.le_of_ble_eq_true rfl⟩) hst hA (fun σ3 H locs h hst => ?_)
    refine lv_iconst (v := (1 : Int32)) hx hb d_Md_fill_61 (by decide) ?_
    refine lv_istore hx hb d_Md_fill_62 hl (by decide) rfl (fun ls hl => ?_)
    have hl : lv_has ls 7 [(5, .int (1 : Int32)), (0, .ref (g.1 54)), (1, .int x1), (2, .int x2), (3, .int x3), (4, .int x4)] := hl
    exact j4 x1 x2 x3 x4 (1 : Int32) σ3 _ _ _ (lv_sub hl [1, 2, 3, 4, 5, 0] rfl) hst h
set_option maxRecDepth 100000 in
set_option maxHeartbeats 4000000 in
theorem b_Md_fill_3 {p : Program} {l : Launch} {e : Env} {s : State} {m : MethodId} {args : Array Value} {below : List Frame} {meth : Method} {c : Code} {D : va_G} {g : Gm} {A : Nat → Prop} {post : Sg → Prop} {F : Nat → Int32 → Int32 → Int32 → Int32 → Int32 → Sg → Prop} (C : kC p s m args meth c k_Md_fill 7 (none) GW R_Md D vwCl g (Zk g) A) (j6 : J_Md_fill_6 p l e s m args below meth c D g A post F) (x1 : Int32) (x2 : Int32) (x3 : Int32) (x4 : Int32) (σ : Sg) (H : Heap) (locs : List Loc) (ls : Array Slot) (hl : lv_has ls 7 [(0, .ref (g.1 54)), (1, .int x1), (2, .int x2), (3, .int x3), (4, .int x4)]) (hst : Wst D vwCl (WS g) A s σ H locs) (h : wb_Md_fill_3 F post x1 x2 x3 x4 σ) : W p l e { frames := 6, cells := 0, slots := 0, locals := 152 } s m args below meth c H locs 0 0 (MQ below (QvW D vwCl (WS g) post A) args s 0 0 A) (F0 m 186 ls []) := by
  obtain ⟨hx, hb, hr, hml, hown, hts, hlocks, hK, hZ, hA⟩ := C
  unfold wb_Md_fill_3 at h
  refine lv_aload_n hx hb d_Md_fill_186 rfl (lv_at hl 0 rfl) ?_
  refine va_get (D := D) (ci := 10) (C := R_Md) (T := T_Md) (N := 46) hx hb hts in_Md hown hK hst.1 54 (WS_o54 g σ) rfl 36 (by decide) (hts _ gw1100) (fun _ h9 => h9) rfl d_Md_fill_187 ?_
  refine lv_iload_n hx hb d_Md_fill_190 rfl (lv_at hl 3 rfl) ?_
  refine lv_aload_n hx hb d_Md_fill_191 rfl (lv_at hl 0 rfl) ?_
  refine va_get (D := D) (ci := 10) (C := R_Md) (T := T_Md) (N := 46) hx hb hts in_Md hown hK hst.1 54 (WS_o54 g σ) rfl 38 (by decide) (hts _ gw1102) (fun _ h9 => h9) rfl d_Md_fill_192 ?_
  obtain ⟨hi, h⟩ := h
  refine kw_last hx hb hK hst 86 (WS_a86 g σ) hi (WS_s86 g σ _ _) d_Md_fill_195 (fun σ1 H locs e1 hst => ?_)
  replace h := h σ1 e1
  refine lv_aload_n hx hb d_Md_fill_196 rfl (lv_at hl 0 rfl) ?_
  refine va_get (D := D) (ci := 10) (C := R_Md) (T := T_Md) (N := 46) hx hb hts in_Md hown hK hst.1 54 (WS_o54 g σ1) rfl 37 (by decide) (hts _ gw1101) (fun _ h9 => h9) rfl d_Md_fill_197 ?_
  refine lv_iload_n hx hb d_Md_fill_200 rfl (lv_at hl 3 rfl) ?_
  refine lv_aload_n hx hb d_Md_fill_201 rfl (lv_at hl 0 rfl) ?_
  refine va_get (D := D) (ci := 10) (C := R_Md) (T := T_Md) (N := 46) hx hb hts in_Md hown hK hst.1 54 (WS_o54 g σ1) rfl 39 (by decide) (hts _ gw1103) (fun _ h9 => h9) rfl d_Md_fill_202 ?_
  obtain ⟨hi, h⟩ := h
  refine kw_last hx hb hK hst 87 (WS_a87 g σ1) hi (WS_s87 g σ1 _ _) d_Md_fill_205 (fun σ2 H locs e2 hst => ?_)
  replace h := h σ2 e2
  refine lv_aload_n hx hb d_Md_fill_206 rfl (lv_at hl 0 rfl) ?_
  refine lv_aload_n hx hb d_Md_fill_207 rfl (lv_at hl 0 rfl) ?_
  refine va_get (D := D) (ci := 10) (C := R_Md) (T := T_Md) (N := 46) hx hb hts in_Md hown hK hst.1 54 (WS_o54 g σ2) rfl 32 (by decide) (hts _ gw1096) (fun _ h9 => h9) rfl d_Md_fill_208 ?_
  refine lv_iload_n hx hb d_Md_fill_211 rfl (lv_at hl 3 rfl) ?_
  obtain ⟨hi, h⟩ := h
  refine va_lald hx hb hK hst.1 82 3 (WS_a82 g σ2) rfl hi d_Md_fill_212 ?_
  refine kw_putl (D := D) (ci := 10) (ty := .long) (C := R_Md) (T := T_Md) (N := 46) hx hb hts in_Md ty_Md ty_Md_ok nm_Md hown hK hst 54 (WS_o54 g σ2) rfl 38 (by decide) (hts _ gw1102) (fun _ h9 => h9) rfl (by decide +kernel) rfl rfl (Nat.le_of_ble_eq_true rfl) (WS_p54_38 g σ2 _) d_Md_fill_213 (fun σ3 H locs e3 hst => ?_)
  replace h := h σ3 e3
  refine lv_aload_n hx hb d_Md_fill_216 rfl (lv_at hl 0 rfl) ?_
  refine lv_aload_n hx hb d_Md_fill_217 rfl (lv_at hl 0 rfl) ?_
  refine va_get (D := D) (ci := 10) (C := R_Md) (T := T_Md) (N := 46) hx hb hts in_Md hown hK hst.1 54 (WS_o54 g σ3) rfl 33 (by decide) (hts _ gw1097) (fun _ h9 => h9) rfl d_Md_fill_218 ?_
  refine lv_iload_n hx hb d_Md_fill_221 rfl (lv_at hl 3 rfl) ?_
  obtain ⟨hi, h⟩ := h
  refine va_lald hx hb hK hst.1 83 3 (WS_a83 g σ3) rfl hi d_Md_fill_222 ?_
  refine kw_putl (D := D) (ci := 10) (ty := .long) (C := R_Md) (T := T_Md) (N := 46) hx hb hts in_Md ty_Md ty_Md_ok nm_Md hown hK hst 54 (WS_o54 g σ3) rfl 39 (by decide) (hts _ gw1103) (fun _ h9 => h9) rfl (by decide +kernel) rfl rfl (Nat.le_of_ble_eq_true rfl) (WS_p54_39 g σ3 _) d_Md_fill_223 (fun σ4 H locs e4 hst => ?_)
  replace h := h σ4 e4
  refine lv_iload hx hb d_Md_fill_226 (lv_at hl 4 rfl) ?_
  refine lv_if_eq (tgt := 240) hx hb d_Md_fill_228 (by decide) (fun hc => ?_) (fun hc => ?_)
  · replace h := h.1 hc
    exact j6 x1 x2 x3 σ4 _ _ _ (lv_sub hl [0, 1, 2, 3] rfl) hst h
  · replace h := h.2 hc
    refine lv_aload_n hx hb d_Md_fill_231 rfl (lv_at hl 0 rfl) ?_
    refine lv_iload_n hx hb d_Md_fill_232 rfl (lv_at hl 1 rfl) ?_
    refine lv_sipush (v := (160 : Int32)) hx hb d_Md_fill_233 (by decide) ?_
    refine lv_isub hx hb d_Md_fill_236 ?_
    refine kw_callv (va_runV (As := [.int (x1 - (160 : Int32))]) (rest := []) (b := g.1 54) ⟨hx, hb, hml, hown, hts⟩ (c_Md_add l (x1 - (160 : Int32)) h) (cwV 1 hts (gd_v gw1376 gw1378 gs71 gw15 gw1379) rfl rfl rfl (by decide +kernel) ⟨Nat.le_of_ble_eq_true rfl, Nat.le_of_ble_eq_true rfl⟩) ⟨kw_blind (Zk_ok g), va_recv hK hst.1 rfl (WS_o54 g σ4), kw_pre (Zk_ok g) hK hZ hA hst⟩ rfl rfl hl.1 rfl (lv_room (Nat.le_of_ble_eq_true rfl)) d_Md_fill_237 ⟨Nat.le_of_ble_eq_true rfl, Nat.le_of_ble_eq_true rfl⟩) hst hA (fun σ5 H locs h hst => ?_)
    exact j6 x1 x2 x3 σ5 _ _ _ (lv_sub hl [0, 1, 2, 3] rfl) hst h
set_option maxRecDepth 100000 in
set_option maxHeartbeats 4000000 in
theorem b_Md_fill_4 {p : Program} {l : Launch} {e : Env} {s : State} {m : MethodId} {args : Array Value} {below : List Frame} {meth : Method} {c : Code} {D : va_G} {g : Gm} {A : Nat → Prop} {post : Sg → Prop} {F : Nat → Int32 → Int32 → Int32 → Int32 → Int32 → Sg → Prop} (C : kC p s m args meth c k_Md_fill 7 (none) GW R_Md D vwCl g (Zk g) A) (j4 : J_Md_fill_4 p l e s m args below meth c D g A post F) (j5 : J_Md_fill_5 p l e s m args below meth c D g A post F) (x1 : Int32) (x2 : Int32) (x3 : Int32) (x4 : Int32) (x5 : Int32) (σ : Sg) (H : Heap) (locs : List Loc) (ls : Array Slot) (hl : lv_has ls 7 [(0, .ref (g.1 54)), (1, .int x1), (2, .int x2), (3, .int x3), (4, .int x4), (5, .int x5)]) (hst : Wst D vwCl (WS g) A s σ H locs) (h : wb_Md_fill_4 F post x1 x2 x3 x4 x5 σ) : W p l e { frames := 6, cells := 0, slots := 0, locals := 152 } s m args below meth c H locs 0 0 (MQ below (QvW D vwCl (WS g) post A) args s 0 0 A) (F0 m 64 ls []) := by
  obtain ⟨hx, hb, hr, hml, hown, hts, hlocks, hK, hZ, hA⟩ := C
  unfold wb_Md_fill_4 at h
  refine lv_iload hx hb d_Md_fill_64 (lv_at hl 5 rfl) ?_
  refine lv_bipush (v := (20 : Int32)) hx hb d_Md_fill_66 (by decide) ?_
  refine lv_icmp_gt (tgt := 121) hx hb d_Md_fill_68 (by decide) (fun hc => ?_) (fun hc => ?_)
  · replace h := h.1 hc
    refine lv_aload_n hx hb d_Md_fill_121 rfl (lv_at hl 0 rfl) ?_
    refine va_get (D := D) (ci := 10) (C := R_Md) (T := T_Md) (N := 46) hx hb hts in_Md hown hK hst.1 54 (WS_o54 g σ) rfl 5 (by decide) (hts _ gw1069) (fun _ h9 => h9) rfl d_Md_fill_122 ?_
    refine lv_iload_n hx hb d_Md_fill_125 rfl (lv_at hl 1 rfl) ?_
    obtain ⟨hi, h⟩ := h
    refine va_iald hx hb hK hst.1 59 0 (WS_a59 g σ) rfl hi d_Md_fill_126 ?_
    refine lv_bipush (v := (6 : Int32)) hx hb d_Md_fill_127 (by decide) ?_
    refine lv_icmp_ne (tgt := 156) hx hb d_Md_fill_129 (by decide) (fun hc => ?_) (fun hc => ?_)
    · replace h := h.1 hc
      refine lv_iconst (v := (-1 : Int32)) hx hb d_Md_fill_156 (by decide) ?_
      refine lv_istore hx hb d_Md_fill_157 hl (by decide) rfl (fun ls hl => ?_)
      have hl : lv_has ls 7 [(5, .int (-1 : Int32)), (0, .ref (g.1 54)), (1, .int x1), (2, .int x2), (3, .int x3), (4, .int x4)] := hl
      exact j5 x1 x2 x3 x4 (-1 : Int32) σ _ _ _ (lv_sub hl [1, 2, 3, 4, 5, 0] rfl) hst h
    · replace h := h.2 hc
      refine lv_aload_n hx hb d_Md_fill_132 rfl (lv_at hl 0 rfl) ?_
      refine va_get (D := D) (ci := 10) (C := R_Md) (T := T_Md) (N := 46) hx hb hts in_Md hown hK hst.1 54 (WS_o54 g σ) rfl 25 (by decide) (hts _ gw1089) (fun _ h9 => h9) rfl d_Md_fill_133 ?_
      refine lv_bipush (v := (22 : Int32)) hx hb d_Md_fill_136 (by decide) ?_
      refine lv_iload_n hx hb d_Md_fill_138 rfl (lv_at hl 3 rfl) ?_
      refine lv_imul hx hb d_Md_fill_139 ?_
      refine lv_bipush (v := (20 : Int32)) hx hb d_Md_fill_140 (by decide) ?_
      refine lv_iadd hx hb d_Md_fill_142 ?_
      obtain ⟨hi, h⟩ := h
      refine va_iald hx hb hK hst.1 76 0 (WS_a76 g σ) rfl hi d_Md_fill_143 ?_
      refine lv_if_lt (tgt := 156) hx hb d_Md_fill_144 (by decide) (fun hc => ?_) (fun hc => ?_)
      · replace h := h.1 hc
        refine lv_iconst (v := (-1 : Int32)) hx hb d_Md_fill_156 (by decide) ?_
        refine lv_istore hx hb d_Md_fill_157 hl (by decide) rfl (fun ls hl => ?_)
        have hl : lv_has ls 7 [(5, .int (-1 : Int32)), (0, .ref (g.1 54)), (1, .int x1), (2, .int x2), (3, .int x3), (4, .int x4)] := hl
        exact j5 x1 x2 x3 x4 (-1 : Int32) σ _ _ _ (lv_sub hl [1, 2, 3, 4, 5, 0] rfl) hst h
      · replace h := h.2 hc
        refine lv_aload_n hx hb d_Md_fill_147 rfl (lv_at hl 0 rfl) ?_
        refine va_get (D := D) (ci := 10) (C := R_Md) (T := T_Md) (N := 46) hx hb hts in_Md hown hK hst.1 54 (WS_o54 g σ) rfl 11 (by decide) (hts _ gw1075) (fun _ h9 => h9) rfl d_Md_fill_148 ?_
        refine lv_iload_n hx hb d_Md_fill_151 rfl (lv_at hl 1 rfl) ?_
        obtain ⟨hi, h⟩ := h
        refine va_iald hx hb hK hst.1 65 0 (WS_a65 g σ) rfl hi d_Md_fill_152 ?_
        refine lv_goto (tgt := 157) hx hb d_Md_fill_153 (by decide) ?_
        refine lv_istore hx hb d_Md_fill_157 hl (by decide) rfl (fun ls hl => ?_)
        have hl : lv_has ls 7 [(5, .int (σ.1 65 x1.toNatClampNeg)), (0, .ref (g.1 54)), (1, .int x1), (2, .int x2), (3, .int x3), (4, .int x4)] := hl
        exact j5 x1 x2 x3 x4 (σ.1 65 x1.toNatClampNeg) σ _ _ _ (lv_sub hl [1, 2, 3, 4, 5, 0] rfl) hst h
  · replace h := h.2 hc
    refine lv_aload_n hx hb d_Md_fill_71 rfl (lv_at hl 0 rfl) ?_
    refine va_get (D := D) (ci := 10) (C := R_Md) (T := T_Md) (N := 46) hx hb hts in_Md hown hK hst.1 54 (WS_o54 g σ) rfl 25 (by decide) (hts _ gw1089) (fun _ h9 => h9) rfl d_Md_fill_72 ?_
    refine lv_bipush (v := (22 : Int32)) hx hb d_Md_fill_75 (by decide) ?_
    refine lv_iload_n hx hb d_Md_fill_77 rfl (lv_at hl 3 rfl) ?_
    refine lv_imul hx hb d_Md_fill_78 ?_
    refine lv_iload hx hb d_Md_fill_79 (lv_at hl 5 rfl) ?_
    refine lv_iadd hx hb d_Md_fill_81 ?_
    obtain ⟨hi, h⟩ := h
    refine va_iald hx hb hK hst.1 76 0 (WS_a76 g σ) rfl hi d_Md_fill_82 ?_
    refine lv_istore hx hb d_Md_fill_83 hl (by decide) rfl (fun ls hl => ?_)
    have hl : lv_has ls 7 [(6, .int (σ.1 76 ((((22 : Int32) * x3) + x5) : Int32).toNatClampNeg)), (0, .ref (g.1 54)), (1, .int x1), (2, .int x2), (3, .int x3), (4, .int x4), (5, .int x5)] := hl
    refine lv_iload hx hb d_Md_fill_85 (lv_at hl 5 rfl) ?_
    refine lv_if_eq (tgt := 112) hx hb d_Md_fill_87 (by decide) (fun hc => ?_) (fun hc => ?_)
    · replace h := h.1 hc
      refine lv_iconst (v := (0 : Int32)) hx hb d_Md_fill_112 (by decide) ?_
      refine lv_istore hx hb d_Md_fill_113 hl (by decide) rfl (fun ls hl => ?_)
      have hl : lv_has ls 7 [(4, .int (0 : Int32)), (6, .int (σ.1 76 ((((22 : Int32) * x3) + x5) : Int32).toNatClampNeg)), (0, .ref (g.1 54)), (1, .int x1), (2, .int x2), (3, .int x3), (5, .int x5)] := hl
      refine lv_iinc (k := 6) (v := (x5 + 1)) hx hb d_Md_fill_115 hl rfl (kw_inc _ (by decide)) (by decide) rfl (fun ls hl => ?_)
      have hl : lv_has ls 7 [(5, .int (x5 + 1)), (4, .int (0 : Int32)), (6, .int (σ.1 76 ((((22 : Int32) * x3) + x5) : Int32).toNatClampNeg)), (0, .ref (g.1 54)), (1, .int x1), (2, .int x2), (3, .int x3)] := hl
      refine lv_goto (tgt := 64) hx hb d_Md_fill_118 (by decide) ?_
      exact j4 x1 x2 x3 (0 : Int32) (x5 + 1) σ _ _ _ (lv_sub hl [3, 4, 5, 6, 1, 0] rfl) hst h
    · replace h := h.2 hc
      refine lv_iload hx hb d_Md_fill_90 (lv_at hl 0 rfl) ?_
      refine lv_if_lt (tgt := 108) hx hb d_Md_fill_92 (by decide) (fun hc => ?_) (fun hc => ?_)
      · replace h := h.1 hc
        refine lv_iconst (v := (1 : Int32)) hx hb d_Md_fill_108 (by decide) ?_
        refine lv_goto (tgt := 113) hx hb d_Md_fill_109 (by decide) ?_
        refine lv_istore hx hb d_Md_fill_113 hl (by decide) rfl (fun ls hl => ?_)
        have hl : lv_has ls 7 [(4, .int (1 : Int32)), (6, .int (σ.1 76 ((((22 : Int32) * x3) + x5) : Int32).toNatClampNeg)), (0, .ref (g.1 54)), (1, .int x1), (2, .int x2), (3, .int x3), (5, .int x5)] := hl
        refine lv_iinc (k := 6) (v := (x5 + 1)) hx hb d_Md_fill_115 hl rfl (kw_inc _ (by decide)) (by decide) rfl (fun ls hl => ?_)
        have hl : lv_has ls 7 [(5, .int (x5 + 1)), (4, .int (1 : Int32)), (6, .int (σ.1 76 ((((22 : Int32) * x3) + x5) : Int32).toNatClampNeg)), (0, .ref (g.1 54)), (1, .int x1), (2, .int x2), (3, .int x3)] := hl
        refine lv_goto (tgt := 64) hx hb d_Md_fill_118 (by decide) ?_
        exact j4 x1 x2 x3 (1 : Int32) (x5 + 1) σ _ _ _ (lv_sub hl [3, 4, 5, 6, 1, 0] rfl) hst h
      · replace h := h.2 hc
        refine lv_aload_n hx hb d_Md_fill_95 rfl (lv_at hl 1 rfl) ?_
        refine lv_iload_n hx hb d_Md_fill_96 rfl (lv_at hl 4 rfl) ?_
        refine lv_iload hx hb d_Md_fill_97 (lv_at hl 6 rfl) ?_
        refine lv_iload hx hb d_Md_fill_99 (lv_at hl 0 rfl) ?_
        refine lv_iload_n hx hb d_Md_fill_101 rfl (lv_at hl 2 rfl) ?_
        refine kw_calli (va_runV (As := [.int x3, .int x5, .int (σ.1 76 ((((22 : Int32) * x3) + x5) : Int32).toNatClampNeg), .int x1]) (rest := []) (b := g.1 54) ⟨hx, hb, hml, hown, hts⟩ (c_Md_says l x3 x5 (σ.1 76 ((((22 : Int32) * x3) + x5) : Int32).toNatClampNeg) x1 h) (cwV 4 hts (gd_v gw1400 gw1402 gs77 gw15 gw1403) rfl rfl rfl (by decide +kernel) ⟨Nat.le_of_ble_eq_true rfl, Nat.le_of_ble_eq_true rfl⟩) ⟨kw_blind (Zk_ok g), va_recv hK hst.1 rfl (WS_o54 g σ), kw_pre (Zk_ok g) hK hZ hA hst⟩ rfl rfl hl.1 rfl (lv_room (Nat.le_of_ble_eq_true rfl)) d_Md_fill_102 ⟨Nat.le_of_ble_eq_true rfl, Nat.le_of_ble_eq_true rfl⟩) hst hA (fun r1 σ1 H locs h hst => ?_)
        refine lv_if_eq (tgt := 112) hx hb d_Md_fill_105 (by decide) (fun hc => ?_) (fun hc => ?_)
        · replace h := h.1 hc
          refine lv_iconst (v := (0 : Int32)) hx hb d_Md_fill_112 (by decide) ?_
          refine lv_istore hx hb d_Md_fill_113 hl (by decide) rfl (fun ls hl => ?_)
          have hl : lv_has ls 7 [(4, .int (0 : Int32)), (6, .int (σ.1 76 ((((22 : Int32) * x3) + x5) : Int32).toNatClampNeg)), (0, .ref (g.1 54)), (1, .int x1), (2, .int x2), (3, .int x3), (5, .int x5)] := hl
          refine lv_iinc (k := 6) (v := (x5 + 1)) hx hb d_Md_fill_115 hl rfl (kw_inc _ (by decide)) (by decide) rfl (fun ls hl => ?_)
          have hl : lv_has ls 7 [(5, .int (x5 + 1)), (4, .int (0 : Int32)), (6, .int (σ.1 76 ((((22 : Int32) * x3) + x5) : Int32).toNatClampNeg)), (0, .ref (g.1 54)), (1, .int x1), (2, .int x2), (3, .int x3)] := hl
          refine lv_goto (tgt := 64) hx hb d_Md_fill_118 (by decide) ?_
          exact j4 x1 x2 x3 (0 : Int32) (x5 + 1) σ1 _ _ _ (lv_sub hl [3, 4, 5, 6, 1, 0] rfl) hst h
        · replace h := h.2 hc
          refine lv_iconst (v := (1 : Int32)) hx hb d_Md_fill_108 (by decide) ?_
          refine lv_goto (tgt := 113) hx hb d_Md_fill_109 (by decide) ?_
          refine lv_istore hx hb d_Md_fill_113 hl (by decide) rfl (fun ls hl => ?_)
          have hl : lv_has ls 7 [(4, .int (1 : Int32)), (6, .int (σ.1 76 ((((22 : Int32) * x3) + x5) : Int32).toNatClampNeg)), (0, .ref (g.1 54)), (1, .int x1), (2, .int x2), (3, .int x3), (5, .int x5)] := hl
          refine lv_iinc (k := 6) (v := (x5 + 1)) hx hb d_Md_fill_115 hl rfl (kw_inc _ (by decide)) (by decide) rfl (fun ls hl => ?_)
          have hl : lv_has ls 7 [(5, .int (x5 + 1)), (4, .int (1 : Int32)), (6, .int (σ.1 76 ((((22 : Int32) * x3) + x5) : Int32).toNatClampNeg)), (0, .ref (g.1 54)), (1, .int x1), (2, .int x2), (3, .int x3)] := hl
          refine lv_goto (tgt := 64) hx hb d_Md_fill_118 (by decide) ?_
          exact j4 x1 x2 x3 (1 : Int32) (x5 + 1) σ1 _ _ _ (lv_sub hl [3, 4, 5, 6, 1, 0] rfl) hst h
set_option maxRecDepth 100000 in
set_option maxHeartbeats 4000000 in
theorem b_Md_fill_5 {p : Program} {l : Launch} {e : Env} {s : State} {m : MethodId} {args : Array Value} {below : List Frame} {meth : Method} {c : Code} {D : va_G} {g : Gm} {A : Nat → Prop} {post : Sg → Prop} {F : Nat → Int32 → Int32 → Int32 → Int32 → Int32 → Sg → Prop} (C : kC p s m args meth c k_Md_fill 7 (none) GW R_Md D vwCl g (Zk g) A) (j3 : J_Md_fill_3 p l e s m args below meth c D g A post F) (j5 : J_Md_fill_5 p l e s m args below meth c D g A post F) (x1 : Int32) (x2 : Int32) (x3 : Int32) (x4 : Int32) (x5 : Int32) (σ : Sg) (H : Heap) (locs : List Loc) (ls : Array Slot) (hl : lv_has ls 7 [(0, .ref (g.1 54)), (1, .int x1), (2, .int x2), (3, .int x3), (4, .int x4), (5, .int x5)]) (hst : Wst D vwCl (WS g) A s σ H locs) (h : wb_Md_fill_5 F post x1 x2 x3 x4 x5 σ) : W p l e { frames := 6, cells := 0, slots := 0, locals := 152 } s m args below meth c H locs 0 0 (MQ below (QvW D vwCl (WS g) post A) args s 0 0 A) (F0 m 159 ls []) := by
  obtain ⟨hx, hb, hr, hml, hown, hts, hlocks, hK, hZ, hA⟩ := C
  unfold wb_Md_fill_5 at h
  refine lv_iload hx hb d_Md_fill_159 (lv_at hl 5 rfl) ?_
  refine lv_if_lt (tgt := 186) hx hb d_Md_fill_161 (by decide) (fun hc => ?_) (fun hc => ?_)
  · replace h := h.1 hc
    exact j3 x1 x2 x3 x4 σ _ _ _ (lv_sub hl [0, 1, 2, 3, 4] rfl) hst h
  · replace h := h.2 hc
    refine lv_aload_n hx hb d_Md_fill_164 rfl (lv_at hl 0 rfl) ?_
    refine lv_iload hx hb d_Md_fill_165 (lv_at hl 5 rfl) ?_
    refine lv_sipush (v := (160 : Int32)) hx hb d_Md_fill_167 (by decide) ?_
    refine lv_isub hx hb d_Md_fill_170 ?_
    refine kw_callv (va_runV (As := [.int (x5 - (160 : Int32))]) (rest := []) (b := g.1 54) ⟨hx, hb, hml, hown, hts⟩ (c_Md_add l (x5 - (160 : Int32)) h) (cwV 1 hts (gd_v gw1376 gw1378 gs71 gw15 gw1379) rfl rfl rfl (by decide +kernel) ⟨Nat.le_of_ble_eq_true rfl, Nat.le_of_ble_eq_true rfl⟩) ⟨kw_blind (Zk_ok g), va_recv hK hst.1 rfl (WS_o54 g σ), kw_pre (Zk_ok g) hK hZ hA hst⟩ rfl rfl hl.1 rfl (lv_room (Nat.le_of_ble_eq_true rfl)) d_Md_fill_171 ⟨Nat.le_of_ble_eq_true rfl, Nat.le_of_ble_eq_true rfl⟩) hst hA (fun σ1 H locs h hst => ?_)
    refine lv_aload_n hx hb d_Md_fill_174 rfl (lv_at hl 0 rfl) ?_
    refine va_get (D := D) (ci := 10) (C := R_Md) (T := T_Md) (N := 46) hx hb hts in_Md hown hK hst.1 54 (WS_o54 g σ1) rfl 12 (by decide) (hts _ gw1076) (fun _ h9 => h9) rfl d_Md_fill_175 ?_
    refine lv_iload hx hb d_Md_fill_178 (lv_at hl 5 rfl) ?_
    obtain ⟨hi, h⟩ := h
    refine va_iald hx hb hK hst.1 66 0 (WS_a66 g σ1) rfl hi d_Md_fill_180 ?_
    refine lv_istore hx hb d_Md_fill_181 hl (by decide) rfl (fun ls hl => ?_)
    have hl : lv_has ls 7 [(5, .int (σ1.1 66 x5.toNatClampNeg)), (0, .ref (g.1 54)), (1, .int x1), (2, .int x2), (3, .int x3), (4, .int x4)] := hl
    refine lv_goto (tgt := 159) hx hb d_Md_fill_183 (by decide) ?_
    exact j5 x1 x2 x3 x4 (σ1.1 66 x5.toNatClampNeg) σ1 _ _ _ (lv_sub hl [1, 2, 3, 4, 5, 0] rfl) hst h
set_option maxRecDepth 100000 in
set_option maxHeartbeats 4000000 in
theorem b_Md_fill_6 {p : Program} {l : Launch} {e : Env} {s : State} {m : MethodId} {args : Array Value} {below : List Frame} {meth : Method} {c : Code} {D : va_G} {g : Gm} {A : Nat → Prop} {post : Sg → Prop} {F : Nat → Int32 → Int32 → Int32 → Int32 → Int32 → Sg → Prop} (C : kC p s m args meth c k_Md_fill 7 (none) GW R_Md D vwCl g (Zk g) A) (j1 : J_Md_fill_1 p l e s m args below meth c D g A post F) (x1 : Int32) (x2 : Int32) (x3 : Int32) (σ : Sg) (H : Heap) (locs : List Loc) (ls : Array Slot) (hl : lv_has ls 7 [(0, .ref (g.1 54)), (1, .int x1), (2, .int x2), (3, .int x3)]) (hst : Wst D vwCl (WS g) A s σ H locs) (h : wb_Md_fill_6 F post x1 x2 x3 σ) : W p l e { frames := 6, cells := 0, slots := 0, locals := 152 } s m args below meth c H locs 0 0 (MQ below (QvW D vwCl (WS g) post A) args s 0 0 A) (F0 m 240 ls []) := by
  obtain ⟨hx, hb, hr, hml, hown, hts, hlocks, hK, hZ, hA⟩ := C
  unfold wb_Md_fill_6 at h
  refine lv_aload_n hx hb d_Md_fill_240 rfl (lv_at hl 0 rfl) ?_
  refine va_get (D := D) (ci := 10) (C := R_Md) (T := T_Md) (N := 46) hx hb hts in_Md hown hK hst.1 54 (WS_o54 g σ) rfl 32 (by decide) (hts _ gw1096) (fun _ h9 => h9) rfl d_Md_fill_241 ?_
  refine lv_iload_n hx hb d_Md_fill_244 rfl (lv_at hl 3 rfl) ?_
  refine lv_aload_n hx hb d_Md_fill_245 rfl (lv_at hl 0 rfl) ?_
  refine va_get (D := D) (ci := 10) (C := R_Md) (T := T_Md) (N := 46) hx hb hts in_Md hown hK hst.1 54 (WS_o54 g σ) rfl 38 (by decide) (hts _ gw1102) (fun _ h9 => h9) rfl d_Md_fill_246 ?_
  obtain ⟨hi, h⟩ := h
  refine kw_last hx hb hK hst 82 (WS_a82 g σ) hi (WS_s82 g σ _ _) d_Md_fill_249 (fun σ1 H locs e1 hst => ?_)
  replace h := h σ1 e1
  refine lv_aload_n hx hb d_Md_fill_250 rfl (lv_at hl 0 rfl) ?_
  refine va_get (D := D) (ci := 10) (C := R_Md) (T := T_Md) (N := 46) hx hb hts in_Md hown hK hst.1 54 (WS_o54 g σ1) rfl 33 (by decide) (hts _ gw1097) (fun _ h9 => h9) rfl d_Md_fill_251 ?_
  refine lv_iload_n hx hb d_Md_fill_254 rfl (lv_at hl 3 rfl) ?_
  refine lv_aload_n hx hb d_Md_fill_255 rfl (lv_at hl 0 rfl) ?_
  refine va_get (D := D) (ci := 10) (C := R_Md) (T := T_Md) (N := 46) hx hb hts in_Md hown hK hst.1 54 (WS_o54 g σ1) rfl 39 (by decide) (hts _ gw1103) (fun _ h9 => h9) rfl d_Md_fill_256 ?_
  obtain ⟨hi, h⟩ := h
  refine kw_last hx hb hK hst 83 (WS_a83 g σ1) hi (WS_s83 g σ1 _ _) d_Md_fill_259 (fun σ2 H locs e2 hst => ?_)
  replace h := h σ2 e2
  refine lv_iinc (k := 2) (v := (x2 + 1)) hx hb d_Md_fill_260 hl rfl (kw_inc _ (by decide)) (by decide) rfl (fun ls hl => ?_)
  have hl : lv_has ls 7 [(2, .int (x2 + 1)), (0, .ref (g.1 54)), (1, .int x1), (3, .int x3)] := hl
  refine lv_goto (tgt := 2) hx hb d_Md_fill_263 (by decide) ?_
  exact j1 x1 (x2 + 1) σ2 _ _ _ (lv_sub hl [1, 2, 0] rfl) hst h
set_option maxRecDepth 100000 in
set_option maxHeartbeats 4000000 in
theorem a_Md_fill {p : Program} {l : Launch} {e : Env} {s : State} {m : MethodId} {args : Array Value} {below : List Frame} {meth : Method} {c : Code} {D : va_G} {g : Gm} {A : Nat → Prop} {post : Sg → Prop} (C : kC p s m args meth c k_Md_fill 7 (none) GW R_Md D vwCl g (Zk g) A) : ∀ n : Nat, J_Md_fill_1 p l e s m args below meth c D g A post (wp_Md_fill post n) ∧ J_Md_fill_2 p l e s m args below meth c D g A post (wp_Md_fill post n) ∧ J_Md_fill_3 p l e s m args below meth c D g A post (wp_Md_fill post n) ∧ J_Md_fill_4 p l e s m args below meth c D g A post (wp_Md_fill post n) ∧ J_Md_fill_5 p l e s m args below meth c D g A post (wp_Md_fill post n) ∧ J_Md_fill_6 p l e s m args below meth c D g A post (wp_Md_fill post n) := by
  intro n
  induction n with
  | zero => exact ⟨fun _ _ _ _ _ _ _ _ h => h.elim, fun _ _ _ _ _ _ _ _ _ _ h => h.elim, fun _ _ _ _ _ _ _ _ _ _ h => h.elim, fun _ _ _ _ _ _ _ _ _ _ _ h => h.elim, fun _ _ _ _ _ _ _ _ _ _ _ h => h.elim, fun _ _ _ _ _ _ _ _ _ h => h.elim⟩
  | succ n ih => exact ⟨fun x1 x2 σ H locs ls hl hst h => b_Md_fill_1 (F := wp_Md_fill post n) C (ih.2.1) x1 x2 σ H locs ls hl hst h, fun x1 x2 x3 x4 σ H locs ls hl hst h => b_Md_fill_2 (F := wp_Md_fill post n) C (ih.2.2.1) (ih.2.2.2.1) x1 x2 x3 x4 σ H locs ls hl hst h, fun x1 x2 x3 x4 σ H locs ls hl hst h => b_Md_fill_3 (F := wp_Md_fill post n) C (ih.2.2.2.2.2) x1 x2 x3 x4 σ H locs ls hl hst h, fun x1 x2 x3 x4 x5 σ H locs ls hl hst h => b_Md_fill_4 (F := wp_Md_fill post n) C (ih.2.2.2.1) (ih.2.2.2.2.1) x1 x2 x3 x4 x5 σ H locs ls hl hst h, fun x1 x2 x3 x4 x5 σ H locs ls hl hst h => b_Md_fill_5 (F := wp_Md_fill post n) C (ih.2.2.1) (ih.2.2.2.2.1) x1 x2 x3 x4 x5 σ H locs ls hl hst h, fun x1 x2 x3 σ H locs ls hl hst h => b_Md_fill_6 (F := wp_Md_fill post n) C (ih.1) x1 x2 x3 σ H locs ls hl hst h⟩
set_option maxRecDepth 100000 in
set_option maxHeartbeats 4000000 in
theorem c_Md_fill (l : Launch) {D : va_G} {g : Gm} {sz : Nat} (x1 : Int32) {σ : Sg} {post : Sg → Prop} (h : wq_Md_fill x1 σ post) : Met l y_Md_fill (.code y_Md_fill k_Md_fill 7 (none) :: GW) { frames := 6, cells := 0, slots := 0, locals := 152 } (PcW D vwCl (WS g) g (Zk g) σ sz [.ref (g.1 54), .int x1]) (QvW D vwCl (WS g) post (va_A (WS g σ) sz)) 0 0 (va_A (WS g σ) sz) := by
  refine kw_entry (own := R_Md) (by decide) rfl rfl (Nat.le_of_ble_eq_true rfl) ?_
  intro p e s m below meth c ls hsz C hin hl hst
  obtain ⟨n, h⟩ := h
  cases n with
  | zero => exact h.elim
  | succ n =>
    have ih := a_Md_fill (l := l) (e := e) (below := below) (post := post) C n
    exact b_Md_fill_0 (F := wp_Md_fill post n) C (ih.1) x1 σ _ _ ls hl hst h
/-! SchemaDeskModel.judgeAll ()V -/
abbrev k_Md_judgeAll : ByteArray := prog_12_method_60_code
abbrev y_Md_judgeAll : MethodName := ⟨"SchemaDeskModel", "judgeAll", "()V"⟩
theorem d_Md_judgeAll_0 : decode k_Md_judgeAll 0 = .ok (.aload_n 0, 1) := by decide +kernel
theorem d_Md_judgeAll_1 : decode k_Md_judgeAll 1 = .ok (.invokevirtual 348, 3) := by decide +kernel
theorem d_Md_judgeAll_4 : decode k_Md_judgeAll 4 = .ok (.iconst 0, 1) := by decide +kernel
theorem d_Md_judgeAll_5 : decode k_Md_judgeAll 5 = .ok (.istore_n 1, 1) := by decide +kernel
theorem d_Md_judgeAll_6 : decode k_Md_judgeAll 6 = .ok (.iload_n 1, 1) := by decide +kernel
theorem d_Md_judgeAll_7 : decode k_Md_judgeAll 7 = .ok (.aload_n 0, 1) := by decide +kernel
theorem d_Md_judgeAll_8 : decode k_Md_judgeAll 8 = .ok (.getfield 74, 3) := by decide +kernel
theorem d_Md_judgeAll_11 : decode k_Md_judgeAll 11 = .ok (.iconst 0, 1) := by decide +kernel
theorem d_Md_judgeAll_12 : decode k_Md_judgeAll 12 = .ok (.iaload, 1) := by decide +kernel
theorem d_Md_judgeAll_13 : decode k_Md_judgeAll 13 = .ok (.if_icmp .ge 37, 3) := by decide +kernel
theorem d_Md_judgeAll_16 : decode k_Md_judgeAll 16 = .ok (.aload_n 0, 1) := by decide +kernel
theorem d_Md_judgeAll_17 : decode k_Md_judgeAll 17 = .ok (.getfield 147, 3) := by decide +kernel
theorem d_Md_judgeAll_20 : decode k_Md_judgeAll 20 = .ok (.iload_n 1, 1) := by decide +kernel
theorem d_Md_judgeAll_21 : decode k_Md_judgeAll 21 = .ok (.lconst 0, 1) := by decide +kernel
theorem d_Md_judgeAll_22 : decode k_Md_judgeAll 22 = .ok (.lastore, 1) := by decide +kernel
theorem d_Md_judgeAll_23 : decode k_Md_judgeAll 23 = .ok (.aload_n 0, 1) := by decide +kernel
theorem d_Md_judgeAll_24 : decode k_Md_judgeAll 24 = .ok (.getfield 150, 3) := by decide +kernel
theorem d_Md_judgeAll_27 : decode k_Md_judgeAll 27 = .ok (.iload_n 1, 1) := by decide +kernel
theorem d_Md_judgeAll_28 : decode k_Md_judgeAll 28 = .ok (.lconst 0, 1) := by decide +kernel
theorem d_Md_judgeAll_29 : decode k_Md_judgeAll 29 = .ok (.lastore, 1) := by decide +kernel
theorem d_Md_judgeAll_30 : decode k_Md_judgeAll 30 = .ok (.aload_n 0, 1) := by decide +kernel
theorem d_Md_judgeAll_31 : decode k_Md_judgeAll 31 = .ok (.getfield 153, 3) := by decide +kernel
theorem d_Md_judgeAll_34 : decode k_Md_judgeAll 34 = .ok (.iload_n 1, 1) := by decide +kernel
theorem d_Md_judgeAll_35 : decode k_Md_judgeAll 35 = .ok (.lconst 0, 1) := by decide +kernel
theorem d_Md_judgeAll_36 : decode k_Md_judgeAll 36 = .ok (.lastore, 1) := by decide +kernel
theorem d_Md_judgeAll_37 : decode k_Md_judgeAll 37 = .ok (.aload_n 0, 1) := by decide +kernel
theorem d_Md_judgeAll_38 : decode k_Md_judgeAll 38 = .ok (.getfield 156, 3) := by decide +kernel
theorem d_Md_judgeAll_41 : decode k_Md_judgeAll 41 = .ok (.iload_n 1, 1) := by decide +kernel
theorem d_Md_judgeAll_42 : decode k_Md_judgeAll 42 = .ok (.lconst 0, 1) := by decide +kernel
theorem d_Md_judgeAll_43 : decode k_Md_judgeAll 43 = .ok (.lastore, 1) := by decide +kernel
theorem d_Md_judgeAll_44 : decode k_Md_judgeAll 44 = .ok (.iinc 1 1, 3) := by decide +kernel
theorem d_Md_judgeAll_47 : decode k_Md_judgeAll 47 = .ok (.goto (-41), 3) := by decide +kernel
theorem d_Md_judgeAll_50 : decode k_Md_judgeAll 50 = .ok (.sipush 160, 3) := by decide +kernel
theorem d_Md_judgeAll_53 : decode k_Md_judgeAll 53 = .ok (.aload_n 0, 1) := by decide +kernel
theorem d_Md_judgeAll_54 : decode k_Md_judgeAll 54 = .ok (.getfield 74, 3) := by decide +kernel
theorem d_Md_judgeAll_57 : decode k_Md_judgeAll 57 = .ok (.iconst 1, 1) := by decide +kernel
theorem d_Md_judgeAll_58 : decode k_Md_judgeAll 58 = .ok (.iaload, 1) := by decide +kernel
theorem d_Md_judgeAll_59 : decode k_Md_judgeAll 59 = .ok (.iadd, 1) := by decide +kernel
theorem d_Md_judgeAll_60 : decode k_Md_judgeAll 60 = .ok (.iconst 1, 1) := by decide +kernel
theorem d_Md_judgeAll_61 : decode k_Md_judgeAll 61 = .ok (.isub, 1) := by decide +kernel
theorem d_Md_judgeAll_62 : decode k_Md_judgeAll 62 = .ok (.istore_n 1, 1) := by decide +kernel
theorem d_Md_judgeAll_63 : decode k_Md_judgeAll 63 = .ok (.iload_n 1, 1) := by decide +kernel
theorem d_Md_judgeAll_64 : decode k_Md_judgeAll 64 = .ok (.sipush 160, 3) := by decide +kernel
theorem d_Md_judgeAll_67 : decode k_Md_judgeAll 67 = .ok (.if_icmp .lt 14, 3) := by decide +kernel
theorem d_Md_judgeAll_70 : decode k_Md_judgeAll 70 = .ok (.aload_n 0, 1) := by decide +kernel
theorem d_Md_judgeAll_71 : decode k_Md_judgeAll 71 = .ok (.iload_n 1, 1) := by decide +kernel
theorem d_Md_judgeAll_72 : decode k_Md_judgeAll 72 = .ok (.invokevirtual 351, 3) := by decide +kernel
theorem d_Md_judgeAll_75 : decode k_Md_judgeAll 75 = .ok (.iinc 1 (-1), 3) := by decide +kernel
theorem d_Md_judgeAll_78 : decode k_Md_judgeAll 78 = .ok (.goto (-15), 3) := by decide +kernel
theorem d_Md_judgeAll_81 : decode k_Md_judgeAll 81 = .ok (.return_, 1) := by decide +kernel
theorem gw1361 : (Jvm.Cond.methodLink "SchemaDeskModel" (348 : Nat) ({ cls := "SchemaDeskModel", name := "compare", desc := "()V" } : Jvm.MethodName)) ∈ GW := gw_t6 (List.mem_of_getElem? (i := 161) rfl) rfl
theorem gw1363 : (Jvm.Cond.instanceMethod ({ cls := "SchemaDeskModel", name := "compare", desc := "()V" } : Jvm.MethodName)) ∈ GW := gw_t6 (List.mem_of_getElem? (i := 163) rfl) rfl
theorem gs68 : Cond.selects "SchemaDeskModel" ⟨"SchemaDeskModel", "compare", "()V"⟩ ⟨"SchemaDeskModel", "compare", "()V"⟩ ∈ GW := gw_p5 (q := (⟨"SchemaDeskModel", "compare", "()V"⟩, 46)) (List.mem_of_getElem? (i := 4) rfl)
theorem gw1364 : (Jvm.Cond.code ({ cls := "SchemaDeskModel", name := "compare", desc := "()V" } : Jvm.MethodName) prog_12_method_47_code (4 : Nat) (Option.none : Option Jvm.ClassFile.FieldType)) ∈ GW := gw_t6 (List.mem_of_getElem? (i := 164) rfl) rfl
theorem gw1380 : (Jvm.Cond.methodLink "SchemaDeskModel" (351 : Nat) ({ cls := "SchemaDeskModel", name := "fill", desc := "(I)V" } : Jvm.MethodName)) ∈ GW := gw_t6 (List.mem_of_getElem? (i := 180) rfl) rfl
theorem gw1382 : (Jvm.Cond.instanceMethod ({ cls := "SchemaDeskModel", name := "fill", desc := "(I)V" } : Jvm.MethodName)) ∈ GW := gw_t6 (List.mem_of_getElem? (i := 182) rfl) rfl
theorem gs72 : Cond.selects "SchemaDeskModel" ⟨"SchemaDeskModel", "fill", "(I)V"⟩ ⟨"SchemaDeskModel", "fill", "(I)V"⟩ ∈ GW := gw_p5 (q := (⟨"SchemaDeskModel", "fill", "(I)V"⟩, 46)) (List.mem_of_getElem? (i := 8) rfl)
theorem gw1383 : (Jvm.Cond.code ({ cls := "SchemaDeskModel", name := "fill", desc := "(I)V" } : Jvm.MethodName) prog_12_method_59_code (7 : Nat) (Option.none : Option Jvm.ClassFile.FieldType)) ∈ GW := gw_t6 (List.mem_of_getElem? (i := 183) rfl) rfl
def wb_Md_judgeAll_0 (F : Nat → Int32 → Sg → Prop) (post : Sg → Prop) (σ : Sg) : Prop := (wq_Md_compare  σ (fun σ1 => F 1 (0 : Int32) σ1))
def wb_Md_judgeAll_1 (F : Nat → Int32 → Sg → Prop) (post : Sg → Prop) (x1 : Int32) (σ : Sg) : Prop := (vp_in (0 : Int32) 2 ∧ (((σ.1 58 ((0 : Int32) : Int32).toNatClampNeg) ≤ x1 → (vp_in (1 : Int32) 2 ∧ F 2 (((160 : Int32) + (σ.1 58 ((1 : Int32) : Int32).toNatClampNeg)) - (1 : Int32)) σ)) ∧ (¬ (σ.1 58 ((0 : Int32) : Int32).toNatClampNeg) ≤ x1 → (vp_in x1 160 ∧ (∀ σ1, σ1 = sl σ 82 x1.toNatClampNeg (0 : Int64) → (vp_in x1 160 ∧ (∀ σ2, σ2 = sl σ1 83 x1.toNatClampNeg (0 : Int64) → (vp_in x1 160 ∧ (∀ σ3, σ3 = sl σ2 84 x1.toNatClampNeg (0 : Int64) → (vp_in x1 160 ∧ (∀ σ4, σ4 = sl σ3 85 x1.toNatClampNeg (0 : Int64) → F 1 (x1 + 1) σ4)))))))))))
def wb_Md_judgeAll_2 (F : Nat → Int32 → Sg → Prop) (post : Sg → Prop) (x1 : Int32) (σ : Sg) : Prop := ((x1 < (160 : Int32) → post σ) ∧ (¬ x1 < (160 : Int32) → (wq_Md_fill x1 σ (fun σ1 => F 2 (x1 + (-1)) σ1))))
def wp_Md_judgeAll (post : Sg → Prop) : Nat → Nat → Int32 → Sg → Prop
  | 0, _, _, _ => False
  | n + 1, k, x1, σ => match k with
    | 0 => wb_Md_judgeAll_0 (wp_Md_judgeAll post n) post σ
    | 1 => wb_Md_judgeAll_1 (wp_Md_judgeAll post n) post x1 σ
    | 2 => wb_Md_judgeAll_2 (wp_Md_judgeAll post n) post x1 σ
    | _ => False
def wq_Md_judgeAll (σ : Sg) (post : Sg → Prop) : Prop := ∃ n, wp_Md_judgeAll post n 0 0 σ
def J_Md_judgeAll_1 (p : Program) (l : Launch) (e : Env) (s : State) (m : MethodId) (args : Array Value) (below : List Frame) (meth : Method) (c : Code) (D : va_G) (g : Gm) (A : Nat → Prop) (post : Sg → Prop) (F : Nat → Int32 → Sg → Prop) : Prop := ∀ (x1 : Int32) (σ : Sg) (H : Heap) (locs : List Loc) (ls : Array Slot), lv_has ls 2 [(0, .ref (g.1 54)), (1, .int x1)] → Wst D vwCl (WS g) A s σ H locs → F 1 x1 σ → W p l e { frames := 7, cells := 0, slots := 0, locals := 178 } s m args below meth c H locs 0 0 (MQ below (QvW D vwCl (WS g) post A) args s 0 0 A) (F0 m 6 ls [])
def J_Md_judgeAll_2 (p : Program) (l : Launch) (e : Env) (s : State) (m : MethodId) (args : Array Value) (below : List Frame) (meth : Method) (c : Code) (D : va_G) (g : Gm) (A : Nat → Prop) (post : Sg → Prop) (F : Nat → Int32 → Sg → Prop) : Prop := ∀ (x1 : Int32) (σ : Sg) (H : Heap) (locs : List Loc) (ls : Array Slot), lv_has ls 2 [(0, .ref (g.1 54)), (1, .int x1)] → Wst D vwCl (WS g) A s σ H locs → F 2 x1 σ → W p l e { frames := 7, cells := 0, slots := 0, locals := 178 } s m args below meth c H locs 0 0 (MQ below (QvW D vwCl (WS g) post A) args s 0 0 A) (F0 m 63 ls [])
set_option maxRecDepth 100000 in
set_option maxHeartbeats 4000000 in
theorem b_Md_judgeAll_0 {p : Program} {l : Launch} {e : Env} {s : State} {m : MethodId} {args : Array Value} {below : List Frame} {meth : Method} {c : Code} {D : va_G} {g : Gm} {A : Nat → Prop} {post : Sg → Prop} {F : Nat → Int32 → Sg → Prop} (C : kC p s m args meth c k_Md_judgeAll 2 (none) GW R_Md D vwCl g (Zk g) A) (j1 : J_Md_judgeAll_1 p l e s m args below meth c D g A post F) (σ : Sg) (H : Heap) (locs : List Loc) (ls : Array Slot) (hl : lv_has ls 2 [(0, .ref (g.1 54))]) (hst : Wst D vwCl (WS g) A s σ H locs) (h : wb_Md_judgeAll_0 F post σ) : W p l e { frames := 7, cells := 0, slots := 0, locals := 178 } s m args below meth c H locs 0 0 (MQ below (QvW D vwCl (WS g) post A) args s 0 0 A) (F0 m 0 ls []) := by
  obtain ⟨hx, hb, hr, hml, hown, hts, hlocks, hK, hZ, hA⟩ := C
  unfold wb_Md_judgeAll_0 at h
  refine lv_aload_n hx hb d_Md_judgeAll_0 rfl (lv_at hl 0 rfl) ?_
  refine kw_callv (va_runV (As := []) (rest := []) (b := g.1 54) ⟨hx, hb, hml, hown, hts⟩ (c_Md_compare l h) (cwV 0 hts (gd_v gw1361 gw1363 gs68 gw15 gw1364) rfl rfl rfl (by decide +kernel) ⟨Nat.le_of_ble_eq_true rfl, Nat.le_of_ble_eq_true rfl⟩) ⟨kw_blind (Zk_ok g), va_recv hK hst.1 rfl (WS_o54 g σ), kw_pre (Zk_ok g) hK hZ hA hst⟩ rfl rfl hl.1 rfl (lv_room (Nat.le_of_ble_eq_true rfl)) d_Md_judgeAll_1 ⟨Nat.le_of_ble_eq_true rfl, Nat.le_of_ble_eq_true rfl⟩) hst hA (fun σ1 H locs h hst => ?_)
  refine lv_iconst (v := (0 : Int32)) hx hb d_Md_judgeAll_4 (by decide) ?_
  refine lv_istore_n hx hb d_Md_judgeAll_5 rfl hl (by decide) rfl (fun ls hl => ?_)
  have hl : lv_has ls 2 [(1, .int (0 : Int32)), (0, .ref (g.1 54))] := hl
  exact j1 (0 : Int32) σ1 _ _ _ (lv_sub hl [1, 0] rfl) hst h
set_option maxRecDepth 100000 in
set_option maxHeartbeats 4000000 in
theorem b_Md_judgeAll_1 {p : Program} {l : Launch} {e : Env} {s : State} {m : MethodId} {args : Array Value} {below : List Frame} {meth : Method} {c : Code} {D : va_G} {g : Gm} {A : Nat → Prop} {post : Sg → Prop} {F : Nat → Int32 → Sg → Prop} (C : kC p s m args meth c k_Md_judgeAll 2 (none) GW R_Md D vwCl g (Zk g) A) (j1 : J_Md_judgeAll_1 p l e s m args below meth c D g A post F) (j2 : J_Md_judgeAll_2 p l e s m args below meth c D g A post F) (x1 : Int32) (σ : Sg) (H : Heap) (locs : List Loc) (ls : Array Slot) (hl : lv_has ls 2 [(0, .ref (g.1 54)), (1, .int x1)]) (hst : Wst D vwCl (WS g) A s σ H locs) (h : wb_Md_judgeAll_1 F post x1 σ) : W p l e { frames := 7, cells := 0, slots := 0, locals := 178 } s m args below meth c H locs 0 0 (MQ below (QvW D vwCl (WS g) post A) args s 0 0 A) (F0 m 6 ls []) := by
  obtain ⟨hx, hb, hr, hml, hown, hts, hlocks, hK, hZ, hA⟩ := C
  unfold wb_Md_judgeAll_1 at h
  refine lv_iload_n hx hb d_Md_judgeAll_6 rfl (lv_at hl 1 rfl) ?_
  refine lv_aload_n hx hb d_Md_judgeAll_7 rfl (lv_at hl 0 rfl) ?_
  refine va_get (D := D) (ci := 10) (C := R_Md) (T := T_Md) (N := 46) hx hb hts in_Md hown hK hst.1 54 (WS_o54 g σ) rfl 4 (by decide) (hts _ gw1068) (fun _ h9 => h9) rfl d_Md_judgeAll_8 ?_
  refine lv_iconst (v := (0 : Int32)) hx hb d_Md_judgeAll_11 (by decide) ?_
  obtain ⟨hi, h⟩ := h
  refine va_iald hx hb hK hst.1 58 0 (WS_a58 g σ) rfl hi d_Md_judgeAll_12 ?_
  refine lv_icmp_ge (tgt := 50) hx hb d_Md_judgeAll_13 (by decide) (fun hc => ?_) (fun hc => ?_)
  · replace h := h.1 hc
    refine lv_sipush (v := (160 : Int32)) hx hb d_Md_judgeAll_50 (by decide) ?_
    refine lv_aload_n hx hb d_Md_judgeAll_53 rfl (lv_at hl 0 rfl) ?_
    refine va_get (D := D) (ci := 10) (C := R_Md) (T := T_Md) (N := 46) hx hb hts in_Md hown hK hst.1 54 (WS_o54 g σ) rfl 4 (by decide) (hts _ gw1068) (fun _ h9 => h9) rfl d_Md_judgeAll_54 ?_
    refine lv_iconst (v := (1 : Int32)) hx hb d_Md_judgeAll_57 (by decide) ?_
    obtain ⟨hi, h⟩ := h
    refine va_iald hx hb hK hst.1 58 0 (WS_a58 g σ) rfl hi d_Md_judgeAll_58 ?_
    refine lv_iadd hx hb d_Md_judgeAll_59 ?_
    refine lv_iconst (v := (1 : Int32)) hx hb d_Md_judgeAll_60 (by decide) ?_
    refine lv_isub hx hb d_Md_judgeAll_61 ?_
    refine lv_istore_n hx hb d_Md_judgeAll_62 rfl hl (by decide) rfl (fun ls hl => ?_)
    have hl : lv_has ls 2 [(1, .int (((160 : Int32) + (σ.1 58 ((1 : Int32) : Int32).toNatClampNeg)) - (1 : Int32))), (0, .ref (g.1 54))] := hl
    exact j2 (((160 : Int32) + (σ.1 58 ((1 : Int32) : Int32).toNatClampNeg)) - (1 : Int32)) σ _ _ _ (lv_sub hl [1, 0] rfl) hst h
  · replace h := h.2 hc
    refine lv_aload_n hx hb d_Md_judgeAll_16 rfl (lv_at hl 0 rfl) ?_
    refine va_get (D := D) (ci := 10) (C := R_Md) (T := T_Md) (N := 46) hx hb hts in_Md hown hK hst.1 54 (WS_o54 g σ) rfl 32 (by decide) (hts _ gw1096) (fun _ h9 => h9) rfl d_Md_judgeAll_17 ?_
    refine lv_iload_n hx hb d_Md_judgeAll_20 rfl (lv_at hl 1 rfl) ?_
    refine lv_lconst (v := (0 : Int64)) hx hb d_Md_judgeAll_21 (by decide) ?_
    obtain ⟨hi, h⟩ := h
    refine kw_last hx hb hK hst 82 (WS_a82 g σ) hi (WS_s82 g σ _ _) d_Md_judgeAll_22 (fun σ1 H locs e1 hst => ?_)
    replace h := h σ1 e1
    refine lv_aload_n hx hb d_Md_judgeAll_23 rfl (lv_at hl 0 rfl) ?_
    refine va_get (D := D) (ci := 10) (C := R_Md) (T := T_Md) (N := 46) hx hb hts in_Md hown hK hst.1 54 (WS_o54 g σ1) rfl 33 (by decide) (hts _ gw1097) (fun _ h9 => h9) rfl d_Md_judgeAll_24 ?_
    refine lv_iload_n hx hb d_Md_judgeAll_27 rfl (lv_at hl 1 rfl) ?_
    refine lv_lconst (v := (0 : Int64)) hx hb d_Md_judgeAll_28 (by decide) ?_
    obtain ⟨hi, h⟩ := h
    refine kw_last hx hb hK hst 83 (WS_a83 g σ1) hi (WS_s83 g σ1 _ _) d_Md_judgeAll_29 (fun σ2 H locs e2 hst => ?_)
    replace h := h σ2 e2
    refine lv_aload_n hx hb d_Md_judgeAll_30 rfl (lv_at hl 0 rfl) ?_
    refine va_get (D := D) (ci := 10) (C := R_Md) (T := T_Md) (N := 46) hx hb hts in_Md hown hK hst.1 54 (WS_o54 g σ2) rfl 34 (by decide) (hts _ gw1098) (fun _ h9 => h9) rfl d_Md_judgeAll_31 ?_
    refine lv_iload_n hx hb d_Md_judgeAll_34 rfl (lv_at hl 1 rfl) ?_
    refine lv_lconst (v := (0 : Int64)) hx hb d_Md_judgeAll_35 (by decide) ?_
    obtain ⟨hi, h⟩ := h
    refine kw_last hx hb hK hst 84 (WS_a84 g σ2) hi (WS_s84 g σ2 _ _) d_Md_judgeAll_36 (fun σ3 H locs e3 hst => ?_)
    replace h := h σ3 e3
    refine lv_aload_n hx hb d_Md_judgeAll_37 rfl (lv_at hl 0 rfl) ?_
    refine va_get (D := D) (ci := 10) (C := R_Md) (T := T_Md) (N := 46) hx hb hts in_Md hown hK hst.1 54 (WS_o54 g σ3) rfl 35 (by decide) (hts _ gw1099) (fun _ h9 => h9) rfl d_Md_judgeAll_38 ?_
    refine lv_iload_n hx hb d_Md_judgeAll_41 rfl (lv_at hl 1 rfl) ?_
    refine lv_lconst (v := (0 : Int64)) hx hb d_Md_judgeAll_42 (by decide) ?_
    obtain ⟨hi, h⟩ := h
    refine kw_last hx hb hK hst 85 (WS_a85 g σ3) hi (WS_s85 g σ3 _ _) d_Md_judgeAll_43 (fun σ4 H locs e4 hst => ?_)
    replace h := h σ4 e4
    refine lv_iinc (k := 1) (v := (x1 + 1)) hx hb d_Md_judgeAll_44 hl rfl (kw_inc _ (by decide)) (by decide) rfl (fun ls hl => ?_)
    have hl : lv_has ls 2 [(1, .int (x1 + 1)), (0, .ref (g.1 54))] := hl
    refine lv_goto (tgt := 6) hx hb d_Md_judgeAll_47 (by decide) ?_
    exact j1 (x1 + 1) σ4 _ _ _ (lv_sub hl [1, 0] rfl) hst h
set_option maxRecDepth 100000 in
set_option maxHeartbeats 4000000 in
theorem b_Md_judgeAll_2 {p : Program} {l : Launch} {e : Env} {s : State} {m : MethodId} {args : Array Value} {below : List Frame} {meth : Method} {c : Code} {D : va_G} {g : Gm} {A : Nat → Prop} {post : Sg → Prop} {F : Nat → Int32 → Sg → Prop} (C : kC p s m args meth c k_Md_judgeAll 2 (none) GW R_Md D vwCl g (Zk g) A) (j2 : J_Md_judgeAll_2 p l e s m args below meth c D g A post F) (x1 : Int32) (σ : Sg) (H : Heap) (locs : List Loc) (ls : Array Slot) (hl : lv_has ls 2 [(0, .ref (g.1 54)), (1, .int x1)]) (hst : Wst D vwCl (WS g) A s σ H locs) (h : wb_Md_judgeAll_2 F post x1 σ) : W p l e { frames := 7, cells := 0, slots := 0, locals := 178 } s m args below meth c H locs 0 0 (MQ below (QvW D vwCl (WS g) post A) args s 0 0 A) (F0 m 63 ls []) := by
  obtain ⟨hx, hb, hr, hml, hown, hts, hlocks, hK, hZ, hA⟩ := C
  unfold wb_Md_judgeAll_2 at h
  refine lv_iload_n hx hb d_Md_judgeAll_63 rfl (lv_at hl 1 rfl) ?_
  refine lv_sipush (v := (160 : Int32)) hx hb d_Md_judgeAll_64 (by decide) ?_
  refine lv_icmp_lt (tgt := 81) hx hb d_Md_judgeAll_67 (by decide) (fun hc => ?_) (fun hc => ?_)
  · replace h := h.1 hc
    exact kw_vret hx hb hr hlocks hst h d_Md_judgeAll_81
  · replace h := h.2 hc
    refine lv_aload_n hx hb d_Md_judgeAll_70 rfl (lv_at hl 0 rfl) ?_
    refine lv_iload_n hx hb d_Md_judgeAll_71 rfl (lv_at hl 1 rfl) ?_
    refine kw_callv (va_runV (As := [.int x1]) (rest := []) (b := g.1 54) ⟨hx, hb, hml, hown, hts⟩ (c_Md_fill l x1 h) (cwV 1 hts (gd_v gw1380 gw1382 gs72 gw15 gw1383) rfl rfl rfl (by decide +kernel) ⟨Nat.le_of_ble_eq_true rfl, Nat.le_of_ble_eq_true rfl⟩) ⟨kw_blind (Zk_ok g), va_recv hK hst.1 rfl (WS_o54 g σ), kw_pre (Zk_ok g) hK hZ hA hst⟩ rfl rfl hl.1 rfl (lv_room (Nat.le_of_ble_eq_true rfl)) d_Md_judgeAll_72 ⟨Nat.le_of_ble_eq_true rfl, Nat.le_of_ble_eq_true rfl⟩) hst hA (fun σ1 H locs h hst => ?_)
    refine lv_iinc (k := 1) (v := (x1 + (-1))) hx hb d_Md_judgeAll_75 hl rfl (kw_inc _ (by decide)) (by decide) rfl (fun ls hl => ?_)
    have hl : lv_has ls 2 [(1, .int (x1 + (-1))), (0, .ref (g.1 54))] := hl
    refine lv_goto (tgt := 63) hx hb d_Md_judgeAll_78 (by decide) ?_
    exact j2 (x1 + (-1)) σ1 _ _ _ (lv_sub hl [1, 0] rfl) hst h
set_option maxRecDepth 100000 in
set_option maxHeartbeats 4000000 in
theorem a_Md_judgeAll {p : Program} {l : Launch} {e : Env} {s : State} {m : MethodId} {args : Array Value} {below : List Frame} {meth : Method} {c : Code} {D : va_G} {g : Gm} {A : Nat → Prop} {post : Sg → Prop} (C : kC p s m args meth c k_Md_judgeAll 2 (none) GW R_Md D vwCl g (Zk g) A) : ∀ n : Nat, J_Md_judgeAll_1 p l e s m args below meth c D g A post (wp_Md_judgeAll post n) ∧ J_Md_judgeAll_2 p l e s m args below meth c D g A post (wp_Md_judgeAll post n) := by
  intro n
  induction n with
  | zero => exact ⟨fun _ _ _ _ _ _ _ h => h.elim, fun _ _ _ _ _ _ _ h => h.elim⟩
  | succ n ih => exact ⟨fun x1 σ H locs ls hl hst h => b_Md_judgeAll_1 (F := wp_Md_judgeAll post n) C (ih.1) (ih.2) x1 σ H locs ls hl hst h, fun x1 σ H locs ls hl hst h => b_Md_judgeAll_2 (F := wp_Md_judgeAll post n) C (ih.2) x1 σ H locs ls hl hst h⟩
set_option maxRecDepth 100000 in
set_option maxHeartbeats 4000000 in
theorem c_Md_judgeAll (l : Launch) {D : va_G} {g : Gm} {sz : Nat} {σ : Sg} {post : Sg → Prop} (h : wq_Md_judgeAll σ post) : Met l y_Md_judgeAll (.code y_Md_judgeAll k_Md_judgeAll 2 (none) :: GW) { frames := 7, cells := 0, slots := 0, locals := 178 } (PcW D vwCl (WS g) g (Zk g) σ sz [.ref (g.1 54)]) (QvW D vwCl (WS g) post (va_A (WS g σ) sz)) 0 0 (va_A (WS g σ) sz) := by
  refine kw_entry (own := R_Md) (by decide) rfl rfl (Nat.le_of_ble_eq_true rfl) ?_
  intro p e s m below meth c ls hsz C hin hl hst
  obtain ⟨n, h⟩ := h
  cases n with
  | zero => exact h.elim
  | succ n =>
    have ih := a_Md_judgeAll (l := l) (e := e) (below := below) (post := post) C n
    exact b_Md_judgeAll_0 (F := wp_Md_judgeAll post n) C (ih.1) σ _ _ ls hl hst h
/-! SchemaDeskModel.holds (II)Z -/
abbrev k_Md_holds : ByteArray := prog_12_method_61_code
abbrev y_Md_holds : MethodName := ⟨"SchemaDeskModel", "holds", "(II)Z"⟩
theorem d_Md_holds_0 : decode k_Md_holds 0 = .ok (.aload_n 0, 1) := by decide +kernel
theorem d_Md_holds_1 : decode k_Md_holds 1 = .ok (.iconst 0, 1) := by decide +kernel
theorem d_Md_holds_2 : decode k_Md_holds 2 = .ok (.putfield 177, 3) := by decide +kernel
theorem d_Md_holds_5 : decode k_Md_holds 5 = .ok (.aload_n 0, 1) := by decide +kernel
theorem d_Md_holds_6 : decode k_Md_holds 6 = .ok (.invokevirtual 354, 3) := by decide +kernel
theorem d_Md_holds_9 : decode k_Md_holds 9 = .ok (.istore_n 3, 1) := by decide +kernel
theorem d_Md_holds_10 : decode k_Md_holds 10 = .ok (.iload_n 1, 1) := by decide +kernel
theorem d_Md_holds_11 : decode k_Md_holds 11 = .ok (.ifCond .lt 27, 3) := by decide +kernel
theorem d_Md_holds_14 : decode k_Md_holds 14 = .ok (.iload_n 1, 1) := by decide +kernel
theorem d_Md_holds_15 : decode k_Md_holds 15 = .ok (.aload_n 0, 1) := by decide +kernel
theorem d_Md_holds_16 : decode k_Md_holds 16 = .ok (.getfield 74, 3) := by decide +kernel
theorem d_Md_holds_19 : decode k_Md_holds 19 = .ok (.iconst 0, 1) := by decide +kernel
theorem d_Md_holds_20 : decode k_Md_holds 20 = .ok (.iaload, 1) := by decide +kernel
theorem d_Md_holds_21 : decode k_Md_holds 21 = .ok (.if_icmp .ge 17, 3) := by decide +kernel
theorem d_Md_holds_24 : decode k_Md_holds 24 = .ok (.iload_n 2, 1) := by decide +kernel
theorem d_Md_holds_25 : decode k_Md_holds 25 = .ok (.ifCond .lt 13, 3) := by decide +kernel
theorem d_Md_holds_28 : decode k_Md_holds 28 = .ok (.iload_n 2, 1) := by decide +kernel
theorem d_Md_holds_29 : decode k_Md_holds 29 = .ok (.aload_n 0, 1) := by decide +kernel
theorem d_Md_holds_30 : decode k_Md_holds 30 = .ok (.getfield 74, 3) := by decide +kernel
theorem d_Md_holds_33 : decode k_Md_holds 33 = .ok (.iconst 1, 1) := by decide +kernel
theorem d_Md_holds_34 : decode k_Md_holds 34 = .ok (.iaload, 1) := by decide +kernel
theorem d_Md_holds_35 : decode k_Md_holds 35 = .ok (.if_icmp .lt 11, 3) := by decide +kernel
theorem d_Md_holds_38 : decode k_Md_holds 38 = .ok (.aload_n 0, 1) := by decide +kernel
theorem d_Md_holds_39 : decode k_Md_holds 39 = .ok (.iconst 1, 1) := by decide +kernel
theorem d_Md_holds_40 : decode k_Md_holds 40 = .ok (.putfield 177, 3) := by decide +kernel
theorem d_Md_holds_43 : decode k_Md_holds 43 = .ok (.goto 12, 3) := by decide +kernel
theorem d_Md_holds_46 : decode k_Md_holds 46 = .ok (.iload_n 3, 1) := by decide +kernel
theorem d_Md_holds_47 : decode k_Md_holds 47 = .ok (.ifCond .ne 8, 3) := by decide +kernel
theorem d_Md_holds_50 : decode k_Md_holds 50 = .ok (.aload_n 0, 1) := by decide +kernel
theorem d_Md_holds_51 : decode k_Md_holds 51 = .ok (.iconst 2, 1) := by decide +kernel
theorem d_Md_holds_52 : decode k_Md_holds 52 = .ok (.putfield 177, 3) := by decide +kernel
theorem d_Md_holds_55 : decode k_Md_holds 55 = .ok (.aload_n 0, 1) := by decide +kernel
theorem d_Md_holds_56 : decode k_Md_holds 56 = .ok (.getfield 177, 3) := by decide +kernel
theorem d_Md_holds_59 : decode k_Md_holds 59 = .ok (.ifCond .eq 5, 3) := by decide +kernel
theorem d_Md_holds_62 : decode k_Md_holds 62 = .ok (.iconst 0, 1) := by decide +kernel
theorem d_Md_holds_63 : decode k_Md_holds 63 = .ok (.ireturn, 1) := by decide +kernel
theorem d_Md_holds_64 : decode k_Md_holds 64 = .ok (.aload_n 0, 1) := by decide +kernel
theorem d_Md_holds_65 : decode k_Md_holds 65 = .ok (.invokevirtual 357, 3) := by decide +kernel
theorem d_Md_holds_68 : decode k_Md_holds 68 = .ok (.aload_n 0, 1) := by decide +kernel
theorem d_Md_holds_69 : decode k_Md_holds 69 = .ok (.iload_n 1, 1) := by decide +kernel
theorem d_Md_holds_70 : decode k_Md_holds 70 = .ok (.sipush 160, 3) := by decide +kernel
theorem d_Md_holds_73 : decode k_Md_holds 73 = .ok (.iload_n 2, 1) := by decide +kernel
theorem d_Md_holds_74 : decode k_Md_holds 74 = .ok (.iadd, 1) := by decide +kernel
theorem d_Md_holds_75 : decode k_Md_holds 75 = .ok (.invokevirtual 320, 3) := by decide +kernel
theorem d_Md_holds_78 : decode k_Md_holds 78 = .ok (.ireturn, 1) := by decide +kernel
theorem gw1341 : (Jvm.Cond.methodLink "SchemaDeskModel" (354 : Nat) ({ cls := "SchemaDeskModel", name := "prepared", desc := "()Z" } : Jvm.MethodName)) ∈ GW := gw_t6 (List.mem_of_getElem? (i := 141) rfl) rfl
theorem gw1343 : (Jvm.Cond.instanceMethod ({ cls := "SchemaDeskModel", name := "prepared", desc := "()Z" } : Jvm.MethodName)) ∈ GW := gw_t6 (List.mem_of_getElem? (i := 143) rfl) rfl
theorem gs63 : Cond.selects "SchemaDeskModel" ⟨"SchemaDeskModel", "prepared", "()Z"⟩ ⟨"SchemaDeskModel", "prepared", "()Z"⟩ ∈ GW := gw_p4 (q := (⟨"SchemaDeskModel", "prepared", "()Z"⟩, 46)) (List.mem_of_getElem? (i := 15) rfl)
theorem gw1344 : (Jvm.Cond.code ({ cls := "SchemaDeskModel", name := "prepared", desc := "()Z" } : Jvm.MethodName) prog_12_method_44_code (4 : Nat) (Option.some Jvm.ClassFile.FieldType.boolean)) ∈ GW := gw_t6 (List.mem_of_getElem? (i := 144) rfl) rfl
theorem gw1357 : (Jvm.Cond.methodLink "SchemaDeskModel" (357 : Nat) ({ cls := "SchemaDeskModel", name := "judgeAll", desc := "()V" } : Jvm.MethodName)) ∈ GW := gw_t6 (List.mem_of_getElem? (i := 157) rfl) rfl
theorem gw1359 : (Jvm.Cond.instanceMethod ({ cls := "SchemaDeskModel", name := "judgeAll", desc := "()V" } : Jvm.MethodName)) ∈ GW := gw_t6 (List.mem_of_getElem? (i := 159) rfl) rfl
theorem gs67 : Cond.selects "SchemaDeskModel" ⟨"SchemaDeskModel", "judgeAll", "()V"⟩ ⟨"SchemaDeskModel", "judgeAll", "()V"⟩ ∈ GW := gw_p5 (q := (⟨"SchemaDeskModel", "judgeAll", "()V"⟩, 46)) (List.mem_of_getElem? (i := 3) rfl)
theorem gw1360 : (Jvm.Cond.code ({ cls := "SchemaDeskModel", name := "judgeAll", desc := "()V" } : Jvm.MethodName) prog_12_method_60_code (2 : Nat) (Option.none : Option Jvm.ClassFile.FieldType)) ∈ GW := gw_t6 (List.mem_of_getElem? (i := 160) rfl) rfl
def wb_Md_holds_0 (F : Nat → Int32 → Int32 → Sg → Prop) (post : Int32 → Sg → Prop) (x1 : Int32) (x2 : Int32) (σ : Sg) : Prop := (∀ σ1, σ1 = si σ 54 1 (0 : Int32) → (wq_Md_prepared  σ1 (fun r2 σ2 => ((x1 < 0 → F 1 x1 x2 σ2) ∧ (¬ x1 < 0 → (vp_in (0 : Int32) 2 ∧ (((σ2.1 58 ((0 : Int32) : Int32).toNatClampNeg) ≤ x1 → F 1 x1 x2 σ2) ∧ (¬ (σ2.1 58 ((0 : Int32) : Int32).toNatClampNeg) ≤ x1 → ((x2 < 0 → F 1 x1 x2 σ2) ∧ (¬ x2 < 0 → (vp_in (1 : Int32) 2 ∧ ((x2 < (σ2.1 58 ((1 : Int32) : Int32).toNatClampNeg) → ((¬ r2 = 0 → F 2 x1 x2 σ2) ∧ (r2 = 0 → (∀ σ3, σ3 = si σ2 54 1 (2 : Int32) → F 2 x1 x2 σ3)))) ∧ (¬ x2 < (σ2.1 58 ((1 : Int32) : Int32).toNatClampNeg) → F 1 x1 x2 σ2)))))))))))))
def wb_Md_holds_1 (F : Nat → Int32 → Int32 → Sg → Prop) (post : Int32 → Sg → Prop) (x1 : Int32) (x2 : Int32) (σ : Sg) : Prop := (∀ σ1, σ1 = si σ 54 1 (1 : Int32) → F 2 x1 x2 σ1)
def wb_Md_holds_2 (F : Nat → Int32 → Int32 → Sg → Prop) (post : Int32 → Sg → Prop) (x1 : Int32) (x2 : Int32) (σ : Sg) : Prop := (((σ.1 54 1) = 0 → (wq_Md_judgeAll  σ (fun σ1 => (wq_Md_isSo x1 ((160 : Int32) + x2) σ1 (fun r2 σ2 => (narrow .boolean (.int r2) = .int r2 ∧ post r2 σ2)))))) ∧ (¬ (σ.1 54 1) = 0 → (narrow .boolean (.int (0 : Int32)) = .int (0 : Int32) ∧ post (0 : Int32) σ)))
def wp_Md_holds (post : Int32 → Sg → Prop) : Nat → Nat → Int32 → Int32 → Sg → Prop
  | 0, _, _, _, _ => False
  | n + 1, k, x1, x2, σ => match k with
    | 0 => wb_Md_holds_0 (wp_Md_holds post n) post x1 x2 σ
    | 1 => wb_Md_holds_1 (wp_Md_holds post n) post x1 x2 σ
    | 2 => wb_Md_holds_2 (wp_Md_holds post n) post x1 x2 σ
    | _ => False
def wq_Md_holds (x1 : Int32) (x2 : Int32) (σ : Sg) (post : Int32 → Sg → Prop) : Prop := ∃ n, wp_Md_holds post n 0 x1 x2 σ
def J_Md_holds_1 (p : Program) (l : Launch) (e : Env) (s : State) (m : MethodId) (args : Array Value) (below : List Frame) (meth : Method) (c : Code) (D : va_G) (g : Gm) (A : Nat → Prop) (post : Int32 → Sg → Prop) (F : Nat → Int32 → Int32 → Sg → Prop) : Prop := ∀ (x1 : Int32) (x2 : Int32) (σ : Sg) (H : Heap) (locs : List Loc) (ls : Array Slot), lv_has ls 4 [(0, .ref (g.1 54)), (1, .int x1), (2, .int x2)] → Wst D vwCl (WS g) A s σ H locs → F 1 x1 x2 σ → W p l e { frames := 8, cells := 0, slots := 0, locals := 199 } s m args below meth c H locs 0 0 (MQ below (QiW D vwCl (WS g) post A) args s 0 0 A) (F0 m 38 ls [])
def J_Md_holds_2 (p : Program) (l : Launch) (e : Env) (s : State) (m : MethodId) (args : Array Value) (below : List Frame) (meth : Method) (c : Code) (D : va_G) (g : Gm) (A : Nat → Prop) (post : Int32 → Sg → Prop) (F : Nat → Int32 → Int32 → Sg → Prop) : Prop := ∀ (x1 : Int32) (x2 : Int32) (σ : Sg) (H : Heap) (locs : List Loc) (ls : Array Slot), lv_has ls 4 [(0, .ref (g.1 54)), (1, .int x1), (2, .int x2)] → Wst D vwCl (WS g) A s σ H locs → F 2 x1 x2 σ → W p l e { frames := 8, cells := 0, slots := 0, locals := 199 } s m args below meth c H locs 0 0 (MQ below (QiW D vwCl (WS g) post A) args s 0 0 A) (F0 m 55 ls [])
set_option maxRecDepth 100000 in
set_option maxHeartbeats 4000000 in
theorem b_Md_holds_0 {p : Program} {l : Launch} {e : Env} {s : State} {m : MethodId} {args : Array Value} {below : List Frame} {meth : Method} {c : Code} {D : va_G} {g : Gm} {A : Nat → Prop} {post : Int32 → Sg → Prop} {F : Nat → Int32 → Int32 → Sg → Prop} (C : kC p s m args meth c k_Md_holds 4 (some .boolean) GW R_Md D vwCl g (Zk g) A) (j1 : J_Md_holds_1 p l e s m args below meth c D g A post F) (j2 : J_Md_holds_2 p l e s m args below meth c D g A post F) (x1 : Int32) (x2 : Int32) (σ : Sg) (H : Heap) (locs : List Loc) (ls : Array Slot) (hl : lv_has ls 4 [(0, .ref (g.1 54)), (1, .int x1), (2, .int x2)]) (hst : Wst D vwCl (WS g) A s σ H locs) (h : wb_Md_holds_0 F post x1 x2 σ) : W p l e { frames := 8, cells := 0, slots := 0, locals := 199 } s m args below meth c H locs 0 0 (MQ below (QiW D vwCl (WS g) post A) args s 0 0 A) (F0 m 0 ls []) := by
  obtain ⟨hx, hb, hr, hml, hown, hts, hlocks, hK, hZ, hA⟩ := C
  unfold wb_Md_holds_0 at h
  refine lv_aload_n hx hb d_Md_holds_0 rfl (lv_at hl 0 rfl) ?_
  refine lv_iconst (v := (0 : Int32)) hx hb d_Md_holds_1 (by decide) ?_
  refine kw_put (D := D) (ci := 10) (ty := .int) (C := R_Md) (T := T_Md) (N := 46) hx hb hts in_Md ty_Md ty_Md_ok nm_Md hown hK hst 54 (WS_o54 g σ) rfl 1 (by decide) (hts _ gw1065) (fun _ h9 => h9) rfl (by decide +kernel) rfl rfl (Nat.le_of_ble_eq_true rfl) (WS_p54_1 g σ _) d_Md_holds_2 (fun σ1 H locs e1 hst => ?_)
  replace h := h σ1 e1
  refine lv_aload_n hx hb d_Md_holds_5 rfl (lv_at hl 0 rfl) ?_
  refine kw_calli (va_runV (As := []) (rest := []) (b := g.1 54) ⟨hx, hb, hml, hown, hts⟩ (c_Md_prepared l h) (cwV 0 hts (gd_v gw1341 gw1343 gs63 gw15 gw1344) rfl rfl rfl (by decide +kernel) ⟨Nat.le_of_ble_eq_true rfl, Nat.le_of_ble_eq_true rfl⟩) ⟨kw_blind (Zk_ok g), va_recv hK hst.1 rfl (WS_o54 g σ1), kw_pre (Zk_ok g) hK hZ hA hst⟩ rfl rfl hl.1 rfl (lv_room (Nat.le_of_ble_eq_true rfl)) d_Md_holds_6 ⟨Nat.le_of_ble_eq_true rfl, Nat.le_of_ble_eq_true rfl⟩) hst hA (fun r2 σ2 H locs h hst => ?_)
  refine lv_istore_n hx hb d_Md_holds_9 rfl hl (by decide) rfl (fun ls hl => ?_)
  have hl : lv_has ls 4 [(3, .int r2), (0, .ref (g.1 54)), (1, .int x1), (2, .int x2)] := hl
  refine lv_iload_n hx hb d_Md_holds_10 rfl (lv_at hl 2 rfl) ?_
  refine lv_if_lt (tgt := 38) hx hb d_Md_holds_11 (by decide) (fun hc => ?_) (fun hc => ?_)
  · replace h := h.1 hc
    exact j1 x1 x2 σ2 _ _ _ (lv_sub hl [1, 2, 3] rfl) hst h
  · replace h := h.2 hc
    refine lv_iload_n hx hb d_Md_holds_14 rfl (lv_at hl 2 rfl) ?_
    refine lv_aload_n hx hb d_Md_holds_15 rfl (lv_at hl 1 rfl) ?_
    refine va_get (D := D) (ci := 10) (C := R_Md) (T := T_Md) (N := 46) hx hb hts in_Md hown hK hst.1 54 (WS_o54 g σ2) rfl 4 (by decide) (hts _ gw1068) (fun _ h9 => h9) rfl d_Md_holds_16 ?_
    refine lv_iconst (v := (0 : Int32)) hx hb d_Md_holds_19 (by decide) ?_
    obtain ⟨hi, h⟩ := h
    refine va_iald hx hb hK hst.1 58 0 (WS_a58 g σ2) rfl hi d_Md_holds_20 ?_
    refine lv_icmp_ge (tgt := 38) hx hb d_Md_holds_21 (by decide) (fun hc => ?_) (fun hc => ?_)
    · replace h := h.1 hc
      exact j1 x1 x2 σ2 _ _ _ (lv_sub hl [1, 2, 3] rfl) hst h
    · replace h := h.2 hc
      refine lv_iload_n hx hb d_Md_holds_24 rfl (lv_at hl 3 rfl) ?_
      refine lv_if_lt (tgt := 38) hx hb d_Md_holds_25 (by decide) (fun hc => ?_) (fun hc => ?_)
      · replace h := h.1 hc
        exact j1 x1 x2 σ2 _ _ _ (lv_sub hl [1, 2, 3] rfl) hst h
      · replace h := h.2 hc
        refine lv_iload_n hx hb d_Md_holds_28 rfl (lv_at hl 3 rfl) ?_
        refine lv_aload_n hx hb d_Md_holds_29 rfl (lv_at hl 1 rfl) ?_
        refine va_get (D := D) (ci := 10) (C := R_Md) (T := T_Md) (N := 46) hx hb hts in_Md hown hK hst.1 54 (WS_o54 g σ2) rfl 4 (by decide) (hts _ gw1068) (fun _ h9 => h9) rfl d_Md_holds_30 ?_
        refine lv_iconst (v := (1 : Int32)) hx hb d_Md_holds_33 (by decide) ?_
        obtain ⟨hi, h⟩ := h
        refine va_iald hx hb hK hst.1 58 0 (WS_a58 g σ2) rfl hi d_Md_holds_34 ?_
        refine lv_icmp_lt (tgt := 46) hx hb d_Md_holds_35 (by decide) (fun hc => ?_) (fun hc => ?_)
        · replace h := h.1 hc
          refine lv_iload_n hx hb d_Md_holds_46 rfl (lv_at hl 0 rfl) ?_
          refine lv_if_ne (tgt := 55) hx hb d_Md_holds_47 (by decide) (fun hc => ?_) (fun hc => ?_)
          · replace h := h.1 hc
            exact j2 x1 x2 σ2 _ _ _ (lv_sub hl [1, 2, 3] rfl) hst h
          · replace h := h.2 hc
            refine lv_aload_n hx hb d_Md_holds_50 rfl (lv_at hl 1 rfl) ?_
            refine lv_iconst (v := (2 : Int32)) hx hb d_Md_holds_51 (by decide) ?_
            refine kw_put (D := D) (ci := 10) (ty := .int) (C := R_Md) (T := T_Md) (N := 46) hx hb hts in_Md ty_Md ty_Md_ok nm_Md hown hK hst 54 (WS_o54 g σ2) rfl 1 (by decide) (hts _ gw1065) (fun _ h9 => h9) rfl (by decide +kernel) rfl rfl (Nat.le_of_ble_eq_true rfl) (WS_p54_1 g σ2 _) d_Md_holds_52 (fun σ3 H locs e3 hst => ?_)
            replace h := h σ3 e3
            exact j2 x1 x2 σ3 _ _ _ (lv_sub hl [1, 2, 3] rfl) hst h
        · replace h := h.2 hc
          exact j1 x1 x2 σ2 _ _ _ (lv_sub hl [1, 2, 3] rfl) hst h
set_option maxRecDepth 100000 in
set_option maxHeartbeats 4000000 in
theorem b_Md_holds_1 {p : Program} {l : Launch} {e : Env} {s : State} {m : MethodId} {args : Array Value} {below : List Frame} {meth : Method} {c : Code} {D : va_G} {g : Gm} {A : Nat → Prop} {post : Int32 → Sg → Prop} {F : Nat → Int32 → Int32 → Sg → Prop} (C : kC p s m args meth c k_Md_holds 4 (some .boolean) GW R_Md D vwCl g (Zk g) A) (j2 : J_Md_holds_2 p l e s m args below meth c D g A post F) (x1 : Int32) (x2 : Int32) (σ : Sg) (H : Heap) (locs : List Loc) (ls : Array Slot) (hl : lv_has ls 4 [(0, .ref (g.1 54)), (1, .int x1), (2, .int x2)]) (hst : Wst D vwCl (WS g) A s σ H locs) (h : wb_Md_holds_1 F post x1 x2 σ) : W p l e { frames := 8, cells := 0, slots := 0, locals := 199 } s m args below meth c H locs 0 0 (MQ below (QiW D vwCl (WS g) post A) args s 0 0 A) (F0 m 38 ls []) := by
  obtain ⟨hx, hb, hr, hml, hown, hts, hlocks, hK, hZ, hA⟩ := C
  unfold wb_Md_holds_1 at h
  refine lv_aload_n hx hb d_Md_holds_38 rfl (lv_at hl 0 rfl) ?_
  refine lv_iconst (v := (1 : Int32)) hx hb d_Md_holds_39 (by decide) ?_
  refine kw_put (D := D) (ci := 10) (ty := .int) (C := R_Md) (T := T_Md) (N := 46) hx hb hts in_Md ty_Md ty_Md_ok nm_Md hown hK hst 54 (WS_o54 g σ) rfl 1 (by decide) (hts _ gw1065) (fun _ h9 => h9) rfl (by decide +kernel) rfl rfl (Nat.le_of_ble_eq_true rfl) (WS_p54_1 g σ _) d_Md_holds_40 (fun σ1 H locs e1 hst => ?_)
  replace h := h σ1 e1
  refine lv_goto (tgt := 55) hx hb d_Md_holds_43 (by decide) ?_
  exact j2 x1 x2 σ1 _ _ _ (lv_sub hl [0, 1, 2] rfl) hst h
set_option maxRecDepth 100000 in
set_option maxHeartbeats 4000000 in
theorem b_Md_holds_2 {p : Program} {l : Launch} {e : Env} {s : State} {m : MethodId} {args : Array Value} {below : List Frame} {meth : Method} {c : Code} {D : va_G} {g : Gm} {A : Nat → Prop} {post : Int32 → Sg → Prop} {F : Nat → Int32 → Int32 → Sg → Prop} (C : kC p s m args meth c k_Md_holds 4 (some .boolean) GW R_Md D vwCl g (Zk g) A) (x1 : Int32) (x2 : Int32) (σ : Sg) (H : Heap) (locs : List Loc) (ls : Array Slot) (hl : lv_has ls 4 [(0, .ref (g.1 54)), (1, .int x1), (2, .int x2)]) (hst : Wst D vwCl (WS g) A s σ H locs) (h : wb_Md_holds_2 F post x1 x2 σ) : W p l e { frames := 8, cells := 0, slots := 0, locals := 199 } s m args below meth c H locs 0 0 (MQ below (QiW D vwCl (WS g) post A) args s 0 0 A) (F0 m 55 ls []) := by
  obtain ⟨hx, hb, hr, hml, hown, hts, hlocks, hK, hZ, hA⟩ := C
  unfold wb_Md_holds_2 at h
  refine lv_aload_n hx hb d_Md_holds_55 rfl (lv_at hl 0 rfl) ?_
  refine va_get (D := D) (ci := 10) (C := R_Md) (T := T_Md) (N := 46) hx hb hts in_Md hown hK hst.1 54 (WS_o54 g σ) rfl 1 (by decide) (hts _ gw1065) (fun _ h9 => h9) rfl d_Md_holds_56 ?_
  refine lv_if_eq (tgt := 64) hx hb d_Md_holds_59 (by decide) (fun hc => ?_) (fun hc => ?_)
  · replace h := h.1 hc
    refine lv_aload_n hx hb d_Md_holds_64 rfl (lv_at hl 0 rfl) ?_
    refine kw_callv (va_runV (As := []) (rest := []) (b := g.1 54) ⟨hx, hb, hml, hown, hts⟩ (c_Md_judgeAll l h) (cwV 0 hts (gd_v gw1357 gw1359 gs67 gw15 gw1360) rfl rfl rfl (by decide +kernel) ⟨Nat.le_of_ble_eq_true rfl, Nat.le_of_ble_eq_true rfl⟩) ⟨kw_blind (Zk_ok g), va_recv hK hst.1 rfl (WS_o54 g σ), kw_pre (Zk_ok g) hK hZ hA hst⟩ rfl rfl hl.1 rfl (lv_room (Nat.le_of_ble_eq_true rfl)) d_Md_holds_65 ⟨Nat.le_of_ble_eq_true rfl, Nat.le_of_ble_eq_true rfl⟩) hst hA (fun σ1 H locs h hst => ?_)
    refine lv_aload_n hx hb d_Md_holds_68 rfl (lv_at hl 0 rfl) ?_
    refine lv_iload_n hx hb d_Md_holds_69 rfl (lv_at hl 1 rfl) ?_
    refine lv_sipush (v := (160 : Int32)) hx hb d_Md_holds_70 (by decide) ?_
    refine lv_iload_n hx hb d_Md_holds_73 rfl (lv_at hl 2 rfl) ?_
    refine lv_iadd hx hb d_Md_holds_74 ?_
    refine kw_calli (va_runV (As := [.int x1, .int ((160 : Int32) + x2)]) (rest := []) (b := g.1 54) ⟨hx, hb, hml, hown, hts⟩ (c_Md_isSo l x1 ((160 : Int32) + x2) h) (cwV 2 hts (gd_v gw1396 gw1398 gs76 gw15 gw1399) rfl rfl rfl (by decide +kernel) ⟨Nat.le_of_ble_eq_true rfl, Nat.le_of_ble_eq_true rfl⟩) ⟨kw_blind (Zk_ok g), va_recv hK hst.1 rfl (WS_o54 g σ1), kw_pre (Zk_ok g) hK hZ hA hst⟩ rfl rfl hl.1 rfl (lv_room (Nat.le_of_ble_eq_true rfl)) d_Md_holds_75 ⟨Nat.le_of_ble_eq_true rfl, Nat.le_of_ble_eq_true rfl⟩) hst hA (fun r2 σ2 H locs h hst => ?_)
    exact kw_zret hx hb hr hlocks hst h d_Md_holds_78
  · replace h := h.2 hc
    refine lv_iconst (v := (0 : Int32)) hx hb d_Md_holds_62 (by decide) ?_
    exact kw_zret hx hb hr hlocks hst h d_Md_holds_63
set_option maxRecDepth 100000 in
set_option maxHeartbeats 4000000 in
theorem a_Md_holds {p : Program} {l : Launch} {e : Env} {s : State} {m : MethodId} {args : Array Value} {below : List Frame} {meth : Method} {c : Code} {D : va_G} {g : Gm} {A : Nat → Prop} {post : Int32 → Sg → Prop} (C : kC p s m args meth c k_Md_holds 4 (some .boolean) GW R_Md D vwCl g (Zk g) A) : ∀ n : Nat, J_Md_holds_1 p l e s m args below meth c D g A post (wp_Md_holds post n) ∧ J_Md_holds_2 p l e s m args below meth c D g A post (wp_Md_holds post n) := by
  intro n
  induction n with
  | zero => exact ⟨fun _ _ _ _ _ _ _ _ h => h.elim, fun _ _ _ _ _ _ _ _ h => h.elim⟩
  | succ n ih => exact ⟨fun x1 x2 σ H locs ls hl hst h => b_Md_holds_1 (F := wp_Md_holds post n) C (ih.2) x1 x2 σ H locs ls hl hst h, fun x1 x2 σ H locs ls hl hst h => b_Md_holds_2 (F := wp_Md_holds post n) C x1 x2 σ H locs ls hl hst h⟩
set_option maxRecDepth 100000 in
set_option maxHeartbeats 4000000 in
theorem c_Md_holds (l : Launch) {D : va_G} {g : Gm} {sz : Nat} (x1 : Int32) (x2 : Int32) {σ : Sg} {post : Int32 → Sg → Prop} (h : wq_Md_holds x1 x2 σ post) : Met l y_Md_holds (.code y_Md_holds k_Md_holds 4 (some .boolean) :: GW) { frames := 8, cells := 0, slots := 0, locals := 199 } (PcW D vwCl (WS g) g (Zk g) σ sz [.ref (g.1 54), .int x1, .int x2]) (QiW D vwCl (WS g) post (va_A (WS g σ) sz)) 0 0 (va_A (WS g σ) sz) := by
  refine kw_entry (own := R_Md) (by decide) rfl rfl (Nat.le_of_ble_eq_true rfl) ?_
  intro p e s m below meth c ls hsz C hin hl hst
  obtain ⟨n, h⟩ := h
  cases n with
  | zero => exact h.elim
  | succ n =>
    have ih := a_Md_holds (l := l) (e := e) (below := below) (post := post) C n
    exact b_Md_holds_0 (F := wp_Md_holds post n) C (ih.1) (ih.2) x1 x2 σ _ _ ls hl hst h
/-! SchemaDeskModel.reportChildren (III)V -/
abbrev k_Md_reportChildren : ByteArray := prog_12_method_64_code
abbrev y_Md_reportChildren : MethodName := ⟨"SchemaDeskModel", "reportChildren", "(III)V"⟩
theorem d_Md_reportChildren_0 : decode k_Md_reportChildren 0 = .ok (.aload_n 0, 1) := by decide +kernel
theorem d_Md_reportChildren_1 : decode k_Md_reportChildren 1 = .ok (.iload_n 1, 1) := by decide +kernel
theorem d_Md_reportChildren_2 : decode k_Md_reportChildren 2 = .ok (.iload_n 3, 1) := by decide +kernel
theorem d_Md_reportChildren_3 : decode k_Md_reportChildren 3 = .ok (.invokevirtual 342, 3) := by decide +kernel
theorem d_Md_reportChildren_6 : decode k_Md_reportChildren 6 = .ok (.aload_n 0, 1) := by decide +kernel
theorem d_Md_reportChildren_7 : decode k_Md_reportChildren 7 = .ok (.getfield 277, 3) := by decide +kernel
theorem d_Md_reportChildren_10 : decode k_Md_reportChildren 10 = .ok (.lstore 4, 2) := by decide +kernel
theorem d_Md_reportChildren_12 : decode k_Md_reportChildren 12 = .ok (.aload_n 0, 1) := by decide +kernel
theorem d_Md_reportChildren_13 : decode k_Md_reportChildren 13 = .ok (.getfield 281, 3) := by decide +kernel
theorem d_Md_reportChildren_16 : decode k_Md_reportChildren 16 = .ok (.lstore 6, 2) := by decide +kernel
theorem d_Md_reportChildren_18 : decode k_Md_reportChildren 18 = .ok (.aload_n 0, 1) := by decide +kernel
theorem d_Md_reportChildren_19 : decode k_Md_reportChildren 19 = .ok (.getfield 95, 3) := by decide +kernel
theorem d_Md_reportChildren_22 : decode k_Md_reportChildren 22 = .ok (.iload_n 3, 1) := by decide +kernel
theorem d_Md_reportChildren_23 : decode k_Md_reportChildren 23 = .ok (.iaload, 1) := by decide +kernel
theorem d_Md_reportChildren_24 : decode k_Md_reportChildren 24 = .ok (.istore 8, 2) := by decide +kernel
theorem d_Md_reportChildren_26 : decode k_Md_reportChildren 26 = .ok (.iload 8, 2) := by decide +kernel
theorem d_Md_reportChildren_28 : decode k_Md_reportChildren 28 = .ok (.ifCond .lt 62, 3) := by decide +kernel
theorem d_Md_reportChildren_31 : decode k_Md_reportChildren 31 = .ok (.aload_n 0, 1) := by decide +kernel
theorem d_Md_reportChildren_32 : decode k_Md_reportChildren 32 = .ok (.lload 4, 2) := by decide +kernel
theorem d_Md_reportChildren_34 : decode k_Md_reportChildren 34 = .ok (.putfield 277, 3) := by decide +kernel
theorem d_Md_reportChildren_37 : decode k_Md_reportChildren 37 = .ok (.aload_n 0, 1) := by decide +kernel
theorem d_Md_reportChildren_38 : decode k_Md_reportChildren 38 = .ok (.lload 6, 2) := by decide +kernel
theorem d_Md_reportChildren_40 : decode k_Md_reportChildren 40 = .ok (.putfield 281, 3) := by decide +kernel
theorem d_Md_reportChildren_43 : decode k_Md_reportChildren 43 = .ok (.aload_n 0, 1) := by decide +kernel
theorem d_Md_reportChildren_44 : decode k_Md_reportChildren 44 = .ok (.iload_n 1, 1) := by decide +kernel
theorem d_Md_reportChildren_45 : decode k_Md_reportChildren 45 = .ok (.iload_n 2, 1) := by decide +kernel
theorem d_Md_reportChildren_46 : decode k_Md_reportChildren 46 = .ok (.iload 8, 2) := by decide +kernel
theorem d_Md_reportChildren_48 : decode k_Md_reportChildren 48 = .ok (.iload_n 3, 1) := by decide +kernel
theorem d_Md_reportChildren_49 : decode k_Md_reportChildren 49 = .ok (.invokevirtual 316, 3) := by decide +kernel
theorem d_Md_reportChildren_52 : decode k_Md_reportChildren 52 = .ok (.istore 9, 2) := by decide +kernel
theorem d_Md_reportChildren_54 : decode k_Md_reportChildren 54 = .ok (.iload 9, 2) := by decide +kernel
theorem d_Md_reportChildren_56 : decode k_Md_reportChildren 56 = .ok (.ifCond .lt 22, 3) := by decide +kernel
theorem d_Md_reportChildren_59 : decode k_Md_reportChildren 59 = .ok (.aload_n 0, 1) := by decide +kernel
theorem d_Md_reportChildren_60 : decode k_Md_reportChildren 60 = .ok (.iload 9, 2) := by decide +kernel
theorem d_Md_reportChildren_62 : decode k_Md_reportChildren 62 = .ok (.iload 8, 2) := by decide +kernel
theorem d_Md_reportChildren_64 : decode k_Md_reportChildren 64 = .ok (.invokevirtual 320, 3) := by decide +kernel
theorem d_Md_reportChildren_67 : decode k_Md_reportChildren 67 = .ok (.ifCond .ne 11, 3) := by decide +kernel
theorem d_Md_reportChildren_70 : decode k_Md_reportChildren 70 = .ok (.aload_n 0, 1) := by decide +kernel
theorem d_Md_reportChildren_71 : decode k_Md_reportChildren 71 = .ok (.iload 9, 2) := by decide +kernel
theorem d_Md_reportChildren_73 : decode k_Md_reportChildren 73 = .ok (.iload 8, 2) := by decide +kernel
theorem d_Md_reportChildren_75 : decode k_Md_reportChildren 75 = .ok (.invokevirtual 373, 3) := by decide +kernel
theorem d_Md_reportChildren_78 : decode k_Md_reportChildren 78 = .ok (.aload_n 0, 1) := by decide +kernel
theorem d_Md_reportChildren_79 : decode k_Md_reportChildren 79 = .ok (.getfield 98, 3) := by decide +kernel
theorem d_Md_reportChildren_82 : decode k_Md_reportChildren 82 = .ok (.iload 8, 2) := by decide +kernel
theorem d_Md_reportChildren_84 : decode k_Md_reportChildren 84 = .ok (.iaload, 1) := by decide +kernel
theorem d_Md_reportChildren_85 : decode k_Md_reportChildren 85 = .ok (.istore 8, 2) := by decide +kernel
theorem d_Md_reportChildren_87 : decode k_Md_reportChildren 87 = .ok (.goto (-61), 3) := by decide +kernel
theorem d_Md_reportChildren_90 : decode k_Md_reportChildren 90 = .ok (.return_, 1) := by decide +kernel
def wb_Md_reportChildren_0 (F : Nat → Int32 → Int32 → Int32 → Int32 → Int64 → Int64 → Sg → Prop) (post : Sg → Prop) (x1 : Int32) (x2 : Int32) (x3 : Int32) (σ : Sg) : Prop := (wq_Md_evaluate x1 x3 σ (fun σ1 => (vp_in x3 240 ∧ F 1 x1 x2 x3 (σ1.1 65 x3.toNatClampNeg) (σ1.2.1 54 38) (σ1.2.1 54 39) σ1)))
def wb_Md_reportChildren_1 (F : Nat → Int32 → Int32 → Int32 → Int32 → Int64 → Int64 → Sg → Prop) (post : Sg → Prop) (x1 : Int32) (x2 : Int32) (x3 : Int32) (y4 : Int64) (y6 : Int64) (x8 : Int32) (σ : Sg) : Prop := ((x8 < 0 → post σ) ∧ (¬ x8 < 0 → (∀ σ1, σ1 = sl σ 54 38 y4 → (∀ σ2, σ2 = sl σ1 54 39 y6 → (wq_Md_spokenOf x1 x2 x8 x3 σ2 (fun r3 σ3 => ((r3 < 0 → (vp_in x8 240 ∧ F 1 x1 x2 x3 (σ3.1 66 x8.toNatClampNeg) y4 y6 σ3)) ∧ (¬ r3 < 0 → (wq_Md_isSo r3 x8 σ3 (fun r4 σ4 => ((¬ r4 = 0 → (vp_in x8 240 ∧ F 1 x1 x2 x3 (σ4.1 66 x8.toNatClampNeg) y4 y6 σ4)) ∧ (r4 = 0 → (wq_Md_mark r3 x8 σ4 (fun σ5 => (vp_in x8 240 ∧ F 1 x1 x2 x3 (σ5.1 66 x8.toNatClampNeg) y4 y6 σ5)))))))))))))))
def wp_Md_reportChildren (post : Sg → Prop) : Nat → Nat → Int32 → Int32 → Int32 → Int32 → Int64 → Int64 → Sg → Prop
  | 0, _, _, _, _, _, _, _, _ => False
  | n + 1, k, x1, x2, x3, x8, y4, y6, σ => match k with
    | 0 => wb_Md_reportChildren_0 (wp_Md_reportChildren post n) post x1 x2 x3 σ
    | 1 => wb_Md_reportChildren_1 (wp_Md_reportChildren post n) post x1 x2 x3 y4 y6 x8 σ
    | _ => False
def wq_Md_reportChildren (x1 : Int32) (x2 : Int32) (x3 : Int32) (σ : Sg) (post : Sg → Prop) : Prop := ∃ n, wp_Md_reportChildren post n 0 x1 x2 x3 0 0 0 σ
def J_Md_reportChildren_1 (p : Program) (l : Launch) (e : Env) (s : State) (m : MethodId) (args : Array Value) (below : List Frame) (meth : Method) (c : Code) (D : va_G) (g : Gm) (A : Nat → Prop) (post : Sg → Prop) (F : Nat → Int32 → Int32 → Int32 → Int32 → Int64 → Int64 → Sg → Prop) : Prop := ∀ (x1 : Int32) (x2 : Int32) (x3 : Int32) (y4 : Int64) (y6 : Int64) (x8 : Int32) (σ : Sg) (H : Heap) (locs : List Loc) (ls : Array Slot), lv_has ls 10 [(0, .ref (g.1 54)), (1, .int x1), (2, .int x2), (3, .int x3), (4, .long y4), (6, .long y6), (8, .int x8)] → Wst D vwCl (WS g) A s σ H locs → F 1 x1 x2 x3 x8 y4 y6 σ → W p l e { frames := 4, cells := 0, slots := 0, locals := 100 } s m args below meth c H locs 0 0 (MQ below (QvW D vwCl (WS g) post A) args s 0 0 A) (F0 m 26 ls [])
set_option maxRecDepth 100000 in
set_option maxHeartbeats 4000000 in
theorem b_Md_reportChildren_0 {p : Program} {l : Launch} {e : Env} {s : State} {m : MethodId} {args : Array Value} {below : List Frame} {meth : Method} {c : Code} {D : va_G} {g : Gm} {A : Nat → Prop} {post : Sg → Prop} {F : Nat → Int32 → Int32 → Int32 → Int32 → Int64 → Int64 → Sg → Prop} (C : kC p s m args meth c k_Md_reportChildren 10 (none) GW R_Md D vwCl g (Zk g) A) (j1 : J_Md_reportChildren_1 p l e s m args below meth c D g A post F) (x1 : Int32) (x2 : Int32) (x3 : Int32) (σ : Sg) (H : Heap) (locs : List Loc) (ls : Array Slot) (hl : lv_has ls 10 [(0, .ref (g.1 54)), (1, .int x1), (2, .int x2), (3, .int x3)]) (hst : Wst D vwCl (WS g) A s σ H locs) (h : wb_Md_reportChildren_0 F post x1 x2 x3 σ) : W p l e { frames := 4, cells := 0, slots := 0, locals := 100 } s m args below meth c H locs 0 0 (MQ below (QvW D vwCl (WS g) post A) args s 0 0 A) (F0 m 0 ls []) := by
  obtain ⟨hx, hb, hr, hml, hown, hts, hlocks, hK, hZ, hA⟩ := C
  unfold wb_Md_reportChildren_0 at h
  refine lv_aload_n hx hb d_Md_reportChildren_0 rfl (lv_at hl 0 rfl) ?_
  refine lv_iload_n hx hb d_Md_reportChildren_1 rfl (lv_at hl 1 rfl) ?_
  refine lv_iload_n hx hb d_Md_reportChildren_2 rfl (lv_at hl 3 rfl) ?_
  refine kw_callv (va_runV (As := [.int x1, .int x3]) (rest := []) (b := g.1 54) ⟨hx, hb, hml, hown, hts⟩ (c_Md_evaluate l x1 x3 h) (cwV 2 hts (gd_v gw1384 gw1386 gs73 gw15 gw1387) rfl rfl rfl (by decide +kernel) ⟨Nat.le_of_ble_eq_true rfl, Nat.le_of_ble_eq_true rfl⟩) ⟨kw_blind (Zk_ok g), va_recv hK hst.1 rfl (WS_o54 g σ), kw_pre (Zk_ok g) hK hZ hA hst⟩ rfl rfl hl.1 rfl (lv_room (Nat.le_of_ble_eq_true rfl)) d_Md_reportChildren_3 ⟨Nat.le_of_ble_eq_true rfl, Nat.le_of_ble_eq_true rfl⟩) hst hA (fun σ1 H locs h hst => ?_)
  refine lv_aload_n hx hb d_Md_reportChildren_6 rfl (lv_at hl 0 rfl) ?_
  refine va_get (D := D) (ci := 10) (C := R_Md) (T := T_Md) (N := 46) hx hb hts in_Md hown hK hst.1 54 (WS_o54 g σ1) rfl 38 (by decide) (hts _ gw1102) (fun _ h9 => h9) rfl d_Md_reportChildren_7 ?_
  refine lv_lstore hx hb d_Md_reportChildren_10 hl (by decide) rfl (fun ls hl => ?_)
  have hl : lv_has ls 10 [(4, .long (σ1.2.1 54 38)), (0, .ref (g.1 54)), (1, .int x1), (2, .int x2), (3, .int x3)] := hl
  refine lv_aload_n hx hb d_Md_reportChildren_12 rfl (lv_at hl 1 rfl) ?_
  refine va_get (D := D) (ci := 10) (C := R_Md) (T := T_Md) (N := 46) hx hb hts in_Md hown hK hst.1 54 (WS_o54 g σ1) rfl 39 (by decide) (hts _ gw1103) (fun _ h9 => h9) rfl d_Md_reportChildren_13 ?_
  refine lv_lstore hx hb d_Md_reportChildren_16 hl (by decide) rfl (fun ls hl => ?_)
  have hl : lv_has ls 10 [(6, .long (σ1.2.1 54 39)), (4, .long (σ1.2.1 54 38)), (0, .ref (g.1 54)), (1, .int x1), (2, .int x2), (3, .int x3)] := hl
  refine lv_aload_n hx hb d_Md_reportChildren_18 rfl (lv_at hl 2 rfl) ?_
  refine va_get (D := D) (ci := 10) (C := R_Md) (T := T_Md) (N := 46) hx hb hts in_Md hown hK hst.1 54 (WS_o54 g σ1) rfl 11 (by decide) (hts _ gw1075) (fun _ h9 => h9) rfl d_Md_reportChildren_19 ?_
  refine lv_iload_n hx hb d_Md_reportChildren_22 rfl (lv_at hl 5 rfl) ?_
  obtain ⟨hi, h⟩ := h
  refine va_iald hx hb hK hst.1 65 0 (WS_a65 g σ1) rfl hi d_Md_reportChildren_23 ?_
  refine lv_istore hx hb d_Md_reportChildren_24 hl (by decide) rfl (fun ls hl => ?_)
  have hl : lv_has ls 10 [(8, .int (σ1.1 65 x3.toNatClampNeg)), (6, .long (σ1.2.1 54 39)), (4, .long (σ1.2.1 54 38)), (0, .ref (g.1 54)), (1, .int x1), (2, .int x2), (3, .int x3)] := hl
  exact j1 x1 x2 x3 (σ1.2.1 54 38) (σ1.2.1 54 39) (σ1.1 65 x3.toNatClampNeg) σ1 _ _ _ (lv_sub hl [3, 4, 5, 6, 2, 1, 0] rfl) hst h
set_option maxRecDepth 100000 in
set_option maxHeartbeats 4000000 in
theorem b_Md_reportChildren_1 {p : Program} {l : Launch} {e : Env} {s : State} {m : MethodId} {args : Array Value} {below : List Frame} {meth : Method} {c : Code} {D : va_G} {g : Gm} {A : Nat → Prop} {post : Sg → Prop} {F : Nat → Int32 → Int32 → Int32 → Int32 → Int64 → Int64 → Sg → Prop} (C : kC p s m args meth c k_Md_reportChildren 10 (none) GW R_Md D vwCl g (Zk g) A) (j1 : J_Md_reportChildren_1 p l e s m args below meth c D g A post F) (x1 : Int32) (x2 : Int32) (x3 : Int32) (y4 : Int64) (y6 : Int64) (x8 : Int32) (σ : Sg) (H : Heap) (locs : List Loc) (ls : Array Slot) (hl : lv_has ls 10 [(0, .ref (g.1 54)), (1, .int x1), (2, .int x2), (3, .int x3), (4, .long y4), (6, .long y6), (8, .int x8)]) (hst : Wst D vwCl (WS g) A s σ H locs) (h : wb_Md_reportChildren_1 F post x1 x2 x3 y4 y6 x8 σ) : W p l e { frames := 4, cells := 0, slots := 0, locals := 100 } s m args below meth c H locs 0 0 (MQ below (QvW D vwCl (WS g) post A) args s 0 0 A) (F0 m 26 ls []) := by
  obtain ⟨hx, hb, hr, hml, hown, hts, hlocks, hK, hZ, hA⟩ := C
  unfold wb_Md_reportChildren_1 at h
  refine lv_iload hx hb d_Md_reportChildren_26 (lv_at hl 6 rfl) ?_
  refine lv_if_lt (tgt := 90) hx hb d_Md_reportChildren_28 (by decide) (fun hc => ?_) (fun hc => ?_)
  · replace h := h.1 hc
    exact kw_vret hx hb hr hlocks hst h d_Md_reportChildren_90
  · replace h := h.2 hc
    refine lv_aload_n hx hb d_Md_reportChildren_31 rfl (lv_at hl 0 rfl) ?_
    refine lv_lload hx hb d_Md_reportChildren_32 (lv_at hl 4 rfl) ?_
    refine kw_putl (D := D) (ci := 10) (ty := .long) (C := R_Md) (T := T_Md) (N := 46) hx hb hts in_Md ty_Md ty_Md_ok nm_Md hown hK hst 54 (WS_o54 g σ) rfl 38 (by decide) (hts _ gw1102) (fun _ h9 => h9) rfl (by decide +kernel) rfl rfl (Nat.le_of_ble_eq_true rfl) (WS_p54_38 g σ _) d_Md_reportChildren_34 (fun σ1 H locs e1 hst => ?_)
    replace h := h σ1 e1
    refine lv_aload_n hx hb d_Md_reportChildren_37 rfl (lv_at hl 0 rfl) ?_
    refine lv_lload hx hb d_Md_reportChildren_38 (lv_at hl 5 rfl) ?_
    refine kw_putl (D := D) (ci := 10) (ty := .long) (C := R_Md) (T := T_Md) (N := 46) hx hb hts in_Md ty_Md ty_Md_ok nm_Md hown hK hst 54 (WS_o54 g σ1) rfl 39 (by decide) (hts _ gw1103) (fun _ h9 => h9) rfl (by decide +kernel) rfl rfl (Nat.le_of_ble_eq_true rfl) (WS_p54_39 g σ1 _) d_Md_reportChildren_40 (fun σ2 H locs e2 hst => ?_)
    replace h := h σ2 e2
    refine lv_aload_n hx hb d_Md_reportChildren_43 rfl (lv_at hl 0 rfl) ?_
    refine lv_iload_n hx hb d_Md_reportChildren_44 rfl (lv_at hl 1 rfl) ?_
    refine lv_iload_n hx hb d_Md_reportChildren_45 rfl (lv_at hl 2 rfl) ?_
    refine lv_iload hx hb d_Md_reportChildren_46 (lv_at hl 6 rfl) ?_
    refine lv_iload_n hx hb d_Md_reportChildren_48 rfl (lv_at hl 3 rfl) ?_
    refine kw_calli (va_runV (As := [.int x1, .int x2, .int x8, .int x3]) (rest := []) (b := g.1 54) ⟨hx, hb, hml, hown, hts⟩ (c_Md_spokenOf l x1 x2 x8 x3 h) (cwV 4 hts (gd_v gw1424 gw1426 gs83 gw15 gw1427) rfl rfl rfl (by decide +kernel) ⟨Nat.le_of_ble_eq_true rfl, Nat.le_of_ble_eq_true rfl⟩) ⟨kw_blind (Zk_ok g), va_recv hK hst.1 rfl (WS_o54 g σ2), kw_pre (Zk_ok g) hK hZ hA hst⟩ rfl rfl hl.1 rfl (lv_room (Nat.le_of_ble_eq_true rfl)) d_Md_reportChildren_49 ⟨Nat.le_of_ble_eq_true rfl, Nat.le_of_ble_eq_true rfl⟩) hst hA (fun r3 σ3 H locs h hst => ?_)
    refine lv_istore hx hb d_Md_reportChildren_52 hl (by decide) rfl (fun ls hl => ?_)
    have hl : lv_has ls 10 [(9, .int r3), (0, .ref (g.1 54)), (1, .int x1), (2, .int x2), (3, .int x3), (4, .long y4), (6, .long y6), (8, .int x8)] := hl
    refine lv_iload hx hb d_Md_reportChildren_54 (lv_at hl 0 rfl) ?_
    refine lv_if_lt (tgt := 78) hx hb d_Md_reportChildren_56 (by decide) (fun hc => ?_) (fun hc => ?_)
    · replace h := h.1 hc
      refine lv_aload_n hx hb d_Md_reportChildren_78 rfl (lv_at hl 1 rfl) ?_
      refine va_get (D := D) (ci := 10) (C := R_Md) (T := T_Md) (N := 46) hx hb hts in_Md hown hK hst.1 54 (WS_o54 g σ3) rfl 12 (by decide) (hts _ gw1076) (fun _ h9 => h9) rfl d_Md_reportChildren_79 ?_
      refine lv_iload hx hb d_Md_reportChildren_82 (lv_at hl 7 rfl) ?_
      obtain ⟨hi, h⟩ := h
      refine va_iald hx hb hK hst.1 66 0 (WS_a66 g σ3) rfl hi d_Md_reportChildren_84 ?_
      refine lv_istore hx hb d_Md_reportChildren_85 hl (by decide) rfl (fun ls hl => ?_)
      have hl : lv_has ls 10 [(8, .int (σ3.1 66 x8.toNatClampNeg)), (9, .int r3), (0, .ref (g.1 54)), (1, .int x1), (2, .int x2), (3, .int x3), (4, .long y4), (6, .long y6)] := hl
      refine lv_goto (tgt := 26) hx hb d_Md_reportChildren_87 (by decide) ?_
      exact j1 x1 x2 x3 y4 y6 (σ3.1 66 x8.toNatClampNeg) σ3 _ _ _ (lv_sub hl [2, 3, 4, 5, 6, 7, 0] rfl) hst h
    · replace h := h.2 hc
      refine lv_aload_n hx hb d_Md_reportChildren_59 rfl (lv_at hl 1 rfl) ?_
      refine lv_iload hx hb d_Md_reportChildren_60 (lv_at hl 0 rfl) ?_
      refine lv_iload hx hb d_Md_reportChildren_62 (lv_at hl 7 rfl) ?_
      refine kw_calli (va_runV (As := [.int r3, .int x8]) (rest := []) (b := g.1 54) ⟨hx, hb, hml, hown, hts⟩ (c_Md_isSo l r3 x8 h) (cwV 2 hts (gd_v gw1396 gw1398 gs76 gw15 gw1399) rfl rfl rfl (by decide +kernel) ⟨Nat.le_of_ble_eq_true rfl, Nat.le_of_ble_eq_true rfl⟩) ⟨kw_blind (Zk_ok g), va_recv hK hst.1 rfl (WS_o54 g σ3), kw_pre (Zk_ok g) hK hZ hA hst⟩ rfl rfl hl.1 rfl (lv_room (Nat.le_of_ble_eq_true rfl)) d_Md_reportChildren_64 ⟨Nat.le_of_ble_eq_true rfl, Nat.le_of_ble_eq_true rfl⟩) hst hA (fun r4 σ4 H locs h hst => ?_)
      refine lv_if_ne (tgt := 78) hx hb d_Md_reportChildren_67 (by decide) (fun hc => ?_) (fun hc => ?_)
      · replace h := h.1 hc
        refine lv_aload_n hx hb d_Md_reportChildren_78 rfl (lv_at hl 1 rfl) ?_
        refine va_get (D := D) (ci := 10) (C := R_Md) (T := T_Md) (N := 46) hx hb hts in_Md hown hK hst.1 54 (WS_o54 g σ4) rfl 12 (by decide) (hts _ gw1076) (fun _ h9 => h9) rfl d_Md_reportChildren_79 ?_
        refine lv_iload hx hb d_Md_reportChildren_82 (lv_at hl 7 rfl) ?_
        obtain ⟨hi, h⟩ := h
        refine va_iald hx hb hK hst.1 66 0 (WS_a66 g σ4) rfl hi d_Md_reportChildren_84 ?_
        refine lv_istore hx hb d_Md_reportChildren_85 hl (by decide) rfl (fun ls hl => ?_)
        have hl : lv_has ls 10 [(8, .int (σ4.1 66 x8.toNatClampNeg)), (9, .int r3), (0, .ref (g.1 54)), (1, .int x1), (2, .int x2), (3, .int x3), (4, .long y4), (6, .long y6)] := hl
        refine lv_goto (tgt := 26) hx hb d_Md_reportChildren_87 (by decide) ?_
        exact j1 x1 x2 x3 y4 y6 (σ4.1 66 x8.toNatClampNeg) σ4 _ _ _ (lv_sub hl [2, 3, 4, 5, 6, 7, 0] rfl) hst h
      · replace h := h.2 hc
        refine lv_aload_n hx hb d_Md_reportChildren_70 rfl (lv_at hl 1 rfl) ?_
        refine lv_iload hx hb d_Md_reportChildren_71 (lv_at hl 0 rfl) ?_
        refine lv_iload hx hb d_Md_reportChildren_73 (lv_at hl 7 rfl) ?_
        refine kw_callv (va_runV (As := [.int r3, .int x8]) (rest := []) (b := g.1 54) ⟨hx, hb, hml, hown, hts⟩ (c_Md_mark l r3 x8 h) (cwV 2 hts (gd_v gw1436 gw1438 gs85 gw15 gw1439) rfl rfl rfl (by decide +kernel) ⟨Nat.le_of_ble_eq_true rfl, Nat.le_of_ble_eq_true rfl⟩) ⟨kw_blind (Zk_ok g), va_recv hK hst.1 rfl (WS_o54 g σ4), kw_pre (Zk_ok g) hK hZ hA hst⟩ rfl rfl hl.1 rfl (lv_room (Nat.le_of_ble_eq_true rfl)) d_Md_reportChildren_75 ⟨Nat.le_of_ble_eq_true rfl, Nat.le_of_ble_eq_true rfl⟩) hst hA (fun σ5 H locs h hst => ?_)
        refine lv_aload_n hx hb d_Md_reportChildren_78 rfl (lv_at hl 1 rfl) ?_
        refine va_get (D := D) (ci := 10) (C := R_Md) (T := T_Md) (N := 46) hx hb hts in_Md hown hK hst.1 54 (WS_o54 g σ5) rfl 12 (by decide) (hts _ gw1076) (fun _ h9 => h9) rfl d_Md_reportChildren_79 ?_
        refine lv_iload hx hb d_Md_reportChildren_82 (lv_at hl 7 rfl) ?_
        obtain ⟨hi, h⟩ := h
        refine va_iald hx hb hK hst.1 66 0 (WS_a66 g σ5) rfl hi d_Md_reportChildren_84 ?_
        refine lv_istore hx hb d_Md_reportChildren_85 hl (by decide) rfl (fun ls hl => ?_)
        have hl : lv_has ls 10 [(8, .int (σ5.1 66 x8.toNatClampNeg)), (9, .int r3), (0, .ref (g.1 54)), (1, .int x1), (2, .int x2), (3, .int x3), (4, .long y4), (6, .long y6)] := hl
        refine lv_goto (tgt := 26) hx hb d_Md_reportChildren_87 (by decide) ?_
        exact j1 x1 x2 x3 y4 y6 (σ5.1 66 x8.toNatClampNeg) σ5 _ _ _ (lv_sub hl [2, 3, 4, 5, 6, 7, 0] rfl) hst h
set_option maxRecDepth 100000 in
set_option maxHeartbeats 4000000 in
theorem a_Md_reportChildren {p : Program} {l : Launch} {e : Env} {s : State} {m : MethodId} {args : Array Value} {below : List Frame} {meth : Method} {c : Code} {D : va_G} {g : Gm} {A : Nat → Prop} {post : Sg → Prop} (C : kC p s m args meth c k_Md_reportChildren 10 (none) GW R_Md D vwCl g (Zk g) A) : ∀ n : Nat, J_Md_reportChildren_1 p l e s m args below meth c D g A post (wp_Md_reportChildren post n) := by
  intro n
  induction n with
  | zero => exact fun _ _ _ _ _ _ _ _ _ _ _ _ h => h.elim
  | succ n ih => exact fun x1 x2 x3 y4 y6 x8 σ H locs ls hl hst h => b_Md_reportChildren_1 (F := wp_Md_reportChildren post n) C (ih) x1 x2 x3 y4 y6 x8 σ H locs ls hl hst h
set_option maxRecDepth 100000 in
set_option maxHeartbeats 4000000 in
theorem c_Md_reportChildren (l : Launch) {D : va_G} {g : Gm} {sz : Nat} (x1 : Int32) (x2 : Int32) (x3 : Int32) {σ : Sg} {post : Sg → Prop} (h : wq_Md_reportChildren x1 x2 x3 σ post) : Met l y_Md_reportChildren (.code y_Md_reportChildren k_Md_reportChildren 10 (none) :: GW) { frames := 4, cells := 0, slots := 0, locals := 100 } (PcW D vwCl (WS g) g (Zk g) σ sz [.ref (g.1 54), .int x1, .int x2, .int x3]) (QvW D vwCl (WS g) post (va_A (WS g σ) sz)) 0 0 (va_A (WS g σ) sz) := by
  refine kw_entry (own := R_Md) (by decide) rfl rfl (Nat.le_of_ble_eq_true rfl) ?_
  intro p e s m below meth c ls hsz C hin hl hst
  obtain ⟨n, h⟩ := h
  cases n with
  | zero => exact h.elim
  | succ n =>
    have ih := a_Md_reportChildren (l := l) (e := e) (below := below) (post := post) C n
    exact b_Md_reportChildren_0 (F := wp_Md_reportChildren post n) C (ih) x1 x2 x3 σ _ _ ls hl hst h
/-! SchemaDeskModel.propose (I)I -/
abbrev k_Md_propose : ByteArray := prog_12_method_72_code
abbrev y_Md_propose : MethodName := ⟨"SchemaDeskModel", "propose", "(I)I"⟩
theorem d_Md_propose_0 : decode k_Md_propose 0 = .ok (.aload_n 0, 1) := by decide +kernel
theorem d_Md_propose_1 : decode k_Md_propose 1 = .ok (.iconst 0, 1) := by decide +kernel
theorem d_Md_propose_2 : decode k_Md_propose 2 = .ok (.putfield 177, 3) := by decide +kernel
theorem d_Md_propose_5 : decode k_Md_propose 5 = .ok (.aload_n 0, 1) := by decide +kernel
theorem d_Md_propose_6 : decode k_Md_propose 6 = .ok (.invokevirtual 354, 3) := by decide +kernel
theorem d_Md_propose_9 : decode k_Md_propose 9 = .ok (.istore_n 2, 1) := by decide +kernel
theorem d_Md_propose_10 : decode k_Md_propose 10 = .ok (.iload_n 1, 1) := by decide +kernel
theorem d_Md_propose_11 : decode k_Md_propose 11 = .ok (.ifCond .lt 37, 3) := by decide +kernel
theorem d_Md_propose_14 : decode k_Md_propose 14 = .ok (.iload_n 1, 1) := by decide +kernel
theorem d_Md_propose_15 : decode k_Md_propose 15 = .ok (.aload_n 0, 1) := by decide +kernel
theorem d_Md_propose_16 : decode k_Md_propose 16 = .ok (.getfield 74, 3) := by decide +kernel
theorem d_Md_propose_19 : decode k_Md_propose 19 = .ok (.iconst 1, 1) := by decide +kernel
theorem d_Md_propose_20 : decode k_Md_propose 20 = .ok (.iaload, 1) := by decide +kernel
theorem d_Md_propose_21 : decode k_Md_propose 21 = .ok (.if_icmp .ge 27, 3) := by decide +kernel
theorem d_Md_propose_24 : decode k_Md_propose 24 = .ok (.aload_n 0, 1) := by decide +kernel
theorem d_Md_propose_25 : decode k_Md_propose 25 = .ok (.getfield 77, 3) := by decide +kernel
theorem d_Md_propose_28 : decode k_Md_propose 28 = .ok (.sipush 160, 3) := by decide +kernel
theorem d_Md_propose_31 : decode k_Md_propose 31 = .ok (.iload_n 1, 1) := by decide +kernel
theorem d_Md_propose_32 : decode k_Md_propose 32 = .ok (.iadd, 1) := by decide +kernel
theorem d_Md_propose_33 : decode k_Md_propose 33 = .ok (.iaload, 1) := by decide +kernel
theorem d_Md_propose_34 : decode k_Md_propose 34 = .ok (.bipush 6, 2) := by decide +kernel
theorem d_Md_propose_36 : decode k_Md_propose 36 = .ok (.if_icmp .ne 12, 3) := by decide +kernel
theorem d_Md_propose_39 : decode k_Md_propose 39 = .ok (.aload_n 0, 1) := by decide +kernel
theorem d_Md_propose_40 : decode k_Md_propose 40 = .ok (.getfield 74, 3) := by decide +kernel
theorem d_Md_propose_43 : decode k_Md_propose 43 = .ok (.iconst 0, 1) := by decide +kernel
theorem d_Md_propose_44 : decode k_Md_propose 44 = .ok (.iaload, 1) := by decide +kernel
theorem d_Md_propose_45 : decode k_Md_propose 45 = .ok (.ifCond .ne 9, 3) := by decide +kernel
theorem d_Md_propose_48 : decode k_Md_propose 48 = .ok (.aload_n 0, 1) := by decide +kernel
theorem d_Md_propose_49 : decode k_Md_propose 49 = .ok (.iconst 1, 1) := by decide +kernel
theorem d_Md_propose_50 : decode k_Md_propose 50 = .ok (.invokevirtual 274, 3) := by decide +kernel
theorem d_Md_propose_53 : decode k_Md_propose 53 = .ok (.ireturn, 1) := by decide +kernel
theorem d_Md_propose_54 : decode k_Md_propose 54 = .ok (.iload_n 2, 1) := by decide +kernel
theorem d_Md_propose_55 : decode k_Md_propose 55 = .ok (.ifCond .ne 9, 3) := by decide +kernel
theorem d_Md_propose_58 : decode k_Md_propose 58 = .ok (.aload_n 0, 1) := by decide +kernel
theorem d_Md_propose_59 : decode k_Md_propose 59 = .ok (.iconst 2, 1) := by decide +kernel
theorem d_Md_propose_60 : decode k_Md_propose 60 = .ok (.invokevirtual 274, 3) := by decide +kernel
theorem d_Md_propose_63 : decode k_Md_propose 63 = .ok (.ireturn, 1) := by decide +kernel
theorem d_Md_propose_64 : decode k_Md_propose 64 = .ok (.iconst 0, 1) := by decide +kernel
theorem d_Md_propose_65 : decode k_Md_propose 65 = .ok (.istore_n 3, 1) := by decide +kernel
theorem d_Md_propose_66 : decode k_Md_propose 66 = .ok (.iload_n 3, 1) := by decide +kernel
theorem d_Md_propose_67 : decode k_Md_propose 67 = .ok (.aload_n 0, 1) := by decide +kernel
theorem d_Md_propose_68 : decode k_Md_propose 68 = .ok (.getfield 74, 3) := by decide +kernel
theorem d_Md_propose_71 : decode k_Md_propose 71 = .ok (.iconst 0, 1) := by decide +kernel
theorem d_Md_propose_72 : decode k_Md_propose 72 = .ok (.iaload, 1) := by decide +kernel
theorem d_Md_propose_73 : decode k_Md_propose 73 = .ok (.if_icmp .ge 23, 3) := by decide +kernel
theorem d_Md_propose_76 : decode k_Md_propose 76 = .ok (.aload_n 0, 1) := by decide +kernel
theorem d_Md_propose_77 : decode k_Md_propose 77 = .ok (.getfield 153, 3) := by decide +kernel
theorem d_Md_propose_80 : decode k_Md_propose 80 = .ok (.iload_n 3, 1) := by decide +kernel
theorem d_Md_propose_81 : decode k_Md_propose 81 = .ok (.lconst 0, 1) := by decide +kernel
theorem d_Md_propose_82 : decode k_Md_propose 82 = .ok (.lastore, 1) := by decide +kernel
theorem d_Md_propose_83 : decode k_Md_propose 83 = .ok (.aload_n 0, 1) := by decide +kernel
theorem d_Md_propose_84 : decode k_Md_propose 84 = .ok (.getfield 156, 3) := by decide +kernel
theorem d_Md_propose_87 : decode k_Md_propose 87 = .ok (.iload_n 3, 1) := by decide +kernel
theorem d_Md_propose_88 : decode k_Md_propose 88 = .ok (.lconst 0, 1) := by decide +kernel
theorem d_Md_propose_89 : decode k_Md_propose 89 = .ok (.lastore, 1) := by decide +kernel
theorem d_Md_propose_90 : decode k_Md_propose 90 = .ok (.iinc 3 1, 3) := by decide +kernel
theorem d_Md_propose_93 : decode k_Md_propose 93 = .ok (.goto (-27), 3) := by decide +kernel
theorem d_Md_propose_96 : decode k_Md_propose 96 = .ok (.aload_n 0, 1) := by decide +kernel
theorem d_Md_propose_97 : decode k_Md_propose 97 = .ok (.iconst 0, 1) := by decide +kernel
theorem d_Md_propose_98 : decode k_Md_propose 98 = .ok (.sipush 160, 3) := by decide +kernel
theorem d_Md_propose_101 : decode k_Md_propose 101 = .ok (.invokevirtual 373, 3) := by decide +kernel
theorem d_Md_propose_104 : decode k_Md_propose 104 = .ok (.sipush 160, 3) := by decide +kernel
theorem d_Md_propose_107 : decode k_Md_propose 107 = .ok (.istore_n 3, 1) := by decide +kernel
theorem d_Md_propose_108 : decode k_Md_propose 108 = .ok (.iload_n 3, 1) := by decide +kernel
theorem d_Md_propose_109 : decode k_Md_propose 109 = .ok (.sipush 160, 3) := by decide +kernel
theorem d_Md_propose_112 : decode k_Md_propose 112 = .ok (.iload_n 1, 1) := by decide +kernel
theorem d_Md_propose_113 : decode k_Md_propose 113 = .ok (.iadd, 1) := by decide +kernel
theorem d_Md_propose_114 : decode k_Md_propose 114 = .ok (.if_icmp .gt 55, 3) := by decide +kernel
theorem d_Md_propose_117 : decode k_Md_propose 117 = .ok (.aload_n 0, 1) := by decide +kernel
theorem d_Md_propose_118 : decode k_Md_propose 118 = .ok (.getfield 297, 3) := by decide +kernel
theorem d_Md_propose_121 : decode k_Md_propose 121 = .ok (.iconst 1, 1) := by decide +kernel
theorem d_Md_propose_122 : decode k_Md_propose 122 = .ok (.isub, 1) := by decide +kernel
theorem d_Md_propose_123 : decode k_Md_propose 123 = .ok (.istore 4, 2) := by decide +kernel
theorem d_Md_propose_125 : decode k_Md_propose 125 = .ok (.iload 4, 2) := by decide +kernel
theorem d_Md_propose_127 : decode k_Md_propose 127 = .ok (.ifCond .lt 36, 3) := by decide +kernel
theorem d_Md_propose_130 : decode k_Md_propose 130 = .ok (.aload_n 0, 1) := by decide +kernel
theorem d_Md_propose_131 : decode k_Md_propose 131 = .ok (.aload_n 0, 1) := by decide +kernel
theorem d_Md_propose_132 : decode k_Md_propose 132 = .ok (.getfield 135, 3) := by decide +kernel
theorem d_Md_propose_135 : decode k_Md_propose 135 = .ok (.iload 4, 2) := by decide +kernel
theorem d_Md_propose_137 : decode k_Md_propose 137 = .ok (.iaload, 1) := by decide +kernel
theorem d_Md_propose_138 : decode k_Md_propose 138 = .ok (.iload_n 3, 1) := by decide +kernel
theorem d_Md_propose_139 : decode k_Md_propose 139 = .ok (.invokevirtual 376, 3) := by decide +kernel
theorem d_Md_propose_142 : decode k_Md_propose 142 = .ok (.ifCond .eq 15, 3) := by decide +kernel
theorem d_Md_propose_145 : decode k_Md_propose 145 = .ok (.aload_n 0, 1) := by decide +kernel
theorem d_Md_propose_146 : decode k_Md_propose 146 = .ok (.aload_n 0, 1) := by decide +kernel
theorem d_Md_propose_147 : decode k_Md_propose 147 = .ok (.getfield 135, 3) := by decide +kernel
theorem d_Md_propose_150 : decode k_Md_propose 150 = .ok (.iload 4, 2) := by decide +kernel
theorem d_Md_propose_152 : decode k_Md_propose 152 = .ok (.iaload, 1) := by decide +kernel
theorem d_Md_propose_153 : decode k_Md_propose 153 = .ok (.iload_n 3, 1) := by decide +kernel
theorem d_Md_propose_154 : decode k_Md_propose 154 = .ok (.invokevirtual 385, 3) := by decide +kernel
theorem d_Md_propose_157 : decode k_Md_propose 157 = .ok (.iinc 4 (-1), 3) := by decide +kernel
theorem d_Md_propose_160 : decode k_Md_propose 160 = .ok (.goto (-35), 3) := by decide +kernel
theorem d_Md_propose_163 : decode k_Md_propose 163 = .ok (.iinc 3 1, 3) := by decide +kernel
theorem d_Md_propose_166 : decode k_Md_propose 166 = .ok (.goto (-58), 3) := by decide +kernel
theorem d_Md_propose_169 : decode k_Md_propose 169 = .ok (.aload_n 0, 1) := by decide +kernel
theorem d_Md_propose_170 : decode k_Md_propose 170 = .ok (.iconst 0, 1) := by decide +kernel
theorem d_Md_propose_171 : decode k_Md_propose 171 = .ok (.putfield 388, 3) := by decide +kernel
theorem d_Md_propose_174 : decode k_Md_propose 174 = .ok (.iconst 0, 1) := by decide +kernel
theorem d_Md_propose_175 : decode k_Md_propose 175 = .ok (.istore_n 3, 1) := by decide +kernel
theorem d_Md_propose_176 : decode k_Md_propose 176 = .ok (.iload_n 3, 1) := by decide +kernel
theorem d_Md_propose_177 : decode k_Md_propose 177 = .ok (.aload_n 0, 1) := by decide +kernel
theorem d_Md_propose_178 : decode k_Md_propose 178 = .ok (.getfield 74, 3) := by decide +kernel
theorem d_Md_propose_181 : decode k_Md_propose 181 = .ok (.iconst 0, 1) := by decide +kernel
theorem d_Md_propose_182 : decode k_Md_propose 182 = .ok (.iaload, 1) := by decide +kernel
theorem d_Md_propose_183 : decode k_Md_propose 183 = .ok (.if_icmp .ge 159, 3) := by decide +kernel
theorem d_Md_propose_186 : decode k_Md_propose 186 = .ok (.aload_n 0, 1) := by decide +kernel
theorem d_Md_propose_187 : decode k_Md_propose 187 = .ok (.iload_n 3, 1) := by decide +kernel
theorem d_Md_propose_188 : decode k_Md_propose 188 = .ok (.sipush 160, 3) := by decide +kernel
theorem d_Md_propose_191 : decode k_Md_propose 191 = .ok (.iload_n 1, 1) := by decide +kernel
theorem d_Md_propose_192 : decode k_Md_propose 192 = .ok (.iadd, 1) := by decide +kernel
theorem d_Md_propose_193 : decode k_Md_propose 193 = .ok (.invokevirtual 376, 3) := by decide +kernel
theorem d_Md_propose_196 : decode k_Md_propose 196 = .ok (.ifCond .eq 29, 3) := by decide +kernel
theorem d_Md_propose_199 : decode k_Md_propose 199 = .ok (.aload_n 0, 1) := by decide +kernel
theorem d_Md_propose_200 : decode k_Md_propose 200 = .ok (.getfield 77, 3) := by decide +kernel
theorem d_Md_propose_203 : decode k_Md_propose 203 = .ok (.iload_n 3, 1) := by decide +kernel
theorem d_Md_propose_204 : decode k_Md_propose 204 = .ok (.iaload, 1) := by decide +kernel
theorem d_Md_propose_205 : decode k_Md_propose 205 = .ok (.bipush 6, 2) := by decide +kernel
theorem d_Md_propose_207 : decode k_Md_propose 207 = .ok (.if_icmp .ne 18, 3) := by decide +kernel
theorem d_Md_propose_210 : decode k_Md_propose 210 = .ok (.aload_n 0, 1) := by decide +kernel
theorem d_Md_propose_211 : decode k_Md_propose 211 = .ok (.getfield 129, 3) := by decide +kernel
theorem d_Md_propose_214 : decode k_Md_propose 214 = .ok (.bipush 22, 2) := by decide +kernel
theorem d_Md_propose_216 : decode k_Md_propose 216 = .ok (.iload_n 3, 1) := by decide +kernel
theorem d_Md_propose_217 : decode k_Md_propose 217 = .ok (.imul, 1) := by decide +kernel
theorem d_Md_propose_218 : decode k_Md_propose 218 = .ok (.bipush 12, 2) := by decide +kernel
theorem d_Md_propose_220 : decode k_Md_propose 220 = .ok (.iadd, 1) := by decide +kernel
theorem d_Md_propose_221 : decode k_Md_propose 221 = .ok (.iaload, 1) := by decide +kernel
theorem d_Md_propose_222 : decode k_Md_propose 222 = .ok (.goto 4, 3) := by decide +kernel
theorem d_Md_propose_225 : decode k_Md_propose 225 = .ok (.iconst (-1), 1) := by decide +kernel
theorem d_Md_propose_226 : decode k_Md_propose 226 = .ok (.istore 4, 2) := by decide +kernel
theorem d_Md_propose_228 : decode k_Md_propose 228 = .ok (.iload 4, 2) := by decide +kernel
theorem d_Md_propose_230 : decode k_Md_propose 230 = .ok (.ifCond .lt 25, 3) := by decide +kernel
theorem d_Md_propose_233 : decode k_Md_propose 233 = .ok (.aload_n 0, 1) := by decide +kernel
theorem d_Md_propose_234 : decode k_Md_propose 234 = .ok (.getfield 77, 3) := by decide +kernel
theorem d_Md_propose_237 : decode k_Md_propose 237 = .ok (.iload 4, 2) := by decide +kernel
theorem d_Md_propose_239 : decode k_Md_propose 239 = .ok (.iaload, 1) := by decide +kernel
theorem d_Md_propose_240 : decode k_Md_propose 240 = .ok (.bipush 6, 2) := by decide +kernel
theorem d_Md_propose_242 : decode k_Md_propose 242 = .ok (.if_icmp .ne 13, 3) := by decide +kernel
theorem d_Md_propose_245 : decode k_Md_propose 245 = .ok (.aload_n 0, 1) := by decide +kernel
theorem d_Md_propose_246 : decode k_Md_propose 246 = .ok (.getfield 95, 3) := by decide +kernel
theorem d_Md_propose_249 : decode k_Md_propose 249 = .ok (.iload 4, 2) := by decide +kernel
theorem d_Md_propose_251 : decode k_Md_propose 251 = .ok (.iaload, 1) := by decide +kernel
theorem d_Md_propose_252 : decode k_Md_propose 252 = .ok (.goto 4, 3) := by decide +kernel
theorem d_Md_propose_255 : decode k_Md_propose 255 = .ok (.iconst (-1), 1) := by decide +kernel
theorem d_Md_propose_256 : decode k_Md_propose 256 = .ok (.istore 5, 2) := by decide +kernel
theorem d_Md_propose_258 : decode k_Md_propose 258 = .ok (.iload 5, 2) := by decide +kernel
theorem d_Md_propose_260 : decode k_Md_propose 260 = .ok (.ifCond .lt 76, 3) := by decide +kernel
theorem d_Md_propose_263 : decode k_Md_propose 263 = .ok (.aload_n 0, 1) := by decide +kernel
theorem d_Md_propose_264 : decode k_Md_propose 264 = .ok (.sipush 160, 3) := by decide +kernel
theorem d_Md_propose_267 : decode k_Md_propose 267 = .ok (.iload_n 1, 1) := by decide +kernel
theorem d_Md_propose_268 : decode k_Md_propose 268 = .ok (.iadd, 1) := by decide +kernel
theorem d_Md_propose_269 : decode k_Md_propose 269 = .ok (.aload_n 0, 1) := by decide +kernel
theorem d_Md_propose_270 : decode k_Md_propose 270 = .ok (.getfield 101, 3) := by decide +kernel
theorem d_Md_propose_273 : decode k_Md_propose 273 = .ok (.iload 5, 2) := by decide +kernel
theorem d_Md_propose_275 : decode k_Md_propose 275 = .ok (.iaload, 1) := by decide +kernel
theorem d_Md_propose_276 : decode k_Md_propose 276 = .ok (.iconst 1, 1) := by decide +kernel
theorem d_Md_propose_277 : decode k_Md_propose 277 = .ok (.iadd, 1) := by decide +kernel
theorem d_Md_propose_278 : decode k_Md_propose 278 = .ok (.aload_n 0, 1) := by decide +kernel
theorem d_Md_propose_279 : decode k_Md_propose 279 = .ok (.getfield 104, 3) := by decide +kernel
theorem d_Md_propose_282 : decode k_Md_propose 282 = .ok (.iload 5, 2) := by decide +kernel
theorem d_Md_propose_284 : decode k_Md_propose 284 = .ok (.iaload, 1) := by decide +kernel
theorem d_Md_propose_285 : decode k_Md_propose 285 = .ok (.invokevirtual 249, 3) := by decide +kernel
theorem d_Md_propose_288 : decode k_Md_propose 288 = .ok (.ifCond .ge 36, 3) := by decide +kernel
theorem d_Md_propose_291 : decode k_Md_propose 291 = .ok (.aload_n 0, 1) := by decide +kernel
theorem d_Md_propose_292 : decode k_Md_propose 292 = .ok (.iload 5, 2) := by decide +kernel
theorem d_Md_propose_294 : decode k_Md_propose 294 = .ok (.aload_n 0, 1) := by decide +kernel
theorem d_Md_propose_295 : decode k_Md_propose 295 = .ok (.getfield 388, 3) := by decide +kernel
theorem d_Md_propose_298 : decode k_Md_propose 298 = .ok (.invokevirtual 391, 3) := by decide +kernel
theorem d_Md_propose_301 : decode k_Md_propose 301 = .ok (.ifCond .ne 23, 3) := by decide +kernel
theorem d_Md_propose_304 : decode k_Md_propose 304 = .ok (.aload_n 0, 1) := by decide +kernel
theorem d_Md_propose_305 : decode k_Md_propose 305 = .ok (.iload 5, 2) := by decide +kernel
theorem d_Md_propose_307 : decode k_Md_propose 307 = .ok (.aload_n 0, 1) := by decide +kernel
theorem d_Md_propose_308 : decode k_Md_propose 308 = .ok (.getfield 388, 3) := by decide +kernel
theorem d_Md_propose_311 : decode k_Md_propose 311 = .ok (.invokevirtual 394, 3) := by decide +kernel
theorem d_Md_propose_314 : decode k_Md_propose 314 = .ok (.aload_n 0, 1) := by decide +kernel
theorem d_Md_propose_315 : decode k_Md_propose 315 = .ok (.dup, 1) := by decide +kernel
theorem d_Md_propose_316 : decode k_Md_propose 316 = .ok (.getfield 388, 3) := by decide +kernel
theorem d_Md_propose_319 : decode k_Md_propose 319 = .ok (.iconst 1, 1) := by decide +kernel
theorem d_Md_propose_320 : decode k_Md_propose 320 = .ok (.iadd, 1) := by decide +kernel
theorem d_Md_propose_321 : decode k_Md_propose 321 = .ok (.putfield 388, 3) := by decide +kernel
theorem d_Md_propose_324 : decode k_Md_propose 324 = .ok (.aload_n 0, 1) := by decide +kernel
theorem d_Md_propose_325 : decode k_Md_propose 325 = .ok (.getfield 98, 3) := by decide +kernel
theorem d_Md_propose_328 : decode k_Md_propose 328 = .ok (.iload 5, 2) := by decide +kernel
theorem d_Md_propose_330 : decode k_Md_propose 330 = .ok (.iaload, 1) := by decide +kernel
theorem d_Md_propose_331 : decode k_Md_propose 331 = .ok (.istore 5, 2) := by decide +kernel
theorem d_Md_propose_333 : decode k_Md_propose 333 = .ok (.goto (-75), 3) := by decide +kernel
theorem d_Md_propose_336 : decode k_Md_propose 336 = .ok (.iinc 3 1, 3) := by decide +kernel
theorem d_Md_propose_339 : decode k_Md_propose 339 = .ok (.goto (-163), 3) := by decide +kernel
theorem d_Md_propose_342 : decode k_Md_propose 342 = .ok (.aload_n 0, 1) := by decide +kernel
theorem d_Md_propose_343 : decode k_Md_propose 343 = .ok (.getfield 171, 3) := by decide +kernel
theorem d_Md_propose_346 : decode k_Md_propose 346 = .ok (.iconst 0, 1) := by decide +kernel
theorem d_Md_propose_347 : decode k_Md_propose 347 = .ok (.iconst 0, 1) := by decide +kernel
theorem d_Md_propose_348 : decode k_Md_propose 348 = .ok (.iastore, 1) := by decide +kernel
theorem d_Md_propose_349 : decode k_Md_propose 349 = .ok (.iconst 0, 1) := by decide +kernel
theorem d_Md_propose_350 : decode k_Md_propose 350 = .ok (.istore_n 3, 1) := by decide +kernel
theorem d_Md_propose_351 : decode k_Md_propose 351 = .ok (.iload_n 3, 1) := by decide +kernel
theorem d_Md_propose_352 : decode k_Md_propose 352 = .ok (.aload_n 0, 1) := by decide +kernel
theorem d_Md_propose_353 : decode k_Md_propose 353 = .ok (.getfield 388, 3) := by decide +kernel
theorem d_Md_propose_356 : decode k_Md_propose 356 = .ok (.if_icmp .ge 100, 3) := by decide +kernel
theorem d_Md_propose_359 : decode k_Md_propose 359 = .ok (.aload_n 0, 1) := by decide +kernel
theorem d_Md_propose_360 : decode k_Md_propose 360 = .ok (.getfield 174, 3) := by decide +kernel
theorem d_Md_propose_363 : decode k_Md_propose 363 = .ok (.iload_n 3, 1) := by decide +kernel
theorem d_Md_propose_364 : decode k_Md_propose 364 = .ok (.iaload, 1) := by decide +kernel
theorem d_Md_propose_365 : decode k_Md_propose 365 = .ok (.istore 4, 2) := by decide +kernel
theorem d_Md_propose_367 : decode k_Md_propose 367 = .ok (.aload_n 0, 1) := by decide +kernel
theorem d_Md_propose_368 : decode k_Md_propose 368 = .ok (.getfield 104, 3) := by decide +kernel
theorem d_Md_propose_371 : decode k_Md_propose 371 = .ok (.iload 4, 2) := by decide +kernel
theorem d_Md_propose_373 : decode k_Md_propose 373 = .ok (.iaload, 1) := by decide +kernel
theorem d_Md_propose_374 : decode k_Md_propose 374 = .ok (.aload_n 0, 1) := by decide +kernel
theorem d_Md_propose_375 : decode k_Md_propose 375 = .ok (.getfield 101, 3) := by decide +kernel
theorem d_Md_propose_378 : decode k_Md_propose 378 = .ok (.iload 4, 2) := by decide +kernel
theorem d_Md_propose_380 : decode k_Md_propose 380 = .ok (.iaload, 1) := by decide +kernel
theorem d_Md_propose_381 : decode k_Md_propose 381 = .ok (.isub, 1) := by decide +kernel
theorem d_Md_propose_382 : decode k_Md_propose 382 = .ok (.iconst 1, 1) := by decide +kernel
theorem d_Md_propose_383 : decode k_Md_propose 383 = .ok (.isub, 1) := by decide +kernel
theorem d_Md_propose_384 : decode k_Md_propose 384 = .ok (.istore 5, 2) := by decide +kernel
theorem d_Md_propose_386 : decode k_Md_propose 386 = .ok (.iconst 0, 1) := by decide +kernel
theorem d_Md_propose_387 : decode k_Md_propose 387 = .ok (.istore 6, 2) := by decide +kernel
theorem d_Md_propose_389 : decode k_Md_propose 389 = .ok (.iload 6, 2) := by decide +kernel
theorem d_Md_propose_391 : decode k_Md_propose 391 = .ok (.iload 5, 2) := by decide +kernel
theorem d_Md_propose_393 : decode k_Md_propose 393 = .ok (.if_icmp .ge 40, 3) := by decide +kernel
theorem d_Md_propose_396 : decode k_Md_propose 396 = .ok (.aload_n 0, 1) := by decide +kernel
theorem d_Md_propose_397 : decode k_Md_propose 397 = .ok (.getfield 168, 3) := by decide +kernel
theorem d_Md_propose_400 : decode k_Md_propose 400 = .ok (.aload_n 0, 1) := by decide +kernel
theorem d_Md_propose_401 : decode k_Md_propose 401 = .ok (.getfield 171, 3) := by decide +kernel
theorem d_Md_propose_404 : decode k_Md_propose 404 = .ok (.iload_n 3, 1) := by decide +kernel
theorem d_Md_propose_405 : decode k_Md_propose 405 = .ok (.iaload, 1) := by decide +kernel
theorem d_Md_propose_406 : decode k_Md_propose 406 = .ok (.iload 6, 2) := by decide +kernel
theorem d_Md_propose_408 : decode k_Md_propose 408 = .ok (.iadd, 1) := by decide +kernel
theorem d_Md_propose_409 : decode k_Md_propose 409 = .ok (.aload_n 0, 1) := by decide +kernel
theorem d_Md_propose_410 : decode k_Md_propose 410 = .ok (.getfield 67, 3) := by decide +kernel
theorem d_Md_propose_413 : decode k_Md_propose 413 = .ok (.aload_n 0, 1) := by decide +kernel
theorem d_Md_propose_414 : decode k_Md_propose 414 = .ok (.getfield 101, 3) := by decide +kernel
theorem d_Md_propose_417 : decode k_Md_propose 417 = .ok (.iload 4, 2) := by decide +kernel
theorem d_Md_propose_419 : decode k_Md_propose 419 = .ok (.iaload, 1) := by decide +kernel
theorem d_Md_propose_420 : decode k_Md_propose 420 = .ok (.iconst 1, 1) := by decide +kernel
theorem d_Md_propose_421 : decode k_Md_propose 421 = .ok (.iadd, 1) := by decide +kernel
theorem d_Md_propose_422 : decode k_Md_propose 422 = .ok (.iload 6, 2) := by decide +kernel
theorem d_Md_propose_424 : decode k_Md_propose 424 = .ok (.iadd, 1) := by decide +kernel
theorem d_Md_propose_425 : decode k_Md_propose 425 = .ok (.iaload, 1) := by decide +kernel
theorem d_Md_propose_426 : decode k_Md_propose 426 = .ok (.iastore, 1) := by decide +kernel
theorem d_Md_propose_427 : decode k_Md_propose 427 = .ok (.iinc 6 1, 3) := by decide +kernel
theorem d_Md_propose_430 : decode k_Md_propose 430 = .ok (.goto (-41), 3) := by decide +kernel
theorem d_Md_propose_433 : decode k_Md_propose 433 = .ok (.aload_n 0, 1) := by decide +kernel
theorem d_Md_propose_434 : decode k_Md_propose 434 = .ok (.getfield 171, 3) := by decide +kernel
theorem d_Md_propose_437 : decode k_Md_propose 437 = .ok (.iload_n 3, 1) := by decide +kernel
theorem d_Md_propose_438 : decode k_Md_propose 438 = .ok (.iconst 1, 1) := by decide +kernel
theorem d_Md_propose_439 : decode k_Md_propose 439 = .ok (.iadd, 1) := by decide +kernel
theorem d_Md_propose_440 : decode k_Md_propose 440 = .ok (.aload_n 0, 1) := by decide +kernel
theorem d_Md_propose_441 : decode k_Md_propose 441 = .ok (.getfield 171, 3) := by decide +kernel
theorem d_Md_propose_444 : decode k_Md_propose 444 = .ok (.iload_n 3, 1) := by decide +kernel
theorem d_Md_propose_445 : decode k_Md_propose 445 = .ok (.iaload, 1) := by decide +kernel
theorem d_Md_propose_446 : decode k_Md_propose 446 = .ok (.iload 5, 2) := by decide +kernel
theorem d_Md_propose_448 : decode k_Md_propose 448 = .ok (.iadd, 1) := by decide +kernel
theorem d_Md_propose_449 : decode k_Md_propose 449 = .ok (.iastore, 1) := by decide +kernel
theorem d_Md_propose_450 : decode k_Md_propose 450 = .ok (.iinc 3 1, 3) := by decide +kernel
theorem d_Md_propose_453 : decode k_Md_propose 453 = .ok (.goto (-102), 3) := by decide +kernel
theorem d_Md_propose_456 : decode k_Md_propose 456 = .ok (.aload_n 0, 1) := by decide +kernel
theorem d_Md_propose_457 : decode k_Md_propose 457 = .ok (.getfield 388, 3) := by decide +kernel
theorem d_Md_propose_460 : decode k_Md_propose 460 = .ok (.ireturn, 1) := by decide +kernel
theorem gw1440 : (Jvm.Cond.methodLink "SchemaDeskModel" (376 : Nat) ({ cls := "SchemaDeskModel", name := "isMarked", desc := "(II)Z" } : Jvm.MethodName)) ∈ GW := gw_t7 (List.mem_of_getElem? (i := 0) rfl) rfl
theorem gw1442 : (Jvm.Cond.instanceMethod ({ cls := "SchemaDeskModel", name := "isMarked", desc := "(II)Z" } : Jvm.MethodName)) ∈ GW := gw_t7 (List.mem_of_getElem? (i := 2) rfl) rfl
theorem gs86 : Cond.selects "SchemaDeskModel" ⟨"SchemaDeskModel", "isMarked", "(II)Z"⟩ ⟨"SchemaDeskModel", "isMarked", "(II)Z"⟩ ∈ GW := gw_p6 (q := (⟨"SchemaDeskModel", "isMarked", "(II)Z"⟩, 46)) (List.mem_of_getElem? (i := 6) rfl)
theorem gw1443 : (Jvm.Cond.code ({ cls := "SchemaDeskModel", name := "isMarked", desc := "(II)Z" } : Jvm.MethodName) prog_12_method_40_code (3 : Nat) (Option.some Jvm.ClassFile.FieldType.boolean)) ∈ GW := gw_t7 (List.mem_of_getElem? (i := 3) rfl) rfl
theorem gw1468 : (Jvm.Cond.methodLink "SchemaDeskModel" (385 : Nat) ({ cls := "SchemaDeskModel", name := "reach", desc := "(II)V" } : Jvm.MethodName)) ∈ GW := gw_t7 (List.mem_of_getElem? (i := 28) rfl) rfl
theorem gw1470 : (Jvm.Cond.instanceMethod ({ cls := "SchemaDeskModel", name := "reach", desc := "(II)V" } : Jvm.MethodName)) ∈ GW := gw_t7 (List.mem_of_getElem? (i := 30) rfl) rfl
theorem gs91 : Cond.selects "SchemaDeskModel" ⟨"SchemaDeskModel", "reach", "(II)V"⟩ ⟨"SchemaDeskModel", "reach", "(II)V"⟩ ∈ GW := gw_p6 (q := (⟨"SchemaDeskModel", "reach", "(II)V"⟩, 46)) (List.mem_of_getElem? (i := 11) rfl)
theorem gw1471 : (Jvm.Cond.code ({ cls := "SchemaDeskModel", name := "reach", desc := "(II)V" } : Jvm.MethodName) prog_12_method_68_code (6 : Nat) (Option.none : Option Jvm.ClassFile.FieldType)) ∈ GW := gw_t7 (List.mem_of_getElem? (i := 31) rfl) rfl
theorem gw1472 : (Jvm.Cond.methodLink "SchemaDeskModel" (391 : Nat) ({ cls := "SchemaDeskModel", name := "isOffered", desc := "(II)Z" } : Jvm.MethodName)) ∈ GW := gw_t7 (List.mem_of_getElem? (i := 32) rfl) rfl
theorem gw1474 : (Jvm.Cond.instanceMethod ({ cls := "SchemaDeskModel", name := "isOffered", desc := "(II)Z" } : Jvm.MethodName)) ∈ GW := gw_t7 (List.mem_of_getElem? (i := 34) rfl) rfl
theorem gs92 : Cond.selects "SchemaDeskModel" ⟨"SchemaDeskModel", "isOffered", "(II)Z"⟩ ⟨"SchemaDeskModel", "isOffered", "(II)Z"⟩ ∈ GW := gw_p6 (q := (⟨"SchemaDeskModel", "isOffered", "(II)Z"⟩, 46)) (List.mem_of_getElem? (i := 12) rfl)
theorem gw1475 : (Jvm.Cond.code ({ cls := "SchemaDeskModel", name := "isOffered", desc := "(II)Z" } : Jvm.MethodName) prog_12_method_71_code (5 : Nat) (Option.some Jvm.ClassFile.FieldType.boolean)) ∈ GW := gw_t7 (List.mem_of_getElem? (i := 35) rfl) rfl
theorem gw1480 : (Jvm.Cond.methodLink "SchemaDeskModel" (394 : Nat) ({ cls := "SchemaDeskModel", name := "offer", desc := "(II)V" } : Jvm.MethodName)) ∈ GW := gw_t7 (List.mem_of_getElem? (i := 40) rfl) rfl
theorem gw1482 : (Jvm.Cond.instanceMethod ({ cls := "SchemaDeskModel", name := "offer", desc := "(II)V" } : Jvm.MethodName)) ∈ GW := gw_t7 (List.mem_of_getElem? (i := 42) rfl) rfl
theorem gs94 : Cond.selects "SchemaDeskModel" ⟨"SchemaDeskModel", "offer", "(II)V"⟩ ⟨"SchemaDeskModel", "offer", "(II)V"⟩ ∈ GW := gw_p6 (q := (⟨"SchemaDeskModel", "offer", "(II)V"⟩, 46)) (List.mem_of_getElem? (i := 14) rfl)
theorem gw1483 : (Jvm.Cond.code ({ cls := "SchemaDeskModel", name := "offer", desc := "(II)V" } : Jvm.MethodName) prog_12_method_70_code (4 : Nat) (Option.none : Option Jvm.ClassFile.FieldType)) ∈ GW := gw_t7 (List.mem_of_getElem? (i := 43) rfl) rfl
def wb_Md_propose_0 (F : Nat → Int32 → Int32 → Int32 → Int32 → Int32 → Sg → Prop) (post : Int32 → Sg → Prop) (x1 : Int32) (σ : Sg) : Prop := (∀ σ1, σ1 = si σ 54 1 (0 : Int32) → (wq_Md_prepared  σ1 (fun r2 σ2 => ((x1 < 0 → (wq_Md_fails (1 : Int32) σ2 (fun r3 σ3 => post r3 σ3))) ∧ (¬ x1 < 0 → (vp_in (1 : Int32) 2 ∧ (((σ2.1 58 ((1 : Int32) : Int32).toNatClampNeg) ≤ x1 → (wq_Md_fails (1 : Int32) σ2 (fun r3 σ3 => post r3 σ3))) ∧ (¬ (σ2.1 58 ((1 : Int32) : Int32).toNatClampNeg) ≤ x1 → (vp_in ((160 : Int32) + x1) 240 ∧ ((¬ (σ2.1 59 (((160 : Int32) + x1) : Int32).toNatClampNeg) = (6 : Int32) → (wq_Md_fails (1 : Int32) σ2 (fun r3 σ3 => post r3 σ3))) ∧ ((σ2.1 59 (((160 : Int32) + x1) : Int32).toNatClampNeg) = (6 : Int32) → (vp_in (0 : Int32) 2 ∧ ((¬ (σ2.1 58 ((0 : Int32) : Int32).toNatClampNeg) = 0 → ((¬ r2 = 0 → F 1 x1 (0 : Int32) 0 0 0 σ2) ∧ (r2 = 0 → (wq_Md_fails (2 : Int32) σ2 (fun r3 σ3 => post r3 σ3))))) ∧ ((σ2.1 58 ((0 : Int32) : Int32).toNatClampNeg) = 0 → (wq_Md_fails (1 : Int32) σ2 (fun r3 σ3 => post r3 σ3))))))))))))))))
def wb_Md_propose_1 (F : Nat → Int32 → Int32 → Int32 → Int32 → Int32 → Sg → Prop) (post : Int32 → Sg → Prop) (x1 : Int32) (x3 : Int32) (σ : Sg) : Prop := (vp_in (0 : Int32) 2 ∧ (((σ.1 58 ((0 : Int32) : Int32).toNatClampNeg) ≤ x3 → (wq_Md_mark (0 : Int32) (160 : Int32) σ (fun σ1 => F 2 x1 (160 : Int32) 0 0 0 σ1))) ∧ (¬ (σ.1 58 ((0 : Int32) : Int32).toNatClampNeg) ≤ x3 → (vp_in x3 160 ∧ (∀ σ1, σ1 = sl σ 84 x3.toNatClampNeg (0 : Int64) → (vp_in x3 160 ∧ (∀ σ2, σ2 = sl σ1 85 x3.toNatClampNeg (0 : Int64) → F 1 x1 (x3 + 1) 0 0 0 σ2)))))))
def wb_Md_propose_2 (F : Nat → Int32 → Int32 → Int32 → Int32 → Int32 → Sg → Prop) (post : Int32 → Sg → Prop) (x1 : Int32) (x3 : Int32) (σ : Sg) : Prop := ((((160 : Int32) + x1) < x3 → (∀ σ1, σ1 = si σ 54 42 (0 : Int32) → F 3 x1 (0 : Int32) 0 0 0 σ1)) ∧ (¬ ((160 : Int32) + x1) < x3 → F 4 x1 x3 ((σ.1 54 28) - (1 : Int32)) 0 0 σ))
def wb_Md_propose_3 (F : Nat → Int32 → Int32 → Int32 → Int32 → Int32 → Sg → Prop) (post : Int32 → Sg → Prop) (x1 : Int32) (x3 : Int32) (σ : Sg) : Prop := (vp_in (0 : Int32) 2 ∧ (((σ.1 58 ((0 : Int32) : Int32).toNatClampNeg) ≤ x3 → (vp_in (0 : Int32) 81 ∧ (∀ σ1, σ1 = si σ 90 ((0 : Int32) : Int32).toNatClampNeg (0 : Int32) → F 5 0 (0 : Int32) 0 0 0 σ1))) ∧ (¬ (σ.1 58 ((0 : Int32) : Int32).toNatClampNeg) ≤ x3 → (wq_Md_isMarked x3 ((160 : Int32) + x1) σ (fun r1 σ1 => ((r1 = 0 → F 6 x1 x3 0 0 0 σ1) ∧ (¬ r1 = 0 → (vp_in x3 240 ∧ ((¬ (σ1.1 59 x3.toNatClampNeg) = (6 : Int32) → F 6 x1 x3 0 0 0 σ1) ∧ ((σ1.1 59 x3.toNatClampNeg) = (6 : Int32) → (vp_in (((22 : Int32) * x3) + (12 : Int32)) 3520 ∧ F 7 x1 x3 (σ1.1 76 ((((22 : Int32) * x3) + (12 : Int32)) : Int32).toNatClampNeg) 0 0 σ1)))))))))))
def wb_Md_propose_4 (F : Nat → Int32 → Int32 → Int32 → Int32 → Int32 → Sg → Prop) (post : Int32 → Sg → Prop) (x1 : Int32) (x3 : Int32) (x4 : Int32) (σ : Sg) : Prop := ((x4 < 0 → F 2 x1 (x3 + 1) 0 0 0 σ) ∧ (¬ x4 < 0 → (vp_in x4 160 ∧ (wq_Md_isMarked (σ.1 78 x4.toNatClampNeg) x3 σ (fun r1 σ1 => ((r1 = 0 → F 4 x1 x3 (x4 + (-1)) 0 0 σ1) ∧ (¬ r1 = 0 → (vp_in x4 160 ∧ (wq_Md_reach (σ1.1 78 x4.toNatClampNeg) x3 σ1 (fun σ2 => F 4 x1 x3 (x4 + (-1)) 0 0 σ2))))))))))
def wb_Md_propose_5 (F : Nat → Int32 → Int32 → Int32 → Int32 → Int32 → Sg → Prop) (post : Int32 → Sg → Prop) (x3 : Int32) (σ : Sg) : Prop := (((σ.1 54 42) ≤ x3 → post (σ.1 54 42) σ) ∧ (¬ (σ.1 54 42) ≤ x3 → (vp_in x3 160 ∧ (vp_in (σ.1 91 x3.toNatClampNeg) 240 ∧ (vp_in (σ.1 91 x3.toNatClampNeg) 240 ∧ F 9 0 x3 (σ.1 91 x3.toNatClampNeg) (((σ.1 68 ((σ.1 91 x3.toNatClampNeg) : Int32).toNatClampNeg) - (σ.1 67 ((σ.1 91 x3.toNatClampNeg) : Int32).toNatClampNeg)) - (1 : Int32)) (0 : Int32) σ)))))
def wb_Md_propose_6 (F : Nat → Int32 → Int32 → Int32 → Int32 → Int32 → Sg → Prop) (post : Int32 → Sg → Prop) (x1 : Int32) (x3 : Int32) (σ : Sg) : Prop := F 7 x1 x3 (-1 : Int32) 0 0 σ
def wb_Md_propose_7 (F : Nat → Int32 → Int32 → Int32 → Int32 → Int32 → Sg → Prop) (post : Int32 → Sg → Prop) (x1 : Int32) (x3 : Int32) (x4 : Int32) (σ : Sg) : Prop := ((x4 < 0 → F 8 x1 x3 0 (-1 : Int32) 0 σ) ∧ (¬ x4 < 0 → (vp_in x4 240 ∧ ((¬ (σ.1 59 x4.toNatClampNeg) = (6 : Int32) → F 8 x1 x3 0 (-1 : Int32) 0 σ) ∧ ((σ.1 59 x4.toNatClampNeg) = (6 : Int32) → (vp_in x4 240 ∧ F 8 x1 x3 0 (σ.1 65 x4.toNatClampNeg) 0 σ))))))
def wb_Md_propose_8 (F : Nat → Int32 → Int32 → Int32 → Int32 → Int32 → Sg → Prop) (post : Int32 → Sg → Prop) (x1 : Int32) (x3 : Int32) (x5 : Int32) (σ : Sg) : Prop := ((x5 < 0 → F 3 x1 (x3 + 1) 0 0 0 σ) ∧ (¬ x5 < 0 → (vp_in x5 240 ∧ (vp_in x5 240 ∧ (wq_Md_childNamed ((160 : Int32) + x1) ((σ.1 67 x5.toNatClampNeg) + (1 : Int32)) (σ.1 68 x5.toNatClampNeg) σ (fun r1 σ1 => ((0 ≤ r1 → (vp_in x5 240 ∧ F 8 x1 x3 0 (σ1.1 66 x5.toNatClampNeg) 0 σ1)) ∧ (¬ 0 ≤ r1 → (wq_Md_isOffered x5 (σ1.1 54 42) σ1 (fun r2 σ2 => ((¬ r2 = 0 → (vp_in x5 240 ∧ F 8 x1 x3 0 (σ2.1 66 x5.toNatClampNeg) 0 σ2)) ∧ (r2 = 0 → (wq_Md_offer x5 (σ2.1 54 42) σ2 (fun σ3 => (∀ σ4, σ4 = si σ3 54 42 ((σ3.1 54 42) + (1 : Int32)) → (vp_in x5 240 ∧ F 8 x1 x3 0 (σ4.1 66 x5.toNatClampNeg) 0 σ4))))))))))))))))
def wb_Md_propose_9 (F : Nat → Int32 → Int32 → Int32 → Int32 → Int32 → Sg → Prop) (post : Int32 → Sg → Prop) (x3 : Int32) (x4 : Int32) (x5 : Int32) (x6 : Int32) (σ : Sg) : Prop := ((x5 ≤ x6 → (vp_in x3 81 ∧ (vp_in (x3 + (1 : Int32)) 81 ∧ (∀ σ1, σ1 = si σ 90 ((x3 + (1 : Int32)) : Int32).toNatClampNeg ((σ.1 90 x3.toNatClampNeg) + x5) → F 5 0 (x3 + 1) 0 0 0 σ1)))) ∧ (¬ x5 ≤ x6 → (vp_in x3 81 ∧ (vp_in x4 240 ∧ (vp_in (((σ.1 67 x4.toNatClampNeg) + (1 : Int32)) + x6) 240 ∧ (vp_in ((σ.1 90 x3.toNatClampNeg) + x6) 160 ∧ (∀ σ1, σ1 = si σ 89 (((σ.1 90 x3.toNatClampNeg) + x6) : Int32).toNatClampNeg (σ.1 56 ((((σ.1 67 x4.toNatClampNeg) + (1 : Int32)) + x6) : Int32).toNatClampNeg) → F 9 0 x3 x4 x5 (x6 + 1) σ1)))))))
def wp_Md_propose (post : Int32 → Sg → Prop) : Nat → Nat → Int32 → Int32 → Int32 → Int32 → Int32 → Sg → Prop
  | 0, _, _, _, _, _, _, _ => False
  | n + 1, k, x1, x3, x4, x5, x6, σ => match k with
    | 0 => wb_Md_propose_0 (wp_Md_propose post n) post x1 σ
    | 1 => wb_Md_propose_1 (wp_Md_propose post n) post x1 x3 σ
    | 2 => wb_Md_propose_2 (wp_Md_propose post n) post x1 x3 σ
    | 3 => wb_Md_propose_3 (wp_Md_propose post n) post x1 x3 σ
    | 4 => wb_Md_propose_4 (wp_Md_propose post n) post x1 x3 x4 σ
    | 5 => wb_Md_propose_5 (wp_Md_propose post n) post x3 σ
    | 6 => wb_Md_propose_6 (wp_Md_propose post n) post x1 x3 σ
    | 7 => wb_Md_propose_7 (wp_Md_propose post n) post x1 x3 x4 σ
    | 8 => wb_Md_propose_8 (wp_Md_propose post n) post x1 x3 x5 σ
    | 9 => wb_Md_propose_9 (wp_Md_propose post n) post x3 x4 x5 x6 σ
    | _ => False
def wq_Md_propose (x1 : Int32) (σ : Sg) (post : Int32 → Sg → Prop) : Prop := ∃ n, wp_Md_propose post n 0 x1 0 0 0 0 σ
def J_Md_propose_1 (p : Program) (l : Launch) (e : Env) (s : State) (m : MethodId) (args : Array Value) (below : List Frame) (meth : Method) (c : Code) (D : va_G) (g : Gm) (A : Nat → Prop) (post : Int32 → Sg → Prop) (F : Nat → Int32 → Int32 → Int32 → Int32 → Int32 → Sg → Prop) : Prop := ∀ (x1 : Int32) (x3 : Int32) (σ : Sg) (H : Heap) (locs : List Loc) (ls : Array Slot), lv_has ls 7 [(0, .ref (g.1 54)), (1, .int x1), (3, .int x3)] → Wst D vwCl (WS g) A s σ H locs → F 1 x1 x3 0 0 0 σ → W p l e { frames := 7, cells := 0, slots := 0, locals := 162 } s m args below meth c H locs 0 0 (MQ below (QiW D vwCl (WS g) post A) args s 0 0 A) (F0 m 66 ls [])
def J_Md_propose_2 (p : Program) (l : Launch) (e : Env) (s : State) (m : MethodId) (args : Array Value) (below : List Frame) (meth : Method) (c : Code) (D : va_G) (g : Gm) (A : Nat → Prop) (post : Int32 → Sg → Prop) (F : Nat → Int32 → Int32 → Int32 → Int32 → Int32 → Sg → Prop) : Prop := ∀ (x1 : Int32) (x3 : Int32) (σ : Sg) (H : Heap) (locs : List Loc) (ls : Array Slot), lv_has ls 7 [(0, .ref (g.1 54)), (1, .int x1), (3, .int x3)] → Wst D vwCl (WS g) A s σ H locs → F 2 x1 x3 0 0 0 σ → W p l e { frames := 7, cells := 0, slots := 0, locals := 162 } s m args below meth c H locs 0 0 (MQ below (QiW D vwCl (WS g) post A) args s 0 0 A) (F0 m 108 ls [])
def J_Md_propose_3 (p : Program) (l : Launch) (e : Env) (s : State) (m : MethodId) (args : Array Value) (below : List Frame) (meth : Method) (c : Code) (D : va_G) (g : Gm) (A : Nat → Prop) (post : Int32 → Sg → Prop) (F : Nat → Int32 → Int32 → Int32 → Int32 → Int32 → Sg → Prop) : Prop := ∀ (x1 : Int32) (x3 : Int32) (σ : Sg) (H : Heap) (locs : List Loc) (ls : Array Slot), lv_has ls 7 [(0, .ref (g.1 54)), (1, .int x1), (3, .int x3)] → Wst D vwCl (WS g) A s σ H locs → F 3 x1 x3 0 0 0 σ → W p l e { frames := 7, cells := 0, slots := 0, locals := 162 } s m args below meth c H locs 0 0 (MQ below (QiW D vwCl (WS g) post A) args s 0 0 A) (F0 m 176 ls [])
def J_Md_propose_4 (p : Program) (l : Launch) (e : Env) (s : State) (m : MethodId) (args : Array Value) (below : List Frame) (meth : Method) (c : Code) (D : va_G) (g : Gm) (A : Nat → Prop) (post : Int32 → Sg → Prop) (F : Nat → Int32 → Int32 → Int32 → Int32 → Int32 → Sg → Prop) : Prop := ∀ (x1 : Int32) (x3 : Int32) (x4 : Int32) (σ : Sg) (H : Heap) (locs : List Loc) (ls : Array Slot), lv_has ls 7 [(0, .ref (g.1 54)), (1, .int x1), (3, .int x3), (4, .int x4)] → Wst D vwCl (WS g) A s σ H locs → F 4 x1 x3 x4 0 0 σ → W p l e { frames := 7, cells := 0, slots := 0, locals := 162 } s m args below meth c H locs 0 0 (MQ below (QiW D vwCl (WS g) post A) args s 0 0 A) (F0 m 125 ls [])
def J_Md_propose_5 (p : Program) (l : Launch) (e : Env) (s : State) (m : MethodId) (args : Array Value) (below : List Frame) (meth : Method) (c : Code) (D : va_G) (g : Gm) (A : Nat → Prop) (post : Int32 → Sg → Prop) (F : Nat → Int32 → Int32 → Int32 → Int32 → Int32 → Sg → Prop) : Prop := ∀ (x3 : Int32) (σ : Sg) (H : Heap) (locs : List Loc) (ls : Array Slot), lv_has ls 7 [(0, .ref (g.1 54)), (3, .int x3)] → Wst D vwCl (WS g) A s σ H locs → F 5 0 x3 0 0 0 σ → W p l e { frames := 7, cells := 0, slots := 0, locals := 162 } s m args below meth c H locs 0 0 (MQ below (QiW D vwCl (WS g) post A) args s 0 0 A) (F0 m 351 ls [])
def J_Md_propose_6 (p : Program) (l : Launch) (e : Env) (s : State) (m : MethodId) (args : Array Value) (below : List Frame) (meth : Method) (c : Code) (D : va_G) (g : Gm) (A : Nat → Prop) (post : Int32 → Sg → Prop) (F : Nat → Int32 → Int32 → Int32 → Int32 → Int32 → Sg → Prop) : Prop := ∀ (x1 : Int32) (x3 : Int32) (σ : Sg) (H : Heap) (locs : List Loc) (ls : Array Slot), lv_has ls 7 [(0, .ref (g.1 54)), (1, .int x1), (3, .int x3)] → Wst D vwCl (WS g) A s σ H locs → F 6 x1 x3 0 0 0 σ → W p l e { frames := 7, cells := 0, slots := 0, locals := 162 } s m args below meth c H locs 0 0 (MQ below (QiW D vwCl (WS g) post A) args s 0 0 A) (F0 m 225 ls [])
def J_Md_propose_7 (p : Program) (l : Launch) (e : Env) (s : State) (m : MethodId) (args : Array Value) (below : List Frame) (meth : Method) (c : Code) (D : va_G) (g : Gm) (A : Nat → Prop) (post : Int32 → Sg → Prop) (F : Nat → Int32 → Int32 → Int32 → Int32 → Int32 → Sg → Prop) : Prop := ∀ (x1 : Int32) (x3 : Int32) (x4 : Int32) (σ : Sg) (H : Heap) (locs : List Loc) (ls : Array Slot), lv_has ls 7 [(0, .ref (g.1 54)), (1, .int x1), (3, .int x3), (4, .int x4)] → Wst D vwCl (WS g) A s σ H locs → F 7 x1 x3 x4 0 0 σ → W p l e { frames := 7, cells := 0, slots := 0, locals := 162 } s m args below meth c H locs 0 0 (MQ below (QiW D vwCl (WS g) post A) args s 0 0 A) (F0 m 228 ls [])
def J_Md_propose_8 (p : Program) (l : Launch) (e : Env) (s : State) (m : MethodId) (args : Array Value) (below : List Frame) (meth : Method) (c : Code) (D : va_G) (g : Gm) (A : Nat → Prop) (post : Int32 → Sg → Prop) (F : Nat → Int32 → Int32 → Int32 → Int32 → Int32 → Sg → Prop) : Prop := ∀ (x1 : Int32) (x3 : Int32) (x5 : Int32) (σ : Sg) (H : Heap) (locs : List Loc) (ls : Array Slot), lv_has ls 7 [(0, .ref (g.1 54)), (1, .int x1), (3, .int x3), (5, .int x5)] → Wst D vwCl (WS g) A s σ H locs → F 8 x1 x3 0 x5 0 σ → W p l e { frames := 7, cells := 0, slots := 0, locals := 162 } s m args below meth c H locs 0 0 (MQ below (QiW D vwCl (WS g) post A) args s 0 0 A) (F0 m 258 ls [])
def J_Md_propose_9 (p : Program) (l : Launch) (e : Env) (s : State) (m : MethodId) (args : Array Value) (below : List Frame) (meth : Method) (c : Code) (D : va_G) (g : Gm) (A : Nat → Prop) (post : Int32 → Sg → Prop) (F : Nat → Int32 → Int32 → Int32 → Int32 → Int32 → Sg → Prop) : Prop := ∀ (x3 : Int32) (x4 : Int32) (x5 : Int32) (x6 : Int32) (σ : Sg) (H : Heap) (locs : List Loc) (ls : Array Slot), lv_has ls 7 [(0, .ref (g.1 54)), (3, .int x3), (4, .int x4), (5, .int x5), (6, .int x6)] → Wst D vwCl (WS g) A s σ H locs → F 9 0 x3 x4 x5 x6 σ → W p l e { frames := 7, cells := 0, slots := 0, locals := 162 } s m args below meth c H locs 0 0 (MQ below (QiW D vwCl (WS g) post A) args s 0 0 A) (F0 m 389 ls [])
set_option maxRecDepth 100000 in
set_option maxHeartbeats 4000000 in
theorem b_Md_propose_0 {p : Program} {l : Launch} {e : Env} {s : State} {m : MethodId} {args : Array Value} {below : List Frame} {meth : Method} {c : Code} {D : va_G} {g : Gm} {A : Nat → Prop} {post : Int32 → Sg → Prop} {F : Nat → Int32 → Int32 → Int32 → Int32 → Int32 → Sg → Prop} (C : kC p s m args meth c k_Md_propose 7 (some .int) GW R_Md D vwCl g (Zk g) A) (j1 : J_Md_propose_1 p l e s m args below meth c D g A post F) (x1 : Int32) (σ : Sg) (H : Heap) (locs : List Loc) (ls : Array Slot) (hl : lv_has ls 7 [(0, .ref (g.1 54)), (1, .int x1)]) (hst : Wst D vwCl (WS g) A s σ H locs) (h : wb_Md_propose_0 F post x1 σ) : W p l e { frames := 7, cells := 0, slots := 0, locals := 162 } s m args below meth c H locs 0 0 (MQ below (QiW D vwCl (WS g) post A) args s 0 0 A) (F0 m 0 ls []) := by
  obtain ⟨hx, hb, hr, hml, hown, hts, hlocks, hK, hZ, hA⟩ := C
  unfold wb_Md_propose_0 at h
  refine lv_aload_n hx hb d_Md_propose_0 rfl (lv_at hl 0 rfl) ?_
  refine lv_iconst (v := (0 : Int32)) hx hb d_Md_propose_1 (by decide) ?_
  refine kw_put (D := D) (ci := 10) (ty := .int) (C := R_Md) (T := T_Md) (N := 46) hx hb hts in_Md ty_Md ty_Md_ok nm_Md hown hK hst 54 (WS_o54 g σ) rfl 1 (by decide) (hts _ gw1065) (fun _ h9 => h9) rfl (by decide +kernel) rfl rfl (Nat.le_of_ble_eq_true rfl) (WS_p54_1 g σ _) d_Md_propose_2 (fun σ1 H locs e1 hst => ?_)
  replace h := h σ1 e1
  refine lv_aload_n hx hb d_Md_propose_5 rfl (lv_at hl 0 rfl) ?_
  refine kw_calli (va_runV (As := []) (rest := []) (b := g.1 54) ⟨hx, hb, hml, hown, hts⟩ (c_Md_prepared l h) (cwV 0 hts (gd_v gw1341 gw1343 gs63 gw15 gw1344) rfl rfl rfl (by decide +kernel) ⟨Nat.le_of_ble_eq_true rfl, Nat.le_of_ble_eq_true rfl⟩) ⟨kw_blind (Zk_ok g), va_recv hK hst.1 rfl (WS_o54 g σ1), kw_pre (Zk_ok g) hK hZ hA hst⟩ rfl rfl hl.1 rfl (lv_room (Nat.le_of_ble_eq_true rfl)) d_Md_propose_6 ⟨Nat.le_of_ble_eq_true rfl, Nat.le_of_ble_eq_true rfl⟩) hst hA (fun r2 σ2 H locs h hst => ?_)
  refine lv_istore_n hx hb d_Md_propose_9 rfl hl (by decide) rfl (fun ls hl => ?_)
  have hl : lv_has ls 7 [(2, .int r2), (0, .ref (g.1 54)), (1, .int x1)] := hl
  refine lv_iload_n hx hb d_Md_propose_10 rfl (lv_at hl 2 rfl) ?_
  refine lv_if_lt (tgt := 48) hx hb d_Md_propose_11 (by decide) (fun hc => ?_) (fun hc => ?_)
  · replace h := h.1 hc
    refine lv_aload_n hx hb d_Md_propose_48 rfl (lv_at hl 1 rfl) ?_
    refine lv_iconst (v := (1 : Int32)) hx hb d_Md_propose_49 (by decide) ?_
    refine kw_calli (va_runV (As := [.int (1 : Int32)]) (rest := []) (b := g.1 54) ⟨hx, hb, hml, hown, hts⟩ (c_Md_fails l (1 : Int32) h) (cwV 1 hts (gd_v gw1325 gw1327 gs62 gw15 gw1328) rfl rfl rfl (by decide +kernel) ⟨Nat.le_of_ble_eq_true rfl, Nat.le_of_ble_eq_true rfl⟩) ⟨kw_blind (Zk_ok g), va_recv hK hst.1 rfl (WS_o54 g σ2), kw_pre (Zk_ok g) hK hZ hA hst⟩ rfl rfl hl.1 rfl (lv_room (Nat.le_of_ble_eq_true rfl)) d_Md_propose_50 ⟨Nat.le_of_ble_eq_true rfl, Nat.le_of_ble_eq_true rfl⟩) hst hA (fun r3 σ3 H locs h hst => ?_)
    exact kw_iret hx hb hr hlocks hst h d_Md_propose_53
  · replace h := h.2 hc
    refine lv_iload_n hx hb d_Md_propose_14 rfl (lv_at hl 2 rfl) ?_
    refine lv_aload_n hx hb d_Md_propose_15 rfl (lv_at hl 1 rfl) ?_
    refine va_get (D := D) (ci := 10) (C := R_Md) (T := T_Md) (N := 46) hx hb hts in_Md hown hK hst.1 54 (WS_o54 g σ2) rfl 4 (by decide) (hts _ gw1068) (fun _ h9 => h9) rfl d_Md_propose_16 ?_
    refine lv_iconst (v := (1 : Int32)) hx hb d_Md_propose_19 (by decide) ?_
    obtain ⟨hi, h⟩ := h
    refine va_iald hx hb hK hst.1 58 0 (WS_a58 g σ2) rfl hi d_Md_propose_20 ?_
    refine lv_icmp_ge (tgt := 48) hx hb d_Md_propose_21 (by decide) (fun hc => ?_) (fun hc => ?_)
    · replace h := h.1 hc
      refine lv_aload_n hx hb d_Md_propose_48 rfl (lv_at hl 1 rfl) ?_
      refine lv_iconst (v := (1 : Int32)) hx hb d_Md_propose_49 (by decide) ?_
      refine kw_calli (va_runV (As := [.int (1 : Int32)]) (rest := []) (b := g.1 54) ⟨hx, hb, hml, hown, hts⟩ (c_Md_fails l (1 : Int32) h) (cwV 1 hts (gd_v gw1325 gw1327 gs62 gw15 gw1328) rfl rfl rfl (by decide +kernel) ⟨Nat.le_of_ble_eq_true rfl, Nat.le_of_ble_eq_true rfl⟩) ⟨kw_blind (Zk_ok g), va_recv hK hst.1 rfl (WS_o54 g σ2), kw_pre (Zk_ok g) hK hZ hA hst⟩ rfl rfl hl.1 rfl (lv_room (Nat.le_of_ble_eq_true rfl)) d_Md_propose_50 ⟨Nat.le_of_ble_eq_true rfl, Nat.le_of_ble_eq_true rfl⟩) hst hA (fun r3 σ3 H locs h hst => ?_)
      exact kw_iret hx hb hr hlocks hst h d_Md_propose_53
    · replace h := h.2 hc
      refine lv_aload_n hx hb d_Md_propose_24 rfl (lv_at hl 1 rfl) ?_
      refine va_get (D := D) (ci := 10) (C := R_Md) (T := T_Md) (N := 46) hx hb hts in_Md hown hK hst.1 54 (WS_o54 g σ2) rfl 5 (by decide) (hts _ gw1069) (fun _ h9 => h9) rfl d_Md_propose_25 ?_
      refine lv_sipush (v := (160 : Int32)) hx hb d_Md_propose_28 (by decide) ?_
      refine lv_iload_n hx hb d_Md_propose_31 rfl (lv_at hl 2 rfl) ?_
      refine lv_iadd hx hb d_Md_propose_32 ?_
      obtain ⟨hi, h⟩ := h
      refine va_iald hx hb hK hst.1 59 0 (WS_a59 g σ2) rfl hi d_Md_propose_33 ?_
      refine lv_bipush (v := (6 : Int32)) hx hb d_Md_propose_34 (by decide) ?_
      refine lv_icmp_ne (tgt := 48) hx hb d_Md_propose_36 (by decide) (fun hc => ?_) (fun hc => ?_)
      · replace h := h.1 hc
        refine lv_aload_n hx hb d_Md_propose_48 rfl (lv_at hl 1 rfl) ?_
        refine lv_iconst (v := (1 : Int32)) hx hb d_Md_propose_49 (by decide) ?_
        refine kw_calli (va_runV (As := [.int (1 : Int32)]) (rest := []) (b := g.1 54) ⟨hx, hb, hml, hown, hts⟩ (c_Md_fails l (1 : Int32) h) (cwV 1 hts (gd_v gw1325 gw1327 gs62 gw15 gw1328) rfl rfl rfl (by decide +kernel) ⟨Nat.le_of_ble_eq_true rfl, Nat.le_of_ble_eq_true rfl⟩) ⟨kw_blind (Zk_ok g), va_recv hK hst.1 rfl (WS_o54 g σ2), kw_pre (Zk_ok g) hK hZ hA hst⟩ rfl rfl hl.1 rfl (lv_room (Nat.le_of_ble_eq_true rfl)) d_Md_propose_50 ⟨Nat.le_of_ble_eq_true rfl, Nat.le_of_ble_eq_true rfl⟩) hst hA (fun r3 σ3 H locs h hst => ?_)
        exact kw_iret hx hb hr hlocks hst h d_Md_propose_53
      · replace h := h.2 hc
        refine lv_aload_n hx hb d_Md_propose_39 rfl (lv_at hl 1 rfl) ?_
        refine va_get (D := D) (ci := 10) (C := R_Md) (T := T_Md) (N := 46) hx hb hts in_Md hown hK hst.1 54 (WS_o54 g σ2) rfl 4 (by decide) (hts _ gw1068) (fun _ h9 => h9) rfl d_Md_propose_40 ?_
        refine lv_iconst (v := (0 : Int32)) hx hb d_Md_propose_43 (by decide) ?_
        obtain ⟨hi, h⟩ := h
        refine va_iald hx hb hK hst.1 58 0 (WS_a58 g σ2) rfl hi d_Md_propose_44 ?_
        refine lv_if_ne (tgt := 54) hx hb d_Md_propose_45 (by decide) (fun hc => ?_) (fun hc => ?_)
        · replace h := h.1 hc
          refine lv_iload_n hx hb d_Md_propose_54 rfl (lv_at hl 0 rfl) ?_
          refine lv_if_ne (tgt := 64) hx hb d_Md_propose_55 (by decide) (fun hc => ?_) (fun hc => ?_)
          · replace h := h.1 hc
            refine lv_iconst (v := (0 : Int32)) hx hb d_Md_propose_64 (by decide) ?_
            refine lv_istore_n hx hb d_Md_propose_65 rfl hl (by decide) rfl (fun ls hl => ?_)
            have hl : lv_has ls 7 [(3, .int (0 : Int32)), (2, .int r2), (0, .ref (g.1 54)), (1, .int x1)] := hl
            exact j1 x1 (0 : Int32) σ2 _ _ _ (lv_sub hl [2, 3, 0] rfl) hst h
          · replace h := h.2 hc
            refine lv_aload_n hx hb d_Md_propose_58 rfl (lv_at hl 1 rfl) ?_
            refine lv_iconst (v := (2 : Int32)) hx hb d_Md_propose_59 (by decide) ?_
            refine kw_calli (va_runV (As := [.int (2 : Int32)]) (rest := []) (b := g.1 54) ⟨hx, hb, hml, hown, hts⟩ (c_Md_fails l (2 : Int32) h) (cwV 1 hts (gd_v gw1325 gw1327 gs62 gw15 gw1328) rfl rfl rfl (by decide +kernel) ⟨Nat.le_of_ble_eq_true rfl, Nat.le_of_ble_eq_true rfl⟩) ⟨kw_blind (Zk_ok g), va_recv hK hst.1 rfl (WS_o54 g σ2), kw_pre (Zk_ok g) hK hZ hA hst⟩ rfl rfl hl.1 rfl (lv_room (Nat.le_of_ble_eq_true rfl)) d_Md_propose_60 ⟨Nat.le_of_ble_eq_true rfl, Nat.le_of_ble_eq_true rfl⟩) hst hA (fun r3 σ3 H locs h hst => ?_)
            exact kw_iret hx hb hr hlocks hst h d_Md_propose_63
        · replace h := h.2 hc
          refine lv_aload_n hx hb d_Md_propose_48 rfl (lv_at hl 1 rfl) ?_
          refine lv_iconst (v := (1 : Int32)) hx hb d_Md_propose_49 (by decide) ?_
          refine kw_calli (va_runV (As := [.int (1 : Int32)]) (rest := []) (b := g.1 54) ⟨hx, hb, hml, hown, hts⟩ (c_Md_fails l (1 : Int32) h) (cwV 1 hts (gd_v gw1325 gw1327 gs62 gw15 gw1328) rfl rfl rfl (by decide +kernel) ⟨Nat.le_of_ble_eq_true rfl, Nat.le_of_ble_eq_true rfl⟩) ⟨kw_blind (Zk_ok g), va_recv hK hst.1 rfl (WS_o54 g σ2), kw_pre (Zk_ok g) hK hZ hA hst⟩ rfl rfl hl.1 rfl (lv_room (Nat.le_of_ble_eq_true rfl)) d_Md_propose_50 ⟨Nat.le_of_ble_eq_true rfl, Nat.le_of_ble_eq_true rfl⟩) hst hA (fun r3 σ3 H locs h hst => ?_)
          exact kw_iret hx hb hr hlocks hst h d_Md_propose_53
set_option maxRecDepth 100000 in
set_option maxHeartbeats 4000000 in
theorem b_Md_propose_1 {p : Program} {l : Launch} {e : Env} {s : State} {m : MethodId} {args : Array Value} {below : List Frame} {meth : Method} {c : Code} {D : va_G} {g : Gm} {A : Nat → Prop} {post : Int32 → Sg → Prop} {F : Nat → Int32 → Int32 → Int32 → Int32 → Int32 → Sg → Prop} (C : kC p s m args meth c k_Md_propose 7 (some .int) GW R_Md D vwCl g (Zk g) A) (j1 : J_Md_propose_1 p l e s m args below meth c D g A post F) (j2 : J_Md_propose_2 p l e s m args below meth c D g A post F) (x1 : Int32) (x3 : Int32) (σ : Sg) (H : Heap) (locs : List Loc) (ls : Array Slot) (hl : lv_has ls 7 [(0, .ref (g.1 54)), (1, .int x1), (3, .int x3)]) (hst : Wst D vwCl (WS g) A s σ H locs) (h : wb_Md_propose_1 F post x1 x3 σ) : W p l e { frames := 7, cells := 0, slots := 0, locals := 162 } s m args below meth c H locs 0 0 (MQ below (QiW D vwCl (WS g) post A) args s 0 0 A) (F0 m 66 ls []) := by
  obtain ⟨hx, hb, hr, hml, hown, hts, hlocks, hK, hZ, hA⟩ := C
  unfold wb_Md_propose_1 at h
  refine lv_iload_n hx hb d_Md_propose_66 rfl (lv_at hl 2 rfl) ?_
  refine lv_aload_n hx hb d_Md_propose_67 rfl (lv_at hl 0 rfl) ?_
  refine va_get (D := D) (ci := 10) (C := R_Md) (T := T_Md) (N := 46) hx hb hts in_Md hown hK hst.1 54 (WS_o54 g σ) rfl 4 (by decide) (hts _ gw1068) (fun _ h9 => h9) rfl d_Md_propose_68 ?_
  refine lv_iconst (v := (0 : Int32)) hx hb d_Md_propose_71 (by decide) ?_
  obtain ⟨hi, h⟩ := h
  refine va_iald hx hb hK hst.1 58 0 (WS_a58 g σ) rfl hi d_Md_propose_72 ?_
  refine lv_icmp_ge (tgt := 96) hx hb d_Md_propose_73 (by decide) (fun hc => ?_) (fun hc => ?_)
  · replace h := h.1 hc
    refine lv_aload_n hx hb d_Md_propose_96 rfl (lv_at hl 0 rfl) ?_
    refine lv_iconst (v := (0 : Int32)) hx hb d_Md_propose_97 (by decide) ?_
    refine lv_sipush (v := (160 : Int32)) hx hb d_Md_propose_98 (by decide) ?_
    refine kw_callv (va_runV (As := [.int (0 : Int32), .int (160 : Int32)]) (rest := []) (b := g.1 54) ⟨hx, hb, hml, hown, hts⟩ (c_Md_mark l (0 : Int32) (160 : Int32) h) (cwV 2 hts (gd_v gw1436 gw1438 gs85 gw15 gw1439) rfl rfl rfl (by decide +kernel) ⟨Nat.le_of_ble_eq_true rfl, Nat.le_of_ble_eq_true rfl⟩) ⟨kw_blind (Zk_ok g), va_recv hK hst.1 rfl (WS_o54 g σ), kw_pre (Zk_ok g) hK hZ hA hst⟩ rfl rfl hl.1 rfl (lv_room (Nat.le_of_ble_eq_true rfl)) d_Md_propose_101 ⟨Nat.le_of_ble_eq_true rfl, Nat.le_of_ble_eq_true rfl⟩) hst hA (fun σ1 H locs h hst => ?_)
    refine lv_sipush (v := (160 : Int32)) hx hb d_Md_propose_104 (by decide) ?_
    refine lv_istore_n hx hb d_Md_propose_107 rfl hl (by decide) rfl (fun ls hl => ?_)
    have hl : lv_has ls 7 [(3, .int (160 : Int32)), (0, .ref (g.1 54)), (1, .int x1)] := hl
    exact j2 x1 (160 : Int32) σ1 _ _ _ (lv_sub hl [1, 2, 0] rfl) hst h
  · replace h := h.2 hc
    refine lv_aload_n hx hb d_Md_propose_76 rfl (lv_at hl 0 rfl) ?_
    refine va_get (D := D) (ci := 10) (C := R_Md) (T := T_Md) (N := 46) hx hb hts in_Md hown hK hst.1 54 (WS_o54 g σ) rfl 34 (by decide) (hts _ gw1098) (fun _ h9 => h9) rfl d_Md_propose_77 ?_
    refine lv_iload_n hx hb d_Md_propose_80 rfl (lv_at hl 2 rfl) ?_
    refine lv_lconst (v := (0 : Int64)) hx hb d_Md_propose_81 (by decide) ?_
    obtain ⟨hi, h⟩ := h
    refine kw_last hx hb hK hst 84 (WS_a84 g σ) hi (WS_s84 g σ _ _) d_Md_propose_82 (fun σ1 H locs e1 hst => ?_)
    replace h := h σ1 e1
    refine lv_aload_n hx hb d_Md_propose_83 rfl (lv_at hl 0 rfl) ?_
    refine va_get (D := D) (ci := 10) (C := R_Md) (T := T_Md) (N := 46) hx hb hts in_Md hown hK hst.1 54 (WS_o54 g σ1) rfl 35 (by decide) (hts _ gw1099) (fun _ h9 => h9) rfl d_Md_propose_84 ?_
    refine lv_iload_n hx hb d_Md_propose_87 rfl (lv_at hl 2 rfl) ?_
    refine lv_lconst (v := (0 : Int64)) hx hb d_Md_propose_88 (by decide) ?_
    obtain ⟨hi, h⟩ := h
    refine kw_last hx hb hK hst 85 (WS_a85 g σ1) hi (WS_s85 g σ1 _ _) d_Md_propose_89 (fun σ2 H locs e2 hst => ?_)
    replace h := h σ2 e2
    refine lv_iinc (k := 2) (v := (x3 + 1)) hx hb d_Md_propose_90 hl rfl (kw_inc _ (by decide)) (by decide) rfl (fun ls hl => ?_)
    have hl : lv_has ls 7 [(3, .int (x3 + 1)), (0, .ref (g.1 54)), (1, .int x1)] := hl
    refine lv_goto (tgt := 66) hx hb d_Md_propose_93 (by decide) ?_
    exact j1 x1 (x3 + 1) σ2 _ _ _ (lv_sub hl [1, 2, 0] rfl) hst h
set_option maxRecDepth 100000 in
set_option maxHeartbeats 4000000 in
theorem b_Md_propose_2 {p : Program} {l : Launch} {e : Env} {s : State} {m : MethodId} {args : Array Value} {below : List Frame} {meth : Method} {c : Code} {D : va_G} {g : Gm} {A : Nat → Prop} {post : Int32 → Sg → Prop} {F : Nat → Int32 → Int32 → Int32 → Int32 → Int32 → Sg → Prop} (C : kC p s m args meth c k_Md_propose 7 (some .int) GW R_Md D vwCl g (Zk g) A) (j3 : J_Md_propose_3 p l e s m args below meth c D g A post F) (j4 : J_Md_propose_4 p l e s m args below meth c D g A post F) (x1 : Int32) (x3 : Int32) (σ : Sg) (H : Heap) (locs : List Loc) (ls : Array Slot) (hl : lv_has ls 7 [(0, .ref (g.1 54)), (1, .int x1), (3, .int x3)]) (hst : Wst D vwCl (WS g) A s σ H locs) (h : wb_Md_propose_2 F post x1 x3 σ) : W p l e { frames := 7, cells := 0, slots := 0, locals := 162 } s m args below meth c H locs 0 0 (MQ below (QiW D vwCl (WS g) post A) args s 0 0 A) (F0 m 108 ls []) := by
  obtain ⟨hx, hb, hr, hml, hown, hts, hlocks, hK, hZ, hA⟩ := C
  unfold wb_Md_propose_2 at h
  refine lv_iload_n hx hb d_Md_propose_108 rfl (lv_at hl 2 rfl) ?_
  refine lv_sipush (v := (160 : Int32)) hx hb d_Md_propose_109 (by decide) ?_
  refine lv_iload_n hx hb d_Md_propose_112 rfl (lv_at hl 1 rfl) ?_
  refine lv_iadd hx hb d_Md_propose_113 ?_
  refine lv_icmp_gt (tgt := 169) hx hb d_Md_propose_114 (by decide) (fun hc => ?_) (fun hc => ?_)
  · replace h := h.1 hc
    refine lv_aload_n hx hb d_Md_propose_169 rfl (lv_at hl 0 rfl) ?_
    refine lv_iconst (v := (0 : Int32)) hx hb d_Md_propose_170 (by decide) ?_
    refine kw_put (D := D) (ci := 10) (ty := .int) (C := R_Md) (T := T_Md) (N := 46) hx hb hts in_Md ty_Md ty_Md_ok nm_Md hown hK hst 54 (WS_o54 g σ) rfl 42 (by decide) (hts _ gw1106) (fun _ h9 => h9) rfl (by decide +kernel) rfl rfl (Nat.le_of_ble_eq_true rfl) (WS_p54_42 g σ _) d_Md_propose_171 (fun σ1 H locs e1 hst => ?_)
    replace h := h σ1 e1
    refine lv_iconst (v := (0 : Int32)) hx hb d_Md_propose_174 (by decide) ?_
    refine lv_istore_n hx hb d_Md_propose_175 rfl hl (by decide) rfl (fun ls hl => ?_)
    have hl : lv_has ls 7 [(3, .int (0 : Int32)), (0, .ref (g.1 54)), (1, .int x1)] := hl
    exact j3 x1 (0 : Int32) σ1 _ _ _ (lv_sub hl [1, 2, 0] rfl) hst h
  · replace h := h.2 hc
    refine lv_aload_n hx hb d_Md_propose_117 rfl (lv_at hl 0 rfl) ?_
    refine va_get (D := D) (ci := 10) (C := R_Md) (T := T_Md) (N := 46) hx hb hts in_Md hown hK hst.1 54 (WS_o54 g σ) rfl 28 (by decide) (hts _ gw1092) (fun _ h9 => h9) rfl d_Md_propose_118 ?_
    refine lv_iconst (v := (1 : Int32)) hx hb d_Md_propose_121 (by decide) ?_
    refine lv_isub hx hb d_Md_propose_122 ?_
    refine lv_istore hx hb d_Md_propose_123 hl (by decide) rfl (fun ls hl => ?_)
    have hl : lv_has ls 7 [(4, .int ((σ.1 54 28) - (1 : Int32))), (0, .ref (g.1 54)), (1, .int x1), (3, .int x3)] := hl
    exact j4 x1 x3 ((σ.1 54 28) - (1 : Int32)) σ _ _ _ (lv_sub hl [1, 2, 3, 0] rfl) hst h
set_option maxRecDepth 100000 in
set_option maxHeartbeats 4000000 in
theorem b_Md_propose_3 {p : Program} {l : Launch} {e : Env} {s : State} {m : MethodId} {args : Array Value} {below : List Frame} {meth : Method} {c : Code} {D : va_G} {g : Gm} {A : Nat → Prop} {post : Int32 → Sg → Prop} {F : Nat → Int32 → Int32 → Int32 → Int32 → Int32 → Sg → Prop} (C : kC p s m args meth c k_Md_propose 7 (some .int) GW R_Md D vwCl g (Zk g) A) (j5 : J_Md_propose_5 p l e s m args below meth c D g A post F) (j6 : J_Md_propose_6 p l e s m args below meth c D g A post F) (j7 : J_Md_propose_7 p l e s m args below meth c D g A post F) (x1 : Int32) (x3 : Int32) (σ : Sg) (H : Heap) (locs : List Loc) (ls : Array Slot) (hl : lv_has ls 7 [(0, .ref (g.1 54)), (1, .int x1), (3, .int x3)]) (hst : Wst D vwCl (WS g) A s σ H locs) (h : wb_Md_propose_3 F post x1 x3 σ) : W p l e { frames := 7, cells := 0, slots := 0, locals := 162 } s m args below meth c H locs 0 0 (MQ below (QiW D vwCl (WS g) post A) args s 0 0 A) (F0 m 176 ls []) := by
  obtain ⟨hx, hb, hr, hml, hown, hts, hlocks, hK, hZ, hA⟩ := C
  unfold wb_Md_propose_3 at h
  refine lv_iload_n hx hb d_Md_propose_176 rfl (lv_at hl 2 rfl) ?_
  refine lv_aload_n hx hb d_Md_propose_177 rfl (lv_at hl 0 rfl) ?_
  refine va_get (D := D) (ci := 10) (C := R_Md) (T := T_Md) (N := 46) hx hb hts in_Md hown hK hst.1 54 (WS_o54 g σ) rfl 4 (by decide) (hts _ gw1068) (fun _ h9 => h9) rfl d_Md_propose_178 ?_
  refine lv_iconst (v := (0 : Int32)) hx hb d_Md_propose_181 (by decide) ?_
  obtain ⟨hi, h⟩ := h
  refine va_iald hx hb hK hst.1 58 0 (WS_a58 g σ) rfl hi d_Md_propose_182 ?_
  refine lv_icmp_ge (tgt := 342) hx hb d_Md_propose_183 (by decide) (fun hc => ?_) (fun hc => ?_)
  · replace h := h.1 hc
    refine lv_aload_n hx hb d_Md_propose_342 rfl (lv_at hl 0 rfl) ?_
    refine va_get (D := D) (ci := 10) (C := R_Md) (T := T_Md) (N := 46) hx hb hts in_Md hown hK hst.1 54 (WS_o54 g σ) rfl 44 (by decide) (hts _ gw1108) (fun _ h9 => h9) rfl d_Md_propose_343 ?_
    refine lv_iconst (v := (0 : Int32)) hx hb d_Md_propose_346 (by decide) ?_
    refine lv_iconst (v := (0 : Int32)) hx hb d_Md_propose_347 (by decide) ?_
    obtain ⟨hi, h⟩ := h
    refine kw_iast hx hb hK hst 90 (WS_a90 g σ) hi (WS_s90 g σ _ _) d_Md_propose_348 (fun σ1 H locs e1 hst => ?_)
    replace h := h σ1 e1
    refine lv_iconst (v := (0 : Int32)) hx hb d_Md_propose_349 (by decide) ?_
    refine lv_istore_n hx hb d_Md_propose_350 rfl hl (by decide) rfl (fun ls hl => ?_)
    have hl : lv_has ls 7 [(3, .int (0 : Int32)), (0, .ref (g.1 54)), (1, .int x1)] := hl
    exact j5 (0 : Int32) σ1 _ _ _ (lv_sub hl [1, 0] rfl) hst h
  · replace h := h.2 hc
    refine lv_aload_n hx hb d_Md_propose_186 rfl (lv_at hl 0 rfl) ?_
    refine lv_iload_n hx hb d_Md_propose_187 rfl (lv_at hl 2 rfl) ?_
    refine lv_sipush (v := (160 : Int32)) hx hb d_Md_propose_188 (by decide) ?_
    refine lv_iload_n hx hb d_Md_propose_191 rfl (lv_at hl 1 rfl) ?_
    refine lv_iadd hx hb d_Md_propose_192 ?_
    refine kw_calli (va_runV (As := [.int x3, .int ((160 : Int32) + x1)]) (rest := []) (b := g.1 54) ⟨hx, hb, hml, hown, hts⟩ (c_Md_isMarked l x3 ((160 : Int32) + x1) h) (cwV 2 hts (gd_v gw1440 gw1442 gs86 gw15 gw1443) rfl rfl rfl (by decide +kernel) ⟨Nat.le_of_ble_eq_true rfl, Nat.le_of_ble_eq_true rfl⟩) ⟨kw_blind (Zk_ok g), va_recv hK hst.1 rfl (WS_o54 g σ), kw_pre (Zk_ok g) hK hZ hA hst⟩ rfl rfl hl.1 rfl (lv_room (Nat.le_of_ble_eq_true rfl)) d_Md_propose_193 ⟨Nat.le_of_ble_eq_true rfl, Nat.le_of_ble_eq_true rfl⟩) hst hA (fun r1 σ1 H locs h hst => ?_)
    refine lv_if_eq (tgt := 225) hx hb d_Md_propose_196 (by decide) (fun hc => ?_) (fun hc => ?_)
    · replace h := h.1 hc
      exact j6 x1 x3 σ1 _ _ _ (lv_sub hl [0, 1, 2] rfl) hst h
    · replace h := h.2 hc
      refine lv_aload_n hx hb d_Md_propose_199 rfl (lv_at hl 0 rfl) ?_
      refine va_get (D := D) (ci := 10) (C := R_Md) (T := T_Md) (N := 46) hx hb hts in_Md hown hK hst.1 54 (WS_o54 g σ1) rfl 5 (by decide) (hts _ gw1069) (fun _ h9 => h9) rfl d_Md_propose_200 ?_
      refine lv_iload_n hx hb d_Md_propose_203 rfl (lv_at hl 2 rfl) ?_
      obtain ⟨hi, h⟩ := h
      refine va_iald hx hb hK hst.1 59 0 (WS_a59 g σ1) rfl hi d_Md_propose_204 ?_
      refine lv_bipush (v := (6 : Int32)) hx hb d_Md_propose_205 (by decide) ?_
      refine lv_icmp_ne (tgt := 225) hx hb d_Md_propose_207 (by decide) (fun hc => ?_) (fun hc => ?_)
      · replace h := h.1 hc
        exact j6 x1 x3 σ1 _ _ _ (lv_sub hl [0, 1, 2] rfl) hst h
      · replace h := h.2 hc
        refine lv_aload_n hx hb d_Md_propose_210 rfl (lv_at hl 0 rfl) ?_
        refine va_get (D := D) (ci := 10) (C := R_Md) (T := T_Md) (N := 46) hx hb hts in_Md hown hK hst.1 54 (WS_o54 g σ1) rfl 25 (by decide) (hts _ gw1089) (fun _ h9 => h9) rfl d_Md_propose_211 ?_
        refine lv_bipush (v := (22 : Int32)) hx hb d_Md_propose_214 (by decide) ?_
        refine lv_iload_n hx hb d_Md_propose_216 rfl (lv_at hl 2 rfl) ?_
        refine lv_imul hx hb d_Md_propose_217 ?_
        refine lv_bipush (v := (12 : Int32)) hx hb d_Md_propose_218 (by decide) ?_
        refine lv_iadd hx hb d_Md_propose_220 ?_
        obtain ⟨hi, h⟩ := h
        refine va_iald hx hb hK hst.1 76 0 (WS_a76 g σ1) rfl hi d_Md_propose_221 ?_
        refine lv_goto (tgt := 226) hx hb d_Md_propose_222 (by decide) ?_
        refine lv_istore hx hb d_Md_propose_226 hl (by decide) rfl (fun ls hl => ?_)
        have hl : lv_has ls 7 [(4, .int (σ1.1 76 ((((22 : Int32) * x3) + (12 : Int32)) : Int32).toNatClampNeg)), (0, .ref (g.1 54)), (1, .int x1), (3, .int x3)] := hl
        exact j7 x1 x3 (σ1.1 76 ((((22 : Int32) * x3) + (12 : Int32)) : Int32).toNatClampNeg) σ1 _ _ _ (lv_sub hl [1, 2, 3, 0] rfl) hst h
set_option maxRecDepth 100000 in
set_option maxHeartbeats 4000000 in
theorem b_Md_propose_4 {p : Program} {l : Launch} {e : Env} {s : State} {m : MethodId} {args : Array Value} {below : List Frame} {meth : Method} {c : Code} {D : va_G} {g : Gm} {A : Nat → Prop} {post : Int32 → Sg → Prop} {F : Nat → Int32 → Int32 → Int32 → Int32 → Int32 → Sg → Prop} (C : kC p s m args meth c k_Md_propose 7 (some .int) GW R_Md D vwCl g (Zk g) A) (j2 : J_Md_propose_2 p l e s m args below meth c D g A post F) (j4 : J_Md_propose_4 p l e s m args below meth c D g A post F) (x1 : Int32) (x3 : Int32) (x4 : Int32) (σ : Sg) (H : Heap) (locs : List Loc) (ls : Array Slot) (hl : lv_has ls 7 [(0, .ref (g.1 54)), (1, .int x1), (3, .int x3), (4, .int x4)]) (hst : Wst D vwCl (WS g) A s σ H locs) (h : wb_Md_propose_4 F post x1 x3 x4 σ) : W p l e { frames := 7, cells := 0, slots := 0, locals := 162 } s m args below meth c H locs 0 0 (MQ below (QiW D vwCl (WS g) post A) args s 0 0 A) (F0 m 125 ls []) := by
  obtain ⟨hx, hb, hr, hml, hown, hts, hlocks, hK, hZ, hA⟩ := C
  unfold wb_Md_propose_4 at h
  refine lv_iload hx hb d_Md_propose_125 (lv_at hl 3 rfl) ?_
  refine lv_if_lt (tgt := 163) hx hb d_Md_propose_127 (by decide) (fun hc => ?_) (fun hc => ?_)
  · replace h := h.1 hc
    refine lv_iinc (k := 2) (v := (x3 + 1)) hx hb d_Md_propose_163 hl rfl (kw_inc _ (by decide)) (by decide) rfl (fun ls hl => ?_)
    have hl : lv_has ls 7 [(3, .int (x3 + 1)), (0, .ref (g.1 54)), (1, .int x1), (4, .int x4)] := hl
    refine lv_goto (tgt := 108) hx hb d_Md_propose_166 (by decide) ?_
    exact j2 x1 (x3 + 1) σ _ _ _ (lv_sub hl [1, 2, 0] rfl) hst h
  · replace h := h.2 hc
    refine lv_aload_n hx hb d_Md_propose_130 rfl (lv_at hl 0 rfl) ?_
    refine lv_aload_n hx hb d_Md_propose_131 rfl (lv_at hl 0 rfl) ?_
    refine va_get (D := D) (ci := 10) (C := R_Md) (T := T_Md) (N := 46) hx hb hts in_Md hown hK hst.1 54 (WS_o54 g σ) rfl 27 (by decide) (hts _ gw1091) (fun _ h9 => h9) rfl d_Md_propose_132 ?_
    refine lv_iload hx hb d_Md_propose_135 (lv_at hl 3 rfl) ?_
    obtain ⟨hi, h⟩ := h
    refine va_iald hx hb hK hst.1 78 0 (WS_a78 g σ) rfl hi d_Md_propose_137 ?_
    refine lv_iload_n hx hb d_Md_propose_138 rfl (lv_at hl 2 rfl) ?_
    refine kw_calli (va_runV (As := [.int (σ.1 78 x4.toNatClampNeg), .int x3]) (rest := []) (b := g.1 54) ⟨hx, hb, hml, hown, hts⟩ (c_Md_isMarked l (σ.1 78 x4.toNatClampNeg) x3 h) (cwV 2 hts (gd_v gw1440 gw1442 gs86 gw15 gw1443) rfl rfl rfl (by decide +kernel) ⟨Nat.le_of_ble_eq_true rfl, Nat.le_of_ble_eq_true rfl⟩) ⟨kw_blind (Zk_ok g), va_recv hK hst.1 rfl (WS_o54 g σ), kw_pre (Zk_ok g) hK hZ hA hst⟩ rfl rfl hl.1 rfl (lv_room (Nat.le_of_ble_eq_true rfl)) d_Md_propose_139 ⟨Nat.le_of_ble_eq_true rfl, Nat.le_of_ble_eq_true rfl⟩) hst hA (fun r1 σ1 H locs h hst => ?_)
    refine lv_if_eq (tgt := 157) hx hb d_Md_propose_142 (by decide) (fun hc => ?_) (fun hc => ?_)
    · replace h := h.1 hc
      refine lv_iinc (k := 3) (v := (x4 + (-1))) hx hb d_Md_propose_157 hl rfl (kw_inc _ (by decide)) (by decide) rfl (fun ls hl => ?_)
      have hl : lv_has ls 7 [(4, .int (x4 + (-1))), (0, .ref (g.1 54)), (1, .int x1), (3, .int x3)] := hl
      refine lv_goto (tgt := 125) hx hb d_Md_propose_160 (by decide) ?_
      exact j4 x1 x3 (x4 + (-1)) σ1 _ _ _ (lv_sub hl [1, 2, 3, 0] rfl) hst h
    · replace h := h.2 hc
      refine lv_aload_n hx hb d_Md_propose_145 rfl (lv_at hl 0 rfl) ?_
      refine lv_aload_n hx hb d_Md_propose_146 rfl (lv_at hl 0 rfl) ?_
      refine va_get (D := D) (ci := 10) (C := R_Md) (T := T_Md) (N := 46) hx hb hts in_Md hown hK hst.1 54 (WS_o54 g σ1) rfl 27 (by decide) (hts _ gw1091) (fun _ h9 => h9) rfl d_Md_propose_147 ?_
      refine lv_iload hx hb d_Md_propose_150 (lv_at hl 3 rfl) ?_
      obtain ⟨hi, h⟩ := h
      refine va_iald hx hb hK hst.1 78 0 (WS_a78 g σ1) rfl hi d_Md_propose_152 ?_
      refine lv_iload_n hx hb d_Md_propose_153 rfl (lv_at hl 2 rfl) ?_
      refine kw_callv (va_runV (As := [.int (σ1.1 78 x4.toNatClampNeg), .int x3]) (rest := []) (b := g.1 54) ⟨hx, hb, hml, hown, hts⟩ (c_Md_reach l (σ1.1 78 x4.toNatClampNeg) x3 h) (cwV 2 hts (gd_v gw1468 gw1470 gs91 gw15 gw1471) rfl rfl rfl (by decide +kernel) ⟨Nat.le_of_ble_eq_true rfl, Nat.le_of_ble_eq_true rfl⟩) ⟨kw_blind (Zk_ok g), va_recv hK hst.1 rfl (WS_o54 g σ1), kw_pre (Zk_ok g) hK hZ hA hst⟩ rfl rfl hl.1 rfl (lv_room (Nat.le_of_ble_eq_true rfl)) d_Md_propose_154 ⟨Nat.le_of_ble_eq_true rfl, Nat.le_of_ble_eq_true rfl⟩) hst hA (fun σ2 H locs h hst => ?_)
      refine lv_iinc (k := 3) (v := (x4 + (-1))) hx hb d_Md_propose_157 hl rfl (kw_inc _ (by decide)) (by decide) rfl (fun ls hl => ?_)
      have hl : lv_has ls 7 [(4, .int (x4 + (-1))), (0, .ref (g.1 54)), (1, .int x1), (3, .int x3)] := hl
      refine lv_goto (tgt := 125) hx hb d_Md_propose_160 (by decide) ?_
      exact j4 x1 x3 (x4 + (-1)) σ2 _ _ _ (lv_sub hl [1, 2, 3, 0] rfl) hst h
set_option maxRecDepth 100000 in
set_option maxHeartbeats 4000000 in
theorem b_Md_propose_5 {p : Program} {l : Launch} {e : Env} {s : State} {m : MethodId} {args : Array Value} {below : List Frame} {meth : Method} {c : Code} {D : va_G} {g : Gm} {A : Nat → Prop} {post : Int32 → Sg → Prop} {F : Nat → Int32 → Int32 → Int32 → Int32 → Int32 → Sg → Prop} (C : kC p s m args meth c k_Md_propose 7 (some .int) GW R_Md D vwCl g (Zk g) A) (j9 : J_Md_propose_9 p l e s m args below meth c D g A post F) (x3 : Int32) (σ : Sg) (H : Heap) (locs : List Loc) (ls : Array Slot) (hl : lv_has ls 7 [(0, .ref (g.1 54)), (3, .int x3)]) (hst : Wst D vwCl (WS g) A s σ H locs) (h : wb_Md_propose_5 F post x3 σ) : W p l e { frames := 7, cells := 0, slots := 0, locals := 162 } s m args below meth c H locs 0 0 (MQ below (QiW D vwCl (WS g) post A) args s 0 0 A) (F0 m 351 ls []) := by
  obtain ⟨hx, hb, hr, hml, hown, hts, hlocks, hK, hZ, hA⟩ := C
  unfold wb_Md_propose_5 at h
  refine lv_iload_n hx hb d_Md_propose_351 rfl (lv_at hl 1 rfl) ?_
  refine lv_aload_n hx hb d_Md_propose_352 rfl (lv_at hl 0 rfl) ?_
  refine va_get (D := D) (ci := 10) (C := R_Md) (T := T_Md) (N := 46) hx hb hts in_Md hown hK hst.1 54 (WS_o54 g σ) rfl 42 (by decide) (hts _ gw1106) (fun _ h9 => h9) rfl d_Md_propose_353 ?_
  refine lv_icmp_ge (tgt := 456) hx hb d_Md_propose_356 (by decide) (fun hc => ?_) (fun hc => ?_)
  · replace h := h.1 hc
    refine lv_aload_n hx hb d_Md_propose_456 rfl (lv_at hl 0 rfl) ?_
    refine va_get (D := D) (ci := 10) (C := R_Md) (T := T_Md) (N := 46) hx hb hts in_Md hown hK hst.1 54 (WS_o54 g σ) rfl 42 (by decide) (hts _ gw1106) (fun _ h9 => h9) rfl d_Md_propose_457 ?_
    exact kw_iret hx hb hr hlocks hst h d_Md_propose_460
  · replace h := h.2 hc
    refine lv_aload_n hx hb d_Md_propose_359 rfl (lv_at hl 0 rfl) ?_
    refine va_get (D := D) (ci := 10) (C := R_Md) (T := T_Md) (N := 46) hx hb hts in_Md hown hK hst.1 54 (WS_o54 g σ) rfl 45 (by decide) (hts _ gw1109) (fun _ h9 => h9) rfl d_Md_propose_360 ?_
    refine lv_iload_n hx hb d_Md_propose_363 rfl (lv_at hl 1 rfl) ?_
    obtain ⟨hi, h⟩ := h
    refine va_iald hx hb hK hst.1 91 0 (WS_a91 g σ) rfl hi d_Md_propose_364 ?_
    refine lv_istore hx hb d_Md_propose_365 hl (by decide) rfl (fun ls hl => ?_)
    have hl : lv_has ls 7 [(4, .int (σ.1 91 x3.toNatClampNeg)), (0, .ref (g.1 54)), (3, .int x3)] := hl
    refine lv_aload_n hx hb d_Md_propose_367 rfl (lv_at hl 1 rfl) ?_
    refine va_get (D := D) (ci := 10) (C := R_Md) (T := T_Md) (N := 46) hx hb hts in_Md hown hK hst.1 54 (WS_o54 g σ) rfl 14 (by decide) (hts _ gw1078) (fun _ h9 => h9) rfl d_Md_propose_368 ?_
    refine lv_iload hx hb d_Md_propose_371 (lv_at hl 0 rfl) ?_
    obtain ⟨hi, h⟩ := h
    refine va_iald hx hb hK hst.1 68 0 (WS_a68 g σ) rfl hi d_Md_propose_373 ?_
    refine lv_aload_n hx hb d_Md_propose_374 rfl (lv_at hl 1 rfl) ?_
    refine va_get (D := D) (ci := 10) (C := R_Md) (T := T_Md) (N := 46) hx hb hts in_Md hown hK hst.1 54 (WS_o54 g σ) rfl 13 (by decide) (hts _ gw1077) (fun _ h9 => h9) rfl d_Md_propose_375 ?_
    refine lv_iload hx hb d_Md_propose_378 (lv_at hl 0 rfl) ?_
    obtain ⟨hi, h⟩ := h
    refine va_iald hx hb hK hst.1 67 0 (WS_a67 g σ) rfl hi d_Md_propose_380 ?_
    refine lv_isub hx hb d_Md_propose_381 ?_
    refine lv_iconst (v := (1 : Int32)) hx hb d_Md_propose_382 (by decide) ?_
    refine lv_isub hx hb d_Md_propose_383 ?_
    refine lv_istore hx hb d_Md_propose_384 hl (by decide) rfl (fun ls hl => ?_)
    have hl : lv_has ls 7 [(5, .int (((σ.1 68 ((σ.1 91 x3.toNatClampNeg) : Int32).toNatClampNeg) - (σ.1 67 ((σ.1 91 x3.toNatClampNeg) : Int32).toNatClampNeg)) - (1 : Int32))), (4, .int (σ.1 91 x3.toNatClampNeg)), (0, .ref (g.1 54)), (3, .int x3)] := hl
    refine lv_iconst (v := (0 : Int32)) hx hb d_Md_propose_386 (by decide) ?_
    refine lv_istore hx hb d_Md_propose_387 hl (by decide) rfl (fun ls hl => ?_)
    have hl : lv_has ls 7 [(6, .int (0 : Int32)), (5, .int (((σ.1 68 ((σ.1 91 x3.toNatClampNeg) : Int32).toNatClampNeg) - (σ.1 67 ((σ.1 91 x3.toNatClampNeg) : Int32).toNatClampNeg)) - (1 : Int32))), (4, .int (σ.1 91 x3.toNatClampNeg)), (0, .ref (g.1 54)), (3, .int x3)] := hl
    exact j9 x3 (σ.1 91 x3.toNatClampNeg) (((σ.1 68 ((σ.1 91 x3.toNatClampNeg) : Int32).toNatClampNeg) - (σ.1 67 ((σ.1 91 x3.toNatClampNeg) : Int32).toNatClampNeg)) - (1 : Int32)) (0 : Int32) σ _ _ _ (lv_sub hl [3, 4, 2, 1, 0] rfl) hst h
set_option maxRecDepth 100000 in
set_option maxHeartbeats 4000000 in
theorem b_Md_propose_6 {p : Program} {l : Launch} {e : Env} {s : State} {m : MethodId} {args : Array Value} {below : List Frame} {meth : Method} {c : Code} {D : va_G} {g : Gm} {A : Nat → Prop} {post : Int32 → Sg → Prop} {F : Nat → Int32 → Int32 → Int32 → Int32 → Int32 → Sg → Prop} (C : kC p s m args meth c k_Md_propose 7 (some .int) GW R_Md D vwCl g (Zk g) A) (j7 : J_Md_propose_7 p l e s m args below meth c D g A post F) (x1 : Int32) (x3 : Int32) (σ : Sg) (H : Heap) (locs : List Loc) (ls : Array Slot) (hl : lv_has ls 7 [(0, .ref (g.1 54)), (1, .int x1), (3, .int x3)]) (hst : Wst D vwCl (WS g) A s σ H locs) (h : wb_Md_propose_6 F post x1 x3 σ) : W p l e { frames := 7, cells := 0, slots := 0, locals := 162 } s m args below meth c H locs 0 0 (MQ below (QiW D vwCl (WS g) post A) args s 0 0 A) (F0 m 225 ls []) := by
  obtain ⟨hx, hb, hr, hml, hown, hts, hlocks, hK, hZ, hA⟩ := C
  unfold wb_Md_propose_6 at h
  refine lv_iconst (v := (-1 : Int32)) hx hb d_Md_propose_225 (by decide) ?_
  refine lv_istore hx hb d_Md_propose_226 hl (by decide) rfl (fun ls hl => ?_)
  have hl : lv_has ls 7 [(4, .int (-1 : Int32)), (0, .ref (g.1 54)), (1, .int x1), (3, .int x3)] := hl
  exact j7 x1 x3 (-1 : Int32) σ _ _ _ (lv_sub hl [1, 2, 3, 0] rfl) hst h
set_option maxRecDepth 100000 in
set_option maxHeartbeats 4000000 in
theorem b_Md_propose_7 {p : Program} {l : Launch} {e : Env} {s : State} {m : MethodId} {args : Array Value} {below : List Frame} {meth : Method} {c : Code} {D : va_G} {g : Gm} {A : Nat → Prop} {post : Int32 → Sg → Prop} {F : Nat → Int32 → Int32 → Int32 → Int32 → Int32 → Sg → Prop} (C : kC p s m args meth c k_Md_propose 7 (some .int) GW R_Md D vwCl g (Zk g) A) (j8 : J_Md_propose_8 p l e s m args below meth c D g A post F) (x1 : Int32) (x3 : Int32) (x4 : Int32) (σ : Sg) (H : Heap) (locs : List Loc) (ls : Array Slot) (hl : lv_has ls 7 [(0, .ref (g.1 54)), (1, .int x1), (3, .int x3), (4, .int x4)]) (hst : Wst D vwCl (WS g) A s σ H locs) (h : wb_Md_propose_7 F post x1 x3 x4 σ) : W p l e { frames := 7, cells := 0, slots := 0, locals := 162 } s m args below meth c H locs 0 0 (MQ below (QiW D vwCl (WS g) post A) args s 0 0 A) (F0 m 228 ls []) := by
  obtain ⟨hx, hb, hr, hml, hown, hts, hlocks, hK, hZ, hA⟩ := C
  unfold wb_Md_propose_7 at h
  refine lv_iload hx hb d_Md_propose_228 (lv_at hl 3 rfl) ?_
  refine lv_if_lt (tgt := 255) hx hb d_Md_propose_230 (by decide) (fun hc => ?_) (fun hc => ?_)
  · replace h := h.1 hc
    refine lv_iconst (v := (-1 : Int32)) hx hb d_Md_propose_255 (by decide) ?_
    refine lv_istore hx hb d_Md_propose_256 hl (by decide) rfl (fun ls hl => ?_)
    have hl : lv_has ls 7 [(5, .int (-1 : Int32)), (0, .ref (g.1 54)), (1, .int x1), (3, .int x3), (4, .int x4)] := hl
    exact j8 x1 x3 (-1 : Int32) σ _ _ _ (lv_sub hl [1, 2, 3, 0] rfl) hst h
  · replace h := h.2 hc
    refine lv_aload_n hx hb d_Md_propose_233 rfl (lv_at hl 0 rfl) ?_
    refine va_get (D := D) (ci := 10) (C := R_Md) (T := T_Md) (N := 46) hx hb hts in_Md hown hK hst.1 54 (WS_o54 g σ) rfl 5 (by decide) (hts _ gw1069) (fun _ h9 => h9) rfl d_Md_propose_234 ?_
    refine lv_iload hx hb d_Md_propose_237 (lv_at hl 3 rfl) ?_
    obtain ⟨hi, h⟩ := h
    refine va_iald hx hb hK hst.1 59 0 (WS_a59 g σ) rfl hi d_Md_propose_239 ?_
    refine lv_bipush (v := (6 : Int32)) hx hb d_Md_propose_240 (by decide) ?_
    refine lv_icmp_ne (tgt := 255) hx hb d_Md_propose_242 (by decide) (fun hc => ?_) (fun hc => ?_)
    · replace h := h.1 hc
      refine lv_iconst (v := (-1 : Int32)) hx hb d_Md_propose_255 (by decide) ?_
      refine lv_istore hx hb d_Md_propose_256 hl (by decide) rfl (fun ls hl => ?_)
      have hl : lv_has ls 7 [(5, .int (-1 : Int32)), (0, .ref (g.1 54)), (1, .int x1), (3, .int x3), (4, .int x4)] := hl
      exact j8 x1 x3 (-1 : Int32) σ _ _ _ (lv_sub hl [1, 2, 3, 0] rfl) hst h
    · replace h := h.2 hc
      refine lv_aload_n hx hb d_Md_propose_245 rfl (lv_at hl 0 rfl) ?_
      refine va_get (D := D) (ci := 10) (C := R_Md) (T := T_Md) (N := 46) hx hb hts in_Md hown hK hst.1 54 (WS_o54 g σ) rfl 11 (by decide) (hts _ gw1075) (fun _ h9 => h9) rfl d_Md_propose_246 ?_
      refine lv_iload hx hb d_Md_propose_249 (lv_at hl 3 rfl) ?_
      obtain ⟨hi, h⟩ := h
      refine va_iald hx hb hK hst.1 65 0 (WS_a65 g σ) rfl hi d_Md_propose_251 ?_
      refine lv_goto (tgt := 256) hx hb d_Md_propose_252 (by decide) ?_
      refine lv_istore hx hb d_Md_propose_256 hl (by decide) rfl (fun ls hl => ?_)
      have hl : lv_has ls 7 [(5, .int (σ.1 65 x4.toNatClampNeg)), (0, .ref (g.1 54)), (1, .int x1), (3, .int x3), (4, .int x4)] := hl
      exact j8 x1 x3 (σ.1 65 x4.toNatClampNeg) σ _ _ _ (lv_sub hl [1, 2, 3, 0] rfl) hst h
set_option maxRecDepth 100000 in
set_option maxHeartbeats 4000000 in
theorem b_Md_propose_8 {p : Program} {l : Launch} {e : Env} {s : State} {m : MethodId} {args : Array Value} {below : List Frame} {meth : Method} {c : Code} {D : va_G} {g : Gm} {A : Nat → Prop} {post : Int32 → Sg → Prop} {F : Nat → Int32 → Int32 → Int32 → Int32 → Int32 → Sg → Prop} (C : kC p s m args meth c k_Md_propose 7 (some .int) GW R_Md D vwCl g (Zk g) A) (j3 : J_Md_propose_3 p l e s m args below meth c D g A post F) (j8 : J_Md_propose_8 p l e s m args below meth c D g A post F) (x1 : Int32) (x3 : Int32) (x5 : Int32) (σ : Sg) (H : Heap) (locs : List Loc) (ls : Array Slot) (hl : lv_has ls 7 [(0, .ref (g.1 54)), (1, .int x1), (3, .int x3), (5, .int x5)]) (hst : Wst D vwCl (WS g) A s σ H locs) (h : wb_Md_propose_8 F post x1 x3 x5 σ) : W p l e { frames := 7, cells := 0, slots := 0, locals := 162 } s m args below meth c H locs 0 0 (MQ below (QiW D vwCl (WS g) post A) args s 0 0 A) (F0 m 258 ls []) := by
  obtain ⟨hx, hb, hr, hml, hown, hts, hlocks, hK, hZ, hA⟩ := C
  unfold wb_Md_propose_8 at h
  refine lv_iload hx hb d_Md_propose_258 (lv_at hl 3 rfl) ?_
  refine lv_if_lt (tgt := 336) hx hb d_Md_propose_260 (by decide) (fun hc => ?_) (fun hc => ?_)
  · replace h := h.1 hc
    refine lv_iinc (k := 2) (v := (x3 + 1)) hx hb d_Md_propose_336 hl rfl (kw_inc _ (by decide)) (by decide) rfl (fun ls hl => ?_)
    have hl : lv_has ls 7 [(3, .int (x3 + 1)), (0, .ref (g.1 54)), (1, .int x1), (5, .int x5)] := hl
    refine lv_goto (tgt := 176) hx hb d_Md_propose_339 (by decide) ?_
    exact j3 x1 (x3 + 1) σ _ _ _ (lv_sub hl [1, 2, 0] rfl) hst h
  · replace h := h.2 hc
    refine lv_aload_n hx hb d_Md_propose_263 rfl (lv_at hl 0 rfl) ?_
    refine lv_sipush (v := (160 : Int32)) hx hb d_Md_propose_264 (by decide) ?_
    refine lv_iload_n hx hb d_Md_propose_267 rfl (lv_at hl 1 rfl) ?_
    refine lv_iadd hx hb d_Md_propose_268 ?_
    refine lv_aload_n hx hb d_Md_propose_269 rfl (lv_at hl 0 rfl) ?_
    refine va_get (D := D) (ci := 10) (C := R_Md) (T := T_Md) (N := 46) hx hb hts in_Md hown hK hst.1 54 (WS_o54 g σ) rfl 13 (by decide) (hts _ gw1077) (fun _ h9 => h9) rfl d_Md_propose_270 ?_
    refine lv_iload hx hb d_Md_propose_273 (lv_at hl 3 rfl) ?_
    obtain ⟨hi, h⟩ := h
    refine va_iald hx hb hK hst.1 67 0 (WS_a67 g σ) rfl hi d_Md_propose_275 ?_
    refine lv_iconst (v := (1 : Int32)) hx hb d_Md_propose_276 (by decide) ?_
    refine lv_iadd hx hb d_Md_propose_277 ?_
    refine lv_aload_n hx hb d_Md_propose_278 rfl (lv_at hl 0 rfl) ?_
    refine va_get (D := D) (ci := 10) (C := R_Md) (T := T_Md) (N := 46) hx hb hts in_Md hown hK hst.1 54 (WS_o54 g σ) rfl 14 (by decide) (hts _ gw1078) (fun _ h9 => h9) rfl d_Md_propose_279 ?_
    refine lv_iload hx hb d_Md_propose_282 (lv_at hl 3 rfl) ?_
    obtain ⟨hi, h⟩ := h
    refine va_iald hx hb hK hst.1 68 0 (WS_a68 g σ) rfl hi d_Md_propose_284 ?_
    refine kw_calli (va_runV (As := [.int ((160 : Int32) + x1), .int ((σ.1 67 x5.toNatClampNeg) + (1 : Int32)), .int (σ.1 68 x5.toNatClampNeg)]) (rest := []) (b := g.1 54) ⟨hx, hb, hml, hown, hts⟩ (c_Md_childNamed l ((160 : Int32) + x1) ((σ.1 67 x5.toNatClampNeg) + (1 : Int32)) (σ.1 68 x5.toNatClampNeg) h) (cwV 3 hts (gd_v gw1313 gw1315 gs60 gw15 gw1316) rfl rfl rfl (by decide +kernel) ⟨Nat.le_of_ble_eq_true rfl, Nat.le_of_ble_eq_true rfl⟩) ⟨kw_blind (Zk_ok g), va_recv hK hst.1 rfl (WS_o54 g σ), kw_pre (Zk_ok g) hK hZ hA hst⟩ rfl rfl hl.1 rfl (lv_room (Nat.le_of_ble_eq_true rfl)) d_Md_propose_285 ⟨Nat.le_of_ble_eq_true rfl, Nat.le_of_ble_eq_true rfl⟩) hst hA (fun r1 σ1 H locs h hst => ?_)
    refine lv_if_ge (tgt := 324) hx hb d_Md_propose_288 (by decide) (fun hc => ?_) (fun hc => ?_)
    · replace h := h.1 hc
      refine lv_aload_n hx hb d_Md_propose_324 rfl (lv_at hl 0 rfl) ?_
      refine va_get (D := D) (ci := 10) (C := R_Md) (T := T_Md) (N := 46) hx hb hts in_Md hown hK hst.1 54 (WS_o54 g σ1) rfl 12 (by decide) (hts _ gw1076) (fun _ h9 => h9) rfl d_Md_propose_325 ?_
      refine lv_iload hx hb d_Md_propose_328 (lv_at hl 3 rfl) ?_
      obtain ⟨hi, h⟩ := h
      refine va_iald hx hb hK hst.1 66 0 (WS_a66 g σ1) rfl hi d_Md_propose_330 ?_
      refine lv_istore hx hb d_Md_propose_331 hl (by decide) rfl (fun ls hl => ?_)
      have hl : lv_has ls 7 [(5, .int (σ1.1 66 x5.toNatClampNeg)), (0, .ref (g.1 54)), (1, .int x1), (3, .int x3)] := hl
      refine lv_goto (tgt := 258) hx hb d_Md_propose_333 (by decide) ?_
      exact j8 x1 x3 (σ1.1 66 x5.toNatClampNeg) σ1 _ _ _ (lv_sub hl [1, 2, 3, 0] rfl) hst h
    · replace h := h.2 hc
      refine lv_aload_n hx hb d_Md_propose_291 rfl (lv_at hl 0 rfl) ?_
      refine lv_iload hx hb d_Md_propose_292 (lv_at hl 3 rfl) ?_
      refine lv_aload_n hx hb d_Md_propose_294 rfl (lv_at hl 0 rfl) ?_
      refine va_get (D := D) (ci := 10) (C := R_Md) (T := T_Md) (N := 46) hx hb hts in_Md hown hK hst.1 54 (WS_o54 g σ1) rfl 42 (by decide) (hts _ gw1106) (fun _ h9 => h9) rfl d_Md_propose_295 ?_
      refine kw_calli (va_runV (As := [.int x5, .int (σ1.1 54 42)]) (rest := []) (b := g.1 54) ⟨hx, hb, hml, hown, hts⟩ (c_Md_isOffered l x5 (σ1.1 54 42) h) (cwV 2 hts (gd_v gw1472 gw1474 gs92 gw15 gw1475) rfl rfl rfl (by decide +kernel) ⟨Nat.le_of_ble_eq_true rfl, Nat.le_of_ble_eq_true rfl⟩) ⟨kw_blind (Zk_ok g), va_recv hK hst.1 rfl (WS_o54 g σ1), kw_pre (Zk_ok g) hK hZ hA hst⟩ rfl rfl hl.1 rfl (lv_room (Nat.le_of_ble_eq_true rfl)) d_Md_propose_298 ⟨Nat.le_of_ble_eq_true rfl, Nat.le_of_ble_eq_true rfl⟩) hst hA (fun r2 σ2 H locs h hst => ?_)
      refine lv_if_ne (tgt := 324) hx hb d_Md_propose_301 (by decide) (fun hc => ?_) (fun hc => ?_)
      · replace h := h.1 hc
        refine lv_aload_n hx hb d_Md_propose_324 rfl (lv_at hl 0 rfl) ?_
        refine va_get (D := D) (ci := 10) (C := R_Md) (T := T_Md) (N := 46) hx hb hts in_Md hown hK hst.1 54 (WS_o54 g σ2) rfl 12 (by decide) (hts _ gw1076) (fun _ h9 => h9) rfl d_Md_propose_325 ?_
        refine lv_iload hx hb d_Md_propose_328 (lv_at hl 3 rfl) ?_
        obtain ⟨hi, h⟩ := h
        refine va_iald hx hb hK hst.1 66 0 (WS_a66 g σ2) rfl hi d_Md_propose_330 ?_
        refine lv_istore hx hb d_Md_propose_331 hl (by decide) rfl (fun ls hl => ?_)
        have hl : lv_has ls 7 [(5, .int (σ2.1 66 x5.toNatClampNeg)), (0, .ref (g.1 54)), (1, .int x1), (3, .int x3)] := hl
        refine lv_goto (tgt := 258) hx hb d_Md_propose_333 (by decide) ?_
        exact j8 x1 x3 (σ2.1 66 x5.toNatClampNeg) σ2 _ _ _ (lv_sub hl [1, 2, 3, 0] rfl) hst h
      · replace h := h.2 hc
        refine lv_aload_n hx hb d_Md_propose_304 rfl (lv_at hl 0 rfl) ?_
        refine lv_iload hx hb d_Md_propose_305 (lv_at hl 3 rfl) ?_
        refine lv_aload_n hx hb d_Md_propose_307 rfl (lv_at hl 0 rfl) ?_
        refine va_get (D := D) (ci := 10) (C := R_Md) (T := T_Md) (N := 46) hx hb hts in_Md hown hK hst.1 54 (WS_o54 g σ2) rfl 42 (by decide) (hts _ gw1106) (fun _ h9 => h9) rfl d_Md_propose_308 ?_
        refine kw_callv (va_runV (As := [.int x5, .int (σ2.1 54 42)]) (rest := []) (b := g.1 54) ⟨hx, hb, hml, hown, hts⟩ (c_Md_offer l x5 (σ2.1 54 42) h) (cwV 2 hts (gd_v gw1480 gw1482 gs94 gw15 gw1483) rfl rfl rfl (by decide +kernel) ⟨Nat.le_of_ble_eq_true rfl, Nat.le_of_ble_eq_true rfl⟩) ⟨kw_blind (Zk_ok g), va_recv hK hst.1 rfl (WS_o54 g σ2), kw_pre (Zk_ok g) hK hZ hA hst⟩ rfl rfl hl.1 rfl (lv_room (Nat.le_of_ble_eq_true rfl)) d_Md_propose_311 ⟨Nat.le_of_ble_eq_true rfl, Nat.le_of_ble_eq_true rfl⟩) hst hA (fun σ3 H locs h hst => ?_)
        refine lv_aload_n hx hb d_Md_propose_314 rfl (lv_at hl 0 rfl) ?_
        refine lv_dup hx hb d_Md_propose_315 rfl ?_
        refine va_get (D := D) (ci := 10) (C := R_Md) (T := T_Md) (N := 46) hx hb hts in_Md hown hK hst.1 54 (WS_o54 g σ3) rfl 42 (by decide) (hts _ gw1106) (fun _ h9 => h9) rfl d_Md_propose_316 ?_
        refine lv_iconst (v := (1 : Int32)) hx hb d_Md_propose_319 (by decide) ?_
        refine lv_iadd hx hb d_Md_propose_320 ?_
        refine kw_put (D := D) (ci := 10) (ty := .int) (C := R_Md) (T := T_Md) (N := 46) hx hb hts in_Md ty_Md ty_Md_ok nm_Md hown hK hst 54 (WS_o54 g σ3) rfl 42 (by decide) (hts _ gw1106) (fun _ h9 => h9) rfl (by decide +kernel) rfl rfl (Nat.le_of_ble_eq_true rfl) (WS_p54_42 g σ3 _) d_Md_propose_321 (fun σ4 H locs e4 hst => ?_)
        replace h := h σ4 e4
        refine lv_aload_n hx hb d_Md_propose_324 rfl (lv_at hl 0 rfl) ?_
        refine va_get (D := D) (ci := 10) (C := R_Md) (T := T_Md) (N := 46) hx hb hts in_Md hown hK hst.1 54 (WS_o54 g σ4) rfl 12 (by decide) (hts _ gw1076) (fun _ h9 => h9) rfl d_Md_propose_325 ?_
        refine lv_iload hx hb d_Md_propose_328 (lv_at hl 3 rfl) ?_
        obtain ⟨hi, h⟩ := h
        refine va_iald hx hb hK hst.1 66 0 (WS_a66 g σ4) rfl hi d_Md_propose_330 ?_
        refine lv_istore hx hb d_Md_propose_331 hl (by decide) rfl (fun ls hl => ?_)
        have hl : lv_has ls 7 [(5, .int (σ4.1 66 x5.toNatClampNeg)), (0, .ref (g.1 54)), (1, .int x1), (3, .int x3)] := hl
        refine lv_goto (tgt := 258) hx hb d_Md_propose_333 (by decide) ?_
        exact j8 x1 x3 (σ4.1 66 x5.toNatClampNeg) σ4 _ _ _ (lv_sub hl [1, 2, 3, 0] rfl) hst h
set_option maxRecDepth 100000 in
set_option maxHeartbeats 4000000 in
theorem b_Md_propose_9 {p : Program} {l : Launch} {e : Env} {s : State} {m : MethodId} {args : Array Value} {below : List Frame} {meth : Method} {c : Code} {D : va_G} {g : Gm} {A : Nat → Prop} {post : Int32 → Sg → Prop} {F : Nat → Int32 → Int32 → Int32 → Int32 → Int32 → Sg → Prop} (C : kC p s m args meth c k_Md_propose 7 (some .int) GW R_Md D vwCl g (Zk g) A) (j5 : J_Md_propose_5 p l e s m args below meth c D g A post F) (j9 : J_Md_propose_9 p l e s m args below meth c D g A post F) (x3 : Int32) (x4 : Int32) (x5 : Int32) (x6 : Int32) (σ : Sg) (H : Heap) (locs : List Loc) (ls : Array Slot) (hl : lv_has ls 7 [(0, .ref (g.1 54)), (3, .int x3), (4, .int x4), (5, .int x5), (6, .int x6)]) (hst : Wst D vwCl (WS g) A s σ H locs) (h : wb_Md_propose_9 F post x3 x4 x5 x6 σ) : W p l e { frames := 7, cells := 0, slots := 0, locals := 162 } s m args below meth c H locs 0 0 (MQ below (QiW D vwCl (WS g) post A) args s 0 0 A) (F0 m 389 ls []) := by
  obtain ⟨hx, hb, hr, hml, hown, hts, hlocks, hK, hZ, hA⟩ := C
  unfold wb_Md_propose_9 at h
  refine lv_iload hx hb d_Md_propose_389 (lv_at hl 4 rfl) ?_
  refine lv_iload hx hb d_Md_propose_391 (lv_at hl 3 rfl) ?_
  refine lv_icmp_ge (tgt := 433) hx hb d_Md_propose_393 (by decide) (fun hc => ?_) (fun hc => ?_)
  · replace h := h.1 hc
    refine lv_aload_n hx hb d_Md_propose_433 rfl (lv_at hl 0 rfl) ?_
    refine va_get (D := D) (ci := 10) (C := R_Md) (T := T_Md) (N := 46) hx hb hts in_Md hown hK hst.1 54 (WS_o54 g σ) rfl 44 (by decide) (hts _ gw1108) (fun _ h9 => h9) rfl d_Md_propose_434 ?_
    refine lv_iload_n hx hb d_Md_propose_437 rfl (lv_at hl 1 rfl) ?_
    refine lv_iconst (v := (1 : Int32)) hx hb d_Md_propose_438 (by decide) ?_
    refine lv_iadd hx hb d_Md_propose_439 ?_
    refine lv_aload_n hx hb d_Md_propose_440 rfl (lv_at hl 0 rfl) ?_
    refine va_get (D := D) (ci := 10) (C := R_Md) (T := T_Md) (N := 46) hx hb hts in_Md hown hK hst.1 54 (WS_o54 g σ) rfl 44 (by decide) (hts _ gw1108) (fun _ h9 => h9) rfl d_Md_propose_441 ?_
    refine lv_iload_n hx hb d_Md_propose_444 rfl (lv_at hl 1 rfl) ?_
    obtain ⟨hi, h⟩ := h
    refine va_iald hx hb hK hst.1 90 0 (WS_a90 g σ) rfl hi d_Md_propose_445 ?_
    refine lv_iload hx hb d_Md_propose_446 (lv_at hl 3 rfl) ?_
    refine lv_iadd hx hb d_Md_propose_448 ?_
    obtain ⟨hi, h⟩ := h
    refine kw_iast hx hb hK hst 90 (WS_a90 g σ) hi (WS_s90 g σ _ _) d_Md_propose_449 (fun σ1 H locs e1 hst => ?_)
    replace h := h σ1 e1
    refine lv_iinc (k := 1) (v := (x3 + 1)) hx hb d_Md_propose_450 hl rfl (kw_inc _ (by decide)) (by decide) rfl (fun ls hl => ?_)
    have hl : lv_has ls 7 [(3, .int (x3 + 1)), (0, .ref (g.1 54)), (4, .int x4), (5, .int x5), (6, .int x6)] := hl
    refine lv_goto (tgt := 351) hx hb d_Md_propose_453 (by decide) ?_
    exact j5 (x3 + 1) σ1 _ _ _ (lv_sub hl [1, 0] rfl) hst h
  · replace h := h.2 hc
    refine lv_aload_n hx hb d_Md_propose_396 rfl (lv_at hl 0 rfl) ?_
    refine va_get (D := D) (ci := 10) (C := R_Md) (T := T_Md) (N := 46) hx hb hts in_Md hown hK hst.1 54 (WS_o54 g σ) rfl 43 (by decide) (hts _ gw1107) (fun _ h9 => h9) rfl d_Md_propose_397 ?_
    refine lv_aload_n hx hb d_Md_propose_400 rfl (lv_at hl 0 rfl) ?_
    refine va_get (D := D) (ci := 10) (C := R_Md) (T := T_Md) (N := 46) hx hb hts in_Md hown hK hst.1 54 (WS_o54 g σ) rfl 44 (by decide) (hts _ gw1108) (fun _ h9 => h9) rfl d_Md_propose_401 ?_
    refine lv_iload_n hx hb d_Md_propose_404 rfl (lv_at hl 1 rfl) ?_
    obtain ⟨hi, h⟩ := h
    refine va_iald hx hb hK hst.1 90 0 (WS_a90 g σ) rfl hi d_Md_propose_405 ?_
    refine lv_iload hx hb d_Md_propose_406 (lv_at hl 4 rfl) ?_
    refine lv_iadd hx hb d_Md_propose_408 ?_
    refine lv_aload_n hx hb d_Md_propose_409 rfl (lv_at hl 0 rfl) ?_
    refine va_get (D := D) (ci := 10) (C := R_Md) (T := T_Md) (N := 46) hx hb hts in_Md hown hK hst.1 54 (WS_o54 g σ) rfl 2 (by decide) (hts _ gw1066) (fun _ h9 => h9) rfl d_Md_propose_410 ?_
    refine lv_aload_n hx hb d_Md_propose_413 rfl (lv_at hl 0 rfl) ?_
    refine va_get (D := D) (ci := 10) (C := R_Md) (T := T_Md) (N := 46) hx hb hts in_Md hown hK hst.1 54 (WS_o54 g σ) rfl 13 (by decide) (hts _ gw1077) (fun _ h9 => h9) rfl d_Md_propose_414 ?_
    refine lv_iload hx hb d_Md_propose_417 (lv_at hl 2 rfl) ?_
    obtain ⟨hi, h⟩ := h
    refine va_iald hx hb hK hst.1 67 0 (WS_a67 g σ) rfl hi d_Md_propose_419 ?_
    refine lv_iconst (v := (1 : Int32)) hx hb d_Md_propose_420 (by decide) ?_
    refine lv_iadd hx hb d_Md_propose_421 ?_
    refine lv_iload hx hb d_Md_propose_422 (lv_at hl 4 rfl) ?_
    refine lv_iadd hx hb d_Md_propose_424 ?_
    obtain ⟨hi, h⟩ := h
    refine va_iald hx hb hK hst.1 56 0 (WS_a56 g σ) rfl hi d_Md_propose_425 ?_
    obtain ⟨hi, h⟩ := h
    refine kw_iast hx hb hK hst 89 (WS_a89 g σ) hi (WS_s89 g σ _ _) d_Md_propose_426 (fun σ1 H locs e1 hst => ?_)
    replace h := h σ1 e1
    refine lv_iinc (k := 4) (v := (x6 + 1)) hx hb d_Md_propose_427 hl rfl (kw_inc _ (by decide)) (by decide) rfl (fun ls hl => ?_)
    have hl : lv_has ls 7 [(6, .int (x6 + 1)), (0, .ref (g.1 54)), (3, .int x3), (4, .int x4), (5, .int x5)] := hl
    refine lv_goto (tgt := 389) hx hb d_Md_propose_430 (by decide) ?_
    exact j9 x3 x4 x5 (x6 + 1) σ1 _ _ _ (lv_sub hl [1, 2, 3, 4, 0] rfl) hst h
set_option maxRecDepth 100000 in
set_option maxHeartbeats 4000000 in
theorem a_Md_propose {p : Program} {l : Launch} {e : Env} {s : State} {m : MethodId} {args : Array Value} {below : List Frame} {meth : Method} {c : Code} {D : va_G} {g : Gm} {A : Nat → Prop} {post : Int32 → Sg → Prop} (C : kC p s m args meth c k_Md_propose 7 (some .int) GW R_Md D vwCl g (Zk g) A) : ∀ n : Nat, J_Md_propose_1 p l e s m args below meth c D g A post (wp_Md_propose post n) ∧ J_Md_propose_2 p l e s m args below meth c D g A post (wp_Md_propose post n) ∧ J_Md_propose_3 p l e s m args below meth c D g A post (wp_Md_propose post n) ∧ J_Md_propose_4 p l e s m args below meth c D g A post (wp_Md_propose post n) ∧ J_Md_propose_5 p l e s m args below meth c D g A post (wp_Md_propose post n) ∧ J_Md_propose_6 p l e s m args below meth c D g A post (wp_Md_propose post n) ∧ J_Md_propose_7 p l e s m args below meth c D g A post (wp_Md_propose post n) ∧ J_Md_propose_8 p l e s m args below meth c D g A post (wp_Md_propose post n) ∧ J_Md_propose_9 p l e s m args below meth c D g A post (wp_Md_propose post n) := by
  intro n
  induction n with
  | zero => exact ⟨fun _ _ _ _ _ _ _ _ h => h.elim, fun _ _ _ _ _ _ _ _ h => h.elim, fun _ _ _ _ _ _ _ _ h => h.elim, fun _ _ _ _ _ _ _ _ _ h => h.elim, fun _ _ _ _ _ _ _ h => h.elim, fun _ _ _ _ _ _ _ _ h => h.elim, fun _ _ _ _ _ _ _ _ _ h => h.elim, fun _ _ _ _ _ _ _ _ _ h => h.elim, fun _ _ _ _ _ _ _ _ _ _ h => h.elim⟩
  | succ n ih => exact ⟨fun x1 x3 σ H locs ls hl hst h => b_Md_propose_1 (F := wp_Md_propose post n) C (ih.1) (ih.2.1) x1 x3 σ H locs ls hl hst h, fun x1 x3 σ H locs ls hl hst h => b_Md_propose_2 (F := wp_Md_propose post n) C (ih.2.2.1) (ih.2.2.2.1) x1 x3 σ H locs ls hl hst h, fun x1 x3 σ H locs ls hl hst h => b_Md_propose_3 (F := wp_Md_propose post n) C (ih.2.2.2.2.1) (ih.2.2.2.2.2.1) (ih.2.2.2.2.2.2.1) x1 x3 σ H locs ls hl hst h, fun x1 x3 x4 σ H locs ls hl hst h => b_Md_propose_4 (F := wp_Md_propose post n) C (ih.2.1) (ih.2.2.2.1) x1 x3 x4 σ H locs ls hl hst h, fun x3 σ H locs ls hl hst h => b_Md_propose_5 (F := wp_Md_propose post n) C (ih.2.2.2.2.2.2.2.2) x3 σ H locs ls hl hst h, fun x1 x3 σ H locs ls hl hst h => b_Md_propose_6 (F := wp_Md_propose post n) C (ih.2.2.2.2.2.2.1) x1 x3 σ H locs ls hl hst h, fun x1 x3 x4 σ H locs ls hl hst h => b_Md_propose_7 (F := wp_Md_propose post n) C (ih.2.2.2.2.2.2.2.1) x1 x3 x4 σ H locs ls hl hst h, fun x1 x3 x5 σ H locs ls hl hst h => b_Md_propose_8 (F := wp_Md_propose post n) C (ih.2.2.1) (ih.2.2.2.2.2.2.2.1) x1 x3 x5 σ H locs ls hl hst h, fun x3 x4 x5 x6 σ H locs ls hl hst h => b_Md_propose_9 (F := wp_Md_propose post n) C (ih.2.2.2.2.1) (ih.2.2.2.2.2.2.2.2) x3 x4 x5 x6 σ H locs ls hl hst h⟩
set_option maxRecDepth 100000 in
set_option maxHeartbeats 4000000 in
theorem c_Md_propose (l : Launch) {D : va_G} {g : Gm} {sz : Nat} (x1 : Int32) {σ : Sg} {post : Int32 → Sg → Prop} (h : wq_Md_propose x1 σ post) : Met l y_Md_propose (.code y_Md_propose k_Md_propose 7 (some .int) :: GW) { frames := 7, cells := 0, slots := 0, locals := 162 } (PcW D vwCl (WS g) g (Zk g) σ sz [.ref (g.1 54), .int x1]) (QiW D vwCl (WS g) post (va_A (WS g σ) sz)) 0 0 (va_A (WS g σ) sz) := by
  refine kw_entry (own := R_Md) (by decide) rfl rfl (Nat.le_of_ble_eq_true rfl) ?_
  intro p e s m below meth c ls hsz C hin hl hst
  obtain ⟨n, h⟩ := h
  cases n with
  | zero => exact h.elim
  | succ n =>
    have ih := a_Md_propose (l := l) (e := e) (below := below) (post := post) C n
    exact b_Md_propose_0 (F := wp_Md_propose post n) C (ih.1) x1 σ _ _ ls hl hst h
