/-! SchemaDeskModel.report (II)V -/
abbrev k_Md_report : ByteArray := prog_12_method_63_code
abbrev y_Md_report : MethodName := ⟨"SchemaDeskModel", "report", "(II)V"⟩
theorem d_Md_report_0 : decode k_Md_report 0 = .ok (.aload_n 0, 1) := by decide +kernel
theorem d_Md_report_1 : decode k_Md_report 1 = .ok (.getfield 77, 3) := by decide +kernel
theorem d_Md_report_4 : decode k_Md_report 4 = .ok (.iload_n 1, 1) := by decide +kernel
theorem d_Md_report_5 : decode k_Md_report 5 = .ok (.iaload, 1) := by decide +kernel
theorem d_Md_report_6 : decode k_Md_report 6 = .ok (.iconst 1, 1) := by decide +kernel
theorem d_Md_report_7 : decode k_Md_report 7 = .ok (.if_icmp .ne 10, 3) := by decide +kernel
theorem d_Md_report_10 : decode k_Md_report 10 = .ok (.aload_n 0, 1) := by decide +kernel
theorem d_Md_report_11 : decode k_Md_report 11 = .ok (.iconst 0, 1) := by decide +kernel
theorem d_Md_report_12 : decode k_Md_report 12 = .ok (.iload_n 2, 1) := by decide +kernel
theorem d_Md_report_13 : decode k_Md_report 13 = .ok (.iload_n 1, 1) := by decide +kernel
theorem d_Md_report_14 : decode k_Md_report 14 = .ok (.invokevirtual 363, 3) := by decide +kernel
theorem d_Md_report_17 : decode k_Md_report 17 = .ok (.iconst 1, 1) := by decide +kernel
theorem d_Md_report_18 : decode k_Md_report 18 = .ok (.istore_n 3, 1) := by decide +kernel
theorem d_Md_report_19 : decode k_Md_report 19 = .ok (.iload_n 3, 1) := by decide +kernel
theorem d_Md_report_20 : decode k_Md_report 20 = .ok (.bipush 20, 2) := by decide +kernel
theorem d_Md_report_22 : decode k_Md_report 22 = .ok (.if_icmp .gt 178, 3) := by decide +kernel
theorem d_Md_report_25 : decode k_Md_report 25 = .ok (.aload_n 0, 1) := by decide +kernel
theorem d_Md_report_26 : decode k_Md_report 26 = .ok (.getfield 77, 3) := by decide +kernel
theorem d_Md_report_29 : decode k_Md_report 29 = .ok (.iload_n 1, 1) := by decide +kernel
theorem d_Md_report_30 : decode k_Md_report 30 = .ok (.iaload, 1) := by decide +kernel
theorem d_Md_report_31 : decode k_Md_report 31 = .ok (.bipush 6, 2) := by decide +kernel
theorem d_Md_report_33 : decode k_Md_report 33 = .ok (.if_icmp .ne 167, 3) := by decide +kernel
theorem d_Md_report_36 : decode k_Md_report 36 = .ok (.aload_n 0, 1) := by decide +kernel
theorem d_Md_report_37 : decode k_Md_report 37 = .ok (.getfield 129, 3) := by decide +kernel
theorem d_Md_report_40 : decode k_Md_report 40 = .ok (.bipush 22, 2) := by decide +kernel
theorem d_Md_report_42 : decode k_Md_report 42 = .ok (.iload_n 1, 1) := by decide +kernel
theorem d_Md_report_43 : decode k_Md_report 43 = .ok (.imul, 1) := by decide +kernel
theorem d_Md_report_44 : decode k_Md_report 44 = .ok (.iload_n 3, 1) := by decide +kernel
theorem d_Md_report_45 : decode k_Md_report 45 = .ok (.iadd, 1) := by decide +kernel
theorem d_Md_report_46 : decode k_Md_report 46 = .ok (.iaload, 1) := by decide +kernel
theorem d_Md_report_47 : decode k_Md_report 47 = .ok (.istore 4, 2) := by decide +kernel
theorem d_Md_report_49 : decode k_Md_report 49 = .ok (.aload_n 0, 1) := by decide +kernel
theorem d_Md_report_50 : decode k_Md_report 50 = .ok (.iload_n 1, 1) := by decide +kernel
theorem d_Md_report_51 : decode k_Md_report 51 = .ok (.iload_n 2, 1) := by decide +kernel
theorem d_Md_report_52 : decode k_Md_report 52 = .ok (.invokevirtual 342, 3) := by decide +kernel
theorem d_Md_report_55 : decode k_Md_report 55 = .ok (.iload 4, 2) := by decide +kernel
theorem d_Md_report_57 : decode k_Md_report 57 = .ok (.ifCond .lt 19, 3) := by decide +kernel
theorem d_Md_report_60 : decode k_Md_report 60 = .ok (.aload_n 0, 1) := by decide +kernel
theorem d_Md_report_61 : decode k_Md_report 61 = .ok (.iload_n 1, 1) := by decide +kernel
theorem d_Md_report_62 : decode k_Md_report 62 = .ok (.iload_n 3, 1) := by decide +kernel
theorem d_Md_report_63 : decode k_Md_report 63 = .ok (.iload 4, 2) := by decide +kernel
theorem d_Md_report_65 : decode k_Md_report 65 = .ok (.iload_n 2, 1) := by decide +kernel
theorem d_Md_report_66 : decode k_Md_report 66 = .ok (.invokevirtual 345, 3) := by decide +kernel
theorem d_Md_report_69 : decode k_Md_report 69 = .ok (.ifCond .ne 7, 3) := by decide +kernel
theorem d_Md_report_72 : decode k_Md_report 72 = .ok (.iconst 1, 1) := by decide +kernel
theorem d_Md_report_73 : decode k_Md_report 73 = .ok (.goto 4, 3) := by decide +kernel
theorem d_Md_report_76 : decode k_Md_report 76 = .ok (.iconst 0, 1) := by decide +kernel
theorem d_Md_report_77 : decode k_Md_report 77 = .ok (.istore 5, 2) := by decide +kernel
theorem d_Md_report_79 : decode k_Md_report 79 = .ok (.iload_n 3, 1) := by decide +kernel
theorem d_Md_report_80 : decode k_Md_report 80 = .ok (.bipush 12, 2) := by decide +kernel
theorem d_Md_report_82 : decode k_Md_report 82 = .ok (.if_icmp .lt 9, 3) := by decide +kernel
theorem d_Md_report_85 : decode k_Md_report 85 = .ok (.iload_n 3, 1) := by decide +kernel
theorem d_Md_report_86 : decode k_Md_report 86 = .ok (.bipush 14, 2) := by decide +kernel
theorem d_Md_report_88 : decode k_Md_report 88 = .ok (.if_icmp .le 9, 3) := by decide +kernel
theorem d_Md_report_91 : decode k_Md_report 91 = .ok (.iload_n 3, 1) := by decide +kernel
theorem d_Md_report_92 : decode k_Md_report 92 = .ok (.bipush 20, 2) := by decide +kernel
theorem d_Md_report_94 : decode k_Md_report 94 = .ok (.if_icmp .ne 7, 3) := by decide +kernel
theorem d_Md_report_97 : decode k_Md_report 97 = .ok (.iconst 1, 1) := by decide +kernel
theorem d_Md_report_98 : decode k_Md_report 98 = .ok (.goto 4, 3) := by decide +kernel
theorem d_Md_report_101 : decode k_Md_report 101 = .ok (.iconst 0, 1) := by decide +kernel
theorem d_Md_report_102 : decode k_Md_report 102 = .ok (.istore 6, 2) := by decide +kernel
theorem d_Md_report_104 : decode k_Md_report 104 = .ok (.iload 5, 2) := by decide +kernel
theorem d_Md_report_106 : decode k_Md_report 106 = .ok (.ifCond .eq 18, 3) := by decide +kernel
theorem d_Md_report_109 : decode k_Md_report 109 = .ok (.iload 6, 2) := by decide +kernel
theorem d_Md_report_111 : decode k_Md_report 111 = .ok (.ifCond .eq 13, 3) := by decide +kernel
theorem d_Md_report_114 : decode k_Md_report 114 = .ok (.aload_n 0, 1) := by decide +kernel
theorem d_Md_report_115 : decode k_Md_report 115 = .ok (.iload_n 1, 1) := by decide +kernel
theorem d_Md_report_116 : decode k_Md_report 116 = .ok (.iload_n 3, 1) := by decide +kernel
theorem d_Md_report_117 : decode k_Md_report 117 = .ok (.iload_n 2, 1) := by decide +kernel
theorem d_Md_report_118 : decode k_Md_report 118 = .ok (.invokevirtual 367, 3) := by decide +kernel
theorem d_Md_report_121 : decode k_Md_report 121 = .ok (.goto 73, 3) := by decide +kernel
theorem d_Md_report_124 : decode k_Md_report 124 = .ok (.iload 5, 2) := by decide +kernel
theorem d_Md_report_126 : decode k_Md_report 126 = .ok (.ifCond .eq 19, 3) := by decide +kernel
theorem d_Md_report_129 : decode k_Md_report 129 = .ok (.iload_n 3, 1) := by decide +kernel
theorem d_Md_report_130 : decode k_Md_report 130 = .ok (.bipush 15, 2) := by decide +kernel
theorem d_Md_report_132 : decode k_Md_report 132 = .ok (.if_icmp .ne 13, 3) := by decide +kernel
theorem d_Md_report_135 : decode k_Md_report 135 = .ok (.aload_n 0, 1) := by decide +kernel
theorem d_Md_report_136 : decode k_Md_report 136 = .ok (.iload 4, 2) := by decide +kernel
theorem d_Md_report_138 : decode k_Md_report 138 = .ok (.iload_n 2, 1) := by decide +kernel
theorem d_Md_report_139 : decode k_Md_report 139 = .ok (.invokevirtual 370, 3) := by decide +kernel
theorem d_Md_report_142 : decode k_Md_report 142 = .ok (.goto 52, 3) := by decide +kernel
theorem d_Md_report_145 : decode k_Md_report 145 = .ok (.iload 5, 2) := by decide +kernel
theorem d_Md_report_147 : decode k_Md_report 147 = .ok (.ifCond .eq 34, 3) := by decide +kernel
theorem d_Md_report_150 : decode k_Md_report 150 = .ok (.iload_n 3, 1) := by decide +kernel
theorem d_Md_report_151 : decode k_Md_report 151 = .ok (.bipush 19, 2) := by decide +kernel
theorem d_Md_report_153 : decode k_Md_report 153 = .ok (.if_icmp .ne 28, 3) := by decide +kernel
theorem d_Md_report_156 : decode k_Md_report 156 = .ok (.aload_n 0, 1) := by decide +kernel
theorem d_Md_report_157 : decode k_Md_report 157 = .ok (.getfield 132, 3) := by decide +kernel
theorem d_Md_report_160 : decode k_Md_report 160 = .ok (.iload 4, 2) := by decide +kernel
theorem d_Md_report_162 : decode k_Md_report 162 = .ok (.iaload, 1) := by decide +kernel
theorem d_Md_report_163 : decode k_Md_report 163 = .ok (.ifCond .lt 18, 3) := by decide +kernel
theorem d_Md_report_166 : decode k_Md_report 166 = .ok (.aload_n 0, 1) := by decide +kernel
theorem d_Md_report_167 : decode k_Md_report 167 = .ok (.aload_n 0, 1) := by decide +kernel
theorem d_Md_report_168 : decode k_Md_report 168 = .ok (.getfield 132, 3) := by decide +kernel
theorem d_Md_report_171 : decode k_Md_report 171 = .ok (.iload 4, 2) := by decide +kernel
theorem d_Md_report_173 : decode k_Md_report 173 = .ok (.iaload, 1) := by decide +kernel
theorem d_Md_report_174 : decode k_Md_report 174 = .ok (.iload_n 2, 1) := by decide +kernel
theorem d_Md_report_175 : decode k_Md_report 175 = .ok (.invokevirtual 373, 3) := by decide +kernel
theorem d_Md_report_178 : decode k_Md_report 178 = .ok (.goto 16, 3) := by decide +kernel
theorem d_Md_report_181 : decode k_Md_report 181 = .ok (.iload 5, 2) := by decide +kernel
theorem d_Md_report_183 : decode k_Md_report 183 = .ok (.ifCond .eq 11, 3) := by decide +kernel
theorem d_Md_report_186 : decode k_Md_report 186 = .ok (.aload_n 0, 1) := by decide +kernel
theorem d_Md_report_187 : decode k_Md_report 187 = .ok (.iload_n 3, 1) := by decide +kernel
theorem d_Md_report_188 : decode k_Md_report 188 = .ok (.iload_n 2, 1) := by decide +kernel
theorem d_Md_report_189 : decode k_Md_report 189 = .ok (.iload 4, 2) := by decide +kernel
theorem d_Md_report_191 : decode k_Md_report 191 = .ok (.invokevirtual 363, 3) := by decide +kernel
theorem d_Md_report_194 : decode k_Md_report 194 = .ok (.iinc 3 1, 3) := by decide +kernel
theorem d_Md_report_197 : decode k_Md_report 197 = .ok (.goto (-178), 3) := by decide +kernel
theorem d_Md_report_200 : decode k_Md_report 200 = .ok (.return_, 1) := by decide +kernel
theorem gw1448 : (Jvm.Cond.methodLink "SchemaDeskModel" (363 : Nat) ({ cls := "SchemaDeskModel", name := "tell", desc := "(III)V" } : Jvm.MethodName)) ∈ GW := gw_t7 (List.mem_of_getElem? (i := 8) rfl) rfl
theorem gw1450 : (Jvm.Cond.instanceMethod ({ cls := "SchemaDeskModel", name := "tell", desc := "(III)V" } : Jvm.MethodName)) ∈ GW := gw_t7 (List.mem_of_getElem? (i := 10) rfl) rfl
theorem gs88 : Cond.selects "SchemaDeskModel" ⟨"SchemaDeskModel", "tell", "(III)V"⟩ ⟨"SchemaDeskModel", "tell", "(III)V"⟩ ∈ GW := gw_p6 (q := (⟨"SchemaDeskModel", "tell", "(III)V"⟩, 46)) (List.mem_of_getElem? (i := 8) rfl)
theorem gw1451 : (Jvm.Cond.code ({ cls := "SchemaDeskModel", name := "tell", desc := "(III)V" } : Jvm.MethodName) prog_12_method_62_code (7 : Nat) (Option.none : Option Jvm.ClassFile.FieldType)) ∈ GW := gw_t7 (List.mem_of_getElem? (i := 11) rfl) rfl
theorem gw1452 : (Jvm.Cond.methodLink "SchemaDeskModel" (367 : Nat) ({ cls := "SchemaDeskModel", name := "reportChildren", desc := "(III)V" } : Jvm.MethodName)) ∈ GW := gw_t7 (List.mem_of_getElem? (i := 12) rfl) rfl
theorem gw1454 : (Jvm.Cond.instanceMethod ({ cls := "SchemaDeskModel", name := "reportChildren", desc := "(III)V" } : Jvm.MethodName)) ∈ GW := gw_t7 (List.mem_of_getElem? (i := 14) rfl) rfl
theorem gs89 : Cond.selects "SchemaDeskModel" ⟨"SchemaDeskModel", "reportChildren", "(III)V"⟩ ⟨"SchemaDeskModel", "reportChildren", "(III)V"⟩ ∈ GW := gw_p6 (q := (⟨"SchemaDeskModel", "reportChildren", "(III)V"⟩, 46)) (List.mem_of_getElem? (i := 9) rfl)
theorem gw1455 : (Jvm.Cond.code ({ cls := "SchemaDeskModel", name := "reportChildren", desc := "(III)V" } : Jvm.MethodName) prog_12_method_64_code (10 : Nat) (Option.none : Option Jvm.ClassFile.FieldType)) ∈ GW := gw_t7 (List.mem_of_getElem? (i := 15) rfl) rfl
theorem gw1456 : (Jvm.Cond.methodLink "SchemaDeskModel" (370 : Nat) ({ cls := "SchemaDeskModel", name := "reportAll", desc := "(II)V" } : Jvm.MethodName)) ∈ GW := gw_t7 (List.mem_of_getElem? (i := 16) rfl) rfl
theorem gw1458 : (Jvm.Cond.instanceMethod ({ cls := "SchemaDeskModel", name := "reportAll", desc := "(II)V" } : Jvm.MethodName)) ∈ GW := gw_t7 (List.mem_of_getElem? (i := 18) rfl) rfl
theorem gs90 : Cond.selects "SchemaDeskModel" ⟨"SchemaDeskModel", "reportAll", "(II)V"⟩ ⟨"SchemaDeskModel", "reportAll", "(II)V"⟩ ∈ GW := gw_p6 (q := (⟨"SchemaDeskModel", "reportAll", "(II)V"⟩, 46)) (List.mem_of_getElem? (i := 10) rfl)
theorem gw1459 : (Jvm.Cond.code ({ cls := "SchemaDeskModel", name := "reportAll", desc := "(II)V" } : Jvm.MethodName) prog_12_method_65_code (4 : Nat) (Option.none : Option Jvm.ClassFile.FieldType)) ∈ GW := gw_t7 (List.mem_of_getElem? (i := 19) rfl) rfl
def wb_Md_report_0 (F : Nat → Int32 → Int32 → Int32 → Int32 → Int32 → Int32 → Sg → Prop) (post : Sg → Prop) (x1 : Int32) (x2 : Int32) (σ : Sg) : Prop := (vp_in x1 240 ∧ ((¬ (σ.1 59 x1.toNatClampNeg) = (1 : Int32) → F 1 x1 x2 (1 : Int32) 0 0 0 σ) ∧ ((σ.1 59 x1.toNatClampNeg) = (1 : Int32) → (wq_Md_tell (0 : Int32) x2 x1 σ (fun σ1 => F 1 x1 x2 (1 : Int32) 0 0 0 σ1)))))
def wb_Md_report_1 (F : Nat → Int32 → Int32 → Int32 → Int32 → Int32 → Int32 → Sg → Prop) (post : Sg → Prop) (x1 : Int32) (x2 : Int32) (x3 : Int32) (σ : Sg) : Prop := (((20 : Int32) < x3 → post σ) ∧ (¬ (20 : Int32) < x3 → (vp_in x1 240 ∧ ((¬ (σ.1 59 x1.toNatClampNeg) = (6 : Int32) → post σ) ∧ ((σ.1 59 x1.toNatClampNeg) = (6 : Int32) → (vp_in (((22 : Int32) * x1) + x3) 3520 ∧ (wq_Md_evaluate x1 x2 σ (fun σ1 => (((σ.1 76 ((((22 : Int32) * x1) + x3) : Int32).toNatClampNeg) < 0 → F 2 x1 x2 x3 (σ.1 76 ((((22 : Int32) * x1) + x3) : Int32).toNatClampNeg) 0 0 σ1) ∧ (¬ (σ.1 76 ((((22 : Int32) * x1) + x3) : Int32).toNatClampNeg) < 0 → (wq_Md_says x1 x3 (σ.1 76 ((((22 : Int32) * x1) + x3) : Int32).toNatClampNeg) x2 σ1 (fun r2 σ2 => ((¬ r2 = 0 → F 2 x1 x2 x3 (σ.1 76 ((((22 : Int32) * x1) + x3) : Int32).toNatClampNeg) 0 0 σ2) ∧ (r2 = 0 → F 3 x1 x2 x3 (σ.1 76 ((((22 : Int32) * x1) + x3) : Int32).toNatClampNeg) (1 : Int32) 0 σ2))))))))))))))
def wb_Md_report_2 (F : Nat → Int32 → Int32 → Int32 → Int32 → Int32 → Int32 → Sg → Prop) (post : Sg → Prop) (x1 : Int32) (x2 : Int32) (x3 : Int32) (x4 : Int32) (σ : Sg) : Prop := F 3 x1 x2 x3 x4 (0 : Int32) 0 σ
def wb_Md_report_3 (F : Nat → Int32 → Int32 → Int32 → Int32 → Int32 → Int32 → Sg → Prop) (post : Sg → Prop) (x1 : Int32) (x2 : Int32) (x3 : Int32) (x4 : Int32) (x5 : Int32) (σ : Sg) : Prop := ((x3 < (12 : Int32) → F 4 x1 x2 x3 x4 x5 0 σ) ∧ (¬ x3 < (12 : Int32) → ((x3 ≤ (14 : Int32) → F 5 x1 x2 x3 x4 x5 0 σ) ∧ (¬ x3 ≤ (14 : Int32) → F 4 x1 x2 x3 x4 x5 0 σ))))
def wb_Md_report_4 (F : Nat → Int32 → Int32 → Int32 → Int32 → Int32 → Int32 → Sg → Prop) (post : Sg → Prop) (x1 : Int32) (x2 : Int32) (x3 : Int32) (x4 : Int32) (x5 : Int32) (σ : Sg) : Prop := ((¬ x3 = (20 : Int32) → F 6 x1 x2 x3 x4 x5 (0 : Int32) σ) ∧ (x3 = (20 : Int32) → F 5 x1 x2 x3 x4 x5 0 σ))
def wb_Md_report_5 (F : Nat → Int32 → Int32 → Int32 → Int32 → Int32 → Int32 → Sg → Prop) (post : Sg → Prop) (x1 : Int32) (x2 : Int32) (x3 : Int32) (x4 : Int32) (x5 : Int32) (σ : Sg) : Prop := F 6 x1 x2 x3 x4 x5 (1 : Int32) σ
def wb_Md_report_6 (F : Nat → Int32 → Int32 → Int32 → Int32 → Int32 → Int32 → Sg → Prop) (post : Sg → Prop) (x1 : Int32) (x2 : Int32) (x3 : Int32) (x4 : Int32) (x5 : Int32) (x6 : Int32) (σ : Sg) : Prop := ((x5 = 0 → F 7 x1 x2 x3 x4 x5 0 σ) ∧ (¬ x5 = 0 → ((x6 = 0 → F 7 x1 x2 x3 x4 x5 0 σ) ∧ (¬ x6 = 0 → (wq_Md_reportChildren x1 x3 x2 σ (fun σ1 => F 1 x1 x2 (x3 + 1) 0 0 0 σ1))))))
def wb_Md_report_7 (F : Nat → Int32 → Int32 → Int32 → Int32 → Int32 → Int32 → Sg → Prop) (post : Sg → Prop) (x1 : Int32) (x2 : Int32) (x3 : Int32) (x4 : Int32) (x5 : Int32) (σ : Sg) : Prop := ((x5 = 0 → F 8 x1 x2 x3 x4 x5 0 σ) ∧ (¬ x5 = 0 → ((¬ x3 = (15 : Int32) → F 8 x1 x2 x3 x4 x5 0 σ) ∧ (x3 = (15 : Int32) → (wq_Md_reportAll x4 x2 σ (fun σ1 => F 1 x1 x2 (x3 + 1) 0 0 0 σ1))))))
def wb_Md_report_8 (F : Nat → Int32 → Int32 → Int32 → Int32 → Int32 → Int32 → Sg → Prop) (post : Sg → Prop) (x1 : Int32) (x2 : Int32) (x3 : Int32) (x4 : Int32) (x5 : Int32) (σ : Sg) : Prop := ((x5 = 0 → ((x5 = 0 → F 1 x1 x2 (x3 + 1) 0 0 0 σ) ∧ (¬ x5 = 0 → (wq_Md_tell x3 x2 x4 σ (fun σ1 => F 1 x1 x2 (x3 + 1) 0 0 0 σ1))))) ∧ (¬ x5 = 0 → ((¬ x3 = (19 : Int32) → ((x5 = 0 → F 1 x1 x2 (x3 + 1) 0 0 0 σ) ∧ (¬ x5 = 0 → (wq_Md_tell x3 x2 x4 σ (fun σ1 => F 1 x1 x2 (x3 + 1) 0 0 0 σ1))))) ∧ (x3 = (19 : Int32) → (vp_in x4 160 ∧ (((σ.1 77 x4.toNatClampNeg) < 0 → ((x5 = 0 → F 1 x1 x2 (x3 + 1) 0 0 0 σ) ∧ (¬ x5 = 0 → (wq_Md_tell x3 x2 x4 σ (fun σ1 => F 1 x1 x2 (x3 + 1) 0 0 0 σ1))))) ∧ (¬ (σ.1 77 x4.toNatClampNeg) < 0 → (vp_in x4 160 ∧ (wq_Md_mark (σ.1 77 x4.toNatClampNeg) x2 σ (fun σ1 => F 1 x1 x2 (x3 + 1) 0 0 0 σ1))))))))))
def wp_Md_report (post : Sg → Prop) : Nat → Nat → Int32 → Int32 → Int32 → Int32 → Int32 → Int32 → Sg → Prop
  | 0, _, _, _, _, _, _, _, _ => False
  | n + 1, k, x1, x2, x3, x4, x5, x6, σ => match k with
    | 0 => wb_Md_report_0 (wp_Md_report post n) post x1 x2 σ
    | 1 => wb_Md_report_1 (wp_Md_report post n) post x1 x2 x3 σ
    | 2 => wb_Md_report_2 (wp_Md_report post n) post x1 x2 x3 x4 σ
    | 3 => wb_Md_report_3 (wp_Md_report post n) post x1 x2 x3 x4 x5 σ
    | 4 => wb_Md_report_4 (wp_Md_report post n) post x1 x2 x3 x4 x5 σ
    | 5 => wb_Md_report_5 (wp_Md_report post n) post x1 x2 x3 x4 x5 σ
    | 6 => wb_Md_report_6 (wp_Md_report post n) post x1 x2 x3 x4 x5 x6 σ
    | 7 => wb_Md_report_7 (wp_Md_report post n) post x1 x2 x3 x4 x5 σ
    | 8 => wb_Md_report_8 (wp_Md_report post n) post x1 x2 x3 x4 x5 σ
    | _ => False
def wq_Md_report (x1 : Int32) (x2 : Int32) (σ : Sg) (post : Sg → Prop) : Prop := ∃ n, wp_Md_report post n 0 x1 x2 0 0 0 0 σ
def J_Md_report_1 (p : Program) (l : Launch) (e : Env) (s : State) (m : MethodId) (args : Array Value) (below : List Frame) (meth : Method) (c : Code) (D : va_G) (g : Gm) (A : Nat → Prop) (post : Sg → Prop) (F : Nat → Int32 → Int32 → Int32 → Int32 → Int32 → Int32 → Sg → Prop) : Prop := ∀ (x1 : Int32) (x2 : Int32) (x3 : Int32) (σ : Sg) (H : Heap) (locs : List Loc) (ls : Array Slot), lv_has ls 7 [(0, .ref (g.1 54)), (1, .int x1), (2, .int x2), (3, .int x3)] → Wst D vwCl (WS g) A s σ H locs → F 1 x1 x2 x3 0 0 0 σ → W p l e { frames := 6, cells := 0, slots := 0, locals := 152 } s m args below meth c H locs 0 0 (MQ below (QvW D vwCl (WS g) post A) args s 0 0 A) (F0 m 19 ls [])
def J_Md_report_2 (p : Program) (l : Launch) (e : Env) (s : State) (m : MethodId) (args : Array Value) (below : List Frame) (meth : Method) (c : Code) (D : va_G) (g : Gm) (A : Nat → Prop) (post : Sg → Prop) (F : Nat → Int32 → Int32 → Int32 → Int32 → Int32 → Int32 → Sg → Prop) : Prop := ∀ (x1 : Int32) (x2 : Int32) (x3 : Int32) (x4 : Int32) (σ : Sg) (H : Heap) (locs : List Loc) (ls : Array Slot), lv_has ls 7 [(0, .ref (g.1 54)), (1, .int x1), (2, .int x2), (3, .int x3), (4, .int x4)] → Wst D vwCl (WS g) A s σ H locs → F 2 x1 x2 x3 x4 0 0 σ → W p l e { frames := 6, cells := 0, slots := 0, locals := 152 } s m args below meth c H locs 0 0 (MQ below (QvW D vwCl (WS g) post A) args s 0 0 A) (F0 m 76 ls [])
def J_Md_report_3 (p : Program) (l : Launch) (e : Env) (s : State) (m : MethodId) (args : Array Value) (below : List Frame) (meth : Method) (c : Code) (D : va_G) (g : Gm) (A : Nat → Prop) (post : Sg → Prop) (F : Nat → Int32 → Int32 → Int32 → Int32 → Int32 → Int32 → Sg → Prop) : Prop := ∀ (x1 : Int32) (x2 : Int32) (x3 : Int32) (x4 : Int32) (x5 : Int32) (σ : Sg) (H : Heap) (locs : List Loc) (ls : Array Slot), lv_has ls 7 [(0, .ref (g.1 54)), (1, .int x1), (2, .int x2), (3, .int x3), (4, .int x4), (5, .int x5)] → Wst D vwCl (WS g) A s σ H locs → F 3 x1 x2 x3 x4 x5 0 σ → W p l e { frames := 6, cells := 0, slots := 0, locals := 152 } s m args below meth c H locs 0 0 (MQ below (QvW D vwCl (WS g) post A) args s 0 0 A) (F0 m 79 ls [])
def J_Md_report_4 (p : Program) (l : Launch) (e : Env) (s : State) (m : MethodId) (args : Array Value) (below : List Frame) (meth : Method) (c : Code) (D : va_G) (g : Gm) (A : Nat → Prop) (post : Sg → Prop) (F : Nat → Int32 → Int32 → Int32 → Int32 → Int32 → Int32 → Sg → Prop) : Prop := ∀ (x1 : Int32) (x2 : Int32) (x3 : Int32) (x4 : Int32) (x5 : Int32) (σ : Sg) (H : Heap) (locs : List Loc) (ls : Array Slot), lv_has ls 7 [(0, .ref (g.1 54)), (1, .int x1), (2, .int x2), (3, .int x3), (4, .int x4), (5, .int x5)] → Wst D vwCl (WS g) A s σ H locs → F 4 x1 x2 x3 x4 x5 0 σ → W p l e { frames := 6, cells := 0, slots := 0, locals := 152 } s m args below meth c H locs 0 0 (MQ below (QvW D vwCl (WS g) post A) args s 0 0 A) (F0 m 91 ls [])
def J_Md_report_5 (p : Program) (l : Launch) (e : Env) (s : State) (m : MethodId) (args : Array Value) (below : List Frame) (meth : Method) (c : Code) (D : va_G) (g : Gm) (A : Nat → Prop) (post : Sg → Prop) (F : Nat → Int32 → Int32 → Int32 → Int32 → Int32 → Int32 → Sg → Prop) : Prop := ∀ (x1 : Int32) (x2 : Int32) (x3 : Int32) (x4 : Int32) (x5 : Int32) (σ : Sg) (H : Heap) (locs : List Loc) (ls : Array Slot), lv_has ls 7 [(0, .ref (g.1 54)), (1, .int x1), (2, .int x2), (3, .int x3), (4, .int x4), (5, .int x5)] → Wst D vwCl (WS g) A s σ H locs → F 5 x1 x2 x3 x4 x5 0 σ → W p l e { frames := 6, cells := 0, slots := 0, locals := 152 } s m args below meth c H locs 0 0 (MQ below (QvW D vwCl (WS g) post A) args s 0 0 A) (F0 m 97 ls [])
def J_Md_report_6 (p : Program) (l : Launch) (e : Env) (s : State) (m : MethodId) (args : Array Value) (below : List Frame) (meth : Method) (c : Code) (D : va_G) (g : Gm) (A : Nat → Prop) (post : Sg → Prop) (F : Nat → Int32 → Int32 → Int32 → Int32 → Int32 → Int32 → Sg → Prop) : Prop := ∀ (x1 : Int32) (x2 : Int32) (x3 : Int32) (x4 : Int32) (x5 : Int32) (x6 : Int32) (σ : Sg) (H : Heap) (locs : List Loc) (ls : Array Slot), lv_has ls 7 [(0, .ref (g.1 54)), (1, .int x1), (2, .int x2), (3, .int x3), (4, .int x4), (5, .int x5), (6, .int x6)] → Wst D vwCl (WS g) A s σ H locs → F 6 x1 x2 x3 x4 x5 x6 σ → W p l e { frames := 6, cells := 0, slots := 0, locals := 152 } s m args below meth c H locs 0 0 (MQ below (QvW D vwCl (WS g) post A) args s 0 0 A) (F0 m 104 ls [])
def J_Md_report_7 (p : Program) (l : Launch) (e : Env) (s : State) (m : MethodId) (args : Array Value) (below : List Frame) (meth : Method) (c : Code) (D : va_G) (g : Gm) (A : Nat → Prop) (post : Sg → Prop) (F : Nat → Int32 → Int32 → Int32 → Int32 → Int32 → Int32 → Sg → Prop) : Prop := ∀ (x1 : Int32) (x2 : Int32) (x3 : Int32) (x4 : Int32) (x5 : Int32) (σ : Sg) (H : Heap) (locs : List Loc) (ls : Array Slot), lv_has ls 7 [(0, .ref (g.1 54)), (1, .int x1), (2, .int x2), (3, .int x3), (4, .int x4), (5, .int x5)] → Wst D vwCl (WS g) A s σ H locs → F 7 x1 x2 x3 x4 x5 0 σ → W p l e { frames := 6, cells := 0, slots := 0, locals := 152 } s m args below meth c H locs 0 0 (MQ below (QvW D vwCl (WS g) post A) args s 0 0 A) (F0 m 124 ls [])
def J_Md_report_8 (p : Program) (l : Launch) (e : Env) (s : State) (m : MethodId) (args : Array Value) (below : List Frame) (meth : Method) (c : Code) (D : va_G) (g : Gm) (A : Nat → Prop) (post : Sg → Prop) (F : Nat → Int32 → Int32 → Int32 → Int32 → Int32 → Int32 → Sg → Prop) : Prop := ∀ (x1 : Int32) (x2 : Int32) (x3 : Int32) (x4 : Int32) (x5 : Int32) (σ : Sg) (H : Heap) (locs : List Loc) (ls : Array Slot), lv_has ls 7 [(0, .ref (g.1 54)), (1, .int x1), (2, .int x2), (3, .int x3), (4, .int x4), (5, .int x5)] → Wst D vwCl (WS g) A s σ H locs → F 8 x1 x2 x3 x4 x5 0 σ → W p l e { frames := 6, cells := 0, slots := 0, locals := 152 } s m args below meth c H locs 0 0 (MQ below (QvW D vwCl (WS g) post A) args s 0 0 A) (F0 m 145 ls [])
set_option maxRecDepth 100000 in
set_option maxHeartbeats 4000000 in
theorem b_Md_report_0 {p : Program} {l : Launch} {e : Env} {s : State} {m : MethodId} {args : Array Value} {below : List Frame} {meth : Method} {c : Code} {D : va_G} {g : Gm} {A : Nat → Prop} {post : Sg → Prop} {F : Nat → Int32 → Int32 → Int32 → Int32 → Int32 → Int32 → Sg → Prop} (C : kC p s m args meth c k_Md_report 7 (none) GW R_Md D vwCl g (Zk g) A) (j1 : J_Md_report_1 p l e s m args below meth c D g A post F) (x1 : Int32) (x2 : Int32) (σ : Sg) (H : Heap) (locs : List Loc) (ls : Array Slot) (hl : lv_has ls 7 [(0, .ref (g.1 54)), (1, .int x1), (2, .int x2)]) (hst : Wst D vwCl (WS g) A s σ H locs) (h : wb_Md_report_0 F post x1 x2 σ) : W p l e { frames := 6, cells := 0, slots := 0, locals := 152 } s m args below meth c H locs 0 0 (MQ below (QvW D vwCl (WS g) post A) args s 0 0 A) (F0 m 0 ls []) := by
  obtain ⟨hx, hb, hr, hml, hown, hts, hlocks, hK, hZ, hA⟩ := C
  unfold wb_Md_report_0 at h
  refine lv_aload_n hx hb d_Md_report_0 rfl (lv_at hl 0 rfl) ?_
  refine va_get (D := D) (ci := 10) (C := R_Md) (T := T_Md) (N := 46) hx hb hts in_Md hown hK hst.1 54 (WS_o54 g σ) rfl 5 (by decide) (hts _ gw1069) (fun _ h9 => h9) rfl d_Md_report_1 ?_
  refine lv_iload_n hx hb d_Md_report_4 rfl (lv_at hl 1 rfl) ?_
  obtain ⟨hi, h⟩ := h
  refine va_iald hx hb hK hst.1 59 0 (WS_a59 g σ) rfl hi d_Md_report_5 ?_
  refine lv_iconst (v := (1 : Int32)) hx hb d_Md_report_6 (by decide) ?_
  refine lv_icmp_ne (tgt := 17) hx hb d_Md_report_7 (by decide) (fun hc => ?_) (fun hc => ?_)
  · replace h := h.1 hc
    refine lv_iconst (v := (1 : Int32)) hx hb d_Md_report_17 (by decide) ?_
    refine lv_istore_n hx hb d_Md_report_18 rfl hl (by decide) rfl (fun ls hl => ?_)
    have hl : lv_has ls 7 [(3, .int (1 : Int32)), (0, .ref (g.1 54)), (1, .int x1), (2, .int x2)] := hl
    exact j1 x1 x2 (1 : Int32) σ _ _ _ (lv_sub hl [1, 2, 3, 0] rfl) hst h
  · replace h := h.2 hc
    refine lv_aload_n hx hb d_Md_report_10 rfl (lv_at hl 0 rfl) ?_
    refine lv_iconst (v := (0 : Int32)) hx hb d_Md_report_11 (by decide) ?_
    refine lv_iload_n hx hb d_Md_report_12 rfl (lv_at hl 2 rfl) ?_
    refine lv_iload_n hx hb d_Md_report_13 rfl (lv_at hl 1 rfl) ?_
    refine kw_callv (va_runV (As := [.int (0 : Int32), .int x2, .int x1]) (rest := []) (b := g.1 54) ⟨hx, hb, hml, hown, hts⟩ (c_Md_tell l (0 : Int32) x2 x1 h) (cwV 3 hts (gd_v gw1448 gw1450 gs88 gw15 gw1451) rfl rfl rfl (by decide +kernel) ⟨Nat.le_of_ble_eq_true rfl, Nat.le_of_ble_eq_true rfl⟩) ⟨kw_blind (Zk_ok g), va_recv hK hst.1 rfl (WS_o54 g σ), kw_pre (Zk_ok g) hK hZ hA hst⟩ rfl rfl hl.1 rfl (lv_room (Nat.le_of_ble_eq_true rfl)) d_Md_report_14 ⟨Nat.le_of_ble_eq_true rfl, Nat.le_of_ble_eq_true rfl⟩) hst hA (fun σ1 H locs h hst => ?_)
    refine lv_iconst (v := (1 : Int32)) hx hb d_Md_report_17 (by decide) ?_
    refine lv_istore_n hx hb d_Md_report_18 rfl hl (by decide) rfl (fun ls hl => ?_)
    have hl : lv_has ls 7 [(3, .int (1 : Int32)), (0, .ref (g.1 54)), (1, .int x1), (2, .int x2)] := hl
    exact j1 x1 x2 (1 : Int32) σ1 _ _ _ (lv_sub hl [1, 2, 3, 0] rfl) hst h
set_option maxRecDepth 100000 in
set_option maxHeartbeats 4000000 in
theorem b_Md_report_1 {p : Program} {l : Launch} {e : Env} {s : State} {m : MethodId} {args : Array Value} {below : List Frame} {meth : Method} {c : Code} {D : va_G} {g : Gm} {A : Nat → Prop} {post : Sg → Prop} {F : Nat → Int32 → Int32 → Int32 → Int32 → Int32 → Int32 → Sg → Prop} (C : kC p s m args meth c k_Md_report 7 (none) GW R_Md D vwCl g (Zk g) A) (j2 : J_Md_report_2 p l e s m args below meth c D g A post F) (j3 : J_Md_report_3 p l e s m args below meth c D g A post F) (x1 : Int32) (x2 : Int32) (x3 : Int32) (σ : Sg) (H : Heap) (locs : List Loc) (ls : Array Slot) (hl : lv_has ls 7 [(0, .ref (g.1 54)), (1, .int x1), (2, .int x2), (3, .int x3)]) (hst : Wst D vwCl (WS g) A s σ H locs) (h : wb_Md_report_1 F post x1 x2 x3 σ) : W p l e { frames := 6, cells := 0, slots := 0, locals := 152 } s m args below meth c H locs 0 0 (MQ below (QvW D vwCl (WS g) post A) args s 0 0 A) (F0 m 19 ls []) := by
  obtain ⟨hx, hb, hr, hml, hown, hts, hlocks, hK, hZ, hA⟩ := C
  unfold wb_Md_report_1 at h
  refine lv_iload_n hx hb d_Md_report_19 rfl (lv_at hl 3 rfl) ?_
  refine lv_bipush (v := (20 : Int32)) hx hb d_Md_report_20 (by decide) ?_
  refine lv_icmp_gt (tgt := 200) hx hb d_Md_report_22 (by decide) (fun hc => ?_) (fun hc => ?_)
  · replace h := h.1 hc
    exact kw_vret hx hb hr hlocks hst h d_Md_report_200
  · replace h := h.2 hc
    refine lv_aload_n hx hb d_Md_report_25 rfl (lv_at hl 0 rfl) ?_
    refine va_get (D := D) (ci := 10) (C := R_Md) (T := T_Md) (N := 46) hx hb hts in_Md hown hK hst.1 54 (WS_o54 g σ) rfl 5 (by decide) (hts _ gw1069) (fun _ h9 => h9) rfl d_Md_report_26 ?_
    refine lv_iload_n hx hb d_Md_report_29 rfl (lv_at hl 1 rfl) ?_
    obtain ⟨hi, h⟩ := h
    refine va_iald hx hb hK hst.1 59 0 (WS_a59 g σ) rfl hi d_Md_report_30 ?_
    refine lv_bipush (v := (6 : Int32)) hx hb d_Md_report_31 (by decide) ?_
    refine lv_icmp_ne (tgt := 200) hx hb d_Md_report_33 (by decide) (fun hc => ?_) (fun hc => ?_)
    · replace h := h.1 hc
      exact kw_vret hx hb hr hlocks hst h d_Md_report_200
    · replace h := h.2 hc
      refine lv_aload_n hx hb d_Md_report_36 rfl (lv_at hl 0 rfl) ?_
      refine va_get (D := D) (ci := 10) (C := R_Md) (T := T_Md) (N := 46) hx hb hts in_Md hown hK hst.1 54 (WS_o54 g σ) rfl 25 (by decide) (hts _ gw1089) (fun _ h9 => h9) rfl d_Md_report_37 ?_
      refine lv_bipush (v := (22 : Int32)) hx hb d_Md_report_40 (by decide) ?_
      refine lv_iload_n hx hb d_Md_report_42 rfl (lv_at hl 1 rfl) ?_
      refine lv_imul hx hb d_Md_report_43 ?_
      refine lv_iload_n hx hb d_Md_report_44 rfl (lv_at hl 3 rfl) ?_
      refine lv_iadd hx hb d_Md_report_45 ?_
      obtain ⟨hi, h⟩ := h
      refine va_iald hx hb hK hst.1 76 0 (WS_a76 g σ) rfl hi d_Md_report_46 ?_
      refine lv_istore hx hb d_Md_report_47 hl (by decide) rfl (fun ls hl => ?_)
      have hl : lv_has ls 7 [(4, .int (σ.1 76 ((((22 : Int32) * x1) + x3) : Int32).toNatClampNeg)), (0, .ref (g.1 54)), (1, .int x1), (2, .int x2), (3, .int x3)] := hl
      refine lv_aload_n hx hb d_Md_report_49 rfl (lv_at hl 1 rfl) ?_
      refine lv_iload_n hx hb d_Md_report_50 rfl (lv_at hl 2 rfl) ?_
      refine lv_iload_n hx hb d_Md_report_51 rfl (lv_at hl 3 rfl) ?_
      refine kw_callv (va_runV (As := [.int x1, .int x2]) (rest := []) (b := g.1 54) ⟨hx, hb, hml, hown, hts⟩ (c_Md_evaluate l x1 x2 h) (cwV 2 hts (gd_v gw1384 gw1386 gs73 gw15 gw1387) rfl rfl rfl (by decide +kernel) ⟨Nat.le_of_ble_eq_true rfl, Nat.le_of_ble_eq_true rfl⟩) ⟨kw_blind (Zk_ok g), va_recv hK hst.1 rfl (WS_o54 g σ), kw_pre (Zk_ok g) hK hZ hA hst⟩ rfl rfl hl.1 rfl (lv_room (Nat.le_of_ble_eq_true rfl)) d_Md_report_52 ⟨Nat.le_of_ble_eq_true rfl, Nat.le_of_ble_eq_true rfl⟩) hst hA (fun σ1 H locs h hst => ?_)
      refine lv_iload hx hb d_Md_report_55 (lv_at hl 0 rfl) ?_
      refine lv_if_lt (tgt := 76) hx hb d_Md_report_57 (by decide) (fun hc => ?_) (fun hc => ?_)
      · replace h := h.1 hc
        exact j2 x1 x2 x3 (σ.1 76 ((((22 : Int32) * x1) + x3) : Int32).toNatClampNeg) σ1 _ _ _ (lv_sub hl [1, 2, 3, 4, 0] rfl) hst h
      · replace h := h.2 hc
        refine lv_aload_n hx hb d_Md_report_60 rfl (lv_at hl 1 rfl) ?_
        refine lv_iload_n hx hb d_Md_report_61 rfl (lv_at hl 2 rfl) ?_
        refine lv_iload_n hx hb d_Md_report_62 rfl (lv_at hl 4 rfl) ?_
        refine lv_iload hx hb d_Md_report_63 (lv_at hl 0 rfl) ?_
        refine lv_iload_n hx hb d_Md_report_65 rfl (lv_at hl 3 rfl) ?_
        refine kw_calli (va_runV (As := [.int x1, .int x3, .int (σ.1 76 ((((22 : Int32) * x1) + x3) : Int32).toNatClampNeg), .int x2]) (rest := []) (b := g.1 54) ⟨hx, hb, hml, hown, hts⟩ (c_Md_says l x1 x3 (σ.1 76 ((((22 : Int32) * x1) + x3) : Int32).toNatClampNeg) x2 h) (cwV 4 hts (gd_v gw1400 gw1402 gs77 gw15 gw1403) rfl rfl rfl (by decide +kernel) ⟨Nat.le_of_ble_eq_true rfl, Nat.le_of_ble_eq_true rfl⟩) ⟨kw_blind (Zk_ok g), va_recv hK hst.1 rfl (WS_o54 g σ1), kw_pre (Zk_ok g) hK hZ hA hst⟩ rfl rfl hl.1 rfl (lv_room (Nat.le_of_ble_eq_true rfl)) d_Md_report_66 ⟨Nat.le_of_ble_eq_true rfl, Nat.le_of_ble_eq_true rfl⟩) hst hA (fun r2 σ2 H locs h hst => ?_)
        refine lv_if_ne (tgt := 76) hx hb d_Md_report_69 (by decide) (fun hc => ?_) (fun hc => ?_)
        · replace h := h.1 hc
          exact j2 x1 x2 x3 (σ.1 76 ((((22 : Int32) * x1) + x3) : Int32).toNatClampNeg) σ2 _ _ _ (lv_sub hl [1, 2, 3, 4, 0] rfl) hst h
        · replace h := h.2 hc
          refine lv_iconst (v := (1 : Int32)) hx hb d_Md_report_72 (by decide) ?_
          refine lv_goto (tgt := 77) hx hb d_Md_report_73 (by decide) ?_
          refine lv_istore hx hb d_Md_report_77 hl (by decide) rfl (fun ls hl => ?_)
          have hl : lv_has ls 7 [(5, .int (1 : Int32)), (4, .int (σ.1 76 ((((22 : Int32) * x1) + x3) : Int32).toNatClampNeg)), (0, .ref (g.1 54)), (1, .int x1), (2, .int x2), (3, .int x3)] := hl
          exact j3 x1 x2 x3 (σ.1 76 ((((22 : Int32) * x1) + x3) : Int32).toNatClampNeg) (1 : Int32) σ2 _ _ _ (lv_sub hl [2, 3, 4, 5, 1, 0] rfl) hst h
set_option maxRecDepth 100000 in
set_option maxHeartbeats 4000000 in
theorem b_Md_report_2 {p : Program} {l : Launch} {e : Env} {s : State} {m : MethodId} {args : Array Value} {below : List Frame} {meth : Method} {c : Code} {D : va_G} {g : Gm} {A : Nat → Prop} {post : Sg → Prop} {F : Nat → Int32 → Int32 → Int32 → Int32 → Int32 → Int32 → Sg → Prop} (C : kC p s m args meth c k_Md_report 7 (none) GW R_Md D vwCl g (Zk g) A) (j3 : J_Md_report_3 p l e s m args below meth c D g A post F) (x1 : Int32) (x2 : Int32) (x3 : Int32) (x4 : Int32) (σ : Sg) (H : Heap) (locs : List Loc) (ls : Array Slot) (hl : lv_has ls 7 [(0, .ref (g.1 54)), (1, .int x1), (2, .int x2), (3, .int x3), (4, .int x4)]) (hst : Wst D vwCl (WS g) A s σ H locs) (h : wb_Md_report_2 F post x1 x2 x3 x4 σ) : W p l e { frames := 6, cells := 0, slots := 0, locals := 152 } s m args below meth c H locs 0 0 (MQ below (QvW D vwCl (WS g) post A) args s 0 0 A) (F0 m 76 ls []) := by
  obtain ⟨hx, hb, hr, hml, hown, hts, hlocks, hK, hZ, hA⟩ := C
  unfold wb_Md_report_2 at h
  refine lv_iconst (v := (0 : Int32)) hx hb d_Md_report_76 (by decide) ?_
  refine lv_istore hx hb d_Md_report_77 hl (by decide) rfl (fun ls hl => ?_)
  have hl : lv_has ls 7 [(5, .int (0 : Int32)), (0, .ref (g.1 54)), (1, .int x1), (2, .int x2), (3, .int x3), (4, .int x4)] := hl
  exact j3 x1 x2 x3 x4 (0 : Int32) σ _ _ _ (lv_sub hl [1, 2, 3, 4, 5, 0] rfl) hst h
set_option maxRecDepth 100000 in
set_option maxHeartbeats 4000000 in
theorem b_Md_report_3 {p : Program} {l : Launch} {e : Env} {s : State} {m : MethodId} {args : Array Value} {below : List Frame} {meth : Method} {c : Code} {D : va_G} {g : Gm} {A : Nat → Prop} {post : Sg → Prop} {F : Nat → Int32 → Int32 → Int32 → Int32 → Int32 → Int32 → Sg → Prop} (C : kC p s m args meth c k_Md_report 7 (none) GW R_Md D vwCl g (Zk g) A) (j4 : J_Md_report_4 p l e s m args below meth c D g A post F) (j5 : J_Md_report_5 p l e s m args below meth c D g A post F) (x1 : Int32) (x2 : Int32) (x3 : Int32) (x4 : Int32) (x5 : Int32) (σ : Sg) (H : Heap) (locs : List Loc) (ls : Array Slot) (hl : lv_has ls 7 [(0, .ref (g.1 54)), (1, .int x1), (2, .int x2), (3, .int x3), (4, .int x4), (5, .int x5)]) (hst : Wst D vwCl (WS g) A s σ H locs) (h : wb_Md_report_3 F post x1 x2 x3 x4 x5 σ) : W p l e { frames := 6, cells := 0, slots := 0, locals := 152 } s m args below meth c H locs 0 0 (MQ below (QvW D vwCl (WS g) post A) args s 0 0 A) (F0 m 79 ls []) := by
  obtain ⟨hx, hb, hr, hml, hown, hts, hlocks, hK, hZ, hA⟩ := C
  unfold wb_Md_report_3 at h
  refine lv_iload_n hx hb d_Md_report_79 rfl (lv_at hl 3 rfl) ?_
  refine lv_bipush (v := (12 : Int32)) hx hb d_Md_report_80 (by decide) ?_
  refine lv_icmp_lt (tgt := 91) hx hb d_Md_report_82 (by decide) (fun hc => ?_) (fun hc => ?_)
  · replace h := h.1 hc
    exact j4 x1 x2 x3 x4 x5 σ _ _ _ (lv_sub hl [0, 1, 2, 3, 4, 5] rfl) hst h
  · replace h := h.2 hc
    refine lv_iload_n hx hb d_Md_report_85 rfl (lv_at hl 3 rfl) ?_
    refine lv_bipush (v := (14 : Int32)) hx hb d_Md_report_86 (by decide) ?_
    refine lv_icmp_le (tgt := 97) hx hb d_Md_report_88 (by decide) (fun hc => ?_) (fun hc => ?_)
    · replace h := h.1 hc
      exact j5 x1 x2 x3 x4 x5 σ _ _ _ (lv_sub hl [0, 1, 2, 3, 4, 5] rfl) hst h
    · replace h := h.2 hc
      exact j4 x1 x2 x3 x4 x5 σ _ _ _ (lv_sub hl [0, 1, 2, 3, 4, 5] rfl) hst h
set_option maxRecDepth 100000 in
set_option maxHeartbeats 4000000 in
theorem b_Md_report_4 {p : Program} {l : Launch} {e : Env} {s : State} {m : MethodId} {args : Array Value} {below : List Frame} {meth : Method} {c : Code} {D : va_G} {g : Gm} {A : Nat → Prop} {post : Sg → Prop} {F : Nat → Int32 → Int32 → Int32 → Int32 → Int32 → Int32 → Sg → Prop} (C : kC p s m args meth c k_Md_report 7 (none) GW R_Md D vwCl g (Zk g) A) (j5 : J_Md_report_5 p l e s m args below meth c D g A post F) (j6 : J_Md_report_6 p l e s m args below meth c D g A post F) (x1 : Int32) (x2 : Int32) (x3 : Int32) (x4 : Int32) (x5 : Int32) (σ : Sg) (H : Heap) (locs : List Loc) (ls : Array Slot) (hl : lv_has ls 7 [(0, .ref (g.1 54)), (1, .int x1), (2, .int x2), (3, .int x3), (4, .int x4), (5, .int x5)]) (hst : Wst D vwCl (WS g) A s σ H locs) (h : wb_Md_report_4 F post x1 x2 x3 x4 x5 σ) : W p l e { frames := 6, cells := 0, slots := 0, locals := 152 } s m args below meth c H locs 0 0 (MQ below (QvW D vwCl (WS g) post A) args s 0 0 A) (F0 m 91 ls []) := by
  obtain ⟨hx, hb, hr, hml, hown, hts, hlocks, hK, hZ, hA⟩ := C
  unfold wb_Md_report_4 at h
  refine lv_iload_n hx hb d_Md_report_91 rfl (lv_at hl 3 rfl) ?_
  refine lv_bipush (v := (20 : Int32)) hx hb d_Md_report_92 (by decide) ?_
  refine lv_icmp_ne (tgt := 101) hx hb d_Md_report_94 (by decide) (fun hc => ?_) (fun hc => ?_)
  · replace h := h.1 hc
    refine lv_iconst (v := (0 : Int32)) hx hb d_Md_report_101 (by decide) ?_
    refine lv_istore hx hb d_Md_report_102 hl (by decide) rfl (fun ls hl => ?_)
    have hl : lv_has ls 7 [(6, .int (0 : Int32)), (0, .ref (g.1 54)), (1, .int x1), (2, .int x2), (3, .int x3), (4, .int x4), (5, .int x5)] := hl
    exact j6 x1 x2 x3 x4 x5 (0 : Int32) σ _ _ _ (lv_sub hl [1, 2, 3, 4, 5, 6, 0] rfl) hst h
  · replace h := h.2 hc
    exact j5 x1 x2 x3 x4 x5 σ _ _ _ (lv_sub hl [0, 1, 2, 3, 4, 5] rfl) hst h
set_option maxRecDepth 100000 in
set_option maxHeartbeats 4000000 in
theorem b_Md_report_5 {p : Program} {l : Launch} {e : Env} {s : State} {m : MethodId} {args : Array Value} {below : List Frame} {meth : Method} {c : Code} {D : va_G} {g : Gm} {A : Nat → Prop} {post : Sg → Prop} {F : Nat → Int32 → Int32 → Int32 → Int32 → Int32 → Int32 → Sg → Prop} (C : kC p s m args meth c k_Md_report 7 (none) GW R_Md D vwCl g (Zk g) A) (j6 : J_Md_report_6 p l e s m args below meth c D g A post F) (x1 : Int32) (x2 : Int32) (x3 : Int32) (x4 : Int32) (x5 : Int32) (σ : Sg) (H : Heap) (locs : List Loc) (ls : Array Slot) (hl : lv_has ls 7 [(0, .ref (g.1 54)), (1, .int x1), (2, .int x2), (3, .int x3), (4, .int x4), (5, .int x5)]) (hst : Wst D vwCl (WS g) A s σ H locs) (h : wb_Md_report_5 F post x1 x2 x3 x4 x5 σ) : W p l e { frames := 6, cells := 0, slots := 0, locals := 152 } s m args below meth c H locs 0 0 (MQ below (QvW D vwCl (WS g) post A) args s 0 0 A) (F0 m 97 ls []) := by
  obtain ⟨hx, hb, hr, hml, hown, hts, hlocks, hK, hZ, hA⟩ := C
  unfold wb_Md_report_5 at h
  refine lv_iconst (v := (1 : Int32)) hx hb d_Md_report_97 (by decide) ?_
  refine lv_goto (tgt := 102) hx hb d_Md_report_98 (by decide) ?_
  refine lv_istore hx hb d_Md_report_102 hl (by decide) rfl (fun ls hl => ?_)
  have hl : lv_has ls 7 [(6, .int (1 : Int32)), (0, .ref (g.1 54)), (1, .int x1), (2, .int x2), (3, .int x3), (4, .int x4), (5, .int x5)] := hl
  exact j6 x1 x2 x3 x4 x5 (1 : Int32) σ _ _ _ (lv_sub hl [1, 2, 3, 4, 5, 6, 0] rfl) hst h
set_option maxRecDepth 100000 in
set_option maxHeartbeats 4000000 in
theorem b_Md_report_6 {p : Program} {l : Launch} {e : Env} {s : State} {m : MethodId} {args : Array Value} {below : List Frame} {meth : Method} {c : Code} {D : va_G} {g : Gm} {A : Nat → Prop} {post : Sg → Prop} {F : Nat → Int32 → Int32 → Int32 → Int32 → Int32 → Int32 → Sg → Prop} (C : kC p s m args meth c k_Md_report 7 (none) GW R_Md D vwCl g (Zk g) A) (j1 : J_Md_report_1 p l e s m args below meth c D g A post F) (j7 : J_Md_report_7 p l e s m args below meth c D g A post F) (x1 : Int32) (x2 : Int32) (x3 : Int32) (x4 : Int32) (x5 : Int32) (x6 : Int32) (σ : Sg) (H : Heap) (locs : List Loc) (ls : Array Slot) (hl : lv_has ls 7 [(0, .ref (g.1 54)), (1, .int x1), (2, .int x2), (3, .int x3), (4, .int x4), (5, .int x5), (6, .int x6)]) (hst : Wst D vwCl (WS g) A s σ H locs) (h : wb_Md_report_6 F post x1 x2 x3 x4 x5 x6 σ) : W p l e { frames := 6, cells := 0, slots := 0, locals := 152 } s m args below meth c H locs 0 0 (MQ below (QvW D vwCl (WS g) post A) args s 0 0 A) (F0 m 104 ls []) := by
  obtain ⟨hx, hb, hr, hml, hown, hts, hlocks, hK, hZ, hA⟩ := C
  unfold wb_Md_report_6 at h
  refine lv_iload hx hb d_Md_report_104 (lv_at hl 5 rfl) ?_
  refine lv_if_eq (tgt := 124) hx hb d_Md_report_106 (by decide) (fun hc => ?_) (fun hc => ?_)
  · replace h := h.1 hc
    exact j7 x1 x2 x3 x4 x5 σ _ _ _ (lv_sub hl [0, 1, 2, 3, 4, 5] rfl) hst h
  · replace h := h.2 hc
    refine lv_iload hx hb d_Md_report_109 (lv_at hl 6 rfl) ?_
    refine lv_if_eq (tgt := 124) hx hb d_Md_report_111 (by decide) (fun hc => ?_) (fun hc => ?_)
    · replace h := h.1 hc
      exact j7 x1 x2 x3 x4 x5 σ _ _ _ (lv_sub hl [0, 1, 2, 3, 4, 5] rfl) hst h
    · replace h := h.2 hc
      refine lv_aload_n hx hb d_Md_report_114 rfl (lv_at hl 0 rfl) ?_
      refine lv_iload_n hx hb d_Md_report_115 rfl (lv_at hl 1 rfl) ?_
      refine lv_iload_n hx hb d_Md_report_116 rfl (lv_at hl 3 rfl) ?_
      refine lv_iload_n hx hb d_Md_report_117 rfl (lv_at hl 2 rfl) ?_
      refine kw_callv (va_runV (As := [.int x1, .int x3, .int x2]) (rest := []) (b := g.1 54) ⟨hx, hb, hml, hown, hts⟩ (c_Md_reportChildren l x1 x3 x2 h) (cwV 3 hts (gd_v gw1452 gw1454 gs89 gw15 gw1455) rfl rfl rfl (by decide +kernel) ⟨Nat.le_of_ble_eq_true rfl, Nat.le_of_ble_eq_true rfl⟩) ⟨kw_blind (Zk_ok g), va_recv hK hst.1 rfl (WS_o54 g σ), kw_pre (Zk_ok g) hK hZ hA hst⟩ rfl rfl hl.1 rfl (lv_room (Nat.le_of_ble_eq_true rfl)) d_Md_report_118 ⟨Nat.le_of_ble_eq_true rfl, Nat.le_of_ble_eq_true rfl⟩) hst hA (fun σ1 H locs h hst => ?_)
      refine lv_goto (tgt := 194) hx hb d_Md_report_121 (by decide) ?_
      refine lv_iinc (k := 3) (v := (x3 + 1)) hx hb d_Md_report_194 hl rfl (kw_inc _ (by decide)) (by decide) rfl (fun ls hl => ?_)
      have hl : lv_has ls 7 [(3, .int (x3 + 1)), (0, .ref (g.1 54)), (1, .int x1), (2, .int x2), (4, .int x4), (5, .int x5), (6, .int x6)] := hl
      refine lv_goto (tgt := 19) hx hb d_Md_report_197 (by decide) ?_
      exact j1 x1 x2 (x3 + 1) σ1 _ _ _ (lv_sub hl [1, 2, 3, 0] rfl) hst h
set_option maxRecDepth 100000 in
set_option maxHeartbeats 4000000 in
theorem b_Md_report_7 {p : Program} {l : Launch} {e : Env} {s : State} {m : MethodId} {args : Array Value} {below : List Frame} {meth : Method} {c : Code} {D : va_G} {g : Gm} {A : Nat → Prop} {post : Sg → Prop} {F : Nat → Int32 → Int32 → Int32 → Int32 → Int32 → Int32 → Sg → Prop} (C : kC p s m args meth c k_Md_report 7 (none) GW R_Md D vwCl g (Zk g) A) (j1 : J_Md_report_1 p l e s m args below meth c D g A post F) (j8 : J_Md_report_8 p l e s m args below meth c D g A post F) (x1 : Int32) (x2 : Int32) (x3 : Int32) (x4 : Int32) (x5 : Int32) (σ : Sg) (H : Heap) (locs : List Loc) (ls : Array Slot) (hl : lv_has ls 7 [(0, .ref (g.1 54)), (1, .int x1), (2, .int x2), (3, .int x3), (4, .int x4), (5, .int x5)]) (hst : Wst D vwCl (WS g) A s σ H locs) (h : wb_Md_report_7 F post x1 x2 x3 x4 x5 σ) : W p l e { frames := 6, cells := 0, slots := 0, locals := 152 } s m args below meth c H locs 0 0 (MQ below (QvW D vwCl (WS g) post A) args s 0 0 A) (F0 m 124 ls []) := by
  obtain ⟨hx, hb, hr, hml, hown, hts, hlocks, hK, hZ, hA⟩ := C
  unfold wb_Md_report_7 at h
  refine lv_iload hx hb d_Md_report_124 (lv_at hl 5 rfl) ?_
  refine lv_if_eq (tgt := 145) hx hb d_Md_report_126 (by decide) (fun hc => ?_) (fun hc => ?_)
  · replace h := h.1 hc
    exact j8 x1 x2 x3 x4 x5 σ _ _ _ (lv_sub hl [0, 1, 2, 3, 4, 5] rfl) hst h
  · replace h := h.2 hc
    refine lv_iload_n hx hb d_Md_report_129 rfl (lv_at hl 3 rfl) ?_
    refine lv_bipush (v := (15 : Int32)) hx hb d_Md_report_130 (by decide) ?_
    refine lv_icmp_ne (tgt := 145) hx hb d_Md_report_132 (by decide) (fun hc => ?_) (fun hc => ?_)
    · replace h := h.1 hc
      exact j8 x1 x2 x3 x4 x5 σ _ _ _ (lv_sub hl [0, 1, 2, 3, 4, 5] rfl) hst h
    · replace h := h.2 hc
      refine lv_aload_n hx hb d_Md_report_135 rfl (lv_at hl 0 rfl) ?_
      refine lv_iload hx hb d_Md_report_136 (lv_at hl 4 rfl) ?_
      refine lv_iload_n hx hb d_Md_report_138 rfl (lv_at hl 2 rfl) ?_
      refine kw_callv (va_runV (As := [.int x4, .int x2]) (rest := []) (b := g.1 54) ⟨hx, hb, hml, hown, hts⟩ (c_Md_reportAll l x4 x2 h) (cwV 2 hts (gd_v gw1456 gw1458 gs90 gw15 gw1459) rfl rfl rfl (by decide +kernel) ⟨Nat.le_of_ble_eq_true rfl, Nat.le_of_ble_eq_true rfl⟩) ⟨kw_blind (Zk_ok g), va_recv hK hst.1 rfl (WS_o54 g σ), kw_pre (Zk_ok g) hK hZ hA hst⟩ rfl rfl hl.1 rfl (lv_room (Nat.le_of_ble_eq_true rfl)) d_Md_report_139 ⟨Nat.le_of_ble_eq_true rfl, Nat.le_of_ble_eq_true rfl⟩) hst hA (fun σ1 H locs h hst => ?_)
      refine lv_goto (tgt := 194) hx hb d_Md_report_142 (by decide) ?_
      refine lv_iinc (k := 3) (v := (x3 + 1)) hx hb d_Md_report_194 hl rfl (kw_inc _ (by decide)) (by decide) rfl (fun ls hl => ?_)
      have hl : lv_has ls 7 [(3, .int (x3 + 1)), (0, .ref (g.1 54)), (1, .int x1), (2, .int x2), (4, .int x4), (5, .int x5)] := hl
      refine lv_goto (tgt := 19) hx hb d_Md_report_197 (by decide) ?_
      exact j1 x1 x2 (x3 + 1) σ1 _ _ _ (lv_sub hl [1, 2, 3, 0] rfl) hst h
set_option maxRecDepth 100000 in
set_option maxHeartbeats 4000000 in
theorem b_Md_report_8 {p : Program} {l : Launch} {e : Env} {s : State} {m : MethodId} {args : Array Value} {below : List Frame} {meth : Method} {c : Code} {D : va_G} {g : Gm} {A : Nat → Prop} {post : Sg → Prop} {F : Nat → Int32 → Int32 → Int32 → Int32 → Int32 → Int32 → Sg → Prop} (C : kC p s m args meth c k_Md_report 7 (none) GW R_Md D vwCl g (Zk g) A) (j1 : J_Md_report_1 p l e s m args below meth c D g A post F) (x1 : Int32) (x2 : Int32) (x3 : Int32) (x4 : Int32) (x5 : Int32) (σ : Sg) (H : Heap) (locs : List Loc) (ls : Array Slot) (hl : lv_has ls 7 [(0, .ref (g.1 54)), (1, .int x1), (2, .int x2), (3, .int x3), (4, .int x4), (5, .int x5)]) (hst : Wst D vwCl (WS g) A s σ H locs) (h : wb_Md_report_8 F post x1 x2 x3 x4 x5 σ) : W p l e { frames := 6, cells := 0, slots := 0, locals := 152 } s m args below meth c H locs 0 0 (MQ below (QvW D vwCl (WS g) post A) args s 0 0 A) (F0 m 145 ls []) := by
  obtain ⟨hx, hb, hr, hml, hown, hts, hlocks, hK, hZ, hA⟩ := C
  unfold wb_Md_report_8 at h
  refine lv_iload hx hb d_Md_report_145 (lv_at hl 5 rfl) ?_
  refine lv_if_eq (tgt := 181) hx hb d_Md_report_147 (by decide) (fun hc => ?_) (fun hc => ?_)
  · replace h := h.1 hc
    refine lv_iload hx hb d_Md_report_181 (lv_at hl 5 rfl) ?_
    refine lv_if_eq (tgt := 194) hx hb d_Md_report_183 (by decide) (fun hc => ?_) (fun hc => ?_)
    · replace h := h.1 hc
      refine lv_iinc (k := 3) (v := (x3 + 1)) hx hb d_Md_report_194 hl rfl (kw_inc _ (by decide)) (by decide) rfl (fun ls hl => ?_)
      have hl : lv_has ls 7 [(3, .int (x3 + 1)), (0, .ref (g.1 54)), (1, .int x1), (2, .int x2), (4, .int x4), (5, .int x5)] := hl
      refine lv_goto (tgt := 19) hx hb d_Md_report_197 (by decide) ?_
      exact j1 x1 x2 (x3 + 1) σ _ _ _ (lv_sub hl [1, 2, 3, 0] rfl) hst h
    · replace h := h.2 hc
      refine lv_aload_n hx hb d_Md_report_186 rfl (lv_at hl 0 rfl) ?_
      refine lv_iload_n hx hb d_Md_report_187 rfl (lv_at hl 3 rfl) ?_
      refine lv_iload_n hx hb d_Md_report_188 rfl (lv_at hl 2 rfl) ?_
      refine lv_iload hx hb d_Md_report_189 (lv_at hl 4 rfl) ?_
      refine kw_callv (va_runV (As := [.int x3, .int x2, .int x4]) (rest := []) (b := g.1 54) ⟨hx, hb, hml, hown, hts⟩ (c_Md_tell l x3 x2 x4 h) (cwV 3 hts (gd_v gw1448 gw1450 gs88 gw15 gw1451) rfl rfl rfl (by decide +kernel) ⟨Nat.le_of_ble_eq_true rfl, Nat.le_of_ble_eq_true rfl⟩) ⟨kw_blind (Zk_ok g), va_recv hK hst.1 rfl (WS_o54 g σ), kw_pre (Zk_ok g) hK hZ hA hst⟩ rfl rfl hl.1 rfl (lv_room (Nat.le_of_ble_eq_true rfl)) d_Md_report_191 ⟨Nat.le_of_ble_eq_true rfl, Nat.le_of_ble_eq_true rfl⟩) hst hA (fun σ1 H locs h hst => ?_)
      refine lv_iinc (k := 3) (v := (x3 + 1)) hx hb d_Md_report_194 hl rfl (kw_inc _ (by decide)) (by decide) rfl (fun ls hl => ?_)
      have hl : lv_has ls 7 [(3, .int (x3 + 1)), (0, .ref (g.1 54)), (1, .int x1), (2, .int x2), (4, .int x4), (5, .int x5)] := hl
      refine lv_goto (tgt := 19) hx hb d_Md_report_197 (by decide) ?_
      exact j1 x1 x2 (x3 + 1) σ1 _ _ _ (lv_sub hl [1, 2, 3, 0] rfl) hst h
  · replace h := h.2 hc
    refine lv_iload_n hx hb d_Md_report_150 rfl (lv_at hl 3 rfl) ?_
    refine lv_bipush (v := (19 : Int32)) hx hb d_Md_report_151 (by decide) ?_
    refine lv_icmp_ne (tgt := 181) hx hb d_Md_report_153 (by decide) (fun hc => ?_) (fun hc => ?_)
    · replace h := h.1 hc
      refine lv_iload hx hb d_Md_report_181 (lv_at hl 5 rfl) ?_
      refine lv_if_eq (tgt := 194) hx hb d_Md_report_183 (by decide) (fun hc => ?_) (fun hc => ?_)
      · replace h := h.1 hc
        refine lv_iinc (k := 3) (v := (x3 + 1)) hx hb d_Md_report_194 hl rfl (kw_inc _ (by decide)) (by decide) rfl (fun ls hl => ?_)
        have hl : lv_has ls 7 [(3, .int (x3 + 1)), (0, .ref (g.1 54)), (1, .int x1), (2, .int x2), (4, .int x4), (5, .int x5)] := hl
        refine lv_goto (tgt := 19) hx hb d_Md_report_197 (by decide) ?_
        exact j1 x1 x2 (x3 + 1) σ _ _ _ (lv_sub hl [1, 2, 3, 0] rfl) hst h
      · replace h := h.2 hc
        refine lv_aload_n hx hb d_Md_report_186 rfl (lv_at hl 0 rfl) ?_
        refine lv_iload_n hx hb d_Md_report_187 rfl (lv_at hl 3 rfl) ?_
        refine lv_iload_n hx hb d_Md_report_188 rfl (lv_at hl 2 rfl) ?_
        refine lv_iload hx hb d_Md_report_189 (lv_at hl 4 rfl) ?_
        refine kw_callv (va_runV (As := [.int x3, .int x2, .int x4]) (rest := []) (b := g.1 54) ⟨hx, hb, hml, hown, hts⟩ (c_Md_tell l x3 x2 x4 h) (cwV 3 hts (gd_v gw1448 gw1450 gs88 gw15 gw1451) rfl rfl rfl (by decide +kernel) ⟨Nat.le_of_ble_eq_true rfl, Nat.le_of_ble_eq_true rfl⟩) ⟨kw_blind (Zk_ok g), va_recv hK hst.1 rfl (WS_o54 g σ), kw_pre (Zk_ok g) hK hZ hA hst⟩ rfl rfl hl.1 rfl (lv_room (Nat.le_of_ble_eq_true rfl)) d_Md_report_191 ⟨Nat.le_of_ble_eq_true rfl, Nat.le_of_ble_eq_true rfl⟩) hst hA (fun σ1 H locs h hst => ?_)
        refine lv_iinc (k := 3) (v := (x3 + 1)) hx hb d_Md_report_194 hl rfl (kw_inc _ (by decide)) (by decide) rfl (fun ls hl => ?_)
        have hl : lv_has ls 7 [(3, .int (x3 + 1)), (0, .ref (g.1 54)), (1, .int x1), (2, .int x2), (4, .int x4), (5, .int x5)] := hl
        refine lv_goto (tgt := 19) hx hb d_Md_report_197 (by decide) ?_
        exact j1 x1 x2 (x3 + 1) σ1 _ _ _ (lv_sub hl [1, 2, 3, 0] rfl) hst h
    · replace h := h.2 hc
      refine lv_aload_n hx hb d_Md_report_156 rfl (lv_at hl 0 rfl) ?_
      refine va_get (D := D) (ci := 10) (C := R_Md) (T := T_Md) (N := 46) hx hb hts in_Md hown hK hst.1 54 (WS_o54 g σ) rfl 26 (by decide) (hts _ gw1090) (fun _ h9 => h9) rfl d_Md_report_157 ?_
      refine lv_iload hx hb d_Md_report_160 (lv_at hl 4 rfl) ?_
      obtain ⟨hi, h⟩ := h
      refine va_iald hx hb hK hst.1 77 0 (WS_a77 g σ) rfl hi d_Md_report_162 ?_
      refine lv_if_lt (tgt := 181) hx hb d_Md_report_163 (by decide) (fun hc => ?_) (fun hc => ?_)
      · replace h := h.1 hc
        refine lv_iload hx hb d_Md_report_181 (lv_at hl 5 rfl) ?_
        refine lv_if_eq (tgt := 194) hx hb d_Md_report_183 (by decide) (fun hc => ?_) (fun hc => ?_)
        · replace h := h.1 hc
          refine lv_iinc (k := 3) (v := (x3 + 1)) hx hb d_Md_report_194 hl rfl (kw_inc _ (by decide)) (by decide) rfl (fun ls hl => ?_)
          have hl : lv_has ls 7 [(3, .int (x3 + 1)), (0, .ref (g.1 54)), (1, .int x1), (2, .int x2), (4, .int x4), (5, .int x5)] := hl
          refine lv_goto (tgt := 19) hx hb d_Md_report_197 (by decide) ?_
          exact j1 x1 x2 (x3 + 1) σ _ _ _ (lv_sub hl [1, 2, 3, 0] rfl) hst h
        · replace h := h.2 hc
          refine lv_aload_n hx hb d_Md_report_186 rfl (lv_at hl 0 rfl) ?_
          refine lv_iload_n hx hb d_Md_report_187 rfl (lv_at hl 3 rfl) ?_
          refine lv_iload_n hx hb d_Md_report_188 rfl (lv_at hl 2 rfl) ?_
          refine lv_iload hx hb d_Md_report_189 (lv_at hl 4 rfl) ?_
          refine kw_callv (va_runV (As := [.int x3, .int x2, .int x4]) (rest := []) (b := g.1 54) ⟨hx, hb, hml, hown, hts⟩ (c_Md_tell l x3 x2 x4 h) (cwV 3 hts (gd_v gw1448 gw1450 gs88 gw15 gw1451) rfl rfl rfl (by decide +kernel) ⟨Nat.le_of_ble_eq_true rfl, Nat.le_of_ble_eq_true rfl⟩) ⟨kw_blind (Zk_ok g), va_recv hK hst.1 rfl (WS_o54 g σ), kw_pre (Zk_ok g) hK hZ hA hst⟩ rfl rfl hl.1 rfl (lv_room (Nat.le_of_ble_eq_true rfl)) d_Md_report_191 ⟨Nat.le_of_ble_eq_true rfl, Nat.le_of_ble_eq_true rfl⟩) hst hA (fun σ1 H locs h hst => ?_)
          refine lv_iinc (k := 3) (v := (x3 + 1)) hx hb d_Md_report_194 hl rfl (kw_inc _ (by decide)) (by decide) rfl (fun ls hl => ?_)
          have hl : lv_has ls 7 [(3, .int (x3 + 1)), (0, .ref (g.1 54)), (1, .int x1), (2, .int x2), (4, .int x4), (5, .int x5)] := hl
          refine lv_goto (tgt := 19) hx hb d_Md_report_197 (by decide) ?_
          exact j1 x1 x2 (x3 + 1) σ1 _ _ _ (lv_sub hl [1, 2, 3, 0] rfl) hst h
      · replace h := h.2 hc
        refine lv_aload_n hx hb d_Md_report_166 rfl (lv_at hl 0 rfl) ?_
        refine lv_aload_n hx hb d_Md_report_167 rfl (lv_at hl 0 rfl) ?_
        refine va_get (D := D) (ci := 10) (C := R_Md) (T := T_Md) (N := 46) hx hb hts in_Md hown hK hst.1 54 (WS_o54 g σ) rfl 26 (by decide) (hts _ gw1090) (fun _ h9 => h9) rfl d_Md_report_168 ?_
        refine lv_iload hx hb d_Md_report_171 (lv_at hl 4 rfl) ?_
        obtain ⟨hi, h⟩ := h
        refine va_iald hx hb hK hst.1 77 0 (WS_a77 g σ) rfl hi d_Md_report_173 ?_
        refine lv_iload_n hx hb d_Md_report_174 rfl (lv_at hl 2 rfl) ?_
        refine kw_callv (va_runV (As := [.int (σ.1 77 x4.toNatClampNeg), .int x2]) (rest := []) (b := g.1 54) ⟨hx, hb, hml, hown, hts⟩ (c_Md_mark l (σ.1 77 x4.toNatClampNeg) x2 h) (cwV 2 hts (gd_v gw1436 gw1438 gs85 gw15 gw1439) rfl rfl rfl (by decide +kernel) ⟨Nat.le_of_ble_eq_true rfl, Nat.le_of_ble_eq_true rfl⟩) ⟨kw_blind (Zk_ok g), va_recv hK hst.1 rfl (WS_o54 g σ), kw_pre (Zk_ok g) hK hZ hA hst⟩ rfl rfl hl.1 rfl (lv_room (Nat.le_of_ble_eq_true rfl)) d_Md_report_175 ⟨Nat.le_of_ble_eq_true rfl, Nat.le_of_ble_eq_true rfl⟩) hst hA (fun σ1 H locs h hst => ?_)
        refine lv_goto (tgt := 194) hx hb d_Md_report_178 (by decide) ?_
        refine lv_iinc (k := 3) (v := (x3 + 1)) hx hb d_Md_report_194 hl rfl (kw_inc _ (by decide)) (by decide) rfl (fun ls hl => ?_)
        have hl : lv_has ls 7 [(3, .int (x3 + 1)), (0, .ref (g.1 54)), (1, .int x1), (2, .int x2), (4, .int x4), (5, .int x5)] := hl
        refine lv_goto (tgt := 19) hx hb d_Md_report_197 (by decide) ?_
        exact j1 x1 x2 (x3 + 1) σ1 _ _ _ (lv_sub hl [1, 2, 3, 0] rfl) hst h
set_option maxRecDepth 100000 in
set_option maxHeartbeats 4000000 in
theorem a_Md_report {p : Program} {l : Launch} {e : Env} {s : State} {m : MethodId} {args : Array Value} {below : List Frame} {meth : Method} {c : Code} {D : va_G} {g : Gm} {A : Nat → Prop} {post : Sg → Prop} (C : kC p s m args meth c k_Md_report 7 (none) GW R_Md D vwCl g (Zk g) A) : ∀ n : Nat, J_Md_report_1 p l e s m args below meth c D g A post (wp_Md_report post n) ∧ J_Md_report_2 p l e s m args below meth c D g A post (wp_Md_report post n) ∧ J_Md_report_3 p l e s m args below meth c D g A post (wp_Md_report post n) ∧ J_Md_report_4 p l e s m args below meth c D g A post (wp_Md_report post n) ∧ J_Md_report_5 p l e s m args below meth c D g A post (wp_Md_report post n) ∧ J_Md_report_6 p l e s m args below meth c D g A post (wp_Md_report post n) ∧ J_Md_report_7 p l e s m args below meth c D g A post (wp_Md_report post n) ∧ J_Md_report_8 p l e s m args below meth c D g A post (wp_Md_report post n) := by
  intro n
  induction n with
  | zero => exact ⟨fun _ _ _ _ _ _ _ _ _ h => h.elim, fun _ _ _ _ _ _ _ _ _ _ h => h.elim, fun _ _ _ _ _ _ _ _ _ _ _ h => h.elim, fun _ _ _ _ _ _ _ _ _ _ _ h => h.elim, fun _ _ _ _ _ _ _ _ _ _ _ h => h.elim, fun _ _ _ _ _ _ _ _ _ _ _ _ h => h.elim, fun _ _ _ _ _ _ _ _ _ _ _ h => h.elim, fun _ _ _ _ _ _ _ _ _ _ _ h => h.elim⟩
  | succ n ih => exact ⟨fun x1 x2 x3 σ H locs ls hl hst h => b_Md_report_1 (F := wp_Md_report post n) C (ih.2.1) (ih.2.2.1) x1 x2 x3 σ H locs ls hl hst h, fun x1 x2 x3 x4 σ H locs ls hl hst h => b_Md_report_2 (F := wp_Md_report post n) C (ih.2.2.1) x1 x2 x3 x4 σ H locs ls hl hst h, fun x1 x2 x3 x4 x5 σ H locs ls hl hst h => b_Md_report_3 (F := wp_Md_report post n) C (ih.2.2.2.1) (ih.2.2.2.2.1) x1 x2 x3 x4 x5 σ H locs ls hl hst h, fun x1 x2 x3 x4 x5 σ H locs ls hl hst h => b_Md_report_4 (F := wp_Md_report post n) C (ih.2.2.2.2.1) (ih.2.2.2.2.2.1) x1 x2 x3 x4 x5 σ H locs ls hl hst h, fun x1 x2 x3 x4 x5 σ H locs ls hl hst h => b_Md_report_5 (F := wp_Md_report post n) C (ih.2.2.2.2.2.1) x1 x2 x3 x4 x5 σ H locs ls hl hst h, fun x1 x2 x3 x4 x5 x6 σ H locs ls hl hst h => b_Md_report_6 (F := wp_Md_report post n) C (ih.1) (ih.2.2.2.2.2.2.1) x1 x2 x3 x4 x5 x6 σ H locs ls hl hst h, fun x1 x2 x3 x4 x5 σ H locs ls hl hst h => b_Md_report_7 (F := wp_Md_report post n) C (ih.1) (ih.2.2.2.2.2.2.2) x1 x2 x3 x4 x5 σ H locs ls hl hst h, fun x1 x2 x3 x4 x5 σ H locs ls hl hst h => b_Md_report_8 (F := wp_Md_report post n) C (ih.1) x1 x2 x3 x4 x5 σ H locs ls hl hst h⟩
set_option maxRecDepth 100000 in
set_option maxHeartbeats 4000000 in
theorem c_Md_report (l : Launch) {D : va_G} {g : Gm} {sz : Nat} (x1 : Int32) (x2 : Int32) {σ : Sg} {post : Sg → Prop} (h : wq_Md_report x1 x2 σ post) : Met l y_Md_report (.code y_Md_report k_Md_report 7 (none) :: GW) { frames := 6, cells := 0, slots := 0, locals := 152 } (PcW D vwCl (WS g) g (Zk g) σ sz [.ref (g.1 54), .int x1, .int x2]) (QvW D vwCl (WS g) post (va_A (WS g σ) sz)) 0 0 (va_A (WS g σ) sz) := by
  refine kw_entry (own := R_Md) (by decide) rfl rfl (Nat.le_of_ble_eq_true rfl) ?_
  intro p e s m below meth c ls hsz C hin hl hst
  obtain ⟨n, h⟩ := h
  cases n with
  | zero => exact h.elim
  | succ n =>
    have ih := a_Md_report (l := l) (e := e) (below := below) (post := post) C n
    exact b_Md_report_0 (F := wp_Md_report post n) C (ih.1) x1 x2 σ _ _ ls hl hst h
/-! SchemaDeskModel.judge ()I -/
abbrev k_Md_judge : ByteArray := prog_12_method_66_code
abbrev y_Md_judge : MethodName := ⟨"SchemaDeskModel", "judge", "()I"⟩
theorem d_Md_judge_0 : decode k_Md_judge 0 = .ok (.aload_n 0, 1) := by decide +kernel
theorem d_Md_judge_1 : decode k_Md_judge 1 = .ok (.iconst 0, 1) := by decide +kernel
theorem d_Md_judge_2 : decode k_Md_judge 2 = .ok (.putfield 177, 3) := by decide +kernel
theorem d_Md_judge_5 : decode k_Md_judge 5 = .ok (.aload_n 0, 1) := by decide +kernel
theorem d_Md_judge_6 : decode k_Md_judge 6 = .ok (.invokevirtual 354, 3) := by decide +kernel
theorem d_Md_judge_9 : decode k_Md_judge 9 = .ok (.istore_n 1, 1) := by decide +kernel
theorem d_Md_judge_10 : decode k_Md_judge 10 = .ok (.aload_n 0, 1) := by decide +kernel
theorem d_Md_judge_11 : decode k_Md_judge 11 = .ok (.getfield 113, 3) := by decide +kernel
theorem d_Md_judge_14 : decode k_Md_judge 14 = .ok (.iconst 0, 1) := by decide +kernel
theorem d_Md_judge_15 : decode k_Md_judge 15 = .ok (.iaload, 1) := by decide +kernel
theorem d_Md_judge_16 : decode k_Md_judge 16 = .ok (.ifCond .gt 12, 3) := by decide +kernel
theorem d_Md_judge_19 : decode k_Md_judge 19 = .ok (.aload_n 0, 1) := by decide +kernel
theorem d_Md_judge_20 : decode k_Md_judge 20 = .ok (.getfield 113, 3) := by decide +kernel
theorem d_Md_judge_23 : decode k_Md_judge 23 = .ok (.iconst 1, 1) := by decide +kernel
theorem d_Md_judge_24 : decode k_Md_judge 24 = .ok (.iaload, 1) := by decide +kernel
theorem d_Md_judge_25 : decode k_Md_judge 25 = .ok (.ifCond .le 9, 3) := by decide +kernel
theorem d_Md_judge_28 : decode k_Md_judge 28 = .ok (.aload_n 0, 1) := by decide +kernel
theorem d_Md_judge_29 : decode k_Md_judge 29 = .ok (.iconst 1, 1) := by decide +kernel
theorem d_Md_judge_30 : decode k_Md_judge 30 = .ok (.invokevirtual 274, 3) := by decide +kernel
theorem d_Md_judge_33 : decode k_Md_judge 33 = .ok (.ireturn, 1) := by decide +kernel
theorem d_Md_judge_34 : decode k_Md_judge 34 = .ok (.iload_n 1, 1) := by decide +kernel
theorem d_Md_judge_35 : decode k_Md_judge 35 = .ok (.ifCond .ne 9, 3) := by decide +kernel
theorem d_Md_judge_38 : decode k_Md_judge 38 = .ok (.aload_n 0, 1) := by decide +kernel
theorem d_Md_judge_39 : decode k_Md_judge 39 = .ok (.iconst 2, 1) := by decide +kernel
theorem d_Md_judge_40 : decode k_Md_judge 40 = .ok (.invokevirtual 274, 3) := by decide +kernel
theorem d_Md_judge_43 : decode k_Md_judge 43 = .ok (.ireturn, 1) := by decide +kernel
theorem d_Md_judge_44 : decode k_Md_judge 44 = .ok (.aload_n 0, 1) := by decide +kernel
theorem d_Md_judge_45 : decode k_Md_judge 45 = .ok (.invokevirtual 357, 3) := by decide +kernel
theorem d_Md_judge_48 : decode k_Md_judge 48 = .ok (.aload_n 0, 1) := by decide +kernel
theorem d_Md_judge_49 : decode k_Md_judge 49 = .ok (.iconst 0, 1) := by decide +kernel
theorem d_Md_judge_50 : decode k_Md_judge 50 = .ok (.putfield 360, 3) := by decide +kernel
theorem d_Md_judge_53 : decode k_Md_judge 53 = .ok (.aload_n 0, 1) := by decide +kernel
theorem d_Md_judge_54 : decode k_Md_judge 54 = .ok (.iconst 0, 1) := by decide +kernel
theorem d_Md_judge_55 : decode k_Md_judge 55 = .ok (.sipush 160, 3) := by decide +kernel
theorem d_Md_judge_58 : decode k_Md_judge 58 = .ok (.invokevirtual 320, 3) := by decide +kernel
theorem d_Md_judge_61 : decode k_Md_judge 61 = .ok (.ifCond .ne 11, 3) := by decide +kernel
theorem d_Md_judge_64 : decode k_Md_judge 64 = .ok (.aload_n 0, 1) := by decide +kernel
theorem d_Md_judge_65 : decode k_Md_judge 65 = .ok (.iconst 0, 1) := by decide +kernel
theorem d_Md_judge_66 : decode k_Md_judge 66 = .ok (.sipush 160, 3) := by decide +kernel
theorem d_Md_judge_69 : decode k_Md_judge 69 = .ok (.invokevirtual 373, 3) := by decide +kernel
theorem d_Md_judge_72 : decode k_Md_judge 72 = .ok (.sipush 160, 3) := by decide +kernel
theorem d_Md_judge_75 : decode k_Md_judge 75 = .ok (.istore_n 2, 1) := by decide +kernel
theorem d_Md_judge_76 : decode k_Md_judge 76 = .ok (.iload_n 2, 1) := by decide +kernel
theorem d_Md_judge_77 : decode k_Md_judge 77 = .ok (.sipush 160, 3) := by decide +kernel
theorem d_Md_judge_80 : decode k_Md_judge 80 = .ok (.aload_n 0, 1) := by decide +kernel
theorem d_Md_judge_81 : decode k_Md_judge 81 = .ok (.getfield 74, 3) := by decide +kernel
theorem d_Md_judge_84 : decode k_Md_judge 84 = .ok (.iconst 1, 1) := by decide +kernel
theorem d_Md_judge_85 : decode k_Md_judge 85 = .ok (.iaload, 1) := by decide +kernel
theorem d_Md_judge_86 : decode k_Md_judge 86 = .ok (.iadd, 1) := by decide +kernel
theorem d_Md_judge_87 : decode k_Md_judge 87 = .ok (.if_icmp .ge 56, 3) := by decide +kernel
theorem d_Md_judge_90 : decode k_Md_judge 90 = .ok (.aload_n 0, 1) := by decide +kernel
theorem d_Md_judge_91 : decode k_Md_judge 91 = .ok (.iload_n 2, 1) := by decide +kernel
theorem d_Md_judge_92 : decode k_Md_judge 92 = .ok (.invokevirtual 351, 3) := by decide +kernel
theorem d_Md_judge_95 : decode k_Md_judge 95 = .ok (.aload_n 0, 1) := by decide +kernel
theorem d_Md_judge_96 : decode k_Md_judge 96 = .ok (.getfield 297, 3) := by decide +kernel
theorem d_Md_judge_99 : decode k_Md_judge 99 = .ok (.iconst 1, 1) := by decide +kernel
theorem d_Md_judge_100 : decode k_Md_judge 100 = .ok (.isub, 1) := by decide +kernel
theorem d_Md_judge_101 : decode k_Md_judge 101 = .ok (.istore_n 3, 1) := by decide +kernel
theorem d_Md_judge_102 : decode k_Md_judge 102 = .ok (.iload_n 3, 1) := by decide +kernel
theorem d_Md_judge_103 : decode k_Md_judge 103 = .ok (.ifCond .lt 34, 3) := by decide +kernel
theorem d_Md_judge_106 : decode k_Md_judge 106 = .ok (.aload_n 0, 1) := by decide +kernel
theorem d_Md_judge_107 : decode k_Md_judge 107 = .ok (.aload_n 0, 1) := by decide +kernel
theorem d_Md_judge_108 : decode k_Md_judge 108 = .ok (.getfield 135, 3) := by decide +kernel
theorem d_Md_judge_111 : decode k_Md_judge 111 = .ok (.iload_n 3, 1) := by decide +kernel
theorem d_Md_judge_112 : decode k_Md_judge 112 = .ok (.iaload, 1) := by decide +kernel
theorem d_Md_judge_113 : decode k_Md_judge 113 = .ok (.iload_n 2, 1) := by decide +kernel
theorem d_Md_judge_114 : decode k_Md_judge 114 = .ok (.invokevirtual 376, 3) := by decide +kernel
theorem d_Md_judge_117 : decode k_Md_judge 117 = .ok (.ifCond .eq 14, 3) := by decide +kernel
theorem d_Md_judge_120 : decode k_Md_judge 120 = .ok (.aload_n 0, 1) := by decide +kernel
theorem d_Md_judge_121 : decode k_Md_judge 121 = .ok (.aload_n 0, 1) := by decide +kernel
theorem d_Md_judge_122 : decode k_Md_judge 122 = .ok (.getfield 135, 3) := by decide +kernel
theorem d_Md_judge_125 : decode k_Md_judge 125 = .ok (.iload_n 3, 1) := by decide +kernel
theorem d_Md_judge_126 : decode k_Md_judge 126 = .ok (.iaload, 1) := by decide +kernel
theorem d_Md_judge_127 : decode k_Md_judge 127 = .ok (.iload_n 2, 1) := by decide +kernel
theorem d_Md_judge_128 : decode k_Md_judge 128 = .ok (.invokevirtual 379, 3) := by decide +kernel
theorem d_Md_judge_131 : decode k_Md_judge 131 = .ok (.iinc 3 (-1), 3) := by decide +kernel
theorem d_Md_judge_134 : decode k_Md_judge 134 = .ok (.goto (-32), 3) := by decide +kernel
theorem d_Md_judge_137 : decode k_Md_judge 137 = .ok (.iinc 2 1, 3) := by decide +kernel
theorem d_Md_judge_140 : decode k_Md_judge 140 = .ok (.goto (-64), 3) := by decide +kernel
theorem d_Md_judge_143 : decode k_Md_judge 143 = .ok (.aload_n 0, 1) := by decide +kernel
theorem d_Md_judge_144 : decode k_Md_judge 144 = .ok (.getfield 360, 3) := by decide +kernel
theorem d_Md_judge_147 : decode k_Md_judge 147 = .ok (.ireturn, 1) := by decide +kernel
theorem gw1444 : (Jvm.Cond.methodLink "SchemaDeskModel" (379 : Nat) ({ cls := "SchemaDeskModel", name := "report", desc := "(II)V" } : Jvm.MethodName)) ∈ GW := gw_t7 (List.mem_of_getElem? (i := 4) rfl) rfl
theorem gw1446 : (Jvm.Cond.instanceMethod ({ cls := "SchemaDeskModel", name := "report", desc := "(II)V" } : Jvm.MethodName)) ∈ GW := gw_t7 (List.mem_of_getElem? (i := 6) rfl) rfl
theorem gs87 : Cond.selects "SchemaDeskModel" ⟨"SchemaDeskModel", "report", "(II)V"⟩ ⟨"SchemaDeskModel", "report", "(II)V"⟩ ∈ GW := gw_p6 (q := (⟨"SchemaDeskModel", "report", "(II)V"⟩, 46)) (List.mem_of_getElem? (i := 7) rfl)
theorem gw1447 : (Jvm.Cond.code ({ cls := "SchemaDeskModel", name := "report", desc := "(II)V" } : Jvm.MethodName) prog_12_method_63_code (7 : Nat) (Option.none : Option Jvm.ClassFile.FieldType)) ∈ GW := gw_t7 (List.mem_of_getElem? (i := 7) rfl) rfl
def wb_Md_judge_0 (F : Nat → Int32 → Int32 → Sg → Prop) (post : Int32 → Sg → Prop) (σ : Sg) : Prop := (∀ σ1, σ1 = si σ 54 1 (0 : Int32) → (wq_Md_prepared  σ1 (fun r2 σ2 => (vp_in (0 : Int32) 2 ∧ ((0 < (σ2.1 71 ((0 : Int32) : Int32).toNatClampNeg) → (wq_Md_fails (1 : Int32) σ2 (fun r3 σ3 => post r3 σ3))) ∧ (¬ 0 < (σ2.1 71 ((0 : Int32) : Int32).toNatClampNeg) → (vp_in (1 : Int32) 2 ∧ (((σ2.1 71 ((1 : Int32) : Int32).toNatClampNeg) ≤ 0 → ((¬ r2 = 0 → (wq_Md_judgeAll  σ2 (fun σ3 => (∀ σ4, σ4 = si σ3 54 40 (0 : Int32) → (wq_Md_isSo (0 : Int32) (160 : Int32) σ4 (fun r5 σ5 => ((¬ r5 = 0 → F 1 (160 : Int32) 0 σ5) ∧ (r5 = 0 → (wq_Md_mark (0 : Int32) (160 : Int32) σ5 (fun σ6 => F 1 (160 : Int32) 0 σ6)))))))))) ∧ (r2 = 0 → (wq_Md_fails (2 : Int32) σ2 (fun r3 σ3 => post r3 σ3))))) ∧ (¬ (σ2.1 71 ((1 : Int32) : Int32).toNatClampNeg) ≤ 0 → (wq_Md_fails (1 : Int32) σ2 (fun r3 σ3 => post r3 σ3)))))))))))
def wb_Md_judge_1 (F : Nat → Int32 → Int32 → Sg → Prop) (post : Int32 → Sg → Prop) (x2 : Int32) (σ : Sg) : Prop := (vp_in (1 : Int32) 2 ∧ ((((160 : Int32) + (σ.1 58 ((1 : Int32) : Int32).toNatClampNeg)) ≤ x2 → post (σ.1 54 40) σ) ∧ (¬ ((160 : Int32) + (σ.1 58 ((1 : Int32) : Int32).toNatClampNeg)) ≤ x2 → (wq_Md_fill x2 σ (fun σ1 => F 2 x2 ((σ1.1 54 28) - (1 : Int32)) σ1)))))
def wb_Md_judge_2 (F : Nat → Int32 → Int32 → Sg → Prop) (post : Int32 → Sg → Prop) (x2 : Int32) (x3 : Int32) (σ : Sg) : Prop := ((x3 < 0 → F 1 (x2 + 1) 0 σ) ∧ (¬ x3 < 0 → (vp_in x3 160 ∧ (wq_Md_isMarked (σ.1 78 x3.toNatClampNeg) x2 σ (fun r1 σ1 => ((r1 = 0 → F 2 x2 (x3 + (-1)) σ1) ∧ (¬ r1 = 0 → (vp_in x3 160 ∧ (wq_Md_report (σ1.1 78 x3.toNatClampNeg) x2 σ1 (fun σ2 => F 2 x2 (x3 + (-1)) σ2))))))))))
def wp_Md_judge (post : Int32 → Sg → Prop) : Nat → Nat → Int32 → Int32 → Sg → Prop
  | 0, _, _, _, _ => False
  | n + 1, k, x2, x3, σ => match k with
    | 0 => wb_Md_judge_0 (wp_Md_judge post n) post σ
    | 1 => wb_Md_judge_1 (wp_Md_judge post n) post x2 σ
    | 2 => wb_Md_judge_2 (wp_Md_judge post n) post x2 x3 σ
    | _ => False
def wq_Md_judge (σ : Sg) (post : Int32 → Sg → Prop) : Prop := ∃ n, wp_Md_judge post n 0 0 0 σ
def J_Md_judge_1 (p : Program) (l : Launch) (e : Env) (s : State) (m : MethodId) (args : Array Value) (below : List Frame) (meth : Method) (c : Code) (D : va_G) (g : Gm) (A : Nat → Prop) (post : Int32 → Sg → Prop) (F : Nat → Int32 → Int32 → Sg → Prop) : Prop := ∀ (x2 : Int32) (σ : Sg) (H : Heap) (locs : List Loc) (ls : Array Slot), lv_has ls 4 [(0, .ref (g.1 54)), (2, .int x2)] → Wst D vwCl (WS g) A s σ H locs → F 1 x2 0 σ → W p l e { frames := 8, cells := 0, slots := 0, locals := 199 } s m args below meth c H locs 0 0 (MQ below (QiW D vwCl (WS g) post A) args s 0 0 A) (F0 m 76 ls [])
def J_Md_judge_2 (p : Program) (l : Launch) (e : Env) (s : State) (m : MethodId) (args : Array Value) (below : List Frame) (meth : Method) (c : Code) (D : va_G) (g : Gm) (A : Nat → Prop) (post : Int32 → Sg → Prop) (F : Nat → Int32 → Int32 → Sg → Prop) : Prop := ∀ (x2 : Int32) (x3 : Int32) (σ : Sg) (H : Heap) (locs : List Loc) (ls : Array Slot), lv_has ls 4 [(0, .ref (g.1 54)), (2, .int x2), (3, .int x3)] → Wst D vwCl (WS g) A s σ H locs → F 2 x2 x3 σ → W p l e { frames := 8, cells := 0, slots := 0, locals := 199 } s m args below meth c H locs 0 0 (MQ below (QiW D vwCl (WS g) post A) args s 0 0 A) (F0 m 102 ls [])
set_option maxRecDepth 100000 in
set_option maxHeartbeats 4000000 in
theorem b_Md_judge_0 {p : Program} {l : Launch} {e : Env} {s : State} {m : MethodId} {args : Array Value} {below : List Frame} {meth : Method} {c : Code} {D : va_G} {g : Gm} {A : Nat → Prop} {post : Int32 → Sg → Prop} {F : Nat → Int32 → Int32 → Sg → Prop} (C : kC p s m args meth c k_Md_judge 4 (some .int) GW R_Md D vwCl g (Zk g) A) (j1 : J_Md_judge_1 p l e s m args below meth c D g A post F) (σ : Sg) (H : Heap) (locs : List Loc) (ls : Array Slot) (hl : lv_has ls 4 [(0, .ref (g.1 54))]) (hst : Wst D vwCl (WS g) A s σ H locs) (h : wb_Md_judge_0 F post σ) : W p l e { frames := 8, cells := 0, slots := 0, locals := 199 } s m args below meth c H locs 0 0 (MQ below (QiW D vwCl (WS g) post A) args s 0 0 A) (F0 m 0 ls []) := by
  obtain ⟨hx, hb, hr, hml, hown, hts, hlocks, hK, hZ, hA⟩ := C
  unfold wb_Md_judge_0 at h
  refine lv_aload_n hx hb d_Md_judge_0 rfl (lv_at hl 0 rfl) ?_
  refine lv_iconst (v := (0 : Int32)) hx hb d_Md_judge_1 (by decide) ?_
  refine kw_put (D := D) (ci := 10) (ty := .int) (C := R_Md) (T := T_Md) (N := 46) hx hb hts in_Md ty_Md ty_Md_ok nm_Md hown hK hst 54 (WS_o54 g σ) rfl 1 (by decide) (hts _ gw1065) (fun _ h9 => h9) rfl (by decide +kernel) rfl rfl (Nat.le_of_ble_eq_true rfl) (WS_p54_1 g σ _) d_Md_judge_2 (fun σ1 H locs e1 hst => ?_)
  replace h := h σ1 e1
  refine lv_aload_n hx hb d_Md_judge_5 rfl (lv_at hl 0 rfl) ?_
  refine kw_calli (va_runV (As := []) (rest := []) (b := g.1 54) ⟨hx, hb, hml, hown, hts⟩ (c_Md_prepared l h) (cwV 0 hts (gd_v gw1341 gw1343 gs63 gw15 gw1344) rfl rfl rfl (by decide +kernel) ⟨Nat.le_of_ble_eq_true rfl, Nat.le_of_ble_eq_true rfl⟩) ⟨kw_blind (Zk_ok g), va_recv hK hst.1 rfl (WS_o54 g σ1), kw_pre (Zk_ok g) hK hZ hA hst⟩ rfl rfl hl.1 rfl (lv_room (Nat.le_of_ble_eq_true rfl)) d_Md_judge_6 ⟨Nat.le_of_ble_eq_true rfl, Nat.le_of_ble_eq_true rfl⟩) hst hA (fun r2 σ2 H locs h hst => ?_)
  refine lv_istore_n hx hb d_Md_judge_9 rfl hl (by decide) rfl (fun ls hl => ?_)
  have hl : lv_has ls 4 [(1, .int r2), (0, .ref (g.1 54))] := hl
  refine lv_aload_n hx hb d_Md_judge_10 rfl (lv_at hl 1 rfl) ?_
  refine va_get (D := D) (ci := 10) (C := R_Md) (T := T_Md) (N := 46) hx hb hts in_Md hown hK hst.1 54 (WS_o54 g σ2) rfl 17 (by decide) (hts _ gw1081) (fun _ h9 => h9) rfl d_Md_judge_11 ?_
  refine lv_iconst (v := (0 : Int32)) hx hb d_Md_judge_14 (by decide) ?_
  obtain ⟨hi, h⟩ := h
  refine va_iald hx hb hK hst.1 71 0 (WS_a71 g σ2) rfl hi d_Md_judge_15 ?_
  refine lv_if_gt (tgt := 28) hx hb d_Md_judge_16 (by decide) (fun hc => ?_) (fun hc => ?_)
  · replace h := h.1 hc
    refine lv_aload_n hx hb d_Md_judge_28 rfl (lv_at hl 1 rfl) ?_
    refine lv_iconst (v := (1 : Int32)) hx hb d_Md_judge_29 (by decide) ?_
    refine kw_calli (va_runV (As := [.int (1 : Int32)]) (rest := []) (b := g.1 54) ⟨hx, hb, hml, hown, hts⟩ (c_Md_fails l (1 : Int32) h) (cwV 1 hts (gd_v gw1325 gw1327 gs62 gw15 gw1328) rfl rfl rfl (by decide +kernel) ⟨Nat.le_of_ble_eq_true rfl, Nat.le_of_ble_eq_true rfl⟩) ⟨kw_blind (Zk_ok g), va_recv hK hst.1 rfl (WS_o54 g σ2), kw_pre (Zk_ok g) hK hZ hA hst⟩ rfl rfl hl.1 rfl (lv_room (Nat.le_of_ble_eq_true rfl)) d_Md_judge_30 ⟨Nat.le_of_ble_eq_true rfl, Nat.le_of_ble_eq_true rfl⟩) hst hA (fun r3 σ3 H locs h hst => ?_)
    exact kw_iret hx hb hr hlocks hst h d_Md_judge_33
  · replace h := h.2 hc
    refine lv_aload_n hx hb d_Md_judge_19 rfl (lv_at hl 1 rfl) ?_
    refine va_get (D := D) (ci := 10) (C := R_Md) (T := T_Md) (N := 46) hx hb hts in_Md hown hK hst.1 54 (WS_o54 g σ2) rfl 17 (by decide) (hts _ gw1081) (fun _ h9 => h9) rfl d_Md_judge_20 ?_
    refine lv_iconst (v := (1 : Int32)) hx hb d_Md_judge_23 (by decide) ?_
    obtain ⟨hi, h⟩ := h
    refine va_iald hx hb hK hst.1 71 0 (WS_a71 g σ2) rfl hi d_Md_judge_24 ?_
    refine lv_if_le (tgt := 34) hx hb d_Md_judge_25 (by decide) (fun hc => ?_) (fun hc => ?_)
    · replace h := h.1 hc
      refine lv_iload_n hx hb d_Md_judge_34 rfl (lv_at hl 0 rfl) ?_
      refine lv_if_ne (tgt := 44) hx hb d_Md_judge_35 (by decide) (fun hc => ?_) (fun hc => ?_)
      · replace h := h.1 hc
        refine lv_aload_n hx hb d_Md_judge_44 rfl (lv_at hl 1 rfl) ?_
        refine kw_callv (va_runV (As := []) (rest := []) (b := g.1 54) ⟨hx, hb, hml, hown, hts⟩ (c_Md_judgeAll l h) (cwV 0 hts (gd_v gw1357 gw1359 gs67 gw15 gw1360) rfl rfl rfl (by decide +kernel) ⟨Nat.le_of_ble_eq_true rfl, Nat.le_of_ble_eq_true rfl⟩) ⟨kw_blind (Zk_ok g), va_recv hK hst.1 rfl (WS_o54 g σ2), kw_pre (Zk_ok g) hK hZ hA hst⟩ rfl rfl hl.1 rfl (lv_room (Nat.le_of_ble_eq_true rfl)) d_Md_judge_45 ⟨Nat.le_of_ble_eq_true rfl, Nat.le_of_ble_eq_true rfl⟩) hst hA (fun σ3 H locs h hst => ?_)
        refine lv_aload_n hx hb d_Md_judge_48 rfl (lv_at hl 1 rfl) ?_
        refine lv_iconst (v := (0 : Int32)) hx hb d_Md_judge_49 (by decide) ?_
        refine kw_put (D := D) (ci := 10) (ty := .int) (C := R_Md) (T := T_Md) (N := 46) hx hb hts in_Md ty_Md ty_Md_ok nm_Md hown hK hst 54 (WS_o54 g σ3) rfl 40 (by decide) (hts _ gw1104) (fun _ h9 => h9) rfl (by decide +kernel) rfl rfl (Nat.le_of_ble_eq_true rfl) (WS_p54_40 g σ3 _) d_Md_judge_50 (fun σ4 H locs e4 hst => ?_)
        replace h := h σ4 e4
        refine lv_aload_n hx hb d_Md_judge_53 rfl (lv_at hl 1 rfl) ?_
        refine lv_iconst (v := (0 : Int32)) hx hb d_Md_judge_54 (by decide) ?_
        refine lv_sipush (v := (160 : Int32)) hx hb d_Md_judge_55 (by decide) ?_
        refine kw_calli (va_runV (As := [.int (0 : Int32), .int (160 : Int32)]) (rest := []) (b := g.1 54) ⟨hx, hb, hml, hown, hts⟩ (c_Md_isSo l (0 : Int32) (160 : Int32) h) (cwV 2 hts (gd_v gw1396 gw1398 gs76 gw15 gw1399) rfl rfl rfl (by decide +kernel) ⟨Nat.le_of_ble_eq_true rfl, Nat.le_of_ble_eq_true rfl⟩) ⟨kw_blind (Zk_ok g), va_recv hK hst.1 rfl (WS_o54 g σ4), kw_pre (Zk_ok g) hK hZ hA hst⟩ rfl rfl hl.1 rfl (lv_room (Nat.le_of_ble_eq_true rfl)) d_Md_judge_58 ⟨Nat.le_of_ble_eq_true rfl, Nat.le_of_ble_eq_true rfl⟩) hst hA (fun r5 σ5 H locs h hst => ?_)
        refine lv_if_ne (tgt := 72) hx hb d_Md_judge_61 (by decide) (fun hc => ?_) (fun hc => ?_)
        · replace h := h.1 hc
          refine lv_sipush (v := (160 : Int32)) hx hb d_Md_judge_72 (by decide) ?_
          refine lv_istore_n hx hb d_Md_judge_75 rfl hl (by decide) rfl (fun ls hl => ?_)
          have hl : lv_has ls 4 [(2, .int (160 : Int32)), (1, .int r2), (0, .ref (g.1 54))] := hl
          exact j1 (160 : Int32) σ5 _ _ _ (lv_sub hl [2, 0] rfl) hst h
        · replace h := h.2 hc
          refine lv_aload_n hx hb d_Md_judge_64 rfl (lv_at hl 1 rfl) ?_
          refine lv_iconst (v := (0 : Int32)) hx hb d_Md_judge_65 (by decide) ?_
          refine lv_sipush (v := (160 : Int32)) hx hb d_Md_judge_66 (by decide) ?_
          refine kw_callv (va_runV (As := [.int (0 : Int32), .int (160 : Int32)]) (rest := []) (b := g.1 54) ⟨hx, hb, hml, hown, hts⟩ (c_Md_mark l (0 : Int32) (160 : Int32) h) (cwV 2 hts (gd_v gw1436 gw1438 gs85 gw15 gw1439) rfl rfl rfl (by decide +kernel) ⟨Nat.le_of_ble_eq_true rfl, Nat.le_of_ble_eq_true rfl⟩) ⟨kw_blind (Zk_ok g), va_recv hK hst.1 rfl (WS_o54 g σ5), kw_pre (Zk_ok g) hK hZ hA hst⟩ rfl rfl hl.1 rfl (lv_room (Nat.le_of_ble_eq_true rfl)) d_Md_judge_69 ⟨Nat.le_of_ble_eq_true rfl, Nat.le_of_ble_eq_true rfl⟩) hst hA (fun σ6 H locs h hst => ?_)
          refine lv_sipush (v := (160 : Int32)) hx hb d_Md_judge_72 (by decide) ?_
          refine lv_istore_n hx hb d_Md_judge_75 rfl hl (by decide) rfl (fun ls hl => ?_)
          have hl : lv_has ls 4 [(2, .int (160 : Int32)), (1, .int r2), (0, .ref (g.1 54))] := hl
          exact j1 (160 : Int32) σ6 _ _ _ (lv_sub hl [2, 0] rfl) hst h
      · replace h := h.2 hc
        refine lv_aload_n hx hb d_Md_judge_38 rfl (lv_at hl 1 rfl) ?_
        refine lv_iconst (v := (2 : Int32)) hx hb d_Md_judge_39 (by decide) ?_
        refine kw_calli (va_runV (As := [.int (2 : Int32)]) (rest := []) (b := g.1 54) ⟨hx, hb, hml, hown, hts⟩ (c_Md_fails l (2 : Int32) h) (cwV 1 hts (gd_v gw1325 gw1327 gs62 gw15 gw1328) rfl rfl rfl (by decide +kernel) ⟨Nat.le_of_ble_eq_true rfl, Nat.le_of_ble_eq_true rfl⟩) ⟨kw_blind (Zk_ok g), va_recv hK hst.1 rfl (WS_o54 g σ2), kw_pre (Zk_ok g) hK hZ hA hst⟩ rfl rfl hl.1 rfl (lv_room (Nat.le_of_ble_eq_true rfl)) d_Md_judge_40 ⟨Nat.le_of_ble_eq_true rfl, Nat.le_of_ble_eq_true rfl⟩) hst hA (fun r3 σ3 H locs h hst => ?_)
        exact kw_iret hx hb hr hlocks hst h d_Md_judge_43
    · replace h := h.2 hc
      refine lv_aload_n hx hb d_Md_judge_28 rfl (lv_at hl 1 rfl) ?_
      refine lv_iconst (v := (1 : Int32)) hx hb d_Md_judge_29 (by decide) ?_
      refine kw_calli (va_runV (As := [.int (1 : Int32)]) (rest := []) (b := g.1 54) ⟨hx, hb, hml, hown, hts⟩ (c_Md_fails l (1 : Int32) h) (cwV 1 hts (gd_v gw1325 gw1327 gs62 gw15 gw1328) rfl rfl rfl (by decide +kernel) ⟨Nat.le_of_ble_eq_true rfl, Nat.le_of_ble_eq_true rfl⟩) ⟨kw_blind (Zk_ok g), va_recv hK hst.1 rfl (WS_o54 g σ2), kw_pre (Zk_ok g) hK hZ hA hst⟩ rfl rfl hl.1 rfl (lv_room (Nat.le_of_ble_eq_true rfl)) d_Md_judge_30 ⟨Nat.le_of_ble_eq_true rfl, Nat.le_of_ble_eq_true rfl⟩) hst hA (fun r3 σ3 H locs h hst => ?_)
      exact kw_iret hx hb hr hlocks hst h d_Md_judge_33
set_option maxRecDepth 100000 in
set_option maxHeartbeats 4000000 in
theorem b_Md_judge_1 {p : Program} {l : Launch} {e : Env} {s : State} {m : MethodId} {args : Array Value} {below : List Frame} {meth : Method} {c : Code} {D : va_G} {g : Gm} {A : Nat → Prop} {post : Int32 → Sg → Prop} {F : Nat → Int32 → Int32 → Sg → Prop} (C : kC p s m args meth c k_Md_judge 4 (some .int) GW R_Md D vwCl g (Zk g) A) (j2 : J_Md_judge_2 p l e s m args below meth c D g A post F) (x2 : Int32) (σ : Sg) (H : Heap) (locs : List Loc) (ls : Array Slot) (hl : lv_has ls 4 [(0, .ref (g.1 54)), (2, .int x2)]) (hst : Wst D vwCl (WS g) A s σ H locs) (h : wb_Md_judge_1 F post x2 σ) : W p l e { frames := 8, cells := 0, slots := 0, locals := 199 } s m args below meth c H locs 0 0 (MQ below (QiW D vwCl (WS g) post A) args s 0 0 A) (F0 m 76 ls []) := by
  obtain ⟨hx, hb, hr, hml, hown, hts, hlocks, hK, hZ, hA⟩ := C
  unfold wb_Md_judge_1 at h
  refine lv_iload_n hx hb d_Md_judge_76 rfl (lv_at hl 1 rfl) ?_
  refine lv_sipush (v := (160 : Int32)) hx hb d_Md_judge_77 (by decide) ?_
  refine lv_aload_n hx hb d_Md_judge_80 rfl (lv_at hl 0 rfl) ?_
  refine va_get (D := D) (ci := 10) (C := R_Md) (T := T_Md) (N := 46) hx hb hts in_Md hown hK hst.1 54 (WS_o54 g σ) rfl 4 (by decide) (hts _ gw1068) (fun _ h9 => h9) rfl d_Md_judge_81 ?_
  refine lv_iconst (v := (1 : Int32)) hx hb d_Md_judge_84 (by decide) ?_
  obtain ⟨hi, h⟩ := h
  refine va_iald hx hb hK hst.1 58 0 (WS_a58 g σ) rfl hi d_Md_judge_85 ?_
  refine lv_iadd hx hb d_Md_judge_86 ?_
  refine lv_icmp_ge (tgt := 143) hx hb d_Md_judge_87 (by decide) (fun hc => ?_) (fun hc => ?_)
  · replace h := h.1 hc
    refine lv_aload_n hx hb d_Md_judge_143 rfl (lv_at hl 0 rfl) ?_
    refine va_get (D := D) (ci := 10) (C := R_Md) (T := T_Md) (N := 46) hx hb hts in_Md hown hK hst.1 54 (WS_o54 g σ) rfl 40 (by decide) (hts _ gw1104) (fun _ h9 => h9) rfl d_Md_judge_144 ?_
    exact kw_iret hx hb hr hlocks hst h d_Md_judge_147
  · replace h := h.2 hc
    refine lv_aload_n hx hb d_Md_judge_90 rfl (lv_at hl 0 rfl) ?_
    refine lv_iload_n hx hb d_Md_judge_91 rfl (lv_at hl 1 rfl) ?_
    refine kw_callv (va_runV (As := [.int x2]) (rest := []) (b := g.1 54) ⟨hx, hb, hml, hown, hts⟩ (c_Md_fill l x2 h) (cwV 1 hts (gd_v gw1380 gw1382 gs72 gw15 gw1383) rfl rfl rfl (by decide +kernel) ⟨Nat.le_of_ble_eq_true rfl, Nat.le_of_ble_eq_true rfl⟩) ⟨kw_blind (Zk_ok g), va_recv hK hst.1 rfl (WS_o54 g σ), kw_pre (Zk_ok g) hK hZ hA hst⟩ rfl rfl hl.1 rfl (lv_room (Nat.le_of_ble_eq_true rfl)) d_Md_judge_92 ⟨Nat.le_of_ble_eq_true rfl, Nat.le_of_ble_eq_true rfl⟩) hst hA (fun σ1 H locs h hst => ?_)
    refine lv_aload_n hx hb d_Md_judge_95 rfl (lv_at hl 0 rfl) ?_
    refine va_get (D := D) (ci := 10) (C := R_Md) (T := T_Md) (N := 46) hx hb hts in_Md hown hK hst.1 54 (WS_o54 g σ1) rfl 28 (by decide) (hts _ gw1092) (fun _ h9 => h9) rfl d_Md_judge_96 ?_
    refine lv_iconst (v := (1 : Int32)) hx hb d_Md_judge_99 (by decide) ?_
    refine lv_isub hx hb d_Md_judge_100 ?_
    refine lv_istore_n hx hb d_Md_judge_101 rfl hl (by decide) rfl (fun ls hl => ?_)
    have hl : lv_has ls 4 [(3, .int ((σ1.1 54 28) - (1 : Int32))), (0, .ref (g.1 54)), (2, .int x2)] := hl
    exact j2 x2 ((σ1.1 54 28) - (1 : Int32)) σ1 _ _ _ (lv_sub hl [1, 2, 0] rfl) hst h
set_option maxRecDepth 100000 in
set_option maxHeartbeats 4000000 in
theorem b_Md_judge_2 {p : Program} {l : Launch} {e : Env} {s : State} {m : MethodId} {args : Array Value} {below : List Frame} {meth : Method} {c : Code} {D : va_G} {g : Gm} {A : Nat → Prop} {post : Int32 → Sg → Prop} {F : Nat → Int32 → Int32 → Sg → Prop} (C : kC p s m args meth c k_Md_judge 4 (some .int) GW R_Md D vwCl g (Zk g) A) (j1 : J_Md_judge_1 p l e s m args below meth c D g A post F) (j2 : J_Md_judge_2 p l e s m args below meth c D g A post F) (x2 : Int32) (x3 : Int32) (σ : Sg) (H : Heap) (locs : List Loc) (ls : Array Slot) (hl : lv_has ls 4 [(0, .ref (g.1 54)), (2, .int x2), (3, .int x3)]) (hst : Wst D vwCl (WS g) A s σ H locs) (h : wb_Md_judge_2 F post x2 x3 σ) : W p l e { frames := 8, cells := 0, slots := 0, locals := 199 } s m args below meth c H locs 0 0 (MQ below (QiW D vwCl (WS g) post A) args s 0 0 A) (F0 m 102 ls []) := by
  obtain ⟨hx, hb, hr, hml, hown, hts, hlocks, hK, hZ, hA⟩ := C
  unfold wb_Md_judge_2 at h
  refine lv_iload_n hx hb d_Md_judge_102 rfl (lv_at hl 2 rfl) ?_
  refine lv_if_lt (tgt := 137) hx hb d_Md_judge_103 (by decide) (fun hc => ?_) (fun hc => ?_)
  · replace h := h.1 hc
    refine lv_iinc (k := 1) (v := (x2 + 1)) hx hb d_Md_judge_137 hl rfl (kw_inc _ (by decide)) (by decide) rfl (fun ls hl => ?_)
    have hl : lv_has ls 4 [(2, .int (x2 + 1)), (0, .ref (g.1 54)), (3, .int x3)] := hl
    refine lv_goto (tgt := 76) hx hb d_Md_judge_140 (by decide) ?_
    exact j1 (x2 + 1) σ _ _ _ (lv_sub hl [1, 0] rfl) hst h
  · replace h := h.2 hc
    refine lv_aload_n hx hb d_Md_judge_106 rfl (lv_at hl 0 rfl) ?_
    refine lv_aload_n hx hb d_Md_judge_107 rfl (lv_at hl 0 rfl) ?_
    refine va_get (D := D) (ci := 10) (C := R_Md) (T := T_Md) (N := 46) hx hb hts in_Md hown hK hst.1 54 (WS_o54 g σ) rfl 27 (by decide) (hts _ gw1091) (fun _ h9 => h9) rfl d_Md_judge_108 ?_
    refine lv_iload_n hx hb d_Md_judge_111 rfl (lv_at hl 2 rfl) ?_
    obtain ⟨hi, h⟩ := h
    refine va_iald hx hb hK hst.1 78 0 (WS_a78 g σ) rfl hi d_Md_judge_112 ?_
    refine lv_iload_n hx hb d_Md_judge_113 rfl (lv_at hl 1 rfl) ?_
    refine kw_calli (va_runV (As := [.int (σ.1 78 x3.toNatClampNeg), .int x2]) (rest := []) (b := g.1 54) ⟨hx, hb, hml, hown, hts⟩ (c_Md_isMarked l (σ.1 78 x3.toNatClampNeg) x2 h) (cwV 2 hts (gd_v gw1440 gw1442 gs86 gw15 gw1443) rfl rfl rfl (by decide +kernel) ⟨Nat.le_of_ble_eq_true rfl, Nat.le_of_ble_eq_true rfl⟩) ⟨kw_blind (Zk_ok g), va_recv hK hst.1 rfl (WS_o54 g σ), kw_pre (Zk_ok g) hK hZ hA hst⟩ rfl rfl hl.1 rfl (lv_room (Nat.le_of_ble_eq_true rfl)) d_Md_judge_114 ⟨Nat.le_of_ble_eq_true rfl, Nat.le_of_ble_eq_true rfl⟩) hst hA (fun r1 σ1 H locs h hst => ?_)
    refine lv_if_eq (tgt := 131) hx hb d_Md_judge_117 (by decide) (fun hc => ?_) (fun hc => ?_)
    · replace h := h.1 hc
      refine lv_iinc (k := 2) (v := (x3 + (-1))) hx hb d_Md_judge_131 hl rfl (kw_inc _ (by decide)) (by decide) rfl (fun ls hl => ?_)
      have hl : lv_has ls 4 [(3, .int (x3 + (-1))), (0, .ref (g.1 54)), (2, .int x2)] := hl
      refine lv_goto (tgt := 102) hx hb d_Md_judge_134 (by decide) ?_
      exact j2 x2 (x3 + (-1)) σ1 _ _ _ (lv_sub hl [1, 2, 0] rfl) hst h
    · replace h := h.2 hc
      refine lv_aload_n hx hb d_Md_judge_120 rfl (lv_at hl 0 rfl) ?_
      refine lv_aload_n hx hb d_Md_judge_121 rfl (lv_at hl 0 rfl) ?_
      refine va_get (D := D) (ci := 10) (C := R_Md) (T := T_Md) (N := 46) hx hb hts in_Md hown hK hst.1 54 (WS_o54 g σ1) rfl 27 (by decide) (hts _ gw1091) (fun _ h9 => h9) rfl d_Md_judge_122 ?_
      refine lv_iload_n hx hb d_Md_judge_125 rfl (lv_at hl 2 rfl) ?_
      obtain ⟨hi, h⟩ := h
      refine va_iald hx hb hK hst.1 78 0 (WS_a78 g σ1) rfl hi d_Md_judge_126 ?_
      refine lv_iload_n hx hb d_Md_judge_127 rfl (lv_at hl 1 rfl) ?_
      refine kw_callv (va_runV (As := [.int (σ1.1 78 x3.toNatClampNeg), .int x2]) (rest := []) (b := g.1 54) ⟨hx, hb, hml, hown, hts⟩ (c_Md_report l (σ1.1 78 x3.toNatClampNeg) x2 h) (cwV 2 hts (gd_v gw1444 gw1446 gs87 gw15 gw1447) rfl rfl rfl (by decide +kernel) ⟨Nat.le_of_ble_eq_true rfl, Nat.le_of_ble_eq_true rfl⟩) ⟨kw_blind (Zk_ok g), va_recv hK hst.1 rfl (WS_o54 g σ1), kw_pre (Zk_ok g) hK hZ hA hst⟩ rfl rfl hl.1 rfl (lv_room (Nat.le_of_ble_eq_true rfl)) d_Md_judge_128 ⟨Nat.le_of_ble_eq_true rfl, Nat.le_of_ble_eq_true rfl⟩) hst hA (fun σ2 H locs h hst => ?_)
      refine lv_iinc (k := 2) (v := (x3 + (-1))) hx hb d_Md_judge_131 hl rfl (kw_inc _ (by decide)) (by decide) rfl (fun ls hl => ?_)
      have hl : lv_has ls 4 [(3, .int (x3 + (-1))), (0, .ref (g.1 54)), (2, .int x2)] := hl
      refine lv_goto (tgt := 102) hx hb d_Md_judge_134 (by decide) ?_
      exact j2 x2 (x3 + (-1)) σ2 _ _ _ (lv_sub hl [1, 2, 0] rfl) hst h
set_option maxRecDepth 100000 in
set_option maxHeartbeats 4000000 in
theorem a_Md_judge {p : Program} {l : Launch} {e : Env} {s : State} {m : MethodId} {args : Array Value} {below : List Frame} {meth : Method} {c : Code} {D : va_G} {g : Gm} {A : Nat → Prop} {post : Int32 → Sg → Prop} (C : kC p s m args meth c k_Md_judge 4 (some .int) GW R_Md D vwCl g (Zk g) A) : ∀ n : Nat, J_Md_judge_1 p l e s m args below meth c D g A post (wp_Md_judge post n) ∧ J_Md_judge_2 p l e s m args below meth c D g A post (wp_Md_judge post n) := by
  intro n
  induction n with
  | zero => exact ⟨fun _ _ _ _ _ _ _ h => h.elim, fun _ _ _ _ _ _ _ _ h => h.elim⟩
  | succ n ih => exact ⟨fun x2 σ H locs ls hl hst h => b_Md_judge_1 (F := wp_Md_judge post n) C (ih.2) x2 σ H locs ls hl hst h, fun x2 x3 σ H locs ls hl hst h => b_Md_judge_2 (F := wp_Md_judge post n) C (ih.1) (ih.2) x2 x3 σ H locs ls hl hst h⟩
set_option maxRecDepth 100000 in
set_option maxHeartbeats 4000000 in
theorem c_Md_judge (l : Launch) {D : va_G} {g : Gm} {sz : Nat} {σ : Sg} {post : Int32 → Sg → Prop} (h : wq_Md_judge σ post) : Met l y_Md_judge (.code y_Md_judge k_Md_judge 4 (some .int) :: GW) { frames := 8, cells := 0, slots := 0, locals := 199 } (PcW D vwCl (WS g) g (Zk g) σ sz [.ref (g.1 54)]) (QiW D vwCl (WS g) post (va_A (WS g σ) sz)) 0 0 (va_A (WS g σ) sz) := by
  refine kw_entry (own := R_Md) (by decide) rfl rfl (Nat.le_of_ble_eq_true rfl) ?_
  intro p e s m below meth c ls hsz C hin hl hst
  obtain ⟨n, h⟩ := h
  cases n with
  | zero => exact h.elim
  | succ n =>
    have ih := a_Md_judge (l := l) (e := e) (below := below) (post := post) C n
    exact b_Md_judge_0 (F := wp_Md_judge post n) C (ih.1) σ _ _ ls hl hst h
