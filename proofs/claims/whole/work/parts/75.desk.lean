abbrev k_Sd_init : ByteArray := prog_1_method_1_code
abbrev y_Sd_init : MethodName := ⟨"SchemaDesk", "<init>", "()V"⟩
theorem d_Sd_init_0 : decode k_Sd_init 0 = .ok (.aload_n 0, 1) := by decide +kernel
theorem d_Sd_init_1 : decode k_Sd_init 1 = .ok (.invokespecial 1, 3) := by decide +kernel
theorem d_Sd_init_4 : decode k_Sd_init 4 = .ok (.aload_n 0, 1) := by decide +kernel
theorem d_Sd_init_5 : decode k_Sd_init 5 = .ok (.new 7, 3) := by decide +kernel
theorem d_Sd_init_8 : decode k_Sd_init 8 = .ok (.dup, 1) := by decide +kernel
theorem d_Sd_init_9 : decode k_Sd_init 9 = .ok (.invokespecial 9, 3) := by decide +kernel
theorem d_Sd_init_12 : decode k_Sd_init 12 = .ok (.putfield 10, 3) := by decide +kernel
theorem d_Sd_init_15 : decode k_Sd_init 15 = .ok (.aload_n 0, 1) := by decide +kernel
theorem d_Sd_init_16 : decode k_Sd_init 16 = .ok (.new 16, 3) := by decide +kernel
theorem d_Sd_init_19 : decode k_Sd_init 19 = .ok (.dup, 1) := by decide +kernel
theorem d_Sd_init_20 : decode k_Sd_init 20 = .ok (.new 18, 3) := by decide +kernel
theorem d_Sd_init_23 : decode k_Sd_init 23 = .ok (.dup, 1) := by decide +kernel
theorem d_Sd_init_24 : decode k_Sd_init 24 = .ok (.sipush 160, 3) := by decide +kernel
theorem d_Sd_init_27 : decode k_Sd_init 27 = .ok (.invokespecial 20, 3) := by decide +kernel
theorem d_Sd_init_30 : decode k_Sd_init 30 = .ok (.invokespecial 23, 3) := by decide +kernel
theorem d_Sd_init_33 : decode k_Sd_init 33 = .ok (.putfield 26, 3) := by decide +kernel
theorem d_Sd_init_36 : decode k_Sd_init 36 = .ok (.aload_n 0, 1) := by decide +kernel
theorem d_Sd_init_37 : decode k_Sd_init 37 = .ok (.new 16, 3) := by decide +kernel
theorem d_Sd_init_40 : decode k_Sd_init 40 = .ok (.dup, 1) := by decide +kernel
theorem d_Sd_init_41 : decode k_Sd_init 41 = .ok (.new 18, 3) := by decide +kernel
theorem d_Sd_init_44 : decode k_Sd_init 44 = .ok (.dup, 1) := by decide +kernel
theorem d_Sd_init_45 : decode k_Sd_init 45 = .ok (.bipush 80, 2) := by decide +kernel
theorem d_Sd_init_47 : decode k_Sd_init 47 = .ok (.invokespecial 20, 3) := by decide +kernel
theorem d_Sd_init_50 : decode k_Sd_init 50 = .ok (.invokespecial 23, 3) := by decide +kernel
theorem d_Sd_init_53 : decode k_Sd_init 53 = .ok (.putfield 30, 3) := by decide +kernel
theorem d_Sd_init_56 : decode k_Sd_init 56 = .ok (.aload_n 0, 1) := by decide +kernel
theorem d_Sd_init_57 : decode k_Sd_init 57 = .ok (.new 33, 3) := by decide +kernel
theorem d_Sd_init_60 : decode k_Sd_init 60 = .ok (.dup, 1) := by decide +kernel
theorem d_Sd_init_61 : decode k_Sd_init 61 = .ok (.aload_n 0, 1) := by decide +kernel
theorem d_Sd_init_62 : decode k_Sd_init 62 = .ok (.getfield 26, 3) := by decide +kernel
theorem d_Sd_init_65 : decode k_Sd_init 65 = .ok (.aload_n 0, 1) := by decide +kernel
theorem d_Sd_init_66 : decode k_Sd_init 66 = .ok (.getfield 10, 3) := by decide +kernel
theorem d_Sd_init_69 : decode k_Sd_init 69 = .ok (.invokespecial 35, 3) := by decide +kernel
theorem d_Sd_init_72 : decode k_Sd_init 72 = .ok (.putfield 38, 3) := by decide +kernel
theorem d_Sd_init_75 : decode k_Sd_init 75 = .ok (.aload_n 0, 1) := by decide +kernel
theorem d_Sd_init_76 : decode k_Sd_init 76 = .ok (.new 33, 3) := by decide +kernel
theorem d_Sd_init_79 : decode k_Sd_init 79 = .ok (.dup, 1) := by decide +kernel
theorem d_Sd_init_80 : decode k_Sd_init 80 = .ok (.aload_n 0, 1) := by decide +kernel
theorem d_Sd_init_81 : decode k_Sd_init 81 = .ok (.getfield 30, 3) := by decide +kernel
theorem d_Sd_init_84 : decode k_Sd_init 84 = .ok (.aload_n 0, 1) := by decide +kernel
theorem d_Sd_init_85 : decode k_Sd_init 85 = .ok (.getfield 10, 3) := by decide +kernel
theorem d_Sd_init_88 : decode k_Sd_init 88 = .ok (.invokespecial 35, 3) := by decide +kernel
theorem d_Sd_init_91 : decode k_Sd_init 91 = .ok (.putfield 42, 3) := by decide +kernel
theorem d_Sd_init_94 : decode k_Sd_init 94 = .ok (.aload_n 0, 1) := by decide +kernel
theorem d_Sd_init_95 : decode k_Sd_init 95 = .ok (.new 45, 3) := by decide +kernel
theorem d_Sd_init_98 : decode k_Sd_init 98 = .ok (.dup, 1) := by decide +kernel
theorem d_Sd_init_99 : decode k_Sd_init 99 = .ok (.aload_n 0, 1) := by decide +kernel
theorem d_Sd_init_100 : decode k_Sd_init 100 = .ok (.getfield 26, 3) := by decide +kernel
theorem d_Sd_init_103 : decode k_Sd_init 103 = .ok (.aload_n 0, 1) := by decide +kernel
theorem d_Sd_init_104 : decode k_Sd_init 104 = .ok (.getfield 10, 3) := by decide +kernel
theorem d_Sd_init_107 : decode k_Sd_init 107 = .ok (.invokespecial 47, 3) := by decide +kernel
theorem d_Sd_init_110 : decode k_Sd_init 110 = .ok (.putfield 48, 3) := by decide +kernel
theorem d_Sd_init_113 : decode k_Sd_init 113 = .ok (.aload_n 0, 1) := by decide +kernel
theorem d_Sd_init_114 : decode k_Sd_init 114 = .ok (.new 52, 3) := by decide +kernel
theorem d_Sd_init_117 : decode k_Sd_init 117 = .ok (.dup, 1) := by decide +kernel
theorem d_Sd_init_118 : decode k_Sd_init 118 = .ok (.aload_n 0, 1) := by decide +kernel
theorem d_Sd_init_119 : decode k_Sd_init 119 = .ok (.getfield 48, 3) := by decide +kernel
theorem d_Sd_init_122 : decode k_Sd_init 122 = .ok (.aload_n 0, 1) := by decide +kernel
theorem d_Sd_init_123 : decode k_Sd_init 123 = .ok (.getfield 30, 3) := by decide +kernel
theorem d_Sd_init_126 : decode k_Sd_init 126 = .ok (.invokespecial 54, 3) := by decide +kernel
theorem d_Sd_init_129 : decode k_Sd_init 129 = .ok (.putfield 57, 3) := by decide +kernel
theorem d_Sd_init_132 : decode k_Sd_init 132 = .ok (.aload_n 0, 1) := by decide +kernel
theorem d_Sd_init_133 : decode k_Sd_init 133 = .ok (.new 61, 3) := by decide +kernel
theorem d_Sd_init_136 : decode k_Sd_init 136 = .ok (.dup, 1) := by decide +kernel
theorem d_Sd_init_137 : decode k_Sd_init 137 = .ok (.aload_n 0, 1) := by decide +kernel
theorem d_Sd_init_138 : decode k_Sd_init 138 = .ok (.getfield 57, 3) := by decide +kernel
theorem d_Sd_init_141 : decode k_Sd_init 141 = .ok (.invokespecial 63, 3) := by decide +kernel
theorem d_Sd_init_144 : decode k_Sd_init 144 = .ok (.putfield 66, 3) := by decide +kernel
theorem d_Sd_init_147 : decode k_Sd_init 147 = .ok (.aload_n 0, 1) := by decide +kernel
theorem d_Sd_init_148 : decode k_Sd_init 148 = .ok (.new 70, 3) := by decide +kernel
theorem d_Sd_init_151 : decode k_Sd_init 151 = .ok (.dup, 1) := by decide +kernel
theorem d_Sd_init_152 : decode k_Sd_init 152 = .ok (.aload_n 0, 1) := by decide +kernel
theorem d_Sd_init_153 : decode k_Sd_init 153 = .ok (.getfield 57, 3) := by decide +kernel
theorem d_Sd_init_156 : decode k_Sd_init 156 = .ok (.invokespecial 72, 3) := by decide +kernel
theorem d_Sd_init_159 : decode k_Sd_init 159 = .ok (.putfield 73, 3) := by decide +kernel
theorem d_Sd_init_162 : decode k_Sd_init 162 = .ok (.return_, 1) := by decide +kernel
theorem gw32 : (Jvm.Cond.methodLink "SchemaDesk" (1 : Nat) ({ cls := "java/lang/Object", name := "<init>", desc := "()V" } : Jvm.MethodName)) ∈ GW := gw_t1 (List.mem_of_getElem? (i := 32) rfl) rfl
theorem gw35 : (Jvm.Cond.classLink "SchemaDesk" (7 : Nat) "SchemaDesk$WordBook") ∈ GW := gw_t1 (List.mem_of_getElem? (i := 35) rfl) rfl
theorem gw36 : (Jvm.Cond.instantiable "SchemaDesk$WordBook" (2 : Nat)) ∈ GW := gw_t1 (List.mem_of_getElem? (i := 36) rfl) rfl
theorem gw39 : (Jvm.Cond.code ({ cls := "SchemaDesk$WordBook", name := "<init>", desc := "()V" } : Jvm.MethodName) prog_10_method_1_code (3 : Nat) (Option.none : Option Jvm.ClassFile.FieldType)) ∈ GW := gw_t1 (List.mem_of_getElem? (i := 39) rfl) rfl
theorem gw37 : (Jvm.Cond.methodLink "SchemaDesk" (9 : Nat) ({ cls := "SchemaDesk$WordBook", name := "<init>", desc := "()V" } : Jvm.MethodName)) ∈ GW := gw_t1 (List.mem_of_getElem? (i := 37) rfl) rfl
theorem gw38 : (Jvm.Cond.instanceMethod ({ cls := "SchemaDesk$WordBook", name := "<init>", desc := "()V" } : Jvm.MethodName)) ∈ GW := gw_t1 (List.mem_of_getElem? (i := 38) rfl) rfl
theorem gw97 : (Jvm.Cond.classLink "SchemaDesk" (16 : Nat) "SchemaDesk$Tree") ∈ GW := gw_t1 (List.mem_of_getElem? (i := 97) rfl) rfl
theorem gw98 : (Jvm.Cond.instantiable "SchemaDesk$Tree" (12 : Nat)) ∈ GW := gw_t1 (List.mem_of_getElem? (i := 98) rfl) rfl
theorem gw99 : (Jvm.Cond.classLink "SchemaDesk" (18 : Nat) "SchemaDesk$Text") ∈ GW := gw_t1 (List.mem_of_getElem? (i := 99) rfl) rfl
theorem gw100 : (Jvm.Cond.instantiable "SchemaDesk$Text" (2 : Nat)) ∈ GW := gw_t1 (List.mem_of_getElem? (i := 100) rfl) rfl
theorem gw103 : (Jvm.Cond.code ({ cls := "SchemaDesk$Text", name := "<init>", desc := "(I)V" } : Jvm.MethodName) prog_7_method_1_code (2 : Nat) (Option.none : Option Jvm.ClassFile.FieldType)) ∈ GW := gw_t1 (List.mem_of_getElem? (i := 103) rfl) rfl
theorem gw101 : (Jvm.Cond.methodLink "SchemaDesk" (20 : Nat) ({ cls := "SchemaDesk$Text", name := "<init>", desc := "(I)V" } : Jvm.MethodName)) ∈ GW := gw_t1 (List.mem_of_getElem? (i := 101) rfl) rfl
theorem gw102 : (Jvm.Cond.instanceMethod ({ cls := "SchemaDesk$Text", name := "<init>", desc := "(I)V" } : Jvm.MethodName)) ∈ GW := gw_t1 (List.mem_of_getElem? (i := 102) rfl) rfl
theorem gw123 : (Jvm.Cond.code ({ cls := "SchemaDesk$Tree", name := "<init>", desc := "(LSchemaDesk$Text;)V" } : Jvm.MethodName) prog_8_method_1_code (3 : Nat) (Option.none : Option Jvm.ClassFile.FieldType)) ∈ GW := gw_t1 (List.mem_of_getElem? (i := 123) rfl) rfl
theorem gw121 : (Jvm.Cond.methodLink "SchemaDesk" (23 : Nat) ({ cls := "SchemaDesk$Tree", name := "<init>", desc := "(LSchemaDesk$Text;)V" } : Jvm.MethodName)) ∈ GW := gw_t1 (List.mem_of_getElem? (i := 121) rfl) rfl
theorem gw122 : (Jvm.Cond.instanceMethod ({ cls := "SchemaDesk$Tree", name := "<init>", desc := "(LSchemaDesk$Text;)V" } : Jvm.MethodName)) ∈ GW := gw_t1 (List.mem_of_getElem? (i := 122) rfl) rfl
theorem gw202 : (Jvm.Cond.classLink "SchemaDesk" (33 : Nat) "SchemaDesk$Reader") ∈ GW := gw_t1 (List.mem_of_getElem? (i := 202) rfl) rfl
theorem gw203 : (Jvm.Cond.instantiable "SchemaDesk$Reader" (5 : Nat)) ∈ GW := gw_t1 (List.mem_of_getElem? (i := 203) rfl) rfl
theorem gw206 : (Jvm.Cond.code ({ cls := "SchemaDesk$Reader", name := "<init>", desc := "(LSchemaDesk$Tree;LSchemaDesk$WordBook;)V" } : Jvm.MethodName) prog_5_method_1_code (3 : Nat) (Option.none : Option Jvm.ClassFile.FieldType)) ∈ GW := gw_t1 (List.mem_of_getElem? (i := 206) rfl) rfl
theorem gw204 : (Jvm.Cond.methodLink "SchemaDesk" (35 : Nat) ({ cls := "SchemaDesk$Reader", name := "<init>", desc := "(LSchemaDesk$Tree;LSchemaDesk$WordBook;)V" } : Jvm.MethodName)) ∈ GW := gw_t1 (List.mem_of_getElem? (i := 204) rfl) rfl
theorem gw205 : (Jvm.Cond.instanceMethod ({ cls := "SchemaDesk$Reader", name := "<init>", desc := "(LSchemaDesk$Tree;LSchemaDesk$WordBook;)V" } : Jvm.MethodName)) ∈ GW := gw_t1 (List.mem_of_getElem? (i := 205) rfl) rfl
theorem gw226 : (Jvm.Cond.classLink "SchemaDesk" (45 : Nat) "SchemaDesk$Plan") ∈ GW := gw_t1 (List.mem_of_getElem? (i := 226) rfl) rfl
theorem gw227 : (Jvm.Cond.instantiable "SchemaDesk$Plan" (10 : Nat)) ∈ GW := gw_t1 (List.mem_of_getElem? (i := 227) rfl) rfl
theorem gw230 : (Jvm.Cond.code ({ cls := "SchemaDesk$Plan", name := "<init>", desc := "(LSchemaDesk$Tree;LSchemaDesk$WordBook;)V" } : Jvm.MethodName) prog_3_method_1_code (3 : Nat) (Option.none : Option Jvm.ClassFile.FieldType)) ∈ GW := gw_t1 (List.mem_of_getElem? (i := 230) rfl) rfl
theorem gw228 : (Jvm.Cond.methodLink "SchemaDesk" (47 : Nat) ({ cls := "SchemaDesk$Plan", name := "<init>", desc := "(LSchemaDesk$Tree;LSchemaDesk$WordBook;)V" } : Jvm.MethodName)) ∈ GW := gw_t1 (List.mem_of_getElem? (i := 228) rfl) rfl
theorem gw229 : (Jvm.Cond.instanceMethod ({ cls := "SchemaDesk$Plan", name := "<init>", desc := "(LSchemaDesk$Tree;LSchemaDesk$WordBook;)V" } : Jvm.MethodName)) ∈ GW := gw_t1 (List.mem_of_getElem? (i := 229) rfl) rfl
theorem gw282 : (Jvm.Cond.classLink "SchemaDesk" (52 : Nat) "SchemaDesk$Verdicts") ∈ GW := gw_t2 (List.mem_of_getElem? (i := 42) rfl) rfl
theorem gw283 : (Jvm.Cond.instantiable "SchemaDesk$Verdicts" (6 : Nat)) ∈ GW := gw_t2 (List.mem_of_getElem? (i := 43) rfl) rfl
theorem gw286 : (Jvm.Cond.code ({ cls := "SchemaDesk$Verdicts", name := "<init>", desc := "(LSchemaDesk$Plan;LSchemaDesk$Tree;)V" } : Jvm.MethodName) prog_9_method_1_code (3 : Nat) (Option.none : Option Jvm.ClassFile.FieldType)) ∈ GW := gw_t2 (List.mem_of_getElem? (i := 46) rfl) rfl
theorem gw284 : (Jvm.Cond.methodLink "SchemaDesk" (54 : Nat) ({ cls := "SchemaDesk$Verdicts", name := "<init>", desc := "(LSchemaDesk$Plan;LSchemaDesk$Tree;)V" } : Jvm.MethodName)) ∈ GW := gw_t2 (List.mem_of_getElem? (i := 44) rfl) rfl
theorem gw285 : (Jvm.Cond.instanceMethod ({ cls := "SchemaDesk$Verdicts", name := "<init>", desc := "(LSchemaDesk$Plan;LSchemaDesk$Tree;)V" } : Jvm.MethodName)) ∈ GW := gw_t2 (List.mem_of_getElem? (i := 45) rfl) rfl
theorem gw325 : (Jvm.Cond.classLink "SchemaDesk" (61 : Nat) "SchemaDesk$Report") ∈ GW := gw_t2 (List.mem_of_getElem? (i := 85) rfl) rfl
theorem gw326 : (Jvm.Cond.instantiable "SchemaDesk$Report" (8 : Nat)) ∈ GW := gw_t2 (List.mem_of_getElem? (i := 86) rfl) rfl
theorem gw329 : (Jvm.Cond.code ({ cls := "SchemaDesk$Report", name := "<init>", desc := "(LSchemaDesk$Verdicts;)V" } : Jvm.MethodName) prog_6_method_1_code (2 : Nat) (Option.none : Option Jvm.ClassFile.FieldType)) ∈ GW := gw_t2 (List.mem_of_getElem? (i := 89) rfl) rfl
theorem gw327 : (Jvm.Cond.methodLink "SchemaDesk" (63 : Nat) ({ cls := "SchemaDesk$Report", name := "<init>", desc := "(LSchemaDesk$Verdicts;)V" } : Jvm.MethodName)) ∈ GW := gw_t2 (List.mem_of_getElem? (i := 87) rfl) rfl
theorem gw328 : (Jvm.Cond.instanceMethod ({ cls := "SchemaDesk$Report", name := "<init>", desc := "(LSchemaDesk$Verdicts;)V" } : Jvm.MethodName)) ∈ GW := gw_t2 (List.mem_of_getElem? (i := 88) rfl) rfl
theorem gw359 : (Jvm.Cond.classLink "SchemaDesk" (70 : Nat) "SchemaDesk$Proposals") ∈ GW := gw_t2 (List.mem_of_getElem? (i := 119) rfl) rfl
theorem gw360 : (Jvm.Cond.instantiable "SchemaDesk$Proposals" (10 : Nat)) ∈ GW := gw_t2 (List.mem_of_getElem? (i := 120) rfl) rfl
theorem gw363 : (Jvm.Cond.code ({ cls := "SchemaDesk$Proposals", name := "<init>", desc := "(LSchemaDesk$Verdicts;)V" } : Jvm.MethodName) prog_4_method_1_code (2 : Nat) (Option.none : Option Jvm.ClassFile.FieldType)) ∈ GW := gw_t2 (List.mem_of_getElem? (i := 123) rfl) rfl
theorem gw361 : (Jvm.Cond.methodLink "SchemaDesk" (72 : Nat) ({ cls := "SchemaDesk$Proposals", name := "<init>", desc := "(LSchemaDesk$Verdicts;)V" } : Jvm.MethodName)) ∈ GW := gw_t2 (List.mem_of_getElem? (i := 121) rfl) rfl
theorem gw362 : (Jvm.Cond.instanceMethod ({ cls := "SchemaDesk$Proposals", name := "<init>", desc := "(LSchemaDesk$Verdicts;)V" } : Jvm.MethodName)) ∈ GW := gw_t2 (List.mem_of_getElem? (i := 122) rfl) rfl
