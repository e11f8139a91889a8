theorem gw427 : (Jvm.Cond.methodLink "SchemaDeskLaw" (70 : Nat) ({ cls := "SchemaDesk", name := "type", desc := "(IC)Z" } : Jvm.MethodName)) ∈ GW := gw_t2 (List.mem_of_getElem? (i := 187) rfl) rfl
theorem gw428 : (Jvm.Cond.instanceMethod ({ cls := "SchemaDesk", name := "type", desc := "(IC)Z" } : Jvm.MethodName)) ∈ GW := gw_t2 (List.mem_of_getElem? (i := 188) rfl) rfl
theorem gw429 : (Jvm.Cond.selects "SchemaDesk" ({ cls := "SchemaDesk", name := "type", desc := "(IC)Z" } : Jvm.MethodName) ({ cls := "SchemaDesk", name := "type", desc := "(IC)Z" } : Jvm.MethodName)) ∈ GW := gw_t2 (List.mem_of_getElem? (i := 189) rfl) rfl
theorem gw430 : (Jvm.Cond.code ({ cls := "SchemaDesk", name := "type", desc := "(IC)Z" } : Jvm.MethodName) prog_1_method_2_code (4 : Nat) (Option.some Jvm.ClassFile.FieldType.boolean)) ∈ GW := gw_t2 (List.mem_of_getElem? (i := 190) rfl) rfl
theorem gw1207 : (Jvm.Cond.methodLink "SchemaDeskLaw" (74 : Nat) ({ cls := "SchemaDeskModel", name := "type", desc := "(IC)Z" } : Jvm.MethodName)) ∈ GW := gw_t6 (List.mem_of_getElem? (i := 7) rfl) rfl
theorem gw1208 : (Jvm.Cond.instanceMethod ({ cls := "SchemaDeskModel", name := "type", desc := "(IC)Z" } : Jvm.MethodName)) ∈ GW := gw_t6 (List.mem_of_getElem? (i := 8) rfl) rfl
theorem gw1209 : (Jvm.Cond.selects "SchemaDeskModel" ({ cls := "SchemaDeskModel", name := "type", desc := "(IC)Z" } : Jvm.MethodName) ({ cls := "SchemaDeskModel", name := "type", desc := "(IC)Z" } : Jvm.MethodName)) ∈ GW := gw_t6 (List.mem_of_getElem? (i := 9) rfl) rfl
theorem gw1210 : (Jvm.Cond.code ({ cls := "SchemaDeskModel", name := "type", desc := "(IC)Z" } : Jvm.MethodName) prog_12_method_7_code (3 : Nat) (Option.some Jvm.ClassFile.FieldType.boolean)) ∈ GW := gw_t6 (List.mem_of_getElem? (i := 10) rfl) rfl
theorem gw456 : (Jvm.Cond.methodLink "SchemaDeskLaw" (75 : Nat) ({ cls := "SchemaDesk", name := "word", desc := "(II)Z" } : Jvm.MethodName)) ∈ GW := gw_t2 (List.mem_of_getElem? (i := 216) rfl) rfl
theorem gw457 : (Jvm.Cond.instanceMethod ({ cls := "SchemaDesk", name := "word", desc := "(II)Z" } : Jvm.MethodName)) ∈ GW := gw_t2 (List.mem_of_getElem? (i := 217) rfl) rfl
theorem gw458 : (Jvm.Cond.selects "SchemaDesk" ({ cls := "SchemaDesk", name := "word", desc := "(II)Z" } : Jvm.MethodName) ({ cls := "SchemaDesk", name := "word", desc := "(II)Z" } : Jvm.MethodName)) ∈ GW := gw_t2 (List.mem_of_getElem? (i := 218) rfl) rfl
theorem gw459 : (Jvm.Cond.code ({ cls := "SchemaDesk", name := "word", desc := "(II)Z" } : Jvm.MethodName) prog_1_method_3_code (7 : Nat) (Option.some Jvm.ClassFile.FieldType.boolean)) ∈ GW := gw_t2 (List.mem_of_getElem? (i := 219) rfl) rfl
theorem gw1224 : (Jvm.Cond.methodLink "SchemaDeskLaw" (78 : Nat) ({ cls := "SchemaDeskModel", name := "word", desc := "(II)Z" } : Jvm.MethodName)) ∈ GW := gw_t6 (List.mem_of_getElem? (i := 24) rfl) rfl
theorem gw1225 : (Jvm.Cond.instanceMethod ({ cls := "SchemaDeskModel", name := "word", desc := "(II)Z" } : Jvm.MethodName)) ∈ GW := gw_t6 (List.mem_of_getElem? (i := 25) rfl) rfl
theorem gw1226 : (Jvm.Cond.selects "SchemaDeskModel" ({ cls := "SchemaDeskModel", name := "word", desc := "(II)Z" } : Jvm.MethodName) ({ cls := "SchemaDeskModel", name := "word", desc := "(II)Z" } : Jvm.MethodName)) ∈ GW := gw_t6 (List.mem_of_getElem? (i := 26) rfl) rfl
theorem gw1227 : (Jvm.Cond.code ({ cls := "SchemaDeskModel", name := "word", desc := "(II)Z" } : Jvm.MethodName) prog_12_method_10_code (8 : Nat) (Option.some Jvm.ClassFile.FieldType.boolean)) ∈ GW := gw_t6 (List.mem_of_getElem? (i := 27) rfl) rfl
theorem gw468 : (Jvm.Cond.methodLink "SchemaDeskLaw" (79 : Nat) ({ cls := "SchemaDeskLaw", name := "insert", desc := "(LSchemaDesk;IIC)I" } : Jvm.MethodName)) ∈ GW := gw_t2 (List.mem_of_getElem? (i := 228) rfl) rfl
theorem gw469 : (Jvm.Cond.static ({ cls := "SchemaDeskLaw", name := "insert", desc := "(LSchemaDesk;IIC)I" } : Jvm.MethodName)) ∈ GW := gw_t2 (List.mem_of_getElem? (i := 229) rfl) rfl
theorem gw0 : (Jvm.Cond.initialized "SchemaDeskLaw") ∈ GW := gw_t1 (List.mem_of_getElem? (i := 0) rfl) rfl
theorem gw470 : (Jvm.Cond.codeWith ({ cls := "SchemaDeskLaw", name := "insert", desc := "(LSchemaDesk;IIC)I" } : Jvm.MethodName) method_3_code (5 : Nat) (Option.some Jvm.ClassFile.FieldType.int) [((0 : Nat), (7 : Nat), (10 : Nat), (13 : Nat)), ((0 : Nat), (7 : Nat), (14 : Nat), (15 : Nat)), ((0 : Nat), (7 : Nat), (18 : Nat), (17 : Nat))]) ∈ GW := gw_t2 (List.mem_of_getElem? (i := 230) rfl) rfl
theorem gw1232 : (Jvm.Cond.methodLink "SchemaDeskLaw" (84 : Nat) ({ cls := "SchemaDeskModel", name := "insert", desc := "(IIC)V" } : Jvm.MethodName)) ∈ GW := gw_t6 (List.mem_of_getElem? (i := 32) rfl) rfl
theorem gw1233 : (Jvm.Cond.instanceMethod ({ cls := "SchemaDeskModel", name := "insert", desc := "(IIC)V" } : Jvm.MethodName)) ∈ GW := gw_t6 (List.mem_of_getElem? (i := 33) rfl) rfl
theorem gw1234 : (Jvm.Cond.selects "SchemaDeskModel" ({ cls := "SchemaDeskModel", name := "insert", desc := "(IIC)V" } : Jvm.MethodName) ({ cls := "SchemaDeskModel", name := "insert", desc := "(IIC)V" } : Jvm.MethodName)) ∈ GW := gw_t6 (List.mem_of_getElem? (i := 34) rfl) rfl
theorem gw1235 : (Jvm.Cond.code ({ cls := "SchemaDeskModel", name := "insert", desc := "(IIC)V" } : Jvm.MethodName) prog_12_method_11_code (6 : Nat) (Option.none : Option Jvm.ClassFile.FieldType)) ∈ GW := gw_t6 (List.mem_of_getElem? (i := 35) rfl) rfl
theorem gw1203 : (Jvm.Cond.methodLink "SchemaDeskLaw" (85 : Nat) ({ cls := "SchemaDeskModel", name := "thrown", desc := "()I" } : Jvm.MethodName)) ∈ GW := gw_t6 (List.mem_of_getElem? (i := 3) rfl) rfl
theorem gw1204 : (Jvm.Cond.instanceMethod ({ cls := "SchemaDeskModel", name := "thrown", desc := "()I" } : Jvm.MethodName)) ∈ GW := gw_t6 (List.mem_of_getElem? (i := 4) rfl) rfl
theorem gw1205 : (Jvm.Cond.selects "SchemaDeskModel" ({ cls := "SchemaDeskModel", name := "thrown", desc := "()I" } : Jvm.MethodName) ({ cls := "SchemaDeskModel", name := "thrown", desc := "()I" } : Jvm.MethodName)) ∈ GW := gw_t6 (List.mem_of_getElem? (i := 5) rfl) rfl
theorem gw1206 : (Jvm.Cond.code ({ cls := "SchemaDeskModel", name := "thrown", desc := "()I" } : Jvm.MethodName) prog_12_method_2_code (1 : Nat) (Option.some Jvm.ClassFile.FieldType.int)) ∈ GW := gw_t6 (List.mem_of_getElem? (i := 6) rfl) rfl
theorem gw573 : (Jvm.Cond.methodLink "SchemaDeskLaw" (88 : Nat) ({ cls := "SchemaDeskLaw", name := "remove", desc := "(LSchemaDesk;III)I" } : Jvm.MethodName)) ∈ GW := gw_t3 (List.mem_of_getElem? (i := 93) rfl) rfl
theorem gw574 : (Jvm.Cond.static ({ cls := "SchemaDeskLaw", name := "remove", desc := "(LSchemaDesk;III)I" } : Jvm.MethodName)) ∈ GW := gw_t3 (List.mem_of_getElem? (i := 94) rfl) rfl
theorem gw575 : (Jvm.Cond.codeWith ({ cls := "SchemaDeskLaw", name := "remove", desc := "(LSchemaDesk;III)I" } : Jvm.MethodName) method_4_code (5 : Nat) (Option.some Jvm.ClassFile.FieldType.int) [((0 : Nat), (7 : Nat), (10 : Nat), (13 : Nat)), ((0 : Nat), (7 : Nat), (14 : Nat), (15 : Nat))]) ∈ GW := gw_t3 (List.mem_of_getElem? (i := 95) rfl) rfl
theorem gw1236 : (Jvm.Cond.methodLink "SchemaDeskLaw" (91 : Nat) ({ cls := "SchemaDeskModel", name := "remove", desc := "(III)V" } : Jvm.MethodName)) ∈ GW := gw_t6 (List.mem_of_getElem? (i := 36) rfl) rfl
theorem gw1237 : (Jvm.Cond.instanceMethod ({ cls := "SchemaDeskModel", name := "remove", desc := "(III)V" } : Jvm.MethodName)) ∈ GW := gw_t6 (List.mem_of_getElem? (i := 37) rfl) rfl
theorem gw1238 : (Jvm.Cond.selects "SchemaDeskModel" ({ cls := "SchemaDeskModel", name := "remove", desc := "(III)V" } : Jvm.MethodName) ({ cls := "SchemaDeskModel", name := "remove", desc := "(III)V" } : Jvm.MethodName)) ∈ GW := gw_t6 (List.mem_of_getElem? (i := 38) rfl) rfl
theorem gw1239 : (Jvm.Cond.code ({ cls := "SchemaDeskModel", name := "remove", desc := "(III)V" } : Jvm.MethodName) prog_12_method_12_code (6 : Nat) (Option.none : Option Jvm.ClassFile.FieldType)) ∈ GW := gw_t6 (List.mem_of_getElem? (i := 39) rfl) rfl
theorem gw584 : (Jvm.Cond.methodLink "SchemaDeskLaw" (92 : Nat) ({ cls := "SchemaDeskLaw", name := "length", desc := "(LSchemaDesk;I[J)I" } : Jvm.MethodName)) ∈ GW := gw_t3 (List.mem_of_getElem? (i := 104) rfl) rfl
theorem gw585 : (Jvm.Cond.static ({ cls := "SchemaDeskLaw", name := "length", desc := "(LSchemaDesk;I[J)I" } : Jvm.MethodName)) ∈ GW := gw_t3 (List.mem_of_getElem? (i := 105) rfl) rfl
theorem gw586 : (Jvm.Cond.codeWith ({ cls := "SchemaDeskLaw", name := "length", desc := "(LSchemaDesk;I[J)I" } : Jvm.MethodName) method_5_code (4 : Nat) (Option.some Jvm.ClassFile.FieldType.int) [((0 : Nat), (9 : Nat), (12 : Nat), (13 : Nat))]) ∈ GW := gw_t3 (List.mem_of_getElem? (i := 106) rfl) rfl
theorem gw1240 : (Jvm.Cond.methodLink "SchemaDeskLaw" (95 : Nat) ({ cls := "SchemaDeskModel", name := "length", desc := "(I)I" } : Jvm.MethodName)) ∈ GW := gw_t6 (List.mem_of_getElem? (i := 40) rfl) rfl
theorem gw1241 : (Jvm.Cond.instanceMethod ({ cls := "SchemaDeskModel", name := "length", desc := "(I)I" } : Jvm.MethodName)) ∈ GW := gw_t6 (List.mem_of_getElem? (i := 41) rfl) rfl
theorem gw1242 : (Jvm.Cond.selects "SchemaDeskModel" ({ cls := "SchemaDeskModel", name := "length", desc := "(I)I" } : Jvm.MethodName) ({ cls := "SchemaDeskModel", name := "length", desc := "(I)I" } : Jvm.MethodName)) ∈ GW := gw_t6 (List.mem_of_getElem? (i := 42) rfl) rfl
theorem gw1243 : (Jvm.Cond.code ({ cls := "SchemaDeskModel", name := "length", desc := "(I)I" } : Jvm.MethodName) prog_12_method_13_code (2 : Nat) (Option.some Jvm.ClassFile.FieldType.int)) ∈ GW := gw_t6 (List.mem_of_getElem? (i := 43) rfl) rfl
theorem gw591 : (Jvm.Cond.methodLink "SchemaDeskLaw" (96 : Nat) ({ cls := "SchemaDeskLaw", name := "letter", desc := "(LSchemaDesk;II[J)I" } : Jvm.MethodName)) ∈ GW := gw_t3 (List.mem_of_getElem? (i := 111) rfl) rfl
theorem gw592 : (Jvm.Cond.static ({ cls := "SchemaDeskLaw", name := "letter", desc := "(LSchemaDesk;II[J)I" } : Jvm.MethodName)) ∈ GW := gw_t3 (List.mem_of_getElem? (i := 112) rfl) rfl
theorem gw593 : (Jvm.Cond.codeWith ({ cls := "SchemaDeskLaw", name := "letter", desc := "(LSchemaDesk;II[J)I" } : Jvm.MethodName) method_6_code (5 : Nat) (Option.some Jvm.ClassFile.FieldType.int) [((0 : Nat), (10 : Nat), (13 : Nat), (13 : Nat)), ((0 : Nat), (10 : Nat), (17 : Nat), (15 : Nat))]) ∈ GW := gw_t3 (List.mem_of_getElem? (i := 113) rfl) rfl
theorem gw1244 : (Jvm.Cond.methodLink "SchemaDeskLaw" (99 : Nat) ({ cls := "SchemaDeskModel", name := "letter", desc := "(II)C" } : Jvm.MethodName)) ∈ GW := gw_t6 (List.mem_of_getElem? (i := 44) rfl) rfl
theorem gw1245 : (Jvm.Cond.instanceMethod ({ cls := "SchemaDeskModel", name := "letter", desc := "(II)C" } : Jvm.MethodName)) ∈ GW := gw_t6 (List.mem_of_getElem? (i := 45) rfl) rfl
theorem gw1246 : (Jvm.Cond.selects "SchemaDeskModel" ({ cls := "SchemaDeskModel", name := "letter", desc := "(II)C" } : Jvm.MethodName) ({ cls := "SchemaDeskModel", name := "letter", desc := "(II)C" } : Jvm.MethodName)) ∈ GW := gw_t6 (List.mem_of_getElem? (i := 46) rfl) rfl
theorem gw1247 : (Jvm.Cond.code ({ cls := "SchemaDeskModel", name := "letter", desc := "(II)C" } : Jvm.MethodName) prog_12_method_14_code (3 : Nat) (Option.some Jvm.ClassFile.FieldType.char)) ∈ GW := gw_t6 (List.mem_of_getElem? (i := 47) rfl) rfl
theorem gw598 : (Jvm.Cond.methodLink "SchemaDeskLaw" (100 : Nat) ({ cls := "SchemaDeskLaw", name := "nodes", desc := "(LSchemaDesk;I[J)I" } : Jvm.MethodName)) ∈ GW := gw_t3 (List.mem_of_getElem? (i := 118) rfl) rfl
theorem gw599 : (Jvm.Cond.static ({ cls := "SchemaDeskLaw", name := "nodes", desc := "(LSchemaDesk;I[J)I" } : Jvm.MethodName)) ∈ GW := gw_t3 (List.mem_of_getElem? (i := 119) rfl) rfl
theorem gw600 : (Jvm.Cond.codeWith ({ cls := "SchemaDeskLaw", name := "nodes", desc := "(LSchemaDesk;I[J)I" } : Jvm.MethodName) method_7_code (4 : Nat) (Option.some Jvm.ClassFile.FieldType.int) [((0 : Nat), (9 : Nat), (12 : Nat), (13 : Nat))]) ∈ GW := gw_t3 (List.mem_of_getElem? (i := 120) rfl) rfl
theorem gw1248 : (Jvm.Cond.methodLink "SchemaDeskLaw" (102 : Nat) ({ cls := "SchemaDeskModel", name := "nodes", desc := "(I)I" } : Jvm.MethodName)) ∈ GW := gw_t6 (List.mem_of_getElem? (i := 48) rfl) rfl
theorem gw1249 : (Jvm.Cond.instanceMethod ({ cls := "SchemaDeskModel", name := "nodes", desc := "(I)I" } : Jvm.MethodName)) ∈ GW := gw_t6 (List.mem_of_getElem? (i := 49) rfl) rfl
theorem gw1250 : (Jvm.Cond.selects "SchemaDeskModel" ({ cls := "SchemaDeskModel", name := "nodes", desc := "(I)I" } : Jvm.MethodName) ({ cls := "SchemaDeskModel", name := "nodes", desc := "(I)I" } : Jvm.MethodName)) ∈ GW := gw_t6 (List.mem_of_getElem? (i := 50) rfl) rfl
theorem gw1251 : (Jvm.Cond.code ({ cls := "SchemaDeskModel", name := "nodes", desc := "(I)I" } : Jvm.MethodName) prog_12_method_32_code (2 : Nat) (Option.some Jvm.ClassFile.FieldType.int)) ∈ GW := gw_t6 (List.mem_of_getElem? (i := 51) rfl) rfl
theorem gw693 : (Jvm.Cond.methodLink "SchemaDeskLaw" (103 : Nat) ({ cls := "SchemaDeskLaw", name := "node", desc := "(LSchemaDesk;III[J)I" } : Jvm.MethodName)) ∈ GW := gw_t3 (List.mem_of_getElem? (i := 213) rfl) rfl
theorem gw694 : (Jvm.Cond.static ({ cls := "SchemaDeskLaw", name := "node", desc := "(LSchemaDesk;III[J)I" } : Jvm.MethodName)) ∈ GW := gw_t3 (List.mem_of_getElem? (i := 214) rfl) rfl
theorem gw695 : (Jvm.Cond.codeWith ({ cls := "SchemaDeskLaw", name := "node", desc := "(LSchemaDesk;III[J)I" } : Jvm.MethodName) method_8_code (6 : Nat) (Option.some Jvm.ClassFile.FieldType.int) [((0 : Nat), (12 : Nat), (15 : Nat), (13 : Nat)), ((0 : Nat), (12 : Nat), (19 : Nat), (38 : Nat))]) ∈ GW := gw_t3 (List.mem_of_getElem? (i := 215) rfl) rfl
theorem gw1321 : (Jvm.Cond.methodLink "SchemaDeskLaw" (106 : Nat) ({ cls := "SchemaDeskModel", name := "node", desc := "(III)I" } : Jvm.MethodName)) ∈ GW := gw_t6 (List.mem_of_getElem? (i := 121) rfl) rfl
theorem gw1322 : (Jvm.Cond.instanceMethod ({ cls := "SchemaDeskModel", name := "node", desc := "(III)I" } : Jvm.MethodName)) ∈ GW := gw_t6 (List.mem_of_getElem? (i := 122) rfl) rfl
theorem gw1323 : (Jvm.Cond.selects "SchemaDeskModel" ({ cls := "SchemaDeskModel", name := "node", desc := "(III)I" } : Jvm.MethodName) ({ cls := "SchemaDeskModel", name := "node", desc := "(III)I" } : Jvm.MethodName)) ∈ GW := gw_t6 (List.mem_of_getElem? (i := 123) rfl) rfl
theorem gw1324 : (Jvm.Cond.code ({ cls := "SchemaDeskModel", name := "node", desc := "(III)I" } : Jvm.MethodName) prog_12_method_33_code (5 : Nat) (Option.some Jvm.ClassFile.FieldType.int)) ∈ GW := gw_t6 (List.mem_of_getElem? (i := 124) rfl) rfl
theorem gw720 : (Jvm.Cond.methodLink "SchemaDeskLaw" (107 : Nat) ({ cls := "SchemaDeskLaw", name := "faults", desc := "(LSchemaDesk;I[J)I" } : Jvm.MethodName)) ∈ GW := gw_t4 (List.mem_of_getElem? (i := 0) rfl) rfl
theorem gw721 : (Jvm.Cond.static ({ cls := "SchemaDeskLaw", name := "faults", desc := "(LSchemaDesk;I[J)I" } : Jvm.MethodName)) ∈ GW := gw_t4 (List.mem_of_getElem? (i := 1) rfl) rfl
theorem gw722 : (Jvm.Cond.codeWith ({ cls := "SchemaDeskLaw", name := "faults", desc := "(LSchemaDesk;I[J)I" } : Jvm.MethodName) method_9_code (4 : Nat) (Option.some Jvm.ClassFile.FieldType.int) [((0 : Nat), (9 : Nat), (12 : Nat), (13 : Nat))]) ∈ GW := gw_t4 (List.mem_of_getElem? (i := 2) rfl) rfl
theorem gw1329 : (Jvm.Cond.methodLink "SchemaDeskLaw" (109 : Nat) ({ cls := "SchemaDeskModel", name := "faults", desc := "(I)I" } : Jvm.MethodName)) ∈ GW := gw_t6 (List.mem_of_getElem? (i := 129) rfl) rfl
theorem gw1330 : (Jvm.Cond.instanceMethod ({ cls := "SchemaDeskModel", name := "faults", desc := "(I)I" } : Jvm.MethodName)) ∈ GW := gw_t6 (List.mem_of_getElem? (i := 130) rfl) rfl
theorem gw1331 : (Jvm.Cond.selects "SchemaDeskModel" ({ cls := "SchemaDeskModel", name := "faults", desc := "(I)I" } : Jvm.MethodName) ({ cls := "SchemaDeskModel", name := "faults", desc := "(I)I" } : Jvm.MethodName)) ∈ GW := gw_t6 (List.mem_of_getElem? (i := 131) rfl) rfl
theorem gw1332 : (Jvm.Cond.code ({ cls := "SchemaDeskModel", name := "faults", desc := "(I)I" } : Jvm.MethodName) prog_12_method_34_code (2 : Nat) (Option.some Jvm.ClassFile.FieldType.int)) ∈ GW := gw_t6 (List.mem_of_getElem? (i := 132) rfl) rfl
theorem gw727 : (Jvm.Cond.methodLink "SchemaDeskLaw" (110 : Nat) ({ cls := "SchemaDeskLaw", name := "fault", desc := "(LSchemaDesk;II[J)I" } : Jvm.MethodName)) ∈ GW := gw_t4 (List.mem_of_getElem? (i := 7) rfl) rfl
theorem gw728 : (Jvm.Cond.static ({ cls := "SchemaDeskLaw", name := "fault", desc := "(LSchemaDesk;II[J)I" } : Jvm.MethodName)) ∈ GW := gw_t4 (List.mem_of_getElem? (i := 8) rfl) rfl
theorem gw729 : (Jvm.Cond.codeWith ({ cls := "SchemaDeskLaw", name := "fault", desc := "(LSchemaDesk;II[J)I" } : Jvm.MethodName) method_10_code (5 : Nat) (Option.some Jvm.ClassFile.FieldType.int) [((0 : Nat), (10 : Nat), (13 : Nat), (13 : Nat)), ((0 : Nat), (10 : Nat), (17 : Nat), (38 : Nat))]) ∈ GW := gw_t4 (List.mem_of_getElem? (i := 9) rfl) rfl
theorem gw1333 : (Jvm.Cond.methodLink "SchemaDeskLaw" (112 : Nat) ({ cls := "SchemaDeskModel", name := "fault", desc := "(II)I" } : Jvm.MethodName)) ∈ GW := gw_t6 (List.mem_of_getElem? (i := 133) rfl) rfl
theorem gw1334 : (Jvm.Cond.instanceMethod ({ cls := "SchemaDeskModel", name := "fault", desc := "(II)I" } : Jvm.MethodName)) ∈ GW := gw_t6 (List.mem_of_getElem? (i := 134) rfl) rfl
theorem gw1335 : (Jvm.Cond.selects "SchemaDeskModel" ({ cls := "SchemaDeskModel", name := "fault", desc := "(II)I" } : Jvm.MethodName) ({ cls := "SchemaDeskModel", name := "fault", desc := "(II)I" } : Jvm.MethodName)) ∈ GW := gw_t6 (List.mem_of_getElem? (i := 135) rfl) rfl
theorem gw1336 : (Jvm.Cond.code ({ cls := "SchemaDeskModel", name := "fault", desc := "(II)I" } : Jvm.MethodName) prog_12_method_35_code (3 : Nat) (Option.some Jvm.ClassFile.FieldType.int)) ∈ GW := gw_t6 (List.mem_of_getElem? (i := 136) rfl) rfl
theorem gw734 : (Jvm.Cond.methodLink "SchemaDeskLaw" (113 : Nat) ({ cls := "SchemaDeskLaw", name := "holds", desc := "(LSchemaDesk;II[J)I" } : Jvm.MethodName)) ∈ GW := gw_t4 (List.mem_of_getElem? (i := 14) rfl) rfl
theorem gw735 : (Jvm.Cond.static ({ cls := "SchemaDeskLaw", name := "holds", desc := "(LSchemaDesk;II[J)I" } : Jvm.MethodName)) ∈ GW := gw_t4 (List.mem_of_getElem? (i := 15) rfl) rfl
theorem gw736 : (Jvm.Cond.codeWith ({ cls := "SchemaDeskLaw", name := "holds", desc := "(LSchemaDesk;II[J)I" } : Jvm.MethodName) method_11_code (5 : Nat) (Option.some Jvm.ClassFile.FieldType.int) [((0 : Nat), (17 : Nat), (20 : Nat), (38 : Nat)), ((0 : Nat), (17 : Nat), (24 : Nat), (51 : Nat))]) ∈ GW := gw_t4 (List.mem_of_getElem? (i := 16) rfl) rfl
theorem gw1337 : (Jvm.Cond.methodLink "SchemaDeskLaw" (115 : Nat) ({ cls := "SchemaDeskModel", name := "holds", desc := "(II)Z" } : Jvm.MethodName)) ∈ GW := gw_t6 (List.mem_of_getElem? (i := 137) rfl) rfl
theorem gw1338 : (Jvm.Cond.instanceMethod ({ cls := "SchemaDeskModel", name := "holds", desc := "(II)Z" } : Jvm.MethodName)) ∈ GW := gw_t6 (List.mem_of_getElem? (i := 138) rfl) rfl
theorem gw1339 : (Jvm.Cond.selects "SchemaDeskModel" ({ cls := "SchemaDeskModel", name := "holds", desc := "(II)Z" } : Jvm.MethodName) ({ cls := "SchemaDeskModel", name := "holds", desc := "(II)Z" } : Jvm.MethodName)) ∈ GW := gw_t6 (List.mem_of_getElem? (i := 139) rfl) rfl
theorem gw1340 : (Jvm.Cond.code ({ cls := "SchemaDeskModel", name := "holds", desc := "(II)Z" } : Jvm.MethodName) prog_12_method_61_code (4 : Nat) (Option.some Jvm.ClassFile.FieldType.boolean)) ∈ GW := gw_t6 (List.mem_of_getElem? (i := 140) rfl) rfl
theorem gw891 : (Jvm.Cond.methodLink "SchemaDeskLaw" (116 : Nat) ({ cls := "SchemaDeskLaw", name := "judge", desc := "(LSchemaDesk;[J)I" } : Jvm.MethodName)) ∈ GW := gw_t4 (List.mem_of_getElem? (i := 171) rfl) rfl
theorem gw892 : (Jvm.Cond.static ({ cls := "SchemaDeskLaw", name := "judge", desc := "(LSchemaDesk;[J)I" } : Jvm.MethodName)) ∈ GW := gw_t4 (List.mem_of_getElem? (i := 172) rfl) rfl
theorem gw893 : (Jvm.Cond.codeWith ({ cls := "SchemaDeskLaw", name := "judge", desc := "(LSchemaDesk;[J)I" } : Jvm.MethodName) method_12_code (3 : Nat) (Option.some Jvm.ClassFile.FieldType.int) [((0 : Nat), (8 : Nat), (11 : Nat), (17 : Nat)), ((0 : Nat), (8 : Nat), (14 : Nat), (51 : Nat))]) ∈ GW := gw_t4 (List.mem_of_getElem? (i := 173) rfl) rfl
theorem gw1432 : (Jvm.Cond.methodLink "SchemaDeskLaw" (119 : Nat) ({ cls := "SchemaDeskModel", name := "judge", desc := "()I" } : Jvm.MethodName)) ∈ GW := gw_t6 (List.mem_of_getElem? (i := 232) rfl) rfl
theorem gw1433 : (Jvm.Cond.instanceMethod ({ cls := "SchemaDeskModel", name := "judge", desc := "()I" } : Jvm.MethodName)) ∈ GW := gw_t6 (List.mem_of_getElem? (i := 233) rfl) rfl
theorem gw1434 : (Jvm.Cond.selects "SchemaDeskModel" ({ cls := "SchemaDeskModel", name := "judge", desc := "()I" } : Jvm.MethodName) ({ cls := "SchemaDeskModel", name := "judge", desc := "()I" } : Jvm.MethodName)) ∈ GW := gw_t6 (List.mem_of_getElem? (i := 234) rfl) rfl
theorem gw1435 : (Jvm.Cond.code ({ cls := "SchemaDeskModel", name := "judge", desc := "()I" } : Jvm.MethodName) prog_12_method_66_code (4 : Nat) (Option.some Jvm.ClassFile.FieldType.int)) ∈ GW := gw_t6 (List.mem_of_getElem? (i := 235) rfl) rfl
theorem gw950 : (Jvm.Cond.methodLink "SchemaDeskLaw" (120 : Nat) ({ cls := "SchemaDeskLaw", name := "diagnostic", desc := "(LSchemaDesk;II[J)I" } : Jvm.MethodName)) ∈ GW := gw_t4 (List.mem_of_getElem? (i := 230) rfl) rfl
theorem gw951 : (Jvm.Cond.static ({ cls := "SchemaDeskLaw", name := "diagnostic", desc := "(LSchemaDesk;II[J)I" } : Jvm.MethodName)) ∈ GW := gw_t4 (List.mem_of_getElem? (i := 231) rfl) rfl
theorem gw952 : (Jvm.Cond.codeWith ({ cls := "SchemaDeskLaw", name := "diagnostic", desc := "(LSchemaDesk;II[J)I" } : Jvm.MethodName) method_13_code (5 : Nat) (Option.some Jvm.ClassFile.FieldType.int) [((0 : Nat), (10 : Nat), (13 : Nat), (13 : Nat)), ((0 : Nat), (10 : Nat), (17 : Nat), (38 : Nat))]) ∈ GW := gw_t4 (List.mem_of_getElem? (i := 232) rfl) rfl
theorem gw1460 : (Jvm.Cond.methodLink "SchemaDeskLaw" (122 : Nat) ({ cls := "SchemaDeskModel", name := "diagnostic", desc := "(II)I" } : Jvm.MethodName)) ∈ GW := gw_t7 (List.mem_of_getElem? (i := 20) rfl) rfl
theorem gw1461 : (Jvm.Cond.instanceMethod ({ cls := "SchemaDeskModel", name := "diagnostic", desc := "(II)I" } : Jvm.MethodName)) ∈ GW := gw_t7 (List.mem_of_getElem? (i := 21) rfl) rfl
theorem gw1462 : (Jvm.Cond.selects "SchemaDeskModel" ({ cls := "SchemaDeskModel", name := "diagnostic", desc := "(II)I" } : Jvm.MethodName) ({ cls := "SchemaDeskModel", name := "diagnostic", desc := "(II)I" } : Jvm.MethodName)) ∈ GW := gw_t7 (List.mem_of_getElem? (i := 22) rfl) rfl
theorem gw1463 : (Jvm.Cond.code ({ cls := "SchemaDeskModel", name := "diagnostic", desc := "(II)I" } : Jvm.MethodName) prog_12_method_67_code (3 : Nat) (Option.some Jvm.ClassFile.FieldType.int)) ∈ GW := gw_t7 (List.mem_of_getElem? (i := 23) rfl) rfl
theorem gw969 : (Jvm.Cond.methodLink "SchemaDeskLaw" (123 : Nat) ({ cls := "SchemaDeskLaw", name := "propose", desc := "(LSchemaDesk;I[J)I" } : Jvm.MethodName)) ∈ GW := gw_t5 (List.mem_of_getElem? (i := 9) rfl) rfl
theorem gw970 : (Jvm.Cond.static ({ cls := "SchemaDeskLaw", name := "propose", desc := "(LSchemaDesk;I[J)I" } : Jvm.MethodName)) ∈ GW := gw_t5 (List.mem_of_getElem? (i := 10) rfl) rfl
theorem gw971 : (Jvm.Cond.codeWith ({ cls := "SchemaDeskLaw", name := "propose", desc := "(LSchemaDesk;I[J)I" } : Jvm.MethodName) method_14_code (4 : Nat) (Option.some Jvm.ClassFile.FieldType.int) [((0 : Nat), (9 : Nat), (12 : Nat), (38 : Nat)), ((0 : Nat), (9 : Nat), (15 : Nat), (51 : Nat))]) ∈ GW := gw_t5 (List.mem_of_getElem? (i := 11) rfl) rfl
theorem gw1464 : (Jvm.Cond.methodLink "SchemaDeskLaw" (125 : Nat) ({ cls := "SchemaDeskModel", name := "propose", desc := "(I)I" } : Jvm.MethodName)) ∈ GW := gw_t7 (List.mem_of_getElem? (i := 24) rfl) rfl
theorem gw1465 : (Jvm.Cond.instanceMethod ({ cls := "SchemaDeskModel", name := "propose", desc := "(I)I" } : Jvm.MethodName)) ∈ GW := gw_t7 (List.mem_of_getElem? (i := 25) rfl) rfl
theorem gw1466 : (Jvm.Cond.selects "SchemaDeskModel" ({ cls := "SchemaDeskModel", name := "propose", desc := "(I)I" } : Jvm.MethodName) ({ cls := "SchemaDeskModel", name := "propose", desc := "(I)I" } : Jvm.MethodName)) ∈ GW := gw_t7 (List.mem_of_getElem? (i := 26) rfl) rfl
theorem gw1467 : (Jvm.Cond.code ({ cls := "SchemaDeskModel", name := "propose", desc := "(I)I" } : Jvm.MethodName) prog_12_method_72_code (7 : Nat) (Option.some Jvm.ClassFile.FieldType.int)) ∈ GW := gw_t7 (List.mem_of_getElem? (i := 27) rfl) rfl
theorem gw1020 : (Jvm.Cond.methodLink "SchemaDeskLaw" (126 : Nat) ({ cls := "SchemaDeskLaw", name := "proposal", desc := "(LSchemaDesk;II[J)I" } : Jvm.MethodName)) ∈ GW := gw_t5 (List.mem_of_getElem? (i := 60) rfl) rfl
theorem gw1021 : (Jvm.Cond.static ({ cls := "SchemaDeskLaw", name := "proposal", desc := "(LSchemaDesk;II[J)I" } : Jvm.MethodName)) ∈ GW := gw_t5 (List.mem_of_getElem? (i := 61) rfl) rfl
theorem gw1022 : (Jvm.Cond.codeWith ({ cls := "SchemaDeskLaw", name := "proposal", desc := "(LSchemaDesk;II[J)I" } : Jvm.MethodName) method_15_code (5 : Nat) (Option.some Jvm.ClassFile.FieldType.int) [((0 : Nat), (10 : Nat), (13 : Nat), (38 : Nat))]) ∈ GW := gw_t5 (List.mem_of_getElem? (i := 62) rfl) rfl
theorem gw1484 : (Jvm.Cond.methodLink "SchemaDeskLaw" (128 : Nat) ({ cls := "SchemaDeskModel", name := "proposal", desc := "(II)I" } : Jvm.MethodName)) ∈ GW := gw_t7 (List.mem_of_getElem? (i := 44) rfl) rfl
theorem gw1485 : (Jvm.Cond.instanceMethod ({ cls := "SchemaDeskModel", name := "proposal", desc := "(II)I" } : Jvm.MethodName)) ∈ GW := gw_t7 (List.mem_of_getElem? (i := 45) rfl) rfl
theorem gw1486 : (Jvm.Cond.selects "SchemaDeskModel" ({ cls := "SchemaDeskModel", name := "proposal", desc := "(II)I" } : Jvm.MethodName) ({ cls := "SchemaDeskModel", name := "proposal", desc := "(II)I" } : Jvm.MethodName)) ∈ GW := gw_t7 (List.mem_of_getElem? (i := 46) rfl) rfl
theorem gw1487 : (Jvm.Cond.code ({ cls := "SchemaDeskModel", name := "proposal", desc := "(II)I" } : Jvm.MethodName) prog_12_method_73_code (3 : Nat) (Option.some Jvm.ClassFile.FieldType.int)) ∈ GW := gw_t7 (List.mem_of_getElem? (i := 47) rfl) rfl
theorem kl_ret {p : Program} {l : Launch} {e : Env} {s : State} {m : MethodId} {below : List Frame} {meth : Method} {c : Code} {b : Nat} {D : va_G} {g : Gm} {σ : Sg} {H : Heap} {locs : List Loc} {cells slots : Nat} {ls : Array Slot} {pc : Nat} (hx : p.tables.exec = Jvm.exec) (hb : c.code = code) (hr : meth.sig.returnType = ret) (hlocks : meth.locks = false) (hst : Wst D vwCl (WS g) (fun q => s.heap.size ≤ q) s σ H locs) (h1 : cells ≤ room_1.cells) (h2 : slots ≤ room_1.slots) (hdg : decode code pc = .ok (.ireturn, 1)) :
    W p l e room_1 s m #[Value.ref b] below meth c H locs cells slots (lw_Z below #[Value.ref b] s) (F0 m pc ls [.int 1]) :=
  va_forget (fun q h => hst.2.2.2.2 q h) (W.widen h1 h2 (lw_ret hx hb hr hlocks hdg))
def wb_Lw_law (L : Nat) (xs : Nat → Int32) (F : Int32 → Sg → Prop) (x4 : Int32) (σ : Sg) : Prop := ((((Int32.ofNat L) - (4 : Int32)) < x4 → True) ∧ (¬ ((Int32.ofNat L) - (4 : Int32)) < x4 → (vp_in x4 L ∧ ((((xs x4.toNatClampNeg) &&& (15 : Int32)) = 0 → (vp_in (x4 + (1 : Int32)) L ∧ (vp_in (x4 + (2 : Int32)) L ∧ (wq_Sd_type (xs ((x4 + (1 : Int32)) : Int32).toNatClampNeg) ((((xs ((x4 + (2 : Int32)) : Int32).toNatClampNeg) : Int32).toUInt32 % 65536).toInt32) σ (fun r1 σ1 => (vp_in (x4 + (1 : Int32)) L ∧ (vp_in (x4 + (2 : Int32)) L ∧ (wq_Md_type (xs ((x4 + (1 : Int32)) : Int32).toNatClampNeg) ((((xs ((x4 + (2 : Int32)) : Int32).toNatClampNeg) : Int32).toUInt32 % 65536).toInt32) σ1 (fun r2 σ2 => ((r1 = r2 → F (x4 + 4) σ2) ∧ (¬ r1 = r2 → False))))))))))) ∧ (((xs x4.toNatClampNeg) &&& (15 : Int32)) = 1 → (vp_in (x4 + (1 : Int32)) L ∧ (vp_in (x4 + (2 : Int32)) L ∧ (wq_Sd_word (xs ((x4 + (1 : Int32)) : Int32).toNatClampNeg) (xs ((x4 + (2 : Int32)) : Int32).toNatClampNeg) σ (fun r1 σ1 => (vp_in (x4 + (1 : Int32)) L ∧ (vp_in (x4 + (2 : Int32)) L ∧ (wq_Md_word (xs ((x4 + (1 : Int32)) : Int32).toNatClampNeg) (xs ((x4 + (2 : Int32)) : Int32).toNatClampNeg) σ1 (fun r2 σ2 => ((r1 = r2 → F (x4 + 4) σ2) ∧ (¬ r1 = r2 → False))))))))))) ∧ (((xs x4.toNatClampNeg) &&& (15 : Int32)) = 2 → (vp_in (x4 + (1 : Int32)) L ∧ (vp_in (x4 + (2 : Int32)) L ∧ (vp_in (x4 + (3 : Int32)) L ∧ (wq_Lw_insert (xs ((x4 + (1 : Int32)) : Int32).toNatClampNeg) (xs ((x4 + (2 : Int32)) : Int32).toNatClampNeg) ((((xs ((x4 + (3 : Int32)) : Int32).toNatClampNeg) : Int32).toUInt32 % 65536).toInt32) σ (fun r1 σ1 => (vp_in (x4 + (1 : Int32)) L ∧ (vp_in (x4 + (2 : Int32)) L ∧ (vp_in (x4 + (3 : Int32)) L ∧ (wq_Md_insert (xs ((x4 + (1 : Int32)) : Int32).toNatClampNeg) (xs ((x4 + (2 : Int32)) : Int32).toNatClampNeg) ((((xs ((x4 + (3 : Int32)) : Int32).toNatClampNeg) : Int32).toUInt32 % 65536).toInt32) σ1 (fun σ2 => (wq_Md_thrown  σ2 (fun r3 σ3 => ((r3 = r1 → F (x4 + 4) σ3) ∧ (¬ r3 = r1 → False))))))))))))))) ∧ (((xs x4.toNatClampNeg) &&& (15 : Int32)) = 3 → (vp_in (x4 + (1 : Int32)) L ∧ (vp_in (x4 + (2 : Int32)) L ∧ (vp_in (x4 + (3 : Int32)) L ∧ (wq_Lw_remove (xs ((x4 + (1 : Int32)) : Int32).toNatClampNeg) (xs ((x4 + (2 : Int32)) : Int32).toNatClampNeg) (xs ((x4 + (3 : Int32)) : Int32).toNatClampNeg) σ (fun r1 σ1 => (vp_in (x4 + (1 : Int32)) L ∧ (vp_in (x4 + (2 : Int32)) L ∧ (vp_in (x4 + (3 : Int32)) L ∧ (wq_Md_remove (xs ((x4 + (1 : Int32)) : Int32).toNatClampNeg) (xs ((x4 + (2 : Int32)) : Int32).toNatClampNeg) (xs ((x4 + (3 : Int32)) : Int32).toNatClampNeg) σ1 (fun σ2 => (wq_Md_thrown  σ2 (fun r3 σ3 => ((r3 = r1 → F (x4 + 4) σ3) ∧ (¬ r3 = r1 → False))))))))))))))) ∧ (((xs x4.toNatClampNeg) &&& (15 : Int32)) = 4 → (vp_in (x4 + (1 : Int32)) L ∧ (wq_Lw_length (xs ((x4 + (1 : Int32)) : Int32).toNatClampNeg) σ (fun r1 σ1 => (vp_in (x4 + (1 : Int32)) L ∧ (wq_Md_length (xs ((x4 + (1 : Int32)) : Int32).toNatClampNeg) σ1 (fun r2 σ2 => (wq_Md_thrown  σ2 (fun r3 σ3 => ((r3 = r1 → ((¬ r1 = 0 → F (x4 + 4) σ3) ∧ (r1 = 0 → (vp_in (0 : Int32) 1 ∧ (((lg_cmp (σ3.2.1 53 ((0 : Int32) : Int32).toNatClampNeg) ((r2 : Int32).toInt64)) = 0 → F (x4 + 4) σ3) ∧ (¬ (lg_cmp (σ3.2.1 53 ((0 : Int32) : Int32).toNatClampNeg) ((r2 : Int32).toInt64)) = 0 → False)))))) ∧ (¬ r3 = r1 → False))))))))))) ∧ (((xs x4.toNatClampNeg) &&& (15 : Int32)) = 5 → (vp_in (x4 + (1 : Int32)) L ∧ (vp_in (x4 + (2 : Int32)) L ∧ (wq_Lw_letter (xs ((x4 + (1 : Int32)) : Int32).toNatClampNeg) (xs ((x4 + (2 : Int32)) : Int32).toNatClampNeg) σ (fun r1 σ1 => (vp_in (x4 + (1 : Int32)) L ∧ (vp_in (x4 + (2 : Int32)) L ∧ (wq_Md_letter (xs ((x4 + (1 : Int32)) : Int32).toNatClampNeg) (xs ((x4 + (2 : Int32)) : Int32).toNatClampNeg) σ1 (fun r2 σ2 => (wq_Md_thrown  σ2 (fun r3 σ3 => ((r3 = r1 → ((¬ r1 = 0 → F (x4 + 4) σ3) ∧ (r1 = 0 → (vp_in (0 : Int32) 1 ∧ (((lg_cmp (σ3.2.1 53 ((0 : Int32) : Int32).toNatClampNeg) ((r2 : Int32).toInt64)) = 0 → F (x4 + 4) σ3) ∧ (¬ (lg_cmp (σ3.2.1 53 ((0 : Int32) : Int32).toNatClampNeg) ((r2 : Int32).toInt64)) = 0 → False)))))) ∧ (¬ r3 = r1 → False))))))))))))) ∧ (((xs x4.toNatClampNeg) &&& (15 : Int32)) = 6 → (vp_in (x4 + (1 : Int32)) L ∧ (wq_Lw_nodes (xs ((x4 + (1 : Int32)) : Int32).toNatClampNeg) σ (fun r1 σ1 => (vp_in (x4 + (1 : Int32)) L ∧ (wq_Md_nodes (xs ((x4 + (1 : Int32)) : Int32).toNatClampNeg) σ1 (fun r2 σ2 => (wq_Md_thrown  σ2 (fun r3 σ3 => ((r3 = r1 → ((¬ r1 = 0 → F (x4 + 4) σ3) ∧ (r1 = 0 → (vp_in (0 : Int32) 1 ∧ (((lg_cmp (σ3.2.1 53 ((0 : Int32) : Int32).toNatClampNeg) ((r2 : Int32).toInt64)) = 0 → F (x4 + 4) σ3) ∧ (¬ (lg_cmp (σ3.2.1 53 ((0 : Int32) : Int32).toNatClampNeg) ((r2 : Int32).toInt64)) = 0 → False)))))) ∧ (¬ r3 = r1 → False))))))))))) ∧ (((xs x4.toNatClampNeg) &&& (15 : Int32)) = 7 → (vp_in (x4 + (1 : Int32)) L ∧ (vp_in (x4 + (2 : Int32)) L ∧ (vp_in (x4 + (3 : Int32)) L ∧ (wq_Lw_node (xs ((x4 + (1 : Int32)) : Int32).toNatClampNeg) (xs ((x4 + (2 : Int32)) : Int32).toNatClampNeg) (xs ((x4 + (3 : Int32)) : Int32).toNatClampNeg) σ (fun r1 σ1 => (vp_in (x4 + (1 : Int32)) L ∧ (vp_in (x4 + (2 : Int32)) L ∧ (vp_in (x4 + (3 : Int32)) L ∧ (wq_Md_node (xs ((x4 + (1 : Int32)) : Int32).toNatClampNeg) (xs ((x4 + (2 : Int32)) : Int32).toNatClampNeg) (xs ((x4 + (3 : Int32)) : Int32).toNatClampNeg) σ1 (fun r2 σ2 => (wq_Md_thrown  σ2 (fun r3 σ3 => ((r3 = r1 → ((¬ r1 = 0 → F (x4 + 4) σ3) ∧ (r1 = 0 → (vp_in (0 : Int32) 1 ∧ (((lg_cmp (σ3.2.1 53 ((0 : Int32) : Int32).toNatClampNeg) ((r2 : Int32).toInt64)) = 0 → F (x4 + 4) σ3) ∧ (¬ (lg_cmp (σ3.2.1 53 ((0 : Int32) : Int32).toNatClampNeg) ((r2 : Int32).toInt64)) = 0 → False)))))) ∧ (¬ r3 = r1 → False))))))))))))))) ∧ (((xs x4.toNatClampNeg) &&& (15 : Int32)) = 8 → (vp_in (x4 + (1 : Int32)) L ∧ (wq_Lw_faults (xs ((x4 + (1 : Int32)) : Int32).toNatClampNeg) σ (fun r1 σ1 => (vp_in (x4 + (1 : Int32)) L ∧ (wq_Md_faults (xs ((x4 + (1 : Int32)) : Int32).toNatClampNeg) σ1 (fun r2 σ2 => (wq_Md_thrown  σ2 (fun r3 σ3 => ((r3 = r1 → ((¬ r1 = 0 → F (x4 + 4) σ3) ∧ (r1 = 0 → (vp_in (0 : Int32) 1 ∧ (((lg_cmp (σ3.2.1 53 ((0 : Int32) : Int32).toNatClampNeg) ((r2 : Int32).toInt64)) = 0 → F (x4 + 4) σ3) ∧ (¬ (lg_cmp (σ3.2.1 53 ((0 : Int32) : Int32).toNatClampNeg) ((r2 : Int32).toInt64)) = 0 → False)))))) ∧ (¬ r3 = r1 → False))))))))))) ∧ (((xs x4.toNatClampNeg) &&& (15 : Int32)) = 9 → (vp_in (x4 + (1 : Int32)) L ∧ (vp_in (x4 + (2 : Int32)) L ∧ (wq_Lw_fault (xs ((x4 + (1 : Int32)) : Int32).toNatClampNeg) (xs ((x4 + (2 : Int32)) : Int32).toNatClampNeg) σ (fun r1 σ1 => (vp_in (x4 + (1 : Int32)) L ∧ (vp_in (x4 + (2 : Int32)) L ∧ (wq_Md_fault (xs ((x4 + (1 : Int32)) : Int32).toNatClampNeg) (xs ((x4 + (2 : Int32)) : Int32).toNatClampNeg) σ1 (fun r2 σ2 => (wq_Md_thrown  σ2 (fun r3 σ3 => ((r3 = r1 → ((¬ r1 = 0 → F (x4 + 4) σ3) ∧ (r1 = 0 → (vp_in (0 : Int32) 1 ∧ (((lg_cmp (σ3.2.1 53 ((0 : Int32) : Int32).toNatClampNeg) ((r2 : Int32).toInt64)) = 0 → F (x4 + 4) σ3) ∧ (¬ (lg_cmp (σ3.2.1 53 ((0 : Int32) : Int32).toNatClampNeg) ((r2 : Int32).toInt64)) = 0 → False)))))) ∧ (¬ r3 = r1 → False))))))))))))) ∧ (((xs x4.toNatClampNeg) &&& (15 : Int32)) = 10 → (vp_in (x4 + (1 : Int32)) L ∧ (vp_in (x4 + (2 : Int32)) L ∧ (wq_Lw_holds (xs ((x4 + (1 : Int32)) : Int32).toNatClampNeg) (xs ((x4 + (2 : Int32)) : Int32).toNatClampNeg) σ (fun r1 σ1 => (vp_in (x4 + (1 : Int32)) L ∧ (vp_in (x4 + (2 : Int32)) L ∧ (wq_Md_holds (xs ((x4 + (1 : Int32)) : Int32).toNatClampNeg) (xs ((x4 + (2 : Int32)) : Int32).toNatClampNeg) σ1 (fun r2 σ2 => (wq_Md_thrown  σ2 (fun r3 σ3 => ((r3 = r1 → ((¬ r1 = 0 → F (x4 + 4) σ3) ∧ (r1 = 0 → (vp_in (0 : Int32) 1 ∧ ((r2 = 0 → (((lg_cmp (σ3.2.1 53 ((0 : Int32) : Int32).toNatClampNeg) (0 : Int64)) = 0 → F (x4 + 4) σ3) ∧ (¬ (lg_cmp (σ3.2.1 53 ((0 : Int32) : Int32).toNatClampNeg) (0 : Int64)) = 0 → False))) ∧ (¬ r2 = 0 → (((lg_cmp (σ3.2.1 53 ((0 : Int32) : Int32).toNatClampNeg) (1 : Int64)) = 0 → F (x4 + 4) σ3) ∧ (¬ (lg_cmp (σ3.2.1 53 ((0 : Int32) : Int32).toNatClampNeg) (1 : Int64)) = 0 → False)))))))) ∧ (¬ r3 = r1 → False))))))))))))) ∧ (((xs x4.toNatClampNeg) &&& (15 : Int32)) = 11 → (wq_Lw_judge  σ (fun r1 σ1 => (wq_Md_judge  σ1 (fun r2 σ2 => (wq_Md_thrown  σ2 (fun r3 σ3 => ((r3 = r1 → ((¬ r1 = 0 → F (x4 + 4) σ3) ∧ (r1 = 0 → (vp_in (0 : Int32) 1 ∧ (((lg_cmp (σ3.2.1 53 ((0 : Int32) : Int32).toNatClampNeg) ((r2 : Int32).toInt64)) = 0 → F (x4 + 4) σ3) ∧ (¬ (lg_cmp (σ3.2.1 53 ((0 : Int32) : Int32).toNatClampNeg) ((r2 : Int32).toInt64)) = 0 → False)))))) ∧ (¬ r3 = r1 → False))))))))) ∧ (((xs x4.toNatClampNeg) &&& (15 : Int32)) = 12 → (vp_in (x4 + (1 : Int32)) L ∧ (vp_in (x4 + (2 : Int32)) L ∧ (wq_Lw_diagnostic (xs ((x4 + (1 : Int32)) : Int32).toNatClampNeg) (xs ((x4 + (2 : Int32)) : Int32).toNatClampNeg) σ (fun r1 σ1 => (vp_in (x4 + (1 : Int32)) L ∧ (vp_in (x4 + (2 : Int32)) L ∧ (wq_Md_diagnostic (xs ((x4 + (1 : Int32)) : Int32).toNatClampNeg) (xs ((x4 + (2 : Int32)) : Int32).toNatClampNeg) σ1 (fun r2 σ2 => (wq_Md_thrown  σ2 (fun r3 σ3 => ((r3 = r1 → ((¬ r1 = 0 → F (x4 + 4) σ3) ∧ (r1 = 0 → (vp_in (0 : Int32) 1 ∧ (((lg_cmp (σ3.2.1 53 ((0 : Int32) : Int32).toNatClampNeg) ((r2 : Int32).toInt64)) = 0 → F (x4 + 4) σ3) ∧ (¬ (lg_cmp (σ3.2.1 53 ((0 : Int32) : Int32).toNatClampNeg) ((r2 : Int32).toInt64)) = 0 → False)))))) ∧ (¬ r3 = r1 → False))))))))))))) ∧ (((xs x4.toNatClampNeg) &&& (15 : Int32)) = 13 → (vp_in (x4 + (1 : Int32)) L ∧ (wq_Lw_propose (xs ((x4 + (1 : Int32)) : Int32).toNatClampNeg) σ (fun r1 σ1 => (vp_in (x4 + (1 : Int32)) L ∧ (wq_Md_propose (xs ((x4 + (1 : Int32)) : Int32).toNatClampNeg) σ1 (fun r2 σ2 => (wq_Md_thrown  σ2 (fun r3 σ3 => ((r3 = r1 → ((¬ r1 = 0 → F (x4 + 4) σ3) ∧ (r1 = 0 → (vp_in (0 : Int32) 1 ∧ (((lg_cmp (σ3.2.1 53 ((0 : Int32) : Int32).toNatClampNeg) ((r2 : Int32).toInt64)) = 0 → F (x4 + 4) σ3) ∧ (¬ (lg_cmp (σ3.2.1 53 ((0 : Int32) : Int32).toNatClampNeg) ((r2 : Int32).toInt64)) = 0 → False)))))) ∧ (¬ r3 = r1 → False))))))))))) ∧ (((xs x4.toNatClampNeg) &&& (15 : Int32)) = 14 → (vp_in (x4 + (1 : Int32)) L ∧ (vp_in (x4 + (2 : Int32)) L ∧ (wq_Lw_proposal (xs ((x4 + (1 : Int32)) : Int32).toNatClampNeg) (xs ((x4 + (2 : Int32)) : Int32).toNatClampNeg) σ (fun r1 σ1 => (vp_in (x4 + (1 : Int32)) L ∧ (vp_in (x4 + (2 : Int32)) L ∧ (wq_Md_proposal (xs ((x4 + (1 : Int32)) : Int32).toNatClampNeg) (xs ((x4 + (2 : Int32)) : Int32).toNatClampNeg) σ1 (fun r2 σ2 => (wq_Md_thrown  σ2 (fun r3 σ3 => ((r3 = r1 → ((¬ r1 = 0 → F (x4 + 4) σ3) ∧ (r1 = 0 → (vp_in (0 : Int32) 1 ∧ (((lg_cmp (σ3.2.1 53 ((0 : Int32) : Int32).toNatClampNeg) ((r2 : Int32).toInt64)) = 0 → F (x4 + 4) σ3) ∧ (¬ (lg_cmp (σ3.2.1 53 ((0 : Int32) : Int32).toNatClampNeg) ((r2 : Int32).toInt64)) = 0 → False)))))) ∧ (¬ r3 = r1 → False))))))))))))) ∧ ((¬ ((xs x4.toNatClampNeg) &&& (15 : Int32)) = 0 ∧ ¬ ((xs x4.toNatClampNeg) &&& (15 : Int32)) = 1 ∧ ¬ ((xs x4.toNatClampNeg) &&& (15 : Int32)) = 2 ∧ ¬ ((xs x4.toNatClampNeg) &&& (15 : Int32)) = 3 ∧ ¬ ((xs x4.toNatClampNeg) &&& (15 : Int32)) = 4 ∧ ¬ ((xs x4.toNatClampNeg) &&& (15 : Int32)) = 5 ∧ ¬ ((xs x4.toNatClampNeg) &&& (15 : Int32)) = 6 ∧ ¬ ((xs x4.toNatClampNeg) &&& (15 : Int32)) = 7 ∧ ¬ ((xs x4.toNatClampNeg) &&& (15 : Int32)) = 8 ∧ ¬ ((xs x4.toNatClampNeg) &&& (15 : Int32)) = 9 ∧ ¬ ((xs x4.toNatClampNeg) &&& (15 : Int32)) = 10 ∧ ¬ ((xs x4.toNatClampNeg) &&& (15 : Int32)) = 11 ∧ ¬ ((xs x4.toNatClampNeg) &&& (15 : Int32)) = 12 ∧ ¬ ((xs x4.toNatClampNeg) &&& (15 : Int32)) = 13 ∧ ¬ ((xs x4.toNatClampNeg) &&& (15 : Int32)) = 14) → F (x4 + 4) σ)))))
set_option maxRecDepth 100000 in
set_option maxHeartbeats 4000000 in
theorem b_Lw_law {p : Program} {l : Launch} {e : Env} {s : State} {m : MethodId} {below : List Frame} {meth : Method} {c : Code} {D : va_G} {g : Gm} {b L : Nat} {xs : Nat → Int32} {F : Int32 → Sg → Prop} {kc ks : Nat} (htr : l.stackTraces = false) (C : kC p s m #[Value.ref b] meth c code 7 ret GW R_Lw D vwCl g (Zk g) (fun q => s.heap.size ≤ q)) (hX : va_X b L xs s s.heap) (hbl : b < s.heap.size) (hk : kc + 5 ≤ room_1.cells ∧ ks + 3968 ≤ room_1.slots) (x4 : Int32) (j : ∀ (σ : Sg) (H : Heap) (locs : List Loc) (ls : Array Slot), lv_has ls 7 [(4, .int (x4 + 4)), (3, .ref (g.1 53)), (2, .ref (g.1 54)), (1, .ref (g.1 51)), (0, .ref b)] → Wst D vwCl (WS g) (fun q => s.heap.size ≤ q) s σ H locs → F (x4 + 4) σ → W p l e room_1 s m #[Value.ref b] below meth c H locs (kc + 5) (ks + 3968) (lw_Z below #[Value.ref b] s) (F0 m 23 ls [])) (σ : Sg) (H : Heap) (locs : List Loc) (ls : Array Slot) (hl : lv_has ls 7 [(4, .int x4), (3, .ref (g.1 53)), (2, .ref (g.1 54)), (1, .ref (g.1 51)), (0, .ref b)]) (hst : Wst D vwCl (WS g) (fun q => s.heap.size ≤ q) s σ H locs) (h : wb_Lw_law L xs F x4 σ) : W p l e room_1 s m #[Value.ref b] below meth c H locs kc ks (lw_Z below #[Value.ref b] s) (F0 m 23 ls []) := by
  obtain ⟨hx, hb, hr, hml, hown, hts, hlocks, hK, hZ, hA⟩ := C
  have hbA : ¬ s.heap.size ≤ b := Nat.not_le.mpr hbl
  obtain ⟨hk1, hk2⟩ := hk
  unfold wb_Lw_law at h
  refine lv_iload hx hb d_Lw_law_23 (lv_at hl 0 rfl) ?_
  refine lv_aload_n hx hb d_Lw_law_25 rfl (lv_at hl 4 rfl) ?_
  refine va_slen hx hb hX hbl hbA hst.2.2 d_Lw_law_26 ?_
  refine lv_iconst (v := (4 : Int32)) hx hb d_Lw_law_27 (by decide) ?_
  refine lv_isub hx hb d_Lw_law_28 ?_
  refine lv_icmp_gt (tgt := 1011) hx hb d_Lw_law_29 (by decide) (fun hc => ?_) (fun hc => ?_)
  · replace h := h.1 hc
    refine lv_iconst (v := (1 : Int32)) hx hb d_Lw_law_1011 (by decide) ?_
    exact kl_ret hx hb hr hlocks hst (by omega) (by omega) d_Lw_law_1012
  · replace h := h.2 hc
    refine lv_aload_n hx hb d_Lw_law_32 rfl (lv_at hl 4 rfl) ?_
    refine lv_iload hx hb d_Lw_law_33 (lv_at hl 0 rfl) ?_
    obtain ⟨hi, h⟩ := h
    refine va_sld hx hb hX hbl hbA hst.2.2 hi d_Lw_law_35 ?_
    refine lv_bipush (v := (15 : Int32)) hx hb d_Lw_law_36 (by decide) ?_
    refine lv_iand hx hb d_Lw_law_38 ?_
    by_cases hc0 : ((xs x4.toNatClampNeg) &&& (15 : Int32)) = 0
    · refine kw_tin (k := 0) (tgt := 112) hx hb d_Lw_law_39 hc0 (by decide) (by decide) rfl (by decide) ?_
      replace h := h.1 hc0
      refine lv_aload_n hx hb d_Lw_law_112 rfl (lv_at hl 3 rfl) ?_
      refine lv_aload_n hx hb d_Lw_law_113 rfl (lv_at hl 4 rfl) ?_
      refine lv_iload hx hb d_Lw_law_114 (lv_at hl 0 rfl) ?_
      refine lv_iconst (v := (1 : Int32)) hx hb d_Lw_law_116 (by decide) ?_
      refine lv_iadd hx hb d_Lw_law_117 ?_
      obtain ⟨hi, h⟩ := h
      refine va_sld hx hb hX hbl hbA hst.2.2 hi d_Lw_law_118 ?_
      refine lv_aload_n hx hb d_Lw_law_119 rfl (lv_at hl 4 rfl) ?_
      refine lv_iload hx hb d_Lw_law_120 (lv_at hl 0 rfl) ?_
      refine lv_iconst (v := (2 : Int32)) hx hb d_Lw_law_122 (by decide) ?_
      refine lv_iadd hx hb d_Lw_law_123 ?_
      obtain ⟨hi, h⟩ := h
      refine va_sld hx hb hX hbl hbA hst.2.2 hi d_Lw_law_124 ?_
      refine lv_i2c hx hb d_Lw_law_125 rfl ?_
      refine kw_calli (va_runV (As := [.int (xs ((x4 + (1 : Int32)) : Int32).toNatClampNeg), .int (((xs ((x4 + (2 : Int32)) : Int32).toNatClampNeg) : Int32).toUInt32 % 65536).toInt32]) (rest := []) (b := g.1 51) ⟨hx, hb, hml, hown, hts⟩ (c_Sd_type l (xs ((x4 + (1 : Int32)) : Int32).toNatClampNeg) ((((xs ((x4 + (2 : Int32)) : Int32).toNatClampNeg) : Int32).toUInt32 % 65536).toInt32) h) (cwV 2 hts (gd_v gw427 gw428 gw429 gw1 gw430) rfl rfl rfl (by decide +kernel) ⟨Nat.le_of_ble_eq_true rfl, Nat.le_of_ble_eq_true rfl⟩) ⟨kw_blind (Zk_ok g), va_recv hK hst.1 rfl (WS_o51 g σ), kw_pre (Zk_ok g) hK hZ hA hst⟩ rfl rfl hl.1 rfl (lv_room (Nat.le_of_ble_eq_true rfl)) d_Lw_law_126 ⟨by omega, by omega⟩) hst hA (fun r1 σ1 H locs h hst => ?_)
      refine lv_aload_n hx hb d_Lw_law_129 rfl (lv_at hl 2 rfl) ?_
      refine lv_aload_n hx hb d_Lw_law_130 rfl (lv_at hl 4 rfl) ?_
      refine lv_iload hx hb d_Lw_law_131 (lv_at hl 0 rfl) ?_
      refine lv_iconst (v := (1 : Int32)) hx hb d_Lw_law_133 (by decide) ?_
      refine lv_iadd hx hb d_Lw_law_134 ?_
      obtain ⟨hi, h⟩ := h
      refine va_sld hx hb hX hbl hbA hst.2.2 hi d_Lw_law_135 ?_
      refine lv_aload_n hx hb d_Lw_law_136 rfl (lv_at hl 4 rfl) ?_
      refine lv_iload hx hb d_Lw_law_137 (lv_at hl 0 rfl) ?_
      refine lv_iconst (v := (2 : Int32)) hx hb d_Lw_law_139 (by decide) ?_
      refine lv_iadd hx hb d_Lw_law_140 ?_
      obtain ⟨hi, h⟩ := h
      refine va_sld hx hb hX hbl hbA hst.2.2 hi d_Lw_law_141 ?_
      refine lv_i2c hx hb d_Lw_law_142 rfl ?_
      refine kw_calli (va_runV (As := [.int (xs ((x4 + (1 : Int32)) : Int32).toNatClampNeg), .int (((xs ((x4 + (2 : Int32)) : Int32).toNatClampNeg) : Int32).toUInt32 % 65536).toInt32]) (rest := [.int r1]) (b := g.1 54) ⟨hx, hb, hml, hown, hts⟩ (c_Md_type l (xs ((x4 + (1 : Int32)) : Int32).toNatClampNeg) ((((xs ((x4 + (2 : Int32)) : Int32).toNatClampNeg) : Int32).toUInt32 % 65536).toInt32) h) (cwV 2 hts (gd_v gw1207 gw1208 gw1209 gw15 gw1210) rfl rfl rfl (by decide +kernel) ⟨Nat.le_of_ble_eq_true rfl, Nat.le_of_ble_eq_true rfl⟩) ⟨kw_blind (Zk_ok g), va_recv hK hst.1 rfl (WS_o54 g σ1), kw_pre (Zk_ok g) hK hZ hA hst⟩ rfl rfl hl.1 rfl (lv_room (Nat.le_of_ble_eq_true rfl)) d_Lw_law_143 ⟨by omega, by omega⟩) hst hA (fun r2 σ2 H locs h hst => ?_)
      refine lv_icmp_eq (tgt := 1005) hx hb d_Lw_law_146 (by decide) (fun hc => ?_) (fun hc => ?_)
      · replace h := h.1 hc
        refine lv_iinc (k := 0) (v := (x4 + 4)) hx hb d_Lw_law_1005 hl rfl (kw_inc _ (by decide)) (by decide) rfl (fun ls hl => ?_)
        have hl : lv_has ls 7 [(4, .int (x4 + 4)), (3, .ref (g.1 53)), (2, .ref (g.1 54)), (1, .ref (g.1 51)), (0, .ref b)] := hl
        refine lv_goto (tgt := 23) hx hb d_Lw_law_1008 (by decide) ?_
        refine W.widen (k := kc + 5) (n := ks + 3968) (by omega) (by omega) ?_
        exact j σ2 _ _ _ (lv_sub hl [0, 1, 2, 3, 4] rfl) hst h
      · replace h := h.2 hc
        refine lv_iconst (v := (0 : Int32)) hx hb d_Lw_law_149 (by decide) ?_
        exact h.elim
    by_cases hc1 : ((xs x4.toNatClampNeg) &&& (15 : Int32)) = 1
    · refine kw_tin (k := 1) (tgt := 151) hx hb d_Lw_law_39 hc1 (by decide) (by decide) rfl (by decide) ?_
      replace h := h.2.1 hc1
      refine lv_aload_n hx hb d_Lw_law_151 rfl (lv_at hl 3 rfl) ?_
      refine lv_aload_n hx hb d_Lw_law_152 rfl (lv_at hl 4 rfl) ?_
      refine lv_iload hx hb d_Lw_law_153 (lv_at hl 0 rfl) ?_
      refine lv_iconst (v := (1 : Int32)) hx hb d_Lw_law_155 (by decide) ?_
      refine lv_iadd hx hb d_Lw_law_156 ?_
      obtain ⟨hi, h⟩ := h
      refine va_sld hx hb hX hbl hbA hst.2.2 hi d_Lw_law_157 ?_
      refine lv_aload_n hx hb d_Lw_law_158 rfl (lv_at hl 4 rfl) ?_
      refine lv_iload hx hb d_Lw_law_159 (lv_at hl 0 rfl) ?_
      refine lv_iconst (v := (2 : Int32)) hx hb d_Lw_law_161 (by decide) ?_
      refine lv_iadd hx hb d_Lw_law_162 ?_
      obtain ⟨hi, h⟩ := h
      refine va_sld hx hb hX hbl hbA hst.2.2 hi d_Lw_law_163 ?_
      refine kw_calli (va_runV (As := [.int (xs ((x4 + (1 : Int32)) : Int32).toNatClampNeg), .int (xs ((x4 + (2 : Int32)) : Int32).toNatClampNeg)]) (rest := []) (b := g.1 51) ⟨hx, hb, hml, hown, hts⟩ (c_Sd_word l (xs ((x4 + (1 : Int32)) : Int32).toNatClampNeg) (xs ((x4 + (2 : Int32)) : Int32).toNatClampNeg) h) (cwV 2 hts (gd_v gw456 gw457 gw458 gw1 gw459) rfl rfl rfl (by decide +kernel) ⟨Nat.le_of_ble_eq_true rfl, Nat.le_of_ble_eq_true rfl⟩) ⟨kw_blind (Zk_ok g), va_recv hK hst.1 rfl (WS_o51 g σ), kw_pre (Zk_ok g) hK hZ hA hst⟩ rfl rfl hl.1 rfl (lv_room (Nat.le_of_ble_eq_true rfl)) d_Lw_law_164 ⟨by omega, by omega⟩) hst hA (fun r1 σ1 H locs h hst => ?_)
      refine lv_aload_n hx hb d_Lw_law_167 rfl (lv_at hl 2 rfl) ?_
      refine lv_aload_n hx hb d_Lw_law_168 rfl (lv_at hl 4 rfl) ?_
      refine lv_iload hx hb d_Lw_law_169 (lv_at hl 0 rfl) ?_
      refine lv_iconst (v := (1 : Int32)) hx hb d_Lw_law_171 (by decide) ?_
      refine lv_iadd hx hb d_Lw_law_172 ?_
      obtain ⟨hi, h⟩ := h
      refine va_sld hx hb hX hbl hbA hst.2.2 hi d_Lw_law_173 ?_
      refine lv_aload_n hx hb d_Lw_law_174 rfl (lv_at hl 4 rfl) ?_
      refine lv_iload hx hb d_Lw_law_175 (lv_at hl 0 rfl) ?_
      refine lv_iconst (v := (2 : Int32)) hx hb d_Lw_law_177 (by decide) ?_
      refine lv_iadd hx hb d_Lw_law_178 ?_
      obtain ⟨hi, h⟩ := h
      refine va_sld hx hb hX hbl hbA hst.2.2 hi d_Lw_law_179 ?_
      refine kw_calli (va_runV (As := [.int (xs ((x4 + (1 : Int32)) : Int32).toNatClampNeg), .int (xs ((x4 + (2 : Int32)) : Int32).toNatClampNeg)]) (rest := [.int r1]) (b := g.1 54) ⟨hx, hb, hml, hown, hts⟩ (c_Md_word l (xs ((x4 + (1 : Int32)) : Int32).toNatClampNeg) (xs ((x4 + (2 : Int32)) : Int32).toNatClampNeg) h) (cwV 2 hts (gd_v gw1224 gw1225 gw1226 gw15 gw1227) rfl rfl rfl (by decide +kernel) ⟨Nat.le_of_ble_eq_true rfl, Nat.le_of_ble_eq_true rfl⟩) ⟨kw_blind (Zk_ok g), va_recv hK hst.1 rfl (WS_o54 g σ1), kw_pre (Zk_ok g) hK hZ hA hst⟩ rfl rfl hl.1 rfl (lv_room (Nat.le_of_ble_eq_true rfl)) d_Lw_law_180 ⟨by omega, by omega⟩) hst hA (fun r2 σ2 H locs h hst => ?_)
      refine lv_icmp_eq (tgt := 1005) hx hb d_Lw_law_183 (by decide) (fun hc => ?_) (fun hc => ?_)
      · replace h := h.1 hc
        refine lv_iinc (k := 0) (v := (x4 + 4)) hx hb d_Lw_law_1005 hl rfl (kw_inc _ (by decide)) (by decide) rfl (fun ls hl => ?_)
        have hl : lv_has ls 7 [(4, .int (x4 + 4)), (3, .ref (g.1 53)), (2, .ref (g.1 54)), (1, .ref (g.1 51)), (0, .ref b)] := hl
        refine lv_goto (tgt := 23) hx hb d_Lw_law_1008 (by decide) ?_
        refine W.widen (k := kc + 5) (n := ks + 3968) (by omega) (by omega) ?_
        exact j σ2 _ _ _ (lv_sub hl [0, 1, 2, 3, 4] rfl) hst h
      · replace h := h.2 hc
        refine lv_iconst (v := (0 : Int32)) hx hb d_Lw_law_186 (by decide) ?_
        exact h.elim
    by_cases hc2 : ((xs x4.toNatClampNeg) &&& (15 : Int32)) = 2
    · refine kw_tin (k := 2) (tgt := 188) hx hb d_Lw_law_39 hc2 (by decide) (by decide) rfl (by decide) ?_
      replace h := h.2.2.1 hc2
      refine lv_aload_n hx hb d_Lw_law_188 rfl (lv_at hl 3 rfl) ?_
      refine lv_aload_n hx hb d_Lw_law_189 rfl (lv_at hl 4 rfl) ?_
      refine lv_iload hx hb d_Lw_law_190 (lv_at hl 0 rfl) ?_
      refine lv_iconst (v := (1 : Int32)) hx hb d_Lw_law_192 (by decide) ?_
      refine lv_iadd hx hb d_Lw_law_193 ?_
      obtain ⟨hi, h⟩ := h
      refine va_sld hx hb hX hbl hbA hst.2.2 hi d_Lw_law_194 ?_
      refine lv_aload_n hx hb d_Lw_law_195 rfl (lv_at hl 4 rfl) ?_
      refine lv_iload hx hb d_Lw_law_196 (lv_at hl 0 rfl) ?_
      refine lv_iconst (v := (2 : Int32)) hx hb d_Lw_law_198 (by decide) ?_
      refine lv_iadd hx hb d_Lw_law_199 ?_
      obtain ⟨hi, h⟩ := h
      refine va_sld hx hb hX hbl hbA hst.2.2 hi d_Lw_law_200 ?_
      refine lv_aload_n hx hb d_Lw_law_201 rfl (lv_at hl 4 rfl) ?_
      refine lv_iload hx hb d_Lw_law_202 (lv_at hl 0 rfl) ?_
      refine lv_iconst (v := (3 : Int32)) hx hb d_Lw_law_204 (by decide) ?_
      refine lv_iadd hx hb d_Lw_law_205 ?_
      obtain ⟨hi, h⟩ := h
      refine va_sld hx hb hX hbl hbA hst.2.2 hi d_Lw_law_206 ?_
      refine lv_i2c hx hb d_Lw_law_207 rfl ?_
      refine kh_calli (kh_run (n := 4) (ws' := []) (As := [.ref (g.1 51), .int (xs ((x4 + (1 : Int32)) : Int32).toNatClampNeg), .int (xs ((x4 + (2 : Int32)) : Int32).toNatClampNeg), .int (((xs ((x4 + (3 : Int32)) : Int32).toNatClampNeg) : Int32).toUInt32 % 65536).toInt32]) (rest := []) ⟨hx, hb, hml, hown, hts⟩ (c_Lw_insert l htr (xs ((x4 + (1 : Int32)) : Int32).toNatClampNeg) (xs ((x4 + (2 : Int32)) : Int32).toNatClampNeg) ((((xs ((x4 + (3 : Int32)) : Int32).toNatClampNeg) : Int32).toUInt32 % 65536).toInt32) h) rfl rfl rfl (Nat.le_of_ble_eq_true rfl) (Nat.le_of_ble_eq_true rfl) gw468 gw469 gw0 gw470 (by decide +kernel) ⟨kw_blind (Zk_ok g), kw_pre (Zk_ok g) hK hZ hA hst⟩ rfl hl.1 rfl (Nat.le_of_ble_eq_true rfl) d_Lw_law_208 ⟨by omega, by omega⟩) hst hA (fun r1 σ1 H locs h hst => ?_)
      refine lv_istore hx hb d_Lw_law_211 hl (by decide) rfl (fun ls hl => ?_)
      have hl : lv_has ls 7 [(5, .int r1), (4, .int x4), (3, .ref (g.1 53)), (2, .ref (g.1 54)), (1, .ref (g.1 51)), (0, .ref b)] := hl
      refine lv_aload_n hx hb d_Lw_law_213 rfl (lv_at hl 3 rfl) ?_
      refine lv_aload_n hx hb d_Lw_law_214 rfl (lv_at hl 5 rfl) ?_
      refine lv_iload hx hb d_Lw_law_215 (lv_at hl 1 rfl) ?_
      refine lv_iconst (v := (1 : Int32)) hx hb d_Lw_law_217 (by decide) ?_
      refine lv_iadd hx hb d_Lw_law_218 ?_
      obtain ⟨hi, h⟩ := h
      refine va_sld hx hb hX hbl hbA hst.2.2 hi d_Lw_law_219 ?_
      refine lv_aload_n hx hb d_Lw_law_220 rfl (lv_at hl 5 rfl) ?_
      refine lv_iload hx hb d_Lw_law_221 (lv_at hl 1 rfl) ?_
      refine lv_iconst (v := (2 : Int32)) hx hb d_Lw_law_223 (by decide) ?_
      refine lv_iadd hx hb d_Lw_law_224 ?_
      obtain ⟨hi, h⟩ := h
      refine va_sld hx hb hX hbl hbA hst.2.2 hi d_Lw_law_225 ?_
      refine lv_aload_n hx hb d_Lw_law_226 rfl (lv_at hl 5 rfl) ?_
      refine lv_iload hx hb d_Lw_law_227 (lv_at hl 1 rfl) ?_
      refine lv_iconst (v := (3 : Int32)) hx hb d_Lw_law_229 (by decide) ?_
      refine lv_iadd hx hb d_Lw_law_230 ?_
      obtain ⟨hi, h⟩ := h
      refine va_sld hx hb hX hbl hbA hst.2.2 hi d_Lw_law_231 ?_
      refine lv_i2c hx hb d_Lw_law_232 rfl ?_
      refine kw_callv (va_runV (As := [.int (xs ((x4 + (1 : Int32)) : Int32).toNatClampNeg), .int (xs ((x4 + (2 : Int32)) : Int32).toNatClampNeg), .int (((xs ((x4 + (3 : Int32)) : Int32).toNatClampNeg) : Int32).toUInt32 % 65536).toInt32]) (rest := []) (b := g.1 54) ⟨hx, hb, hml, hown, hts⟩ (c_Md_insert l (xs ((x4 + (1 : Int32)) : Int32).toNatClampNeg) (xs ((x4 + (2 : Int32)) : Int32).toNatClampNeg) ((((xs ((x4 + (3 : Int32)) : Int32).toNatClampNeg) : Int32).toUInt32 % 65536).toInt32) h) (cwV 3 hts (gd_v gw1232 gw1233 gw1234 gw15 gw1235) rfl rfl rfl (by decide +kernel) ⟨Nat.le_of_ble_eq_true rfl, Nat.le_of_ble_eq_true rfl⟩) ⟨kw_blind (Zk_ok g), va_recv hK hst.1 rfl (WS_o54 g σ1), kw_pre (Zk_ok g) hK hZ hA hst⟩ rfl rfl hl.1 rfl (lv_room (Nat.le_of_ble_eq_true rfl)) d_Lw_law_233 ⟨by omega, by omega⟩) hst hA (fun σ2 H locs h hst => ?_)
      refine lv_aload_n hx hb d_Lw_law_236 rfl (lv_at hl 3 rfl) ?_
      refine kw_calli (va_runV (As := []) (rest := []) (b := g.1 54) ⟨hx, hb, hml, hown, hts⟩ (c_Md_thrown l h) (cwV 0 hts (gd_v gw1203 gw1204 gw1205 gw15 gw1206) rfl rfl rfl (by decide +kernel) ⟨Nat.le_of_ble_eq_true rfl, Nat.le_of_ble_eq_true rfl⟩) ⟨kw_blind (Zk_ok g), va_recv hK hst.1 rfl (WS_o54 g σ2), kw_pre (Zk_ok g) hK hZ hA hst⟩ rfl rfl hl.1 rfl (lv_room (Nat.le_of_ble_eq_true rfl)) d_Lw_law_237 ⟨by omega, by omega⟩) hst hA (fun r3 σ3 H locs h hst => ?_)
      refine lv_iload hx hb d_Lw_law_240 (lv_at hl 0 rfl) ?_
      refine lv_icmp_eq (tgt := 247) hx hb d_Lw_law_242 (by decide) (fun hc => ?_) (fun hc => ?_)
      · replace h := h.1 hc
        refine lv_goto (tgt := 1005) hx hb d_Lw_law_247 (by decide) ?_
        refine lv_iinc (k := 1) (v := (x4 + 4)) hx hb d_Lw_law_1005 hl rfl (kw_inc _ (by decide)) (by decide) rfl (fun ls hl => ?_)
        have hl : lv_has ls 7 [(4, .int (x4 + 4)), (5, .int r1), (3, .ref (g.1 53)), (2, .ref (g.1 54)), (1, .ref (g.1 51)), (0, .ref b)] := hl
        refine lv_goto (tgt := 23) hx hb d_Lw_law_1008 (by decide) ?_
        refine W.widen (k := kc + 5) (n := ks + 3968) (by omega) (by omega) ?_
        exact j σ3 _ _ _ (lv_sub hl [0, 2, 3, 4, 5] rfl) hst h
      · replace h := h.2 hc
        refine lv_iconst (v := (0 : Int32)) hx hb d_Lw_law_245 (by decide) ?_
        exact h.elim
    by_cases hc3 : ((xs x4.toNatClampNeg) &&& (15 : Int32)) = 3
    · refine kw_tin (k := 3) (tgt := 250) hx hb d_Lw_law_39 hc3 (by decide) (by decide) rfl (by decide) ?_
      replace h := h.2.2.2.1 hc3
      refine lv_aload_n hx hb d_Lw_law_250 rfl (lv_at hl 3 rfl) ?_
      refine lv_aload_n hx hb d_Lw_law_251 rfl (lv_at hl 4 rfl) ?_
      refine lv_iload hx hb d_Lw_law_252 (lv_at hl 0 rfl) ?_
      refine lv_iconst (v := (1 : Int32)) hx hb d_Lw_law_254 (by decide) ?_
      refine lv_iadd hx hb d_Lw_law_255 ?_
      obtain ⟨hi, h⟩ := h
      refine va_sld hx hb hX hbl hbA hst.2.2 hi d_Lw_law_256 ?_
      refine lv_aload_n hx hb d_Lw_law_257 rfl (lv_at hl 4 rfl) ?_
      refine lv_iload hx hb d_Lw_law_258 (lv_at hl 0 rfl) ?_
      refine lv_iconst (v := (2 : Int32)) hx hb d_Lw_law_260 (by decide) ?_
      refine lv_iadd hx hb d_Lw_law_261 ?_
      obtain ⟨hi, h⟩ := h
      refine va_sld hx hb hX hbl hbA hst.2.2 hi d_Lw_law_262 ?_
      refine lv_aload_n hx hb d_Lw_law_263 rfl (lv_at hl 4 rfl) ?_
      refine lv_iload hx hb d_Lw_law_264 (lv_at hl 0 rfl) ?_
      refine lv_iconst (v := (3 : Int32)) hx hb d_Lw_law_266 (by decide) ?_
      refine lv_iadd hx hb d_Lw_law_267 ?_
      obtain ⟨hi, h⟩ := h
      refine va_sld hx hb hX hbl hbA hst.2.2 hi d_Lw_law_268 ?_
      refine kh_calli (kh_run (n := 4) (ws' := []) (As := [.ref (g.1 51), .int (xs ((x4 + (1 : Int32)) : Int32).toNatClampNeg), .int (xs ((x4 + (2 : Int32)) : Int32).toNatClampNeg), .int (xs ((x4 + (3 : Int32)) : Int32).toNatClampNeg)]) (rest := []) ⟨hx, hb, hml, hown, hts⟩ (c_Lw_remove l htr (xs ((x4 + (1 : Int32)) : Int32).toNatClampNeg) (xs ((x4 + (2 : Int32)) : Int32).toNatClampNeg) (xs ((x4 + (3 : Int32)) : Int32).toNatClampNeg) h) rfl rfl rfl (Nat.le_of_ble_eq_true rfl) (Nat.le_of_ble_eq_true rfl) gw573 gw574 gw0 gw575 (by decide +kernel) ⟨kw_blind (Zk_ok g), kw_pre (Zk_ok g) hK hZ hA hst⟩ rfl hl.1 rfl (Nat.le_of_ble_eq_true rfl) d_Lw_law_269 ⟨by omega, by omega⟩) hst hA (fun r1 σ1 H locs h hst => ?_)
      refine lv_istore hx hb d_Lw_law_272 hl (by decide) rfl (fun ls hl => ?_)
      have hl : lv_has ls 7 [(5, .int r1), (4, .int x4), (3, .ref (g.1 53)), (2, .ref (g.1 54)), (1, .ref (g.1 51)), (0, .ref b)] := hl
      refine lv_aload_n hx hb d_Lw_law_274 rfl (lv_at hl 3 rfl) ?_
      refine lv_aload_n hx hb d_Lw_law_275 rfl (lv_at hl 5 rfl) ?_
      refine lv_iload hx hb d_Lw_law_276 (lv_at hl 1 rfl) ?_
      refine lv_iconst (v := (1 : Int32)) hx hb d_Lw_law_278 (by decide) ?_
      refine lv_iadd hx hb d_Lw_law_279 ?_
      obtain ⟨hi, h⟩ := h
      refine va_sld hx hb hX hbl hbA hst.2.2 hi d_Lw_law_280 ?_
      refine lv_aload_n hx hb d_Lw_law_281 rfl (lv_at hl 5 rfl) ?_
      refine lv_iload hx hb d_Lw_law_282 (lv_at hl 1 rfl) ?_
      refine lv_iconst (v := (2 : Int32)) hx hb d_Lw_law_284 (by decide) ?_
      refine lv_iadd hx hb d_Lw_law_285 ?_
      obtain ⟨hi, h⟩ := h
      refine va_sld hx hb hX hbl hbA hst.2.2 hi d_Lw_law_286 ?_
      refine lv_aload_n hx hb d_Lw_law_287 rfl (lv_at hl 5 rfl) ?_
      refine lv_iload hx hb d_Lw_law_288 (lv_at hl 1 rfl) ?_
      refine lv_iconst (v := (3 : Int32)) hx hb d_Lw_law_290 (by decide) ?_
      refine lv_iadd hx hb d_Lw_law_291 ?_
      obtain ⟨hi, h⟩ := h
      refine va_sld hx hb hX hbl hbA hst.2.2 hi d_Lw_law_292 ?_
      refine kw_callv (va_runV (As := [.int (xs ((x4 + (1 : Int32)) : Int32).toNatClampNeg), .int (xs ((x4 + (2 : Int32)) : Int32).toNatClampNeg), .int (xs ((x4 + (3 : Int32)) : Int32).toNatClampNeg)]) (rest := []) (b := g.1 54) ⟨hx, hb, hml, hown, hts⟩ (c_Md_remove l (xs ((x4 + (1 : Int32)) : Int32).toNatClampNeg) (xs ((x4 + (2 : Int32)) : Int32).toNatClampNeg) (xs ((x4 + (3 : Int32)) : Int32).toNatClampNeg) h) (cwV 3 hts (gd_v gw1236 gw1237 gw1238 gw15 gw1239) rfl rfl rfl (by decide +kernel) ⟨Nat.le_of_ble_eq_true rfl, Nat.le_of_ble_eq_true rfl⟩) ⟨kw_blind (Zk_ok g), va_recv hK hst.1 rfl (WS_o54 g σ1), kw_pre (Zk_ok g) hK hZ hA hst⟩ rfl rfl hl.1 rfl (lv_room (Nat.le_of_ble_eq_true rfl)) d_Lw_law_293 ⟨by omega, by omega⟩) hst hA (fun σ2 H locs h hst => ?_)
      refine lv_aload_n hx hb d_Lw_law_296 rfl (lv_at hl 3 rfl) ?_
      refine kw_calli (va_runV (As := []) (rest := []) (b := g.1 54) ⟨hx, hb, hml, hown, hts⟩ (c_Md_thrown l h) (cwV 0 hts (gd_v gw1203 gw1204 gw1205 gw15 gw1206) rfl rfl rfl (by decide +kernel) ⟨Nat.le_of_ble_eq_true rfl, Nat.le_of_ble_eq_true rfl⟩) ⟨kw_blind (Zk_ok g), va_recv hK hst.1 rfl (WS_o54 g σ2), kw_pre (Zk_ok g) hK hZ hA hst⟩ rfl rfl hl.1 rfl (lv_room (Nat.le_of_ble_eq_true rfl)) d_Lw_law_297 ⟨by omega, by omega⟩) hst hA (fun r3 σ3 H locs h hst => ?_)
      refine lv_iload hx hb d_Lw_law_300 (lv_at hl 0 rfl) ?_
      refine lv_icmp_eq (tgt := 307) hx hb d_Lw_law_302 (by decide) (fun hc => ?_) (fun hc => ?_)
      · replace h := h.1 hc
        refine lv_goto (tgt := 1005) hx hb d_Lw_law_307 (by decide) ?_
        refine lv_iinc (k := 1) (v := (x4 + 4)) hx hb d_Lw_law_1005 hl rfl (kw_inc _ (by decide)) (by decide) rfl (fun ls hl => ?_)
        have hl : lv_has ls 7 [(4, .int (x4 + 4)), (5, .int r1), (3, .ref (g.1 53)), (2, .ref (g.1 54)), (1, .ref (g.1 51)), (0, .ref b)] := hl
        refine lv_goto (tgt := 23) hx hb d_Lw_law_1008 (by decide) ?_
        refine W.widen (k := kc + 5) (n := ks + 3968) (by omega) (by omega) ?_
        exact j σ3 _ _ _ (lv_sub hl [0, 2, 3, 4, 5] rfl) hst h
      · replace h := h.2 hc
        refine lv_iconst (v := (0 : Int32)) hx hb d_Lw_law_305 (by decide) ?_
        exact h.elim
    by_cases hc4 : ((xs x4.toNatClampNeg) &&& (15 : Int32)) = 4
    · refine kw_tin (k := 4) (tgt := 310) hx hb d_Lw_law_39 hc4 (by decide) (by decide) rfl (by decide) ?_
      replace h := h.2.2.2.2.1 hc4
      refine lv_aload_n hx hb d_Lw_law_310 rfl (lv_at hl 3 rfl) ?_
      refine lv_aload_n hx hb d_Lw_law_311 rfl (lv_at hl 4 rfl) ?_
      refine lv_iload hx hb d_Lw_law_312 (lv_at hl 0 rfl) ?_
      refine lv_iconst (v := (1 : Int32)) hx hb d_Lw_law_314 (by decide) ?_
      refine lv_iadd hx hb d_Lw_law_315 ?_
      obtain ⟨hi, h⟩ := h
      refine va_sld hx hb hX hbl hbA hst.2.2 hi d_Lw_law_316 ?_
      refine lv_aload_n hx hb d_Lw_law_317 rfl (lv_at hl 1 rfl) ?_
      refine kh_calli (kh_run (n := 3) (ws' := []) (As := [.ref (g.1 51), .int (xs ((x4 + (1 : Int32)) : Int32).toNatClampNeg), .ref (g.1 53)]) (rest := []) ⟨hx, hb, hml, hown, hts⟩ (c_Lw_length l htr (xs ((x4 + (1 : Int32)) : Int32).toNatClampNeg) h) rfl rfl rfl (Nat.le_of_ble_eq_true rfl) (Nat.le_of_ble_eq_true rfl) gw584 gw585 gw0 gw586 (by decide +kernel) ⟨kw_blind (Zk_ok g), kw_pre (Zk_ok g) hK hZ hA hst⟩ rfl hl.1 rfl (Nat.le_of_ble_eq_true rfl) d_Lw_law_318 ⟨by omega, by omega⟩) hst hA (fun r1 σ1 H locs h hst => ?_)
      refine lv_istore hx hb d_Lw_law_321 hl (by decide) rfl (fun ls hl => ?_)
      have hl : lv_has ls 7 [(5, .int r1), (4, .int x4), (3, .ref (g.1 53)), (2, .ref (g.1 54)), (1, .ref (g.1 51)), (0, .ref b)] := hl
      refine lv_aload_n hx hb d_Lw_law_323 rfl (lv_at hl 3 rfl) ?_
      refine lv_aload_n hx hb d_Lw_law_324 rfl (lv_at hl 5 rfl) ?_
      refine lv_iload hx hb d_Lw_law_325 (lv_at hl 1 rfl) ?_
      refine lv_iconst (v := (1 : Int32)) hx hb d_Lw_law_327 (by decide) ?_
      refine lv_iadd hx hb d_Lw_law_328 ?_
      obtain ⟨hi, h⟩ := h
      refine va_sld hx hb hX hbl hbA hst.2.2 hi d_Lw_law_329 ?_
      refine kw_calli (va_runV (As := [.int (xs ((x4 + (1 : Int32)) : Int32).toNatClampNeg)]) (rest := []) (b := g.1 54) ⟨hx, hb, hml, hown, hts⟩ (c_Md_length l (xs ((x4 + (1 : Int32)) : Int32).toNatClampNeg) h) (cwV 1 hts (gd_v gw1240 gw1241 gw1242 gw15 gw1243) rfl rfl rfl (by decide +kernel) ⟨Nat.le_of_ble_eq_true rfl, Nat.le_of_ble_eq_true rfl⟩) ⟨kw_blind (Zk_ok g), va_recv hK hst.1 rfl (WS_o54 g σ1), kw_pre (Zk_ok g) hK hZ hA hst⟩ rfl rfl hl.1 rfl (lv_room (Nat.le_of_ble_eq_true rfl)) d_Lw_law_330 ⟨by omega, by omega⟩) hst hA (fun r2 σ2 H locs h hst => ?_)
      refine lv_istore hx hb d_Lw_law_333 hl (by decide) rfl (fun ls hl => ?_)
      have hl : lv_has ls 7 [(6, .int r2), (5, .int r1), (4, .int x4), (3, .ref (g.1 53)), (2, .ref (g.1 54)), (1, .ref (g.1 51)), (0, .ref b)] := hl
      refine lv_aload_n hx hb d_Lw_law_335 rfl (lv_at hl 4 rfl) ?_
      refine kw_calli (va_runV (As := []) (rest := []) (b := g.1 54) ⟨hx, hb, hml, hown, hts⟩ (c_Md_thrown l h) (cwV 0 hts (gd_v gw1203 gw1204 gw1205 gw15 gw1206) rfl rfl rfl (by decide +kernel) ⟨Nat.le_of_ble_eq_true rfl, Nat.le_of_ble_eq_true rfl⟩) ⟨kw_blind (Zk_ok g), va_recv hK hst.1 rfl (WS_o54 g σ2), kw_pre (Zk_ok g) hK hZ hA hst⟩ rfl rfl hl.1 rfl (lv_room (Nat.le_of_ble_eq_true rfl)) d_Lw_law_336 ⟨by omega, by omega⟩) hst hA (fun r3 σ3 H locs h hst => ?_)
      refine lv_iload hx hb d_Lw_law_339 (lv_at hl 1 rfl) ?_
      refine lv_icmp_eq (tgt := 346) hx hb d_Lw_law_341 (by decide) (fun hc => ?_) (fun hc => ?_)
      · replace h := h.1 hc
        refine lv_iload hx hb d_Lw_law_346 (lv_at hl 1 rfl) ?_
        refine lv_if_ne (tgt := 363) hx hb d_Lw_law_348 (by decide) (fun hc => ?_) (fun hc => ?_)
        · replace h := h.1 hc
          refine lv_goto (tgt := 1005) hx hb d_Lw_law_363 (by decide) ?_
          refine lv_iinc (k := 2) (v := (x4 + 4)) hx hb d_Lw_law_1005 hl rfl (kw_inc _ (by decide)) (by decide) rfl (fun ls hl => ?_)
          have hl : lv_has ls 7 [(4, .int (x4 + 4)), (6, .int r2), (5, .int r1), (3, .ref (g.1 53)), (2, .ref (g.1 54)), (1, .ref (g.1 51)), (0, .ref b)] := hl
          refine lv_goto (tgt := 23) hx hb d_Lw_law_1008 (by decide) ?_
          refine W.widen (k := kc + 5) (n := ks + 3968) (by omega) (by omega) ?_
          exact j σ3 _ _ _ (lv_sub hl [0, 3, 4, 5, 6] rfl) hst h
        · replace h := h.2 hc
          refine lv_aload_n hx hb d_Lw_law_351 rfl (lv_at hl 3 rfl) ?_
          refine lv_iconst (v := (0 : Int32)) hx hb d_Lw_law_352 (by decide) ?_
          obtain ⟨hi, h⟩ := h
          refine va_lald hx hb hK hst.1 53 3 (WS_a53 g σ3) rfl hi d_Lw_law_353 ?_
          refine lv_iload hx hb d_Lw_law_354 (lv_at hl 0 rfl) ?_
          refine lv_i2l hx hb d_Lw_law_356 rfl ?_
          refine W.lcmp hx hb d_Lw_law_357 ?_
          refine lv_if_eq (tgt := 363) hx hb d_Lw_law_358 (by decide) (fun hc => ?_) (fun hc => ?_)
          · replace h := h.1 hc
            refine lv_goto (tgt := 1005) hx hb d_Lw_law_363 (by decide) ?_
            refine lv_iinc (k := 2) (v := (x4 + 4)) hx hb d_Lw_law_1005 hl rfl (kw_inc _ (by decide)) (by decide) rfl (fun ls hl => ?_)
            have hl : lv_has ls 7 [(4, .int (x4 + 4)), (6, .int r2), (5, .int r1), (3, .ref (g.1 53)), (2, .ref (g.1 54)), (1, .ref (g.1 51)), (0, .ref b)] := hl
            refine lv_goto (tgt := 23) hx hb d_Lw_law_1008 (by decide) ?_
            refine W.widen (k := kc + 5) (n := ks + 3968) (by omega) (by omega) ?_
            exact j σ3 _ _ _ (lv_sub hl [0, 3, 4, 5, 6] rfl) hst h
          · replace h := h.2 hc
            refine lv_iconst (v := (0 : Int32)) hx hb d_Lw_law_361 (by decide) ?_
            exact h.elim
      · replace h := h.2 hc
        refine lv_iconst (v := (0 : Int32)) hx hb d_Lw_law_344 (by decide) ?_
        exact h.elim
    by_cases hc5 : ((xs x4.toNatClampNeg) &&& (15 : Int32)) = 5
    · refine kw_tin (k := 5) (tgt := 366) hx hb d_Lw_law_39 hc5 (by decide) (by decide) rfl (by decide) ?_
      replace h := h.2.2.2.2.2.1 hc5
      refine lv_aload_n hx hb d_Lw_law_366 rfl (lv_at hl 3 rfl) ?_
      refine lv_aload_n hx hb d_Lw_law_367 rfl (lv_at hl 4 rfl) ?_
      refine lv_iload hx hb d_Lw_law_368 (lv_at hl 0 rfl) ?_
      refine lv_iconst (v := (1 : Int32)) hx hb d_Lw_law_370 (by decide) ?_
      refine lv_iadd hx hb d_Lw_law_371 ?_
      obtain ⟨hi, h⟩ := h
      refine va_sld hx hb hX hbl hbA hst.2.2 hi d_Lw_law_372 ?_
      refine lv_aload_n hx hb d_Lw_law_373 rfl (lv_at hl 4 rfl) ?_
      refine lv_iload hx hb d_Lw_law_374 (lv_at hl 0 rfl) ?_
      refine lv_iconst (v := (2 : Int32)) hx hb d_Lw_law_376 (by decide) ?_
      refine lv_iadd hx hb d_Lw_law_377 ?_
      obtain ⟨hi, h⟩ := h
      refine va_sld hx hb hX hbl hbA hst.2.2 hi d_Lw_law_378 ?_
      refine lv_aload_n hx hb d_Lw_law_379 rfl (lv_at hl 1 rfl) ?_
      refine kh_calli (kh_run (n := 4) (ws' := []) (As := [.ref (g.1 51), .int (xs ((x4 + (1 : Int32)) : Int32).toNatClampNeg), .int (xs ((x4 + (2 : Int32)) : Int32).toNatClampNeg), .ref (g.1 53)]) (rest := []) ⟨hx, hb, hml, hown, hts⟩ (c_Lw_letter l htr (xs ((x4 + (1 : Int32)) : Int32).toNatClampNeg) (xs ((x4 + (2 : Int32)) : Int32).toNatClampNeg) h) rfl rfl rfl (Nat.le_of_ble_eq_true rfl) (Nat.le_of_ble_eq_true rfl) gw591 gw592 gw0 gw593 (by decide +kernel) ⟨kw_blind (Zk_ok g), kw_pre (Zk_ok g) hK hZ hA hst⟩ rfl hl.1 rfl (Nat.le_of_ble_eq_true rfl) d_Lw_law_380 ⟨by omega, by omega⟩) hst hA (fun r1 σ1 H locs h hst => ?_)
      refine lv_istore hx hb d_Lw_law_383 hl (by decide) rfl (fun ls hl => ?_)
      have hl : lv_has ls 7 [(5, .int r1), (4, .int x4), (3, .ref (g.1 53)), (2, .ref (g.1 54)), (1, .ref (g.1 51)), (0, .ref b)] := hl
      refine lv_aload_n hx hb d_Lw_law_385 rfl (lv_at hl 3 rfl) ?_
      refine lv_aload_n hx hb d_Lw_law_386 rfl (lv_at hl 5 rfl) ?_
      refine lv_iload hx hb d_Lw_law_387 (lv_at hl 1 rfl) ?_
      refine lv_iconst (v := (1 : Int32)) hx hb d_Lw_law_389 (by decide) ?_
      refine lv_iadd hx hb d_Lw_law_390 ?_
      obtain ⟨hi, h⟩ := h
      refine va_sld hx hb hX hbl hbA hst.2.2 hi d_Lw_law_391 ?_
      refine lv_aload_n hx hb d_Lw_law_392 rfl (lv_at hl 5 rfl) ?_
      refine lv_iload hx hb d_Lw_law_393 (lv_at hl 1 rfl) ?_
      refine lv_iconst (v := (2 : Int32)) hx hb d_Lw_law_395 (by decide) ?_
      refine lv_iadd hx hb d_Lw_law_396 ?_
      obtain ⟨hi, h⟩ := h
      refine va_sld hx hb hX hbl hbA hst.2.2 hi d_Lw_law_397 ?_
      refine kw_calli (va_runV (As := [.int (xs ((x4 + (1 : Int32)) : Int32).toNatClampNeg), .int (xs ((x4 + (2 : Int32)) : Int32).toNatClampNeg)]) (rest := []) (b := g.1 54) ⟨hx, hb, hml, hown, hts⟩ (c_Md_letter l (xs ((x4 + (1 : Int32)) : Int32).toNatClampNeg) (xs ((x4 + (2 : Int32)) : Int32).toNatClampNeg) h) (cwV 2 hts (gd_v gw1244 gw1245 gw1246 gw15 gw1247) rfl rfl rfl (by decide +kernel) ⟨Nat.le_of_ble_eq_true rfl, Nat.le_of_ble_eq_true rfl⟩) ⟨kw_blind (Zk_ok g), va_recv hK hst.1 rfl (WS_o54 g σ1), kw_pre (Zk_ok g) hK hZ hA hst⟩ rfl rfl hl.1 rfl (lv_room (Nat.le_of_ble_eq_true rfl)) d_Lw_law_398 ⟨by omega, by omega⟩) hst hA (fun r2 σ2 H locs h hst => ?_)
      refine lv_istore hx hb d_Lw_law_401 hl (by decide) rfl (fun ls hl => ?_)
      have hl : lv_has ls 7 [(6, .int r2), (5, .int r1), (4, .int x4), (3, .ref (g.1 53)), (2, .ref (g.1 54)), (1, .ref (g.1 51)), (0, .ref b)] := hl
      refine lv_aload_n hx hb d_Lw_law_403 rfl (lv_at hl 4 rfl) ?_
      refine kw_calli (va_runV (As := []) (rest := []) (b := g.1 54) ⟨hx, hb, hml, hown, hts⟩ (c_Md_thrown l h) (cwV 0 hts (gd_v gw1203 gw1204 gw1205 gw15 gw1206) rfl rfl rfl (by decide +kernel) ⟨Nat.le_of_ble_eq_true rfl, Nat.le_of_ble_eq_true rfl⟩) ⟨kw_blind (Zk_ok g), va_recv hK hst.1 rfl (WS_o54 g σ2), kw_pre (Zk_ok g) hK hZ hA hst⟩ rfl rfl hl.1 rfl (lv_room (Nat.le_of_ble_eq_true rfl)) d_Lw_law_404 ⟨by omega, by omega⟩) hst hA (fun r3 σ3 H locs h hst => ?_)
      refine lv_iload hx hb d_Lw_law_407 (lv_at hl 1 rfl) ?_
      refine lv_icmp_eq (tgt := 414) hx hb d_Lw_law_409 (by decide) (fun hc => ?_) (fun hc => ?_)
      · replace h := h.1 hc
        refine lv_iload hx hb d_Lw_law_414 (lv_at hl 1 rfl) ?_
        refine lv_if_ne (tgt := 431) hx hb d_Lw_law_416 (by decide) (fun hc => ?_) (fun hc => ?_)
        · replace h := h.1 hc
          refine lv_goto (tgt := 1005) hx hb d_Lw_law_431 (by decide) ?_
          refine lv_iinc (k := 2) (v := (x4 + 4)) hx hb d_Lw_law_1005 hl rfl (kw_inc _ (by decide)) (by decide) rfl (fun ls hl => ?_)
          have hl : lv_has ls 7 [(4, .int (x4 + 4)), (6, .int r2), (5, .int r1), (3, .ref (g.1 53)), (2, .ref (g.1 54)), (1, .ref (g.1 51)), (0, .ref b)] := hl
          refine lv_goto (tgt := 23) hx hb d_Lw_law_1008 (by decide) ?_
          refine W.widen (k := kc + 5) (n := ks + 3968) (by omega) (by omega) ?_
          exact j σ3 _ _ _ (lv_sub hl [0, 3, 4, 5, 6] rfl) hst h
        · replace h := h.2 hc
          refine lv_aload_n hx hb d_Lw_law_419 rfl (lv_at hl 3 rfl) ?_
          refine lv_iconst (v := (0 : Int32)) hx hb d_Lw_law_420 (by decide) ?_
          obtain ⟨hi, h⟩ := h
          refine va_lald hx hb hK hst.1 53 3 (WS_a53 g σ3) rfl hi d_Lw_law_421 ?_
          refine lv_iload hx hb d_Lw_law_422 (lv_at hl 0 rfl) ?_
          refine lv_i2l hx hb d_Lw_law_424 rfl ?_
          refine W.lcmp hx hb d_Lw_law_425 ?_
          refine lv_if_eq (tgt := 431) hx hb d_Lw_law_426 (by decide) (fun hc => ?_) (fun hc => ?_)
          · replace h := h.1 hc
            refine lv_goto (tgt := 1005) hx hb d_Lw_law_431 (by decide) ?_
            refine lv_iinc (k := 2) (v := (x4 + 4)) hx hb d_Lw_law_1005 hl rfl (kw_inc _ (by decide)) (by decide) rfl (fun ls hl => ?_)
            have hl : lv_has ls 7 [(4, .int (x4 + 4)), (6, .int r2), (5, .int r1), (3, .ref (g.1 53)), (2, .ref (g.1 54)), (1, .ref (g.1 51)), (0, .ref b)] := hl
            refine lv_goto (tgt := 23) hx hb d_Lw_law_1008 (by decide) ?_
            refine W.widen (k := kc + 5) (n := ks + 3968) (by omega) (by omega) ?_
            exact j σ3 _ _ _ (lv_sub hl [0, 3, 4, 5, 6] rfl) hst h
          · replace h := h.2 hc
            refine lv_iconst (v := (0 : Int32)) hx hb d_Lw_law_429 (by decide) ?_
            exact h.elim
      · replace h := h.2 hc
        refine lv_iconst (v := (0 : Int32)) hx hb d_Lw_law_412 (by decide) ?_
        exact h.elim
    by_cases hc6 : ((xs x4.toNatClampNeg) &&& (15 : Int32)) = 6
    · refine kw_tin (k := 6) (tgt := 434) hx hb d_Lw_law_39 hc6 (by decide) (by decide) rfl (by decide) ?_
      replace h := h.2.2.2.2.2.2.1 hc6
      refine lv_aload_n hx hb d_Lw_law_434 rfl (lv_at hl 3 rfl) ?_
      refine lv_aload_n hx hb d_Lw_law_435 rfl (lv_at hl 4 rfl) ?_
      refine lv_iload hx hb d_Lw_law_436 (lv_at hl 0 rfl) ?_
      refine lv_iconst (v := (1 : Int32)) hx hb d_Lw_law_438 (by decide) ?_
      refine lv_iadd hx hb d_Lw_law_439 ?_
      obtain ⟨hi, h⟩ := h
      refine va_sld hx hb hX hbl hbA hst.2.2 hi d_Lw_law_440 ?_
      refine lv_aload_n hx hb d_Lw_law_441 rfl (lv_at hl 1 rfl) ?_
      refine kh_calli (kh_run (n := 3) (ws' := []) (As := [.ref (g.1 51), .int (xs ((x4 + (1 : Int32)) : Int32).toNatClampNeg), .ref (g.1 53)]) (rest := []) ⟨hx, hb, hml, hown, hts⟩ (c_Lw_nodes l htr (xs ((x4 + (1 : Int32)) : Int32).toNatClampNeg) h) rfl rfl rfl (Nat.le_of_ble_eq_true rfl) (Nat.le_of_ble_eq_true rfl) gw598 gw599 gw0 gw600 (by decide +kernel) ⟨kw_blind (Zk_ok g), kw_pre (Zk_ok g) hK hZ hA hst⟩ rfl hl.1 rfl (Nat.le_of_ble_eq_true rfl) d_Lw_law_442 ⟨by omega, by omega⟩) hst hA (fun r1 σ1 H locs h hst => ?_)
      refine lv_istore hx hb d_Lw_law_445 hl (by decide) rfl (fun ls hl => ?_)
      have hl : lv_has ls 7 [(5, .int r1), (4, .int x4), (3, .ref (g.1 53)), (2, .ref (g.1 54)), (1, .ref (g.1 51)), (0, .ref b)] := hl
      refine lv_aload_n hx hb d_Lw_law_447 rfl (lv_at hl 3 rfl) ?_
      refine lv_aload_n hx hb d_Lw_law_448 rfl (lv_at hl 5 rfl) ?_
      refine lv_iload hx hb d_Lw_law_449 (lv_at hl 1 rfl) ?_
      refine lv_iconst (v := (1 : Int32)) hx hb d_Lw_law_451 (by decide) ?_
      refine lv_iadd hx hb d_Lw_law_452 ?_
      obtain ⟨hi, h⟩ := h
      refine va_sld hx hb hX hbl hbA hst.2.2 hi d_Lw_law_453 ?_
      refine kw_calli (va_runV (As := [.int (xs ((x4 + (1 : Int32)) : Int32).toNatClampNeg)]) (rest := []) (b := g.1 54) ⟨hx, hb, hml, hown, hts⟩ (c_Md_nodes l (xs ((x4 + (1 : Int32)) : Int32).toNatClampNeg) h) (cwV 1 hts (gd_v gw1248 gw1249 gw1250 gw15 gw1251) rfl rfl rfl (by decide +kernel) ⟨Nat.le_of_ble_eq_true rfl, Nat.le_of_ble_eq_true rfl⟩) ⟨kw_blind (Zk_ok g), va_recv hK hst.1 rfl (WS_o54 g σ1), kw_pre (Zk_ok g) hK hZ hA hst⟩ rfl rfl hl.1 rfl (lv_room (Nat.le_of_ble_eq_true rfl)) d_Lw_law_454 ⟨by omega, by omega⟩) hst hA (fun r2 σ2 H locs h hst => ?_)
      refine lv_istore hx hb d_Lw_law_457 hl (by decide) rfl (fun ls hl => ?_)
      have hl : lv_has ls 7 [(6, .int r2), (5, .int r1), (4, .int x4), (3, .ref (g.1 53)), (2, .ref (g.1 54)), (1, .ref (g.1 51)), (0, .ref b)] := hl
      refine lv_aload_n hx hb d_Lw_law_459 rfl (lv_at hl 4 rfl) ?_
      refine kw_calli (va_runV (As := []) (rest := []) (b := g.1 54) ⟨hx, hb, hml, hown, hts⟩ (c_Md_thrown l h) (cwV 0 hts (gd_v gw1203 gw1204 gw1205 gw15 gw1206) rfl rfl rfl (by decide +kernel) ⟨Nat.le_of_ble_eq_true rfl, Nat.le_of_ble_eq_true rfl⟩) ⟨kw_blind (Zk_ok g), va_recv hK hst.1 rfl (WS_o54 g σ2), kw_pre (Zk_ok g) hK hZ hA hst⟩ rfl rfl hl.1 rfl (lv_room (Nat.le_of_ble_eq_true rfl)) d_Lw_law_460 ⟨by omega, by omega⟩) hst hA (fun r3 σ3 H locs h hst => ?_)
      refine lv_iload hx hb d_Lw_law_463 (lv_at hl 1 rfl) ?_
      refine lv_icmp_eq (tgt := 470) hx hb d_Lw_law_465 (by decide) (fun hc => ?_) (fun hc => ?_)
      · replace h := h.1 hc
        refine lv_iload hx hb d_Lw_law_470 (lv_at hl 1 rfl) ?_
        refine lv_if_ne (tgt := 487) hx hb d_Lw_law_472 (by decide) (fun hc => ?_) (fun hc => ?_)
        · replace h := h.1 hc
          refine lv_goto (tgt := 1005) hx hb d_Lw_law_487 (by decide) ?_
          refine lv_iinc (k := 2) (v := (x4 + 4)) hx hb d_Lw_law_1005 hl rfl (kw_inc _ (by decide)) (by decide) rfl (fun ls hl => ?_)
          have hl : lv_has ls 7 [(4, .int (x4 + 4)), (6, .int r2), (5, .int r1), (3, .ref (g.1 53)), (2, .ref (g.1 54)), (1, .ref (g.1 51)), (0, .ref b)] := hl
          refine lv_goto (tgt := 23) hx hb d_Lw_law_1008 (by decide) ?_
          refine W.widen (k := kc + 5) (n := ks + 3968) (by omega) (by omega) ?_
          exact j σ3 _ _ _ (lv_sub hl [0, 3, 4, 5, 6] rfl) hst h
        · replace h := h.2 hc
          refine lv_aload_n hx hb d_Lw_law_475 rfl (lv_at hl 3 rfl) ?_
          refine lv_iconst (v := (0 : Int32)) hx hb d_Lw_law_476 (by decide) ?_
          obtain ⟨hi, h⟩ := h
          refine va_lald hx hb hK hst.1 53 3 (WS_a53 g σ3) rfl hi d_Lw_law_477 ?_
          refine lv_iload hx hb d_Lw_law_478 (lv_at hl 0 rfl) ?_
          refine lv_i2l hx hb d_Lw_law_480 rfl ?_
          refine W.lcmp hx hb d_Lw_law_481 ?_
          refine lv_if_eq (tgt := 487) hx hb d_Lw_law_482 (by decide) (fun hc => ?_) (fun hc => ?_)
          · replace h := h.1 hc
            refine lv_goto (tgt := 1005) hx hb d_Lw_law_487 (by decide) ?_
            refine lv_iinc (k := 2) (v := (x4 + 4)) hx hb d_Lw_law_1005 hl rfl (kw_inc _ (by decide)) (by decide) rfl (fun ls hl => ?_)
            have hl : lv_has ls 7 [(4, .int (x4 + 4)), (6, .int r2), (5, .int r1), (3, .ref (g.1 53)), (2, .ref (g.1 54)), (1, .ref (g.1 51)), (0, .ref b)] := hl
            refine lv_goto (tgt := 23) hx hb d_Lw_law_1008 (by decide) ?_
            refine W.widen (k := kc + 5) (n := ks + 3968) (by omega) (by omega) ?_
            exact j σ3 _ _ _ (lv_sub hl [0, 3, 4, 5, 6] rfl) hst h
          · replace h := h.2 hc
            refine lv_iconst (v := (0 : Int32)) hx hb d_Lw_law_485 (by decide) ?_
            exact h.elim
      · replace h := h.2 hc
        refine lv_iconst (v := (0 : Int32)) hx hb d_Lw_law_468 (by decide) ?_
        exact h.elim
    by_cases hc7 : ((xs x4.toNatClampNeg) &&& (15 : Int32)) = 7
    · refine kw_tin (k := 7) (tgt := 490) hx hb d_Lw_law_39 hc7 (by decide) (by decide) rfl (by decide) ?_
      replace h := h.2.2.2.2.2.2.2.1 hc7
      refine lv_aload_n hx hb d_Lw_law_490 rfl (lv_at hl 3 rfl) ?_
      refine lv_aload_n hx hb d_Lw_law_491 rfl (lv_at hl 4 rfl) ?_
      refine lv_iload hx hb d_Lw_law_492 (lv_at hl 0 rfl) ?_
      refine lv_iconst (v := (1 : Int32)) hx hb d_Lw_law_494 (by decide) ?_
      refine lv_iadd hx hb d_Lw_law_495 ?_
      obtain ⟨hi, h⟩ := h
      refine va_sld hx hb hX hbl hbA hst.2.2 hi d_Lw_law_496 ?_
      refine lv_aload_n hx hb d_Lw_law_497 rfl (lv_at hl 4 rfl) ?_
      refine lv_iload hx hb d_Lw_law_498 (lv_at hl 0 rfl) ?_
      refine lv_iconst (v := (2 : Int32)) hx hb d_Lw_law_500 (by decide) ?_
      refine lv_iadd hx hb d_Lw_law_501 ?_
      obtain ⟨hi, h⟩ := h
      refine va_sld hx hb hX hbl hbA hst.2.2 hi d_Lw_law_502 ?_
      refine lv_aload_n hx hb d_Lw_law_503 rfl (lv_at hl 4 rfl) ?_
      refine lv_iload hx hb d_Lw_law_504 (lv_at hl 0 rfl) ?_
      refine lv_iconst (v := (3 : Int32)) hx hb d_Lw_law_506 (by decide) ?_
      refine lv_iadd hx hb d_Lw_law_507 ?_
      obtain ⟨hi, h⟩ := h
      refine va_sld hx hb hX hbl hbA hst.2.2 hi d_Lw_law_508 ?_
      refine lv_aload_n hx hb d_Lw_law_509 rfl (lv_at hl 1 rfl) ?_
      refine kh_calli (kh_run (n := 5) (ws' := []) (As := [.ref (g.1 51), .int (xs ((x4 + (1 : Int32)) : Int32).toNatClampNeg), .int (xs ((x4 + (2 : Int32)) : Int32).toNatClampNeg), .int (xs ((x4 + (3 : Int32)) : Int32).toNatClampNeg), .ref (g.1 53)]) (rest := []) ⟨hx, hb, hml, hown, hts⟩ (c_Lw_node l htr (xs ((x4 + (1 : Int32)) : Int32).toNatClampNeg) (xs ((x4 + (2 : Int32)) : Int32).toNatClampNeg) (xs ((x4 + (3 : Int32)) : Int32).toNatClampNeg) h) rfl rfl rfl (Nat.le_of_ble_eq_true rfl) (Nat.le_of_ble_eq_true rfl) gw693 gw694 gw0 gw695 (by decide +kernel) ⟨kw_blind (Zk_ok g), kw_pre (Zk_ok g) hK hZ hA hst⟩ rfl hl.1 rfl (Nat.le_of_ble_eq_true rfl) d_Lw_law_510 ⟨by omega, by omega⟩) hst hA (fun r1 σ1 H locs h hst => ?_)
      refine lv_istore hx hb d_Lw_law_513 hl (by decide) rfl (fun ls hl => ?_)
      have hl : lv_has ls 7 [(5, .int r1), (4, .int x4), (3, .ref (g.1 53)), (2, .ref (g.1 54)), (1, .ref (g.1 51)), (0, .ref b)] := hl
      refine lv_aload_n hx hb d_Lw_law_515 rfl (lv_at hl 3 rfl) ?_
      refine lv_aload_n hx hb d_Lw_law_516 rfl (lv_at hl 5 rfl) ?_
      refine lv_iload hx hb d_Lw_law_517 (lv_at hl 1 rfl) ?_
      refine lv_iconst (v := (1 : Int32)) hx hb d_Lw_law_519 (by decide) ?_
      refine lv_iadd hx hb d_Lw_law_520 ?_
      obtain ⟨hi, h⟩ := h
      refine va_sld hx hb hX hbl hbA hst.2.2 hi d_Lw_law_521 ?_
      refine lv_aload_n hx hb d_Lw_law_522 rfl (lv_at hl 5 rfl) ?_
      refine lv_iload hx hb d_Lw_law_523 (lv_at hl 1 rfl) ?_
      refine lv_iconst (v := (2 : Int32)) hx hb d_Lw_law_525 (by decide) ?_
      refine lv_iadd hx hb d_Lw_law_526 ?_
      obtain ⟨hi, h⟩ := h
      refine va_sld hx hb hX hbl hbA hst.2.2 hi d_Lw_law_527 ?_
      refine lv_aload_n hx hb d_Lw_law_528 rfl (lv_at hl 5 rfl) ?_
      refine lv_iload hx hb d_Lw_law_529 (lv_at hl 1 rfl) ?_
      refine lv_iconst (v := (3 : Int32)) hx hb d_Lw_law_531 (by decide) ?_
      refine lv_iadd hx hb d_Lw_law_532 ?_
      obtain ⟨hi, h⟩ := h
      refine va_sld hx hb hX hbl hbA hst.2.2 hi d_Lw_law_533 ?_
      refine kw_calli (va_runV (As := [.int (xs ((x4 + (1 : Int32)) : Int32).toNatClampNeg), .int (xs ((x4 + (2 : Int32)) : Int32).toNatClampNeg), .int (xs ((x4 + (3 : Int32)) : Int32).toNatClampNeg)]) (rest := []) (b := g.1 54) ⟨hx, hb, hml, hown, hts⟩ (c_Md_node l (xs ((x4 + (1 : Int32)) : Int32).toNatClampNeg) (xs ((x4 + (2 : Int32)) : Int32).toNatClampNeg) (xs ((x4 + (3 : Int32)) : Int32).toNatClampNeg) h) (cwV 3 hts (gd_v gw1321 gw1322 gw1323 gw15 gw1324) rfl rfl rfl (by decide +kernel) ⟨Nat.le_of_ble_eq_true rfl, Nat.le_of_ble_eq_true rfl⟩) ⟨kw_blind (Zk_ok g), va_recv hK hst.1 rfl (WS_o54 g σ1), kw_pre (Zk_ok g) hK hZ hA hst⟩ rfl rfl hl.1 rfl (lv_room (Nat.le_of_ble_eq_true rfl)) d_Lw_law_534 ⟨by omega, by omega⟩) hst hA (fun r2 σ2 H locs h hst => ?_)
      refine lv_istore hx hb d_Lw_law_537 hl (by decide) rfl (fun ls hl => ?_)
      have hl : lv_has ls 7 [(6, .int r2), (5, .int r1), (4, .int x4), (3, .ref (g.1 53)), (2, .ref (g.1 54)), (1, .ref (g.1 51)), (0, .ref b)] := hl
      refine lv_aload_n hx hb d_Lw_law_539 rfl (lv_at hl 4 rfl) ?_
      refine kw_calli (va_runV (As := []) (rest := []) (b := g.1 54) ⟨hx, hb, hml, hown, hts⟩ (c_Md_thrown l h) (cwV 0 hts (gd_v gw1203 gw1204 gw1205 gw15 gw1206) rfl rfl rfl (by decide +kernel) ⟨Nat.le_of_ble_eq_true rfl, Nat.le_of_ble_eq_true rfl⟩) ⟨kw_blind (Zk_ok g), va_recv hK hst.1 rfl (WS_o54 g σ2), kw_pre (Zk_ok g) hK hZ hA hst⟩ rfl rfl hl.1 rfl (lv_room (Nat.le_of_ble_eq_true rfl)) d_Lw_law_540 ⟨by omega, by omega⟩) hst hA (fun r3 σ3 H locs h hst => ?_)
      refine lv_iload hx hb d_Lw_law_543 (lv_at hl 1 rfl) ?_
      refine lv_icmp_eq (tgt := 550) hx hb d_Lw_law_545 (by decide) (fun hc => ?_) (fun hc => ?_)
      · replace h := h.1 hc
        refine lv_iload hx hb d_Lw_law_550 (lv_at hl 1 rfl) ?_
        refine lv_if_ne (tgt := 567) hx hb d_Lw_law_552 (by decide) (fun hc => ?_) (fun hc => ?_)
        · replace h := h.1 hc
          refine lv_goto (tgt := 1005) hx hb d_Lw_law_567 (by decide) ?_
          refine lv_iinc (k := 2) (v := (x4 + 4)) hx hb d_Lw_law_1005 hl rfl (kw_inc _ (by decide)) (by decide) rfl (fun ls hl => ?_)
          have hl : lv_has ls 7 [(4, .int (x4 + 4)), (6, .int r2), (5, .int r1), (3, .ref (g.1 53)), (2, .ref (g.1 54)), (1, .ref (g.1 51)), (0, .ref b)] := hl
          refine lv_goto (tgt := 23) hx hb d_Lw_law_1008 (by decide) ?_
          refine W.widen (k := kc + 5) (n := ks + 3968) (by omega) (by omega) ?_
          exact j σ3 _ _ _ (lv_sub hl [0, 3, 4, 5, 6] rfl) hst h
        · replace h := h.2 hc
          refine lv_aload_n hx hb d_Lw_law_555 rfl (lv_at hl 3 rfl) ?_
          refine lv_iconst (v := (0 : Int32)) hx hb d_Lw_law_556 (by decide) ?_
          obtain ⟨hi, h⟩ := h
          refine va_lald hx hb hK hst.1 53 3 (WS_a53 g σ3) rfl hi d_Lw_law_557 ?_
          refine lv_iload hx hb d_Lw_law_558 (lv_at hl 0 rfl) ?_
          refine lv_i2l hx hb d_Lw_law_560 rfl ?_
          refine W.lcmp hx hb d_Lw_law_561 ?_
          refine lv_if_eq (tgt := 567) hx hb d_Lw_law_562 (by decide) (fun hc => ?_) (fun hc => ?_)
          · replace h := h.1 hc
            refine lv_goto (tgt := 1005) hx hb d_Lw_law_567 (by decide) ?_
            refine lv_iinc (k := 2) (v := (x4 + 4)) hx hb d_Lw_law_1005 hl rfl (kw_inc _ (by decide)) (by decide) rfl (fun ls hl => ?_)
            have hl : lv_has ls 7 [(4, .int (x4 + 4)), (6, .int r2), (5, .int r1), (3, .ref (g.1 53)), (2, .ref (g.1 54)), (1, .ref (g.1 51)), (0, .ref b)] := hl
            refine lv_goto (tgt := 23) hx hb d_Lw_law_1008 (by decide) ?_
            refine W.widen (k := kc + 5) (n := ks + 3968) (by omega) (by omega) ?_
            exact j σ3 _ _ _ (lv_sub hl [0, 3, 4, 5, 6] rfl) hst h
          · replace h := h.2 hc
            refine lv_iconst (v := (0 : Int32)) hx hb d_Lw_law_565 (by decide) ?_
            exact h.elim
      · replace h := h.2 hc
        refine lv_iconst (v := (0 : Int32)) hx hb d_Lw_law_548 (by decide) ?_
        exact h.elim
    by_cases hc8 : ((xs x4.toNatClampNeg) &&& (15 : Int32)) = 8
    · refine kw_tin (k := 8) (tgt := 570) hx hb d_Lw_law_39 hc8 (by decide) (by decide) rfl (by decide) ?_
      replace h := h.2.2.2.2.2.2.2.2.1 hc8
      refine lv_aload_n hx hb d_Lw_law_570 rfl (lv_at hl 3 rfl) ?_
      refine lv_aload_n hx hb d_Lw_law_571 rfl (lv_at hl 4 rfl) ?_
      refine lv_iload hx hb d_Lw_law_572 (lv_at hl 0 rfl) ?_
      refine lv_iconst (v := (1 : Int32)) hx hb d_Lw_law_574 (by decide) ?_
      refine lv_iadd hx hb d_Lw_law_575 ?_
      obtain ⟨hi, h⟩ := h
      refine va_sld hx hb hX hbl hbA hst.2.2 hi d_Lw_law_576 ?_
      refine lv_aload_n hx hb d_Lw_law_577 rfl (lv_at hl 1 rfl) ?_
      refine kh_calli (kh_run (n := 3) (ws' := []) (As := [.ref (g.1 51), .int (xs ((x4 + (1 : Int32)) : Int32).toNatClampNeg), .ref (g.1 53)]) (rest := []) ⟨hx, hb, hml, hown, hts⟩ (c_Lw_faults l htr (xs ((x4 + (1 : Int32)) : Int32).toNatClampNeg) h) rfl rfl rfl (Nat.le_of_ble_eq_true rfl) (Nat.le_of_ble_eq_true rfl) gw720 gw721 gw0 gw722 (by decide +kernel) ⟨kw_blind (Zk_ok g), kw_pre (Zk_ok g) hK hZ hA hst⟩ rfl hl.1 rfl (Nat.le_of_ble_eq_true rfl) d_Lw_law_578 ⟨by omega, by omega⟩) hst hA (fun r1 σ1 H locs h hst => ?_)
      refine lv_istore hx hb d_Lw_law_581 hl (by decide) rfl (fun ls hl => ?_)
      have hl : lv_has ls 7 [(5, .int r1), (4, .int x4), (3, .ref (g.1 53)), (2, .ref (g.1 54)), (1, .ref (g.1 51)), (0, .ref b)] := hl
      refine lv_aload_n hx hb d_Lw_law_583 rfl (lv_at hl 3 rfl) ?_
      refine lv_aload_n hx hb d_Lw_law_584 rfl (lv_at hl 5 rfl) ?_
      refine lv_iload hx hb d_Lw_law_585 (lv_at hl 1 rfl) ?_
      refine lv_iconst (v := (1 : Int32)) hx hb d_Lw_law_587 (by decide) ?_
      refine lv_iadd hx hb d_Lw_law_588 ?_
      obtain ⟨hi, h⟩ := h
      refine va_sld hx hb hX hbl hbA hst.2.2 hi d_Lw_law_589 ?_
      refine kw_calli (va_runV (As := [.int (xs ((x4 + (1 : Int32)) : Int32).toNatClampNeg)]) (rest := []) (b := g.1 54) ⟨hx, hb, hml, hown, hts⟩ (c_Md_faults l (xs ((x4 + (1 : Int32)) : Int32).toNatClampNeg) h) (cwV 1 hts (gd_v gw1329 gw1330 gw1331 gw15 gw1332) rfl rfl rfl (by decide +kernel) ⟨Nat.le_of_ble_eq_true rfl, Nat.le_of_ble_eq_true rfl⟩) ⟨kw_blind (Zk_ok g), va_recv hK hst.1 rfl (WS_o54 g σ1), kw_pre (Zk_ok g) hK hZ hA hst⟩ rfl rfl hl.1 rfl (lv_room (Nat.le_of_ble_eq_true rfl)) d_Lw_law_590 ⟨by omega, by omega⟩) hst hA (fun r2 σ2 H locs h hst => ?_)
      refine lv_istore hx hb d_Lw_law_593 hl (by decide) rfl (fun ls hl => ?_)
      have hl : lv_has ls 7 [(6, .int r2), (5, .int r1), (4, .int x4), (3, .ref (g.1 53)), (2, .ref (g.1 54)), (1, .ref (g.1 51)), (0, .ref b)] := hl
      refine lv_aload_n hx hb d_Lw_law_595 rfl (lv_at hl 4 rfl) ?_
      refine kw_calli (va_runV (As := []) (rest := []) (b := g.1 54) ⟨hx, hb, hml, hown, hts⟩ (c_Md_thrown l h) (cwV 0 hts (gd_v gw1203 gw1204 gw1205 gw15 gw1206) rfl rfl rfl (by decide +kernel) ⟨Nat.le_of_ble_eq_true rfl, Nat.le_of_ble_eq_true rfl⟩) ⟨kw_blind (Zk_ok g), va_recv hK hst.1 rfl (WS_o54 g σ2), kw_pre (Zk_ok g) hK hZ hA hst⟩ rfl rfl hl.1 rfl (lv_room (Nat.le_of_ble_eq_true rfl)) d_Lw_law_596 ⟨by omega, by omega⟩) hst hA (fun r3 σ3 H locs h hst => ?_)
      refine lv_iload hx hb d_Lw_law_599 (lv_at hl 1 rfl) ?_
      refine lv_icmp_eq (tgt := 606) hx hb d_Lw_law_601 (by decide) (fun hc => ?_) (fun hc => ?_)
      · replace h := h.1 hc
        refine lv_iload hx hb d_Lw_law_606 (lv_at hl 1 rfl) ?_
        refine lv_if_ne (tgt := 623) hx hb d_Lw_law_608 (by decide) (fun hc => ?_) (fun hc => ?_)
        · replace h := h.1 hc
          refine lv_goto (tgt := 1005) hx hb d_Lw_law_623 (by decide) ?_
          refine lv_iinc (k := 2) (v := (x4 + 4)) hx hb d_Lw_law_1005 hl rfl (kw_inc _ (by decide)) (by decide) rfl (fun ls hl => ?_)
          have hl : lv_has ls 7 [(4, .int (x4 + 4)), (6, .int r2), (5, .int r1), (3, .ref (g.1 53)), (2, .ref (g.1 54)), (1, .ref (g.1 51)), (0, .ref b)] := hl
          refine lv_goto (tgt := 23) hx hb d_Lw_law_1008 (by decide) ?_
          refine W.widen (k := kc + 5) (n := ks + 3968) (by omega) (by omega) ?_
          exact j σ3 _ _ _ (lv_sub hl [0, 3, 4, 5, 6] rfl) hst h
        · replace h := h.2 hc
          refine lv_aload_n hx hb d_Lw_law_611 rfl (lv_at hl 3 rfl) ?_
          refine lv_iconst (v := (0 : Int32)) hx hb d_Lw_law_612 (by decide) ?_
          obtain ⟨hi, h⟩ := h
          refine va_lald hx hb hK hst.1 53 3 (WS_a53 g σ3) rfl hi d_Lw_law_613 ?_
          refine lv_iload hx hb d_Lw_law_614 (lv_at hl 0 rfl) ?_
          refine lv_i2l hx hb d_Lw_law_616 rfl ?_
          refine W.lcmp hx hb d_Lw_law_617 ?_
          refine lv_if_eq (tgt := 623) hx hb d_Lw_law_618 (by decide) (fun hc => ?_) (fun hc => ?_)
          · replace h := h.1 hc
            refine lv_goto (tgt := 1005) hx hb d_Lw_law_623 (by decide) ?_
            refine lv_iinc (k := 2) (v := (x4 + 4)) hx hb d_Lw_law_1005 hl rfl (kw_inc _ (by decide)) (by decide) rfl (fun ls hl => ?_)
            have hl : lv_has ls 7 [(4, .int (x4 + 4)), (6, .int r2), (5, .int r1), (3, .ref (g.1 53)), (2, .ref (g.1 54)), (1, .ref (g.1 51)), (0, .ref b)] := hl
            refine lv_goto (tgt := 23) hx hb d_Lw_law_1008 (by decide) ?_
            refine W.widen (k := kc + 5) (n := ks + 3968) (by omega) (by omega) ?_
            exact j σ3 _ _ _ (lv_sub hl [0, 3, 4, 5, 6] rfl) hst h
          · replace h := h.2 hc
            refine lv_iconst (v := (0 : Int32)) hx hb d_Lw_law_621 (by decide) ?_
            exact h.elim
      · replace h := h.2 hc
        refine lv_iconst (v := (0 : Int32)) hx hb d_Lw_law_604 (by decide) ?_
        exact h.elim
    by_cases hc9 : ((xs x4.toNatClampNeg) &&& (15 : Int32)) = 9
    · refine kw_tin (k := 9) (tgt := 626) hx hb d_Lw_law_39 hc9 (by decide) (by decide) rfl (by decide) ?_
      replace h := h.2.2.2.2.2.2.2.2.2.1 hc9
      refine lv_aload_n hx hb d_Lw_law_626 rfl (lv_at hl 3 rfl) ?_
      refine lv_aload_n hx hb d_Lw_law_627 rfl (lv_at hl 4 rfl) ?_
      refine lv_iload hx hb d_Lw_law_628 (lv_at hl 0 rfl) ?_
      refine lv_iconst (v := (1 : Int32)) hx hb d_Lw_law_630 (by decide) ?_
      refine lv_iadd hx hb d_Lw_law_631 ?_
      obtain ⟨hi, h⟩ := h
      refine va_sld hx hb hX hbl hbA hst.2.2 hi d_Lw_law_632 ?_
      refine lv_aload_n hx hb d_Lw_law_633 rfl (lv_at hl 4 rfl) ?_
      refine lv_iload hx hb d_Lw_law_634 (lv_at hl 0 rfl) ?_
      refine lv_iconst (v := (2 : Int32)) hx hb d_Lw_law_636 (by decide) ?_
      refine lv_iadd hx hb d_Lw_law_637 ?_
      obtain ⟨hi, h⟩ := h
      refine va_sld hx hb hX hbl hbA hst.2.2 hi d_Lw_law_638 ?_
      refine lv_aload_n hx hb d_Lw_law_639 rfl (lv_at hl 1 rfl) ?_
      refine kh_calli (kh_run (n := 4) (ws' := []) (As := [.ref (g.1 51), .int (xs ((x4 + (1 : Int32)) : Int32).toNatClampNeg), .int (xs ((x4 + (2 : Int32)) : Int32).toNatClampNeg), .ref (g.1 53)]) (rest := []) ⟨hx, hb, hml, hown, hts⟩ (c_Lw_fault l htr (xs ((x4 + (1 : Int32)) : Int32).toNatClampNeg) (xs ((x4 + (2 : Int32)) : Int32).toNatClampNeg) h) rfl rfl rfl (Nat.le_of_ble_eq_true rfl) (Nat.le_of_ble_eq_true rfl) gw727 gw728 gw0 gw729 (by decide +kernel) ⟨kw_blind (Zk_ok g), kw_pre (Zk_ok g) hK hZ hA hst⟩ rfl hl.1 rfl (Nat.le_of_ble_eq_true rfl) d_Lw_law_640 ⟨by omega, by omega⟩) hst hA (fun r1 σ1 H locs h hst => ?_)
      refine lv_istore hx hb d_Lw_law_643 hl (by decide) rfl (fun ls hl => ?_)
      have hl : lv_has ls 7 [(5, .int r1), (4, .int x4), (3, .ref (g.1 53)), (2, .ref (g.1 54)), (1, .ref (g.1 51)), (0, .ref b)] := hl
      refine lv_aload_n hx hb d_Lw_law_645 rfl (lv_at hl 3 rfl) ?_
      refine lv_aload_n hx hb d_Lw_law_646 rfl (lv_at hl 5 rfl) ?_
      refine lv_iload hx hb d_Lw_law_647 (lv_at hl 1 rfl) ?_
      refine lv_iconst (v := (1 : Int32)) hx hb d_Lw_law_649 (by decide) ?_
      refine lv_iadd hx hb d_Lw_law_650 ?_
      obtain ⟨hi, h⟩ := h
      refine va_sld hx hb hX hbl hbA hst.2.2 hi d_Lw_law_651 ?_
      refine lv_aload_n hx hb d_Lw_law_652 rfl (lv_at hl 5 rfl) ?_
      refine lv_iload hx hb d_Lw_law_653 (lv_at hl 1 rfl) ?_
      refine lv_iconst (v := (2 : Int32)) hx hb d_Lw_law_655 (by decide) ?_
      refine lv_iadd hx hb d_Lw_law_656 ?_
      obtain ⟨hi, h⟩ := h
      refine va_sld hx hb hX hbl hbA hst.2.2 hi d_Lw_law_657 ?_
      refine kw_calli (va_runV (As := [.int (xs ((x4 + (1 : Int32)) : Int32).toNatClampNeg), .int (xs ((x4 + (2 : Int32)) : Int32).toNatClampNeg)]) (rest := []) (b := g.1 54) ⟨hx, hb, hml, hown, hts⟩ (c_Md_fault l (xs ((x4 + (1 : Int32)) : Int32).toNatClampNeg) (xs ((x4 + (2 : Int32)) : Int32).toNatClampNeg) h) (cwV 2 hts (gd_v gw1333 gw1334 gw1335 gw15 gw1336) rfl rfl rfl (by decide +kernel) ⟨Nat.le_of_ble_eq_true rfl, Nat.le_of_ble_eq_true rfl⟩) ⟨kw_blind (Zk_ok g), va_recv hK hst.1 rfl (WS_o54 g σ1), kw_pre (Zk_ok g) hK hZ hA hst⟩ rfl rfl hl.1 rfl (lv_room (Nat.le_of_ble_eq_true rfl)) d_Lw_law_658 ⟨by omega, by omega⟩) hst hA (fun r2 σ2 H locs h hst => ?_)
      refine lv_istore hx hb d_Lw_law_661 hl (by decide) rfl (fun ls hl => ?_)
      have hl : lv_has ls 7 [(6, .int r2), (5, .int r1), (4, .int x4), (3, .ref (g.1 53)), (2, .ref (g.1 54)), (1, .ref (g.1 51)), (0, .ref b)] := hl
      refine lv_aload_n hx hb d_Lw_law_663 rfl (lv_at hl 4 rfl) ?_
      refine kw_calli (va_runV (As := []) (rest := []) (b := g.1 54) ⟨hx, hb, hml, hown, hts⟩ (c_Md_thrown l h) (cwV 0 hts (gd_v gw1203 gw1204 gw1205 gw15 gw1206) rfl rfl rfl (by decide +kernel) ⟨Nat.le_of_ble_eq_true rfl, Nat.le_of_ble_eq_true rfl⟩) ⟨kw_blind (Zk_ok g), va_recv hK hst.1 rfl (WS_o54 g σ2), kw_pre (Zk_ok g) hK hZ hA hst⟩ rfl rfl hl.1 rfl (lv_room (Nat.le_of_ble_eq_true rfl)) d_Lw_law_664 ⟨by omega, by omega⟩) hst hA (fun r3 σ3 H locs h hst => ?_)
      refine lv_iload hx hb d_Lw_law_667 (lv_at hl 1 rfl) ?_
      refine lv_icmp_eq (tgt := 674) hx hb d_Lw_law_669 (by decide) (fun hc => ?_) (fun hc => ?_)
      · replace h := h.1 hc
        refine lv_iload hx hb d_Lw_law_674 (lv_at hl 1 rfl) ?_
        refine lv_if_ne (tgt := 691) hx hb d_Lw_law_676 (by decide) (fun hc => ?_) (fun hc => ?_)
        · replace h := h.1 hc
          refine lv_goto (tgt := 1005) hx hb d_Lw_law_691 (by decide) ?_
          refine lv_iinc (k := 2) (v := (x4 + 4)) hx hb d_Lw_law_1005 hl rfl (kw_inc _ (by decide)) (by decide) rfl (fun ls hl => ?_)
          have hl : lv_has ls 7 [(4, .int (x4 + 4)), (6, .int r2), (5, .int r1), (3, .ref (g.1 53)), (2, .ref (g.1 54)), (1, .ref (g.1 51)), (0, .ref b)] := hl
          refine lv_goto (tgt := 23) hx hb d_Lw_law_1008 (by decide) ?_
          refine W.widen (k := kc + 5) (n := ks + 3968) (by omega) (by omega) ?_
          exact j σ3 _ _ _ (lv_sub hl [0, 3, 4, 5, 6] rfl) hst h
        · replace h := h.2 hc
          refine lv_aload_n hx hb d_Lw_law_679 rfl (lv_at hl 3 rfl) ?_
          refine lv_iconst (v := (0 : Int32)) hx hb d_Lw_law_680 (by decide) ?_
          obtain ⟨hi, h⟩ := h
          refine va_lald hx hb hK hst.1 53 3 (WS_a53 g σ3) rfl hi d_Lw_law_681 ?_
          refine lv_iload hx hb d_Lw_law_682 (lv_at hl 0 rfl) ?_
          refine lv_i2l hx hb d_Lw_law_684 rfl ?_
          refine W.lcmp hx hb d_Lw_law_685 ?_
          refine lv_if_eq (tgt := 691) hx hb d_Lw_law_686 (by decide) (fun hc => ?_) (fun hc => ?_)
          · replace h := h.1 hc
            refine lv_goto (tgt := 1005) hx hb d_Lw_law_691 (by decide) ?_
            refine lv_iinc (k := 2) (v := (x4 + 4)) hx hb d_Lw_law_1005 hl rfl (kw_inc _ (by decide)) (by decide) rfl (fun ls hl => ?_)
            have hl : lv_has ls 7 [(4, .int (x4 + 4)), (6, .int r2), (5, .int r1), (3, .ref (g.1 53)), (2, .ref (g.1 54)), (1, .ref (g.1 51)), (0, .ref b)] := hl
            refine lv_goto (tgt := 23) hx hb d_Lw_law_1008 (by decide) ?_
            refine W.widen (k := kc + 5) (n := ks + 3968) (by omega) (by omega) ?_
            exact j σ3 _ _ _ (lv_sub hl [0, 3, 4, 5, 6] rfl) hst h
          · replace h := h.2 hc
            refine lv_iconst (v := (0 : Int32)) hx hb d_Lw_law_689 (by decide) ?_
            exact h.elim
      · replace h := h.2 hc
        refine lv_iconst (v := (0 : Int32)) hx hb d_Lw_law_672 (by decide) ?_
        exact h.elim
    by_cases hc10 : ((xs x4.toNatClampNeg) &&& (15 : Int32)) = 10
    · refine kw_tin (k := 10) (tgt := 694) hx hb d_Lw_law_39 hc10 (by decide) (by decide) rfl (by decide) ?_
      replace h := h.2.2.2.2.2.2.2.2.2.2.1 hc10
      refine lv_aload_n hx hb d_Lw_law_694 rfl (lv_at hl 3 rfl) ?_
      refine lv_aload_n hx hb d_Lw_law_695 rfl (lv_at hl 4 rfl) ?_
      refine lv_iload hx hb d_Lw_law_696 (lv_at hl 0 rfl) ?_
      refine lv_iconst (v := (1 : Int32)) hx hb d_Lw_law_698 (by decide) ?_
      refine lv_iadd hx hb d_Lw_law_699 ?_
      obtain ⟨hi, h⟩ := h
      refine va_sld hx hb hX hbl hbA hst.2.2 hi d_Lw_law_700 ?_
      refine lv_aload_n hx hb d_Lw_law_701 rfl (lv_at hl 4 rfl) ?_
      refine lv_iload hx hb d_Lw_law_702 (lv_at hl 0 rfl) ?_
      refine lv_iconst (v := (2 : Int32)) hx hb d_Lw_law_704 (by decide) ?_
      refine lv_iadd hx hb d_Lw_law_705 ?_
      obtain ⟨hi, h⟩ := h
      refine va_sld hx hb hX hbl hbA hst.2.2 hi d_Lw_law_706 ?_
      refine lv_aload_n hx hb d_Lw_law_707 rfl (lv_at hl 1 rfl) ?_
      refine kh_calli (kh_run (n := 4) (ws' := []) (As := [.ref (g.1 51), .int (xs ((x4 + (1 : Int32)) : Int32).toNatClampNeg), .int (xs ((x4 + (2 : Int32)) : Int32).toNatClampNeg), .ref (g.1 53)]) (rest := []) ⟨hx, hb, hml, hown, hts⟩ (c_Lw_holds l htr (xs ((x4 + (1 : Int32)) : Int32).toNatClampNeg) (xs ((x4 + (2 : Int32)) : Int32).toNatClampNeg) h) rfl rfl rfl (Nat.le_of_ble_eq_true rfl) (Nat.le_of_ble_eq_true rfl) gw734 gw735 gw0 gw736 (by decide +kernel) ⟨kw_blind (Zk_ok g), kw_pre (Zk_ok g) hK hZ hA hst⟩ rfl hl.1 rfl (Nat.le_of_ble_eq_true rfl) d_Lw_law_708 ⟨by omega, by omega⟩) hst hA (fun r1 σ1 H locs h hst => ?_)
      refine lv_istore hx hb d_Lw_law_711 hl (by decide) rfl (fun ls hl => ?_)
      have hl : lv_has ls 7 [(5, .int r1), (4, .int x4), (3, .ref (g.1 53)), (2, .ref (g.1 54)), (1, .ref (g.1 51)), (0, .ref b)] := hl
      refine lv_aload_n hx hb d_Lw_law_713 rfl (lv_at hl 3 rfl) ?_
      refine lv_aload_n hx hb d_Lw_law_714 rfl (lv_at hl 5 rfl) ?_
      refine lv_iload hx hb d_Lw_law_715 (lv_at hl 1 rfl) ?_
      refine lv_iconst (v := (1 : Int32)) hx hb d_Lw_law_717 (by decide) ?_
      refine lv_iadd hx hb d_Lw_law_718 ?_
      obtain ⟨hi, h⟩ := h
      refine va_sld hx hb hX hbl hbA hst.2.2 hi d_Lw_law_719 ?_
      refine lv_aload_n hx hb d_Lw_law_720 rfl (lv_at hl 5 rfl) ?_
      refine lv_iload hx hb d_Lw_law_721 (lv_at hl 1 rfl) ?_
      refine lv_iconst (v := (2 : Int32)) hx hb d_Lw_law_723 (by decide) ?_
      refine lv_iadd hx hb d_Lw_law_724 ?_
      obtain ⟨hi, h⟩ := h
      refine va_sld hx hb hX hbl hbA hst.2.2 hi d_Lw_law_725 ?_
      refine kw_calli (va_runV (As := [.int (xs ((x4 + (1 : Int32)) : Int32).toNatClampNeg), .int (xs ((x4 + (2 : Int32)) : Int32).toNatClampNeg)]) (rest := []) (b := g.1 54) ⟨hx, hb, hml, hown, hts⟩ (c_Md_holds l (xs ((x4 + (1 : Int32)) : Int32).toNatClampNeg) (xs ((x4 + (2 : Int32)) : Int32).toNatClampNeg) h) (cwV 2 hts (gd_v gw1337 gw1338 gw1339 gw15 gw1340) rfl rfl rfl (by decide +kernel) ⟨Nat.le_of_ble_eq_true rfl, Nat.le_of_ble_eq_true rfl⟩) ⟨kw_blind (Zk_ok g), va_recv hK hst.1 rfl (WS_o54 g σ1), kw_pre (Zk_ok g) hK hZ hA hst⟩ rfl rfl hl.1 rfl (lv_room (Nat.le_of_ble_eq_true rfl)) d_Lw_law_726 ⟨by omega, by omega⟩) hst hA (fun r2 σ2 H locs h hst => ?_)
      refine lv_istore hx hb d_Lw_law_729 hl (by decide) rfl (fun ls hl => ?_)
      have hl : lv_has ls 7 [(6, .int r2), (5, .int r1), (4, .int x4), (3, .ref (g.1 53)), (2, .ref (g.1 54)), (1, .ref (g.1 51)), (0, .ref b)] := hl
      refine lv_aload_n hx hb d_Lw_law_731 rfl (lv_at hl 4 rfl) ?_
      refine kw_calli (va_runV (As := []) (rest := []) (b := g.1 54) ⟨hx, hb, hml, hown, hts⟩ (c_Md_thrown l h) (cwV 0 hts (gd_v gw1203 gw1204 gw1205 gw15 gw1206) rfl rfl rfl (by decide +kernel) ⟨Nat.le_of_ble_eq_true rfl, Nat.le_of_ble_eq_true rfl⟩) ⟨kw_blind (Zk_ok g), va_recv hK hst.1 rfl (WS_o54 g σ2), kw_pre (Zk_ok g) hK hZ hA hst⟩ rfl rfl hl.1 rfl (lv_room (Nat.le_of_ble_eq_true rfl)) d_Lw_law_732 ⟨by omega, by omega⟩) hst hA (fun r3 σ3 H locs h hst => ?_)
      refine lv_iload hx hb d_Lw_law_735 (lv_at hl 1 rfl) ?_
      refine lv_icmp_eq (tgt := 742) hx hb d_Lw_law_737 (by decide) (fun hc => ?_) (fun hc => ?_)
      · replace h := h.1 hc
        refine lv_iload hx hb d_Lw_law_742 (lv_at hl 1 rfl) ?_
        refine lv_if_ne (tgt := 766) hx hb d_Lw_law_744 (by decide) (fun hc => ?_) (fun hc => ?_)
        · replace h := h.1 hc
          refine lv_goto (tgt := 1005) hx hb d_Lw_law_766 (by decide) ?_
          refine lv_iinc (k := 2) (v := (x4 + 4)) hx hb d_Lw_law_1005 hl rfl (kw_inc _ (by decide)) (by decide) rfl (fun ls hl => ?_)
          have hl : lv_has ls 7 [(4, .int (x4 + 4)), (6, .int r2), (5, .int r1), (3, .ref (g.1 53)), (2, .ref (g.1 54)), (1, .ref (g.1 51)), (0, .ref b)] := hl
          refine lv_goto (tgt := 23) hx hb d_Lw_law_1008 (by decide) ?_
          refine W.widen (k := kc + 5) (n := ks + 3968) (by omega) (by omega) ?_
          exact j σ3 _ _ _ (lv_sub hl [0, 3, 4, 5, 6] rfl) hst h
        · replace h := h.2 hc
          refine lv_aload_n hx hb d_Lw_law_747 rfl (lv_at hl 3 rfl) ?_
          refine lv_iconst (v := (0 : Int32)) hx hb d_Lw_law_748 (by decide) ?_
          obtain ⟨hi, h⟩ := h
          refine va_lald hx hb hK hst.1 53 3 (WS_a53 g σ3) rfl hi d_Lw_law_749 ?_
          refine lv_iload hx hb d_Lw_law_750 (lv_at hl 0 rfl) ?_
          refine lv_if_eq (tgt := 759) hx hb d_Lw_law_752 (by decide) (fun hc => ?_) (fun hc => ?_)
          · replace h := h.1 hc
            refine lv_lconst (v := (0 : Int64)) hx hb d_Lw_law_759 (by decide) ?_
            refine W.lcmp hx hb d_Lw_law_760 ?_
            refine lv_if_eq (tgt := 766) hx hb d_Lw_law_761 (by decide) (fun hc => ?_) (fun hc => ?_)
            · replace h := h.1 hc
              refine lv_goto (tgt := 1005) hx hb d_Lw_law_766 (by decide) ?_
              refine lv_iinc (k := 2) (v := (x4 + 4)) hx hb d_Lw_law_1005 hl rfl (kw_inc _ (by decide)) (by decide) rfl (fun ls hl => ?_)
              have hl : lv_has ls 7 [(4, .int (x4 + 4)), (6, .int r2), (5, .int r1), (3, .ref (g.1 53)), (2, .ref (g.1 54)), (1, .ref (g.1 51)), (0, .ref b)] := hl
              refine lv_goto (tgt := 23) hx hb d_Lw_law_1008 (by decide) ?_
              refine W.widen (k := kc + 5) (n := ks + 3968) (by omega) (by omega) ?_
              exact j σ3 _ _ _ (lv_sub hl [0, 3, 4, 5, 6] rfl) hst h
            · replace h := h.2 hc
              refine lv_iconst (v := (0 : Int32)) hx hb d_Lw_law_764 (by decide) ?_
              exact h.elim
          · replace h := h.2 hc
            refine lv_lconst (v := (1 : Int64)) hx hb d_Lw_law_755 (by decide) ?_
            refine lv_goto (tgt := 760) hx hb d_Lw_law_756 (by decide) ?_
            refine W.lcmp hx hb d_Lw_law_760 ?_
            refine lv_if_eq (tgt := 766) hx hb d_Lw_law_761 (by decide) (fun hc => ?_) (fun hc => ?_)
            · replace h := h.1 hc
              refine lv_goto (tgt := 1005) hx hb d_Lw_law_766 (by decide) ?_
              refine lv_iinc (k := 2) (v := (x4 + 4)) hx hb d_Lw_law_1005 hl rfl (kw_inc _ (by decide)) (by decide) rfl (fun ls hl => ?_)
              have hl : lv_has ls 7 [(4, .int (x4 + 4)), (6, .int r2), (5, .int r1), (3, .ref (g.1 53)), (2, .ref (g.1 54)), (1, .ref (g.1 51)), (0, .ref b)] := hl
              refine lv_goto (tgt := 23) hx hb d_Lw_law_1008 (by decide) ?_
              refine W.widen (k := kc + 5) (n := ks + 3968) (by omega) (by omega) ?_
              exact j σ3 _ _ _ (lv_sub hl [0, 3, 4, 5, 6] rfl) hst h
            · replace h := h.2 hc
              refine lv_iconst (v := (0 : Int32)) hx hb d_Lw_law_764 (by decide) ?_
              exact h.elim
      · replace h := h.2 hc
        refine lv_iconst (v := (0 : Int32)) hx hb d_Lw_law_740 (by decide) ?_
        exact h.elim
    by_cases hc11 : ((xs x4.toNatClampNeg) &&& (15 : Int32)) = 11
    · refine kw_tin (k := 11) (tgt := 769) hx hb d_Lw_law_39 hc11 (by decide) (by decide) rfl (by decide) ?_
      replace h := h.2.2.2.2.2.2.2.2.2.2.2.1 hc11
      refine lv_aload_n hx hb d_Lw_law_769 rfl (lv_at hl 3 rfl) ?_
      refine lv_aload_n hx hb d_Lw_law_770 rfl (lv_at hl 1 rfl) ?_
      refine kh_calli (kh_run (n := 2) (ws' := []) (As := [.ref (g.1 51), .ref (g.1 53)]) (rest := []) ⟨hx, hb, hml, hown, hts⟩ (c_Lw_judge l htr h) rfl rfl rfl (Nat.le_of_ble_eq_true rfl) (Nat.le_of_ble_eq_true rfl) gw891 gw892 gw0 gw893 (by decide +kernel) ⟨kw_blind (Zk_ok g), kw_pre (Zk_ok g) hK hZ hA hst⟩ rfl hl.1 rfl (Nat.le_of_ble_eq_true rfl) d_Lw_law_771 ⟨by omega, by omega⟩) hst hA (fun r1 σ1 H locs h hst => ?_)
      refine lv_istore hx hb d_Lw_law_774 hl (by decide) rfl (fun ls hl => ?_)
      have hl : lv_has ls 7 [(5, .int r1), (4, .int x4), (3, .ref (g.1 53)), (2, .ref (g.1 54)), (1, .ref (g.1 51)), (0, .ref b)] := hl
      refine lv_aload_n hx hb d_Lw_law_776 rfl (lv_at hl 3 rfl) ?_
      refine kw_calli (va_runV (As := []) (rest := []) (b := g.1 54) ⟨hx, hb, hml, hown, hts⟩ (c_Md_judge l h) (cwV 0 hts (gd_v gw1432 gw1433 gw1434 gw15 gw1435) rfl rfl rfl (by decide +kernel) ⟨Nat.le_of_ble_eq_true rfl, Nat.le_of_ble_eq_true rfl⟩) ⟨kw_blind (Zk_ok g), va_recv hK hst.1 rfl (WS_o54 g σ1), kw_pre (Zk_ok g) hK hZ hA hst⟩ rfl rfl hl.1 rfl (lv_room (Nat.le_of_ble_eq_true rfl)) d_Lw_law_777 ⟨by omega, by omega⟩) hst hA (fun r2 σ2 H locs h hst => ?_)
      refine lv_istore hx hb d_Lw_law_780 hl (by decide) rfl (fun ls hl => ?_)
      have hl : lv_has ls 7 [(6, .int r2), (5, .int r1), (4, .int x4), (3, .ref (g.1 53)), (2, .ref (g.1 54)), (1, .ref (g.1 51)), (0, .ref b)] := hl
      refine lv_aload_n hx hb d_Lw_law_782 rfl (lv_at hl 4 rfl) ?_
      refine kw_calli (va_runV (As := []) (rest := []) (b := g.1 54) ⟨hx, hb, hml, hown, hts⟩ (c_Md_thrown l h) (cwV 0 hts (gd_v gw1203 gw1204 gw1205 gw15 gw1206) rfl rfl rfl (by decide +kernel) ⟨Nat.le_of_ble_eq_true rfl, Nat.le_of_ble_eq_true rfl⟩) ⟨kw_blind (Zk_ok g), va_recv hK hst.1 rfl (WS_o54 g σ2), kw_pre (Zk_ok g) hK hZ hA hst⟩ rfl rfl hl.1 rfl (lv_room (Nat.le_of_ble_eq_true rfl)) d_Lw_law_783 ⟨by omega, by omega⟩) hst hA (fun r3 σ3 H locs h hst => ?_)
      refine lv_iload hx hb d_Lw_law_786 (lv_at hl 1 rfl) ?_
      refine lv_icmp_eq (tgt := 793) hx hb d_Lw_law_788 (by decide) (fun hc => ?_) (fun hc => ?_)
      · replace h := h.1 hc
        refine lv_iload hx hb d_Lw_law_793 (lv_at hl 1 rfl) ?_
        refine lv_if_ne (tgt := 810) hx hb d_Lw_law_795 (by decide) (fun hc => ?_) (fun hc => ?_)
        · replace h := h.1 hc
          refine lv_goto (tgt := 1005) hx hb d_Lw_law_810 (by decide) ?_
          refine lv_iinc (k := 2) (v := (x4 + 4)) hx hb d_Lw_law_1005 hl rfl (kw_inc _ (by decide)) (by decide) rfl (fun ls hl => ?_)
          have hl : lv_has ls 7 [(4, .int (x4 + 4)), (6, .int r2), (5, .int r1), (3, .ref (g.1 53)), (2, .ref (g.1 54)), (1, .ref (g.1 51)), (0, .ref b)] := hl
          refine lv_goto (tgt := 23) hx hb d_Lw_law_1008 (by decide) ?_
          refine W.widen (k := kc + 5) (n := ks + 3968) (by omega) (by omega) ?_
          exact j σ3 _ _ _ (lv_sub hl [0, 3, 4, 5, 6] rfl) hst h
        · replace h := h.2 hc
          refine lv_aload_n hx hb d_Lw_law_798 rfl (lv_at hl 3 rfl) ?_
          refine lv_iconst (v := (0 : Int32)) hx hb d_Lw_law_799 (by decide) ?_
          obtain ⟨hi, h⟩ := h
          refine va_lald hx hb hK hst.1 53 3 (WS_a53 g σ3) rfl hi d_Lw_law_800 ?_
          refine lv_iload hx hb d_Lw_law_801 (lv_at hl 0 rfl) ?_
          refine lv_i2l hx hb d_Lw_law_803 rfl ?_
          refine W.lcmp hx hb d_Lw_law_804 ?_
          refine lv_if_eq (tgt := 810) hx hb d_Lw_law_805 (by decide) (fun hc => ?_) (fun hc => ?_)
          · replace h := h.1 hc
            refine lv_goto (tgt := 1005) hx hb d_Lw_law_810 (by decide) ?_
            refine lv_iinc (k := 2) (v := (x4 + 4)) hx hb d_Lw_law_1005 hl rfl (kw_inc _ (by decide)) (by decide) rfl (fun ls hl => ?_)
            have hl : lv_has ls 7 [(4, .int (x4 + 4)), (6, .int r2), (5, .int r1), (3, .ref (g.1 53)), (2, .ref (g.1 54)), (1, .ref (g.1 51)), (0, .ref b)] := hl
            refine lv_goto (tgt := 23) hx hb d_Lw_law_1008 (by decide) ?_
            refine W.widen (k := kc + 5) (n := ks + 3968) (by omega) (by omega) ?_
            exact j σ3 _ _ _ (lv_sub hl [0, 3, 4, 5, 6] rfl) hst h
          · replace h := h.2 hc
            refine lv_iconst (v := (0 : Int32)) hx hb d_Lw_law_808 (by decide) ?_
            exact h.elim
      · replace h := h.2 hc
        refine lv_iconst (v := (0 : Int32)) hx hb d_Lw_law_791 (by decide) ?_
        exact h.elim
    by_cases hc12 : ((xs x4.toNatClampNeg) &&& (15 : Int32)) = 12
    · refine kw_tin (k := 12) (tgt := 813) hx hb d_Lw_law_39 hc12 (by decide) (by decide) rfl (by decide) ?_
      replace h := h.2.2.2.2.2.2.2.2.2.2.2.2.1 hc12
      refine lv_aload_n hx hb d_Lw_law_813 rfl (lv_at hl 3 rfl) ?_
      refine lv_aload_n hx hb d_Lw_law_814 rfl (lv_at hl 4 rfl) ?_
      refine lv_iload hx hb d_Lw_law_815 (lv_at hl 0 rfl) ?_
      refine lv_iconst (v := (1 : Int32)) hx hb d_Lw_law_817 (by decide) ?_
      refine lv_iadd hx hb d_Lw_law_818 ?_
      obtain ⟨hi, h⟩ := h
      refine va_sld hx hb hX hbl hbA hst.2.2 hi d_Lw_law_819 ?_
      refine lv_aload_n hx hb d_Lw_law_820 rfl (lv_at hl 4 rfl) ?_
      refine lv_iload hx hb d_Lw_law_821 (lv_at hl 0 rfl) ?_
      refine lv_iconst (v := (2 : Int32)) hx hb d_Lw_law_823 (by decide) ?_
      refine lv_iadd hx hb d_Lw_law_824 ?_
      obtain ⟨hi, h⟩ := h
      refine va_sld hx hb hX hbl hbA hst.2.2 hi d_Lw_law_825 ?_
      refine lv_aload_n hx hb d_Lw_law_826 rfl (lv_at hl 1 rfl) ?_
      refine kh_calli (kh_run (n := 4) (ws' := []) (As := [.ref (g.1 51), .int (xs ((x4 + (1 : Int32)) : Int32).toNatClampNeg), .int (xs ((x4 + (2 : Int32)) : Int32).toNatClampNeg), .ref (g.1 53)]) (rest := []) ⟨hx, hb, hml, hown, hts⟩ (c_Lw_diagnostic l htr (xs ((x4 + (1 : Int32)) : Int32).toNatClampNeg) (xs ((x4 + (2 : Int32)) : Int32).toNatClampNeg) h) rfl rfl rfl (Nat.le_of_ble_eq_true rfl) (Nat.le_of_ble_eq_true rfl) gw950 gw951 gw0 gw952 (by decide +kernel) ⟨kw_blind (Zk_ok g), kw_pre (Zk_ok g) hK hZ hA hst⟩ rfl hl.1 rfl (Nat.le_of_ble_eq_true rfl) d_Lw_law_827 ⟨by omega, by omega⟩) hst hA (fun r1 σ1 H locs h hst => ?_)
      refine lv_istore hx hb d_Lw_law_830 hl (by decide) rfl (fun ls hl => ?_)
      have hl : lv_has ls 7 [(5, .int r1), (4, .int x4), (3, .ref (g.1 53)), (2, .ref (g.1 54)), (1, .ref (g.1 51)), (0, .ref b)] := hl
      refine lv_aload_n hx hb d_Lw_law_832 rfl (lv_at hl 3 rfl) ?_
      refine lv_aload_n hx hb d_Lw_law_833 rfl (lv_at hl 5 rfl) ?_
      refine lv_iload hx hb d_Lw_law_834 (lv_at hl 1 rfl) ?_
      refine lv_iconst (v := (1 : Int32)) hx hb d_Lw_law_836 (by decide) ?_
      refine lv_iadd hx hb d_Lw_law_837 ?_
      obtain ⟨hi, h⟩ := h
      refine va_sld hx hb hX hbl hbA hst.2.2 hi d_Lw_law_838 ?_
      refine lv_aload_n hx hb d_Lw_law_839 rfl (lv_at hl 5 rfl) ?_
      refine lv_iload hx hb d_Lw_law_840 (lv_at hl 1 rfl) ?_
      refine lv_iconst (v := (2 : Int32)) hx hb d_Lw_law_842 (by decide) ?_
      refine lv_iadd hx hb d_Lw_law_843 ?_
      obtain ⟨hi, h⟩ := h
      refine va_sld hx hb hX hbl hbA hst.2.2 hi d_Lw_law_844 ?_
      refine kw_calli (va_runV (As := [.int (xs ((x4 + (1 : Int32)) : Int32).toNatClampNeg), .int (xs ((x4 + (2 : Int32)) : Int32).toNatClampNeg)]) (rest := []) (b := g.1 54) ⟨hx, hb, hml, hown, hts⟩ (c_Md_diagnostic l (xs ((x4 + (1 : Int32)) : Int32).toNatClampNeg) (xs ((x4 + (2 : Int32)) : Int32).toNatClampNeg) h) (cwV 2 hts (gd_v gw1460 gw1461 gw1462 gw15 gw1463) rfl rfl rfl (by decide +kernel) ⟨Nat.le_of_ble_eq_true rfl, Nat.le_of_ble_eq_true rfl⟩) ⟨kw_blind (Zk_ok g), va_recv hK hst.1 rfl (WS_o54 g σ1), kw_pre (Zk_ok g) hK hZ hA hst⟩ rfl rfl hl.1 rfl (lv_room (Nat.le_of_ble_eq_true rfl)) d_Lw_law_845 ⟨by omega, by omega⟩) hst hA (fun r2 σ2 H locs h hst => ?_)
      refine lv_istore hx hb d_Lw_law_848 hl (by decide) rfl (fun ls hl => ?_)
      have hl : lv_has ls 7 [(6, .int r2), (5, .int r1), (4, .int x4), (3, .ref (g.1 53)), (2, .ref (g.1 54)), (1, .ref (g.1 51)), (0, .ref b)] := hl
      refine lv_aload_n hx hb d_Lw_law_850 rfl (lv_at hl 4 rfl) ?_
      refine kw_calli (va_runV (As := []) (rest := []) (b := g.1 54) ⟨hx, hb, hml, hown, hts⟩ (c_Md_thrown l h) (cwV 0 hts (gd_v gw1203 gw1204 gw1205 gw15 gw1206) rfl rfl rfl (by decide +kernel) ⟨Nat.le_of_ble_eq_true rfl, Nat.le_of_ble_eq_true rfl⟩) ⟨kw_blind (Zk_ok g), va_recv hK hst.1 rfl (WS_o54 g σ2), kw_pre (Zk_ok g) hK hZ hA hst⟩ rfl rfl hl.1 rfl (lv_room (Nat.le_of_ble_eq_true rfl)) d_Lw_law_851 ⟨by omega, by omega⟩) hst hA (fun r3 σ3 H locs h hst => ?_)
      refine lv_iload hx hb d_Lw_law_854 (lv_at hl 1 rfl) ?_
      refine lv_icmp_eq (tgt := 861) hx hb d_Lw_law_856 (by decide) (fun hc => ?_) (fun hc => ?_)
      · replace h := h.1 hc
        refine lv_iload hx hb d_Lw_law_861 (lv_at hl 1 rfl) ?_
        refine lv_if_ne (tgt := 878) hx hb d_Lw_law_863 (by decide) (fun hc => ?_) (fun hc => ?_)
        · replace h := h.1 hc
          refine lv_goto (tgt := 1005) hx hb d_Lw_law_878 (by decide) ?_
          refine lv_iinc (k := 2) (v := (x4 + 4)) hx hb d_Lw_law_1005 hl rfl (kw_inc _ (by decide)) (by decide) rfl (fun ls hl => ?_)
          have hl : lv_has ls 7 [(4, .int (x4 + 4)), (6, .int r2), (5, .int r1), (3, .ref (g.1 53)), (2, .ref (g.1 54)), (1, .ref (g.1 51)), (0, .ref b)] := hl
          refine lv_goto (tgt := 23) hx hb d_Lw_law_1008 (by decide) ?_
          refine W.widen (k := kc + 5) (n := ks + 3968) (by omega) (by omega) ?_
          exact j σ3 _ _ _ (lv_sub hl [0, 3, 4, 5, 6] rfl) hst h
        · replace h := h.2 hc
          refine lv_aload_n hx hb d_Lw_law_866 rfl (lv_at hl 3 rfl) ?_
          refine lv_iconst (v := (0 : Int32)) hx hb d_Lw_law_867 (by decide) ?_
          obtain ⟨hi, h⟩ := h
          refine va_lald hx hb hK hst.1 53 3 (WS_a53 g σ3) rfl hi d_Lw_law_868 ?_
          refine lv_iload hx hb d_Lw_law_869 (lv_at hl 0 rfl) ?_
          refine lv_i2l hx hb d_Lw_law_871 rfl ?_
          refine W.lcmp hx hb d_Lw_law_872 ?_
          refine lv_if_eq (tgt := 878) hx hb d_Lw_law_873 (by decide) (fun hc => ?_) (fun hc => ?_)
          · replace h := h.1 hc
            refine lv_goto (tgt := 1005) hx hb d_Lw_law_878 (by decide) ?_
            refine lv_iinc (k := 2) (v := (x4 + 4)) hx hb d_Lw_law_1005 hl rfl (kw_inc _ (by decide)) (by decide) rfl (fun ls hl => ?_)
            have hl : lv_has ls 7 [(4, .int (x4 + 4)), (6, .int r2), (5, .int r1), (3, .ref (g.1 53)), (2, .ref (g.1 54)), (1, .ref (g.1 51)), (0, .ref b)] := hl
            refine lv_goto (tgt := 23) hx hb d_Lw_law_1008 (by decide) ?_
            refine W.widen (k := kc + 5) (n := ks + 3968) (by omega) (by omega) ?_
            exact j σ3 _ _ _ (lv_sub hl [0, 3, 4, 5, 6] rfl) hst h
          · replace h := h.2 hc
            refine lv_iconst (v := (0 : Int32)) hx hb d_Lw_law_876 (by decide) ?_
            exact h.elim
      · replace h := h.2 hc
        refine lv_iconst (v := (0 : Int32)) hx hb d_Lw_law_859 (by decide) ?_
        exact h.elim
    by_cases hc13 : ((xs x4.toNatClampNeg) &&& (15 : Int32)) = 13
    · refine kw_tin (k := 13) (tgt := 881) hx hb d_Lw_law_39 hc13 (by decide) (by decide) rfl (by decide) ?_
      replace h := h.2.2.2.2.2.2.2.2.2.2.2.2.2.1 hc13
      refine lv_aload_n hx hb d_Lw_law_881 rfl (lv_at hl 3 rfl) ?_
      refine lv_aload_n hx hb d_Lw_law_882 rfl (lv_at hl 4 rfl) ?_
      refine lv_iload hx hb d_Lw_law_883 (lv_at hl 0 rfl) ?_
      refine lv_iconst (v := (1 : Int32)) hx hb d_Lw_law_885 (by decide) ?_
      refine lv_iadd hx hb d_Lw_law_886 ?_
      obtain ⟨hi, h⟩ := h
      refine va_sld hx hb hX hbl hbA hst.2.2 hi d_Lw_law_887 ?_
      refine lv_aload_n hx hb d_Lw_law_888 rfl (lv_at hl 1 rfl) ?_
      refine kh_calli (kh_run (n := 3) (ws' := []) (As := [.ref (g.1 51), .int (xs ((x4 + (1 : Int32)) : Int32).toNatClampNeg), .ref (g.1 53)]) (rest := []) ⟨hx, hb, hml, hown, hts⟩ (c_Lw_propose l htr (xs ((x4 + (1 : Int32)) : Int32).toNatClampNeg) h) rfl rfl rfl (Nat.le_of_ble_eq_true rfl) (Nat.le_of_ble_eq_true rfl) gw969 gw970 gw0 gw971 (by decide +kernel) ⟨kw_blind (Zk_ok g), kw_pre (Zk_ok g) hK hZ hA hst⟩ rfl hl.1 rfl (Nat.le_of_ble_eq_true rfl) d_Lw_law_889 ⟨by omega, by omega⟩) hst hA (fun r1 σ1 H locs h hst => ?_)
      refine lv_istore hx hb d_Lw_law_892 hl (by decide) rfl (fun ls hl => ?_)
      have hl : lv_has ls 7 [(5, .int r1), (4, .int x4), (3, .ref (g.1 53)), (2, .ref (g.1 54)), (1, .ref (g.1 51)), (0, .ref b)] := hl
      refine lv_aload_n hx hb d_Lw_law_894 rfl (lv_at hl 3 rfl) ?_
      refine lv_aload_n hx hb d_Lw_law_895 rfl (lv_at hl 5 rfl) ?_
      refine lv_iload hx hb d_Lw_law_896 (lv_at hl 1 rfl) ?_
      refine lv_iconst (v := (1 : Int32)) hx hb d_Lw_law_898 (by decide) ?_
      refine lv_iadd hx hb d_Lw_law_899 ?_
      obtain ⟨hi, h⟩ := h
      refine va_sld hx hb hX hbl hbA hst.2.2 hi d_Lw_law_900 ?_
      refine kw_calli (va_runV (As := [.int (xs ((x4 + (1 : Int32)) : Int32).toNatClampNeg)]) (rest := []) (b := g.1 54) ⟨hx, hb, hml, hown, hts⟩ (c_Md_propose l (xs ((x4 + (1 : Int32)) : Int32).toNatClampNeg) h) (cwV 1 hts (gd_v gw1464 gw1465 gw1466 gw15 gw1467) rfl rfl rfl (by decide +kernel) ⟨Nat.le_of_ble_eq_true rfl, Nat.le_of_ble_eq_true rfl⟩) ⟨kw_blind (Zk_ok g), va_recv hK hst.1 rfl (WS_o54 g σ1), kw_pre (Zk_ok g) hK hZ hA hst⟩ rfl rfl hl.1 rfl (lv_room (Nat.le_of_ble_eq_true rfl)) d_Lw_law_901 ⟨by omega, by omega⟩) hst hA (fun r2 σ2 H locs h hst => ?_)
      refine lv_istore hx hb d_Lw_law_904 hl (by decide) rfl (fun ls hl => ?_)
      have hl : lv_has ls 7 [(6, .int r2), (5, .int r1), (4, .int x4), (3, .ref (g.1 53)), (2, .ref (g.1 54)), (1, .ref (g.1 51)), (0, .ref b)] := hl
      refine lv_aload_n hx hb d_Lw_law_906 rfl (lv_at hl 4 rfl) ?_
      refine kw_calli (va_runV (As := []) (rest := []) (b := g.1 54) ⟨hx, hb, hml, hown, hts⟩ (c_Md_thrown l h) (cwV 0 hts (gd_v gw1203 gw1204 gw1205 gw15 gw1206) rfl rfl rfl (by decide +kernel) ⟨Nat.le_of_ble_eq_true rfl, Nat.le_of_ble_eq_true rfl⟩) ⟨kw_blind (Zk_ok g), va_recv hK hst.1 rfl (WS_o54 g σ2), kw_pre (Zk_ok g) hK hZ hA hst⟩ rfl rfl hl.1 rfl (lv_room (Nat.le_of_ble_eq_true rfl)) d_Lw_law_907 ⟨by omega, by omega⟩) hst hA (fun r3 σ3 H locs h hst => ?_)
      refine lv_iload hx hb d_Lw_law_910 (lv_at hl 1 rfl) ?_
      refine lv_icmp_eq (tgt := 917) hx hb d_Lw_law_912 (by decide) (fun hc => ?_) (fun hc => ?_)
      · replace h := h.1 hc
        refine lv_iload hx hb d_Lw_law_917 (lv_at hl 1 rfl) ?_
        refine lv_if_ne (tgt := 934) hx hb d_Lw_law_919 (by decide) (fun hc => ?_) (fun hc => ?_)
        · replace h := h.1 hc
          refine lv_goto (tgt := 1005) hx hb d_Lw_law_934 (by decide) ?_
          refine lv_iinc (k := 2) (v := (x4 + 4)) hx hb d_Lw_law_1005 hl rfl (kw_inc _ (by decide)) (by decide) rfl (fun ls hl => ?_)
          have hl : lv_has ls 7 [(4, .int (x4 + 4)), (6, .int r2), (5, .int r1), (3, .ref (g.1 53)), (2, .ref (g.1 54)), (1, .ref (g.1 51)), (0, .ref b)] := hl
          refine lv_goto (tgt := 23) hx hb d_Lw_law_1008 (by decide) ?_
          refine W.widen (k := kc + 5) (n := ks + 3968) (by omega) (by omega) ?_
          exact j σ3 _ _ _ (lv_sub hl [0, 3, 4, 5, 6] rfl) hst h
        · replace h := h.2 hc
          refine lv_aload_n hx hb d_Lw_law_922 rfl (lv_at hl 3 rfl) ?_
          refine lv_iconst (v := (0 : Int32)) hx hb d_Lw_law_923 (by decide) ?_
          obtain ⟨hi, h⟩ := h
          refine va_lald hx hb hK hst.1 53 3 (WS_a53 g σ3) rfl hi d_Lw_law_924 ?_
          refine lv_iload hx hb d_Lw_law_925 (lv_at hl 0 rfl) ?_
          refine lv_i2l hx hb d_Lw_law_927 rfl ?_
          refine W.lcmp hx hb d_Lw_law_928 ?_
          refine lv_if_eq (tgt := 934) hx hb d_Lw_law_929 (by decide) (fun hc => ?_) (fun hc => ?_)
          · replace h := h.1 hc
            refine lv_goto (tgt := 1005) hx hb d_Lw_law_934 (by decide) ?_
            refine lv_iinc (k := 2) (v := (x4 + 4)) hx hb d_Lw_law_1005 hl rfl (kw_inc _ (by decide)) (by decide) rfl (fun ls hl => ?_)
            have hl : lv_has ls 7 [(4, .int (x4 + 4)), (6, .int r2), (5, .int r1), (3, .ref (g.1 53)), (2, .ref (g.1 54)), (1, .ref (g.1 51)), (0, .ref b)] := hl
            refine lv_goto (tgt := 23) hx hb d_Lw_law_1008 (by decide) ?_
            refine W.widen (k := kc + 5) (n := ks + 3968) (by omega) (by omega) ?_
            exact j σ3 _ _ _ (lv_sub hl [0, 3, 4, 5, 6] rfl) hst h
          · replace h := h.2 hc
            refine lv_iconst (v := (0 : Int32)) hx hb d_Lw_law_932 (by decide) ?_
            exact h.elim
      · replace h := h.2 hc
        refine lv_iconst (v := (0 : Int32)) hx hb d_Lw_law_915 (by decide) ?_
        exact h.elim
    by_cases hc14 : ((xs x4.toNatClampNeg) &&& (15 : Int32)) = 14
    · refine kw_tin (k := 14) (tgt := 937) hx hb d_Lw_law_39 hc14 (by decide) (by decide) rfl (by decide) ?_
      replace h := h.2.2.2.2.2.2.2.2.2.2.2.2.2.2.1 hc14
      refine lv_aload_n hx hb d_Lw_law_937 rfl (lv_at hl 3 rfl) ?_
      refine lv_aload_n hx hb d_Lw_law_938 rfl (lv_at hl 4 rfl) ?_
      refine lv_iload hx hb d_Lw_law_939 (lv_at hl 0 rfl) ?_
      refine lv_iconst (v := (1 : Int32)) hx hb d_Lw_law_941 (by decide) ?_
      refine lv_iadd hx hb d_Lw_law_942 ?_
      obtain ⟨hi, h⟩ := h
      refine va_sld hx hb hX hbl hbA hst.2.2 hi d_Lw_law_943 ?_
      refine lv_aload_n hx hb d_Lw_law_944 rfl (lv_at hl 4 rfl) ?_
      refine lv_iload hx hb d_Lw_law_945 (lv_at hl 0 rfl) ?_
      refine lv_iconst (v := (2 : Int32)) hx hb d_Lw_law_947 (by decide) ?_
      refine lv_iadd hx hb d_Lw_law_948 ?_
      obtain ⟨hi, h⟩ := h
      refine va_sld hx hb hX hbl hbA hst.2.2 hi d_Lw_law_949 ?_
      refine lv_aload_n hx hb d_Lw_law_950 rfl (lv_at hl 1 rfl) ?_
      refine kh_calli (kh_run (n := 4) (ws' := []) (As := [.ref (g.1 51), .int (xs ((x4 + (1 : Int32)) : Int32).toNatClampNeg), .int (xs ((x4 + (2 : Int32)) : Int32).toNatClampNeg), .ref (g.1 53)]) (rest := []) ⟨hx, hb, hml, hown, hts⟩ (c_Lw_proposal l htr (xs ((x4 + (1 : Int32)) : Int32).toNatClampNeg) (xs ((x4 + (2 : Int32)) : Int32).toNatClampNeg) h) rfl rfl rfl (Nat.le_of_ble_eq_true rfl) (Nat.le_of_ble_eq_true rfl) gw1020 gw1021 gw0 gw1022 (by decide +kernel) ⟨kw_blind (Zk_ok g), kw_pre (Zk_ok g) hK hZ hA hst⟩ rfl hl.1 rfl (Nat.le_of_ble_eq_true rfl) d_Lw_law_951 ⟨by omega, by omega⟩) hst hA (fun r1 σ1 H locs h hst => ?_)
      refine lv_istore hx hb d_Lw_law_954 hl (by decide) rfl (fun ls hl => ?_)
      have hl : lv_has ls 7 [(5, .int r1), (4, .int x4), (3, .ref (g.1 53)), (2, .ref (g.1 54)), (1, .ref (g.1 51)), (0, .ref b)] := hl
      refine lv_aload_n hx hb d_Lw_law_956 rfl (lv_at hl 3 rfl) ?_
      refine lv_aload_n hx hb d_Lw_law_957 rfl (lv_at hl 5 rfl) ?_
      refine lv_iload hx hb d_Lw_law_958 (lv_at hl 1 rfl) ?_
      refine lv_iconst (v := (1 : Int32)) hx hb d_Lw_law_960 (by decide) ?_
      refine lv_iadd hx hb d_Lw_law_961 ?_
      obtain ⟨hi, h⟩ := h
      refine va_sld hx hb hX hbl hbA hst.2.2 hi d_Lw_law_962 ?_
      refine lv_aload_n hx hb d_Lw_law_963 rfl (lv_at hl 5 rfl) ?_
      refine lv_iload hx hb d_Lw_law_964 (lv_at hl 1 rfl) ?_
      refine lv_iconst (v := (2 : Int32)) hx hb d_Lw_law_966 (by decide) ?_
      refine lv_iadd hx hb d_Lw_law_967 ?_
      obtain ⟨hi, h⟩ := h
      refine va_sld hx hb hX hbl hbA hst.2.2 hi d_Lw_law_968 ?_
      refine kw_calli (va_runV (As := [.int (xs ((x4 + (1 : Int32)) : Int32).toNatClampNeg), .int (xs ((x4 + (2 : Int32)) : Int32).toNatClampNeg)]) (rest := []) (b := g.1 54) ⟨hx, hb, hml, hown, hts⟩ (c_Md_proposal l (xs ((x4 + (1 : Int32)) : Int32).toNatClampNeg) (xs ((x4 + (2 : Int32)) : Int32).toNatClampNeg) h) (cwV 2 hts (gd_v gw1484 gw1485 gw1486 gw15 gw1487) rfl rfl rfl (by decide +kernel) ⟨Nat.le_of_ble_eq_true rfl, Nat.le_of_ble_eq_true rfl⟩) ⟨kw_blind (Zk_ok g), va_recv hK hst.1 rfl (WS_o54 g σ1), kw_pre (Zk_ok g) hK hZ hA hst⟩ rfl rfl hl.1 rfl (lv_room (Nat.le_of_ble_eq_true rfl)) d_Lw_law_969 ⟨by omega, by omega⟩) hst hA (fun r2 σ2 H locs h hst => ?_)
      refine lv_istore hx hb d_Lw_law_972 hl (by decide) rfl (fun ls hl => ?_)
      have hl : lv_has ls 7 [(6, .int r2), (5, .int r1), (4, .int x4), (3, .ref (g.1 53)), (2, .ref (g.1 54)), (1, .ref (g.1 51)), (0, .ref b)] := hl
      refine lv_aload_n hx hb d_Lw_law_974 rfl (lv_at hl 4 rfl) ?_
      refine kw_calli (va_runV (As := []) (rest := []) (b := g.1 54) ⟨hx, hb, hml, hown, hts⟩ (c_Md_thrown l h) (cwV 0 hts (gd_v gw1203 gw1204 gw1205 gw15 gw1206) rfl rfl rfl (by decide +kernel) ⟨Nat.le_of_ble_eq_true rfl, Nat.le_of_ble_eq_true rfl⟩) ⟨kw_blind (Zk_ok g), va_recv hK hst.1 rfl (WS_o54 g σ2), kw_pre (Zk_ok g) hK hZ hA hst⟩ rfl rfl hl.1 rfl (lv_room (Nat.le_of_ble_eq_true rfl)) d_Lw_law_975 ⟨by omega, by omega⟩) hst hA (fun r3 σ3 H locs h hst => ?_)
      refine lv_iload hx hb d_Lw_law_978 (lv_at hl 1 rfl) ?_
      refine lv_icmp_eq (tgt := 985) hx hb d_Lw_law_980 (by decide) (fun hc => ?_) (fun hc => ?_)
      · replace h := h.1 hc
        refine lv_iload hx hb d_Lw_law_985 (lv_at hl 1 rfl) ?_
        refine lv_if_ne (tgt := 1002) hx hb d_Lw_law_987 (by decide) (fun hc => ?_) (fun hc => ?_)
        · replace h := h.1 hc
          refine lv_goto (tgt := 1005) hx hb d_Lw_law_1002 (by decide) ?_
          refine lv_iinc (k := 2) (v := (x4 + 4)) hx hb d_Lw_law_1005 hl rfl (kw_inc _ (by decide)) (by decide) rfl (fun ls hl => ?_)
          have hl : lv_has ls 7 [(4, .int (x4 + 4)), (6, .int r2), (5, .int r1), (3, .ref (g.1 53)), (2, .ref (g.1 54)), (1, .ref (g.1 51)), (0, .ref b)] := hl
          refine lv_goto (tgt := 23) hx hb d_Lw_law_1008 (by decide) ?_
          refine W.widen (k := kc + 5) (n := ks + 3968) (by omega) (by omega) ?_
          exact j σ3 _ _ _ (lv_sub hl [0, 3, 4, 5, 6] rfl) hst h
        · replace h := h.2 hc
          refine lv_aload_n hx hb d_Lw_law_990 rfl (lv_at hl 3 rfl) ?_
          refine lv_iconst (v := (0 : Int32)) hx hb d_Lw_law_991 (by decide) ?_
          obtain ⟨hi, h⟩ := h
          refine va_lald hx hb hK hst.1 53 3 (WS_a53 g σ3) rfl hi d_Lw_law_992 ?_
          refine lv_iload hx hb d_Lw_law_993 (lv_at hl 0 rfl) ?_
          refine lv_i2l hx hb d_Lw_law_995 rfl ?_
          refine W.lcmp hx hb d_Lw_law_996 ?_
          refine lv_if_eq (tgt := 1002) hx hb d_Lw_law_997 (by decide) (fun hc => ?_) (fun hc => ?_)
          · replace h := h.1 hc
            refine lv_goto (tgt := 1005) hx hb d_Lw_law_1002 (by decide) ?_
            refine lv_iinc (k := 2) (v := (x4 + 4)) hx hb d_Lw_law_1005 hl rfl (kw_inc _ (by decide)) (by decide) rfl (fun ls hl => ?_)
            have hl : lv_has ls 7 [(4, .int (x4 + 4)), (6, .int r2), (5, .int r1), (3, .ref (g.1 53)), (2, .ref (g.1 54)), (1, .ref (g.1 51)), (0, .ref b)] := hl
            refine lv_goto (tgt := 23) hx hb d_Lw_law_1008 (by decide) ?_
            refine W.widen (k := kc + 5) (n := ks + 3968) (by omega) (by omega) ?_
            exact j σ3 _ _ _ (lv_sub hl [0, 3, 4, 5, 6] rfl) hst h
          · replace h := h.2 hc
            refine lv_iconst (v := (0 : Int32)) hx hb d_Lw_law_1000 (by decide) ?_
            exact h.elim
      · replace h := h.2 hc
        refine lv_iconst (v := (0 : Int32)) hx hb d_Lw_law_983 (by decide) ?_
        exact h.elim
    refine lv_tableOut (tgt := 1005) hx hb d_Lw_law_39 (by have q0 := lv_neT (a := 0) hc0 (by decide); have q1 := lv_neT (a := 1) hc1 (by decide); have q2 := lv_neT (a := 2) hc2 (by decide); have q3 := lv_neT (a := 3) hc3 (by decide); have q4 := lv_neT (a := 4) hc4 (by decide); have q5 := lv_neT (a := 5) hc5 (by decide); have q6 := lv_neT (a := 6) hc6 (by decide); have q7 := lv_neT (a := 7) hc7 (by decide); have q8 := lv_neT (a := 8) hc8 (by decide); have q9 := lv_neT (a := 9) hc9 (by decide); have q10 := lv_neT (a := 10) hc10 (by decide); have q11 := lv_neT (a := 11) hc11 (by decide); have q12 := lv_neT (a := 12) hc12 (by decide); have q13 := lv_neT (a := 13) hc13 (by decide); have q14 := lv_neT (a := 14) hc14 (by decide); omega) (by decide) ?_
    replace h := h.2.2.2.2.2.2.2.2.2.2.2.2.2.2.2 ⟨hc0, hc1, hc2, hc3, hc4, hc5, hc6, hc7, hc8, hc9, hc10, hc11, hc12, hc13, hc14⟩
    refine lv_iinc (k := 0) (v := (x4 + 4)) hx hb d_Lw_law_1005 hl rfl (kw_inc _ (by decide)) (by decide) rfl (fun ls hl => ?_)
    have hl : lv_has ls 7 [(4, .int (x4 + 4)), (3, .ref (g.1 53)), (2, .ref (g.1 54)), (1, .ref (g.1 51)), (0, .ref b)] := hl
    refine lv_goto (tgt := 23) hx hb d_Lw_law_1008 (by decide) ?_
    refine W.widen (k := kc + 5) (n := ks + 3968) (by omega) (by omega) ?_
    exact j σ _ _ _ (lv_sub hl [0, 1, 2, 3, 4] rfl) hst h
