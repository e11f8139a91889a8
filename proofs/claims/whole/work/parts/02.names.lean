abbrev R_Tr : String := "SchemaDesk$Tree"
abbrev R_Tx : String := "SchemaDesk$Text"
abbrev R_Rd : String := "SchemaDesk$Reader"
abbrev R_Mk : String := "SchemaDesk$Marks"
abbrev R_Wb : String := "SchemaDesk$WordBook"
abbrev R_Pl : String := "SchemaDesk$Plan"
abbrev R_Vd : String := "SchemaDesk$Verdicts"
abbrev R_Rp : String := "SchemaDesk$Report"
abbrev R_Pr : String := "SchemaDesk$Proposals"
abbrev R_Sd : String := "SchemaDesk"
abbrev R_Md : String := "SchemaDeskModel"
abbrev R_Lw : String := "SchemaDeskLaw"
abbrev R_Ar : String := "java/util/Arrays"
def T_Tr : u_T := fun k => match k with
  | 0 => ("SchemaDesk$Tree", "text", "LSchemaDesk$Text;", true)
  | 1 => ("SchemaDesk$Tree", "kind", "[I", true)
  | 2 => ("SchemaDesk$Tree", "from", "[I", true)
  | 3 => ("SchemaDesk$Tree", "to", "[I", true)
  | 4 => ("SchemaDesk$Tree", "parent", "[I", true)
  | 5 => ("SchemaDesk$Tree", "children", "[I", true)
  | 6 => ("SchemaDesk$Tree", "name", "[I", true)
  | 7 => ("SchemaDesk$Tree", "number", "[I", true)
  | 8 => ("SchemaDesk$Tree", "behind", "[I", true)
  | 9 => ("SchemaDesk$Tree", "size", "I", false)
  | 10 => ("SchemaDesk$Tree", "faultRow", "[I", true)
  | _ => ("SchemaDesk$Tree", "faultCount", "I", false)
def ty_Tr : Nat → FieldType := fun k => match k with
  | 0 => .object "SchemaDesk$Text"
  | 1 => .array .int
  | 2 => .array .int
  | 3 => .array .int
  | 4 => .array .int
  | 5 => .array .int
  | 6 => .array .int
  | 7 => .array .int
  | 8 => .array .int
  | 9 => .int
  | 10 => .array .int
  | _ => .int
theorem nm_Tr : ∀ a, a < 12 → ∀ b, b < 12 → a ≠ b → (T_Tr a).2.1 ≠ (T_Tr b).2.1 := by decide +kernel
theorem ty_Tr_ok : ∀ k, k < 12 → parseFieldDescriptor (T_Tr k).2.2.1 = some (ty_Tr k) := by decide +kernel
theorem gw177 : (Jvm.Cond.laysFinal "SchemaDesk$Tree" "SchemaDesk$Tree" "text" "LSchemaDesk$Text;") ∈ GW := gw_t1 (List.mem_of_getElem? (i := 177) rfl) rfl
theorem gw179 : (Jvm.Cond.laysFinal "SchemaDesk$Tree" "SchemaDesk$Tree" "kind" "[I") ∈ GW := gw_t1 (List.mem_of_getElem? (i := 179) rfl) rfl
theorem gw181 : (Jvm.Cond.laysFinal "SchemaDesk$Tree" "SchemaDesk$Tree" "from" "[I") ∈ GW := gw_t1 (List.mem_of_getElem? (i := 181) rfl) rfl
theorem gw183 : (Jvm.Cond.laysFinal "SchemaDesk$Tree" "SchemaDesk$Tree" "to" "[I") ∈ GW := gw_t1 (List.mem_of_getElem? (i := 183) rfl) rfl
theorem gw185 : (Jvm.Cond.laysFinal "SchemaDesk$Tree" "SchemaDesk$Tree" "parent" "[I") ∈ GW := gw_t1 (List.mem_of_getElem? (i := 185) rfl) rfl
theorem gw187 : (Jvm.Cond.laysFinal "SchemaDesk$Tree" "SchemaDesk$Tree" "children" "[I") ∈ GW := gw_t1 (List.mem_of_getElem? (i := 187) rfl) rfl
theorem gw189 : (Jvm.Cond.laysFinal "SchemaDesk$Tree" "SchemaDesk$Tree" "name" "[I") ∈ GW := gw_t1 (List.mem_of_getElem? (i := 189) rfl) rfl
theorem gw191 : (Jvm.Cond.laysFinal "SchemaDesk$Tree" "SchemaDesk$Tree" "number" "[I") ∈ GW := gw_t1 (List.mem_of_getElem? (i := 191) rfl) rfl
theorem gw193 : (Jvm.Cond.laysFinal "SchemaDesk$Tree" "SchemaDesk$Tree" "behind" "[I") ∈ GW := gw_t1 (List.mem_of_getElem? (i := 193) rfl) rfl
theorem gw195 : (Jvm.Cond.lays "SchemaDesk$Tree" "SchemaDesk$Tree" "size" "I") ∈ GW := gw_t1 (List.mem_of_getElem? (i := 195) rfl) rfl
theorem gw197 : (Jvm.Cond.laysFinal "SchemaDesk$Tree" "SchemaDesk$Tree" "faultRow" "[I") ∈ GW := gw_t1 (List.mem_of_getElem? (i := 197) rfl) rfl
theorem gw199 : (Jvm.Cond.lays "SchemaDesk$Tree" "SchemaDesk$Tree" "faultCount" "I") ∈ GW := gw_t1 (List.mem_of_getElem? (i := 199) rfl) rfl
theorem in_Tr : ∀ w ∈ u_ws R_Tr T_Tr 12, w ∈ GW := by
  intro w hw
  obtain ⟨k, hk, rfl⟩ := List.mem_map.mp hw
  have hk := List.mem_range.mp hk
  match k, hk with
  | 0, _ => exact gw177
  | 1, _ => exact gw179
  | 2, _ => exact gw181
  | 3, _ => exact gw183
  | 4, _ => exact gw185
  | 5, _ => exact gw187
  | 6, _ => exact gw189
  | 7, _ => exact gw191
  | 8, _ => exact gw193
  | 9, _ => exact gw195
  | 10, _ => exact gw197
  | 11, _ => exact gw199
  | k + 12, h => exact absurd h (by omega)
def T_Tx : u_T := fun k => match k with
  | 0 => ("SchemaDesk$Text", "letters", "[C", true)
  | _ => ("SchemaDesk$Text", "size", "I", false)
def ty_Tx : Nat → FieldType := fun k => match k with
  | 0 => .array .char
  | _ => .int
theorem nm_Tx : ∀ a, a < 2 → ∀ b, b < 2 → a ≠ b → (T_Tx a).2.1 ≠ (T_Tx b).2.1 := by decide +kernel
theorem ty_Tx_ok : ∀ k, k < 2 → parseFieldDescriptor (T_Tx k).2.2.1 = some (ty_Tx k) := by decide +kernel
theorem gw116 : (Jvm.Cond.laysFinal "SchemaDesk$Text" "SchemaDesk$Text" "letters" "[C") ∈ GW := gw_t1 (List.mem_of_getElem? (i := 116) rfl) rfl
theorem gw118 : (Jvm.Cond.lays "SchemaDesk$Text" "SchemaDesk$Text" "size" "I") ∈ GW := gw_t1 (List.mem_of_getElem? (i := 118) rfl) rfl
theorem in_Tx : ∀ w ∈ u_ws R_Tx T_Tx 2, w ∈ GW := by
  intro w hw
  obtain ⟨k, hk, rfl⟩ := List.mem_map.mp hw
  have hk := List.mem_range.mp hk
  match k, hk with
  | 0, _ => exact gw116
  | 1, _ => exact gw118
  | k + 2, h => exact absurd h (by omega)
def T_Rd : u_T := fun k => match k with
  | 0 => ("SchemaDesk$Reader", "tree", "LSchemaDesk$Tree;", true)
  | 1 => ("SchemaDesk$Reader", "fresh", "Z", false)
  | 2 => ("SchemaDesk$Reader", "text", "LSchemaDesk$Text;", true)
  | 3 => ("SchemaDesk$Reader", "words", "LSchemaDesk$WordBook;", true)
  | _ => ("SchemaDesk$Reader", "at", "I", false)
def ty_Rd : Nat → FieldType := fun k => match k with
  | 0 => .object "SchemaDesk$Tree"
  | 1 => .boolean
  | 2 => .object "SchemaDesk$Text"
  | 3 => .object "SchemaDesk$WordBook"
  | _ => .int
theorem nm_Rd : ∀ a, a < 5 → ∀ b, b < 5 → a ≠ b → (T_Rd a).2.1 ≠ (T_Rd b).2.1 := by decide +kernel
theorem ty_Rd_ok : ∀ k, k < 5 → parseFieldDescriptor (T_Rd k).2.2.1 = some (ty_Rd k) := by decide +kernel
theorem gw215 : (Jvm.Cond.laysFinal "SchemaDesk$Reader" "SchemaDesk$Reader" "tree" "LSchemaDesk$Tree;") ∈ GW := gw_t1 (List.mem_of_getElem? (i := 215) rfl) rfl
theorem gw217 : (Jvm.Cond.lays "SchemaDesk$Reader" "SchemaDesk$Reader" "fresh" "Z") ∈ GW := gw_t1 (List.mem_of_getElem? (i := 217) rfl) rfl
theorem gw219 : (Jvm.Cond.laysFinal "SchemaDesk$Reader" "SchemaDesk$Reader" "text" "LSchemaDesk$Text;") ∈ GW := gw_t1 (List.mem_of_getElem? (i := 219) rfl) rfl
theorem gw221 : (Jvm.Cond.laysFinal "SchemaDesk$Reader" "SchemaDesk$Reader" "words" "LSchemaDesk$WordBook;") ∈ GW := gw_t1 (List.mem_of_getElem? (i := 221) rfl) rfl
theorem gw223 : (Jvm.Cond.lays "SchemaDesk$Reader" "SchemaDesk$Reader" "at" "I") ∈ GW := gw_t1 (List.mem_of_getElem? (i := 223) rfl) rfl
theorem in_Rd : ∀ w ∈ u_ws R_Rd T_Rd 5, w ∈ GW := by
  intro w hw
  obtain ⟨k, hk, rfl⟩ := List.mem_map.mp hw
  have hk := List.mem_range.mp hk
  match k, hk with
  | 0, _ => exact gw215
  | 1, _ => exact gw217
  | 2, _ => exact gw219
  | 3, _ => exact gw221
  | 4, _ => exact gw223
  | k + 5, h => exact absurd h (by omega)
def T_Mk : u_T := fun k => match k with
  | _ => ("SchemaDesk$Marks", "bits", "[J", true)
def ty_Mk : Nat → FieldType := fun k => match k with
  | _ => .array .long
theorem nm_Mk : ∀ a, a < 1 → ∀ b, b < 1 → a ≠ b → (T_Mk a).2.1 ≠ (T_Mk b).2.1 := by decide +kernel
theorem ty_Mk_ok : ∀ k, k < 1 → parseFieldDescriptor (T_Mk k).2.2.1 = some (ty_Mk k) := by decide +kernel
theorem gw295 : (Jvm.Cond.laysFinal "SchemaDesk$Marks" "SchemaDesk$Marks" "bits" "[J") ∈ GW := gw_t2 (List.mem_of_getElem? (i := 55) rfl) rfl
theorem in_Mk : ∀ w ∈ u_ws R_Mk T_Mk 1, w ∈ GW := by
  intro w hw
  obtain ⟨k, hk, rfl⟩ := List.mem_map.mp hw
  have hk := List.mem_range.mp hk
  match k, hk with
  | 0, _ => exact gw295
  | k + 1, h => exact absurd h (by omega)
def T_Wb : u_T := fun k => match k with
  | 0 => ("SchemaDesk$WordBook", "letters", "[C", true)
  | _ => ("SchemaDesk$WordBook", "starts", "[I", true)
def ty_Wb : Nat → FieldType := fun k => match k with
  | 0 => .array .char
  | _ => .array .int
theorem nm_Wb : ∀ a, a < 2 → ∀ b, b < 2 → a ≠ b → (T_Wb a).2.1 ≠ (T_Wb b).2.1 := by decide +kernel
theorem ty_Wb_ok : ∀ k, k < 2 → parseFieldDescriptor (T_Wb k).2.2.1 = some (ty_Wb k) := by decide +kernel
theorem gw89 : (Jvm.Cond.laysFinal "SchemaDesk$WordBook" "SchemaDesk$WordBook" "letters" "[C") ∈ GW := gw_t1 (List.mem_of_getElem? (i := 89) rfl) rfl
theorem gw91 : (Jvm.Cond.laysFinal "SchemaDesk$WordBook" "SchemaDesk$WordBook" "starts" "[I") ∈ GW := gw_t1 (List.mem_of_getElem? (i := 91) rfl) rfl
theorem in_Wb : ∀ w ∈ u_ws R_Wb T_Wb 2, w ∈ GW := by
  intro w hw
  obtain ⟨k, hk, rfl⟩ := List.mem_map.mp hw
  have hk := List.mem_range.mp hk
  match k, hk with
  | 0, _ => exact gw89
  | 1, _ => exact gw91
  | k + 2, h => exact absurd h (by omega)
def T_Pl : u_T := fun k => match k with
  | 0 => ("SchemaDesk$Plan", "schema", "LSchemaDesk$Tree;", true)
  | 1 => ("SchemaDesk$Plan", "fresh", "Z", false)
  | 2 => ("SchemaDesk$Plan", "word", "[I", true)
  | 3 => ("SchemaDesk$Plan", "target", "[I", true)
  | 4 => ("SchemaDesk$Plan", "properties", "[I", true)
  | 5 => ("SchemaDesk$Plan", "order", "[I", true)
  | 6 => ("SchemaDesk$Plan", "ordered", "I", false)
  | 7 => ("SchemaDesk$Plan", "circular", "Z", false)
  | 8 => ("SchemaDesk$Plan", "words", "LSchemaDesk$WordBook;", true)
  | _ => ("SchemaDesk$Plan", "placed", "[Z", true)
def ty_Pl : Nat → FieldType := fun k => match k with
  | 0 => .object "SchemaDesk$Tree"
  | 1 => .boolean
  | 2 => .array .int
  | 3 => .array .int
  | 4 => .array .int
  | 5 => .array .int
  | 6 => .int
  | 7 => .boolean
  | 8 => .object "SchemaDesk$WordBook"
  | _ => .array .boolean
theorem nm_Pl : ∀ a, a < 10 → ∀ b, b < 10 → a ≠ b → (T_Pl a).2.1 ≠ (T_Pl b).2.1 := by decide +kernel
theorem ty_Pl_ok : ∀ k, k < 10 → parseFieldDescriptor (T_Pl k).2.2.1 = some (ty_Pl k) := by decide +kernel
theorem gw260 : (Jvm.Cond.laysFinal "SchemaDesk$Plan" "SchemaDesk$Plan" "schema" "LSchemaDesk$Tree;") ∈ GW := gw_t2 (List.mem_of_getElem? (i := 20) rfl) rfl
theorem gw262 : (Jvm.Cond.lays "SchemaDesk$Plan" "SchemaDesk$Plan" "fresh" "Z") ∈ GW := gw_t2 (List.mem_of_getElem? (i := 22) rfl) rfl
theorem gw264 : (Jvm.Cond.laysFinal "SchemaDesk$Plan" "SchemaDesk$Plan" "word" "[I") ∈ GW := gw_t2 (List.mem_of_getElem? (i := 24) rfl) rfl
theorem gw266 : (Jvm.Cond.laysFinal "SchemaDesk$Plan" "SchemaDesk$Plan" "target" "[I") ∈ GW := gw_t2 (List.mem_of_getElem? (i := 26) rfl) rfl
theorem gw268 : (Jvm.Cond.laysFinal "SchemaDesk$Plan" "SchemaDesk$Plan" "properties" "[I") ∈ GW := gw_t2 (List.mem_of_getElem? (i := 28) rfl) rfl
theorem gw270 : (Jvm.Cond.laysFinal "SchemaDesk$Plan" "SchemaDesk$Plan" "order" "[I") ∈ GW := gw_t2 (List.mem_of_getElem? (i := 30) rfl) rfl
theorem gw272 : (Jvm.Cond.lays "SchemaDesk$Plan" "SchemaDesk$Plan" "ordered" "I") ∈ GW := gw_t2 (List.mem_of_getElem? (i := 32) rfl) rfl
theorem gw274 : (Jvm.Cond.lays "SchemaDesk$Plan" "SchemaDesk$Plan" "circular" "Z") ∈ GW := gw_t2 (List.mem_of_getElem? (i := 34) rfl) rfl
theorem gw276 : (Jvm.Cond.laysFinal "SchemaDesk$Plan" "SchemaDesk$Plan" "words" "LSchemaDesk$WordBook;") ∈ GW := gw_t2 (List.mem_of_getElem? (i := 36) rfl) rfl
theorem gw278 : (Jvm.Cond.laysFinal "SchemaDesk$Plan" "SchemaDesk$Plan" "placed" "[Z") ∈ GW := gw_t2 (List.mem_of_getElem? (i := 38) rfl) rfl
theorem in_Pl : ∀ w ∈ u_ws R_Pl T_Pl 10, w ∈ GW := by
  intro w hw
  obtain ⟨k, hk, rfl⟩ := List.mem_map.mp hw
  have hk := List.mem_range.mp hk
  match k, hk with
  | 0, _ => exact gw260
  | 1, _ => exact gw262
  | 2, _ => exact gw264
  | 3, _ => exact gw266
  | 4, _ => exact gw268
  | 5, _ => exact gw270
  | 6, _ => exact gw272
  | 7, _ => exact gw274
  | 8, _ => exact gw276
  | 9, _ => exact gw278
  | k + 10, h => exact absurd h (by omega)
def T_Vd : u_T := fun k => match k with
  | 0 => ("SchemaDesk$Verdicts", "plan", "LSchemaDesk$Plan;", true)
  | 1 => ("SchemaDesk$Verdicts", "schema", "LSchemaDesk$Tree;", true)
  | 2 => ("SchemaDesk$Verdicts", "document", "LSchemaDesk$Tree;", true)
  | 3 => ("SchemaDesk$Verdicts", "fresh", "Z", false)
  | 4 => ("SchemaDesk$Verdicts", "held", "LSchemaDesk$Marks;", true)
  | _ => ("SchemaDesk$Verdicts", "evaluated", "LSchemaDesk$Marks;", true)
def ty_Vd : Nat → FieldType := fun k => match k with
  | 0 => .object "SchemaDesk$Plan"
  | 1 => .object "SchemaDesk$Tree"
  | 2 => .object "SchemaDesk$Tree"
  | 3 => .boolean
  | 4 => .object "SchemaDesk$Marks"
  | _ => .object "SchemaDesk$Marks"
theorem nm_Vd : ∀ a, a < 6 → ∀ b, b < 6 → a ≠ b → (T_Vd a).2.1 ≠ (T_Vd b).2.1 := by decide +kernel
theorem ty_Vd_ok : ∀ k, k < 6 → parseFieldDescriptor (T_Vd k).2.2.1 = some (ty_Vd k) := by decide +kernel
theorem gw312 : (Jvm.Cond.laysFinal "SchemaDesk$Verdicts" "SchemaDesk$Verdicts" "plan" "LSchemaDesk$Plan;") ∈ GW := gw_t2 (List.mem_of_getElem? (i := 72) rfl) rfl
theorem gw314 : (Jvm.Cond.laysFinal "SchemaDesk$Verdicts" "SchemaDesk$Verdicts" "schema" "LSchemaDesk$Tree;") ∈ GW := gw_t2 (List.mem_of_getElem? (i := 74) rfl) rfl
theorem gw316 : (Jvm.Cond.laysFinal "SchemaDesk$Verdicts" "SchemaDesk$Verdicts" "document" "LSchemaDesk$Tree;") ∈ GW := gw_t2 (List.mem_of_getElem? (i := 76) rfl) rfl
theorem gw318 : (Jvm.Cond.lays "SchemaDesk$Verdicts" "SchemaDesk$Verdicts" "fresh" "Z") ∈ GW := gw_t2 (List.mem_of_getElem? (i := 78) rfl) rfl
theorem gw320 : (Jvm.Cond.laysFinal "SchemaDesk$Verdicts" "SchemaDesk$Verdicts" "held" "LSchemaDesk$Marks;") ∈ GW := gw_t2 (List.mem_of_getElem? (i := 80) rfl) rfl
theorem gw322 : (Jvm.Cond.laysFinal "SchemaDesk$Verdicts" "SchemaDesk$Verdicts" "evaluated" "LSchemaDesk$Marks;") ∈ GW := gw_t2 (List.mem_of_getElem? (i := 82) rfl) rfl
theorem in_Vd : ∀ w ∈ u_ws R_Vd T_Vd 6, w ∈ GW := by
  intro w hw
  obtain ⟨k, hk, rfl⟩ := List.mem_map.mp hw
  have hk := List.mem_range.mp hk
  match k, hk with
  | 0, _ => exact gw312
  | 1, _ => exact gw314
  | 2, _ => exact gw316
  | 3, _ => exact gw318
  | 4, _ => exact gw320
  | 5, _ => exact gw322
  | k + 6, h => exact absurd h (by omega)
def T_Rp : u_T := fun k => match k with
  | 0 => ("SchemaDesk$Report", "count", "I", false)
  | 1 => ("SchemaDesk$Report", "rows", "[I", false)
  | 2 => ("SchemaDesk$Report", "verdicts", "LSchemaDesk$Verdicts;", true)
  | 3 => ("SchemaDesk$Report", "plan", "LSchemaDesk$Plan;", true)
  | 4 => ("SchemaDesk$Report", "schema", "LSchemaDesk$Tree;", true)
  | 5 => ("SchemaDesk$Report", "document", "LSchemaDesk$Tree;", true)
  | 6 => ("SchemaDesk$Report", "reported", "LSchemaDesk$Marks;", true)
  | _ => ("SchemaDesk$Report", "wrong", "LSchemaDesk$Marks;", true)
def ty_Rp : Nat → FieldType := fun k => match k with
  | 0 => .int
  | 1 => .array .int
  | 2 => .object "SchemaDesk$Verdicts"
  | 3 => .object "SchemaDesk$Plan"
  | 4 => .object "SchemaDesk$Tree"
  | 5 => .object "SchemaDesk$Tree"
  | 6 => .object "SchemaDesk$Marks"
  | _ => .object "SchemaDesk$Marks"
theorem nm_Rp : ∀ a, a < 8 → ∀ b, b < 8 → a ≠ b → (T_Rp a).2.1 ≠ (T_Rp b).2.1 := by decide +kernel
theorem ty_Rp_ok : ∀ k, k < 8 → parseFieldDescriptor (T_Rp k).2.2.1 = some (ty_Rp k) := by decide +kernel
theorem gw342 : (Jvm.Cond.lays "SchemaDesk$Report" "SchemaDesk$Report" "count" "I") ∈ GW := gw_t2 (List.mem_of_getElem? (i := 102) rfl) rfl
theorem gw344 : (Jvm.Cond.lays "SchemaDesk$Report" "SchemaDesk$Report" "rows" "[I") ∈ GW := gw_t2 (List.mem_of_getElem? (i := 104) rfl) rfl
theorem gw346 : (Jvm.Cond.laysFinal "SchemaDesk$Report" "SchemaDesk$Report" "verdicts" "LSchemaDesk$Verdicts;") ∈ GW := gw_t2 (List.mem_of_getElem? (i := 106) rfl) rfl
theorem gw348 : (Jvm.Cond.laysFinal "SchemaDesk$Report" "SchemaDesk$Report" "plan" "LSchemaDesk$Plan;") ∈ GW := gw_t2 (List.mem_of_getElem? (i := 108) rfl) rfl
theorem gw350 : (Jvm.Cond.laysFinal "SchemaDesk$Report" "SchemaDesk$Report" "schema" "LSchemaDesk$Tree;") ∈ GW := gw_t2 (List.mem_of_getElem? (i := 110) rfl) rfl
theorem gw352 : (Jvm.Cond.laysFinal "SchemaDesk$Report" "SchemaDesk$Report" "document" "LSchemaDesk$Tree;") ∈ GW := gw_t2 (List.mem_of_getElem? (i := 112) rfl) rfl
theorem gw354 : (Jvm.Cond.laysFinal "SchemaDesk$Report" "SchemaDesk$Report" "reported" "LSchemaDesk$Marks;") ∈ GW := gw_t2 (List.mem_of_getElem? (i := 114) rfl) rfl
theorem gw356 : (Jvm.Cond.laysFinal "SchemaDesk$Report" "SchemaDesk$Report" "wrong" "LSchemaDesk$Marks;") ∈ GW := gw_t2 (List.mem_of_getElem? (i := 116) rfl) rfl
theorem in_Rp : ∀ w ∈ u_ws R_Rp T_Rp 8, w ∈ GW := by
  intro w hw
  obtain ⟨k, hk, rfl⟩ := List.mem_map.mp hw
  have hk := List.mem_range.mp hk
  match k, hk with
  | 0, _ => exact gw342
  | 1, _ => exact gw344
  | 2, _ => exact gw346
  | 3, _ => exact gw348
  | 4, _ => exact gw350
  | 5, _ => exact gw352
  | 6, _ => exact gw354
  | 7, _ => exact gw356
  | k + 8, h => exact absurd h (by omega)
def T_Pr : u_T := fun k => match k with
  | 0 => ("SchemaDesk$Proposals", "count", "I", false)
  | 1 => ("SchemaDesk$Proposals", "letters", "[C", true)
  | 2 => ("SchemaDesk$Proposals", "starts", "[I", true)
  | 3 => ("SchemaDesk$Proposals", "found", "[I", true)
  | 4 => ("SchemaDesk$Proposals", "foundCount", "I", false)
  | 5 => ("SchemaDesk$Proposals", "verdicts", "LSchemaDesk$Verdicts;", true)
  | 6 => ("SchemaDesk$Proposals", "plan", "LSchemaDesk$Plan;", true)
  | 7 => ("SchemaDesk$Proposals", "schema", "LSchemaDesk$Tree;", true)
  | 8 => ("SchemaDesk$Proposals", "document", "LSchemaDesk$Tree;", true)
  | _ => ("SchemaDesk$Proposals", "reached", "LSchemaDesk$Marks;", true)
def ty_Pr : Nat → FieldType := fun k => match k with
  | 0 => .int
  | 1 => .array .char
  | 2 => .array .int
  | 3 => .array .int
  | 4 => .int
  | 5 => .object "SchemaDesk$Verdicts"
  | 6 => .object "SchemaDesk$Plan"
  | 7 => .object "SchemaDesk$Tree"
  | 8 => .object "SchemaDesk$Tree"
  | _ => .object "SchemaDesk$Marks"
theorem nm_Pr : ∀ a, a < 10 → ∀ b, b < 10 → a ≠ b → (T_Pr a).2.1 ≠ (T_Pr b).2.1 := by decide +kernel
theorem ty_Pr_ok : ∀ k, k < 10 → parseFieldDescriptor (T_Pr k).2.2.1 = some (ty_Pr k) := by decide +kernel
theorem gw378 : (Jvm.Cond.lays "SchemaDesk$Proposals" "SchemaDesk$Proposals" "count" "I") ∈ GW := gw_t2 (List.mem_of_getElem? (i := 138) rfl) rfl
theorem gw380 : (Jvm.Cond.laysFinal "SchemaDesk$Proposals" "SchemaDesk$Proposals" "letters" "[C") ∈ GW := gw_t2 (List.mem_of_getElem? (i := 140) rfl) rfl
theorem gw382 : (Jvm.Cond.laysFinal "SchemaDesk$Proposals" "SchemaDesk$Proposals" "starts" "[I") ∈ GW := gw_t2 (List.mem_of_getElem? (i := 142) rfl) rfl
theorem gw384 : (Jvm.Cond.laysFinal "SchemaDesk$Proposals" "SchemaDesk$Proposals" "found" "[I") ∈ GW := gw_t2 (List.mem_of_getElem? (i := 144) rfl) rfl
theorem gw386 : (Jvm.Cond.lays "SchemaDesk$Proposals" "SchemaDesk$Proposals" "foundCount" "I") ∈ GW := gw_t2 (List.mem_of_getElem? (i := 146) rfl) rfl
theorem gw388 : (Jvm.Cond.laysFinal "SchemaDesk$Proposals" "SchemaDesk$Proposals" "verdicts" "LSchemaDesk$Verdicts;") ∈ GW := gw_t2 (List.mem_of_getElem? (i := 148) rfl) rfl
theorem gw390 : (Jvm.Cond.laysFinal "SchemaDesk$Proposals" "SchemaDesk$Proposals" "plan" "LSchemaDesk$Plan;") ∈ GW := gw_t2 (List.mem_of_getElem? (i := 150) rfl) rfl
theorem gw392 : (Jvm.Cond.laysFinal "SchemaDesk$Proposals" "SchemaDesk$Proposals" "schema" "LSchemaDesk$Tree;") ∈ GW := gw_t2 (List.mem_of_getElem? (i := 152) rfl) rfl
theorem gw394 : (Jvm.Cond.laysFinal "SchemaDesk$Proposals" "SchemaDesk$Proposals" "document" "LSchemaDesk$Tree;") ∈ GW := gw_t2 (List.mem_of_getElem? (i := 154) rfl) rfl
theorem gw396 : (Jvm.Cond.laysFinal "SchemaDesk$Proposals" "SchemaDesk$Proposals" "reached" "LSchemaDesk$Marks;") ∈ GW := gw_t2 (List.mem_of_getElem? (i := 156) rfl) rfl
theorem in_Pr : ∀ w ∈ u_ws R_Pr T_Pr 10, w ∈ GW := by
  intro w hw
  obtain ⟨k, hk, rfl⟩ := List.mem_map.mp hw
  have hk := List.mem_range.mp hk
  match k, hk with
  | 0, _ => exact gw378
  | 1, _ => exact gw380
  | 2, _ => exact gw382
  | 3, _ => exact gw384
  | 4, _ => exact gw386
  | 5, _ => exact gw388
  | 6, _ => exact gw390
  | 7, _ => exact gw392
  | 8, _ => exact gw394
  | 9, _ => exact gw396
  | k + 10, h => exact absurd h (by omega)
def T_Sd : u_T := fun k => match k with
  | 0 => ("SchemaDesk", "words", "LSchemaDesk$WordBook;", true)
  | 1 => ("SchemaDesk", "schema", "LSchemaDesk$Tree;", true)
  | 2 => ("SchemaDesk", "document", "LSchemaDesk$Tree;", true)
  | 3 => ("SchemaDesk", "schemaReader", "LSchemaDesk$Reader;", true)
  | 4 => ("SchemaDesk", "documentReader", "LSchemaDesk$Reader;", true)
  | 5 => ("SchemaDesk", "plan", "LSchemaDesk$Plan;", true)
  | 6 => ("SchemaDesk", "verdicts", "LSchemaDesk$Verdicts;", true)
  | 7 => ("SchemaDesk", "report", "LSchemaDesk$Report;", true)
  | _ => ("SchemaDesk", "proposals", "LSchemaDesk$Proposals;", true)
def ty_Sd : Nat → FieldType := fun k => match k with
  | 0 => .object "SchemaDesk$WordBook"
  | 1 => .object "SchemaDesk$Tree"
  | 2 => .object "SchemaDesk$Tree"
  | 3 => .object "SchemaDesk$Reader"
  | 4 => .object "SchemaDesk$Reader"
  | 5 => .object "SchemaDesk$Plan"
  | 6 => .object "SchemaDesk$Verdicts"
  | 7 => .object "SchemaDesk$Report"
  | _ => .object "SchemaDesk$Proposals"
theorem nm_Sd : ∀ a, a < 9 → ∀ b, b < 9 → a ≠ b → (T_Sd a).2.1 ≠ (T_Sd b).2.1 := by decide +kernel
theorem ty_Sd_ok : ∀ k, k < 9 → parseFieldDescriptor (T_Sd k).2.2.1 = some (ty_Sd k) := by decide +kernel
theorem gw408 : (Jvm.Cond.laysFinal "SchemaDesk" "SchemaDesk" "words" "LSchemaDesk$WordBook;") ∈ GW := gw_t2 (List.mem_of_getElem? (i := 168) rfl) rfl
theorem gw410 : (Jvm.Cond.laysFinal "SchemaDesk" "SchemaDesk" "schema" "LSchemaDesk$Tree;") ∈ GW := gw_t2 (List.mem_of_getElem? (i := 170) rfl) rfl
theorem gw412 : (Jvm.Cond.laysFinal "SchemaDesk" "SchemaDesk" "document" "LSchemaDesk$Tree;") ∈ GW := gw_t2 (List.mem_of_getElem? (i := 172) rfl) rfl
theorem gw414 : (Jvm.Cond.laysFinal "SchemaDesk" "SchemaDesk" "schemaReader" "LSchemaDesk$Reader;") ∈ GW := gw_t2 (List.mem_of_getElem? (i := 174) rfl) rfl
theorem gw416 : (Jvm.Cond.laysFinal "SchemaDesk" "SchemaDesk" "documentReader" "LSchemaDesk$Reader;") ∈ GW := gw_t2 (List.mem_of_getElem? (i := 176) rfl) rfl
theorem gw418 : (Jvm.Cond.laysFinal "SchemaDesk" "SchemaDesk" "plan" "LSchemaDesk$Plan;") ∈ GW := gw_t2 (List.mem_of_getElem? (i := 178) rfl) rfl
theorem gw420 : (Jvm.Cond.laysFinal "SchemaDesk" "SchemaDesk" "verdicts" "LSchemaDesk$Verdicts;") ∈ GW := gw_t2 (List.mem_of_getElem? (i := 180) rfl) rfl
theorem gw422 : (Jvm.Cond.laysFinal "SchemaDesk" "SchemaDesk" "report" "LSchemaDesk$Report;") ∈ GW := gw_t2 (List.mem_of_getElem? (i := 182) rfl) rfl
theorem gw424 : (Jvm.Cond.laysFinal "SchemaDesk" "SchemaDesk" "proposals" "LSchemaDesk$Proposals;") ∈ GW := gw_t2 (List.mem_of_getElem? (i := 184) rfl) rfl
theorem in_Sd : ∀ w ∈ u_ws R_Sd T_Sd 9, w ∈ GW := by
  intro w hw
  obtain ⟨k, hk, rfl⟩ := List.mem_map.mp hw
  have hk := List.mem_range.mp hk
  match k, hk with
  | 0, _ => exact gw408
  | 1, _ => exact gw410
  | 2, _ => exact gw412
  | 3, _ => exact gw414
  | 4, _ => exact gw416
  | 5, _ => exact gw418
  | 6, _ => exact gw420
  | 7, _ => exact gw422
  | 8, _ => exact gw424
  | k + 9, h => exact absurd h (by omega)
def T_Md : u_T := fun k => match k with
  | 0 => ("SchemaDeskModel", "words", "[J", true)
  | 1 => ("SchemaDeskModel", "code", "I", false)
  | 2 => ("SchemaDeskModel", "text", "[I", true)
  | 3 => ("SchemaDeskModel", "length", "[I", true)
  | 4 => ("SchemaDeskModel", "size", "[I", true)
  | 5 => ("SchemaDeskModel", "kind", "[I", true)
  | 6 => ("SchemaDeskModel", "from", "[I", true)
  | 7 => ("SchemaDeskModel", "to", "[I", true)
  | 8 => ("SchemaDeskModel", "chars", "[I", true)
  | 9 => ("SchemaDeskModel", "parent", "[I", true)
  | 10 => ("SchemaDeskModel", "many", "[I", true)
  | 11 => ("SchemaDeskModel", "first", "[I", true)
  | 12 => ("SchemaDeskModel", "next", "[I", true)
  | 13 => ("SchemaDeskModel", "name", "[I", true)
  | 14 => ("SchemaDeskModel", "nameEnd", "[I", true)
  | 15 => ("SchemaDeskModel", "value", "[I", true)
  | 16 => ("SchemaDeskModel", "found", "[I", true)
  | 17 => ("SchemaDeskModel", "faulty", "[I", true)
  | 18 => ("SchemaDeskModel", "t", "I", false)
  | 19 => ("SchemaDeskModel", "at", "I", false)
  | 20 => ("SchemaDeskModel", "depth", "I", false)
  | 21 => ("SchemaDeskModel", "holder", "[I", true)
  | 22 => ("SchemaDeskModel", "last", "[I", true)
  | 23 => ("SchemaDeskModel", "since", "[Z", true)
  | 24 => ("SchemaDeskModel", "comma", "[Z", true)
  | 25 => ("SchemaDeskModel", "rule", "[I", true)
  | 26 => ("SchemaDeskModel", "target", "[I", true)
  | 27 => ("SchemaDeskModel", "order", "[I", true)
  | 28 => ("SchemaDeskModel", "ordered", "I", false)
  | 29 => ("SchemaDeskModel", "ready", "[Z", true)
  | 30 => ("SchemaDeskModel", "equal0", "[J", true)
  | 31 => ("SchemaDeskModel", "equal1", "[J", true)
  | 32 => ("SchemaDeskModel", "holds0", "[J", true)
  | 33 => ("SchemaDeskModel", "holds1", "[J", true)
  | 34 => ("SchemaDeskModel", "marked0", "[J", true)
  | 35 => ("SchemaDeskModel", "marked1", "[J", true)
  | 36 => ("SchemaDeskModel", "evaluated0", "[J", true)
  | 37 => ("SchemaDeskModel", "evaluated1", "[J", true)
  | 38 => ("SchemaDeskModel", "set0", "J", false)
  | 39 => ("SchemaDeskModel", "set1", "J", false)
  | 40 => ("SchemaDeskModel", "diagnostics", "I", false)
  | 41 => ("SchemaDeskModel", "told", "[I", true)
  | 42 => ("SchemaDeskModel", "names", "I", false)
  | 43 => ("SchemaDeskModel", "kept", "[I", true)
  | 44 => ("SchemaDeskModel", "begins", "[I", true)
  | _ => ("SchemaDeskModel", "candidate", "[I", true)
def ty_Md : Nat → FieldType := fun k => match k with
  | 0 => .array .long
  | 1 => .int
  | 2 => .array .int
  | 3 => .array .int
  | 4 => .array .int
  | 5 => .array .int
  | 6 => .array .int
  | 7 => .array .int
  | 8 => .array .int
  | 9 => .array .int
  | 10 => .array .int
  | 11 => .array .int
  | 12 => .array .int
  | 13 => .array .int
  | 14 => .array .int
  | 15 => .array .int
  | 16 => .array .int
  | 17 => .array .int
  | 18 => .int
  | 19 => .int
  | 20 => .int
  | 21 => .array .int
  | 22 => .array .int
  | 23 => .array .boolean
  | 24 => .array .boolean
  | 25 => .array .int
  | 26 => .array .int
  | 27 => .array .int
  | 28 => .int
  | 29 => .array .boolean
  | 30 => .array .long
  | 31 => .array .long
  | 32 => .array .long
  | 33 => .array .long
  | 34 => .array .long
  | 35 => .array .long
  | 36 => .array .long
  | 37 => .array .long
  | 38 => .long
  | 39 => .long
  | 40 => .int
  | 41 => .array .int
  | 42 => .int
  | 43 => .array .int
  | 44 => .array .int
  | _ => .array .int
theorem nm_Md : ∀ a, a < 46 → ∀ b, b < 46 → a ≠ b → (T_Md a).2.1 ≠ (T_Md b).2.1 := by decide +kernel
theorem ty_Md_ok : ∀ k, k < 46 → parseFieldDescriptor (T_Md k).2.2.1 = some (ty_Md k) := by decide +kernel
theorem gw1110 : (Jvm.Cond.laysFinal "SchemaDeskModel" "SchemaDeskModel" "words" "[J") ∈ GW := gw_t5 (List.mem_of_getElem? (i := 150) rfl) rfl
theorem gw1112 : (Jvm.Cond.lays "SchemaDeskModel" "SchemaDeskModel" "code" "I") ∈ GW := gw_t5 (List.mem_of_getElem? (i := 152) rfl) rfl
theorem gw1114 : (Jvm.Cond.laysFinal "SchemaDeskModel" "SchemaDeskModel" "text" "[I") ∈ GW := gw_t5 (List.mem_of_getElem? (i := 154) rfl) rfl
theorem gw1116 : (Jvm.Cond.laysFinal "SchemaDeskModel" "SchemaDeskModel" "length" "[I") ∈ GW := gw_t5 (List.mem_of_getElem? (i := 156) rfl) rfl
theorem gw1118 : (Jvm.Cond.laysFinal "SchemaDeskModel" "SchemaDeskModel" "size" "[I") ∈ GW := gw_t5 (List.mem_of_getElem? (i := 158) rfl) rfl
theorem gw1120 : (Jvm.Cond.laysFinal "SchemaDeskModel" "SchemaDeskModel" "kind" "[I") ∈ GW := gw_t5 (List.mem_of_getElem? (i := 160) rfl) rfl
theorem gw1122 : (Jvm.Cond.laysFinal "SchemaDeskModel" "SchemaDeskModel" "from" "[I") ∈ GW := gw_t5 (List.mem_of_getElem? (i := 162) rfl) rfl
theorem gw1124 : (Jvm.Cond.laysFinal "SchemaDeskModel" "SchemaDeskModel" "to" "[I") ∈ GW := gw_t5 (List.mem_of_getElem? (i := 164) rfl) rfl
theorem gw1126 : (Jvm.Cond.laysFinal "SchemaDeskModel" "SchemaDeskModel" "chars" "[I") ∈ GW := gw_t5 (List.mem_of_getElem? (i := 166) rfl) rfl
theorem gw1128 : (Jvm.Cond.laysFinal "SchemaDeskModel" "SchemaDeskModel" "parent" "[I") ∈ GW := gw_t5 (List.mem_of_getElem? (i := 168) rfl) rfl
theorem gw1130 : (Jvm.Cond.laysFinal "SchemaDeskModel" "SchemaDeskModel" "many" "[I") ∈ GW := gw_t5 (List.mem_of_getElem? (i := 170) rfl) rfl
theorem gw1132 : (Jvm.Cond.laysFinal "SchemaDeskModel" "SchemaDeskModel" "first" "[I") ∈ GW := gw_t5 (List.mem_of_getElem? (i := 172) rfl) rfl
theorem gw1134 : (Jvm.Cond.laysFinal "SchemaDeskModel" "SchemaDeskModel" "next" "[I") ∈ GW := gw_t5 (List.mem_of_getElem? (i := 174) rfl) rfl
theorem gw1136 : (Jvm.Cond.laysFinal "SchemaDeskModel" "SchemaDeskModel" "name" "[I") ∈ GW := gw_t5 (List.mem_of_getElem? (i := 176) rfl) rfl
theorem gw1138 : (Jvm.Cond.laysFinal "SchemaDeskModel" "SchemaDeskModel" "nameEnd" "[I") ∈ GW := gw_t5 (List.mem_of_getElem? (i := 178) rfl) rfl
theorem gw1140 : (Jvm.Cond.laysFinal "SchemaDeskModel" "SchemaDeskModel" "value" "[I") ∈ GW := gw_t5 (List.mem_of_getElem? (i := 180) rfl) rfl
theorem gw1142 : (Jvm.Cond.laysFinal "SchemaDeskModel" "SchemaDeskModel" "found" "[I") ∈ GW := gw_t5 (List.mem_of_getElem? (i := 182) rfl) rfl
theorem gw1144 : (Jvm.Cond.laysFinal "SchemaDeskModel" "SchemaDeskModel" "faulty" "[I") ∈ GW := gw_t5 (List.mem_of_getElem? (i := 184) rfl) rfl
theorem gw1146 : (Jvm.Cond.lays "SchemaDeskModel" "SchemaDeskModel" "t" "I") ∈ GW := gw_t5 (List.mem_of_getElem? (i := 186) rfl) rfl
theorem gw1148 : (Jvm.Cond.lays "SchemaDeskModel" "SchemaDeskModel" "at" "I") ∈ GW := gw_t5 (List.mem_of_getElem? (i := 188) rfl) rfl
theorem gw1150 : (Jvm.Cond.lays "SchemaDeskModel" "SchemaDeskModel" "depth" "I") ∈ GW := gw_t5 (List.mem_of_getElem? (i := 190) rfl) rfl
theorem gw1152 : (Jvm.Cond.laysFinal "SchemaDeskModel" "SchemaDeskModel" "holder" "[I") ∈ GW := gw_t5 (List.mem_of_getElem? (i := 192) rfl) rfl
theorem gw1154 : (Jvm.Cond.laysFinal "SchemaDeskModel" "SchemaDeskModel" "last" "[I") ∈ GW := gw_t5 (List.mem_of_getElem? (i := 194) rfl) rfl
theorem gw1156 : (Jvm.Cond.laysFinal "SchemaDeskModel" "SchemaDeskModel" "since" "[Z") ∈ GW := gw_t5 (List.mem_of_getElem? (i := 196) rfl) rfl
theorem gw1158 : (Jvm.Cond.laysFinal "SchemaDeskModel" "SchemaDeskModel" "comma" "[Z") ∈ GW := gw_t5 (List.mem_of_getElem? (i := 198) rfl) rfl
theorem gw1160 : (Jvm.Cond.laysFinal "SchemaDeskModel" "SchemaDeskModel" "rule" "[I") ∈ GW := gw_t5 (List.mem_of_getElem? (i := 200) rfl) rfl
theorem gw1162 : (Jvm.Cond.laysFinal "SchemaDeskModel" "SchemaDeskModel" "target" "[I") ∈ GW := gw_t5 (List.mem_of_getElem? (i := 202) rfl) rfl
theorem gw1164 : (Jvm.Cond.laysFinal "SchemaDeskModel" "SchemaDeskModel" "order" "[I") ∈ GW := gw_t5 (List.mem_of_getElem? (i := 204) rfl) rfl
theorem gw1166 : (Jvm.Cond.lays "SchemaDeskModel" "SchemaDeskModel" "ordered" "I") ∈ GW := gw_t5 (List.mem_of_getElem? (i := 206) rfl) rfl
theorem gw1168 : (Jvm.Cond.laysFinal "SchemaDeskModel" "SchemaDeskModel" "ready" "[Z") ∈ GW := gw_t5 (List.mem_of_getElem? (i := 208) rfl) rfl
theorem gw1170 : (Jvm.Cond.laysFinal "SchemaDeskModel" "SchemaDeskModel" "equal0" "[J") ∈ GW := gw_t5 (List.mem_of_getElem? (i := 210) rfl) rfl
theorem gw1172 : (Jvm.Cond.laysFinal "SchemaDeskModel" "SchemaDeskModel" "equal1" "[J") ∈ GW := gw_t5 (List.mem_of_getElem? (i := 212) rfl) rfl
theorem gw1174 : (Jvm.Cond.laysFinal "SchemaDeskModel" "SchemaDeskModel" "holds0" "[J") ∈ GW := gw_t5 (List.mem_of_getElem? (i := 214) rfl) rfl
theorem gw1176 : (Jvm.Cond.laysFinal "SchemaDeskModel" "SchemaDeskModel" "holds1" "[J") ∈ GW := gw_t5 (List.mem_of_getElem? (i := 216) rfl) rfl
theorem gw1178 : (Jvm.Cond.laysFinal "SchemaDeskModel" "SchemaDeskModel" "marked0" "[J") ∈ GW := gw_t5 (List.mem_of_getElem? (i := 218) rfl) rfl
theorem gw1180 : (Jvm.Cond.laysFinal "SchemaDeskModel" "SchemaDeskModel" "marked1" "[J") ∈ GW := gw_t5 (List.mem_of_getElem? (i := 220) rfl) rfl
theorem gw1182 : (Jvm.Cond.laysFinal "SchemaDeskModel" "SchemaDeskModel" "evaluated0" "[J") ∈ GW := gw_t5 (List.mem_of_getElem? (i := 222) rfl) rfl
theorem gw1184 : (Jvm.Cond.laysFinal "SchemaDeskModel" "SchemaDeskModel" "evaluated1" "[J") ∈ GW := gw_t5 (List.mem_of_getElem? (i := 224) rfl) rfl
theorem gw1186 : (Jvm.Cond.lays "SchemaDeskModel" "SchemaDeskModel" "set0" "J") ∈ GW := gw_t5 (List.mem_of_getElem? (i := 226) rfl) rfl
theorem gw1188 : (Jvm.Cond.lays "SchemaDeskModel" "SchemaDeskModel" "set1" "J") ∈ GW := gw_t5 (List.mem_of_getElem? (i := 228) rfl) rfl
theorem gw1190 : (Jvm.Cond.lays "SchemaDeskModel" "SchemaDeskModel" "diagnostics" "I") ∈ GW := gw_t5 (List.mem_of_getElem? (i := 230) rfl) rfl
theorem gw1192 : (Jvm.Cond.laysFinal "SchemaDeskModel" "SchemaDeskModel" "told" "[I") ∈ GW := gw_t5 (List.mem_of_getElem? (i := 232) rfl) rfl
theorem gw1194 : (Jvm.Cond.lays "SchemaDeskModel" "SchemaDeskModel" "names" "I") ∈ GW := gw_t5 (List.mem_of_getElem? (i := 234) rfl) rfl
theorem gw1196 : (Jvm.Cond.laysFinal "SchemaDeskModel" "SchemaDeskModel" "kept" "[I") ∈ GW := gw_t5 (List.mem_of_getElem? (i := 236) rfl) rfl
theorem gw1198 : (Jvm.Cond.laysFinal "SchemaDeskModel" "SchemaDeskModel" "begins" "[I") ∈ GW := gw_t5 (List.mem_of_getElem? (i := 238) rfl) rfl
theorem gw1200 : (Jvm.Cond.laysFinal "SchemaDeskModel" "SchemaDeskModel" "candidate" "[I") ∈ GW := gw_t6 (List.mem_of_getElem? (i := 0) rfl) rfl
theorem in_Md : ∀ w ∈ u_ws R_Md T_Md 46, w ∈ GW := by
  intro w hw
  obtain ⟨k, hk, rfl⟩ := List.mem_map.mp hw
  have hk := List.mem_range.mp hk
  match k, hk with
  | 0, _ => exact gw1110
  | 1, _ => exact gw1112
  | 2, _ => exact gw1114
  | 3, _ => exact gw1116
  | 4, _ => exact gw1118
  | 5, _ => exact gw1120
  | 6, _ => exact gw1122
  | 7, _ => exact gw1124
  | 8, _ => exact gw1126
  | 9, _ => exact gw1128
  | 10, _ => exact gw1130
  | 11, _ => exact gw1132
  | 12, _ => exact gw1134
  | 13, _ => exact gw1136
  | 14, _ => exact gw1138
  | 15, _ => exact gw1140
  | 16, _ => exact gw1142
  | 17, _ => exact gw1144
  | 18, _ => exact gw1146
  | 19, _ => exact gw1148
  | 20, _ => exact gw1150
  | 21, _ => exact gw1152
  | 22, _ => exact gw1154
  | 23, _ => exact gw1156
  | 24, _ => exact gw1158
  | 25, _ => exact gw1160
  | 26, _ => exact gw1162
  | 27, _ => exact gw1164
  | 28, _ => exact gw1166
  | 29, _ => exact gw1168
  | 30, _ => exact gw1170
  | 31, _ => exact gw1172
  | 32, _ => exact gw1174
  | 33, _ => exact gw1176
  | 34, _ => exact gw1178
  | 35, _ => exact gw1180
  | 36, _ => exact gw1182
  | 37, _ => exact gw1184
  | 38, _ => exact gw1186
  | 39, _ => exact gw1188
  | 40, _ => exact gw1190
  | 41, _ => exact gw1192
  | 42, _ => exact gw1194
  | 43, _ => exact gw1196
  | 44, _ => exact gw1198
  | 45, _ => exact gw1200
  | k + 46, h => exact absurd h (by omega)
abbrev vwCl : List vw_C := [(R_Tr, T_Tr, 12), (R_Tx, T_Tx, 2), (R_Rd, T_Rd, 5), (R_Mk, T_Mk, 1), (R_Wb, T_Wb, 2), (R_Pl, T_Pl, 10), (R_Vd, T_Vd, 6), (R_Rp, T_Rp, 8), (R_Pr, T_Pr, 10), (R_Sd, T_Sd, 9), (R_Md, T_Md, 46)]
