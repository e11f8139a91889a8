abbrev k_Vd_isSame : ByteArray := prog_9_method_14_code
abbrev y_Vd_isSame : MethodName := ⟨"SchemaDesk$Verdicts", "isSame", "(III)Z"⟩
/-! SchemaDesk$Verdicts.isSame (III)Z -/
theorem d_Vd_isSame_0 : decode k_Vd_isSame 0 = .ok (.aload_n 0, 1) := by decide +kernel
theorem d_Vd_isSame_1 : decode k_Vd_isSame 1 = .ok (.getfield 31, 3) := by decide +kernel
theorem d_Vd_isSame_4 : decode k_Vd_isSame 4 = .ok (.getfield 59, 3) := by decide +kernel
theorem d_Vd_isSame_7 : decode k_Vd_isSame 7 = .ok (.iload_n 1, 1) := by decide +kernel
theorem d_Vd_isSame_8 : decode k_Vd_isSame 8 = .ok (.iaload, 1) := by decide +kernel
theorem d_Vd_isSame_9 : decode k_Vd_isSame 9 = .ok (.istore 4, 2) := by decide +kernel
theorem d_Vd_isSame_11 : decode k_Vd_isSame 11 = .ok (.iload 4, 2) := by decide +kernel
theorem d_Vd_isSame_13 : decode k_Vd_isSame 13 = .ok (.aload_n 0, 1) := by decide +kernel
theorem d_Vd_isSame_14 : decode k_Vd_isSame 14 = .ok (.getfield 32, 3) := by decide +kernel
theorem d_Vd_isSame_17 : decode k_Vd_isSame 17 = .ok (.getfield 59, 3) := by decide +kernel
theorem d_Vd_isSame_20 : decode k_Vd_isSame 20 = .ok (.iload_n 2, 1) := by decide +kernel
theorem d_Vd_isSame_21 : decode k_Vd_isSame 21 = .ok (.iaload, 1) := by decide +kernel
theorem d_Vd_isSame_22 : decode k_Vd_isSame 22 = .ok (.if_icmp .ne 9, 3) := by decide +kernel
theorem d_Vd_isSame_25 : decode k_Vd_isSame 25 = .ok (.iload_n 3, 1) := by decide +kernel
theorem d_Vd_isSame_26 : decode k_Vd_isSame 26 = .ok (.bipush 8, 2) := by decide +kernel
theorem d_Vd_isSame_28 : decode k_Vd_isSame 28 = .ok (.if_icmp .le 5, 3) := by decide +kernel
theorem d_Vd_isSame_31 : decode k_Vd_isSame 31 = .ok (.iconst 0, 1) := by decide +kernel
theorem d_Vd_isSame_32 : decode k_Vd_isSame 32 = .ok (.ireturn, 1) := by decide +kernel
theorem d_Vd_isSame_33 : decode k_Vd_isSame 33 = .ok (.iload 4, 2) := by decide +kernel
theorem d_Vd_isSame_35 : decode k_Vd_isSame 35 = .ok (.iconst 3, 1) := by decide +kernel
theorem d_Vd_isSame_36 : decode k_Vd_isSame 36 = .ok (.if_icmp .ne 30, 3) := by decide +kernel
theorem d_Vd_isSame_39 : decode k_Vd_isSame 39 = .ok (.aload_n 0, 1) := by decide +kernel
theorem d_Vd_isSame_40 : decode k_Vd_isSame 40 = .ok (.getfield 31, 3) := by decide +kernel
theorem d_Vd_isSame_43 : decode k_Vd_isSame 43 = .ok (.getfield 129, 3) := by decide +kernel
theorem d_Vd_isSame_46 : decode k_Vd_isSame 46 = .ok (.iload_n 1, 1) := by decide +kernel
theorem d_Vd_isSame_47 : decode k_Vd_isSame 47 = .ok (.iaload, 1) := by decide +kernel
theorem d_Vd_isSame_48 : decode k_Vd_isSame 48 = .ok (.aload_n 0, 1) := by decide +kernel
theorem d_Vd_isSame_49 : decode k_Vd_isSame 49 = .ok (.getfield 32, 3) := by decide +kernel
theorem d_Vd_isSame_52 : decode k_Vd_isSame 52 = .ok (.getfield 129, 3) := by decide +kernel
theorem d_Vd_isSame_55 : decode k_Vd_isSame 55 = .ok (.iload_n 2, 1) := by decide +kernel
theorem d_Vd_isSame_56 : decode k_Vd_isSame 56 = .ok (.iaload, 1) := by decide +kernel
theorem d_Vd_isSame_57 : decode k_Vd_isSame 57 = .ok (.if_icmp .ne 7, 3) := by decide +kernel
theorem d_Vd_isSame_60 : decode k_Vd_isSame 60 = .ok (.iconst 1, 1) := by decide +kernel
theorem d_Vd_isSame_61 : decode k_Vd_isSame 61 = .ok (.goto 4, 3) := by decide +kernel
theorem d_Vd_isSame_64 : decode k_Vd_isSame 64 = .ok (.iconst 0, 1) := by decide +kernel
theorem d_Vd_isSame_65 : decode k_Vd_isSame 65 = .ok (.ireturn, 1) := by decide +kernel
theorem d_Vd_isSame_66 : decode k_Vd_isSame 66 = .ok (.iload 4, 2) := by decide +kernel
theorem d_Vd_isSame_68 : decode k_Vd_isSame 68 = .ok (.iconst 4, 1) := by decide +kernel
theorem d_Vd_isSame_69 : decode k_Vd_isSame 69 = .ok (.if_icmp .ne 43, 3) := by decide +kernel
theorem d_Vd_isSame_72 : decode k_Vd_isSame 72 = .ok (.aload_n 0, 1) := by decide +kernel
theorem d_Vd_isSame_73 : decode k_Vd_isSame 73 = .ok (.getfield 31, 3) := by decide +kernel
theorem d_Vd_isSame_76 : decode k_Vd_isSame 76 = .ok (.getfield 109, 3) := by decide +kernel
theorem d_Vd_isSame_79 : decode k_Vd_isSame 79 = .ok (.aload_n 0, 1) := by decide +kernel
theorem d_Vd_isSame_80 : decode k_Vd_isSame 80 = .ok (.getfield 31, 3) := by decide +kernel
theorem d_Vd_isSame_83 : decode k_Vd_isSame 83 = .ok (.getfield 154, 3) := by decide +kernel
theorem d_Vd_isSame_86 : decode k_Vd_isSame 86 = .ok (.iload_n 1, 1) := by decide +kernel
theorem d_Vd_isSame_87 : decode k_Vd_isSame 87 = .ok (.iaload, 1) := by decide +kernel
theorem d_Vd_isSame_88 : decode k_Vd_isSame 88 = .ok (.iconst 1, 1) := by decide +kernel
theorem d_Vd_isSame_89 : decode k_Vd_isSame 89 = .ok (.iadd, 1) := by decide +kernel
theorem d_Vd_isSame_90 : decode k_Vd_isSame 90 = .ok (.aload_n 0, 1) := by decide +kernel
theorem d_Vd_isSame_91 : decode k_Vd_isSame 91 = .ok (.getfield 32, 3) := by decide +kernel
theorem d_Vd_isSame_94 : decode k_Vd_isSame 94 = .ok (.getfield 109, 3) := by decide +kernel
theorem d_Vd_isSame_97 : decode k_Vd_isSame 97 = .ok (.aload_n 0, 1) := by decide +kernel
theorem d_Vd_isSame_98 : decode k_Vd_isSame 98 = .ok (.getfield 32, 3) := by decide +kernel
theorem d_Vd_isSame_101 : decode k_Vd_isSame 101 = .ok (.getfield 154, 3) := by decide +kernel
theorem d_Vd_isSame_104 : decode k_Vd_isSame 104 = .ok (.iload_n 2, 1) := by decide +kernel
theorem d_Vd_isSame_105 : decode k_Vd_isSame 105 = .ok (.iaload, 1) := by decide +kernel
theorem d_Vd_isSame_106 : decode k_Vd_isSame 106 = .ok (.iconst 1, 1) := by decide +kernel
theorem d_Vd_isSame_107 : decode k_Vd_isSame 107 = .ok (.iadd, 1) := by decide +kernel
theorem d_Vd_isSame_108 : decode k_Vd_isSame 108 = .ok (.invokevirtual 175, 3) := by decide +kernel
theorem d_Vd_isSame_111 : decode k_Vd_isSame 111 = .ok (.ireturn, 1) := by decide +kernel
theorem d_Vd_isSame_112 : decode k_Vd_isSame 112 = .ok (.aload_n 0, 1) := by decide +kernel
theorem d_Vd_isSame_113 : decode k_Vd_isSame 113 = .ok (.getfield 31, 3) := by decide +kernel
theorem d_Vd_isSame_116 : decode k_Vd_isSame 116 = .ok (.getfield 69, 3) := by decide +kernel
theorem d_Vd_isSame_119 : decode k_Vd_isSame 119 = .ok (.iload_n 1, 1) := by decide +kernel
theorem d_Vd_isSame_120 : decode k_Vd_isSame 120 = .ok (.iaload, 1) := by decide +kernel
theorem d_Vd_isSame_121 : decode k_Vd_isSame 121 = .ok (.aload_n 0, 1) := by decide +kernel
theorem d_Vd_isSame_122 : decode k_Vd_isSame 122 = .ok (.getfield 32, 3) := by decide +kernel
theorem d_Vd_isSame_125 : decode k_Vd_isSame 125 = .ok (.getfield 69, 3) := by decide +kernel
theorem d_Vd_isSame_128 : decode k_Vd_isSame 128 = .ok (.iload_n 2, 1) := by decide +kernel
theorem d_Vd_isSame_129 : decode k_Vd_isSame 129 = .ok (.iaload, 1) := by decide +kernel
theorem d_Vd_isSame_130 : decode k_Vd_isSame 130 = .ok (.if_icmp .eq 5, 3) := by decide +kernel
theorem d_Vd_isSame_133 : decode k_Vd_isSame 133 = .ok (.iconst 0, 1) := by decide +kernel
theorem d_Vd_isSame_134 : decode k_Vd_isSame 134 = .ok (.ireturn, 1) := by decide +kernel
theorem d_Vd_isSame_135 : decode k_Vd_isSame 135 = .ok (.iload_n 2, 1) := by decide +kernel
theorem d_Vd_isSame_136 : decode k_Vd_isSame 136 = .ok (.iconst 1, 1) := by decide +kernel
theorem d_Vd_isSame_137 : decode k_Vd_isSame 137 = .ok (.iadd, 1) := by decide +kernel
theorem d_Vd_isSame_138 : decode k_Vd_isSame 138 = .ok (.istore 5, 2) := by decide +kernel
theorem d_Vd_isSame_140 : decode k_Vd_isSame 140 = .ok (.iconst 0, 1) := by decide +kernel
theorem d_Vd_isSame_141 : decode k_Vd_isSame 141 = .ok (.istore 6, 2) := by decide +kernel
theorem d_Vd_isSame_143 : decode k_Vd_isSame 143 = .ok (.iload_n 1, 1) := by decide +kernel
theorem d_Vd_isSame_144 : decode k_Vd_isSame 144 = .ok (.iconst 1, 1) := by decide +kernel
theorem d_Vd_isSame_145 : decode k_Vd_isSame 145 = .ok (.iadd, 1) := by decide +kernel
theorem d_Vd_isSame_146 : decode k_Vd_isSame 146 = .ok (.istore 7, 2) := by decide +kernel
theorem d_Vd_isSame_148 : decode k_Vd_isSame 148 = .ok (.iload 6, 2) := by decide +kernel
theorem d_Vd_isSame_150 : decode k_Vd_isSame 150 = .ok (.aload_n 0, 1) := by decide +kernel
theorem d_Vd_isSame_151 : decode k_Vd_isSame 151 = .ok (.getfield 31, 3) := by decide +kernel
theorem d_Vd_isSame_154 : decode k_Vd_isSame 154 = .ok (.getfield 69, 3) := by decide +kernel
theorem d_Vd_isSame_157 : decode k_Vd_isSame 157 = .ok (.iload_n 1, 1) := by decide +kernel
theorem d_Vd_isSame_158 : decode k_Vd_isSame 158 = .ok (.iaload, 1) := by decide +kernel
theorem d_Vd_isSame_159 : decode k_Vd_isSame 159 = .ok (.if_icmp .ge 95, 3) := by decide +kernel
theorem d_Vd_isSame_162 : decode k_Vd_isSame 162 = .ok (.iload 5, 2) := by decide +kernel
theorem d_Vd_isSame_164 : decode k_Vd_isSame 164 = .ok (.istore 8, 2) := by decide +kernel
theorem d_Vd_isSame_166 : decode k_Vd_isSame 166 = .ok (.iload 4, 2) := by decide +kernel
theorem d_Vd_isSame_168 : decode k_Vd_isSame 168 = .ok (.bipush 6, 2) := by decide +kernel
theorem d_Vd_isSame_170 : decode k_Vd_isSame 170 = .ok (.if_icmp .ne 32, 3) := by decide +kernel
theorem d_Vd_isSame_173 : decode k_Vd_isSame 173 = .ok (.aload_n 0, 1) := by decide +kernel
theorem d_Vd_isSame_174 : decode k_Vd_isSame 174 = .ok (.getfield 32, 3) := by decide +kernel
theorem d_Vd_isSame_177 : decode k_Vd_isSame 177 = .ok (.iload_n 2, 1) := by decide +kernel
theorem d_Vd_isSame_178 : decode k_Vd_isSame 178 = .ok (.aload_n 0, 1) := by decide +kernel
theorem d_Vd_isSame_179 : decode k_Vd_isSame 179 = .ok (.getfield 31, 3) := by decide +kernel
theorem d_Vd_isSame_182 : decode k_Vd_isSame 182 = .ok (.getfield 109, 3) := by decide +kernel
theorem d_Vd_isSame_185 : decode k_Vd_isSame 185 = .ok (.aload_n 0, 1) := by decide +kernel
theorem d_Vd_isSame_186 : decode k_Vd_isSame 186 = .ok (.getfield 31, 3) := by decide +kernel
theorem d_Vd_isSame_189 : decode k_Vd_isSame 189 = .ok (.getfield 113, 3) := by decide +kernel
theorem d_Vd_isSame_192 : decode k_Vd_isSame 192 = .ok (.iload 7, 2) := by decide +kernel
theorem d_Vd_isSame_194 : decode k_Vd_isSame 194 = .ok (.iaload, 1) := by decide +kernel
theorem d_Vd_isSame_195 : decode k_Vd_isSame 195 = .ok (.iconst 1, 1) := by decide +kernel
theorem d_Vd_isSame_196 : decode k_Vd_isSame 196 = .ok (.iadd, 1) := by decide +kernel
theorem d_Vd_isSame_197 : decode k_Vd_isSame 197 = .ok (.invokevirtual 116, 3) := by decide +kernel
theorem d_Vd_isSame_200 : decode k_Vd_isSame 200 = .ok (.istore 8, 2) := by decide +kernel
theorem d_Vd_isSame_202 : decode k_Vd_isSame 202 = .ok (.iload 8, 2) := by decide +kernel
theorem d_Vd_isSame_204 : decode k_Vd_isSame 204 = .ok (.iconst (-1), 1) := by decide +kernel
theorem d_Vd_isSame_205 : decode k_Vd_isSame 205 = .ok (.if_icmp .eq 17, 3) := by decide +kernel
theorem d_Vd_isSame_208 : decode k_Vd_isSame 208 = .ok (.aload_n 0, 1) := by decide +kernel
theorem d_Vd_isSame_209 : decode k_Vd_isSame 209 = .ok (.iload 7, 2) := by decide +kernel
theorem d_Vd_isSame_211 : decode k_Vd_isSame 211 = .ok (.iload 8, 2) := by decide +kernel
theorem d_Vd_isSame_213 : decode k_Vd_isSame 213 = .ok (.iload_n 3, 1) := by decide +kernel
theorem d_Vd_isSame_214 : decode k_Vd_isSame 214 = .ok (.iconst 1, 1) := by decide +kernel
theorem d_Vd_isSame_215 : decode k_Vd_isSame 215 = .ok (.iadd, 1) := by decide +kernel
theorem d_Vd_isSame_216 : decode k_Vd_isSame 216 = .ok (.invokevirtual 123, 3) := by decide +kernel
theorem d_Vd_isSame_219 : decode k_Vd_isSame 219 = .ok (.ifCond .ne 5, 3) := by decide +kernel
theorem d_Vd_isSame_222 : decode k_Vd_isSame 222 = .ok (.iconst 0, 1) := by decide +kernel
theorem d_Vd_isSame_223 : decode k_Vd_isSame 223 = .ok (.ireturn, 1) := by decide +kernel
theorem d_Vd_isSame_224 : decode k_Vd_isSame 224 = .ok (.aload_n 0, 1) := by decide +kernel
theorem d_Vd_isSame_225 : decode k_Vd_isSame 225 = .ok (.getfield 32, 3) := by decide +kernel
theorem d_Vd_isSame_228 : decode k_Vd_isSame 228 = .ok (.getfield 76, 3) := by decide +kernel
theorem d_Vd_isSame_231 : decode k_Vd_isSame 231 = .ok (.iload 5, 2) := by decide +kernel
theorem d_Vd_isSame_233 : decode k_Vd_isSame 233 = .ok (.iaload, 1) := by decide +kernel
theorem d_Vd_isSame_234 : decode k_Vd_isSame 234 = .ok (.istore 5, 2) := by decide +kernel
theorem d_Vd_isSame_236 : decode k_Vd_isSame 236 = .ok (.iinc 6 1, 3) := by decide +kernel
theorem d_Vd_isSame_239 : decode k_Vd_isSame 239 = .ok (.aload_n 0, 1) := by decide +kernel
theorem d_Vd_isSame_240 : decode k_Vd_isSame 240 = .ok (.getfield 31, 3) := by decide +kernel
theorem d_Vd_isSame_243 : decode k_Vd_isSame 243 = .ok (.getfield 76, 3) := by decide +kernel
theorem d_Vd_isSame_246 : decode k_Vd_isSame 246 = .ok (.iload 7, 2) := by decide +kernel
theorem d_Vd_isSame_248 : decode k_Vd_isSame 248 = .ok (.iaload, 1) := by decide +kernel
theorem d_Vd_isSame_249 : decode k_Vd_isSame 249 = .ok (.istore 7, 2) := by decide +kernel
theorem d_Vd_isSame_251 : decode k_Vd_isSame 251 = .ok (.goto (-103), 3) := by decide +kernel
theorem d_Vd_isSame_254 : decode k_Vd_isSame 254 = .ok (.iconst 1, 1) := by decide +kernel
theorem d_Vd_isSame_255 : decode k_Vd_isSame 255 = .ok (.ireturn, 1) := by decide +kernel
theorem gw861 : (Jvm.Cond.methodLink "SchemaDesk$Verdicts" (175 : Nat) ({ cls := "SchemaDesk$Text", name := "sameQuoted", desc := "(ILSchemaDesk$Text;I)Z" } : Jvm.MethodName)) ∈ GW := gw_t4 (List.mem_of_getElem? (i := 141) rfl) rfl
theorem gw161 : (Jvm.Cond.fieldLink "SchemaDesk$Verdicts" (129 : Nat) "SchemaDesk$Tree" "number" "[I") ∈ GW := gw_t1 (List.mem_of_getElem? (i := 161) rfl) rfl
theorem gw857 : (Jvm.Cond.methodLink "SchemaDesk$Verdicts" (123 : Nat) ({ cls := "SchemaDesk$Verdicts", name := "isSame", desc := "(III)Z" } : Jvm.MethodName)) ∈ GW := gw_t4 (List.mem_of_getElem? (i := 137) rfl) rfl
theorem gw859 : (Jvm.Cond.instanceMethod ({ cls := "SchemaDesk$Verdicts", name := "isSame", desc := "(III)Z" } : Jvm.MethodName)) ∈ GW := gw_t4 (List.mem_of_getElem? (i := 139) rfl) rfl
theorem gs27 : Cond.selects "SchemaDesk$Verdicts" ⟨"SchemaDesk$Verdicts", "isSame", "(III)Z"⟩ ⟨"SchemaDesk$Verdicts", "isSame", "(III)Z"⟩ ∈ GW := gw_p2 (q := (⟨"SchemaDesk$Verdicts", "isSame", "(III)Z"⟩, 6)) (List.mem_of_getElem? (i := 11) rfl)
theorem gw860 : (Jvm.Cond.code ({ cls := "SchemaDesk$Verdicts", name := "isSame", desc := "(III)Z" } : Jvm.MethodName) prog_9_method_14_code (9 : Nat) (Option.some Jvm.ClassFile.FieldType.boolean)) ∈ GW := gw_t4 (List.mem_of_getElem? (i := 140) rfl) rfl
def wb_Vd_isSame_0 (V : Int32 → Int32 → Int32 → Sg → (Int32 → Sg → Prop) → Prop) (F : Nat → Int32 → Int32 → Int32 → Int32 → Int32 → Int32 → Int32 → Int32 → Sg → Prop) (post : Int32 → Sg → Prop) (x1 : Int32) (x2 : Int32) (x3 : Int32) (σ : Sg) : Prop := (vp_in x1 160 ∧ (vp_in x2 80 ∧ ((¬ (σ.1 1 x1.toNatClampNeg) = (σ.1 14 x2.toNatClampNeg) → (narrow .boolean (.int (0 : Int32)) = .int (0 : Int32) ∧ post (0 : Int32) σ)) ∧ ((σ.1 1 x1.toNatClampNeg) = (σ.1 14 x2.toNatClampNeg) → ((x3 ≤ (8 : Int32) → ((¬ (σ.1 1 x1.toNatClampNeg) = (3 : Int32) → ((¬ (σ.1 1 x1.toNatClampNeg) = (4 : Int32) → (vp_in x1 160 ∧ (vp_in x2 80 ∧ (((σ.1 5 x1.toNatClampNeg) = (σ.1 18 x2.toNatClampNeg) → F 1 x1 x2 x3 (σ.1 1 x1.toNatClampNeg) (x2 + (1 : Int32)) (0 : Int32) (x1 + (1 : Int32)) 0 σ) ∧ (¬ (σ.1 5 x1.toNatClampNeg) = (σ.1 18 x2.toNatClampNeg) → (narrow .boolean (.int (0 : Int32)) = .int (0 : Int32) ∧ post (0 : Int32) σ)))))) ∧ ((σ.1 1 x1.toNatClampNeg) = (4 : Int32) → (vp_in x1 160 ∧ (vp_in x2 80 ∧ (wq_Tx_sameQuoted 0 13 ((σ.1 2 x1.toNatClampNeg) + (1 : Int32)) ((σ.1 15 x2.toNatClampNeg) + (1 : Int32)) σ (fun r1 σ1 => (narrow .boolean (.int r1) = .int r1 ∧ post r1 σ1)))))))) ∧ ((σ.1 1 x1.toNatClampNeg) = (3 : Int32) → (vp_in x1 160 ∧ (vp_in x2 80 ∧ ((¬ (σ.1 7 x1.toNatClampNeg) = (σ.1 20 x2.toNatClampNeg) → (narrow .boolean (.int (0 : Int32)) = .int (0 : Int32) ∧ post (0 : Int32) σ)) ∧ ((σ.1 7 x1.toNatClampNeg) = (σ.1 20 x2.toNatClampNeg) → (narrow .boolean (.int (1 : Int32)) = .int (1 : Int32) ∧ post (1 : Int32) σ)))))))) ∧ (¬ x3 ≤ (8 : Int32) → (narrow .boolean (.int (0 : Int32)) = .int (0 : Int32) ∧ post (0 : Int32) σ)))))))
def wb_Vd_isSame_1 (V : Int32 → Int32 → Int32 → Sg → (Int32 → Sg → Prop) → Prop) (F : Nat → Int32 → Int32 → Int32 → Int32 → Int32 → Int32 → Int32 → Int32 → Sg → Prop) (post : Int32 → Sg → Prop) (x1 : Int32) (x2 : Int32) (x3 : Int32) (x4 : Int32) (x5 : Int32) (x6 : Int32) (x7 : Int32) (σ : Sg) : Prop := (vp_in x1 160 ∧ (((σ.1 5 x1.toNatClampNeg) ≤ x6 → (narrow .boolean (.int (1 : Int32)) = .int (1 : Int32) ∧ post (1 : Int32) σ)) ∧ (¬ (σ.1 5 x1.toNatClampNeg) ≤ x6 → ((¬ x4 = (6 : Int32) → F 2 x1 x2 x3 x4 x5 x6 x7 x5 σ) ∧ (x4 = (6 : Int32) → (vp_in x7 160 ∧ (wq_Tr_childNamed 13 0 x2 ((σ.1 6 x7.toNatClampNeg) + (1 : Int32)) σ (fun r1 σ1 => F 2 x1 x2 x3 x4 x5 x6 x7 r1 σ1))))))))
def wb_Vd_isSame_2 (V : Int32 → Int32 → Int32 → Sg → (Int32 → Sg → Prop) → Prop) (F : Nat → Int32 → Int32 → Int32 → Int32 → Int32 → Int32 → Int32 → Int32 → Sg → Prop) (post : Int32 → Sg → Prop) (x1 : Int32) (x2 : Int32) (x3 : Int32) (x4 : Int32) (x5 : Int32) (x6 : Int32) (x7 : Int32) (x8 : Int32) (σ : Sg) : Prop := ((x8 = (-1 : Int32) → (narrow .boolean (.int (0 : Int32)) = .int (0 : Int32) ∧ post (0 : Int32) σ)) ∧ (¬ x8 = (-1 : Int32) → (V x7 x8 (x3 + (1 : Int32)) σ (fun r1 σ1 => ((¬ r1 = 0 → (vp_in x5 80 ∧ (vp_in x7 160 ∧ F 1 x1 x2 x3 x4 (σ1.1 21 x5.toNatClampNeg) (x6 + 1) (σ1.1 8 x7.toNatClampNeg) 0 σ1))) ∧ (r1 = 0 → (narrow .boolean (.int (0 : Int32)) = .int (0 : Int32) ∧ post (0 : Int32) σ1)))))))
def wp_Vd_isSame (V : Int32 → Int32 → Int32 → Sg → (Int32 → Sg → Prop) → Prop) (post : Int32 → Sg → Prop) : Nat → Nat → Int32 → Int32 → Int32 → Int32 → Int32 → Int32 → Int32 → Int32 → Sg → Prop
  | 0, _, _, _, _, _, _, _, _, _, _ => False
  | n + 1, k, x1, x2, x3, x4, x5, x6, x7, x8, σ => match k with
    | 0 => wb_Vd_isSame_0 V (wp_Vd_isSame V post n) post x1 x2 x3 σ
    | 1 => wb_Vd_isSame_1 V (wp_Vd_isSame V post n) post x1 x2 x3 x4 x5 x6 x7 σ
    | 2 => wb_Vd_isSame_2 V (wp_Vd_isSame V post n) post x1 x2 x3 x4 x5 x6 x7 x8 σ
    | _ => False
def wqf_Vd_isSame (V : Int32 → Int32 → Int32 → Sg → (Int32 → Sg → Prop) → Prop) (x1 : Int32) (x2 : Int32) (x3 : Int32) (σ : Sg) (post : Int32 → Sg → Prop) : Prop := ∃ n, wp_Vd_isSame V post n 0 x1 x2 x3 0 0 0 0 0 σ
def J_Vd_isSamef_1 (p : Program) (l : Launch) (e : Env) (s : State) (m : MethodId) (args : Array Value) (below : List Frame) (meth : Method) (c : Code) (D : va_G) (g : Gm) (A : Nat → Prop) (d : Nat) (post : Int32 → Sg → Prop) (F : Nat → Int32 → Int32 → Int32 → Int32 → Int32 → Int32 → Int32 → Int32 → Sg → Prop) : Prop := ∀ (x1 : Int32) (x2 : Int32) (x3 : Int32) (x4 : Int32) (x5 : Int32) (x6 : Int32) (x7 : Int32) (σ : Sg) (H : Heap) (locs : List Loc) (ls : Array Slot), lv_has ls 9 [(0, .ref (g.1 35)), (1, .int x1), (2, .int x2), (3, .int x3), (4, .int x4), (5, .int x5), (6, .int x6), (7, .int x7)] → Wst D vwCl (WS g) A s σ H locs → F 1 x1 x2 x3 x4 x5 x6 x7 0 σ → W p l e { frames := (5 + 1 * d), cells := 0, slots := 0, locals := (128 + 28 * d) } s m args below meth c H locs 0 0 (MQ below (QiW D vwCl (WS g) post A) args s 0 0 A) (F0 m 148 ls [])
def J_Vd_isSamef_2 (p : Program) (l : Launch) (e : Env) (s : State) (m : MethodId) (args : Array Value) (below : List Frame) (meth : Method) (c : Code) (D : va_G) (g : Gm) (A : Nat → Prop) (d : Nat) (post : Int32 → Sg → Prop) (F : Nat → Int32 → Int32 → Int32 → Int32 → Int32 → Int32 → Int32 → Int32 → Sg → Prop) : Prop := ∀ (x1 : Int32) (x2 : Int32) (x3 : Int32) (x4 : Int32) (x5 : Int32) (x6 : Int32) (x7 : Int32) (x8 : Int32) (σ : Sg) (H : Heap) (locs : List Loc) (ls : Array Slot), lv_has ls 9 [(0, .ref (g.1 35)), (1, .int x1), (2, .int x2), (3, .int x3), (4, .int x4), (5, .int x5), (6, .int x6), (7, .int x7), (8, .int x8)] → Wst D vwCl (WS g) A s σ H locs → F 2 x1 x2 x3 x4 x5 x6 x7 x8 σ → W p l e { frames := (5 + 1 * d), cells := 0, slots := 0, locals := (128 + 28 * d) } s m args below meth c H locs 0 0 (MQ below (QiW D vwCl (WS g) post A) args s 0 0 A) (F0 m 202 ls [])
set_option maxRecDepth 100000 in
set_option maxHeartbeats 4000000 in
theorem b_Vd_isSamef_0 {p : Program} {l : Launch} {e : Env} {s : State} {m : MethodId} {args : Array Value} {below : List Frame} {meth : Method} {c : Code} {D : va_G} {g : Gm} {A : Nat → Prop} {post : Int32 → Sg → Prop} {F : Nat → Int32 → Int32 → Int32 → Int32 → Int32 → Int32 → Int32 → Int32 → Sg → Prop} (C : kC p s m args meth c k_Vd_isSame 9 (some .boolean) GW R_Vd D vwCl g (Zk g) A) {V : Int32 → Int32 → Int32 → Sg → (Int32 → Sg → Prop) → Prop} {d : Nat} (hV : ∀ (sz : Nat) (x1 : Int32) (x2 : Int32) (x3 : Int32) (σ : Sg) (post : Int32 → Sg → Prop), V x1 x2 x3 σ post → Met l y_Vd_isSame (.code y_Vd_isSame k_Vd_isSame 9 (some .boolean) :: GW) { frames := (4 + 1 * d), cells := 0, slots := 0, locals := (100 + 28 * d) } (PcW D vwCl (WS g) g (Zk g) σ sz [.ref (g.1 35), .int x1, .int x2, .int x3]) (QiW D vwCl (WS g) post (va_A (WS g σ) sz)) 0 0 (va_A (WS g σ) sz)) (j1 : J_Vd_isSamef_1 p l e s m args below meth c D g A d post F) (x1 : Int32) (x2 : Int32) (x3 : Int32) (σ : Sg) (H : Heap) (locs : List Loc) (ls : Array Slot) (hl : lv_has ls 9 [(0, .ref (g.1 35)), (1, .int x1), (2, .int x2), (3, .int x3)]) (hst : Wst D vwCl (WS g) A s σ H locs) (h : wb_Vd_isSame_0 V F post x1 x2 x3 σ) : W p l e { frames := (5 + 1 * d), cells := 0, slots := 0, locals := (128 + 28 * d) } s m args below meth c H locs 0 0 (MQ below (QiW D vwCl (WS g) post A) args s 0 0 A) (F0 m 0 ls []) := by
  obtain ⟨hx, hb, hr, hml, hown, hts, hlocks, hK, hZ, hA⟩ := C
  unfold wb_Vd_isSame_0 at h
  refine lv_aload_n hx hb d_Vd_isSame_0 rfl (lv_at hl 0 rfl) ?_
  refine va_get (D := D) (ci := 6) (C := R_Vd) (T := T_Vd) (N := 6) hx hb hts in_Vd hown hK hst.1 35 (WS_o35 g σ) rfl 1 (by decide) (hts _ gw302) (fun _ h9 => h9) rfl d_Vd_isSame_1 ?_
  refine va_get (D := D) (ci := 0) (C := R_Tr) (T := T_Tr) (N := 12) hx hb hts in_Tr hown hK hst.1 0 (WS_o0 g σ) rfl 1 (by decide) (hts _ gw133) (fun _ h9 => h9) rfl d_Vd_isSame_4 ?_
  refine lv_iload_n hx hb d_Vd_isSame_7 rfl (lv_at hl 1 rfl) ?_
  obtain ⟨hi, h⟩ := h
  refine va_iald hx hb hK hst.1 1 0 (WS_a1 g σ) rfl hi d_Vd_isSame_8 ?_
  refine lv_istore hx hb d_Vd_isSame_9 hl (by decide) rfl (fun ls hl => ?_)
  have hl : lv_has ls 9 [(4, .int (σ.1 1 x1.toNatClampNeg)), (0, .ref (g.1 35)), (1, .int x1), (2, .int x2), (3, .int x3)] := hl
  refine lv_iload hx hb d_Vd_isSame_11 (lv_at hl 0 rfl) ?_
  refine lv_aload_n hx hb d_Vd_isSame_13 rfl (lv_at hl 1 rfl) ?_
  refine va_get (D := D) (ci := 6) (C := R_Vd) (T := T_Vd) (N := 6) hx hb hts in_Vd hown hK hst.1 35 (WS_o35 g σ) rfl 2 (by decide) (hts _ gw305) (fun _ h9 => h9) rfl d_Vd_isSame_14 ?_
  refine va_get (D := D) (ci := 0) (C := R_Tr) (T := T_Tr) (N := 12) hx hb hts in_Tr hown hK hst.1 13 (WS_o13 g σ) rfl 1 (by decide) (hts _ gw133) (fun _ h9 => h9) rfl d_Vd_isSame_17 ?_
  refine lv_iload_n hx hb d_Vd_isSame_20 rfl (lv_at hl 3 rfl) ?_
  obtain ⟨hi, h⟩ := h
  refine va_iald hx hb hK hst.1 14 0 (WS_a14 g σ) rfl hi d_Vd_isSame_21 ?_
  refine lv_icmp_ne (tgt := 31) hx hb d_Vd_isSame_22 (by decide) (fun hc => ?_) (fun hc => ?_)
  · replace h := h.1 hc
    refine lv_iconst (v := (0 : Int32)) hx hb d_Vd_isSame_31 (by decide) ?_
    exact kw_zret hx hb hr hlocks hst h d_Vd_isSame_32
  · replace h := h.2 hc
    refine lv_iload_n hx hb d_Vd_isSame_25 rfl (lv_at hl 4 rfl) ?_
    refine lv_bipush (v := (8 : Int32)) hx hb d_Vd_isSame_26 (by decide) ?_
    refine lv_icmp_le (tgt := 33) hx hb d_Vd_isSame_28 (by decide) (fun hc => ?_) (fun hc => ?_)
    · replace h := h.1 hc
      refine lv_iload hx hb d_Vd_isSame_33 (lv_at hl 0 rfl) ?_
      refine lv_iconst (v := (3 : Int32)) hx hb d_Vd_isSame_35 (by decide) ?_
      refine lv_icmp_ne (tgt := 66) hx hb d_Vd_isSame_36 (by decide) (fun hc => ?_) (fun hc => ?_)
      · replace h := h.1 hc
        refine lv_iload hx hb d_Vd_isSame_66 (lv_at hl 0 rfl) ?_
        refine lv_iconst (v := (4 : Int32)) hx hb d_Vd_isSame_68 (by decide) ?_
        refine lv_icmp_ne (tgt := 112) hx hb d_Vd_isSame_69 (by decide) (fun hc => ?_) (fun hc => ?_)
        · replace h := h.1 hc
          refine lv_aload_n hx hb d_Vd_isSame_112 rfl (lv_at hl 1 rfl) ?_
          refine va_get (D := D) (ci := 6) (C := R_Vd) (T := T_Vd) (N := 6) hx hb hts in_Vd hown hK hst.1 35 (WS_o35 g σ) rfl 1 (by decide) (hts _ gw302) (fun _ h9 => h9) rfl d_Vd_isSame_113 ?_
          refine va_get (D := D) (ci := 0) (C := R_Tr) (T := T_Tr) (N := 12) hx hb hts in_Tr hown hK hst.1 0 (WS_o0 g σ) rfl 5 (by decide) (hts _ gw150) (fun _ h9 => h9) rfl d_Vd_isSame_116 ?_
          refine lv_iload_n hx hb d_Vd_isSame_119 rfl (lv_at hl 2 rfl) ?_
          obtain ⟨hi, h⟩ := h
          refine va_iald hx hb hK hst.1 5 0 (WS_a5 g σ) rfl hi d_Vd_isSame_120 ?_
          refine lv_aload_n hx hb d_Vd_isSame_121 rfl (lv_at hl 1 rfl) ?_
          refine va_get (D := D) (ci := 6) (C := R_Vd) (T := T_Vd) (N := 6) hx hb hts in_Vd hown hK hst.1 35 (WS_o35 g σ) rfl 2 (by decide) (hts _ gw305) (fun _ h9 => h9) rfl d_Vd_isSame_122 ?_
          refine va_get (D := D) (ci := 0) (C := R_Tr) (T := T_Tr) (N := 12) hx hb hts in_Tr hown hK hst.1 13 (WS_o13 g σ) rfl 5 (by decide) (hts _ gw150) (fun _ h9 => h9) rfl d_Vd_isSame_125 ?_
          refine lv_iload_n hx hb d_Vd_isSame_128 rfl (lv_at hl 3 rfl) ?_
          obtain ⟨hi, h⟩ := h
          refine va_iald hx hb hK hst.1 18 0 (WS_a18 g σ) rfl hi d_Vd_isSame_129 ?_
          refine lv_icmp_eq (tgt := 135) hx hb d_Vd_isSame_130 (by decide) (fun hc => ?_) (fun hc => ?_)
          · replace h := h.1 hc
            refine lv_iload_n hx hb d_Vd_isSame_135 rfl (lv_at hl 3 rfl) ?_
            refine lv_iconst (v := (1 : Int32)) hx hb d_Vd_isSame_136 (by decide) ?_
            refine lv_iadd hx hb d_Vd_isSame_137 ?_
            refine lv_istore hx hb d_Vd_isSame_138 hl (by decide) rfl (fun ls hl => ?_)
            have hl : lv_has ls 9 [(5, .int (x2 + (1 : Int32))), (4, .int (σ.1 1 x1.toNatClampNeg)), (0, .ref (g.1 35)), (1, .int x1), (2, .int x2), (3, .int x3)] := hl
            refine lv_iconst (v := (0 : Int32)) hx hb d_Vd_isSame_140 (by decide) ?_
            refine lv_istore hx hb d_Vd_isSame_141 hl (by decide) rfl (fun ls hl => ?_)
            have hl : lv_has ls 9 [(6, .int (0 : Int32)), (5, .int (x2 + (1 : Int32))), (4, .int (σ.1 1 x1.toNatClampNeg)), (0, .ref (g.1 35)), (1, .int x1), (2, .int x2), (3, .int x3)] := hl
            refine lv_iload_n hx hb d_Vd_isSame_143 rfl (lv_at hl 4 rfl) ?_
            refine lv_iconst (v := (1 : Int32)) hx hb d_Vd_isSame_144 (by decide) ?_
            refine lv_iadd hx hb d_Vd_isSame_145 ?_
            refine lv_istore hx hb d_Vd_isSame_146 hl (by decide) rfl (fun ls hl => ?_)
            have hl : lv_has ls 9 [(7, .int (x1 + (1 : Int32))), (6, .int (0 : Int32)), (5, .int (x2 + (1 : Int32))), (4, .int (σ.1 1 x1.toNatClampNeg)), (0, .ref (g.1 35)), (1, .int x1), (2, .int x2), (3, .int x3)] := hl
            exact j1 x1 x2 x3 (σ.1 1 x1.toNatClampNeg) (x2 + (1 : Int32)) (0 : Int32) (x1 + (1 : Int32)) σ _ _ _ (lv_sub hl [4, 5, 6, 7, 3, 2, 1, 0] rfl) hst h
          · replace h := h.2 hc
            refine lv_iconst (v := (0 : Int32)) hx hb d_Vd_isSame_133 (by decide) ?_
            exact kw_zret hx hb hr hlocks hst h d_Vd_isSame_134
        · replace h := h.2 hc
          refine lv_aload_n hx hb d_Vd_isSame_72 rfl (lv_at hl 1 rfl) ?_
          refine va_get (D := D) (ci := 6) (C := R_Vd) (T := T_Vd) (N := 6) hx hb hts in_Vd hown hK hst.1 35 (WS_o35 g σ) rfl 1 (by decide) (hts _ gw302) (fun _ h9 => h9) rfl d_Vd_isSame_73 ?_
          refine va_get (D := D) (ci := 0) (C := R_Tr) (T := T_Tr) (N := 12) hx hb hts in_Tr hown hK hst.1 0 (WS_o0 g σ) rfl 0 (by decide) (hts _ gw129) (fun _ h9 => h9) rfl d_Vd_isSame_76 ?_
          refine lv_aload_n hx hb d_Vd_isSame_79 rfl (lv_at hl 1 rfl) ?_
          refine va_get (D := D) (ci := 6) (C := R_Vd) (T := T_Vd) (N := 6) hx hb hts in_Vd hown hK hst.1 35 (WS_o35 g σ) rfl 1 (by decide) (hts _ gw302) (fun _ h9 => h9) rfl d_Vd_isSame_80 ?_
          refine va_get (D := D) (ci := 0) (C := R_Tr) (T := T_Tr) (N := 12) hx hb hts in_Tr hown hK hst.1 0 (WS_o0 g σ) rfl 2 (by decide) (hts _ gw142) (fun _ h9 => h9) rfl d_Vd_isSame_83 ?_
          refine lv_iload_n hx hb d_Vd_isSame_86 rfl (lv_at hl 2 rfl) ?_
          obtain ⟨hi, h⟩ := h
          refine va_iald hx hb hK hst.1 2 0 (WS_a2 g σ) rfl hi d_Vd_isSame_87 ?_
          refine lv_iconst (v := (1 : Int32)) hx hb d_Vd_isSame_88 (by decide) ?_
          refine lv_iadd hx hb d_Vd_isSame_89 ?_
          refine lv_aload_n hx hb d_Vd_isSame_90 rfl (lv_at hl 1 rfl) ?_
          refine va_get (D := D) (ci := 6) (C := R_Vd) (T := T_Vd) (N := 6) hx hb hts in_Vd hown hK hst.1 35 (WS_o35 g σ) rfl 2 (by decide) (hts _ gw305) (fun _ h9 => h9) rfl d_Vd_isSame_91 ?_
          refine va_get (D := D) (ci := 0) (C := R_Tr) (T := T_Tr) (N := 12) hx hb hts in_Tr hown hK hst.1 13 (WS_o13 g σ) rfl 0 (by decide) (hts _ gw129) (fun _ h9 => h9) rfl d_Vd_isSame_94 ?_
          refine lv_aload_n hx hb d_Vd_isSame_97 rfl (lv_at hl 1 rfl) ?_
          refine va_get (D := D) (ci := 6) (C := R_Vd) (T := T_Vd) (N := 6) hx hb hts in_Vd hown hK hst.1 35 (WS_o35 g σ) rfl 2 (by decide) (hts _ gw305) (fun _ h9 => h9) rfl d_Vd_isSame_98 ?_
          refine va_get (D := D) (ci := 0) (C := R_Tr) (T := T_Tr) (N := 12) hx hb hts in_Tr hown hK hst.1 13 (WS_o13 g σ) rfl 2 (by decide) (hts _ gw142) (fun _ h9 => h9) rfl d_Vd_isSame_101 ?_
          refine lv_iload_n hx hb d_Vd_isSame_104 rfl (lv_at hl 3 rfl) ?_
          obtain ⟨hi, h⟩ := h
          refine va_iald hx hb hK hst.1 15 0 (WS_a15 g σ) rfl hi d_Vd_isSame_105 ?_
          refine lv_iconst (v := (1 : Int32)) hx hb d_Vd_isSame_106 (by decide) ?_
          refine lv_iadd hx hb d_Vd_isSame_107 ?_
          refine kw_calli (va_runV (As := [.int ((σ.1 2 x1.toNatClampNeg) + (1 : Int32)), .ref (g.1 23), .int ((σ.1 15 x2.toNatClampNeg) + (1 : Int32))]) (rest := []) (b := g.1 10) ⟨hx, hb, hml, hown, hts⟩ (c_Tx_sameQuoted_0_13 l ((σ.1 2 x1.toNatClampNeg) + (1 : Int32)) ((σ.1 15 x2.toNatClampNeg) + (1 : Int32)) h) (cwV 3 hts (gd_v gw861 gw674 gw675 gw8 gw676) rfl rfl rfl (by decide +kernel) ⟨show 0 + 1 ≤ (5 + 1 * d) by omega, show 8 + (7 + 11) + 0 ≤ (128 + 28 * d) by omega⟩) ⟨kw_blind (Zk_ok g), va_recv hK hst.1 rfl (WS_o10 g σ), kw_pre (Zk_ok g) hK hZ hA hst⟩ rfl rfl hl.1 rfl (lv_room (Nat.le_of_ble_eq_true rfl)) d_Vd_isSame_108 ⟨Nat.le_of_ble_eq_true rfl, Nat.le_of_ble_eq_true rfl⟩) hst hA (fun r1 σ1 H locs h hst => ?_)
          exact kw_zret hx hb hr hlocks hst h d_Vd_isSame_111
      · replace h := h.2 hc
        refine lv_aload_n hx hb d_Vd_isSame_39 rfl (lv_at hl 1 rfl) ?_
        refine va_get (D := D) (ci := 6) (C := R_Vd) (T := T_Vd) (N := 6) hx hb hts in_Vd hown hK hst.1 35 (WS_o35 g σ) rfl 1 (by decide) (hts _ gw302) (fun _ h9 => h9) rfl d_Vd_isSame_40 ?_
        refine va_get (D := D) (ci := 0) (C := R_Tr) (T := T_Tr) (N := 12) hx hb hts in_Tr hown hK hst.1 0 (WS_o0 g σ) rfl 7 (by decide) (hts _ gw161) (fun _ h9 => h9) rfl d_Vd_isSame_43 ?_
        refine lv_iload_n hx hb d_Vd_isSame_46 rfl (lv_at hl 2 rfl) ?_
        obtain ⟨hi, h⟩ := h
        refine va_iald hx hb hK hst.1 7 0 (WS_a7 g σ) rfl hi d_Vd_isSame_47 ?_
        refine lv_aload_n hx hb d_Vd_isSame_48 rfl (lv_at hl 1 rfl) ?_
        refine va_get (D := D) (ci := 6) (C := R_Vd) (T := T_Vd) (N := 6) hx hb hts in_Vd hown hK hst.1 35 (WS_o35 g σ) rfl 2 (by decide) (hts _ gw305) (fun _ h9 => h9) rfl d_Vd_isSame_49 ?_
        refine va_get (D := D) (ci := 0) (C := R_Tr) (T := T_Tr) (N := 12) hx hb hts in_Tr hown hK hst.1 13 (WS_o13 g σ) rfl 7 (by decide) (hts _ gw161) (fun _ h9 => h9) rfl d_Vd_isSame_52 ?_
        refine lv_iload_n hx hb d_Vd_isSame_55 rfl (lv_at hl 3 rfl) ?_
        obtain ⟨hi, h⟩ := h
        refine va_iald hx hb hK hst.1 20 0 (WS_a20 g σ) rfl hi d_Vd_isSame_56 ?_
        refine lv_icmp_ne (tgt := 64) hx hb d_Vd_isSame_57 (by decide) (fun hc => ?_) (fun hc => ?_)
        · replace h := h.1 hc
          refine lv_iconst (v := (0 : Int32)) hx hb d_Vd_isSame_64 (by decide) ?_
          exact kw_zret hx hb hr hlocks hst h d_Vd_isSame_65
        · replace h := h.2 hc
          refine lv_iconst (v := (1 : Int32)) hx hb d_Vd_isSame_60 (by decide) ?_
          refine lv_goto (tgt := 65) hx hb d_Vd_isSame_61 (by decide) ?_
          exact kw_zret hx hb hr hlocks hst h d_Vd_isSame_65
    · replace h := h.2 hc
      refine lv_iconst (v := (0 : Int32)) hx hb d_Vd_isSame_31 (by decide) ?_
      exact kw_zret hx hb hr hlocks hst h d_Vd_isSame_32
set_option maxRecDepth 100000 in
set_option maxHeartbeats 4000000 in
theorem b_Vd_isSamef_1 {p : Program} {l : Launch} {e : Env} {s : State} {m : MethodId} {args : Array Value} {below : List Frame} {meth : Method} {c : Code} {D : va_G} {g : Gm} {A : Nat → Prop} {post : Int32 → Sg → Prop} {F : Nat → Int32 → Int32 → Int32 → Int32 → Int32 → Int32 → Int32 → Int32 → Sg → Prop} (C : kC p s m args meth c k_Vd_isSame 9 (some .boolean) GW R_Vd D vwCl g (Zk g) A) {V : Int32 → Int32 → Int32 → Sg → (Int32 → Sg → Prop) → Prop} {d : Nat} (hV : ∀ (sz : Nat) (x1 : Int32) (x2 : Int32) (x3 : Int32) (σ : Sg) (post : Int32 → Sg → Prop), V x1 x2 x3 σ post → Met l y_Vd_isSame (.code y_Vd_isSame k_Vd_isSame 9 (some .boolean) :: GW) { frames := (4 + 1 * d), cells := 0, slots := 0, locals := (100 + 28 * d) } (PcW D vwCl (WS g) g (Zk g) σ sz [.ref (g.1 35), .int x1, .int x2, .int x3]) (QiW D vwCl (WS g) post (va_A (WS g σ) sz)) 0 0 (va_A (WS g σ) sz)) (j2 : J_Vd_isSamef_2 p l e s m args below meth c D g A d post F) (x1 : Int32) (x2 : Int32) (x3 : Int32) (x4 : Int32) (x5 : Int32) (x6 : Int32) (x7 : Int32) (σ : Sg) (H : Heap) (locs : List Loc) (ls : Array Slot) (hl : lv_has ls 9 [(0, .ref (g.1 35)), (1, .int x1), (2, .int x2), (3, .int x3), (4, .int x4), (5, .int x5), (6, .int x6), (7, .int x7)]) (hst : Wst D vwCl (WS g) A s σ H locs) (h : wb_Vd_isSame_1 V F post x1 x2 x3 x4 x5 x6 x7 σ) : W p l e { frames := (5 + 1 * d), cells := 0, slots := 0, locals := (128 + 28 * d) } s m args below meth c H locs 0 0 (MQ below (QiW D vwCl (WS g) post A) args s 0 0 A) (F0 m 148 ls []) := by
  obtain ⟨hx, hb, hr, hml, hown, hts, hlocks, hK, hZ, hA⟩ := C
  unfold wb_Vd_isSame_1 at h
  refine lv_iload hx hb d_Vd_isSame_148 (lv_at hl 6 rfl) ?_
  refine lv_aload_n hx hb d_Vd_isSame_150 rfl (lv_at hl 0 rfl) ?_
  refine va_get (D := D) (ci := 6) (C := R_Vd) (T := T_Vd) (N := 6) hx hb hts in_Vd hown hK hst.1 35 (WS_o35 g σ) rfl 1 (by decide) (hts _ gw302) (fun _ h9 => h9) rfl d_Vd_isSame_151 ?_
  refine va_get (D := D) (ci := 0) (C := R_Tr) (T := T_Tr) (N := 12) hx hb hts in_Tr hown hK hst.1 0 (WS_o0 g σ) rfl 5 (by decide) (hts _ gw150) (fun _ h9 => h9) rfl d_Vd_isSame_154 ?_
  refine lv_iload_n hx hb d_Vd_isSame_157 rfl (lv_at hl 1 rfl) ?_
  obtain ⟨hi, h⟩ := h
  refine va_iald hx hb hK hst.1 5 0 (WS_a5 g σ) rfl hi d_Vd_isSame_158 ?_
  refine lv_icmp_ge (tgt := 254) hx hb d_Vd_isSame_159 (by decide) (fun hc => ?_) (fun hc => ?_)
  · replace h := h.1 hc
    refine lv_iconst (v := (1 : Int32)) hx hb d_Vd_isSame_254 (by decide) ?_
    exact kw_zret hx hb hr hlocks hst h d_Vd_isSame_255
  · replace h := h.2 hc
    refine lv_iload hx hb d_Vd_isSame_162 (lv_at hl 5 rfl) ?_
    refine lv_istore hx hb d_Vd_isSame_164 hl (by decide) rfl (fun ls hl => ?_)
    have hl : lv_has ls 9 [(8, .int x5), (0, .ref (g.1 35)), (1, .int x1), (2, .int x2), (3, .int x3), (4, .int x4), (5, .int x5), (6, .int x6), (7, .int x7)] := hl
    refine lv_iload hx hb d_Vd_isSame_166 (lv_at hl 5 rfl) ?_
    refine lv_bipush (v := (6 : Int32)) hx hb d_Vd_isSame_168 (by decide) ?_
    refine lv_icmp_ne (tgt := 202) hx hb d_Vd_isSame_170 (by decide) (fun hc => ?_) (fun hc => ?_)
    · replace h := h.1 hc
      exact j2 x1 x2 x3 x4 x5 x6 x7 x5 σ _ _ _ (lv_sub hl [1, 2, 3, 4, 5, 6, 7, 8, 0] rfl) hst h
    · replace h := h.2 hc
      refine lv_aload_n hx hb d_Vd_isSame_173 rfl (lv_at hl 1 rfl) ?_
      refine va_get (D := D) (ci := 6) (C := R_Vd) (T := T_Vd) (N := 6) hx hb hts in_Vd hown hK hst.1 35 (WS_o35 g σ) rfl 2 (by decide) (hts _ gw305) (fun _ h9 => h9) rfl d_Vd_isSame_174 ?_
      refine lv_iload_n hx hb d_Vd_isSame_177 rfl (lv_at hl 3 rfl) ?_
      refine lv_aload_n hx hb d_Vd_isSame_178 rfl (lv_at hl 1 rfl) ?_
      refine va_get (D := D) (ci := 6) (C := R_Vd) (T := T_Vd) (N := 6) hx hb hts in_Vd hown hK hst.1 35 (WS_o35 g σ) rfl 1 (by decide) (hts _ gw302) (fun _ h9 => h9) rfl d_Vd_isSame_179 ?_
      refine va_get (D := D) (ci := 0) (C := R_Tr) (T := T_Tr) (N := 12) hx hb hts in_Tr hown hK hst.1 0 (WS_o0 g σ) rfl 0 (by decide) (hts _ gw129) (fun _ h9 => h9) rfl d_Vd_isSame_182 ?_
      refine lv_aload_n hx hb d_Vd_isSame_185 rfl (lv_at hl 1 rfl) ?_
      refine va_get (D := D) (ci := 6) (C := R_Vd) (T := T_Vd) (N := 6) hx hb hts in_Vd hown hK hst.1 35 (WS_o35 g σ) rfl 1 (by decide) (hts _ gw302) (fun _ h9 => h9) rfl d_Vd_isSame_186 ?_
      refine va_get (D := D) (ci := 0) (C := R_Tr) (T := T_Tr) (N := 12) hx hb hts in_Tr hown hK hst.1 0 (WS_o0 g σ) rfl 6 (by decide) (hts _ gw158) (fun _ h9 => h9) rfl d_Vd_isSame_189 ?_
      refine lv_iload hx hb d_Vd_isSame_192 (lv_at hl 8 rfl) ?_
      obtain ⟨hi, h⟩ := h
      refine va_iald hx hb hK hst.1 6 0 (WS_a6 g σ) rfl hi d_Vd_isSame_194 ?_
      refine lv_iconst (v := (1 : Int32)) hx hb d_Vd_isSame_195 (by decide) ?_
      refine lv_iadd hx hb d_Vd_isSame_196 ?_
      refine kw_calli (va_runV (As := [.int x2, .ref (g.1 10), .int ((σ.1 6 x7.toNatClampNeg) + (1 : Int32))]) (rest := []) (b := g.1 13) ⟨hx, hb, hml, hown, hts⟩ (c_Tr_childNamed_13_0 l x2 ((σ.1 6 x7.toNatClampNeg) + (1 : Int32)) h) (cwV 3 hts (gd_v gw827 gw670 gw671 gw7 gw672) rfl rfl rfl (by decide +kernel) ⟨show 1 + 1 ≤ (5 + 1 * d) by omega, show 8 + (6 + 11) + 26 ≤ (128 + 28 * d) by omega⟩) ⟨kw_blind (Zk_ok g), va_recv hK hst.1 rfl (WS_o13 g σ), kw_pre (Zk_ok g) hK hZ hA hst⟩ rfl rfl hl.1 rfl (lv_room (Nat.le_of_ble_eq_true rfl)) d_Vd_isSame_197 ⟨Nat.le_of_ble_eq_true rfl, Nat.le_of_ble_eq_true rfl⟩) hst hA (fun r1 σ1 H locs h hst => ?_)
      refine lv_istore hx hb d_Vd_isSame_200 hl (by decide) rfl (fun ls hl => ?_)
      have hl : lv_has ls 9 [(8, .int r1), (0, .ref (g.1 35)), (1, .int x1), (2, .int x2), (3, .int x3), (4, .int x4), (5, .int x5), (6, .int x6), (7, .int x7)] := hl
      exact j2 x1 x2 x3 x4 x5 x6 x7 r1 σ1 _ _ _ (lv_sub hl [1, 2, 3, 4, 5, 6, 7, 8, 0] rfl) hst h
set_option maxRecDepth 100000 in
set_option maxHeartbeats 4000000 in
theorem b_Vd_isSamef_2 {p : Program} {l : Launch} {e : Env} {s : State} {m : MethodId} {args : Array Value} {below : List Frame} {meth : Method} {c : Code} {D : va_G} {g : Gm} {A : Nat → Prop} {post : Int32 → Sg → Prop} {F : Nat → Int32 → Int32 → Int32 → Int32 → Int32 → Int32 → Int32 → Int32 → Sg → Prop} (C : kC p s m args meth c k_Vd_isSame 9 (some .boolean) GW R_Vd D vwCl g (Zk g) A) {V : Int32 → Int32 → Int32 → Sg → (Int32 → Sg → Prop) → Prop} {d : Nat} (hV : ∀ (sz : Nat) (x1 : Int32) (x2 : Int32) (x3 : Int32) (σ : Sg) (post : Int32 → Sg → Prop), V x1 x2 x3 σ post → Met l y_Vd_isSame (.code y_Vd_isSame k_Vd_isSame 9 (some .boolean) :: GW) { frames := (4 + 1 * d), cells := 0, slots := 0, locals := (100 + 28 * d) } (PcW D vwCl (WS g) g (Zk g) σ sz [.ref (g.1 35), .int x1, .int x2, .int x3]) (QiW D vwCl (WS g) post (va_A (WS g σ) sz)) 0 0 (va_A (WS g σ) sz)) (j1 : J_Vd_isSamef_1 p l e s m args below meth c D g A d post F) (x1 : Int32) (x2 : Int32) (x3 : Int32) (x4 : Int32) (x5 : Int32) (x6 : Int32) (x7 : Int32) (x8 : Int32) (σ : Sg) (H : Heap) (locs : List Loc) (ls : Array Slot) (hl : lv_has ls 9 [(0, .ref (g.1 35)), (1, .int x1), (2, .int x2), (3, .int x3), (4, .int x4), (5, .int x5), (6, .int x6), (7, .int x7), (8, .int x8)]) (hst : Wst D vwCl (WS g) A s σ H locs) (h : wb_Vd_isSame_2 V F post x1 x2 x3 x4 x5 x6 x7 x8 σ) : W p l e { frames := (5 + 1 * d), cells := 0, slots := 0, locals := (128 + 28 * d) } s m args below meth c H locs 0 0 (MQ below (QiW D vwCl (WS g) post A) args s 0 0 A) (F0 m 202 ls []) := by
  obtain ⟨hx, hb, hr, hml, hown, hts, hlocks, hK, hZ, hA⟩ := C
  unfold wb_Vd_isSame_2 at h
  refine lv_iload hx hb d_Vd_isSame_202 (lv_at hl 8 rfl) ?_
  refine lv_iconst (v := (-1 : Int32)) hx hb d_Vd_isSame_204 (by decide) ?_
  refine lv_icmp_eq (tgt := 222) hx hb d_Vd_isSame_205 (by decide) (fun hc => ?_) (fun hc => ?_)
  · replace h := h.1 hc
    refine lv_iconst (v := (0 : Int32)) hx hb d_Vd_isSame_222 (by decide) ?_
    exact kw_zret hx hb hr hlocks hst h d_Vd_isSame_223
  · replace h := h.2 hc
    refine lv_aload_n hx hb d_Vd_isSame_208 rfl (lv_at hl 0 rfl) ?_
    refine lv_iload hx hb d_Vd_isSame_209 (lv_at hl 7 rfl) ?_
    refine lv_iload hx hb d_Vd_isSame_211 (lv_at hl 8 rfl) ?_
    refine lv_iload_n hx hb d_Vd_isSame_213 rfl (lv_at hl 3 rfl) ?_
    refine lv_iconst (v := (1 : Int32)) hx hb d_Vd_isSame_214 (by decide) ?_
    refine lv_iadd hx hb d_Vd_isSame_215 ?_
    refine kw_calli (va_runV (As := [.int x7, .int x8, .int (x3 + (1 : Int32))]) (rest := []) (b := g.1 35) ⟨hx, hb, hml, hown, hts⟩ (hV _ x7 x8 (x3 + (1 : Int32)) _ _ h) (cwV 3 hts (gd_v gw857 gw859 gs27 gw11 gw860) rfl rfl rfl (by decide +kernel) ⟨show (4 + 1 * d) + 1 ≤ (5 + 1 * d) by omega, show 8 + (9 + 11) + (100 + 28 * d) ≤ (128 + 28 * d) by omega⟩) ⟨kw_blind (Zk_ok g), va_recv hK hst.1 rfl (WS_o35 g σ), kw_pre (Zk_ok g) hK hZ hA hst⟩ rfl rfl hl.1 rfl (lv_room (Nat.le_of_ble_eq_true rfl)) d_Vd_isSame_216 ⟨Nat.le_of_ble_eq_true rfl, Nat.le_of_ble_eq_true rfl⟩) hst hA (fun r1 σ1 H locs h hst => ?_)
    refine lv_if_ne (tgt := 224) hx hb d_Vd_isSame_219 (by decide) (fun hc => ?_) (fun hc => ?_)
    · replace h := h.1 hc
      refine lv_aload_n hx hb d_Vd_isSame_224 rfl (lv_at hl 0 rfl) ?_
      refine va_get (D := D) (ci := 6) (C := R_Vd) (T := T_Vd) (N := 6) hx hb hts in_Vd hown hK hst.1 35 (WS_o35 g σ1) rfl 2 (by decide) (hts _ gw305) (fun _ h9 => h9) rfl d_Vd_isSame_225 ?_
      refine va_get (D := D) (ci := 0) (C := R_Tr) (T := T_Tr) (N := 12) hx hb hts in_Tr hown hK hst.1 13 (WS_o13 g σ1) rfl 8 (by decide) (hts _ gw165) (fun _ h9 => h9) rfl d_Vd_isSame_228 ?_
      refine lv_iload hx hb d_Vd_isSame_231 (lv_at hl 5 rfl) ?_
      obtain ⟨hi, h⟩ := h
      refine va_iald hx hb hK hst.1 21 0 (WS_a21 g σ1) rfl hi d_Vd_isSame_233 ?_
      refine lv_istore hx hb d_Vd_isSame_234 hl (by decide) rfl (fun ls hl => ?_)
      have hl : lv_has ls 9 [(5, .int (σ1.1 21 x5.toNatClampNeg)), (0, .ref (g.1 35)), (1, .int x1), (2, .int x2), (3, .int x3), (4, .int x4), (6, .int x6), (7, .int x7), (8, .int x8)] := hl
      refine lv_iinc (k := 6) (v := (x6 + 1)) hx hb d_Vd_isSame_236 hl rfl (kw_inc _ (by decide)) (by decide) rfl (fun ls hl => ?_)
      have hl : lv_has ls 9 [(6, .int (x6 + 1)), (5, .int (σ1.1 21 x5.toNatClampNeg)), (0, .ref (g.1 35)), (1, .int x1), (2, .int x2), (3, .int x3), (4, .int x4), (7, .int x7), (8, .int x8)] := hl
      refine lv_aload_n hx hb d_Vd_isSame_239 rfl (lv_at hl 2 rfl) ?_
      refine va_get (D := D) (ci := 6) (C := R_Vd) (T := T_Vd) (N := 6) hx hb hts in_Vd hown hK hst.1 35 (WS_o35 g σ1) rfl 1 (by decide) (hts _ gw302) (fun _ h9 => h9) rfl d_Vd_isSame_240 ?_
      refine va_get (D := D) (ci := 0) (C := R_Tr) (T := T_Tr) (N := 12) hx hb hts in_Tr hown hK hst.1 0 (WS_o0 g σ1) rfl 8 (by decide) (hts _ gw165) (fun _ h9 => h9) rfl d_Vd_isSame_243 ?_
      refine lv_iload hx hb d_Vd_isSame_246 (lv_at hl 7 rfl) ?_
      obtain ⟨hi, h⟩ := h
      refine va_iald hx hb hK hst.1 8 0 (WS_a8 g σ1) rfl hi d_Vd_isSame_248 ?_
      refine lv_istore hx hb d_Vd_isSame_249 hl (by decide) rfl (fun ls hl => ?_)
      have hl : lv_has ls 9 [(7, .int (σ1.1 8 x7.toNatClampNeg)), (6, .int (x6 + 1)), (5, .int (σ1.1 21 x5.toNatClampNeg)), (0, .ref (g.1 35)), (1, .int x1), (2, .int x2), (3, .int x3), (4, .int x4), (8, .int x8)] := hl
      refine lv_goto (tgt := 148) hx hb d_Vd_isSame_251 (by decide) ?_
      exact j1 x1 x2 x3 x4 (σ1.1 21 x5.toNatClampNeg) (x6 + 1) (σ1.1 8 x7.toNatClampNeg) σ1 _ _ _ (lv_sub hl [3, 4, 5, 6, 7, 2, 1, 0] rfl) hst h
    · replace h := h.2 hc
      refine lv_iconst (v := (0 : Int32)) hx hb d_Vd_isSame_222 (by decide) ?_
      exact kw_zret hx hb hr hlocks hst h d_Vd_isSame_223
set_option maxRecDepth 100000 in
set_option maxHeartbeats 4000000 in
theorem a_Vd_isSamef {p : Program} {l : Launch} {e : Env} {s : State} {m : MethodId} {args : Array Value} {below : List Frame} {meth : Method} {c : Code} {D : va_G} {g : Gm} {A : Nat → Prop} {post : Int32 → Sg → Prop} (C : kC p s m args meth c k_Vd_isSame 9 (some .boolean) GW R_Vd D vwCl g (Zk g) A) {V : Int32 → Int32 → Int32 → Sg → (Int32 → Sg → Prop) → Prop} {d : Nat} (hV : ∀ (sz : Nat) (x1 : Int32) (x2 : Int32) (x3 : Int32) (σ : Sg) (post : Int32 → Sg → Prop), V x1 x2 x3 σ post → Met l y_Vd_isSame (.code y_Vd_isSame k_Vd_isSame 9 (some .boolean) :: GW) { frames := (4 + 1 * d), cells := 0, slots := 0, locals := (100 + 28 * d) } (PcW D vwCl (WS g) g (Zk g) σ sz [.ref (g.1 35), .int x1, .int x2, .int x3]) (QiW D vwCl (WS g) post (va_A (WS g σ) sz)) 0 0 (va_A (WS g σ) sz)) : ∀ n : Nat, J_Vd_isSamef_1 p l e s m args below meth c D g A d post (wp_Vd_isSame V post n) ∧ J_Vd_isSamef_2 p l e s m args below meth c D g A d post (wp_Vd_isSame V post n) := by
  intro n
  induction n with
  | zero => exact ⟨fun _ _ _ _ _ _ _ _ _ _ _ _ _ h => h.elim, fun _ _ _ _ _ _ _ _ _ _ _ _ _ _ h => h.elim⟩
  | succ n ih => exact ⟨fun x1 x2 x3 x4 x5 x6 x7 σ H locs ls hl hst h => b_Vd_isSamef_1 (F := wp_Vd_isSame V post n) C hV (ih.2) x1 x2 x3 x4 x5 x6 x7 σ H locs ls hl hst h, fun x1 x2 x3 x4 x5 x6 x7 x8 σ H locs ls hl hst h => b_Vd_isSamef_2 (F := wp_Vd_isSame V post n) C hV (ih.1) x1 x2 x3 x4 x5 x6 x7 x8 σ H locs ls hl hst h⟩
set_option maxRecDepth 100000 in
set_option maxHeartbeats 4000000 in
theorem c_Vd_isSamef (l : Launch) {D : va_G} {g : Gm} (V : Int32 → Int32 → Int32 → Sg → (Int32 → Sg → Prop) → Prop) (d : Nat) (hV : ∀ (sz : Nat) (x1 : Int32) (x2 : Int32) (x3 : Int32) (σ : Sg) (post : Int32 → Sg → Prop), V x1 x2 x3 σ post → Met l y_Vd_isSame (.code y_Vd_isSame k_Vd_isSame 9 (some .boolean) :: GW) { frames := (4 + 1 * d), cells := 0, slots := 0, locals := (100 + 28 * d) } (PcW D vwCl (WS g) g (Zk g) σ sz [.ref (g.1 35), .int x1, .int x2, .int x3]) (QiW D vwCl (WS g) post (va_A (WS g σ) sz)) 0 0 (va_A (WS g σ) sz)) {sz : Nat} (x1 : Int32) (x2 : Int32) (x3 : Int32) {σ : Sg} {post : Int32 → Sg → Prop} (h : wqf_Vd_isSame V x1 x2 x3 σ post) : Met l y_Vd_isSame (.code y_Vd_isSame k_Vd_isSame 9 (some .boolean) :: GW) { frames := (5 + 1 * d), cells := 0, slots := 0, locals := (128 + 28 * d) } (PcW D vwCl (WS g) g (Zk g) σ sz [.ref (g.1 35), .int x1, .int x2, .int x3]) (QiW D vwCl (WS g) post (va_A (WS g σ) sz)) 0 0 (va_A (WS g σ) sz) := by
  refine kw_entry (own := R_Vd) (by decide) rfl rfl (Nat.le_of_ble_eq_true rfl) ?_
  intro p e s m below meth c ls hsz C hin hl hst
  obtain ⟨n, h⟩ := h
  cases n with
  | zero => exact h.elim
  | succ n =>
    have ih := a_Vd_isSamef (l := l) (e := e) (below := below) (post := post) C hV n
    exact b_Vd_isSamef_0 (F := wp_Vd_isSame V post n) C hV (ih.1) x1 x2 x3 σ _ _ ls hl hst h
def wd_Vd_isSame : Nat → Int32 → Int32 → Int32 → Sg → (Int32 → Sg → Prop) → Prop
  | 0 => fun _ _ _ _ _ => False
  | d + 1 => wqf_Vd_isSame (wd_Vd_isSame d)
def wq_Vd_isSame (x1 : Int32) (x2 : Int32) (x3 : Int32) (σ : Sg) (post : Int32 → Sg → Prop) : Prop := wd_Vd_isSame 11 x1 x2 x3 σ post
set_option maxRecDepth 100000 in
set_option maxHeartbeats 4000000 in
theorem cd_Vd_isSame (l : Launch) {D : va_G} {g : Gm} : ∀ (d sz : Nat) (x1 : Int32) (x2 : Int32) (x3 : Int32) (σ : Sg) (post : Int32 → Sg → Prop), wd_Vd_isSame d x1 x2 x3 σ post → Met l y_Vd_isSame (.code y_Vd_isSame k_Vd_isSame 9 (some .boolean) :: GW) { frames := (4 + 1 * d), cells := 0, slots := 0, locals := (100 + 28 * d) } (PcW D vwCl (WS g) g (Zk g) σ sz [.ref (g.1 35), .int x1, .int x2, .int x3]) (QiW D vwCl (WS g) post (va_A (WS g σ) sz)) 0 0 (va_A (WS g σ) sz) := by
  intro d
  induction d with
  | zero => intro sz x1 x2 x3 σ post h; exact h.elim
  | succ d ih => intro sz x1 x2 x3 σ post h; (have e1 : 4 + 1 * (d + 1) = 5 + 1 * d := by omega); (have e2 : 100 + 28 * (d + 1) = 128 + 28 * d := by omega); rw [e1, e2]; exact c_Vd_isSamef l (wd_Vd_isSame d) d ih x1 x2 x3 h
set_option maxRecDepth 100000 in
theorem c_Vd_isSame (l : Launch) {D : va_G} {g : Gm} {sz : Nat} (x1 : Int32) (x2 : Int32) (x3 : Int32) {σ : Sg} {post : Int32 → Sg → Prop} (h : wq_Vd_isSame x1 x2 x3 σ post) : Met l y_Vd_isSame (.code y_Vd_isSame k_Vd_isSame 9 (some .boolean) :: GW) { frames := 15, cells := 0, slots := 0, locals := 408 } (PcW D vwCl (WS g) g (Zk g) σ sz [.ref (g.1 35), .int x1, .int x2, .int x3]) (QiW D vwCl (WS g) post (va_A (WS g σ) sz)) 0 0 (va_A (WS g σ) sz) := cd_Vd_isSame l 11 sz x1 x2 x3 σ post h
