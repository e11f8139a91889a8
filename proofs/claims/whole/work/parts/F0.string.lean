theorem gw3 : (Jvm.Cond.initialized "java/lang/String") ∈ GW := gw_t1 (List.mem_of_getElem? (i := 3) rfl) rfl
theorem gw4 : (Jvm.Cond.initialized "java/lang/StringLatin1") ∈ GW := gw_t1 (List.mem_of_getElem? (i := 4) rfl) rfl
theorem gw40 : (Jvm.Cond.methodLink "SchemaDesk$WordBook" (3 : Nat) ({ cls := "java/lang/Object", name := "<init>", desc := "()V" } : Jvm.MethodName)) ∈ GW := gw_t1 (List.mem_of_getElem? (i := 40) rfl) rfl
theorem gw42 : (Jvm.Cond.methodLink "SchemaDesk$WordBook" (11 : Nat) ({ cls := "java/lang/String", name := "toCharArray", desc := "()[C" } : Jvm.MethodName)) ∈ GW := gw_t1 (List.mem_of_getElem? (i := 42) rfl) rfl
theorem gw43 : (Jvm.Cond.instanceMethod ({ cls := "java/lang/String", name := "toCharArray", desc := "()[C" } : Jvm.MethodName)) ∈ GW := gw_t1 (List.mem_of_getElem? (i := 43) rfl) rfl
theorem gw44 : (Jvm.Cond.selects "java/lang/String" ({ cls := "java/lang/String", name := "toCharArray", desc := "()[C" } : Jvm.MethodName) ({ cls := "java/lang/String", name := "toCharArray", desc := "()[C" } : Jvm.MethodName)) ∈ GW := gw_t1 (List.mem_of_getElem? (i := 44) rfl) rfl
theorem gw45 : (Jvm.Cond.code ({ cls := "java/lang/String", name := "toCharArray", desc := "()[C" } : Jvm.MethodName) prog_20_method_129_code (1 : Nat) (Option.some (Jvm.ClassFile.FieldType.array Jvm.ClassFile.FieldType.char))) ∈ GW := gw_t1 (List.mem_of_getElem? (i := 45) rfl) rfl
theorem gw46 : (Jvm.Cond.methodLink "java/lang/String" (492 : Nat) ({ cls := "java/lang/String", name := "isLatin1", desc := "()Z" } : Jvm.MethodName)) ∈ GW := gw_t1 (List.mem_of_getElem? (i := 46) rfl) rfl
theorem gw47 : (Jvm.Cond.instanceMethod ({ cls := "java/lang/String", name := "isLatin1", desc := "()Z" } : Jvm.MethodName)) ∈ GW := gw_t1 (List.mem_of_getElem? (i := 47) rfl) rfl
theorem gw48 : (Jvm.Cond.selects "java/lang/String" ({ cls := "java/lang/String", name := "isLatin1", desc := "()Z" } : Jvm.MethodName) ({ cls := "java/lang/String", name := "isLatin1", desc := "()Z" } : Jvm.MethodName)) ∈ GW := gw_t1 (List.mem_of_getElem? (i := 48) rfl) rfl
theorem gw49 : (Jvm.Cond.code ({ cls := "java/lang/String", name := "isLatin1", desc := "()Z" } : Jvm.MethodName) prog_20_method_154_code (1 : Nat) (Option.some Jvm.ClassFile.FieldType.boolean)) ∈ GW := gw_t1 (List.mem_of_getElem? (i := 49) rfl) rfl
theorem gw50 : (Jvm.Cond.fieldLink "java/lang/String" (38 : Nat) "java/lang/String" "COMPACT_STRINGS" "Z") ∈ GW := gw_t1 (List.mem_of_getElem? (i := 50) rfl) rfl
theorem gw52 : (Jvm.Cond.methodLink "java/lang/String" (299 : Nat) ({ cls := "java/lang/StringLatin1", name := "toChars", desc := "([B)[C" } : Jvm.MethodName)) ∈ GW := gw_t1 (List.mem_of_getElem? (i := 52) rfl) rfl
theorem gw53 : (Jvm.Cond.static ({ cls := "java/lang/StringLatin1", name := "toChars", desc := "([B)[C" } : Jvm.MethodName)) ∈ GW := gw_t1 (List.mem_of_getElem? (i := 53) rfl) rfl
theorem gw54 : (Jvm.Cond.code ({ cls := "java/lang/StringLatin1", name := "toChars", desc := "([B)[C" } : Jvm.MethodName) prog_21_method_9_code (2 : Nat) (Option.some (Jvm.ClassFile.FieldType.array Jvm.ClassFile.FieldType.char))) ∈ GW := gw_t1 (List.mem_of_getElem? (i := 54) rfl) rfl
theorem gw55 : (Jvm.Cond.methodLink "java/lang/StringLatin1" (13 : Nat) ({ cls := "java/lang/StringLatin1", name := "inflate", desc := "([BI[CII)V" } : Jvm.MethodName)) ∈ GW := gw_t1 (List.mem_of_getElem? (i := 55) rfl) rfl
theorem gw56 : (Jvm.Cond.static ({ cls := "java/lang/StringLatin1", name := "inflate", desc := "([BI[CII)V" } : Jvm.MethodName)) ∈ GW := gw_t1 (List.mem_of_getElem? (i := 56) rfl) rfl
theorem gw57 : (Jvm.Cond.code ({ cls := "java/lang/StringLatin1", name := "inflate", desc := "([BI[CII)V" } : Jvm.MethodName) prog_21_method_49_code (6 : Nat) (Option.none : Option Jvm.ClassFile.FieldType)) ∈ GW := gw_t1 (List.mem_of_getElem? (i := 57) rfl) rfl
theorem gw1489 : (Jvm.Cond.fieldLink "java/lang/String" (15 : Nat) "java/lang/String" "coder" "B") ∈ GW := gw_t7 (List.mem_of_getElem? (i := 49) rfl) rfl
theorem gw1490 : (Jvm.Cond.fieldLink "java/lang/String" (9 : Nat) "java/lang/String" "value" "[B") ∈ GW := gw_t7 (List.mem_of_getElem? (i := 50) rfl) rfl
abbrev R_St : String := "java/lang/String"
abbrev R_L1 : String := "java/lang/StringLatin1"
abbrev k_isL : ByteArray := prog_20_method_154_code
abbrev y_isL : MethodName := ⟨"java/lang/String", "isLatin1", "()Z"⟩
theorem d_isL_0 : decode k_isL 0 = .ok (.getstatic 38, 3) := by decide +kernel
theorem d_isL_3 : decode k_isL 3 = .ok (.ifCond .eq 14, 3) := by decide +kernel
theorem d_isL_6 : decode k_isL 6 = .ok (.aload_n 0, 1) := by decide +kernel
theorem d_isL_7 : decode k_isL 7 = .ok (.getfield 15, 3) := by decide +kernel
theorem d_isL_10 : decode k_isL 10 = .ok (.ifCond .ne 7, 3) := by decide +kernel
theorem d_isL_13 : decode k_isL 13 = .ok (.iconst 1, 1) := by decide +kernel
theorem d_isL_14 : decode k_isL 14 = .ok (.goto 4, 3) := by decide +kernel
theorem d_isL_18 : decode k_isL 18 = .ok (.ireturn, 1) := by decide +kernel
abbrev k_inf : ByteArray := prog_21_method_49_code
abbrev y_inf : MethodName := ⟨"java/lang/StringLatin1", "inflate", "([BI[CII)V"⟩
theorem d_inf_0 : decode k_inf 0 = .ok (.iconst 0, 1) := by decide +kernel
theorem d_inf_1 : decode k_inf 1 = .ok (.istore 5, 2) := by decide +kernel
theorem d_inf_3 : decode k_inf 3 = .ok (.iload 5, 2) := by decide +kernel
theorem d_inf_5 : decode k_inf 5 = .ok (.iload 4, 2) := by decide +kernel
theorem d_inf_7 : decode k_inf 7 = .ok (.if_icmp .ge 26, 3) := by decide +kernel
theorem d_inf_10 : decode k_inf 10 = .ok (.aload_n 2, 1) := by decide +kernel
theorem d_inf_11 : decode k_inf 11 = .ok (.iload_n 3, 1) := by decide +kernel
theorem d_inf_12 : decode k_inf 12 = .ok (.iinc 3 1, 3) := by decide +kernel
theorem d_inf_15 : decode k_inf 15 = .ok (.aload_n 0, 1) := by decide +kernel
theorem d_inf_16 : decode k_inf 16 = .ok (.iload_n 1, 1) := by decide +kernel
theorem d_inf_17 : decode k_inf 17 = .ok (.iinc 1 1, 3) := by decide +kernel
theorem d_inf_20 : decode k_inf 20 = .ok (.baload, 1) := by decide +kernel
theorem d_inf_21 : decode k_inf 21 = .ok (.sipush 255, 3) := by decide +kernel
theorem d_inf_24 : decode k_inf 24 = .ok (.iand, 1) := by decide +kernel
theorem d_inf_25 : decode k_inf 25 = .ok (.i2c, 1) := by decide +kernel
theorem d_inf_26 : decode k_inf 26 = .ok (.castore, 1) := by decide +kernel
theorem d_inf_27 : decode k_inf 27 = .ok (.iinc 5 1, 3) := by decide +kernel
theorem d_inf_30 : decode k_inf 30 = .ok (.goto (-27), 3) := by decide +kernel
theorem d_inf_33 : decode k_inf 33 = .ok (.return_, 1) := by decide +kernel
abbrev k_toC : ByteArray := prog_21_method_9_code
abbrev y_toC : MethodName := ⟨"java/lang/StringLatin1", "toChars", "([B)[C"⟩
theorem d_toC_0 : decode k_toC 0 = .ok (.aload_n 0, 1) := by decide +kernel
theorem d_toC_1 : decode k_toC 1 = .ok (.arraylength, 1) := by decide +kernel
theorem d_toC_2 : decode k_toC 2 = .ok (.newarray .char, 2) := by decide +kernel
theorem d_toC_4 : decode k_toC 4 = .ok (.astore_n 1, 1) := by decide +kernel
theorem d_toC_5 : decode k_toC 5 = .ok (.aload_n 0, 1) := by decide +kernel
theorem d_toC_6 : decode k_toC 6 = .ok (.iconst 0, 1) := by decide +kernel
theorem d_toC_7 : decode k_toC 7 = .ok (.aload_n 1, 1) := by decide +kernel
theorem d_toC_8 : decode k_toC 8 = .ok (.iconst 0, 1) := by decide +kernel
theorem d_toC_9 : decode k_toC 9 = .ok (.aload_n 0, 1) := by decide +kernel
theorem d_toC_10 : decode k_toC 10 = .ok (.arraylength, 1) := by decide +kernel
theorem d_toC_11 : decode k_toC 11 = .ok (.invokestatic 13, 3) := by decide +kernel
theorem d_toC_14 : decode k_toC 14 = .ok (.aload_n 1, 1) := by decide +kernel
theorem d_toC_15 : decode k_toC 15 = .ok (.areturn, 1) := by decide +kernel
abbrev k_tca : ByteArray := prog_20_method_129_code
abbrev y_tca : MethodName := ⟨"java/lang/String", "toCharArray", "()[C"⟩
theorem d_tca_0 : decode k_tca 0 = .ok (.aload_n 0, 1) := by decide +kernel
theorem d_tca_1 : decode k_tca 1 = .ok (.invokevirtual 492, 3) := by decide +kernel
theorem d_tca_4 : decode k_tca 4 = .ok (.ifCond .eq 13, 3) := by decide +kernel
theorem d_tca_7 : decode k_tca 7 = .ok (.aload_n 0, 1) := by decide +kernel
theorem d_tca_8 : decode k_tca 8 = .ok (.getfield 9, 3) := by decide +kernel
theorem d_tca_11 : decode k_tca 11 = .ok (.invokestatic 299, 3) := by decide +kernel
theorem d_tca_14 : decode k_tca 14 = .ok (.goto 10, 3) := by decide +kernel
theorem d_tca_24 : decode k_tca 24 = .ok (.areturn, 1) := by decide +kernel
/-- the String constant, whose cells lie below sz0 -/
abbrev txW : String := "type const enum min max multiple minlength maxlength minitems maxitems required properties additional items allof anyof oneof not ref unevaluated defs null boolean number string array object false true "
def bel (sz0 : Nat) : Nat → Prop := fun q => sz0 ≤ q
def strO (sz0 a v : Nat) (U : State) : Prop := va_O R_St a (bel sz0) U U.heap ∧ va_OF R_St "coder" "B" (.int 0) a (bel sz0) U U.heap ∧ va_OF R_St "value" "[B" (.ref v) a (bel sz0) U U.heap ∧ va_T .byte v 202 (fun j => .int (wlet j)) (bel sz0) U U.heap ∧ va_Z R_St "COMPACT_STRINGS" "Z" (.int 1) (bel sz0) U U.heap
theorem strO.go {sz0 a v : Nat} {u U : State} (hvm : u.vm.Alike U.vm) (hq : ∀ q : Nat, q < u.heap.size → ¬ bel sz0 q → U.heap[q]? = u.heap[q]?) (h : strO sz0 a v u) : strO sz0 a v U :=
  ⟨(va_O.moved hvm h.1).kept hq, (va_OF.moved hvm h.2.1).kept hq, (va_OF.moved hvm h.2.2.1).kept hq, (va_T.moved hvm h.2.2.2.1).kept hq, (va_Z.moved hvm h.2.2.2.2).kept hq⟩
theorem kz_blind {vs : List Value} {sz sz0 a v : Nat} : FrameBlind (va_Pc vs (fun U => U.heap.size = sz ∧ strO sz0 a v U ∧ sz0 ≤ sz)) := by
  intro ar U f mk q
  obtain ⟨q0, q1, q2, q3⟩ := q
  exact ⟨q0, q1, strO.go (U := U.calling f mk ar) (Vm.Alike.refl U.vm) (fun _ _ _ => rfl) q2, q3⟩
set_option maxHeartbeats 4000000 in
theorem c_isL (l : Launch) (sz sz0 a v : Nat) : Met l y_isL (.code y_isL k_isL 1 (some .boolean) :: GW) { frames := 0, cells := 0, slots := 0, locals := 0 } (va_Pc [.ref a] (fun U => U.heap.size = sz ∧ strO sz0 a v U ∧ sz0 ≤ sz)) (va_Qi (S := Unit) (fun r _ => r = 1) (fun _ _ => True) (bel sz)) 0 0 (bel sz) := by
  refine Met.ofW (cc := k_isL) (maxL := 1) (ret := some .boolean) (by decide) rfl ?_
  intro p e s m args below meth c s₁ B hml hv
  obtain ⟨rfl, hsz, hT, hsz0⟩ := hv
  have hx := B.exec
  have hb := B.bytes
  have hr := B.returns
  have hts0 := atoms_spec (ws := .code y_isL k_isL 1 (some .boolean) :: GW) B.pre
  have hts : ∀ w ∈ GW, w.before _ s = true := fun w h => hts0 w (List.mem_cons_of_mem _ h)
  have hown : s.vm.findClass R_St = some m.cls := findClass_of_methodNamed B.named
  have hlocks := B.notSynchronized
  subst hsz
  obtain ⟨h1, h2, h3, h4, h5⟩ := hT
  have hAB : ∀ q, bel s.heap.size q → bel sz0 q := fun q h => Nat.le_trans hsz0 h
  have hS : va_S (bel s.heap.size) s.heap s.heap [] := va_S.rf
  have hl := lv_entry ([.ref a]) (n := 1) (Nat.le_of_ble_eq_true rfl)
  rw [lg_entry_eq]
  generalize (lg_sl ([.ref a]) ++ List.replicate (1 - (lg_sl ([.ref a])).length) Slot.unset).toArray = ls at hl ⊢
  have hl : lv_has ls 1 [(0, .ref a)] := hl
  refine va_gets hx hb (h5.narrow hAB) hS hown (hts _ gw50) (fun _ h => h) d_isL_0 ?_
  refine lv_if_eq (tgt := 17) hx hb d_isL_3 (by decide) (fun hc => absurd hc (by decide)) (fun hc => ?_)
  refine lv_aload_n hx hb d_isL_6 rfl (lv_at hl 0 rfl) ?_
  refine va_getX (N := 1) (i := 0) (v := fun _ => .int 0) (ad := fun _ => a) hx hb (fun _ _ => h2.narrow hAB) (by decide) hS hown (hts _ gw1489) (fun _ h => h) d_isL_7 ?_
  refine lv_if_ne (tgt := 17) hx hb d_isL_10 (by decide) (fun hc => absurd rfl hc) (fun hc => ?_)
  refine lv_iconst (v := (1 : Int32)) hx hb d_isL_13 (by decide) ?_
  refine lv_goto (tgt := 18) hx hb d_isL_14 (by decide) ?_
  exact W.zret hx hb hr (by decide +kernel) (fun t ht _ => ⟨⟨1, (), rfl, rfl, trivial⟩, hS.F ht⟩) hS.2.2 d_isL_18 hlocks

def fKl (k : Nat) : Nat → Int32 := fun j => if j < k then wlet j else 0
theorem fKl_0 : fKl 0 = fun _ => 0 := funext fun j => if_neg (Nat.not_lt_zero j)
theorem wl_big (j : Nat) (h : 202 ≤ j) : wlet j = 0 := by
  have : wlets.getD j 0 = 0 := by
    rw [List.getD_eq_getElem?_getD, List.getElem?_eq_none (by show 202 ≤ j; exact h)]; rfl
  show nI (wlets.getD j 0) = 0
  rw [this]; rfl
theorem fKl_e : fKl 202 = wlet := funext fun j => by
  unfold fKl
  by_cases h : j < 202
  · rw [if_pos h]
  · rw [if_neg h, wl_big j (Nat.le_of_not_lt h)]
theorem wl_ch : ∀ k, k < 202 → ((wlet k &&& 255).toUInt32 % 65536).toInt32 = wlet k ∧ vp_nar .char (wlet k) = wlet k := by decide +kernel
theorem fKl_s {k : Nat} (hk : k < 202) : upd (fKl k) (nI k).toNatClampNeg (vp_nar .char (wlet k)) = fKl (k + 1) := by
  rw [nI_clamp (by omega), (wl_ch k hk).2]
  funext j
  unfold upd fKl
  by_cases h : j = k
  · subst h; rw [if_pos rfl, if_pos (Nat.lt_succ_self j)]
  · rw [if_neg h]
    by_cases h2 : j < k
    · rw [if_pos h2, if_pos (by omega)]
    · rw [if_neg h2, if_neg (by omega)]
theorem kt_blind {D : va_G} {cl : List vw_C} {ws : va_W} {tys : List (ClassId × FieldType)} {vs : List Value} {sz sz0 v : Nat} : FrameBlind (va_Pc vs (fun U => U.heap.size = sz ∧ va_P D cl ws U.heap ∧ va_K D cl tys U ∧ va_D (bel sz0) ws ∧ va_T .byte v 202 (fun j => .int (wlet j)) (bel sz0) U U.heap ∧ sz0 ≤ sz)) := by
  intro ar U f mk q
  obtain ⟨q0, q1, qP, qK, qD, q2, q3⟩ := q
  exact ⟨q0, q1, qP, va_K.moved (u := U) (U := U.calling f mk ar) (Vm.Alike.refl U.vm) qK, qD, va_T.moved (U := U.calling f mk ar) (Vm.Alike.refl U.vm) q2, q3⟩
set_option maxHeartbeats 4000000 in
theorem c_inf (l : Launch) {D : va_G} {g : Gm} (d sz sz0 v : Nat) : Met l y_inf (.code y_inf k_inf 6 none :: GW) { frames := 0, cells := 0, slots := 0, locals := 0 } (va_Pc [.ref v, .int 0, .ref d, .int 0, .int 202] (fun U => U.heap.size = sz ∧ va_P D vwCl [(d, .inl (g.2 1, 202, .inl (fun _ => 0)))] U.heap ∧ va_K D vwCl (TYS g) U ∧ va_D (bel sz0) [(d, .inl (g.2 1, 202, .inl (fun _ => 0)))] ∧ va_T .byte v 202 (fun j => .int (wlet j)) (bel sz0) U U.heap ∧ sz0 ≤ sz)) (va_Qv (S := Unit) (fun _ => True) (fun _ t => va_P D vwCl [(d, .inl (g.2 1, 202, .inl wlet))] t.heap) (va_A [(d, .inl (g.2 1, 202, .inl (fun _ => 0)))] sz)) 0 0 (va_A [(d, .inl (g.2 1, 202, .inl (fun _ => 0)))] sz) := by
  refine Met.ofW (cc := k_inf) (maxL := 6) (ret := none) (by decide) rfl ?_
  intro p e s m args below meth c s₁ B hml hv
  obtain ⟨rfl, hsz, hP, hK, hD0, hT, hsz0⟩ := hv
  have hx := B.exec
  have hb := B.bytes
  have hr := B.returns
  have hts0 := atoms_spec (ws := .code y_inf k_inf 6 none :: GW) B.pre
  have hlocks := B.notSynchronized
  subst hsz
  have hD := hD0.self (sz := s.heap.size)
  have hAB : ∀ q, va_A [(d, .inl (g.2 1, 202, .inl (fun _ => 0)))] s.heap.size q → bel sz0 q := fun q h => by
    rcases h with ⟨k, e, h⟩ | h
    · exact hD0.2 k (q, e) h
    · exact Nat.le_trans hsz0 h
  have hT := hT.narrow hAB
  generalize va_A [(d, .inl (g.2 1, 202, .inl (fun _ => 0)))] s.heap.size = A at hD hT ⊢
  clear hAB
  have hS : va_S A s.heap s.heap [] := va_S.rf
  have hl := lv_entry ([.ref v, .int 0, .ref d, .int 0, .int 202]) (n := 6) (Nat.le_of_ble_eq_true rfl)
  rw [lg_entry_eq]
  generalize (lg_sl ([.ref v, .int 0, .ref d, .int 0, .int 202]) ++ List.replicate (6 - (lg_sl ([.ref v, .int 0, .ref d, .int 0, .int 202])).length) Slot.unset).toArray = ls at hl ⊢
  have hl : lv_has ls 6 [(0, .ref v), (1, .int 0), (2, .ref d), (3, .int 0), (4, .int 202)] := hl
  refine lv_iconst (v := (0 : Int32)) hx hb d_inf_0 (by decide) ?_
  refine lv_istore hx hb d_inf_1 hl (by decide) rfl (fun ls hl => ?_)
  have hl : lv_has ls 6 [(5, .int 0), (0, .ref v), (1, .int 0), (2, .ref d), (3, .int 0), (4, .int 202)] := hl
  -- the loop
  have loop : ∀ n k : Nat, k + n = 202 → ∀ (H : Heap) (locs : List Loc) (ls : Array Slot), lv_has ls 6 [(5, .int (nI k)), (0, .ref v), (1, .int (nI k)), (2, .ref d), (3, .int (nI k)), (4, .int 202)] → va_P D vwCl [(d, .inl (g.2 1, 202, .inl (fKl k)))] H → va_D A [(d, .inl (g.2 1, 202, .inl (fKl k)))] → va_S A s.heap H locs →
      W p l e { frames := 0, cells := 0, slots := 0, locals := 0 } s m [Value.ref v, .int 0, .ref d, .int 0, .int 202].toArray below meth c H locs 0 0 (MQ below (va_Qv (S := Unit) (fun _ => True) (fun _ t => va_P D vwCl [(d, .inl (g.2 1, 202, .inl wlet))] t.heap) A) [Value.ref v, .int 0, .ref d, .int 0, .int 202].toArray s 0 0 A) (F0 m 3 ls []) := by
    intro n
    induction n with
    | zero =>
      intro k hk H locs ls hl hP hD hS
      have : k = 202 := by omega
      subst this
      refine lv_iload hx hb d_inf_3 (lv_at hl 0 rfl) ?_
      refine lv_iload hx hb d_inf_5 (lv_at hl 5 rfl) ?_
      refine lv_icmp_ge (tgt := 33) hx hb d_inf_7 (by decide) (fun hc => ?_) (fun hc => absurd (by decide +kernel) hc)
      rw [fKl_e] at hP
      exact W.vret hx hb hr (fun t ht _ => ⟨⟨(), rfl, trivial, by show va_P D vwCl [(d, .inl (g.2 1, 202, .inl wlet))] t.heap; rw [ht]; exact hP⟩, hS.F ht⟩) hS.2.2 d_inf_33 hlocks
    | succ n ih =>
      intro k hk H locs ls hl hP hD hS
      have hk2 : k < 202 := by omega
      have vin : vp_in (nI k) 202 := vp_in_nI hk2 (by decide)
      have e1 : nI k + 1 = nI (k + 1) := nI_1 k
      refine lv_iload hx hb d_inf_3 (lv_at hl 0 rfl) ?_
      refine lv_iload hx hb d_inf_5 (lv_at hl 5 rfl) ?_
      refine lv_icmp_ge (tgt := 33) hx hb d_inf_7 (by decide) (fun hc => absurd hc (nI_ge hk2 (by decide))) (fun hc => ?_)
      refine lv_aload_n hx hb d_inf_10 rfl (lv_at hl 3 rfl) ?_
      refine lv_iload_n hx hb d_inf_11 rfl (lv_at hl 4 rfl) ?_
      refine lv_iinc (k := 4) (v := nI (k + 1)) hx hb d_inf_12 hl rfl (by rw [kw_inc (k := 1) _ (by decide), e1]) (by decide) rfl (fun ls hl => ?_)
      have hl : lv_has ls 6 [(3, .int (nI (k + 1))), (5, .int (nI k)), (0, .ref v), (1, .int (nI k)), (2, .ref d), (4, .int 202)] := hl
      refine lv_aload_n hx hb d_inf_15 rfl (lv_at hl 2 rfl) ?_
      refine lv_iload_n hx hb d_inf_16 rfl (lv_at hl 3 rfl) ?_
      refine lv_iinc (k := 3) (v := nI (k + 1)) hx hb d_inf_17 hl rfl (by rw [kw_inc (k := 1) _ (by decide), e1]) (by decide) rfl (fun ls hl => ?_)
      have hl : lv_has ls 6 [(1, .int (nI (k + 1))), (3, .int (nI (k + 1))), (5, .int (nI k)), (0, .ref v), (2, .ref d), (4, .int 202)] := hl
      refine va_tb (v := .int (wlet k)) hx hb hT hS vin (by rw [nI_clamp (by omega)]) d_inf_20 ?_
      refine lv_sipush (v := (255 : Int32)) hx hb d_inf_21 (by decide) ?_
      refine lv_iand hx hb d_inf_24 ?_
      refine lv_i2c (v := wlet k) hx hb d_inf_25 (wl_ch k hk2).1 ?_
      refine va_cast hx hb hK hP hD hS 0 1 rfl rfl vin d_inf_26 (fun H locs hP hD hS => ?_)
      have hP : va_P D vwCl [(d, .inl (g.2 1, 202, .inl (upd (fKl k) (nI k).toNatClampNeg (vp_nar .char (wlet k)))))] H := hP
      have hD : va_D A [(d, .inl (g.2 1, 202, .inl (upd (fKl k) (nI k).toNatClampNeg (vp_nar .char (wlet k)))))] := hD
      rw [fKl_s hk2] at hP hD
      refine lv_iinc (k := 2) (v := nI (k + 1)) hx hb d_inf_27 hl rfl (by rw [kw_inc (k := 1) _ (by decide), e1]) (by decide) rfl (fun ls hl => ?_)
      have hl : lv_has ls 6 [(5, .int (nI (k + 1))), (1, .int (nI (k + 1))), (3, .int (nI (k + 1))), (0, .ref v), (2, .ref d), (4, .int 202)] := hl
      refine lv_goto (tgt := 3) hx hb d_inf_30 (by decide) ?_
      exact ih (k + 1) (by omega) _ _ _ (lv_sub hl [0, 3, 1, 4, 2, 5] rfl) hP hD hS
  rw [← fKl_0] at hP hD
  exact loop 202 0 (by omega) _ _ _ hl hP hD hS

theorem d_one {A : Nat → Prop} {q : Nat} {e : va_E} (h : A q) : va_D A [(q, e)] := by
  refine ⟨fun i j x y h1 h2 _ => ?_, fun k x h1 => ?_⟩
  · have hi : i < 1 := (List.getElem?_eq_some_iff.mp h1).1
    have hj : j < 1 := (List.getElem?_eq_some_iff.mp h2).1
    omega
  · have hk : k < 1 := (List.getElem?_eq_some_iff.mp h1).1
    rw [show k = 0 by omega] at h1
    cases h1
    exact h
theorem kc_blind {D : va_G} {cl : List vw_C} {tys : List (ClassId × FieldType)} {vs : List Value} {sz sz0 v : Nat} : FrameBlind (va_Pc vs (fun U => U.heap.size = sz ∧ va_K D cl tys U ∧ va_T .byte v 202 (fun j => .int (wlet j)) (bel sz0) U U.heap ∧ sz0 ≤ sz)) := by
  intro ar U f mk q
  obtain ⟨q0, q1, qK, q2, q3⟩ := q
  exact ⟨q0, q1, va_K.moved (u := U) (U := U.calling f mk ar) (Vm.Alike.refl U.vm) qK, va_T.moved (U := U.calling f mk ar) (Vm.Alike.refl U.vm) q2, q3⟩
set_option maxHeartbeats 4000000 in
theorem c_toC (l : Launch) {D : va_G} {g : Gm} (sz sz0 v : Nat) : Met l y_toC (.code y_toC k_toC 2 (some (.array .char)) :: GW) { frames := 1, cells := 1, slots := 202, locals := 60 } (va_Pc [.ref v] (fun U => U.heap.size = sz ∧ va_K D vwCl (TYS g) U ∧ va_T .byte v 202 (fun j => .int (wlet j)) (bel sz0) U U.heap ∧ sz0 ≤ sz)) (va_Qr (S := Unit) (fun _ => True) (fun _ q t => va_P D vwCl [(q, .inl (g.2 1, 202, .inl wlet))] t.heap ∧ va_D (bel sz) [(q, .inl (g.2 1, 202, .inl wlet))]) (bel sz)) 1 202 (bel sz) := by
  refine Met.ofW (cc := k_toC) (maxL := 2) (ret := some (.array .char)) (by decide) rfl ?_
  intro p e s m args below meth c s₁ B hml hv
  obtain ⟨rfl, hsz, hK, hT0, hsz0⟩ := hv
  have hx := B.exec
  have hb := B.bytes
  have hr := B.returns
  have hts0 := atoms_spec (ws := .code y_toC k_toC 2 (some (.array .char)) :: GW) B.pre
  have hts : ∀ w ∈ GW, w.before _ s = true := fun w h => hts0 w (List.mem_cons_of_mem _ h)
  have hown : s.vm.findClass R_L1 = some m.cls := findClass_of_methodNamed B.named
  have hlocks := B.notSynchronized
  subst hsz
  have hAB : ∀ q, bel s.heap.size q → bel sz0 q := fun q h => Nat.le_trans hsz0 h
  have hT := hT0.narrow hAB
  have hA : ∀ q : Nat, s.heap.size ≤ q → bel s.heap.size q := fun q h => h
  have hS : va_S (bel s.heap.size) s.heap s.heap [] := va_S.rf
  have hP : va_P D vwCl [] s.heap := fun k q h => by simp at h
  have hD : va_D (bel s.heap.size) [] := ⟨fun i j p q h => by simp at h, fun k q h => by simp at h⟩
  have hl := lv_entry ([.ref v]) (n := 2) (Nat.le_of_ble_eq_true rfl)
  rw [lg_entry_eq]
  generalize (lg_sl ([.ref v]) ++ List.replicate (2 - (lg_sl ([.ref v])).length) Slot.unset).toArray = ls at hl ⊢
  have hl : lv_has ls 2 [(0, .ref v)] := hl
  refine lv_aload_n hx hb d_toC_0 rfl (lv_at hl 0 rfl) ?_
  refine va_tlen (v := (202 : Int32)) hx hb hT hS rfl d_toC_1 ?_
  refine va_newa (atype := .char) (a0 := (202, .inl (fun _ => 0))) hx hb (hts _ gw95) rfl hK hP hD hS hA (fun _ => rfl) (by decide) (by decide) (by decide) (Nat.le_of_ble_eq_true rfl) (Nat.le_of_ble_eq_true rfl) d_toC_2 (fun q2 cA H hK2 hP hD hS => ?_)
  have hcA : cA = g.2 1 := Option.some.inj ((hK2.2 4 (cA, .char) rfl).2.symm.trans (hK2.2 1 (g.2 1, .char) rfl).2)
  subst hcA
  clear hK2
  have hP : va_P D vwCl [(q2, .inl (g.2 1, 202, .inl (fun _ => 0)))] H := hP
  have hD : va_D (bel s.heap.size) [(q2, .inl (g.2 1, 202, .inl (fun _ => 0)))] := hD
  refine lv_astore_n hx hb d_toC_4 rfl hl (by decide) rfl (fun ls hl => ?_)
  have hl : lv_has ls 2 [(1, .ref q2), (0, .ref v)] := hl
  refine lv_aload_n hx hb d_toC_5 rfl (lv_at hl 1 rfl) ?_
  refine lv_iconst (v := (0 : Int32)) hx hb d_toC_6 (by decide) ?_
  refine lv_aload_n hx hb d_toC_7 rfl (lv_at hl 0 rfl) ?_
  refine lv_iconst (v := (0 : Int32)) hx hb d_toC_8 (by decide) ?_
  refine lv_aload_n hx hb d_toC_9 rfl (lv_at hl 1 rfl) ?_
  refine va_tlen (v := (202 : Int32)) hx hb hT hS rfl d_toC_10 ?_
  have hFc := va_free (wc := [(q2, .inl (g.2 1, 202, .inl (fun _ => 0)))]) hD hS hA [0] rfl
  refine va_callv (va_runS (As := [.ref v, .int (0 : Int32), .ref q2, .int (0 : Int32), .int (202 : Int32)]) (rest := []) ⟨hx, hb, hml, hown, hts⟩ (c_inf l (D := D) (g := g) q2 H.size sz0 v) (cwS 5 hts (gd_s gw55 gw56 gw4 gw57) rfl rfl rfl (by decide +kernel) ⟨Nat.le_of_ble_eq_true rfl, Nat.le_of_ble_eq_true rfl⟩) ⟨kt_blind, fun U hU hW => ⟨rfl, by rw [hU], by rw [hU]; exact hP, va_K.moved hW.alike hK, hD.weaken (fun _ _ _ h => hAB _ h), by rw [hU]; exact (va_T.moved hW.alike hT0).kept (fun q h1 h2 => hS.2.1 q h1 (fun z => h2 (hAB q z))), Nat.le_trans hsz0 hS.1⟩⟩ rfl rfl hl.1 rfl (lv_room (Nat.le_of_ble_eq_true rfl)) d_toC_11 ⟨Nat.le_of_ble_eq_true rfl, Nat.le_of_ble_eq_true rfl⟩) hS (fun q _ h => hFc q h) hFc (fun u11 t H1 locs ht hvm _ hB hz1 hk1 hS => ?_)
  have hP1 : va_P D vwCl [(q2, .inl (g.2 1, 202, .inl wlet))] H1 := by rw [← ht]; exact hB
  have hD1 : va_D (bel s.heap.size) [(q2, .inl (g.2 1, 202, .inl wlet))] := d_one (hD.2 0 _ rfl)
  refine lv_aload_n hx hb d_toC_14 rfl (lv_at hl 0 rfl) ?_
  refine W.widen (k := 1) (n := 202) (Nat.le_of_ble_eq_true rfl) (Nat.le_of_ble_eq_true rfl) ?_
  exact W.aret hx hb hr (Or.inr ⟨_, rfl⟩) (Or.inr ⟨q2, rfl⟩) (fun t ht _ => ⟨⟨(), q2, rfl, trivial, by rw [ht]; exact hP1, hD1⟩, hS.F ht⟩) hS.2.2 d_toC_15 hlocks
theorem ku_blind {D : va_G} {cl : List vw_C} {tys : List (ClassId × FieldType)} {vs : List Value} {sz sz0 a v : Nat} : FrameBlind (va_Pc vs (fun U => U.heap.size = sz ∧ va_K D cl tys U ∧ strO sz0 a v U ∧ sz0 ≤ sz)) := by
  intro ar U f mk q
  obtain ⟨q0, q1, qK, q2, q3⟩ := q
  exact ⟨q0, q1, va_K.moved (u := U) (U := U.calling f mk ar) (Vm.Alike.refl U.vm) qK, strO.go (U := U.calling f mk ar) (Vm.Alike.refl U.vm) (fun _ _ _ => rfl) q2, q3⟩
set_option maxHeartbeats 4000000 in
theorem c_tca (l : Launch) {D : va_G} {g : Gm} (sz sz0 a v : Nat) : Met l y_tca (.code y_tca k_tca 1 (some (.array .char)) :: GW) { frames := 2, cells := 1, slots := 202, locals := 160 } (va_Pc [.ref a] (fun U => U.heap.size = sz ∧ va_K D vwCl (TYS g) U ∧ strO sz0 a v U ∧ sz0 ≤ sz)) (va_Qr (S := Unit) (fun _ => True) (fun _ q t => va_P D vwCl [(q, .inl (g.2 1, 202, .inl wlet))] t.heap ∧ va_D (bel sz) [(q, .inl (g.2 1, 202, .inl wlet))]) (bel sz)) 1 202 (bel sz) := by
  refine Met.ofW (cc := k_tca) (maxL := 1) (ret := some (.array .char)) (by decide) rfl ?_
  intro p e s m args below meth c s₁ B hml hv
  obtain ⟨rfl, hsz, hK, hO, hsz0⟩ := hv
  have hx := B.exec
  have hb := B.bytes
  have hr := B.returns
  have hts0 := atoms_spec (ws := .code y_tca k_tca 1 (some (.array .char)) :: GW) B.pre
  have hts : ∀ w ∈ GW, w.before _ s = true := fun w h => hts0 w (List.mem_cons_of_mem _ h)
  have hown : s.vm.findClass R_St = some m.cls := findClass_of_methodNamed B.named
  have hlocks := B.notSynchronized
  subst hsz
  have hAB : ∀ q, bel s.heap.size q → bel sz0 q := fun q h => Nat.le_trans hsz0 h
  have hS : va_S (bel s.heap.size) s.heap s.heap [] := va_S.rf
  have hl := lv_entry ([.ref a]) (n := 1) (Nat.le_of_ble_eq_true rfl)
  rw [lg_entry_eq]
  generalize (lg_sl ([.ref a]) ++ List.replicate (1 - (lg_sl ([.ref a])).length) Slot.unset).toArray = ls at hl ⊢
  have hl : lv_has ls 1 [(0, .ref a)] := hl
  obtain ⟨cell, c1, c2, c3, c4⟩ := hO.1
  refine lv_aload_n hx hb d_tca_0 rfl (lv_at hl 0 rfl) ?_
  refine va_calli (va_runV (As := []) (rest := []) (b := a) ⟨hx, hb, hml, hown, hts⟩ (c_isL l s.heap.size sz0 a v) (cwV 0 hts (gd_v gw46 gw47 gw48 gw3 gw49) rfl rfl rfl (by decide +kernel) ⟨Nat.le_of_ble_eq_true rfl, Nat.le_of_ble_eq_true rfl⟩) ⟨kz_blind, ⟨cell, c1, c2, c3⟩, fun U hU hW => ⟨rfl, by rw [hU], strO.go (u := s) hW.alike (fun q _ _ => by rw [hU]) hO, hsz0⟩⟩ rfl rfl hl.1 rfl (lv_room (Nat.le_of_ble_eq_true rfl)) d_tca_1 ⟨Nat.le_of_ble_eq_true rfl, Nat.le_of_ble_eq_true rfl⟩) hS (fun q _ h => h) (fun q h => h) (fun r u1 t1 H1 locs1 ht1 hvm1 hr1 _ hz1 hk1 hS => ?_)
  have hr1 : r = 1 := hr1
  subst hr1
  refine lv_if_eq (tgt := 17) hx hb d_tca_4 (by decide) (fun hc => absurd hc (by decide)) (fun hc => ?_)
  refine lv_aload_n hx hb d_tca_7 rfl (lv_at hl 0 rfl) ?_
  refine va_getX (N := 1) (i := 0) (v := fun _ => .ref v) (ad := fun _ => a) hx hb (fun _ _ => hO.2.2.1.narrow hAB) (by decide) hS hown (hts _ gw1490) (fun _ h => h) d_tca_8 ?_
  refine va_callr (va_runS (As := [.ref v]) (rest := []) ⟨hx, hb, hml, hown, hts⟩ (c_toC l (D := D) (g := g) H1.size sz0 v) (va_cwS 1 hts (gd_x gw52 gw53 gw4 gw54) rfl rfl rfl (by decide +kernel) ⟨Nat.le_of_ble_eq_true rfl, Nat.le_of_ble_eq_true rfl⟩) ⟨kc_blind, fun U hU hW => ⟨rfl, by rw [hU], va_K.moved hW.alike hK, by rw [hU]; exact (va_T.moved hW.alike hO.2.2.2.1).kept (fun q h1 h2 => hS.2.1 q h1 (fun z => h2 (hAB q z))), Nat.le_trans hsz0 hz1⟩⟩ rfl rfl hl.1 rfl (lv_room (Nat.le_of_ble_eq_true rfl)) d_tca_11 ⟨Nat.le_of_ble_eq_true rfl, Nat.le_of_ble_eq_true rfl⟩) hS (fun q _ h => Nat.le_trans hz1 h) (fun q h => Nat.le_trans hz1 h) (fun u2 q t H2 locs2 ht hvm _ hB hz2 hk2 hS => ?_)
  obtain ⟨hP1, hD1⟩ := hB
  rw [ht] at hP1
  refine lv_goto (tgt := 24) hx hb d_tca_14 (by decide) ?_
  refine W.widen (k := 1) (n := 202) (Nat.le_of_ble_eq_true rfl) (Nat.le_of_ble_eq_true rfl) ?_
  exact W.aret hx hb hr (Or.inr ⟨_, rfl⟩) (Or.inr ⟨q, rfl⟩) (fun t ht _ => ⟨⟨(), q, rfl, trivial, by rw [ht]; exact hP1, hD1.weaken (fun _ _ _ h => Nat.le_trans hz1 h)⟩, hS.F ht⟩) hS.2.2 d_tca_24 hlocks
theorem d_Wb_init_0 : decode k_Wb_init 0 = .ok (.aload_n 0, 1) := by decide +kernel
theorem d_Wb_init_1 : decode k_Wb_init 1 = .ok (.invokespecial 3, 3) := by decide +kernel
theorem d_Wb_init_4 : decode k_Wb_init 4 = .ok (.aload_n 0, 1) := by decide +kernel
theorem d_Wb_init_5 : decode k_Wb_init 5 = .ok (.ldc 9, 2) := by decide +kernel
theorem d_Wb_init_7 : decode k_Wb_init 7 = .ok (.invokevirtual 11, 3) := by decide +kernel
theorem d_Wb_init_10 : decode k_Wb_init 10 = .ok (.putfield 17, 3) := by decide +kernel
theorem d_Wb_init_13 : decode k_Wb_init 13 = .ok (.aload_n 0, 1) := by decide +kernel
theorem d_Wb_init_14 : decode k_Wb_init 14 = .ok (.bipush 31, 2) := by decide +kernel
theorem d_Wb_init_16 : decode k_Wb_init 16 = .ok (.newarray .int, 2) := by decide +kernel
theorem d_Wb_init_18 : decode k_Wb_init 18 = .ok (.putfield 23, 3) := by decide +kernel
theorem d_Wb_init_21 : decode k_Wb_init 21 = .ok (.iconst 1, 1) := by decide +kernel
theorem d_Wb_init_22 : decode k_Wb_init 22 = .ok (.istore_n 1, 1) := by decide +kernel
theorem d_Wb_init_23 : decode k_Wb_init 23 = .ok (.iconst 0, 1) := by decide +kernel
theorem d_Wb_init_24 : decode k_Wb_init 24 = .ok (.istore_n 2, 1) := by decide +kernel
theorem d_Wb_init_25 : decode k_Wb_init 25 = .ok (.iload_n 2, 1) := by decide +kernel
theorem d_Wb_init_26 : decode k_Wb_init 26 = .ok (.aload_n 0, 1) := by decide +kernel
theorem d_Wb_init_27 : decode k_Wb_init 27 = .ok (.getfield 17, 3) := by decide +kernel
theorem d_Wb_init_30 : decode k_Wb_init 30 = .ok (.arraylength, 1) := by decide +kernel
theorem d_Wb_init_31 : decode k_Wb_init 31 = .ok (.if_icmp .ge 38, 3) := by decide +kernel
theorem d_Wb_init_34 : decode k_Wb_init 34 = .ok (.aload_n 0, 1) := by decide +kernel
theorem d_Wb_init_35 : decode k_Wb_init 35 = .ok (.getfield 17, 3) := by decide +kernel
theorem d_Wb_init_38 : decode k_Wb_init 38 = .ok (.iload_n 2, 1) := by decide +kernel
theorem d_Wb_init_39 : decode k_Wb_init 39 = .ok (.caload, 1) := by decide +kernel
theorem d_Wb_init_40 : decode k_Wb_init 40 = .ok (.bipush 32, 2) := by decide +kernel
theorem d_Wb_init_42 : decode k_Wb_init 42 = .ok (.if_icmp .ne 21, 3) := by decide +kernel
theorem d_Wb_init_45 : decode k_Wb_init 45 = .ok (.iload_n 1, 1) := by decide +kernel
theorem d_Wb_init_46 : decode k_Wb_init 46 = .ok (.bipush 29, 2) := by decide +kernel
theorem d_Wb_init_48 : decode k_Wb_init 48 = .ok (.if_icmp .gt 15, 3) := by decide +kernel
theorem d_Wb_init_51 : decode k_Wb_init 51 = .ok (.iinc 1 1, 3) := by decide +kernel
theorem d_Wb_init_54 : decode k_Wb_init 54 = .ok (.aload_n 0, 1) := by decide +kernel
theorem d_Wb_init_55 : decode k_Wb_init 55 = .ok (.getfield 23, 3) := by decide +kernel
theorem d_Wb_init_58 : decode k_Wb_init 58 = .ok (.iload_n 1, 1) := by decide +kernel
theorem d_Wb_init_59 : decode k_Wb_init 59 = .ok (.iload_n 2, 1) := by decide +kernel
theorem d_Wb_init_60 : decode k_Wb_init 60 = .ok (.iconst 1, 1) := by decide +kernel
theorem d_Wb_init_61 : decode k_Wb_init 61 = .ok (.iadd, 1) := by decide +kernel
theorem d_Wb_init_62 : decode k_Wb_init 62 = .ok (.iastore, 1) := by decide +kernel
theorem d_Wb_init_63 : decode k_Wb_init 63 = .ok (.iinc 2 1, 3) := by decide +kernel
theorem d_Wb_init_66 : decode k_Wb_init 66 = .ok (.goto (-41), 3) := by decide +kernel
theorem d_Wb_init_69 : decode k_Wb_init 69 = .ok (.return_, 1) := by decide +kernel
def wkN (k : Nat) : Nat := 1 + ((wlets.take k).filter (fun x => x == 32)).length
theorem wk_sp : ∀ k, k < 202 → wlet k = 32 → wkN k ≤ 29 ∧ wkN (k + 1) = wkN k + 1 ∧ wsta (wkN k + 1) = nI (k + 1) := by decide +kernel
theorem wk_no : ∀ k, k < 202 → ¬ wlet k = 32 → wkN (k + 1) = wkN k := by decide +kernel
def gK (w : Nat) : Nat → Int32 := fun j => if j ≤ w then wsta j else 0
theorem gK_1 : gK 1 = fun _ => 0 := funext fun j => by
  unfold gK
  by_cases h : j ≤ 1
  · rw [if_pos h]
    rcases (show j = 0 ∨ j = 1 by omega) with rfl | rfl <;> decide +kernel
  · rw [if_neg h]
theorem gK_e : gK 30 = wsta := funext fun j => by
  unfold gK
  by_cases h : j ≤ 30
  · rw [if_pos h]
  · rw [if_neg h]
    have : wstas.getD j 0 = 0 := by
      rw [List.getD_eq_getElem?_getD, List.getElem?_eq_none (by show 31 ≤ j; omega)]; rfl
    show 0 = nI (wstas.getD j 0)
    rw [this]; rfl
theorem gK_s {w k : Nat} (hw : w ≤ 29) (h : wsta (w + 1) = nI (k + 1)) : upd (gK w) (nI (w + 1)).toNatClampNeg (nI k + 1) = gK (w + 1) := by
  rw [nI_clamp (by omega), nI_1, ← h]
  funext j
  unfold upd gK
  by_cases h1 : j = w + 1
  · subst h1; rw [if_pos rfl, if_pos (Nat.le_refl _)]
  · rw [if_neg h1]
    by_cases h2 : j ≤ w
    · rw [if_pos h2, if_pos (by omega)]
    · rw [if_neg h2, if_neg (by omega)]
theorem kv_blind {D : va_G} {cl : List vw_C} {ws : va_W} {tys : List (ClassId × FieldType)} {vs : List Value} {sz sz0 a v : Nat} : FrameBlind (va_Pc vs (fun U => U.heap.size = sz ∧ va_P D cl ws U.heap ∧ va_K D cl tys U ∧ va_D (bel sz0) ws ∧ nestW U ∧ vk_R R_Wb 9 txW a U ∧ strO sz0 a v U ∧ sz0 ≤ sz)) := by
  intro ar U f mk q
  obtain ⟨q0, q1, qP, qK, qD, qN, qR, q2, q3⟩ := q
  exact ⟨q0, q1, qP, va_K.moved (u := U) (U := U.calling f mk ar) (Vm.Alike.refl U.vm) qK, qD, nestW.moved (U := U.calling f mk ar) (State.WarmedH.refl U) qN, vk_R.same (u := U) (U := U.calling f mk ar) rfl qR, strO.go (U := U.calling f mk ar) (Vm.Alike.refl U.vm) (fun _ _ _ => rfl) q2, q3⟩
set_option maxHeartbeats 4000000 in
theorem c_Wb (l : Launch) {D : va_G} {g : Gm} (sz0 a v h0 sz : Nat) : Met l y_Wb_init (.code y_Wb_init k_Wb_init 3 none :: GW) { frames := 12, cells := 2, slots := 233, locals := 500 } (va_Pc [.ref h0] (fun U => U.heap.size = sz ∧ va_P D vwCl [(h0, .inr (4, [.null, .null]))] U.heap ∧ va_K D vwCl (TYS g) U ∧ va_D (bel sz0) [(h0, .inr (4, [.null, .null]))] ∧ nestW U ∧ vk_R R_Wb 9 txW a U ∧ strO sz0 a v U ∧ sz0 ≤ sz)) (va_Qv (S := Nat → Nat) (fun _ => True) (fun u t => va_P D vwCl [(h0, .inr (4, [.ref (u 0), .ref (u 1)])), ((u 0), .inl (g.2 1, 202, .inl (wlet))), ((u 1), .inl (g.2 0, 31, .inl (wsta)))] t.heap ∧ va_D (va_A [(h0, .inr (4, [.null, .null]))] sz) [(h0, .inr (4, [.ref (u 0), .ref (u 1)])), ((u 0), .inl (g.2 1, 202, .inl (wlet))), ((u 1), .inl (g.2 0, 31, .inl (wsta)))]) (va_A [(h0, .inr (4, [.null, .null]))] sz)) 2 233 (va_A [(h0, .inr (4, [.null, .null]))] sz) := by
  refine Met.ofW (cc := k_Wb_init) (maxL := 3) (ret := none) (by decide) rfl ?_
  intro p e s m args below meth c s₁ B hml hv
  obtain ⟨rfl, hsz, hP, hK, hD0, hNw, hR, hO, hsz0⟩ := hv
  have hx := B.exec
  have hb := B.bytes
  have hr := B.returns
  have hts0 := atoms_spec (ws := .code y_Wb_init k_Wb_init 3 none :: GW) B.pre
  have hts : ∀ w ∈ GW, w.before _ s = true := fun w h => hts0 w (List.mem_cons_of_mem _ h)
  have hown : s.vm.findClass R_Wb = some m.cls := findClass_of_methodNamed B.named
  have hlocks := B.notSynchronized
  have hin : meth.name = "<init>" := (name_of_methodNamed B.named B.method).1
  subst hsz
  have hD := hD0.self (sz := s.heap.size)
  have hAB : ∀ q, va_A [(h0, .inr (4, [.null, .null]))] s.heap.size q → bel sz0 q := fun q h => by
    rcases h with ⟨k, e, h⟩ | h
    · exact hD0.2 k (q, e) h
    · exact Nat.le_trans hsz0 h
  generalize hAe : va_A [(h0, .inr (4, [.null, .null]))] s.heap.size = A at hD hAB ⊢
  have hA : ∀ q : Nat, s.heap.size ≤ q → A q := fun q h => by rw [← hAe]; exact Or.inr h
  have hS : va_S A s.heap s.heap [] := va_S.rf
  have hP : va_P D vwCl [(h0, .inr (4, [.null, .null]))] s.heap := hP
  have hl := lv_entry ([.ref h0]) (n := 3) (Nat.le_of_ble_eq_true rfl)
  rw [lg_entry_eq]
  generalize (lg_sl ([.ref h0]) ++ List.replicate (3 - (lg_sl ([.ref h0])).length) Slot.unset).toArray = ls at hl ⊢
  have hl : lv_has ls 3 [(0, .ref h0)] := hl
  refine lv_aload_n hx hb d_Wb_init_0 rfl (lv_at hl 0 rfl) ?_
  refine W.objInit hx hb hown (hts _ gw40) (hts _ gw33) (hts _ gw34) rfl (by rw [hml]; exact hl.1) rfl d_Wb_init_1 (Nat.le_of_ble_eq_true rfl) (Nat.le_of_ble_eq_true rfl) ?_
  refine W.eq (g2 := F0 m 4 ls []) rfl ?_
  refine lv_aload_n hx hb d_Wb_init_4 rfl (lv_at hl 0 rfl) ?_
  refine va_ldcS hx hb hown hR d_Wb_init_5 ?_
  obtain ⟨cell, c1, c2, c3, c4⟩ := hO.1
  refine va_callr (va_runV (As := []) (rest := [.ref h0]) (b := a) ⟨hx, hb, hml, hown, hts⟩ (c_tca l (D := D) (g := g) s.heap.size sz0 a v) (cwV 0 hts (gd_v gw42 gw43 gw44 gw3 gw45) rfl rfl rfl (by decide +kernel) ⟨Nat.le_of_ble_eq_true rfl, Nat.le_of_ble_eq_true rfl⟩) ⟨ku_blind, ⟨cell, c1, c2, c3⟩, fun U hU hW => ⟨rfl, by rw [hU], va_K.moved hW.alike hK, strO.go (u := s) hW.alike (fun q _ _ => by rw [hU]) hO, hsz0⟩⟩ rfl rfl hl.1 rfl (lv_room (Nat.le_of_ble_eq_true rfl)) d_Wb_init_7 ⟨Nat.le_of_ble_eq_true rfl, Nat.le_of_ble_eq_true rfl⟩) hS (fun q _ h => hA q h) (fun q h => hA q h) (fun u7 q7 t H1 locs ht hvm _ hB hz1 hk1 hS => ?_)
  obtain ⟨hP1, hD1⟩ := hB
  rw [ht] at hP1
  have hb7 : s.heap.size ≤ q7 := hD1.2 0 _ rfl
  have hb0 : h0 < s.heap.size := (hP 0 _ rfl).lt
  have hP : va_P D vwCl [(h0, .inr (4, [.null, .null])), (q7, .inl (g.2 1, 202, .inl wlet))] H1 := (hP.kept (fun k x hx => hk1 x.1 ((hP k x hx).lt) (fun z => absurd ((hP k x hx).lt) (Nat.not_lt.mpr z)))).app hP1
  have hD : va_D A [(h0, .inr (4, [.null, .null])), (q7, .inl (g.2 1, 202, .inl wlet))] := by
    refine ⟨fun i j x y h1 h2 h3 => ?_, fun k x h1 => ?_⟩
    · match i, j, h1, h2 with
      | 0, 0, _, _ => rfl
      | 1, 1, _, _ => rfl
      | 0, 1, h1, h2 => cases h1; cases h2; exact absurd h3 (by show ¬ h0 = q7; omega)
      | 1, 0, h1, h2 => cases h1; cases h2; exact absurd h3 (by show ¬ q7 = h0; omega)
      | i + 2, _, h1, _ => cases h1
      | _, j + 2, _, h2 => cases h2
    · match k, h1 with
      | 0, h1 => cases h1; exact hD.2 0 _ rfl
      | 1, h1 => cases h1; exact hA q7 hb7
      | k + 2, h1 => cases h1
  clear hP1 hD1
  refine va_putF (D := D) (ci := 4) (v := .ref q7) (ty := .array .char) (C := R_Wb) (T := T_Wb) (N := 2) hx hb hts in_Wb ty_Wb ty_Wb_ok nm_Wb hown hK hP hD hS 0 rfl rfl 0 (by decide) (hts _ gw87) (fun _ h9 => h9) rfl hin rfl (by decide +kernel) rfl rfl (Nat.le_of_ble_eq_true rfl) d_Wb_init_10 (fun H locs hP hD hS => ?_)
  have hP : va_P D vwCl [(h0, .inr (4, [.ref q7, .null])), (q7, .inl (g.2 1, 202, .inl wlet))] H := hP
  have hD : va_D A [(h0, .inr (4, [.ref q7, .null])), (q7, .inl (g.2 1, 202, .inl wlet))] := hD
  refine lv_aload_n hx hb d_Wb_init_13 rfl (lv_at hl 0 rfl) ?_
  refine lv_bipush (v := (31 : Int32)) hx hb d_Wb_init_14 (by decide) ?_
  refine va_newa (atype := .int) (a0 := (31, .inl (fun _ => 0))) hx hb (hts _ gw96) rfl hK hP hD hS hA (fun _ => rfl) (by decide) (by decide) (by decide) (Nat.le_of_ble_eq_true rfl) (Nat.le_of_ble_eq_true rfl) d_Wb_init_16 (fun q16 cA H hK2 hP hD hS => ?_)
  have hcA : cA = g.2 0 := Option.some.inj ((hK2.2 4 (cA, .int) rfl).2.symm.trans (hK2.2 0 (g.2 0, .int) rfl).2)
  subst hcA
  clear hK2
  have hP : va_P D vwCl [(h0, .inr (4, [.ref q7, .null])), (q7, .inl (g.2 1, 202, .inl wlet)), (q16, .inl (g.2 0, 31, .inl (fun _ => 0)))] H := hP
  have hD : va_D A [(h0, .inr (4, [.ref q7, .null])), (q7, .inl (g.2 1, 202, .inl wlet)), (q16, .inl (g.2 0, 31, .inl (fun _ => 0)))] := hD
  refine va_putF (D := D) (ci := 4) (v := .ref q16) (ty := .array .int) (C := R_Wb) (T := T_Wb) (N := 2) hx hb hts in_Wb ty_Wb ty_Wb_ok nm_Wb hown hK hP hD hS 0 rfl rfl 1 (by decide) (hts _ gw88) (fun _ h9 => h9) rfl hin rfl (by decide +kernel) rfl rfl (Nat.le_of_ble_eq_true rfl) d_Wb_init_18 (fun H locs hP hD hS => ?_)
  have hP : va_P D vwCl [(h0, .inr (4, [.ref q7, .ref q16])), (q7, .inl (g.2 1, 202, .inl wlet)), (q16, .inl (g.2 0, 31, .inl (fun _ => 0)))] H := hP
  have hD : va_D A [(h0, .inr (4, [.ref q7, .ref q16])), (q7, .inl (g.2 1, 202, .inl wlet)), (q16, .inl (g.2 0, 31, .inl (fun _ => 0)))] := hD
  rw [← gK_1] at hP hD
  refine lv_iconst (v := (1 : Int32)) hx hb d_Wb_init_21 (by decide) ?_
  refine lv_istore_n hx hb d_Wb_init_22 rfl hl (by decide) rfl (fun ls hl => ?_)
  have hl : lv_has ls 3 [(1, .int 1), (0, .ref h0)] := hl
  refine lv_iconst (v := (0 : Int32)) hx hb d_Wb_init_23 (by decide) ?_
  refine lv_istore_n hx hb d_Wb_init_24 rfl hl (by decide) rfl (fun ls hl => ?_)
  have hl : lv_has ls 3 [(2, .int 0), (1, .int 1), (0, .ref h0)] := hl
  refine W.widen (k := 2) (n := 233) (Nat.le_of_ble_eq_true rfl) (Nat.le_of_ble_eq_true rfl) ?_
  have loop : ∀ n k : Nat, k + n = 202 → ∀ (H : Heap) (locs : List Loc) (ls : Array Slot), lv_has ls 3 [(2, .int (nI k)), (1, .int (nI (wkN k))), (0, .ref h0)] → va_P D vwCl [(h0, .inr (4, [.ref q7, .ref q16])), (q7, .inl (g.2 1, 202, .inl wlet)), (q16, .inl (g.2 0, 31, .inl (gK (wkN k))))] H → va_D A [(h0, .inr (4, [.ref q7, .ref q16])), (q7, .inl (g.2 1, 202, .inl wlet)), (q16, .inl (g.2 0, 31, .inl (gK (wkN k))))] → va_S A s.heap H locs →
      W p l e { frames := 12, cells := 2, slots := 233, locals := 500 } s m [Value.ref h0].toArray below meth c H locs 2 233 (MQ below (va_Qv (S := Nat → Nat) (fun _ => True) (fun u t => va_P D vwCl [(h0, .inr (4, [.ref (u 0), .ref (u 1)])), ((u 0), .inl (g.2 1, 202, .inl (wlet))), ((u 1), .inl (g.2 0, 31, .inl (wsta)))] t.heap ∧ va_D A [(h0, .inr (4, [.ref (u 0), .ref (u 1)])), ((u 0), .inl (g.2 1, 202, .inl (wlet))), ((u 1), .inl (g.2 0, 31, .inl (wsta)))]) A) [Value.ref h0].toArray s 2 233 A) (F0 m 25 ls []) := by
    intro n
    induction n with
    | zero =>
      intro k hk H locs ls hl hP hD hS
      have : k = 202 := by omega
      subst this
      rw [show gK (wkN 202) = wsta from (congrArg gK (show wkN 202 = 30 by decide +kernel)).trans gK_e] at hP hD
      refine lv_iload_n hx hb d_Wb_init_25 rfl (lv_at hl 0 rfl) ?_
      refine lv_aload_n hx hb d_Wb_init_26 rfl (lv_at hl 2 rfl) ?_
      refine va_get (D := D) (ci := 4) (v := .ref q7) (C := R_Wb) (T := T_Wb) (N := 2) hx hb hts in_Wb hown hK hP 0 rfl rfl 0 (by decide) (hts _ gw87) (fun _ h9 => h9) rfl d_Wb_init_27 ?_
      refine va_alen (v := (202 : Int32)) hx hb hK hP 1 1 rfl rfl rfl d_Wb_init_30 ?_
      refine lv_icmp_ge (tgt := 69) hx hb d_Wb_init_31 (by decide) (fun hc => ?_) (fun hc => absurd (by decide +kernel) hc)
      exact W.vret hx hb hr (fun t ht _ => ⟨⟨(fun k => match k with | 0 => q7 | _ => q16), rfl, trivial, by rw [ht]; exact hP, hD⟩, hS.F ht⟩) hS.2.2 d_Wb_init_69 hlocks
    | succ n ih =>
      intro k hk H locs ls hl hP hD hS
      have hk2 : k < 202 := by omega
      have vin : vp_in (nI k) 202 := vp_in_nI hk2 (by decide)
      have e1 : nI k + 1 = nI (k + 1) := nI_1 k
      refine lv_iload_n hx hb d_Wb_init_25 rfl (lv_at hl 0 rfl) ?_
      refine lv_aload_n hx hb d_Wb_init_26 rfl (lv_at hl 2 rfl) ?_
      refine va_get (D := D) (ci := 4) (v := .ref q7) (C := R_Wb) (T := T_Wb) (N := 2) hx hb hts in_Wb hown hK hP 0 rfl rfl 0 (by decide) (hts _ gw87) (fun _ h9 => h9) rfl d_Wb_init_27 ?_
      refine va_alen (v := nI 202) hx hb hK hP 1 1 rfl rfl rfl d_Wb_init_30 ?_
      refine lv_icmp_ge (tgt := 69) hx hb d_Wb_init_31 (by decide) (fun hc => absurd hc (nI_ge hk2 (by decide))) (fun hc => ?_)
      refine lv_aload_n hx hb d_Wb_init_34 rfl (lv_at hl 2 rfl) ?_
      refine va_get (D := D) (ci := 4) (v := .ref q7) (C := R_Wb) (T := T_Wb) (N := 2) hx hb hts in_Wb hown hK hP 0 rfl rfl 0 (by decide) (hts _ gw87) (fun _ h9 => h9) rfl d_Wb_init_35 ?_
      refine lv_iload_n hx hb d_Wb_init_38 rfl (lv_at hl 0 rfl) ?_
      refine va_cald hx hb hK hP 1 1 rfl rfl vin d_Wb_init_39 ?_
      rw [nI_clamp (show k < 2 ^ 31 by omega)]
      refine lv_bipush (v := (32 : Int32)) hx hb d_Wb_init_40 (by decide) ?_
      refine lv_icmp_ne (tgt := 63) hx hb d_Wb_init_42 (by decide) (fun hc => ?_) (fun hc => ?_)
      · have ew := wk_no k hk2 hc
        refine lv_iinc (k := 0) (v := nI (k + 1)) hx hb d_Wb_init_63 hl rfl (by rw [kw_inc (k := 1) _ (by decide), e1]) (by decide) rfl (fun ls hl => ?_)
        have hl : lv_has ls 3 [(2, .int (nI (k + 1))), (1, .int (nI (wkN k))), (0, .ref h0)] := hl
        refine lv_goto (tgt := 25) hx hb d_Wb_init_66 (by decide) ?_
        rw [← ew] at hl hP hD
        exact ih (k + 1) (by omega) _ _ _ hl hP hD hS
      · obtain ⟨w1, w2, w3⟩ := wk_sp k hk2 hc
        have hin2 : vp_in (nI (wkN k + 1)) 31 := vp_in_nI (by omega) (by decide)
        refine lv_iload_n hx hb d_Wb_init_45 rfl (lv_at hl 1 rfl) ?_
        refine lv_bipush (v := nI 29) hx hb d_Wb_init_46 (by decide) ?_
        refine lv_icmp_gt (tgt := 63) hx hb d_Wb_init_48 (by decide) (fun hc => absurd hc (nI_nlt w1 (by decide))) (fun hc => ?_)
        refine lv_iinc (k := 1) (v := nI (wkN k + 1)) hx hb d_Wb_init_51 hl rfl (by rw [kw_inc (k := 1) _ (by decide), nI_1]) (by decide) rfl (fun ls hl => ?_)
        have hl : lv_has ls 3 [(1, .int (nI (wkN k + 1))), (2, .int (nI k)), (0, .ref h0)] := hl
        refine lv_aload_n hx hb d_Wb_init_54 rfl (lv_at hl 2 rfl) ?_
        refine va_get (D := D) (ci := 4) (v := .ref q16) (C := R_Wb) (T := T_Wb) (N := 2) hx hb hts in_Wb hown hK hP 0 rfl rfl 1 (by decide) (hts _ gw88) (fun _ h9 => h9) rfl d_Wb_init_55 ?_
        refine lv_iload_n hx hb d_Wb_init_58 rfl (lv_at hl 0 rfl) ?_
        refine lv_iload_n hx hb d_Wb_init_59 rfl (lv_at hl 1 rfl) ?_
        refine lv_iconst (v := (1 : Int32)) hx hb d_Wb_init_60 (by decide) ?_
        refine lv_iadd hx hb d_Wb_init_61 ?_
        refine va_iast hx hb hK hP hD hS 2 0 rfl rfl hin2 d_Wb_init_62 (fun H locs hP hD hS => ?_)
        have hP : va_P D vwCl [(h0, .inr (4, [.ref q7, .ref q16])), (q7, .inl (g.2 1, 202, .inl wlet)), (q16, .inl (g.2 0, 31, .inl (upd (gK (wkN k)) (nI (wkN k + 1)).toNatClampNeg (nI k + 1))))] H := hP
        have hD : va_D A [(h0, .inr (4, [.ref q7, .ref q16])), (q7, .inl (g.2 1, 202, .inl wlet)), (q16, .inl (g.2 0, 31, .inl (upd (gK (wkN k)) (nI (wkN k + 1)).toNatClampNeg (nI k + 1))))] := hD
        rw [gK_s w1 w3, ← w2] at hP hD
        rw [← w2] at hl
        refine lv_iinc (k := 1) (v := nI (k + 1)) hx hb d_Wb_init_63 hl rfl (by rw [kw_inc (k := 1) _ (by decide), e1]) (by decide) rfl (fun ls hl => ?_)
        have hl : lv_has ls 3 [(2, .int (nI (k + 1))), (1, .int (nI (wkN (k + 1)))), (0, .ref h0)] := hl
        refine lv_goto (tgt := 25) hx hb d_Wb_init_66 (by decide) ?_
        exact ih (k + 1) (by omega) _ _ _ hl hP hD hS
  exact loop 202 0 (by omega) _ _ _ hl hP hD hS
