theorem gw96 : (Jvm.Cond.arrayClass Jvm.ClassFile.FieldType.int) ∈ GW := gw_t1 (List.mem_of_getElem? (i := 96) rfl) rfl
theorem gw946 : (Jvm.Cond.methodLink "java/util/Arrays" (304 : Nat) ({ cls := "java/lang/Math", name := "min", desc := "(II)I" } : Jvm.MethodName)) ∈ GW := gw_t4 (List.mem_of_getElem? (i := 226) rfl) rfl
theorem gw947 : (Jvm.Cond.static ({ cls := "java/lang/Math", name := "min", desc := "(II)I" } : Jvm.MethodName)) ∈ GW := gw_t4 (List.mem_of_getElem? (i := 227) rfl) rfl
theorem gw26 : (Jvm.Cond.initialized "java/lang/Math") ∈ GW := gw_t1 (List.mem_of_getElem? (i := 26) rfl) rfl
theorem gw948 : (Jvm.Cond.code ({ cls := "java/lang/Math", name := "min", desc := "(II)I" } : Jvm.MethodName) prog_18_method_69_code (2 : Nat) (Option.some Jvm.ClassFile.FieldType.int)) ∈ GW := gw_t4 (List.mem_of_getElem? (i := 228) rfl) rfl
theorem gw949 : (Jvm.Cond.methodLink "java/util/Arrays" (150 : Nat) ({ cls := "java/lang/System", name := "arraycopy", desc := "(Ljava/lang/Object;ILjava/lang/Object;II)V" } : Jvm.MethodName)) ∈ GW := gw_t4 (List.mem_of_getElem? (i := 229) rfl) rfl
theorem gw936 : (Jvm.Cond.methodLink "SchemaDesk$Report" (121 : Nat) ({ cls := "java/util/Arrays", name := "copyOf", desc := "([II)[I" } : Jvm.MethodName)) ∈ GW := gw_t4 (List.mem_of_getElem? (i := 216) rfl) rfl
theorem gw937 : (Jvm.Cond.static ({ cls := "java/util/Arrays", name := "copyOf", desc := "([II)[I" } : Jvm.MethodName)) ∈ GW := gw_t4 (List.mem_of_getElem? (i := 217) rfl) rfl
theorem gw938 : (Jvm.Cond.code ({ cls := "java/util/Arrays", name := "copyOf", desc := "([II)[I" } : Jvm.MethodName) prog_26_method_123_code (3 : Nat) (Option.some (Jvm.ClassFile.FieldType.array Jvm.ClassFile.FieldType.int))) ∈ GW := gw_t4 (List.mem_of_getElem? (i := 218) rfl) rfl
/-! Report.rows: a longer row is made, the older one left. -/
abbrev k_Ar_copyOf : ByteArray := prog_26_method_123_code
abbrev y_Ar_copyOf : MethodName := ⟨"java/util/Arrays", "copyOf", "([II)[I"⟩
theorem d_Ar_copyOf_0 : decode k_Ar_copyOf 0 = .ok (.iload_n 1, 1) := by decide +kernel
theorem d_Ar_copyOf_1 : decode k_Ar_copyOf 1 = .ok (.aload_n 0, 1) := by decide +kernel
theorem d_Ar_copyOf_2 : decode k_Ar_copyOf 2 = .ok (.arraylength, 1) := by decide +kernel
theorem d_Ar_copyOf_3 : decode k_Ar_copyOf 3 = .ok (.if_icmp .ne 11, 3) := by decide +kernel
theorem d_Ar_copyOf_14 : decode k_Ar_copyOf 14 = .ok (.iload_n 1, 1) := by decide +kernel
theorem d_Ar_copyOf_15 : decode k_Ar_copyOf 15 = .ok (.newarray .int, 2) := by decide +kernel
theorem d_Ar_copyOf_17 : decode k_Ar_copyOf 17 = .ok (.astore_n 2, 1) := by decide +kernel
theorem d_Ar_copyOf_18 : decode k_Ar_copyOf 18 = .ok (.aload_n 0, 1) := by decide +kernel
theorem d_Ar_copyOf_19 : decode k_Ar_copyOf 19 = .ok (.iconst 0, 1) := by decide +kernel
theorem d_Ar_copyOf_20 : decode k_Ar_copyOf 20 = .ok (.aload_n 2, 1) := by decide +kernel
theorem d_Ar_copyOf_21 : decode k_Ar_copyOf 21 = .ok (.iconst 0, 1) := by decide +kernel
theorem d_Ar_copyOf_22 : decode k_Ar_copyOf 22 = .ok (.aload_n 0, 1) := by decide +kernel
theorem d_Ar_copyOf_23 : decode k_Ar_copyOf 23 = .ok (.arraylength, 1) := by decide +kernel
theorem d_Ar_copyOf_24 : decode k_Ar_copyOf 24 = .ok (.iload_n 1, 1) := by decide +kernel
theorem d_Ar_copyOf_25 : decode k_Ar_copyOf 25 = .ok (.invokestatic 304, 3) := by decide +kernel
theorem d_Ar_copyOf_28 : decode k_Ar_copyOf 28 = .ok (.invokestatic 150, 3) := by decide +kernel
theorem d_Ar_copyOf_31 : decode k_Ar_copyOf 31 = .ok (.aload_n 2, 1) := by decide +kernel
theorem d_Ar_copyOf_32 : decode k_Ar_copyOf 32 = .ok (.areturn, 1) := by decide +kernel
/-- how many are copied -/
def cmin (σ : Sg) (n : Int32) : Int32 := if n < nI σ.2.2.2 then n else nI σ.2.2.2
theorem cmin_ok {σ : Sg} {n : Int32} (h1 : ¬ n < 0) (h2 : σ.2.2.2 < 2 ^ 31) : ¬ cmin σ n < 0 ∧ (cmin σ n).toNatClampNeg ≤ σ.2.2.2 ∧ (cmin σ n).toNatClampNeg ≤ n.toNatClampNeg := by
  obtain ⟨j, hj, rfl⟩ := nI_of h1
  unfold cmin
  by_cases h : nI j < nI σ.2.2.2
  · rw [if_pos h]
    have h3 := (nI_ltI hj h2).mp h
    rw [nI_clamp hj]
    exact ⟨nI_pos hj, by omega, Nat.le_refl _⟩
  · rw [if_neg h]
    have h3 : ¬ j < σ.2.2.2 := fun q => h ((nI_ltI hj h2).mpr q)
    rw [nI_clamp hj, nI_clamp h2]
    exact ⟨nI_pos h2, Nat.le_refl _, by omega⟩
def sgrow (σ : Sg) (q n : Nat) (k : Nat) : Sg := (fun b => if b = 52 then va_cpy (σ.1 52) (fun _ => 0) 0 0 k else σ.1 b, σ.2.1, q, n)
set_option maxRecDepth 100000 in
set_option maxHeartbeats 4000000 in
theorem c_Ar_copyOf (l : Launch) {D : va_G} {g : Gm} {sz : Nat} (n : Int32) {σ : Sg} (hn1 : ¬ n < 0) (hn2 : n.toNatClampNeg ≤ 100000000) (hlen : σ.2.2.2 < 2 ^ 31) (hne : ¬ n = nI σ.2.2.2) :
    Met l y_Ar_copyOf (.code y_Ar_copyOf k_Ar_copyOf 3 (some (.array .int)) :: GW) { frames := 1, cells := 1, slots := n.toNatClampNeg, locals := 60 } (PcW D vwCl (WS g) g (Zk g) σ sz [.ref σ.2.2.1, .int n])
      (va_Qr (S := Unit) (fun _ => True) (fun _ q t => va_P D vwCl (WS g σ ++ [(q, .inl (g.2 0, n.toNatClampNeg, .inl (va_cpy (σ.1 52) (fun _ => 0) 0 0 (cmin σ n).toNatClampNeg)))]) t.heap ∧ va_D (va_A (WS g σ) sz) (WS g σ ++ [(q, .inl (g.2 0, n.toNatClampNeg, .inl (va_cpy (σ.1 52) (fun _ => 0) 0 0 (cmin σ n).toNatClampNeg)))])) (va_A (WS g σ) sz)) 1 n.toNatClampNeg (va_A (WS g σ) sz) := by
  refine kw_entry (own := R_Ar) (by decide) rfl rfl (Nat.le_of_ble_eq_true rfl) ?_
  intro p e s m below meth c ls hsz C hin hl hst
  obtain ⟨hx, hb, hr, hml, hown, hts, hlocks, hK, hZ, hA⟩ := C
  obtain ⟨hP, hD, hS⟩ := hst
  obtain ⟨c1, c2, c3⟩ := cmin_ok hn1 hlen
  have hl : lv_has ls 3 [(0, .ref σ.2.2.1), (1, .int n)] := hl
  refine lv_iload_n hx hb d_Ar_copyOf_0 rfl (lv_at hl 1 rfl) ?_
  refine lv_aload_n hx hb d_Ar_copyOf_1 rfl (lv_at hl 0 rfl) ?_
  refine va_alen (v := nI σ.2.2.2) hx hb hK hP 52 0 (WS_a52 g σ) rfl rfl d_Ar_copyOf_2 ?_
  refine lv_icmp_ne (tgt := 14) hx hb d_Ar_copyOf_3 (by decide) (fun _ => ?_) (fun h9 => absurd h9 hne)
  refine lv_iload_n hx hb d_Ar_copyOf_14 rfl (lv_at hl 1 rfl) ?_
  refine va_newa (atype := .int) (a0 := (n.toNatClampNeg, .inl (fun _ => 0))) hx hb (hts _ gw96) rfl hK hP hD hS hA (fun _ => rfl) hn1 rfl (by show n.toNatClampNeg * 4 ≤ _; omega) (Nat.le_refl _) (by show 0 + n.toNatClampNeg ≤ n.toNatClampNeg; omega) d_Ar_copyOf_15 (fun q cA H hK2 hP hD hS => ?_)
  have hcA : cA = g.2 0 := by
    have h1 := (hK2.2 0 (g.2 0, .int) rfl).2
    have h2 := (hK2.2 4 (cA, .int) rfl).2
    exact Option.some.inj (h2.symm.trans h1)
  subst hcA
  refine lv_astore_n hx hb d_Ar_copyOf_17 rfl hl (by decide) rfl (fun ls hl => ?_)
  have hl : lv_has ls 3 [(2, .ref q), (0, .ref σ.2.2.1), (1, .int n)] := hl
  refine lv_aload_n hx hb d_Ar_copyOf_18 rfl (lv_at hl 1 rfl) ?_
  refine lv_iconst (v := (0 : Int32)) hx hb d_Ar_copyOf_19 (by decide) ?_
  refine lv_aload_n hx hb d_Ar_copyOf_20 rfl (lv_at hl 0 rfl) ?_
  refine lv_iconst (v := (0 : Int32)) hx hb d_Ar_copyOf_21 (by decide) ?_
  refine lv_aload_n hx hb d_Ar_copyOf_22 rfl (lv_at hl 1 rfl) ?_
  refine va_alen (v := nI σ.2.2.2) hx hb hK2 hP 52 0 rfl rfl rfl d_Ar_copyOf_23 ?_
  refine lv_iload_n hx hb d_Ar_copyOf_24 rfl (lv_at hl 2 rfl) ?_
  refine va_mmin hx hb (hml.trans hl.1.symm) hown (hts _ gw946) (hts _ gw947) (hts _ gw26) (hts _ gw948) (Nat.le_of_ble_eq_true rfl) (Nat.le_of_ble_eq_true rfl) (Nat.le_refl _) (by show 0 + n.toNatClampNeg ≤ n.toNatClampNeg; omega) d_Ar_copyOf_25 ?_
  refine va_copyi (ty := .int) hx hb (hml.trans hl.1.symm) hown (hts _ gw949) (hts _ gw451) (hts _ gw450) (hts _ gw16) hK2 hP hD hS 52 92 0 4 rfl rfl rfl rfl rfl (by decide) (by decide) c1 (by show 0 + (cmin σ n).toNatClampNeg ≤ σ.2.2.2; omega) (by show 0 + (cmin σ n).toNatClampNeg ≤ n.toNatClampNeg; omega) (fun i _ => rfl) (Nat.le_of_ble_eq_true rfl) (Nat.le_of_ble_eq_true rfl) d_Ar_copyOf_28 (fun H locs hP hD hS => ?_)
  refine lv_aload_n hx hb d_Ar_copyOf_31 rfl (lv_at hl 0 rfl) ?_
  refine W.widen (k := 1) (n := n.toNatClampNeg) (Nat.le_refl _) (by show 0 + n.toNatClampNeg ≤ n.toNatClampNeg; omega) ?_
  exact W.aret hx hb hr (Or.inr ⟨_, rfl⟩) (Or.inr ⟨q, rfl⟩) (fun t ht _ => ⟨⟨(), q, rfl, trivial, by rw [ht]; exact hP, hD⟩, hS.F ht⟩) hS.2.2 d_Ar_copyOf_32 hlocks
section KG
variable {p : Program} {l : Launch} {e : Env} {R : Room} {s : State} {m : MethodId} {args : Array Value} {below : List Frame} {meth : Method} {c : Code} {H : Heap} {locs : List Loc} {cells slots : Nat} {Q : State → Prop}
  {D : va_G} {g : Gm} {A : Nat → Prop} {σ : Sg} {cc : ByteArray} {pc nL : Nat} {ls : Array Slot}
set_option maxRecDepth 100000 in
set_option maxHeartbeats 4000000 in
/-- Arrays.copyOf and the putting of its answer into Report.rows -/
theorem kg_grow (hx : p.tables.exec = Jvm.exec) (hb : c.code = cc) (hml : c.maxLocals = nL) (hls : ls.size = nL) (hown : s.vm.findClass R_Rp = some m.cls) (hts : ∀ w ∈ GW, w.before args s = true) (hK : va_K D vwCl (TYS g) s) (hZ : Zk g A s s.heap) (hA : ∀ q : Nat, s.heap.size ≤ q → A q) (hst : Wst D vwCl (WS g) A s σ H locs)
    {n : Int32} (hn1 : ¬ n < 0) (hn2 : n.toNatClampNeg ≤ 100000000) (hlen : σ.2.2.2 < 2 ^ 31) (hne : ¬ n = nI σ.2.2.2) (hf : cells + 1 ≤ R.cells ∧ slots + n.toNatClampNeg ≤ R.slots) (hR : 2 ≤ R.frames ∧ 82 ≤ R.locals)
    (d0 : decode cc pc = .ok (.invokestatic 121, 3)) (d3 : decode cc (pc + 3) = .ok (.putfield 9, 3))
    (kk : ∀ (q : Nat) (σ1 : Sg) (H1 : Heap) (locs1 : List Loc), σ1 = sgrow σ q n.toNatClampNeg (cmin σ n).toNatClampNeg → Wst D vwCl (WS g) A s σ1 H1 locs1 → W p l e R s m args below meth c H1 locs1 (cells + 1) (slots + n.toNatClampNeg) Q (F0 m (pc + 3 + 3) ls [])) :
    W p l e R s m args below meth c H locs cells slots Q (F0 m pc ls [.int n, .ref σ.2.2.1, .ref (g.1 40)]) := by
  have hsub := kw_sub hst hA
  refine va_callr (va_runS (As := [.ref σ.2.2.1, .int n]) (rest := [.ref (g.1 40)]) ⟨hx, hb, hml, hown, hts⟩ (c_Ar_copyOf l n hn1 hn2 hlen hne) (va_cwS 2 hts (gd_x gw936 gw937 gw25 gw938) rfl rfl rfl (by decide +kernel) ⟨by show 1 + 1 ≤ R.frames; omega, by show 8 + (3 + 11) + 60 ≤ R.locals; omega⟩) ⟨kw_blind (Zk_ok g), kw_pre (Zk_ok g) hK hZ hA hst⟩ rfl rfl hls rfl (lv_room (Nat.le_of_ble_eq_true rfl)) d0 hf) hst.2.2 (fun q _ h => hsub q h) hsub (fun u q t H1 locs1 ht hvm _ hB hz1 hk1 hS => ?_)
  obtain ⟨hP1, hD1⟩ := hB
  rw [ht] at hP1
  have hD2 : va_D A (WS g σ ++ [(q, .inl (g.2 0, n.toNatClampNeg, .inl (va_cpy (σ.1 52) (fun _ => 0) 0 0 (cmin σ n).toNatClampNeg)))]) := hD1.weaken (fun _ z _ h => hsub z.1 h)
  refine va_put (D := D) (ci := 7) (v := .ref q) (ty := .array .int) (C := R_Rp) (T := T_Rp) (N := 8) hx hb hts in_Rp ty_Rp ty_Rp_ok nm_Rp hown hK hP1 hD2 hS 40 rfl rfl 1 (by decide) (hts _ gw335) (fun _ h9 => h9) rfl (by decide +kernel) rfl rfl (Nat.le_of_ble_eq_true rfl) d3 (fun H2 locs2 hP hD hS => ?_)
  have hP3 := hP.sub (ws' := WS g (sgrow σ q n.toNatClampNeg (cmin σ n).toNatClampNeg)) [0, 1, 2, 3, 4, 5, 6, 7, 8, 9, 10, 11, 12, 13, 14, 15, 16, 17, 18, 19, 20, 21, 22, 23, 24, 25, 26, 27, 28, 29, 30, 31, 32, 33, 34, 35, 36, 37, 38, 39, 40, 41, 42, 43, 44, 45, 46, 47, 48, 49, 50, 51, 92, 53, 54, 55, 56, 57, 58, 59, 60, 61, 62, 63, 64, 65, 66, 67, 68, 69, 70, 71, 72, 73, 74, 75, 76, 77, 78, 79, 80, 81, 82, 83, 84, 85, 86, 87, 88, 89, 90, 91] rfl
  have hD3 := hD.sub (ws' := WS g (sgrow σ q n.toNatClampNeg (cmin σ n).toNatClampNeg)) [0, 1, 2, 3, 4, 5, 6, 7, 8, 9, 10, 11, 12, 13, 14, 15, 16, 17, 18, 19, 20, 21, 22, 23, 24, 25, 26, 27, 28, 29, 30, 31, 32, 33, 34, 35, 36, 37, 38, 39, 40, 41, 42, 43, 44, 45, 46, 47, 48, 49, 50, 51, 92, 53, 54, 55, 56, 57, 58, 59, 60, 61, 62, 63, 64, 65, 66, 67, 68, 69, 70, 71, 72, 73, 74, 75, 76, 77, 78, 79, 80, 81, 82, 83, 84, 85, 86, 87, 88, 89, 90, 91] (by decide) rfl
  exact kk q _ H2 locs2 rfl ⟨hP3, hD3, hS⟩
theorem kh_callv {ω : Sg → va_W} {cl : List vw_C} {rest : List Value} {mc ms : Nat} {post : Sg → Prop} {st0 : List Value} {av : Array Value} (hr : va_Run p l e R s m args below meth c H locs cells slots mc ms (F0 m pc ls st0) rest (QvW D cl ω post (va_A (ω σ) H.size) av) (va_A (ω σ) H.size)) (hst : Wst D cl ω A s σ H locs) (hA : ∀ q : Nat, s.heap.size ≤ q → A q)
    (kk : ∀ (σ1 : Sg) (H1 : Heap) (locs1 : List Loc), post σ1 → Wst D cl ω A s σ1 H1 locs1 → W p l e R s m args below meth c H1 locs1 (cells + mc) (slots + ms) Q (F0 m (pc + 3) ls rest)) : W p l e R s m args below meth c H locs cells slots Q (F0 m pc ls st0) :=
  va_callv hr hst.2.2 (fun q _ h => kw_sub hst hA q h) (kw_sub hst hA) (fun u t H1 locs1 ht _ hp hB _ _ hS => kk u H1 locs1 hp (kw_back hst hA ht hB hS))
end KG
/-! SchemaDesk$Report.add (III)V -/
abbrev k_Rp_add : ByteArray := prog_6_method_12_code
abbrev y_Rp_add : MethodName := ⟨"SchemaDesk$Report", "add", "(III)V"⟩
theorem d_Rp_add_0 : decode k_Rp_add 0 = .ok (.aload_n 0, 1) := by decide +kernel
theorem d_Rp_add_1 : decode k_Rp_add 1 = .ok (.getfield 112, 3) := by decide +kernel
theorem d_Rp_add_4 : decode k_Rp_add 4 = .ok (.aload_n 0, 1) := by decide +kernel
theorem d_Rp_add_5 : decode k_Rp_add 5 = .ok (.getfield 9, 3) := by decide +kernel
theorem d_Rp_add_8 : decode k_Rp_add 8 = .ok (.arraylength, 1) := by decide +kernel
theorem d_Rp_add_9 : decode k_Rp_add 9 = .ok (.if_icmp .ne 20, 3) := by decide +kernel
theorem d_Rp_add_12 : decode k_Rp_add 12 = .ok (.aload_n 0, 1) := by decide +kernel
theorem d_Rp_add_13 : decode k_Rp_add 13 = .ok (.aload_n 0, 1) := by decide +kernel
theorem d_Rp_add_14 : decode k_Rp_add 14 = .ok (.getfield 9, 3) := by decide +kernel
theorem d_Rp_add_17 : decode k_Rp_add 17 = .ok (.iconst 2, 1) := by decide +kernel
theorem d_Rp_add_18 : decode k_Rp_add 18 = .ok (.aload_n 0, 1) := by decide +kernel
theorem d_Rp_add_19 : decode k_Rp_add 19 = .ok (.getfield 112, 3) := by decide +kernel
theorem d_Rp_add_22 : decode k_Rp_add 22 = .ok (.imul, 1) := by decide +kernel
theorem d_Rp_add_23 : decode k_Rp_add 23 = .ok (.invokestatic 121, 3) := by decide +kernel
theorem d_Rp_add_26 : decode k_Rp_add 26 = .ok (.putfield 9, 3) := by decide +kernel
theorem d_Rp_add_29 : decode k_Rp_add 29 = .ok (.aload_n 0, 1) := by decide +kernel
theorem d_Rp_add_30 : decode k_Rp_add 30 = .ok (.getfield 9, 3) := by decide +kernel
theorem d_Rp_add_33 : decode k_Rp_add 33 = .ok (.aload_n 0, 1) := by decide +kernel
theorem d_Rp_add_34 : decode k_Rp_add 34 = .ok (.getfield 112, 3) := by decide +kernel
theorem d_Rp_add_37 : decode k_Rp_add 37 = .ok (.iload_n 2, 1) := by decide +kernel
theorem d_Rp_add_38 : decode k_Rp_add 38 = .ok (.bipush 16, 2) := by decide +kernel
theorem d_Rp_add_40 : decode k_Rp_add 40 = .ok (.ishl, 1) := by decide +kernel
theorem d_Rp_add_41 : decode k_Rp_add 41 = .ok (.iload_n 3, 1) := by decide +kernel
theorem d_Rp_add_42 : decode k_Rp_add 42 = .ok (.bipush 8, 2) := by decide +kernel
theorem d_Rp_add_44 : decode k_Rp_add 44 = .ok (.ishl, 1) := by decide +kernel
theorem d_Rp_add_45 : decode k_Rp_add 45 = .ok (.ior, 1) := by decide +kernel
theorem d_Rp_add_46 : decode k_Rp_add 46 = .ok (.iload_n 1, 1) := by decide +kernel
theorem d_Rp_add_47 : decode k_Rp_add 47 = .ok (.ior, 1) := by decide +kernel
theorem d_Rp_add_48 : decode k_Rp_add 48 = .ok (.iastore, 1) := by decide +kernel
theorem d_Rp_add_49 : decode k_Rp_add 49 = .ok (.aload_n 0, 1) := by decide +kernel
theorem d_Rp_add_50 : decode k_Rp_add 50 = .ok (.dup, 1) := by decide +kernel
theorem d_Rp_add_51 : decode k_Rp_add 51 = .ok (.getfield 112, 3) := by decide +kernel
theorem d_Rp_add_54 : decode k_Rp_add 54 = .ok (.iconst 1, 1) := by decide +kernel
theorem d_Rp_add_55 : decode k_Rp_add 55 = .ok (.iadd, 1) := by decide +kernel
theorem d_Rp_add_56 : decode k_Rp_add 56 = .ok (.putfield 112, 3) := by decide +kernel
theorem d_Rp_add_59 : decode k_Rp_add 59 = .ok (.return_, 1) := by decide +kernel
theorem gw333 : (Jvm.Cond.fieldLink "SchemaDesk$Report" (112 : Nat) "SchemaDesk$Report" "count" "I") ∈ GW := gw_t2 (List.mem_of_getElem? (i := 93) rfl) rfl
def wb_Rp_add_0 (mc ms : Nat) (F : Nat → Int32 → Int32 → Int32 → Nat → Nat → Sg → Prop) (post : Sg → Prop) (x1 : Int32) (x2 : Int32) (x3 : Int32) (σ : Sg) : Prop := ((¬ (σ.1 40 0) = (nI σ.2.2.2) → F 1 x1 x2 x3 0 0 σ) ∧ ((σ.1 40 0) = (nI σ.2.2.2) → (¬ ((2 : Int32) * (σ.1 40 0)) < 0 ∧ (((2 : Int32) * (σ.1 40 0)) : Int32).toNatClampNeg ≤ 100000000 ∧ σ.2.2.2 < 2 ^ 31 ∧ ¬ ((2 : Int32) * (σ.1 40 0)) = nI σ.2.2.2 ∧ 0 + 1 ≤ mc ∧ 0 + (((2 : Int32) * (σ.1 40 0)) : Int32).toNatClampNeg ≤ ms ∧ (∀ (q1 : Nat) σ1, σ1 = sgrow σ q1 (((2 : Int32) * (σ.1 40 0)) : Int32).toNatClampNeg (cmin σ ((2 : Int32) * (σ.1 40 0))).toNatClampNeg → F 1 x1 x2 x3 (0 + 1) (0 + (((2 : Int32) * (σ.1 40 0)) : Int32).toNatClampNeg) σ1))))
def wb_Rp_add_1 (mc ms : Nat) (F : Nat → Int32 → Int32 → Int32 → Nat → Nat → Sg → Prop) (post : Sg → Prop) (x1 : Int32) (x2 : Int32) (x3 : Int32) (kc : Nat) (ks : Nat) (σ : Sg) : Prop := (vp_in (σ.1 40 0) σ.2.2.2 ∧ (∀ σ1, σ1 = si σ 52 ((σ.1 40 0) : Int32).toNatClampNeg (((x2 <<< ((16 : Int32) &&& 31)) ||| (x3 <<< ((8 : Int32) &&& 31))) ||| x1) → (∀ σ2, σ2 = si σ1 40 0 ((σ1.1 40 0) + (1 : Int32)) → post σ2)))
def wp_Rp_add (mc ms : Nat) (post : Sg → Prop) : Nat → Nat → Int32 → Int32 → Int32 → Nat → Nat → Sg → Prop
  | 0, _, _, _, _, _, _, _ => False
  | n + 1, k, x1, x2, x3, kc, ks, σ => match k with
    | 0 => wb_Rp_add_0 mc ms (wp_Rp_add mc ms post n) post x1 x2 x3 σ
    | 1 => wb_Rp_add_1 mc ms (wp_Rp_add mc ms post n) post x1 x2 x3 kc ks σ
    | _ => False
def wq_Rp_add (mc ms : Nat) (x1 : Int32) (x2 : Int32) (x3 : Int32) (σ : Sg) (post : Sg → Prop) : Prop := ∃ n, wp_Rp_add mc ms post n 0 x1 x2 x3 0 0 σ
def J_Rp_add_1 (p : Program) (l : Launch) (e : Env) (s : State) (m : MethodId) (args : Array Value) (below : List Frame) (meth : Method) (c : Code) (D : va_G) (g : Gm) (A : Nat → Prop) (mc ms : Nat) (post : Sg → Prop) (F : Nat → Int32 → Int32 → Int32 → Nat → Nat → Sg → Prop) : Prop := ∀ (x1 : Int32) (x2 : Int32) (x3 : Int32) (kc ks : Nat) (σ : Sg) (H : Heap) (locs : List Loc) (ls : Array Slot), lv_has ls 4 [(0, .ref (g.1 40)), (1, .int x1), (2, .int x2), (3, .int x3)] → Wst D vwCl (WS g) A s σ H locs → kc ≤ mc ∧ ks ≤ ms → F 1 x1 x2 x3 kc ks σ → W p l e { frames := 2, cells := mc, slots := ms, locals := 82 } s m args below meth c H locs kc ks (MQ below (QvW D vwCl (WS g) post A) args s mc ms A) (F0 m 29 ls [])
set_option maxRecDepth 100000 in
set_option maxHeartbeats 4000000 in
theorem b_Rp_add_0 {p : Program} {l : Launch} {e : Env} {s : State} {m : MethodId} {args : Array Value} {below : List Frame} {meth : Method} {c : Code} {D : va_G} {g : Gm} {A : Nat → Prop} {post : Sg → Prop} {F : Nat → Int32 → Int32 → Int32 → Nat → Nat → Sg → Prop} (C : kC p s m args meth c k_Rp_add 4 (none) GW R_Rp D vwCl g (Zk g) A) (mc ms : Nat) (j1 : J_Rp_add_1 p l e s m args below meth c D g A mc ms post F) (x1 : Int32) (x2 : Int32) (x3 : Int32) (σ : Sg) (H : Heap) (locs : List Loc) (ls : Array Slot) (hl : lv_has ls 4 [(0, .ref (g.1 40)), (1, .int x1), (2, .int x2), (3, .int x3)]) (hst : Wst D vwCl (WS g) A s σ H locs) (h : wb_Rp_add_0 mc ms F post x1 x2 x3 σ) : W p l e { frames := 2, cells := mc, slots := ms, locals := 82 } s m args below meth c H locs 0 0 (MQ below (QvW D vwCl (WS g) post A) args s mc ms A) (F0 m 0 ls []) := by
  obtain ⟨hx, hb, hr, hml, hown, hts, hlocks, hK, hZ, hA⟩ := C
  have hk : 0 ≤ mc ∧ 0 ≤ ms := ⟨Nat.zero_le _, Nat.zero_le _⟩
  unfold wb_Rp_add_0 at h
  refine lv_aload_n hx hb d_Rp_add_0 rfl (lv_at hl 0 rfl) ?_
  refine va_get (D := D) (ci := 7) (C := R_Rp) (T := T_Rp) (N := 8) hx hb hts in_Rp hown hK hst.1 40 (WS_o40 g σ) rfl 0 (by decide) (hts _ gw333) (fun _ h9 => h9) rfl d_Rp_add_1 ?_
  refine lv_aload_n hx hb d_Rp_add_4 rfl (lv_at hl 0 rfl) ?_
  refine va_get (D := D) (ci := 7) (C := R_Rp) (T := T_Rp) (N := 8) hx hb hts in_Rp hown hK hst.1 40 (WS_o40 g σ) rfl 1 (by decide) (hts _ gw335) (fun _ h9 => h9) rfl d_Rp_add_5 ?_
  refine va_alen (v := (nI σ.2.2.2)) hx hb hK hst.1 52 0 (WS_a52 g σ) rfl rfl d_Rp_add_8 ?_
  refine lv_icmp_ne (tgt := 29) hx hb d_Rp_add_9 (by decide) (fun hc => ?_) (fun hc => ?_)
  · replace h := h.1 hc
    exact j1 x1 x2 x3 0 0 σ _ _ _ (lv_sub hl [0, 1, 2, 3] rfl) hst hk h
  · replace h := h.2 hc
    refine lv_aload_n hx hb d_Rp_add_12 rfl (lv_at hl 0 rfl) ?_
    refine lv_aload_n hx hb d_Rp_add_13 rfl (lv_at hl 0 rfl) ?_
    refine va_get (D := D) (ci := 7) (C := R_Rp) (T := T_Rp) (N := 8) hx hb hts in_Rp hown hK hst.1 40 (WS_o40 g σ) rfl 1 (by decide) (hts _ gw335) (fun _ h9 => h9) rfl d_Rp_add_14 ?_
    refine lv_iconst (v := (2 : Int32)) hx hb d_Rp_add_17 (by decide) ?_
    refine lv_aload_n hx hb d_Rp_add_18 rfl (lv_at hl 0 rfl) ?_
    refine va_get (D := D) (ci := 7) (C := R_Rp) (T := T_Rp) (N := 8) hx hb hts in_Rp hown hK hst.1 40 (WS_o40 g σ) rfl 0 (by decide) (hts _ gw333) (fun _ h9 => h9) rfl d_Rp_add_19 ?_
    refine lv_imul hx hb d_Rp_add_22 ?_
    obtain ⟨hn1, hn2, hn3, hn4, hk1, hk2, h⟩ := h
    refine kg_grow hx hb hml hl.1 hown hts hK hZ hA hst hn1 hn2 hn3 hn4 ⟨hk1, hk2⟩ ⟨Nat.le_of_ble_eq_true rfl, Nat.le_of_ble_eq_true rfl⟩ d_Rp_add_23 d_Rp_add_26 (fun q1 σ1 H locs e1 hst => ?_)
    have hk := And.intro hk1 hk2
    replace h := h q1 σ1 e1
    exact j1 x1 x2 x3 (0 + 1) (0 + (((2 : Int32) * (σ.1 40 0)) : Int32).toNatClampNeg) σ1 _ _ _ (lv_sub hl [0, 1, 2, 3] rfl) hst hk h
set_option maxRecDepth 100000 in
set_option maxHeartbeats 4000000 in
theorem b_Rp_add_1 {p : Program} {l : Launch} {e : Env} {s : State} {m : MethodId} {args : Array Value} {below : List Frame} {meth : Method} {c : Code} {D : va_G} {g : Gm} {A : Nat → Prop} {post : Sg → Prop} {F : Nat → Int32 → Int32 → Int32 → Nat → Nat → Sg → Prop} (C : kC p s m args meth c k_Rp_add 4 (none) GW R_Rp D vwCl g (Zk g) A) (mc ms : Nat) (x1 : Int32) (x2 : Int32) (x3 : Int32) (kc ks : Nat) (σ : Sg) (H : Heap) (locs : List Loc) (ls : Array Slot) (hl : lv_has ls 4 [(0, .ref (g.1 40)), (1, .int x1), (2, .int x2), (3, .int x3)]) (hst : Wst D vwCl (WS g) A s σ H locs) (hk : kc ≤ mc ∧ ks ≤ ms) (h : wb_Rp_add_1 mc ms F post x1 x2 x3 kc ks σ) : W p l e { frames := 2, cells := mc, slots := ms, locals := 82 } s m args below meth c H locs kc ks (MQ below (QvW D vwCl (WS g) post A) args s mc ms A) (F0 m 29 ls []) := by
  obtain ⟨hx, hb, hr, hml, hown, hts, hlocks, hK, hZ, hA⟩ := C
  unfold wb_Rp_add_1 at h
  refine lv_aload_n hx hb d_Rp_add_29 rfl (lv_at hl 0 rfl) ?_
  refine va_get (D := D) (ci := 7) (C := R_Rp) (T := T_Rp) (N := 8) hx hb hts in_Rp hown hK hst.1 40 (WS_o40 g σ) rfl 1 (by decide) (hts _ gw335) (fun _ h9 => h9) rfl d_Rp_add_30 ?_
  refine lv_aload_n hx hb d_Rp_add_33 rfl (lv_at hl 0 rfl) ?_
  refine va_get (D := D) (ci := 7) (C := R_Rp) (T := T_Rp) (N := 8) hx hb hts in_Rp hown hK hst.1 40 (WS_o40 g σ) rfl 0 (by decide) (hts _ gw333) (fun _ h9 => h9) rfl d_Rp_add_34 ?_
  refine lv_iload_n hx hb d_Rp_add_37 rfl (lv_at hl 2 rfl) ?_
  refine lv_bipush (v := (16 : Int32)) hx hb d_Rp_add_38 (by decide) ?_
  refine lv_ishl hx hb d_Rp_add_40 ?_
  refine lv_iload_n hx hb d_Rp_add_41 rfl (lv_at hl 3 rfl) ?_
  refine lv_bipush (v := (8 : Int32)) hx hb d_Rp_add_42 (by decide) ?_
  refine lv_ishl hx hb d_Rp_add_44 ?_
  refine lv_ior hx hb d_Rp_add_45 ?_
  refine lv_iload_n hx hb d_Rp_add_46 rfl (lv_at hl 1 rfl) ?_
  refine lv_ior hx hb d_Rp_add_47 ?_
  obtain ⟨hi, h⟩ := h
  refine kw_iast hx hb hK hst 52 (WS_a52 g σ) hi (WS_s52 g σ _ _) d_Rp_add_48 (fun σ1 H locs e1 hst => ?_)
  replace h := h σ1 e1
  refine lv_aload_n hx hb d_Rp_add_49 rfl (lv_at hl 0 rfl) ?_
  refine lv_dup hx hb d_Rp_add_50 rfl ?_
  refine va_get (D := D) (ci := 7) (C := R_Rp) (T := T_Rp) (N := 8) hx hb hts in_Rp hown hK hst.1 40 (WS_o40 g σ1) rfl 0 (by decide) (hts _ gw333) (fun _ h9 => h9) rfl d_Rp_add_51 ?_
  refine lv_iconst (v := (1 : Int32)) hx hb d_Rp_add_54 (by decide) ?_
  refine lv_iadd hx hb d_Rp_add_55 ?_
  refine kw_put (D := D) (ci := 7) (ty := .int) (C := R_Rp) (T := T_Rp) (N := 8) hx hb hts in_Rp ty_Rp ty_Rp_ok nm_Rp hown hK hst 40 (WS_o40 g σ1) rfl 0 (by decide) (hts _ gw333) (fun _ h9 => h9) rfl (by decide +kernel) rfl rfl (Nat.le_of_ble_eq_true rfl) (WS_p40_0 g σ1 _) d_Rp_add_56 (fun σ2 H locs e2 hst => ?_)
  replace h := h σ2 e2
  refine W.widen (k := mc) (n := ms) hk.1 hk.2 ?_
  exact kw_vret hx hb hr hlocks hst h d_Rp_add_59
set_option maxRecDepth 100000 in
set_option maxHeartbeats 4000000 in
theorem a_Rp_add {p : Program} {l : Launch} {e : Env} {s : State} {m : MethodId} {args : Array Value} {below : List Frame} {meth : Method} {c : Code} {D : va_G} {g : Gm} {A : Nat → Prop} {post : Sg → Prop} (C : kC p s m args meth c k_Rp_add 4 (none) GW R_Rp D vwCl g (Zk g) A) (mc ms : Nat) : ∀ n : Nat, J_Rp_add_1 p l e s m args below meth c D g A mc ms post (wp_Rp_add mc ms post n) := by
  intro n
  induction n with
  | zero => exact fun _ _ _ _ _ _ _ _ _ _ _ _ h => h.elim
  | succ n ih => exact fun x1 x2 x3 kc ks σ H locs ls hl hst hk h => b_Rp_add_1 (F := wp_Rp_add mc ms post n) C mc ms x1 x2 x3 kc ks σ H locs ls hl hst hk h
set_option maxRecDepth 100000 in
set_option maxHeartbeats 4000000 in
theorem c_Rp_add (l : Launch) {D : va_G} {g : Gm} (mc ms : Nat) {sz : Nat} (x1 : Int32) (x2 : Int32) (x3 : Int32) {σ : Sg} {post : Sg → Prop} (h : wq_Rp_add mc ms x1 x2 x3 σ post) : Met l y_Rp_add (.code y_Rp_add k_Rp_add 4 (none) :: GW) { frames := 2, cells := mc, slots := ms, locals := 82 } (PcW D vwCl (WS g) g (Zk g) σ sz [.ref (g.1 40), .int x1, .int x2, .int x3]) (QvW D vwCl (WS g) post (va_A (WS g σ) sz)) mc ms (va_A (WS g σ) sz) := by
  refine kw_entry (own := R_Rp) (by decide) rfl rfl (Nat.le_of_ble_eq_true rfl) ?_
  intro p e s m below meth c ls hsz C hin hl hst
  obtain ⟨n, h⟩ := h
  cases n with
  | zero => exact h.elim
  | succ n =>
    have ih := a_Rp_add (l := l) (e := e) (below := below) (post := post) C mc ms n
    exact b_Rp_add_0 (F := wp_Rp_add mc ms post n) C mc ms (ih) x1 x2 x3 σ _ _ ls hl hst h
/-! SchemaDesk$Report.collect ()V -/
abbrev k_Rp_collect : ByteArray := prog_6_method_11_code
abbrev y_Rp_collect : MethodName := ⟨"SchemaDesk$Report", "collect", "()V"⟩
theorem d_Rp_collect_0 : decode k_Rp_collect 0 = .ok (.aload_n 0, 1) := by decide +kernel
theorem d_Rp_collect_1 : decode k_Rp_collect 1 = .ok (.iconst 0, 1) := by decide +kernel
theorem d_Rp_collect_2 : decode k_Rp_collect 2 = .ok (.putfield 112, 3) := by decide +kernel
theorem d_Rp_collect_5 : decode k_Rp_collect 5 = .ok (.iconst 0, 1) := by decide +kernel
theorem d_Rp_collect_6 : decode k_Rp_collect 6 = .ok (.istore_n 1, 1) := by decide +kernel
theorem d_Rp_collect_7 : decode k_Rp_collect 7 = .ok (.iload_n 1, 1) := by decide +kernel
theorem d_Rp_collect_8 : decode k_Rp_collect 8 = .ok (.aload_n 0, 1) := by decide +kernel
theorem d_Rp_collect_9 : decode k_Rp_collect 9 = .ok (.getfield 44, 3) := by decide +kernel
theorem d_Rp_collect_12 : decode k_Rp_collect 12 = .ok (.getfield 52, 3) := by decide +kernel
theorem d_Rp_collect_15 : decode k_Rp_collect 15 = .ok (.if_icmp .ge 87, 3) := by decide +kernel
theorem d_Rp_collect_18 : decode k_Rp_collect 18 = .ok (.iconst 0, 1) := by decide +kernel
theorem d_Rp_collect_19 : decode k_Rp_collect 19 = .ok (.istore_n 2, 1) := by decide +kernel
theorem d_Rp_collect_20 : decode k_Rp_collect 20 = .ok (.iload_n 2, 1) := by decide +kernel
theorem d_Rp_collect_21 : decode k_Rp_collect 21 = .ok (.aload_n 0, 1) := by decide +kernel
theorem d_Rp_collect_22 : decode k_Rp_collect 22 = .ok (.getfield 40, 3) := by decide +kernel
theorem d_Rp_collect_25 : decode k_Rp_collect 25 = .ok (.getfield 52, 3) := by decide +kernel
theorem d_Rp_collect_28 : decode k_Rp_collect 28 = .ok (.if_icmp .ge 68, 3) := by decide +kernel
theorem d_Rp_collect_31 : decode k_Rp_collect 31 = .ok (.aload_n 0, 1) := by decide +kernel
theorem d_Rp_collect_32 : decode k_Rp_collect 32 = .ok (.getfield 40, 3) := by decide +kernel
theorem d_Rp_collect_35 : decode k_Rp_collect 35 = .ok (.getfield 115, 3) := by decide +kernel
theorem d_Rp_collect_38 : decode k_Rp_collect 38 = .ok (.iload_n 2, 1) := by decide +kernel
theorem d_Rp_collect_39 : decode k_Rp_collect 39 = .ok (.iaload, 1) := by decide +kernel
theorem d_Rp_collect_40 : decode k_Rp_collect 40 = .ok (.iconst 1, 1) := by decide +kernel
theorem d_Rp_collect_41 : decode k_Rp_collect 41 = .ok (.if_icmp .ne 22, 3) := by decide +kernel
theorem d_Rp_collect_44 : decode k_Rp_collect 44 = .ok (.aload_n 0, 1) := by decide +kernel
theorem d_Rp_collect_45 : decode k_Rp_collect 45 = .ok (.getfield 18, 3) := by decide +kernel
theorem d_Rp_collect_48 : decode k_Rp_collect 48 = .ok (.iload_n 2, 1) := by decide +kernel
theorem d_Rp_collect_49 : decode k_Rp_collect 49 = .ok (.iload_n 1, 1) := by decide +kernel
theorem d_Rp_collect_50 : decode k_Rp_collect 50 = .ok (.invokevirtual 66, 3) := by decide +kernel
theorem d_Rp_collect_53 : decode k_Rp_collect 53 = .ok (.ifCond .eq 10, 3) := by decide +kernel
theorem d_Rp_collect_56 : decode k_Rp_collect 56 = .ok (.aload_n 0, 1) := by decide +kernel
theorem d_Rp_collect_57 : decode k_Rp_collect 57 = .ok (.iconst 0, 1) := by decide +kernel
theorem d_Rp_collect_58 : decode k_Rp_collect 58 = .ok (.iload_n 1, 1) := by decide +kernel
theorem d_Rp_collect_59 : decode k_Rp_collect 59 = .ok (.iload_n 2, 1) := by decide +kernel
theorem d_Rp_collect_60 : decode k_Rp_collect 60 = .ok (.invokevirtual 118, 3) := by decide +kernel
theorem d_Rp_collect_63 : decode k_Rp_collect 63 = .ok (.aload_n 0, 1) := by decide +kernel
theorem d_Rp_collect_64 : decode k_Rp_collect 64 = .ok (.getfield 22, 3) := by decide +kernel
theorem d_Rp_collect_67 : decode k_Rp_collect 67 = .ok (.iload_n 2, 1) := by decide +kernel
theorem d_Rp_collect_68 : decode k_Rp_collect 68 = .ok (.iload_n 1, 1) := by decide +kernel
theorem d_Rp_collect_69 : decode k_Rp_collect 69 = .ok (.invokevirtual 66, 3) := by decide +kernel
theorem d_Rp_collect_72 : decode k_Rp_collect 72 = .ok (.ifCond .eq 18, 3) := by decide +kernel
theorem d_Rp_collect_75 : decode k_Rp_collect 75 = .ok (.aload_n 0, 1) := by decide +kernel
theorem d_Rp_collect_76 : decode k_Rp_collect 76 = .ok (.aload_n 0, 1) := by decide +kernel
theorem d_Rp_collect_77 : decode k_Rp_collect 77 = .ok (.getfield 35, 3) := by decide +kernel
theorem d_Rp_collect_80 : decode k_Rp_collect 80 = .ok (.getfield 96, 3) := by decide +kernel
theorem d_Rp_collect_83 : decode k_Rp_collect 83 = .ok (.iload_n 2, 1) := by decide +kernel
theorem d_Rp_collect_84 : decode k_Rp_collect 84 = .ok (.iaload, 1) := by decide +kernel
theorem d_Rp_collect_85 : decode k_Rp_collect 85 = .ok (.iload_n 1, 1) := by decide +kernel
theorem d_Rp_collect_86 : decode k_Rp_collect 86 = .ok (.iload_n 2, 1) := by decide +kernel
theorem d_Rp_collect_87 : decode k_Rp_collect 87 = .ok (.invokevirtual 118, 3) := by decide +kernel
theorem d_Rp_collect_90 : decode k_Rp_collect 90 = .ok (.iinc 2 1, 3) := by decide +kernel
theorem d_Rp_collect_93 : decode k_Rp_collect 93 = .ok (.goto (-73), 3) := by decide +kernel
theorem d_Rp_collect_96 : decode k_Rp_collect 96 = .ok (.iinc 1 1, 3) := by decide +kernel
theorem d_Rp_collect_99 : decode k_Rp_collect 99 = .ok (.goto (-92), 3) := by decide +kernel
theorem d_Rp_collect_102 : decode k_Rp_collect 102 = .ok (.return_, 1) := by decide +kernel
theorem gw171 : (Jvm.Cond.fieldLink "SchemaDesk$Report" (52 : Nat) "SchemaDesk$Tree" "size" "I") ∈ GW := gw_t1 (List.mem_of_getElem? (i := 171) rfl) rfl
theorem gw137 : (Jvm.Cond.fieldLink "SchemaDesk$Report" (115 : Nat) "SchemaDesk$Tree" "kind" "[I") ∈ GW := gw_t1 (List.mem_of_getElem? (i := 137) rfl) rfl
theorem gw909 : (Jvm.Cond.methodLink "SchemaDesk$Report" (66 : Nat) ({ cls := "SchemaDesk$Marks", name := "has", desc := "(II)Z" } : Jvm.MethodName)) ∈ GW := gw_t4 (List.mem_of_getElem? (i := 189) rfl) rfl
theorem gw932 : (Jvm.Cond.methodLink "SchemaDesk$Report" (118 : Nat) ({ cls := "SchemaDesk$Report", name := "add", desc := "(III)V" } : Jvm.MethodName)) ∈ GW := gw_t4 (List.mem_of_getElem? (i := 212) rfl) rfl
theorem gw934 : (Jvm.Cond.instanceMethod ({ cls := "SchemaDesk$Report", name := "add", desc := "(III)V" } : Jvm.MethodName)) ∈ GW := gw_t4 (List.mem_of_getElem? (i := 214) rfl) rfl
theorem gs38 : Cond.selects "SchemaDesk$Report" ⟨"SchemaDesk$Report", "add", "(III)V"⟩ ⟨"SchemaDesk$Report", "add", "(III)V"⟩ ∈ GW := gw_p3 (q := (⟨"SchemaDesk$Report", "add", "(III)V"⟩, 8)) (List.mem_of_getElem? (i := 6) rfl)
theorem gw935 : (Jvm.Cond.code ({ cls := "SchemaDesk$Report", name := "add", desc := "(III)V" } : Jvm.MethodName) prog_6_method_12_code (4 : Nat) (Option.none : Option Jvm.ClassFile.FieldType)) ∈ GW := gw_t4 (List.mem_of_getElem? (i := 215) rfl) rfl
def wb_Rp_collect_0 (F : Nat → Int32 → Int32 → Nat → Nat → Sg → Prop) (post : Sg → Prop) (σ : Sg) : Prop := (∀ σ1, σ1 = si σ 40 0 (0 : Int32) → F 1 (0 : Int32) 0 0 0 σ1)
def wb_Rp_collect_1 (F : Nat → Int32 → Int32 → Nat → Nat → Sg → Prop) (post : Sg → Prop) (x1 : Int32) (kc : Nat) (ks : Nat) (σ : Sg) : Prop := (((σ.1 13 9) ≤ x1 → post σ) ∧ (¬ (σ.1 13 9) ≤ x1 → F 2 x1 (0 : Int32) kc ks σ))
def wb_Rp_collect_2 (F : Nat → Int32 → Int32 → Nat → Nat → Sg → Prop) (post : Sg → Prop) (x1 : Int32) (x2 : Int32) (kc : Nat) (ks : Nat) (σ : Sg) : Prop := (((σ.1 0 9) ≤ x2 → F 1 (x1 + 1) 0 kc ks σ) ∧ (¬ (σ.1 0 9) ≤ x2 → (vp_in x2 160 ∧ ((¬ (σ.1 1 x2.toNatClampNeg) = (1 : Int32) → F 3 x1 x2 kc ks σ) ∧ ((σ.1 1 x2.toNatClampNeg) = (1 : Int32) → (wq_Mk_has 41 x2 x1 σ (fun r1 σ1 => ((r1 = 0 → F 3 x1 x2 kc ks σ1) ∧ (¬ r1 = 0 → (∃ a2 b2, kc + a2 ≤ 5 ∧ ks + b2 ≤ 3968 ∧ (wq_Rp_add a2 b2 (0 : Int32) x1 x2 σ1 (fun σ2 => F 3 x1 x2 (kc + a2) (ks + b2) σ2))))))))))))
def wb_Rp_collect_3 (F : Nat → Int32 → Int32 → Nat → Nat → Sg → Prop) (post : Sg → Prop) (x1 : Int32) (x2 : Int32) (kc : Nat) (ks : Nat) (σ : Sg) : Prop := (wq_Mk_has 43 x2 x1 σ (fun r1 σ1 => ((r1 = 0 → F 2 x1 (x2 + 1) kc ks σ1) ∧ (¬ r1 = 0 → (vp_in x2 160 ∧ (∃ a2 b2, kc + a2 ≤ 5 ∧ ks + b2 ≤ 3968 ∧ (wq_Rp_add a2 b2 (σ1.1 30 x2.toNatClampNeg) x1 x2 σ1 (fun σ2 => F 2 x1 (x2 + 1) (kc + a2) (ks + b2) σ2))))))))
def wp_Rp_collect (post : Sg → Prop) : Nat → Nat → Int32 → Int32 → Nat → Nat → Sg → Prop
  | 0, _, _, _, _, _, _ => False
  | n + 1, k, x1, x2, kc, ks, σ => match k with
    | 0 => wb_Rp_collect_0 (wp_Rp_collect post n) post σ
    | 1 => wb_Rp_collect_1 (wp_Rp_collect post n) post x1 kc ks σ
    | 2 => wb_Rp_collect_2 (wp_Rp_collect post n) post x1 x2 kc ks σ
    | 3 => wb_Rp_collect_3 (wp_Rp_collect post n) post x1 x2 kc ks σ
    | _ => False
def wq_Rp_collect (σ : Sg) (post : Sg → Prop) : Prop := ∃ n, wp_Rp_collect post n 0 0 0 0 0 σ
def J_Rp_collect_1 (p : Program) (l : Launch) (e : Env) (s : State) (m : MethodId) (args : Array Value) (below : List Frame) (meth : Method) (c : Code) (D : va_G) (g : Gm) (A : Nat → Prop) (post : Sg → Prop) (F : Nat → Int32 → Int32 → Nat → Nat → Sg → Prop) : Prop := ∀ (x1 : Int32) (kc ks : Nat) (σ : Sg) (H : Heap) (locs : List Loc) (ls : Array Slot), lv_has ls 3 [(0, .ref (g.1 40)), (1, .int x1)] → Wst D vwCl (WS g) A s σ H locs → kc ≤ 5 ∧ ks ≤ 3968 → F 1 x1 0 kc ks σ → W p l e { frames := 3, cells := 5, slots := 3968, locals := 105 } s m args below meth c H locs kc ks (MQ below (QvW D vwCl (WS g) post A) args s 5 3968 A) (F0 m 7 ls [])
def J_Rp_collect_2 (p : Program) (l : Launch) (e : Env) (s : State) (m : MethodId) (args : Array Value) (below : List Frame) (meth : Method) (c : Code) (D : va_G) (g : Gm) (A : Nat → Prop) (post : Sg → Prop) (F : Nat → Int32 → Int32 → Nat → Nat → Sg → Prop) : Prop := ∀ (x1 : Int32) (x2 : Int32) (kc ks : Nat) (σ : Sg) (H : Heap) (locs : List Loc) (ls : Array Slot), lv_has ls 3 [(0, .ref (g.1 40)), (1, .int x1), (2, .int x2)] → Wst D vwCl (WS g) A s σ H locs → kc ≤ 5 ∧ ks ≤ 3968 → F 2 x1 x2 kc ks σ → W p l e { frames := 3, cells := 5, slots := 3968, locals := 105 } s m args below meth c H locs kc ks (MQ below (QvW D vwCl (WS g) post A) args s 5 3968 A) (F0 m 20 ls [])
def J_Rp_collect_3 (p : Program) (l : Launch) (e : Env) (s : State) (m : MethodId) (args : Array Value) (below : List Frame) (meth : Method) (c : Code) (D : va_G) (g : Gm) (A : Nat → Prop) (post : Sg → Prop) (F : Nat → Int32 → Int32 → Nat → Nat → Sg → Prop) : Prop := ∀ (x1 : Int32) (x2 : Int32) (kc ks : Nat) (σ : Sg) (H : Heap) (locs : List Loc) (ls : Array Slot), lv_has ls 3 [(0, .ref (g.1 40)), (1, .int x1), (2, .int x2)] → Wst D vwCl (WS g) A s σ H locs → kc ≤ 5 ∧ ks ≤ 3968 → F 3 x1 x2 kc ks σ → W p l e { frames := 3, cells := 5, slots := 3968, locals := 105 } s m args below meth c H locs kc ks (MQ below (QvW D vwCl (WS g) post A) args s 5 3968 A) (F0 m 63 ls [])
set_option maxRecDepth 100000 in
set_option maxHeartbeats 4000000 in
theorem b_Rp_collect_0 {p : Program} {l : Launch} {e : Env} {s : State} {m : MethodId} {args : Array Value} {below : List Frame} {meth : Method} {c : Code} {D : va_G} {g : Gm} {A : Nat → Prop} {post : Sg → Prop} {F : Nat → Int32 → Int32 → Nat → Nat → Sg → Prop} (C : kC p s m args meth c k_Rp_collect 3 (none) GW R_Rp D vwCl g (Zk g) A) (j1 : J_Rp_collect_1 p l e s m args below meth c D g A post F) (σ : Sg) (H : Heap) (locs : List Loc) (ls : Array Slot) (hl : lv_has ls 3 [(0, .ref (g.1 40))]) (hst : Wst D vwCl (WS g) A s σ H locs) (h : wb_Rp_collect_0 F post σ) : W p l e { frames := 3, cells := 5, slots := 3968, locals := 105 } s m args below meth c H locs 0 0 (MQ below (QvW D vwCl (WS g) post A) args s 5 3968 A) (F0 m 0 ls []) := by
  obtain ⟨hx, hb, hr, hml, hown, hts, hlocks, hK, hZ, hA⟩ := C
  have hk : 0 ≤ 5 ∧ 0 ≤ 3968 := ⟨Nat.zero_le _, Nat.zero_le _⟩
  unfold wb_Rp_collect_0 at h
  refine lv_aload_n hx hb d_Rp_collect_0 rfl (lv_at hl 0 rfl) ?_
  refine lv_iconst (v := (0 : Int32)) hx hb d_Rp_collect_1 (by decide) ?_
  refine kw_put (D := D) (ci := 7) (ty := .int) (C := R_Rp) (T := T_Rp) (N := 8) hx hb hts in_Rp ty_Rp ty_Rp_ok nm_Rp hown hK hst 40 (WS_o40 g σ) rfl 0 (by decide) (hts _ gw333) (fun _ h9 => h9) rfl (by decide +kernel) rfl rfl (Nat.le_of_ble_eq_true rfl) (WS_p40_0 g σ _) d_Rp_collect_2 (fun σ1 H locs e1 hst => ?_)
  replace h := h σ1 e1
  refine lv_iconst (v := (0 : Int32)) hx hb d_Rp_collect_5 (by decide) ?_
  refine lv_istore_n hx hb d_Rp_collect_6 rfl hl (by decide) rfl (fun ls hl => ?_)
  have hl : lv_has ls 3 [(1, .int (0 : Int32)), (0, .ref (g.1 40))] := hl
  exact j1 (0 : Int32) 0 0 σ1 _ _ _ (lv_sub hl [1, 0] rfl) hst hk h
set_option maxRecDepth 100000 in
set_option maxHeartbeats 4000000 in
theorem b_Rp_collect_1 {p : Program} {l : Launch} {e : Env} {s : State} {m : MethodId} {args : Array Value} {below : List Frame} {meth : Method} {c : Code} {D : va_G} {g : Gm} {A : Nat → Prop} {post : Sg → Prop} {F : Nat → Int32 → Int32 → Nat → Nat → Sg → Prop} (C : kC p s m args meth c k_Rp_collect 3 (none) GW R_Rp D vwCl g (Zk g) A) (j2 : J_Rp_collect_2 p l e s m args below meth c D g A post F) (x1 : Int32) (kc ks : Nat) (σ : Sg) (H : Heap) (locs : List Loc) (ls : Array Slot) (hl : lv_has ls 3 [(0, .ref (g.1 40)), (1, .int x1)]) (hst : Wst D vwCl (WS g) A s σ H locs) (hk : kc ≤ 5 ∧ ks ≤ 3968) (h : wb_Rp_collect_1 F post x1 kc ks σ) : W p l e { frames := 3, cells := 5, slots := 3968, locals := 105 } s m args below meth c H locs kc ks (MQ below (QvW D vwCl (WS g) post A) args s 5 3968 A) (F0 m 7 ls []) := by
  obtain ⟨hx, hb, hr, hml, hown, hts, hlocks, hK, hZ, hA⟩ := C
  unfold wb_Rp_collect_1 at h
  refine lv_iload_n hx hb d_Rp_collect_7 rfl (lv_at hl 1 rfl) ?_
  refine lv_aload_n hx hb d_Rp_collect_8 rfl (lv_at hl 0 rfl) ?_
  refine va_get (D := D) (ci := 7) (C := R_Rp) (T := T_Rp) (N := 8) hx hb hts in_Rp hown hK hst.1 40 (WS_o40 g σ) rfl 5 (by decide) (hts _ gw339) (fun _ h9 => h9) rfl d_Rp_collect_9 ?_
  refine va_get (D := D) (ci := 0) (C := R_Tr) (T := T_Tr) (N := 12) hx hb hts in_Tr hown hK hst.1 13 (WS_o13 g σ) rfl 9 (by decide) (hts _ gw171) (fun _ h9 => h9) rfl d_Rp_collect_12 ?_
  refine lv_icmp_ge (tgt := 102) hx hb d_Rp_collect_15 (by decide) (fun hc => ?_) (fun hc => ?_)
  · replace h := h.1 hc
    refine W.widen (k := 5) (n := 3968) hk.1 hk.2 ?_
    exact kw_vret hx hb hr hlocks hst h d_Rp_collect_102
  · replace h := h.2 hc
    refine lv_iconst (v := (0 : Int32)) hx hb d_Rp_collect_18 (by decide) ?_
    refine lv_istore_n hx hb d_Rp_collect_19 rfl hl (by decide) rfl (fun ls hl => ?_)
    have hl : lv_has ls 3 [(2, .int (0 : Int32)), (0, .ref (g.1 40)), (1, .int x1)] := hl
    exact j2 x1 (0 : Int32) kc ks σ _ _ _ (lv_sub hl [1, 2, 0] rfl) hst hk h
set_option maxRecDepth 100000 in
set_option maxHeartbeats 4000000 in
theorem b_Rp_collect_2 {p : Program} {l : Launch} {e : Env} {s : State} {m : MethodId} {args : Array Value} {below : List Frame} {meth : Method} {c : Code} {D : va_G} {g : Gm} {A : Nat → Prop} {post : Sg → Prop} {F : Nat → Int32 → Int32 → Nat → Nat → Sg → Prop} (C : kC p s m args meth c k_Rp_collect 3 (none) GW R_Rp D vwCl g (Zk g) A) (j1 : J_Rp_collect_1 p l e s m args below meth c D g A post F) (j3 : J_Rp_collect_3 p l e s m args below meth c D g A post F) (x1 : Int32) (x2 : Int32) (kc ks : Nat) (σ : Sg) (H : Heap) (locs : List Loc) (ls : Array Slot) (hl : lv_has ls 3 [(0, .ref (g.1 40)), (1, .int x1), (2, .int x2)]) (hst : Wst D vwCl (WS g) A s σ H locs) (hk : kc ≤ 5 ∧ ks ≤ 3968) (h : wb_Rp_collect_2 F post x1 x2 kc ks σ) : W p l e { frames := 3, cells := 5, slots := 3968, locals := 105 } s m args below meth c H locs kc ks (MQ below (QvW D vwCl (WS g) post A) args s 5 3968 A) (F0 m 20 ls []) := by
  obtain ⟨hx, hb, hr, hml, hown, hts, hlocks, hK, hZ, hA⟩ := C
  unfold wb_Rp_collect_2 at h
  refine lv_iload_n hx hb d_Rp_collect_20 rfl (lv_at hl 2 rfl) ?_
  refine lv_aload_n hx hb d_Rp_collect_21 rfl (lv_at hl 0 rfl) ?_
  refine va_get (D := D) (ci := 7) (C := R_Rp) (T := T_Rp) (N := 8) hx hb hts in_Rp hown hK hst.1 40 (WS_o40 g σ) rfl 4 (by decide) (hts _ gw338) (fun _ h9 => h9) rfl d_Rp_collect_22 ?_
  refine va_get (D := D) (ci := 0) (C := R_Tr) (T := T_Tr) (N := 12) hx hb hts in_Tr hown hK hst.1 0 (WS_o0 g σ) rfl 9 (by decide) (hts _ gw171) (fun _ h9 => h9) rfl d_Rp_collect_25 ?_
  refine lv_icmp_ge (tgt := 96) hx hb d_Rp_collect_28 (by decide) (fun hc => ?_) (fun hc => ?_)
  · replace h := h.1 hc
    refine lv_iinc (k := 1) (v := (x1 + 1)) hx hb d_Rp_collect_96 hl rfl (kw_inc _ (by decide)) (by decide) rfl (fun ls hl => ?_)
    have hl : lv_has ls 3 [(1, .int (x1 + 1)), (0, .ref (g.1 40)), (2, .int x2)] := hl
    refine lv_goto (tgt := 7) hx hb d_Rp_collect_99 (by decide) ?_
    exact j1 (x1 + 1) kc ks σ _ _ _ (lv_sub hl [1, 0] rfl) hst hk h
  · replace h := h.2 hc
    refine lv_aload_n hx hb d_Rp_collect_31 rfl (lv_at hl 0 rfl) ?_
    refine va_get (D := D) (ci := 7) (C := R_Rp) (T := T_Rp) (N := 8) hx hb hts in_Rp hown hK hst.1 40 (WS_o40 g σ) rfl 4 (by decide) (hts _ gw338) (fun _ h9 => h9) rfl d_Rp_collect_32 ?_
    refine va_get (D := D) (ci := 0) (C := R_Tr) (T := T_Tr) (N := 12) hx hb hts in_Tr hown hK hst.1 0 (WS_o0 g σ) rfl 1 (by decide) (hts _ gw137) (fun _ h9 => h9) rfl d_Rp_collect_35 ?_
    refine lv_iload_n hx hb d_Rp_collect_38 rfl (lv_at hl 2 rfl) ?_
    obtain ⟨hi, h⟩ := h
    refine va_iald hx hb hK hst.1 1 0 (WS_a1 g σ) rfl hi d_Rp_collect_39 ?_
    refine lv_iconst (v := (1 : Int32)) hx hb d_Rp_collect_40 (by decide) ?_
    refine lv_icmp_ne (tgt := 63) hx hb d_Rp_collect_41 (by decide) (fun hc => ?_) (fun hc => ?_)
    · replace h := h.1 hc
      exact j3 x1 x2 kc ks σ _ _ _ (lv_sub hl [0, 1, 2] rfl) hst hk h
    · replace h := h.2 hc
      refine lv_aload_n hx hb d_Rp_collect_44 rfl (lv_at hl 0 rfl) ?_
      refine va_get (D := D) (ci := 7) (C := R_Rp) (T := T_Rp) (N := 8) hx hb hts in_Rp hown hK hst.1 40 (WS_o40 g σ) rfl 6 (by decide) (hts _ gw340) (fun _ h9 => h9) rfl d_Rp_collect_45 ?_
      refine lv_iload_n hx hb d_Rp_collect_48 rfl (lv_at hl 2 rfl) ?_
      refine lv_iload_n hx hb d_Rp_collect_49 rfl (lv_at hl 1 rfl) ?_
      refine kw_calli (va_runV (As := [.int x2, .int x1]) (rest := []) (b := g.1 41) ⟨hx, hb, hml, hown, hts⟩ (c_Mk_has_41 l x2 x1 h) (cwV 2 hts (gd_v gw909 gw824 gw825 gw12 gw826) rfl rfl rfl (by decide +kernel) ⟨Nat.le_of_ble_eq_true rfl, Nat.le_of_ble_eq_true rfl⟩) ⟨kw_blind (Zk_ok g), va_recv hK hst.1 rfl (WS_o41 g σ), kw_pre (Zk_ok g) hK hZ hA hst⟩ rfl rfl hl.1 rfl (lv_room (Nat.le_of_ble_eq_true rfl)) d_Rp_collect_50 hk) hst hA (fun r1 σ1 H locs h hst => ?_)
      refine lv_if_eq (tgt := 63) hx hb d_Rp_collect_53 (by decide) (fun hc => ?_) (fun hc => ?_)
      · replace h := h.1 hc
        exact j3 x1 x2 kc ks σ1 _ _ _ (lv_sub hl [0, 1, 2] rfl) hst hk h
      · replace h := h.2 hc
        refine lv_aload_n hx hb d_Rp_collect_56 rfl (lv_at hl 0 rfl) ?_
        refine lv_iconst (v := (0 : Int32)) hx hb d_Rp_collect_57 (by decide) ?_
        refine lv_iload_n hx hb d_Rp_collect_58 rfl (lv_at hl 1 rfl) ?_
        refine lv_iload_n hx hb d_Rp_collect_59 rfl (lv_at hl 2 rfl) ?_
        obtain ⟨a2, b2, hk1, hk2, h⟩ := h
        refine kh_callv (va_runV (As := [.int (0 : Int32), .int x1, .int x2]) (rest := []) (b := g.1 40) ⟨hx, hb, hml, hown, hts⟩ (c_Rp_add l a2 b2 (0 : Int32) x1 x2 h) (cwV 3 hts (gd_v gw932 gw934 gs38 gw13 gw935) rfl rfl rfl (by decide +kernel) ⟨Nat.le_of_ble_eq_true rfl, Nat.le_of_ble_eq_true rfl⟩) ⟨kw_blind (Zk_ok g), va_recv hK hst.1 rfl (WS_o40 g σ1), kw_pre (Zk_ok g) hK hZ hA hst⟩ rfl rfl hl.1 rfl (lv_room (Nat.le_of_ble_eq_true rfl)) d_Rp_collect_60 ⟨hk1, hk2⟩) hst hA (fun σ2 H locs h hst => ?_)
        have hk := And.intro hk1 hk2
        exact j3 x1 x2 (kc + a2) (ks + b2) σ2 _ _ _ (lv_sub hl [0, 1, 2] rfl) hst hk h
set_option maxRecDepth 100000 in
set_option maxHeartbeats 4000000 in
theorem b_Rp_collect_3 {p : Program} {l : Launch} {e : Env} {s : State} {m : MethodId} {args : Array Value} {below : List Frame} {meth : Method} {c : Code} {D : va_G} {g : Gm} {A : Nat → Prop} {post : Sg → Prop} {F : Nat → Int32 → Int32 → Nat → Nat → Sg → Prop} (C : kC p s m args meth c k_Rp_collect 3 (none) GW R_Rp D vwCl g (Zk g) A) (j2 : J_Rp_collect_2 p l e s m args below meth c D g A post F) (x1 : Int32) (x2 : Int32) (kc ks : Nat) (σ : Sg) (H : Heap) (locs : List Loc) (ls : Array Slot) (hl : lv_has ls 3 [(0, .ref (g.1 40)), (1, .int x1), (2, .int x2)]) (hst : Wst D vwCl (WS g) A s σ H locs) (hk : kc ≤ 5 ∧ ks ≤ 3968) (h : wb_Rp_collect_3 F post x1 x2 kc ks σ) : W p l e { frames := 3, cells := 5, slots := 3968, locals := 105 } s m args below meth c H locs kc ks (MQ below (QvW D vwCl (WS g) post A) args s 5 3968 A) (F0 m 63 ls []) := by
  obtain ⟨hx, hb, hr, hml, hown, hts, hlocks, hK, hZ, hA⟩ := C
  unfold wb_Rp_collect_3 at h
  refine lv_aload_n hx hb d_Rp_collect_63 rfl (lv_at hl 0 rfl) ?_
  refine va_get (D := D) (ci := 7) (C := R_Rp) (T := T_Rp) (N := 8) hx hb hts in_Rp hown hK hst.1 40 (WS_o40 g σ) rfl 7 (by decide) (hts _ gw341) (fun _ h9 => h9) rfl d_Rp_collect_64 ?_
  refine lv_iload_n hx hb d_Rp_collect_67 rfl (lv_at hl 2 rfl) ?_
  refine lv_iload_n hx hb d_Rp_collect_68 rfl (lv_at hl 1 rfl) ?_
  refine kw_calli (va_runV (As := [.int x2, .int x1]) (rest := []) (b := g.1 43) ⟨hx, hb, hml, hown, hts⟩ (c_Mk_has_43 l x2 x1 h) (cwV 2 hts (gd_v gw909 gw824 gw825 gw12 gw826) rfl rfl rfl (by decide +kernel) ⟨Nat.le_of_ble_eq_true rfl, Nat.le_of_ble_eq_true rfl⟩) ⟨kw_blind (Zk_ok g), va_recv hK hst.1 rfl (WS_o43 g σ), kw_pre (Zk_ok g) hK hZ hA hst⟩ rfl rfl hl.1 rfl (lv_room (Nat.le_of_ble_eq_true rfl)) d_Rp_collect_69 hk) hst hA (fun r1 σ1 H locs h hst => ?_)
  refine lv_if_eq (tgt := 90) hx hb d_Rp_collect_72 (by decide) (fun hc => ?_) (fun hc => ?_)
  · replace h := h.1 hc
    refine lv_iinc (k := 2) (v := (x2 + 1)) hx hb d_Rp_collect_90 hl rfl (kw_inc _ (by decide)) (by decide) rfl (fun ls hl => ?_)
    have hl : lv_has ls 3 [(2, .int (x2 + 1)), (0, .ref (g.1 40)), (1, .int x1)] := hl
    refine lv_goto (tgt := 20) hx hb d_Rp_collect_93 (by decide) ?_
    exact j2 x1 (x2 + 1) kc ks σ1 _ _ _ (lv_sub hl [1, 2, 0] rfl) hst hk h
  · replace h := h.2 hc
    refine lv_aload_n hx hb d_Rp_collect_75 rfl (lv_at hl 0 rfl) ?_
    refine lv_aload_n hx hb d_Rp_collect_76 rfl (lv_at hl 0 rfl) ?_
    refine va_get (D := D) (ci := 7) (C := R_Rp) (T := T_Rp) (N := 8) hx hb hts in_Rp hown hK hst.1 40 (WS_o40 g σ1) rfl 3 (by decide) (hts _ gw337) (fun _ h9 => h9) rfl d_Rp_collect_77 ?_
    refine va_get (D := D) (ci := 5) (C := R_Pl) (T := T_Pl) (N := 10) hx hb hts in_Pl hown hK hst.1 29 (WS_o29 g σ1) rfl 2 (by decide) (hts _ gw239) (fun _ h9 => h9) rfl d_Rp_collect_80 ?_
    refine lv_iload_n hx hb d_Rp_collect_83 rfl (lv_at hl 2 rfl) ?_
    obtain ⟨hi, h⟩ := h
    refine va_iald hx hb hK hst.1 30 0 (WS_a30 g σ1) rfl hi d_Rp_collect_84 ?_
    refine lv_iload_n hx hb d_Rp_collect_85 rfl (lv_at hl 1 rfl) ?_
    refine lv_iload_n hx hb d_Rp_collect_86 rfl (lv_at hl 2 rfl) ?_
    obtain ⟨a2, b2, hk1, hk2, h⟩ := h
    refine kh_callv (va_runV (As := [.int (σ1.1 30 x2.toNatClampNeg), .int x1, .int x2]) (rest := []) (b := g.1 40) ⟨hx, hb, hml, hown, hts⟩ (c_Rp_add l a2 b2 (σ1.1 30 x2.toNatClampNeg) x1 x2 h) (cwV 3 hts (gd_v gw932 gw934 gs38 gw13 gw935) rfl rfl rfl (by decide +kernel) ⟨Nat.le_of_ble_eq_true rfl, Nat.le_of_ble_eq_true rfl⟩) ⟨kw_blind (Zk_ok g), va_recv hK hst.1 rfl (WS_o40 g σ1), kw_pre (Zk_ok g) hK hZ hA hst⟩ rfl rfl hl.1 rfl (lv_room (Nat.le_of_ble_eq_true rfl)) d_Rp_collect_87 ⟨hk1, hk2⟩) hst hA (fun σ2 H locs h hst => ?_)
    have hk := And.intro hk1 hk2
    refine lv_iinc (k := 2) (v := (x2 + 1)) hx hb d_Rp_collect_90 hl rfl (kw_inc _ (by decide)) (by decide) rfl (fun ls hl => ?_)
    have hl : lv_has ls 3 [(2, .int (x2 + 1)), (0, .ref (g.1 40)), (1, .int x1)] := hl
    refine lv_goto (tgt := 20) hx hb d_Rp_collect_93 (by decide) ?_
    exact j2 x1 (x2 + 1) (kc + a2) (ks + b2) σ2 _ _ _ (lv_sub hl [1, 2, 0] rfl) hst hk h
set_option maxRecDepth 100000 in
set_option maxHeartbeats 4000000 in
theorem a_Rp_collect {p : Program} {l : Launch} {e : Env} {s : State} {m : MethodId} {args : Array Value} {below : List Frame} {meth : Method} {c : Code} {D : va_G} {g : Gm} {A : Nat → Prop} {post : Sg → Prop} (C : kC p s m args meth c k_Rp_collect 3 (none) GW R_Rp D vwCl g (Zk g) A) : ∀ n : Nat, J_Rp_collect_1 p l e s m args below meth c D g A post (wp_Rp_collect post n) ∧ J_Rp_collect_2 p l e s m args below meth c D g A post (wp_Rp_collect post n) ∧ J_Rp_collect_3 p l e s m args below meth c D g A post (wp_Rp_collect post n) := by
  intro n
  induction n with
  | zero => exact ⟨fun _ _ _ _ _ _ _ _ _ _ h => h.elim, fun _ _ _ _ _ _ _ _ _ _ _ h => h.elim, fun _ _ _ _ _ _ _ _ _ _ _ h => h.elim⟩
  | succ n ih => exact ⟨fun x1 kc ks σ H locs ls hl hst hk h => b_Rp_collect_1 (F := wp_Rp_collect post n) C (ih.2.1) x1 kc ks σ H locs ls hl hst hk h, fun x1 x2 kc ks σ H locs ls hl hst hk h => b_Rp_collect_2 (F := wp_Rp_collect post n) C (ih.1) (ih.2.2) x1 x2 kc ks σ H locs ls hl hst hk h, fun x1 x2 kc ks σ H locs ls hl hst hk h => b_Rp_collect_3 (F := wp_Rp_collect post n) C (ih.2.1) x1 x2 kc ks σ H locs ls hl hst hk h⟩
set_option maxRecDepth 100000 in
set_option maxHeartbeats 4000000 in
theorem c_Rp_collect (l : Launch) {D : va_G} {g : Gm} {sz : Nat} {σ : Sg} {post : Sg → Prop} (h : wq_Rp_collect σ post) : Met l y_Rp_collect (.code y_Rp_collect k_Rp_collect 3 (none) :: GW) { frames := 3, cells := 5, slots := 3968, locals := 105 } (PcW D vwCl (WS g) g (Zk g) σ sz [.ref (g.1 40)]) (QvW D vwCl (WS g) post (va_A (WS g σ) sz)) 5 3968 (va_A (WS g σ) sz) := by
  refine kw_entry (own := R_Rp) (by decide) rfl rfl (Nat.le_of_ble_eq_true rfl) ?_
  intro p e s m below meth c ls hsz C hin hl hst
  obtain ⟨n, h⟩ := h
  cases n with
  | zero => exact h.elim
  | succ n =>
    have ih := a_Rp_collect (l := l) (e := e) (below := below) (post := post) C n
    exact b_Rp_collect_0 (F := wp_Rp_collect post n) C (ih.1) σ _ _ ls hl hst h
/-! SchemaDesk$Report.write ()V -/
abbrev k_Rp_write : ByteArray := prog_6_method_5_code
abbrev y_Rp_write : MethodName := ⟨"SchemaDesk$Report", "write", "()V"⟩
theorem d_Rp_write_0 : decode k_Rp_write 0 = .ok (.aload_n 0, 1) := by decide +kernel
theorem d_Rp_write_1 : decode k_Rp_write 1 = .ok (.getfield 18, 3) := by decide +kernel
theorem d_Rp_write_4 : decode k_Rp_write 4 = .ok (.invokevirtual 45, 3) := by decide +kernel
theorem d_Rp_write_7 : decode k_Rp_write 7 = .ok (.aload_n 0, 1) := by decide +kernel
theorem d_Rp_write_8 : decode k_Rp_write 8 = .ok (.getfield 22, 3) := by decide +kernel
theorem d_Rp_write_11 : decode k_Rp_write 11 = .ok (.invokevirtual 45, 3) := by decide +kernel
theorem d_Rp_write_14 : decode k_Rp_write 14 = .ok (.aload_n 0, 1) := by decide +kernel
theorem d_Rp_write_15 : decode k_Rp_write 15 = .ok (.iconst 0, 1) := by decide +kernel
theorem d_Rp_write_16 : decode k_Rp_write 16 = .ok (.iconst 0, 1) := by decide +kernel
theorem d_Rp_write_17 : decode k_Rp_write 17 = .ok (.invokevirtual 48, 3) := by decide +kernel
theorem d_Rp_write_20 : decode k_Rp_write 20 = .ok (.iconst 0, 1) := by decide +kernel
theorem d_Rp_write_21 : decode k_Rp_write 21 = .ok (.istore_n 1, 1) := by decide +kernel
theorem d_Rp_write_22 : decode k_Rp_write 22 = .ok (.iload_n 1, 1) := by decide +kernel
theorem d_Rp_write_23 : decode k_Rp_write 23 = .ok (.aload_n 0, 1) := by decide +kernel
theorem d_Rp_write_24 : decode k_Rp_write 24 = .ok (.getfield 44, 3) := by decide +kernel
theorem d_Rp_write_27 : decode k_Rp_write 27 = .ok (.getfield 52, 3) := by decide +kernel
theorem d_Rp_write_30 : decode k_Rp_write 30 = .ok (.if_icmp .ge 63, 3) := by decide +kernel
theorem d_Rp_write_33 : decode k_Rp_write 33 = .ok (.aload_n 0, 1) := by decide +kernel
theorem d_Rp_write_34 : decode k_Rp_write 34 = .ok (.getfield 35, 3) := by decide +kernel
theorem d_Rp_write_37 : decode k_Rp_write 37 = .ok (.getfield 58, 3) := by decide +kernel
theorem d_Rp_write_40 : decode k_Rp_write 40 = .ok (.iconst 1, 1) := by decide +kernel
theorem d_Rp_write_41 : decode k_Rp_write 41 = .ok (.isub, 1) := by decide +kernel
theorem d_Rp_write_42 : decode k_Rp_write 42 = .ok (.istore_n 2, 1) := by decide +kernel
theorem d_Rp_write_43 : decode k_Rp_write 43 = .ok (.iload_n 2, 1) := by decide +kernel
theorem d_Rp_write_44 : decode k_Rp_write 44 = .ok (.ifCond .lt 43, 3) := by decide +kernel
theorem d_Rp_write_47 : decode k_Rp_write 47 = .ok (.aload_n 0, 1) := by decide +kernel
theorem d_Rp_write_48 : decode k_Rp_write 48 = .ok (.getfield 18, 3) := by decide +kernel
theorem d_Rp_write_51 : decode k_Rp_write 51 = .ok (.aload_n 0, 1) := by decide +kernel
theorem d_Rp_write_52 : decode k_Rp_write 52 = .ok (.getfield 35, 3) := by decide +kernel
theorem d_Rp_write_55 : decode k_Rp_write 55 = .ok (.getfield 63, 3) := by decide +kernel
theorem d_Rp_write_58 : decode k_Rp_write 58 = .ok (.iload_n 2, 1) := by decide +kernel
theorem d_Rp_write_59 : decode k_Rp_write 59 = .ok (.iaload, 1) := by decide +kernel
theorem d_Rp_write_60 : decode k_Rp_write 60 = .ok (.iload_n 1, 1) := by decide +kernel
theorem d_Rp_write_61 : decode k_Rp_write 61 = .ok (.invokevirtual 66, 3) := by decide +kernel
theorem d_Rp_write_64 : decode k_Rp_write 64 = .ok (.ifCond .eq 17, 3) := by decide +kernel
theorem d_Rp_write_67 : decode k_Rp_write 67 = .ok (.aload_n 0, 1) := by decide +kernel
theorem d_Rp_write_68 : decode k_Rp_write 68 = .ok (.aload_n 0, 1) := by decide +kernel
theorem d_Rp_write_69 : decode k_Rp_write 69 = .ok (.getfield 35, 3) := by decide +kernel
theorem d_Rp_write_72 : decode k_Rp_write 72 = .ok (.getfield 63, 3) := by decide +kernel
theorem d_Rp_write_75 : decode k_Rp_write 75 = .ok (.iload_n 2, 1) := by decide +kernel
theorem d_Rp_write_76 : decode k_Rp_write 76 = .ok (.iaload, 1) := by decide +kernel
theorem d_Rp_write_77 : decode k_Rp_write 77 = .ok (.iload_n 1, 1) := by decide +kernel
theorem d_Rp_write_78 : decode k_Rp_write 78 = .ok (.invokevirtual 70, 3) := by decide +kernel
theorem d_Rp_write_81 : decode k_Rp_write 81 = .ok (.iinc 2 (-1), 3) := by decide +kernel
theorem d_Rp_write_84 : decode k_Rp_write 84 = .ok (.goto (-41), 3) := by decide +kernel
theorem d_Rp_write_87 : decode k_Rp_write 87 = .ok (.iinc 1 1, 3) := by decide +kernel
theorem d_Rp_write_90 : decode k_Rp_write 90 = .ok (.goto (-68), 3) := by decide +kernel
theorem d_Rp_write_93 : decode k_Rp_write 93 = .ok (.aload_n 0, 1) := by decide +kernel
theorem d_Rp_write_94 : decode k_Rp_write 94 = .ok (.invokevirtual 73, 3) := by decide +kernel
theorem d_Rp_write_97 : decode k_Rp_write 97 = .ok (.return_, 1) := by decide +kernel
theorem gw902 : (Jvm.Cond.methodLink "SchemaDesk$Report" (45 : Nat) ({ cls := "SchemaDesk$Marks", name := "clear", desc := "()V" } : Jvm.MethodName)) ∈ GW := gw_t4 (List.mem_of_getElem? (i := 182) rfl) rfl
theorem gw928 : (Jvm.Cond.methodLink "SchemaDesk$Report" (73 : Nat) ({ cls := "SchemaDesk$Report", name := "collect", desc := "()V" } : Jvm.MethodName)) ∈ GW := gw_t4 (List.mem_of_getElem? (i := 208) rfl) rfl
theorem gw930 : (Jvm.Cond.instanceMethod ({ cls := "SchemaDesk$Report", name := "collect", desc := "()V" } : Jvm.MethodName)) ∈ GW := gw_t4 (List.mem_of_getElem? (i := 210) rfl) rfl
theorem gs37 : Cond.selects "SchemaDesk$Report" ⟨"SchemaDesk$Report", "collect", "()V"⟩ ⟨"SchemaDesk$Report", "collect", "()V"⟩ ∈ GW := gw_p3 (q := (⟨"SchemaDesk$Report", "collect", "()V"⟩, 8)) (List.mem_of_getElem? (i := 5) rfl)
theorem gw931 : (Jvm.Cond.code ({ cls := "SchemaDesk$Report", name := "collect", desc := "()V" } : Jvm.MethodName) prog_6_method_11_code (3 : Nat) (Option.none : Option Jvm.ClassFile.FieldType)) ∈ GW := gw_t4 (List.mem_of_getElem? (i := 211) rfl) rfl
theorem gw253 : (Jvm.Cond.fieldLink "SchemaDesk$Report" (58 : Nat) "SchemaDesk$Plan" "ordered" "I") ∈ GW := gw_t2 (List.mem_of_getElem? (i := 13) rfl) rfl
theorem gw250 : (Jvm.Cond.fieldLink "SchemaDesk$Report" (63 : Nat) "SchemaDesk$Plan" "order" "[I") ∈ GW := gw_t2 (List.mem_of_getElem? (i := 10) rfl) rfl
theorem gw910 : (Jvm.Cond.methodLink "SchemaDesk$Report" (70 : Nat) ({ cls := "SchemaDesk$Report", name := "explain", desc := "(II)V" } : Jvm.MethodName)) ∈ GW := gw_t4 (List.mem_of_getElem? (i := 190) rfl) rfl
theorem gw912 : (Jvm.Cond.instanceMethod ({ cls := "SchemaDesk$Report", name := "explain", desc := "(II)V" } : Jvm.MethodName)) ∈ GW := gw_t4 (List.mem_of_getElem? (i := 192) rfl) rfl
theorem gs33 : Cond.selects "SchemaDesk$Report" ⟨"SchemaDesk$Report", "explain", "(II)V"⟩ ⟨"SchemaDesk$Report", "explain", "(II)V"⟩ ∈ GW := gw_p3 (q := (⟨"SchemaDesk$Report", "explain", "(II)V"⟩, 8)) (List.mem_of_getElem? (i := 1) rfl)
theorem gw913 : (Jvm.Cond.code ({ cls := "SchemaDesk$Report", name := "explain", desc := "(II)V" } : Jvm.MethodName) prog_6_method_7_code (5 : Nat) (Option.none : Option Jvm.ClassFile.FieldType)) ∈ GW := gw_t4 (List.mem_of_getElem? (i := 193) rfl) rfl
def wb_Rp_write_0 (F : Nat → Int32 → Int32 → Nat → Nat → Sg → Prop) (post : Sg → Prop) (σ : Sg) : Prop := (wq_Mk_clear 41 σ (fun σ1 => (wq_Mk_clear 43 σ1 (fun σ2 => (wq_Rp_report (0 : Int32) (0 : Int32) σ2 (fun σ3 => F 1 (0 : Int32) 0 0 0 σ3))))))
def wb_Rp_write_1 (F : Nat → Int32 → Int32 → Nat → Nat → Sg → Prop) (post : Sg → Prop) (x1 : Int32) (kc : Nat) (ks : Nat) (σ : Sg) : Prop := (((σ.1 13 9) ≤ x1 → (kc + 5 ≤ 5 ∧ ks + 3968 ≤ 3968 ∧ (wq_Rp_collect  σ (fun σ1 => post σ1)))) ∧ (¬ (σ.1 13 9) ≤ x1 → F 2 x1 ((σ.1 29 6) - (1 : Int32)) kc ks σ))
def wb_Rp_write_2 (F : Nat → Int32 → Int32 → Nat → Nat → Sg → Prop) (post : Sg → Prop) (x1 : Int32) (x2 : Int32) (kc : Nat) (ks : Nat) (σ : Sg) : Prop := ((x2 < 0 → F 1 (x1 + 1) 0 kc ks σ) ∧ (¬ x2 < 0 → (vp_in x2 160 ∧ (wq_Mk_has 41 (σ.1 33 x2.toNatClampNeg) x1 σ (fun r1 σ1 => ((r1 = 0 → F 2 x1 (x2 + (-1)) kc ks σ1) ∧ (¬ r1 = 0 → (vp_in x2 160 ∧ (wq_Rp_explain (σ1.1 33 x2.toNatClampNeg) x1 σ1 (fun σ2 => F 2 x1 (x2 + (-1)) kc ks σ2))))))))))
def wp_Rp_write (post : Sg → Prop) : Nat → Nat → Int32 → Int32 → Nat → Nat → Sg → Prop
  | 0, _, _, _, _, _, _ => False
  | n + 1, k, x1, x2, kc, ks, σ => match k with
    | 0 => wb_Rp_write_0 (wp_Rp_write post n) post σ
    | 1 => wb_Rp_write_1 (wp_Rp_write post n) post x1 kc ks σ
    | 2 => wb_Rp_write_2 (wp_Rp_write post n) post x1 x2 kc ks σ
    | _ => False
def wq_Rp_write (σ : Sg) (post : Sg → Prop) : Prop := ∃ n, wp_Rp_write post n 0 0 0 0 0 σ
def J_Rp_write_1 (p : Program) (l : Launch) (e : Env) (s : State) (m : MethodId) (args : Array Value) (below : List Frame) (meth : Method) (c : Code) (D : va_G) (g : Gm) (A : Nat → Prop) (post : Sg → Prop) (F : Nat → Int32 → Int32 → Nat → Nat → Sg → Prop) : Prop := ∀ (x1 : Int32) (kc ks : Nat) (σ : Sg) (H : Heap) (locs : List Loc) (ls : Array Slot), lv_has ls 3 [(0, .ref (g.1 40)), (1, .int x1)] → Wst D vwCl (WS g) A s σ H locs → kc ≤ 5 ∧ ks ≤ 3968 → F 1 x1 0 kc ks σ → W p l e { frames := 19, cells := 5, slots := 3968, locals := 508 } s m args below meth c H locs kc ks (MQ below (QvW D vwCl (WS g) post A) args s 5 3968 A) (F0 m 22 ls [])
def J_Rp_write_2 (p : Program) (l : Launch) (e : Env) (s : State) (m : MethodId) (args : Array Value) (below : List Frame) (meth : Method) (c : Code) (D : va_G) (g : Gm) (A : Nat → Prop) (post : Sg → Prop) (F : Nat → Int32 → Int32 → Nat → Nat → Sg → Prop) : Prop := ∀ (x1 : Int32) (x2 : Int32) (kc ks : Nat) (σ : Sg) (H : Heap) (locs : List Loc) (ls : Array Slot), lv_has ls 3 [(0, .ref (g.1 40)), (1, .int x1), (2, .int x2)] → Wst D vwCl (WS g) A s σ H locs → kc ≤ 5 ∧ ks ≤ 3968 → F 2 x1 x2 kc ks σ → W p l e { frames := 19, cells := 5, slots := 3968, locals := 508 } s m args below meth c H locs kc ks (MQ below (QvW D vwCl (WS g) post A) args s 5 3968 A) (F0 m 43 ls [])
set_option maxRecDepth 100000 in
set_option maxHeartbeats 4000000 in
theorem b_Rp_write_0 {p : Program} {l : Launch} {e : Env} {s : State} {m : MethodId} {args : Array Value} {below : List Frame} {meth : Method} {c : Code} {D : va_G} {g : Gm} {A : Nat → Prop} {post : Sg → Prop} {F : Nat → Int32 → Int32 → Nat → Nat → Sg → Prop} (C : kC p s m args meth c k_Rp_write 3 (none) GW R_Rp D vwCl g (Zk g) A) (j1 : J_Rp_write_1 p l e s m args below meth c D g A post F) (σ : Sg) (H : Heap) (locs : List Loc) (ls : Array Slot) (hl : lv_has ls 3 [(0, .ref (g.1 40))]) (hst : Wst D vwCl (WS g) A s σ H locs) (h : wb_Rp_write_0 F post σ) : W p l e { frames := 19, cells := 5, slots := 3968, locals := 508 } s m args below meth c H locs 0 0 (MQ below (QvW D vwCl (WS g) post A) args s 5 3968 A) (F0 m 0 ls []) := by
  obtain ⟨hx, hb, hr, hml, hown, hts, hlocks, hK, hZ, hA⟩ := C
  have hk : 0 ≤ 5 ∧ 0 ≤ 3968 := ⟨Nat.zero_le _, Nat.zero_le _⟩
  unfold wb_Rp_write_0 at h
  refine lv_aload_n hx hb d_Rp_write_0 rfl (lv_at hl 0 rfl) ?_
  refine va_get (D := D) (ci := 7) (C := R_Rp) (T := T_Rp) (N := 8) hx hb hts in_Rp hown hK hst.1 40 (WS_o40 g σ) rfl 6 (by decide) (hts _ gw340) (fun _ h9 => h9) rfl d_Rp_write_1 ?_
  refine kw_callv (va_runV (As := []) (rest := []) (b := g.1 41) ⟨hx, hb, hml, hown, hts⟩ (c_Mk_clear_41 l h) (cwV 0 hts (gd_v gw902 gw801 gw802 gw12 gw803) rfl rfl rfl (by decide +kernel) ⟨Nat.le_of_ble_eq_true rfl, Nat.le_of_ble_eq_true rfl⟩) ⟨kw_blind (Zk_ok g), va_recv hK hst.1 rfl (WS_o41 g σ), kw_pre (Zk_ok g) hK hZ hA hst⟩ rfl rfl hl.1 rfl (lv_room (Nat.le_of_ble_eq_true rfl)) d_Rp_write_4 hk) hst hA (fun σ1 H locs h hst => ?_)
  refine lv_aload_n hx hb d_Rp_write_7 rfl (lv_at hl 0 rfl) ?_
  refine va_get (D := D) (ci := 7) (C := R_Rp) (T := T_Rp) (N := 8) hx hb hts in_Rp hown hK hst.1 40 (WS_o40 g σ1) rfl 7 (by decide) (hts _ gw341) (fun _ h9 => h9) rfl d_Rp_write_8 ?_
  refine kw_callv (va_runV (As := []) (rest := []) (b := g.1 43) ⟨hx, hb, hml, hown, hts⟩ (c_Mk_clear_43 l h) (cwV 0 hts (gd_v gw902 gw801 gw802 gw12 gw803) rfl rfl rfl (by decide +kernel) ⟨Nat.le_of_ble_eq_true rfl, Nat.le_of_ble_eq_true rfl⟩) ⟨kw_blind (Zk_ok g), va_recv hK hst.1 rfl (WS_o43 g σ1), kw_pre (Zk_ok g) hK hZ hA hst⟩ rfl rfl hl.1 rfl (lv_room (Nat.le_of_ble_eq_true rfl)) d_Rp_write_11 hk) hst hA (fun σ2 H locs h hst => ?_)
  refine lv_aload_n hx hb d_Rp_write_14 rfl (lv_at hl 0 rfl) ?_
  refine lv_iconst (v := (0 : Int32)) hx hb d_Rp_write_15 (by decide) ?_
  refine lv_iconst (v := (0 : Int32)) hx hb d_Rp_write_16 (by decide) ?_
  refine kw_callv (va_runV (As := [.int (0 : Int32), .int (0 : Int32)]) (rest := []) (b := g.1 40) ⟨hx, hb, hml, hown, hts⟩ (c_Rp_report l (0 : Int32) (0 : Int32) h) (cwV 2 hts (gd_v gw903 gw905 gs32 gw13 gw906) rfl rfl rfl (by decide +kernel) ⟨Nat.le_of_ble_eq_true rfl, Nat.le_of_ble_eq_true rfl⟩) ⟨kw_blind (Zk_ok g), va_recv hK hst.1 rfl (WS_o40 g σ2), kw_pre (Zk_ok g) hK hZ hA hst⟩ rfl rfl hl.1 rfl (lv_room (Nat.le_of_ble_eq_true rfl)) d_Rp_write_17 hk) hst hA (fun σ3 H locs h hst => ?_)
  refine lv_iconst (v := (0 : Int32)) hx hb d_Rp_write_20 (by decide) ?_
  refine lv_istore_n hx hb d_Rp_write_21 rfl hl (by decide) rfl (fun ls hl => ?_)
  have hl : lv_has ls 3 [(1, .int (0 : Int32)), (0, .ref (g.1 40))] := hl
  exact j1 (0 : Int32) 0 0 σ3 _ _ _ (lv_sub hl [1, 0] rfl) hst hk h
set_option maxRecDepth 100000 in
set_option maxHeartbeats 4000000 in
theorem b_Rp_write_1 {p : Program} {l : Launch} {e : Env} {s : State} {m : MethodId} {args : Array Value} {below : List Frame} {meth : Method} {c : Code} {D : va_G} {g : Gm} {A : Nat → Prop} {post : Sg → Prop} {F : Nat → Int32 → Int32 → Nat → Nat → Sg → Prop} (C : kC p s m args meth c k_Rp_write 3 (none) GW R_Rp D vwCl g (Zk g) A) (j2 : J_Rp_write_2 p l e s m args below meth c D g A post F) (x1 : Int32) (kc ks : Nat) (σ : Sg) (H : Heap) (locs : List Loc) (ls : Array Slot) (hl : lv_has ls 3 [(0, .ref (g.1 40)), (1, .int x1)]) (hst : Wst D vwCl (WS g) A s σ H locs) (hk : kc ≤ 5 ∧ ks ≤ 3968) (h : wb_Rp_write_1 F post x1 kc ks σ) : W p l e { frames := 19, cells := 5, slots := 3968, locals := 508 } s m args below meth c H locs kc ks (MQ below (QvW D vwCl (WS g) post A) args s 5 3968 A) (F0 m 22 ls []) := by
  obtain ⟨hx, hb, hr, hml, hown, hts, hlocks, hK, hZ, hA⟩ := C
  unfold wb_Rp_write_1 at h
  refine lv_iload_n hx hb d_Rp_write_22 rfl (lv_at hl 1 rfl) ?_
  refine lv_aload_n hx hb d_Rp_write_23 rfl (lv_at hl 0 rfl) ?_
  refine va_get (D := D) (ci := 7) (C := R_Rp) (T := T_Rp) (N := 8) hx hb hts in_Rp hown hK hst.1 40 (WS_o40 g σ) rfl 5 (by decide) (hts _ gw339) (fun _ h9 => h9) rfl d_Rp_write_24 ?_
  refine va_get (D := D) (ci := 0) (C := R_Tr) (T := T_Tr) (N := 12) hx hb hts in_Tr hown hK hst.1 13 (WS_o13 g σ) rfl 9 (by decide) (hts _ gw171) (fun _ h9 => h9) rfl d_Rp_write_27 ?_
  refine lv_icmp_ge (tgt := 93) hx hb d_Rp_write_30 (by decide) (fun hc => ?_) (fun hc => ?_)
  · replace h := h.1 hc
    refine lv_aload_n hx hb d_Rp_write_93 rfl (lv_at hl 0 rfl) ?_
    obtain ⟨hk1, hk2, h⟩ := h
    refine kh_callv (va_runV (As := []) (rest := []) (b := g.1 40) ⟨hx, hb, hml, hown, hts⟩ (c_Rp_collect l h) (cwV 0 hts (gd_v gw928 gw930 gs37 gw13 gw931) rfl rfl rfl (by decide +kernel) ⟨Nat.le_of_ble_eq_true rfl, Nat.le_of_ble_eq_true rfl⟩) ⟨kw_blind (Zk_ok g), va_recv hK hst.1 rfl (WS_o40 g σ), kw_pre (Zk_ok g) hK hZ hA hst⟩ rfl rfl hl.1 rfl (lv_room (Nat.le_of_ble_eq_true rfl)) d_Rp_write_94 ⟨hk1, hk2⟩) hst hA (fun σ1 H locs h hst => ?_)
    have hk := And.intro hk1 hk2
    refine W.widen (k := 5) (n := 3968) hk.1 hk.2 ?_
    exact kw_vret hx hb hr hlocks hst h d_Rp_write_97
  · replace h := h.2 hc
    refine lv_aload_n hx hb d_Rp_write_33 rfl (lv_at hl 0 rfl) ?_
    refine va_get (D := D) (ci := 7) (C := R_Rp) (T := T_Rp) (N := 8) hx hb hts in_Rp hown hK hst.1 40 (WS_o40 g σ) rfl 3 (by decide) (hts _ gw337) (fun _ h9 => h9) rfl d_Rp_write_34 ?_
    refine va_get (D := D) (ci := 5) (C := R_Pl) (T := T_Pl) (N := 10) hx hb hts in_Pl hown hK hst.1 29 (WS_o29 g σ) rfl 6 (by decide) (hts _ gw253) (fun _ h9 => h9) rfl d_Rp_write_37 ?_
    refine lv_iconst (v := (1 : Int32)) hx hb d_Rp_write_40 (by decide) ?_
    refine lv_isub hx hb d_Rp_write_41 ?_
    refine lv_istore_n hx hb d_Rp_write_42 rfl hl (by decide) rfl (fun ls hl => ?_)
    have hl : lv_has ls 3 [(2, .int ((σ.1 29 6) - (1 : Int32))), (0, .ref (g.1 40)), (1, .int x1)] := hl
    exact j2 x1 ((σ.1 29 6) - (1 : Int32)) kc ks σ _ _ _ (lv_sub hl [1, 2, 0] rfl) hst hk h
set_option maxRecDepth 100000 in
set_option maxHeartbeats 4000000 in
theorem b_Rp_write_2 {p : Program} {l : Launch} {e : Env} {s : State} {m : MethodId} {args : Array Value} {below : List Frame} {meth : Method} {c : Code} {D : va_G} {g : Gm} {A : Nat → Prop} {post : Sg → Prop} {F : Nat → Int32 → Int32 → Nat → Nat → Sg → Prop} (C : kC p s m args meth c k_Rp_write 3 (none) GW R_Rp D vwCl g (Zk g) A) (j1 : J_Rp_write_1 p l e s m args below meth c D g A post F) (j2 : J_Rp_write_2 p l e s m args below meth c D g A post F) (x1 : Int32) (x2 : Int32) (kc ks : Nat) (σ : Sg) (H : Heap) (locs : List Loc) (ls : Array Slot) (hl : lv_has ls 3 [(0, .ref (g.1 40)), (1, .int x1), (2, .int x2)]) (hst : Wst D vwCl (WS g) A s σ H locs) (hk : kc ≤ 5 ∧ ks ≤ 3968) (h : wb_Rp_write_2 F post x1 x2 kc ks σ) : W p l e { frames := 19, cells := 5, slots := 3968, locals := 508 } s m args below meth c H locs kc ks (MQ below (QvW D vwCl (WS g) post A) args s 5 3968 A) (F0 m 43 ls []) := by
  obtain ⟨hx, hb, hr, hml, hown, hts, hlocks, hK, hZ, hA⟩ := C
  unfold wb_Rp_write_2 at h
  refine lv_iload_n hx hb d_Rp_write_43 rfl (lv_at hl 2 rfl) ?_
  refine lv_if_lt (tgt := 87) hx hb d_Rp_write_44 (by decide) (fun hc => ?_) (fun hc => ?_)
  · replace h := h.1 hc
    refine lv_iinc (k := 1) (v := (x1 + 1)) hx hb d_Rp_write_87 hl rfl (kw_inc _ (by decide)) (by decide) rfl (fun ls hl => ?_)
    have hl : lv_has ls 3 [(1, .int (x1 + 1)), (0, .ref (g.1 40)), (2, .int x2)] := hl
    refine lv_goto (tgt := 22) hx hb d_Rp_write_90 (by decide) ?_
    exact j1 (x1 + 1) kc ks σ _ _ _ (lv_sub hl [1, 0] rfl) hst hk h
  · replace h := h.2 hc
    refine lv_aload_n hx hb d_Rp_write_47 rfl (lv_at hl 0 rfl) ?_
    refine va_get (D := D) (ci := 7) (C := R_Rp) (T := T_Rp) (N := 8) hx hb hts in_Rp hown hK hst.1 40 (WS_o40 g σ) rfl 6 (by decide) (hts _ gw340) (fun _ h9 => h9) rfl d_Rp_write_48 ?_
    refine lv_aload_n hx hb d_Rp_write_51 rfl (lv_at hl 0 rfl) ?_
    refine va_get (D := D) (ci := 7) (C := R_Rp) (T := T_Rp) (N := 8) hx hb hts in_Rp hown hK hst.1 40 (WS_o40 g σ) rfl 3 (by decide) (hts _ gw337) (fun _ h9 => h9) rfl d_Rp_write_52 ?_
    refine va_get (D := D) (ci := 5) (C := R_Pl) (T := T_Pl) (N := 10) hx hb hts in_Pl hown hK hst.1 29 (WS_o29 g σ) rfl 5 (by decide) (hts _ gw250) (fun _ h9 => h9) rfl d_Rp_write_55 ?_
    refine lv_iload_n hx hb d_Rp_write_58 rfl (lv_at hl 2 rfl) ?_
    obtain ⟨hi, h⟩ := h
    refine va_iald hx hb hK hst.1 33 0 (WS_a33 g σ) rfl hi d_Rp_write_59 ?_
    refine lv_iload_n hx hb d_Rp_write_60 rfl (lv_at hl 1 rfl) ?_
    refine kw_calli (va_runV (As := [.int (σ.1 33 x2.toNatClampNeg), .int x1]) (rest := []) (b := g.1 41) ⟨hx, hb, hml, hown, hts⟩ (c_Mk_has_41 l (σ.1 33 x2.toNatClampNeg) x1 h) (cwV 2 hts (gd_v gw909 gw824 gw825 gw12 gw826) rfl rfl rfl (by decide +kernel) ⟨Nat.le_of_ble_eq_true rfl, Nat.le_of_ble_eq_true rfl⟩) ⟨kw_blind (Zk_ok g), va_recv hK hst.1 rfl (WS_o41 g σ), kw_pre (Zk_ok g) hK hZ hA hst⟩ rfl rfl hl.1 rfl (lv_room (Nat.le_of_ble_eq_true rfl)) d_Rp_write_61 hk) hst hA (fun r1 σ1 H locs h hst => ?_)
    refine lv_if_eq (tgt := 81) hx hb d_Rp_write_64 (by decide) (fun hc => ?_) (fun hc => ?_)
    · replace h := h.1 hc
      refine lv_iinc (k := 2) (v := (x2 + (-1))) hx hb d_Rp_write_81 hl rfl (kw_inc _ (by decide)) (by decide) rfl (fun ls hl => ?_)
      have hl : lv_has ls 3 [(2, .int (x2 + (-1))), (0, .ref (g.1 40)), (1, .int x1)] := hl
      refine lv_goto (tgt := 43) hx hb d_Rp_write_84 (by decide) ?_
      exact j2 x1 (x2 + (-1)) kc ks σ1 _ _ _ (lv_sub hl [1, 2, 0] rfl) hst hk h
    · replace h := h.2 hc
      refine lv_aload_n hx hb d_Rp_write_67 rfl (lv_at hl 0 rfl) ?_
      refine lv_aload_n hx hb d_Rp_write_68 rfl (lv_at hl 0 rfl) ?_
      refine va_get (D := D) (ci := 7) (C := R_Rp) (T := T_Rp) (N := 8) hx hb hts in_Rp hown hK hst.1 40 (WS_o40 g σ1) rfl 3 (by decide) (hts _ gw337) (fun _ h9 => h9) rfl d_Rp_write_69 ?_
      refine va_get (D := D) (ci := 5) (C := R_Pl) (T := T_Pl) (N := 10) hx hb hts in_Pl hown hK hst.1 29 (WS_o29 g σ1) rfl 5 (by decide) (hts _ gw250) (fun _ h9 => h9) rfl d_Rp_write_72 ?_
      refine lv_iload_n hx hb d_Rp_write_75 rfl (lv_at hl 2 rfl) ?_
      obtain ⟨hi, h⟩ := h
      refine va_iald hx hb hK hst.1 33 0 (WS_a33 g σ1) rfl hi d_Rp_write_76 ?_
      refine lv_iload_n hx hb d_Rp_write_77 rfl (lv_at hl 1 rfl) ?_
      refine kw_callv (va_runV (As := [.int (σ1.1 33 x2.toNatClampNeg), .int x1]) (rest := []) (b := g.1 40) ⟨hx, hb, hml, hown, hts⟩ (c_Rp_explain l (σ1.1 33 x2.toNatClampNeg) x1 h) (cwV 2 hts (gd_v gw910 gw912 gs33 gw13 gw913) rfl rfl rfl (by decide +kernel) ⟨Nat.le_of_ble_eq_true rfl, Nat.le_of_ble_eq_true rfl⟩) ⟨kw_blind (Zk_ok g), va_recv hK hst.1 rfl (WS_o40 g σ1), kw_pre (Zk_ok g) hK hZ hA hst⟩ rfl rfl hl.1 rfl (lv_room (Nat.le_of_ble_eq_true rfl)) d_Rp_write_78 hk) hst hA (fun σ2 H locs h hst => ?_)
      refine lv_iinc (k := 2) (v := (x2 + (-1))) hx hb d_Rp_write_81 hl rfl (kw_inc _ (by decide)) (by decide) rfl (fun ls hl => ?_)
      have hl : lv_has ls 3 [(2, .int (x2 + (-1))), (0, .ref (g.1 40)), (1, .int x1)] := hl
      refine lv_goto (tgt := 43) hx hb d_Rp_write_84 (by decide) ?_
      exact j2 x1 (x2 + (-1)) kc ks σ2 _ _ _ (lv_sub hl [1, 2, 0] rfl) hst hk h
set_option maxRecDepth 100000 in
set_option maxHeartbeats 4000000 in
theorem a_Rp_write {p : Program} {l : Launch} {e : Env} {s : State} {m : MethodId} {args : Array Value} {below : List Frame} {meth : Method} {c : Code} {D : va_G} {g : Gm} {A : Nat → Prop} {post : Sg → Prop} (C : kC p s m args meth c k_Rp_write 3 (none) GW R_Rp D vwCl g (Zk g) A) : ∀ n : Nat, J_Rp_write_1 p l e s m args below meth c D g A post (wp_Rp_write post n) ∧ J_Rp_write_2 p l e s m args below meth c D g A post (wp_Rp_write post n) := by
  intro n
  induction n with
  | zero => exact ⟨fun _ _ _ _ _ _ _ _ _ _ h => h.elim, fun _ _ _ _ _ _ _ _ _ _ _ h => h.elim⟩
  | succ n ih => exact ⟨fun x1 kc ks σ H locs ls hl hst hk h => b_Rp_write_1 (F := wp_Rp_write post n) C (ih.2) x1 kc ks σ H locs ls hl hst hk h, fun x1 x2 kc ks σ H locs ls hl hst hk h => b_Rp_write_2 (F := wp_Rp_write post n) C (ih.1) (ih.2) x1 x2 kc ks σ H locs ls hl hst hk h⟩
set_option maxRecDepth 100000 in
set_option maxHeartbeats 4000000 in
theorem c_Rp_write (l : Launch) {D : va_G} {g : Gm} {sz : Nat} {σ : Sg} {post : Sg → Prop} (h : wq_Rp_write σ post) : Met l y_Rp_write (.code y_Rp_write k_Rp_write 3 (none) :: GW) { frames := 19, cells := 5, slots := 3968, locals := 508 } (PcW D vwCl (WS g) g (Zk g) σ sz [.ref (g.1 40)]) (QvW D vwCl (WS g) post (va_A (WS g σ) sz)) 5 3968 (va_A (WS g σ) sz) := by
  refine kw_entry (own := R_Rp) (by decide) rfl rfl (Nat.le_of_ble_eq_true rfl) ?_
  intro p e s m below meth c ls hsz C hin hl hst
  obtain ⟨n, h⟩ := h
  cases n with
  | zero => exact h.elim
  | succ n =>
    have ih := a_Rp_write (l := l) (e := e) (below := below) (post := post) C n
    exact b_Rp_write_0 (F := wp_Rp_write post n) C (ih.1) σ _ _ ls hl hst h
/-! SchemaDesk.judge ()I -/
theorem gw898 : (Jvm.Cond.methodLink "SchemaDesk" (183 : Nat) ({ cls := "SchemaDesk$Report", name := "write", desc := "()V" } : Jvm.MethodName)) ∈ GW := gw_t4 (List.mem_of_getElem? (i := 178) rfl) rfl
theorem gw899 : (Jvm.Cond.instanceMethod ({ cls := "SchemaDesk$Report", name := "write", desc := "()V" } : Jvm.MethodName)) ∈ GW := gw_t4 (List.mem_of_getElem? (i := 179) rfl) rfl
theorem gw900 : (Jvm.Cond.selects "SchemaDesk$Report" ({ cls := "SchemaDesk$Report", name := "write", desc := "()V" } : Jvm.MethodName) ({ cls := "SchemaDesk$Report", name := "write", desc := "()V" } : Jvm.MethodName)) ∈ GW := gw_t4 (List.mem_of_getElem? (i := 180) rfl) rfl
theorem gw901 : (Jvm.Cond.code ({ cls := "SchemaDesk$Report", name := "write", desc := "()V" } : Jvm.MethodName) prog_6_method_5_code (3 : Nat) (Option.none : Option Jvm.ClassFile.FieldType)) ∈ GW := gw_t4 (List.mem_of_getElem? (i := 181) rfl) rfl
def wq_Sd_judge (σ : Sg) (post : Int32 → Sg → Prop) : Prop := (wq_Sd_readTree (0 : Int32) σ (fun r1 σ1 => (r1 = 0 ∨ r1 = 13) ∧ ((0 < (σ1.1 r1 11) → False) ∧ (¬ 0 < (σ1.1 r1 11) → (wq_Sd_readTree (1 : Int32) σ1 (fun r2 σ2 => (r2 = 0 ∨ r2 = 13) ∧ (((σ2.1 r2 11) ≤ 0 → (wq_Pl_refresh  σ2 (fun σ3 => (((σ3.1 29 7) = 0 → (wq_Vd_refresh  σ3 (fun σ4 => (0 + 5 ≤ 5 ∧ 0 + 3968 ≤ 3968 ∧ (wq_Rp_write  σ4 (fun σ5 => post (σ5.1 40 0) σ5)))))) ∧ (¬ (σ3.1 29 7) = 0 → False))))) ∧ (¬ (σ2.1 r2 11) ≤ 0 → False))))))))
set_option maxRecDepth 100000 in
set_option maxHeartbeats 4000000 in
theorem b_Sd_judge_0 {p : Program} {l : Launch} {e : Env} {s : State} {m : MethodId} {args : Array Value} {below : List Frame} {meth : Method} {c : Code} {D : va_G} {g : Gm} {A : Nat → Prop} {post : Int32 → Sg → Prop} (C : kC p s m args meth c k_Sd_judge 1 (some .int) GW R_Sd D vwCl g (Zk g) A) (σ : Sg) (H : Heap) (locs : List Loc) (ls : Array Slot) (hl : lv_has ls 1 [(0, .ref (g.1 51))]) (hst : Wst D vwCl (WS g) A s σ H locs) (h : wq_Sd_judge  σ post) : W p l e { frames := 37, cells := 5, slots := 3968, locals := 928 } s m args below meth c H locs 0 0 (MQ below (QiW D vwCl (WS g) post A) args s 5 3968 A) (F0 m 0 ls []) := by
  obtain ⟨hx, hb, hr, hml, hown, hts, hlocks, hK, hZ, hA⟩ := C
  have hk : 0 ≤ 5 ∧ 0 ≤ 3968 := ⟨Nat.zero_le _, Nat.zero_le _⟩
  unfold wq_Sd_judge at h
  refine lv_aload_n hx hb d_Sd_judge_0 rfl (lv_at hl 0 rfl) ?_
  refine lv_iconst (v := (0 : Int32)) hx hb d_Sd_judge_1 (by decide) ?_
  refine kw_callr (va_runV (As := [.int (0 : Int32)]) (rest := []) (b := g.1 51) ⟨hx, hb, hml, hown, hts⟩ (c_Sd_readTree l (0 : Int32) h) (cwV 1 hts (gd_v gw605 gw607 gs3 gw1 gw608) rfl rfl rfl (by decide +kernel) ⟨Nat.le_of_ble_eq_true rfl, Nat.le_of_ble_eq_true rfl⟩) ⟨kw_blind (Zk_ok g), va_recv hK hst.1 rfl (WS_o51 g σ), kw_pre (Zk_ok g) hK hZ hA hst⟩ rfl rfl hl.1 rfl (lv_room (Nat.le_of_ble_eq_true rfl)) d_Sd_judge_2 hk) hst hA (fun r1 σ1 H locs h hst => ?_)
  obtain ⟨hb1, h⟩ := h
  rcases hb1 with rfl | rfl
  · refine va_get (D := D) (ci := 0) (C := R_Tr) (T := T_Tr) (N := 12) hx hb hts in_Tr hown hK hst.1 0 (WS_o0 g σ1) rfl 11 (by decide) (hts _ gw176) (fun _ h9 => h9) rfl d_Sd_judge_5 ?_
    refine lv_if_gt (tgt := 22) hx hb d_Sd_judge_8 (by decide) (fun hc => ?_) (fun hc => ?_)
    · replace h := h.1 hc
      exact h.elim
    · replace h := h.2 hc
      refine lv_aload_n hx hb d_Sd_judge_11 rfl (lv_at hl 0 rfl) ?_
      refine lv_iconst (v := (1 : Int32)) hx hb d_Sd_judge_12 (by decide) ?_
      refine kw_callr (va_runV (As := [.int (1 : Int32)]) (rest := []) (b := g.1 51) ⟨hx, hb, hml, hown, hts⟩ (c_Sd_readTree l (1 : Int32) h) (cwV 1 hts (gd_v gw605 gw607 gs3 gw1 gw608) rfl rfl rfl (by decide +kernel) ⟨Nat.le_of_ble_eq_true rfl, Nat.le_of_ble_eq_true rfl⟩) ⟨kw_blind (Zk_ok g), va_recv hK hst.1 rfl (WS_o51 g σ1), kw_pre (Zk_ok g) hK hZ hA hst⟩ rfl rfl hl.1 rfl (lv_room (Nat.le_of_ble_eq_true rfl)) d_Sd_judge_13 hk) hst hA (fun r2 σ2 H locs h hst => ?_)
      obtain ⟨hb1, h⟩ := h
      rcases hb1 with rfl | rfl
      · refine va_get (D := D) (ci := 0) (C := R_Tr) (T := T_Tr) (N := 12) hx hb hts in_Tr hown hK hst.1 0 (WS_o0 g σ2) rfl 11 (by decide) (hts _ gw176) (fun _ h9 => h9) rfl d_Sd_judge_16 ?_
        refine lv_if_le (tgt := 30) hx hb d_Sd_judge_19 (by decide) (fun hc => ?_) (fun hc => ?_)
        · replace h := h.1 hc
          refine lv_aload_n hx hb d_Sd_judge_30 rfl (lv_at hl 0 rfl) ?_
          refine va_get (D := D) (ci := 9) (C := R_Sd) (T := T_Sd) (N := 9) hx hb hts in_Sd hown hK hst.1 51 (WS_o51 g σ2) rfl 5 (by decide) (hts _ gw404) (fun _ h9 => h9) rfl d_Sd_judge_31 ?_
          refine kw_callv (va_runV (As := []) (rest := []) (b := g.1 29) ⟨hx, hb, hml, hown, hts⟩ (c_Pl_refresh l h) (cwV 0 hts (gd_v gw742 gw743 gw744 gw10 gw745) rfl rfl rfl (by decide +kernel) ⟨Nat.le_of_ble_eq_true rfl, Nat.le_of_ble_eq_true rfl⟩) ⟨kw_blind (Zk_ok g), va_recv hK hst.1 rfl (WS_o29 g σ2), kw_pre (Zk_ok g) hK hZ hA hst⟩ rfl rfl hl.1 rfl (lv_room (Nat.le_of_ble_eq_true rfl)) d_Sd_judge_34 hk) hst hA (fun σ3 H locs h hst => ?_)
          refine lv_aload_n hx hb d_Sd_judge_37 rfl (lv_at hl 0 rfl) ?_
          refine va_get (D := D) (ci := 9) (C := R_Sd) (T := T_Sd) (N := 9) hx hb hts in_Sd hown hK hst.1 51 (WS_o51 g σ3) rfl 5 (by decide) (hts _ gw404) (fun _ h9 => h9) rfl d_Sd_judge_38 ?_
          refine va_get (D := D) (ci := 5) (C := R_Pl) (T := T_Pl) (N := 10) hx hb hts in_Pl hown hK hst.1 29 (WS_o29 g σ3) rfl 7 (by decide) (hts _ gw256) (fun _ h9 => h9) rfl d_Sd_judge_41 ?_
          refine lv_if_eq (tgt := 55) hx hb d_Sd_judge_44 (by decide) (fun hc => ?_) (fun hc => ?_)
          · replace h := h.1 hc
            refine lv_aload_n hx hb d_Sd_judge_55 rfl (lv_at hl 0 rfl) ?_
            refine va_get (D := D) (ci := 9) (C := R_Sd) (T := T_Sd) (N := 9) hx hb hts in_Sd hown hK hst.1 51 (WS_o51 g σ3) rfl 6 (by decide) (hts _ gw405) (fun _ h9 => h9) rfl d_Sd_judge_56 ?_
            refine kw_callv (va_runV (As := []) (rest := []) (b := g.1 35) ⟨hx, hb, hml, hown, hts⟩ (c_Vd_refresh l h) (cwV 0 hts (gd_v gw796 gw797 gw798 gw11 gw799) rfl rfl rfl (by decide +kernel) ⟨Nat.le_of_ble_eq_true rfl, Nat.le_of_ble_eq_true rfl⟩) ⟨kw_blind (Zk_ok g), va_recv hK hst.1 rfl (WS_o35 g σ3), kw_pre (Zk_ok g) hK hZ hA hst⟩ rfl rfl hl.1 rfl (lv_room (Nat.le_of_ble_eq_true rfl)) d_Sd_judge_59 hk) hst hA (fun σ4 H locs h hst => ?_)
            refine lv_aload_n hx hb d_Sd_judge_62 rfl (lv_at hl 0 rfl) ?_
            refine va_get (D := D) (ci := 9) (C := R_Sd) (T := T_Sd) (N := 9) hx hb hts in_Sd hown hK hst.1 51 (WS_o51 g σ4) rfl 7 (by decide) (hts _ gw406) (fun _ h9 => h9) rfl d_Sd_judge_63 ?_
            obtain ⟨hk1, hk2, h⟩ := h
            refine kh_callv (va_runV (As := []) (rest := []) (b := g.1 40) ⟨hx, hb, hml, hown, hts⟩ (c_Rp_write l h) (cwV 0 hts (gd_v gw898 gw899 gw900 gw13 gw901) rfl rfl rfl (by decide +kernel) ⟨Nat.le_of_ble_eq_true rfl, Nat.le_of_ble_eq_true rfl⟩) ⟨kw_blind (Zk_ok g), va_recv hK hst.1 rfl (WS_o40 g σ4), kw_pre (Zk_ok g) hK hZ hA hst⟩ rfl rfl hl.1 rfl (lv_room (Nat.le_of_ble_eq_true rfl)) d_Sd_judge_66 ⟨hk1, hk2⟩) hst hA (fun σ5 H locs h hst => ?_)
            have hk := And.intro hk1 hk2
            refine lv_aload_n hx hb d_Sd_judge_69 rfl (lv_at hl 0 rfl) ?_
            refine va_get (D := D) (ci := 9) (C := R_Sd) (T := T_Sd) (N := 9) hx hb hts in_Sd hown hK hst.1 51 (WS_o51 g σ5) rfl 7 (by decide) (hts _ gw406) (fun _ h9 => h9) rfl d_Sd_judge_70 ?_
            refine va_get (D := D) (ci := 7) (C := R_Rp) (T := T_Rp) (N := 8) hx hb hts in_Rp hown hK hst.1 40 (WS_o40 g σ5) rfl 0 (by decide) (hts _ gw334) (fun _ h9 => h9) rfl d_Sd_judge_73 ?_
            refine W.widen (k := 5) (n := 3968) hk.1 hk.2 ?_
            exact kw_iret hx hb hr hlocks hst h d_Sd_judge_76
          · replace h := h.2 hc
            exact h.elim
        · replace h := h.2 hc
          exact h.elim
      · refine va_get (D := D) (ci := 0) (C := R_Tr) (T := T_Tr) (N := 12) hx hb hts in_Tr hown hK hst.1 13 (WS_o13 g σ2) rfl 11 (by decide) (hts _ gw176) (fun _ h9 => h9) rfl d_Sd_judge_16 ?_
        refine lv_if_le (tgt := 30) hx hb d_Sd_judge_19 (by decide) (fun hc => ?_) (fun hc => ?_)
        · replace h := h.1 hc
          refine lv_aload_n hx hb d_Sd_judge_30 rfl (lv_at hl 0 rfl) ?_
          refine va_get (D := D) (ci := 9) (C := R_Sd) (T := T_Sd) (N := 9) hx hb hts in_Sd hown hK hst.1 51 (WS_o51 g σ2) rfl 5 (by decide) (hts _ gw404) (fun _ h9 => h9) rfl d_Sd_judge_31 ?_
          refine kw_callv (va_runV (As := []) (rest := []) (b := g.1 29) ⟨hx, hb, hml, hown, hts⟩ (c_Pl_refresh l h) (cwV 0 hts (gd_v gw742 gw743 gw744 gw10 gw745) rfl rfl rfl (by decide +kernel) ⟨Nat.le_of_ble_eq_true rfl, Nat.le_of_ble_eq_true rfl⟩) ⟨kw_blind (Zk_ok g), va_recv hK hst.1 rfl (WS_o29 g σ2), kw_pre (Zk_ok g) hK hZ hA hst⟩ rfl rfl hl.1 rfl (lv_room (Nat.le_of_ble_eq_true rfl)) d_Sd_judge_34 hk) hst hA (fun σ3 H locs h hst => ?_)
          refine lv_aload_n hx hb d_Sd_judge_37 rfl (lv_at hl 0 rfl) ?_
          refine va_get (D := D) (ci := 9) (C := R_Sd) (T := T_Sd) (N := 9) hx hb hts in_Sd hown hK hst.1 51 (WS_o51 g σ3) rfl 5 (by decide) (hts _ gw404) (fun _ h9 => h9) rfl d_Sd_judge_38 ?_
          refine va_get (D := D) (ci := 5) (C := R_Pl) (T := T_Pl) (N := 10) hx hb hts in_Pl hown hK hst.1 29 (WS_o29 g σ3) rfl 7 (by decide) (hts _ gw256) (fun _ h9 => h9) rfl d_Sd_judge_41 ?_
          refine lv_if_eq (tgt := 55) hx hb d_Sd_judge_44 (by decide) (fun hc => ?_) (fun hc => ?_)
          · replace h := h.1 hc
            refine lv_aload_n hx hb d_Sd_judge_55 rfl (lv_at hl 0 rfl) ?_
            refine va_get (D := D) (ci := 9) (C := R_Sd) (T := T_Sd) (N := 9) hx hb hts in_Sd hown hK hst.1 51 (WS_o51 g σ3) rfl 6 (by decide) (hts _ gw405) (fun _ h9 => h9) rfl d_Sd_judge_56 ?_
            refine kw_callv (va_runV (As := []) (rest := []) (b := g.1 35) ⟨hx, hb, hml, hown, hts⟩ (c_Vd_refresh l h) (cwV 0 hts (gd_v gw796 gw797 gw798 gw11 gw799) rfl rfl rfl (by decide +kernel) ⟨Nat.le_of_ble_eq_true rfl, Nat.le_of_ble_eq_true rfl⟩) ⟨kw_blind (Zk_ok g), va_recv hK hst.1 rfl (WS_o35 g σ3), kw_pre (Zk_ok g) hK hZ hA hst⟩ rfl rfl hl.1 rfl (lv_room (Nat.le_of_ble_eq_true rfl)) d_Sd_judge_59 hk) hst hA (fun σ4 H locs h hst => ?_)
            refine lv_aload_n hx hb d_Sd_judge_62 rfl (lv_at hl 0 rfl) ?_
            refine va_get (D := D) (ci := 9) (C := R_Sd) (T := T_Sd) (N := 9) hx hb hts in_Sd hown hK hst.1 51 (WS_o51 g σ4) rfl 7 (by decide) (hts _ gw406) (fun _ h9 => h9) rfl d_Sd_judge_63 ?_
            obtain ⟨hk1, hk2, h⟩ := h
            refine kh_callv (va_runV (As := []) (rest := []) (b := g.1 40) ⟨hx, hb, hml, hown, hts⟩ (c_Rp_write l h) (cwV 0 hts (gd_v gw898 gw899 gw900 gw13 gw901) rfl rfl rfl (by decide +kernel) ⟨Nat.le_of_ble_eq_true rfl, Nat.le_of_ble_eq_true rfl⟩) ⟨kw_blind (Zk_ok g), va_recv hK hst.1 rfl (WS_o40 g σ4), kw_pre (Zk_ok g) hK hZ hA hst⟩ rfl rfl hl.1 rfl (lv_room (Nat.le_of_ble_eq_true rfl)) d_Sd_judge_66 ⟨hk1, hk2⟩) hst hA (fun σ5 H locs h hst => ?_)
            have hk := And.intro hk1 hk2
            refine lv_aload_n hx hb d_Sd_judge_69 rfl (lv_at hl 0 rfl) ?_
            refine va_get (D := D) (ci := 9) (C := R_Sd) (T := T_Sd) (N := 9) hx hb hts in_Sd hown hK hst.1 51 (WS_o51 g σ5) rfl 7 (by decide) (hts _ gw406) (fun _ h9 => h9) rfl d_Sd_judge_70 ?_
            refine va_get (D := D) (ci := 7) (C := R_Rp) (T := T_Rp) (N := 8) hx hb hts in_Rp hown hK hst.1 40 (WS_o40 g σ5) rfl 0 (by decide) (hts _ gw334) (fun _ h9 => h9) rfl d_Sd_judge_73 ?_
            refine W.widen (k := 5) (n := 3968) hk.1 hk.2 ?_
            exact kw_iret hx hb hr hlocks hst h d_Sd_judge_76
          · replace h := h.2 hc
            exact h.elim
        · replace h := h.2 hc
          exact h.elim
  · refine va_get (D := D) (ci := 0) (C := R_Tr) (T := T_Tr) (N := 12) hx hb hts in_Tr hown hK hst.1 13 (WS_o13 g σ1) rfl 11 (by decide) (hts _ gw176) (fun _ h9 => h9) rfl d_Sd_judge_5 ?_
    refine lv_if_gt (tgt := 22) hx hb d_Sd_judge_8 (by decide) (fun hc => ?_) (fun hc => ?_)
    · replace h := h.1 hc
      exact h.elim
    · replace h := h.2 hc
      refine lv_aload_n hx hb d_Sd_judge_11 rfl (lv_at hl 0 rfl) ?_
      refine lv_iconst (v := (1 : Int32)) hx hb d_Sd_judge_12 (by decide) ?_
      refine kw_callr (va_runV (As := [.int (1 : Int32)]) (rest := []) (b := g.1 51) ⟨hx, hb, hml, hown, hts⟩ (c_Sd_readTree l (1 : Int32) h) (cwV 1 hts (gd_v gw605 gw607 gs3 gw1 gw608) rfl rfl rfl (by decide +kernel) ⟨Nat.le_of_ble_eq_true rfl, Nat.le_of_ble_eq_true rfl⟩) ⟨kw_blind (Zk_ok g), va_recv hK hst.1 rfl (WS_o51 g σ1), kw_pre (Zk_ok g) hK hZ hA hst⟩ rfl rfl hl.1 rfl (lv_room (Nat.le_of_ble_eq_true rfl)) d_Sd_judge_13 hk) hst hA (fun r2 σ2 H locs h hst => ?_)
      obtain ⟨hb1, h⟩ := h
      rcases hb1 with rfl | rfl
      · refine va_get (D := D) (ci := 0) (C := R_Tr) (T := T_Tr) (N := 12) hx hb hts in_Tr hown hK hst.1 0 (WS_o0 g σ2) rfl 11 (by decide) (hts _ gw176) (fun _ h9 => h9) rfl d_Sd_judge_16 ?_
        refine lv_if_le (tgt := 30) hx hb d_Sd_judge_19 (by decide) (fun hc => ?_) (fun hc => ?_)
        · replace h := h.1 hc
          refine lv_aload_n hx hb d_Sd_judge_30 rfl (lv_at hl 0 rfl) ?_
          refine va_get (D := D) (ci := 9) (C := R_Sd) (T := T_Sd) (N := 9) hx hb hts in_Sd hown hK hst.1 51 (WS_o51 g σ2) rfl 5 (by decide) (hts _ gw404) (fun _ h9 => h9) rfl d_Sd_judge_31 ?_
          refine kw_callv (va_runV (As := []) (rest := []) (b := g.1 29) ⟨hx, hb, hml, hown, hts⟩ (c_Pl_refresh l h) (cwV 0 hts (gd_v gw742 gw743 gw744 gw10 gw745) rfl rfl rfl (by decide +kernel) ⟨Nat.le_of_ble_eq_true rfl, Nat.le_of_ble_eq_true rfl⟩) ⟨kw_blind (Zk_ok g), va_recv hK hst.1 rfl (WS_o29 g σ2), kw_pre (Zk_ok g) hK hZ hA hst⟩ rfl rfl hl.1 rfl (lv_room (Nat.le_of_ble_eq_true rfl)) d_Sd_judge_34 hk) hst hA (fun σ3 H locs h hst => ?_)
          refine lv_aload_n hx hb d_Sd_judge_37 rfl (lv_at hl 0 rfl) ?_
          refine va_get (D := D) (ci := 9) (C := R_Sd) (T := T_Sd) (N := 9) hx hb hts in_Sd hown hK hst.1 51 (WS_o51 g σ3) rfl 5 (by decide) (hts _ gw404) (fun _ h9 => h9) rfl d_Sd_judge_38 ?_
          refine va_get (D := D) (ci := 5) (C := R_Pl) (T := T_Pl) (N := 10) hx hb hts in_Pl hown hK hst.1 29 (WS_o29 g σ3) rfl 7 (by decide) (hts _ gw256) (fun _ h9 => h9) rfl d_Sd_judge_41 ?_
          refine lv_if_eq (tgt := 55) hx hb d_Sd_judge_44 (by decide) (fun hc => ?_) (fun hc => ?_)
          · replace h := h.1 hc
            refine lv_aload_n hx hb d_Sd_judge_55 rfl (lv_at hl 0 rfl) ?_
            refine va_get (D := D) (ci := 9) (C := R_Sd) (T := T_Sd) (N := 9) hx hb hts in_Sd hown hK hst.1 51 (WS_o51 g σ3) rfl 6 (by decide) (hts _ gw405) (fun _ h9 => h9) rfl d_Sd_judge_56 ?_
            refine kw_callv (va_runV (As := []) (rest := []) (b := g.1 35) ⟨hx, hb, hml, hown, hts⟩ (c_Vd_refresh l h) (cwV 0 hts (gd_v gw796 gw797 gw798 gw11 gw799) rfl rfl rfl (by decide +kernel) ⟨Nat.le_of_ble_eq_true rfl, Nat.le_of_ble_eq_true rfl⟩) ⟨kw_blind (Zk_ok g), va_recv hK hst.1 rfl (WS_o35 g σ3), kw_pre (Zk_ok g) hK hZ hA hst⟩ rfl rfl hl.1 rfl (lv_room (Nat.le_of_ble_eq_true rfl)) d_Sd_judge_59 hk) hst hA (fun σ4 H locs h hst => ?_)
            refine lv_aload_n hx hb d_Sd_judge_62 rfl (lv_at hl 0 rfl) ?_
            refine va_get (D := D) (ci := 9) (C := R_Sd) (T := T_Sd) (N := 9) hx hb hts in_Sd hown hK hst.1 51 (WS_o51 g σ4) rfl 7 (by decide) (hts _ gw406) (fun _ h9 => h9) rfl d_Sd_judge_63 ?_
            obtain ⟨hk1, hk2, h⟩ := h
            refine kh_callv (va_runV (As := []) (rest := []) (b := g.1 40) ⟨hx, hb, hml, hown, hts⟩ (c_Rp_write l h) (cwV 0 hts (gd_v gw898 gw899 gw900 gw13 gw901) rfl rfl rfl (by decide +kernel) ⟨Nat.le_of_ble_eq_true rfl, Nat.le_of_ble_eq_true rfl⟩) ⟨kw_blind (Zk_ok g), va_recv hK hst.1 rfl (WS_o40 g σ4), kw_pre (Zk_ok g) hK hZ hA hst⟩ rfl rfl hl.1 rfl (lv_room (Nat.le_of_ble_eq_true rfl)) d_Sd_judge_66 ⟨hk1, hk2⟩) hst hA (fun σ5 H locs h hst => ?_)
            have hk := And.intro hk1 hk2
            refine lv_aload_n hx hb d_Sd_judge_69 rfl (lv_at hl 0 rfl) ?_
            refine va_get (D := D) (ci := 9) (C := R_Sd) (T := T_Sd) (N := 9) hx hb hts in_Sd hown hK hst.1 51 (WS_o51 g σ5) rfl 7 (by decide) (hts _ gw406) (fun _ h9 => h9) rfl d_Sd_judge_70 ?_
            refine va_get (D := D) (ci := 7) (C := R_Rp) (T := T_Rp) (N := 8) hx hb hts in_Rp hown hK hst.1 40 (WS_o40 g σ5) rfl 0 (by decide) (hts _ gw334) (fun _ h9 => h9) rfl d_Sd_judge_73 ?_
            refine W.widen (k := 5) (n := 3968) hk.1 hk.2 ?_
            exact kw_iret hx hb hr hlocks hst h d_Sd_judge_76
          · replace h := h.2 hc
            exact h.elim
        · replace h := h.2 hc
          exact h.elim
      · refine va_get (D := D) (ci := 0) (C := R_Tr) (T := T_Tr) (N := 12) hx hb hts in_Tr hown hK hst.1 13 (WS_o13 g σ2) rfl 11 (by decide) (hts _ gw176) (fun _ h9 => h9) rfl d_Sd_judge_16 ?_
        refine lv_if_le (tgt := 30) hx hb d_Sd_judge_19 (by decide) (fun hc => ?_) (fun hc => ?_)
        · replace h := h.1 hc
          refine lv_aload_n hx hb d_Sd_judge_30 rfl (lv_at hl 0 rfl) ?_
          refine va_get (D := D) (ci := 9) (C := R_Sd) (T := T_Sd) (N := 9) hx hb hts in_Sd hown hK hst.1 51 (WS_o51 g σ2) rfl 5 (by decide) (hts _ gw404) (fun _ h9 => h9) rfl d_Sd_judge_31 ?_
          refine kw_callv (va_runV (As := []) (rest := []) (b := g.1 29) ⟨hx, hb, hml, hown, hts⟩ (c_Pl_refresh l h) (cwV 0 hts (gd_v gw742 gw743 gw744 gw10 gw745) rfl rfl rfl (by decide +kernel) ⟨Nat.le_of_ble_eq_true rfl, Nat.le_of_ble_eq_true rfl⟩) ⟨kw_blind (Zk_ok g), va_recv hK hst.1 rfl (WS_o29 g σ2), kw_pre (Zk_ok g) hK hZ hA hst⟩ rfl rfl hl.1 rfl (lv_room (Nat.le_of_ble_eq_true rfl)) d_Sd_judge_34 hk) hst hA (fun σ3 H locs h hst => ?_)
          refine lv_aload_n hx hb d_Sd_judge_37 rfl (lv_at hl 0 rfl) ?_
          refine va_get (D := D) (ci := 9) (C := R_Sd) (T := T_Sd) (N := 9) hx hb hts in_Sd hown hK hst.1 51 (WS_o51 g σ3) rfl 5 (by decide) (hts _ gw404) (fun _ h9 => h9) rfl d_Sd_judge_38 ?_
          refine va_get (D := D) (ci := 5) (C := R_Pl) (T := T_Pl) (N := 10) hx hb hts in_Pl hown hK hst.1 29 (WS_o29 g σ3) rfl 7 (by decide) (hts _ gw256) (fun _ h9 => h9) rfl d_Sd_judge_41 ?_
          refine lv_if_eq (tgt := 55) hx hb d_Sd_judge_44 (by decide) (fun hc => ?_) (fun hc => ?_)
          · replace h := h.1 hc
            refine lv_aload_n hx hb d_Sd_judge_55 rfl (lv_at hl 0 rfl) ?_
            refine va_get (D := D) (ci := 9) (C := R_Sd) (T := T_Sd) (N := 9) hx hb hts in_Sd hown hK hst.1 51 (WS_o51 g σ3) rfl 6 (by decide) (hts _ gw405) (fun _ h9 => h9) rfl d_Sd_judge_56 ?_
            refine kw_callv (va_runV (As := []) (rest := []) (b := g.1 35) ⟨hx, hb, hml, hown, hts⟩ (c_Vd_refresh l h) (cwV 0 hts (gd_v gw796 gw797 gw798 gw11 gw799) rfl rfl rfl (by decide +kernel) ⟨Nat.le_of_ble_eq_true rfl, Nat.le_of_ble_eq_true rfl⟩) ⟨kw_blind (Zk_ok g), va_recv hK hst.1 rfl (WS_o35 g σ3), kw_pre (Zk_ok g) hK hZ hA hst⟩ rfl rfl hl.1 rfl (lv_room (Nat.le_of_ble_eq_true rfl)) d_Sd_judge_59 hk) hst hA (fun σ4 H locs h hst => ?_)
            refine lv_aload_n hx hb d_Sd_judge_62 rfl (lv_at hl 0 rfl) ?_
            refine va_get (D := D) (ci := 9) (C := R_Sd) (T := T_Sd) (N := 9) hx hb hts in_Sd hown hK hst.1 51 (WS_o51 g σ4) rfl 7 (by decide) (hts _ gw406) (fun _ h9 => h9) rfl d_Sd_judge_63 ?_
            obtain ⟨hk1, hk2, h⟩ := h
            refine kh_callv (va_runV (As := []) (rest := []) (b := g.1 40) ⟨hx, hb, hml, hown, hts⟩ (c_Rp_write l h) (cwV 0 hts (gd_v gw898 gw899 gw900 gw13 gw901) rfl rfl rfl (by decide +kernel) ⟨Nat.le_of_ble_eq_true rfl, Nat.le_of_ble_eq_true rfl⟩) ⟨kw_blind (Zk_ok g), va_recv hK hst.1 rfl (WS_o40 g σ4), kw_pre (Zk_ok g) hK hZ hA hst⟩ rfl rfl hl.1 rfl (lv_room (Nat.le_of_ble_eq_true rfl)) d_Sd_judge_66 ⟨hk1, hk2⟩) hst hA (fun σ5 H locs h hst => ?_)
            have hk := And.intro hk1 hk2
            refine lv_aload_n hx hb d_Sd_judge_69 rfl (lv_at hl 0 rfl) ?_
            refine va_get (D := D) (ci := 9) (C := R_Sd) (T := T_Sd) (N := 9) hx hb hts in_Sd hown hK hst.1 51 (WS_o51 g σ5) rfl 7 (by decide) (hts _ gw406) (fun _ h9 => h9) rfl d_Sd_judge_70 ?_
            refine va_get (D := D) (ci := 7) (C := R_Rp) (T := T_Rp) (N := 8) hx hb hts in_Rp hown hK hst.1 40 (WS_o40 g σ5) rfl 0 (by decide) (hts _ gw334) (fun _ h9 => h9) rfl d_Sd_judge_73 ?_
            refine W.widen (k := 5) (n := 3968) hk.1 hk.2 ?_
            exact kw_iret hx hb hr hlocks hst h d_Sd_judge_76
          · replace h := h.2 hc
            exact h.elim
        · replace h := h.2 hc
          exact h.elim
set_option maxRecDepth 100000 in
set_option maxHeartbeats 4000000 in
theorem c_Sd_judge (l : Launch) {D : va_G} {g : Gm} {sz : Nat} {σ : Sg} {post : Int32 → Sg → Prop} (h : wq_Sd_judge σ post) : Met l y_Sd_judge (.code y_Sd_judge k_Sd_judge 1 (some .int) :: GW) { frames := 37, cells := 5, slots := 3968, locals := 928 } (PcW D vwCl (WS g) g (Zk g) σ sz [.ref (g.1 51)]) (QiW D vwCl (WS g) post (va_A (WS g σ) sz)) 5 3968 (va_A (WS g σ) sz) := by
  refine kw_entry (own := R_Sd) (by decide) rfl rfl (Nat.le_of_ble_eq_true rfl) ?_
  intro p e s m below meth c ls hsz C hin hl hst
  exact b_Sd_judge_0 C σ _ _ ls hl hst h
abbrev k_Lw_judge : ByteArray := method_12_code
abbrev y_Lw_judge : MethodName := ⟨"SchemaDeskLaw", "judge", "(LSchemaDesk;[J)I"⟩
theorem d_Lw_judge_0 : decode k_Lw_judge 0 = .ok (.aload_n 1, 1) := by decide +kernel
theorem d_Lw_judge_1 : decode k_Lw_judge 1 = .ok (.iconst 0, 1) := by decide +kernel
theorem d_Lw_judge_2 : decode k_Lw_judge 2 = .ok (.aload_n 0, 1) := by decide +kernel
theorem d_Lw_judge_3 : decode k_Lw_judge 3 = .ok (.invokevirtual 53, 3) := by decide +kernel
theorem d_Lw_judge_6 : decode k_Lw_judge 6 = .ok (.i2l, 1) := by decide +kernel
theorem d_Lw_judge_7 : decode k_Lw_judge 7 = .ok (.lastore, 1) := by decide +kernel
theorem d_Lw_judge_8 : decode k_Lw_judge 8 = .ok (.goto 9, 3) := by decide +kernel
theorem d_Lw_judge_11 : decode k_Lw_judge 11 = .ok (.astore_n 2, 1) := by decide +kernel
theorem d_Lw_judge_12 : decode k_Lw_judge 12 = .ok (.iconst 1, 1) := by decide +kernel
theorem d_Lw_judge_13 : decode k_Lw_judge 13 = .ok (.ireturn, 1) := by decide +kernel
theorem d_Lw_judge_14 : decode k_Lw_judge 14 = .ok (.astore_n 2, 1) := by decide +kernel
theorem d_Lw_judge_15 : decode k_Lw_judge 15 = .ok (.iconst 2, 1) := by decide +kernel
theorem d_Lw_judge_16 : decode k_Lw_judge 16 = .ok (.ireturn, 1) := by decide +kernel
theorem d_Lw_judge_17 : decode k_Lw_judge 17 = .ok (.iconst 0, 1) := by decide +kernel
theorem d_Lw_judge_18 : decode k_Lw_judge 18 = .ok (.ireturn, 1) := by decide +kernel
theorem gw894 : (Jvm.Cond.methodLink "SchemaDeskLaw" (53 : Nat) ({ cls := "SchemaDesk", name := "judge", desc := "()I" } : Jvm.MethodName)) ∈ GW := gw_t4 (List.mem_of_getElem? (i := 174) rfl) rfl
theorem gw895 : (Jvm.Cond.instanceMethod ({ cls := "SchemaDesk", name := "judge", desc := "()I" } : Jvm.MethodName)) ∈ GW := gw_t4 (List.mem_of_getElem? (i := 175) rfl) rfl
theorem gw896 : (Jvm.Cond.selects "SchemaDesk" ({ cls := "SchemaDesk", name := "judge", desc := "()I" } : Jvm.MethodName) ({ cls := "SchemaDesk", name := "judge", desc := "()I" } : Jvm.MethodName)) ∈ GW := gw_t4 (List.mem_of_getElem? (i := 176) rfl) rfl
theorem gw897 : (Jvm.Cond.code ({ cls := "SchemaDesk", name := "judge", desc := "()I" } : Jvm.MethodName) prog_1_method_13_code (1 : Nat) (Option.some Jvm.ClassFile.FieldType.int)) ∈ GW := gw_t4 (List.mem_of_getElem? (i := 177) rfl) rfl
def wq_Lw_judge (σ : Sg) (post : Int32 → Sg → Prop) : Prop := ((wq_Sd_judge σ (fun r1 σ1 => (vp_in (0 : Int32) 1 ∧ (∀ σ2, σ2 = sl σ1 53 ((0 : Int32) : Int32).toNatClampNeg ((r1 : Int32).toInt64) → post (0 : Int32) σ2)))) ∨ (wq_Sd_judge_is σ (fun σ1 => post (1 : Int32) σ1)) ∨ (wq_Sd_judge_uo σ (fun σ1 => post (2 : Int32) σ1)))
set_option maxRecDepth 100000 in
set_option maxHeartbeats 4000000 in
theorem b_Lw_judge_0 {p : Program} {l : Launch} {e : Env} {s : State} {m : MethodId} {args : Array Value} {below : List Frame} {meth : Method} {c : Code} {D : va_G} {g : Gm} {A : Nat → Prop} {post : Int32 → Sg → Prop} (C : kC p s m args meth c k_Lw_judge 3 (some .int) GW R_Lw D vwCl g (Zk g) A) (htr : l.stackTraces = false) (htab : c.exceptionTable.toList.map (fun h => (h.startPc, h.endPc, h.handlerPc, h.catchType)) = [(0, 8, 11, 17), (0, 8, 14, 51)]) (σ : Sg) (H : Heap) (locs : List Loc) (ls : Array Slot) (hl : lv_has ls 3 [(0, .ref (g.1 51)), (1, .ref (g.1 53))]) (hst : Wst D vwCl (WS g) A s σ H locs) (h : wq_Lw_judge  σ post) : W p l e { frames := 38, cells := 5, slots := 3968, locals := 948 } s m args below meth c H locs 0 0 (MQ below (QiW D vwCl (WS g) post A) args s 5 3968 A) (F0 m 0 ls []) := by
  obtain ⟨hx, hb, hr, hml, hown, hts, hlocks, hK, hZ, hA⟩ := C
  unfold wq_Lw_judge at h
  refine lv_aload_n hx hb d_Lw_judge_0 rfl (lv_at hl 1 rfl) ?_
  refine lv_iconst (v := (0 : Int32)) hx hb d_Lw_judge_1 (by decide) ?_
  refine lv_aload_n hx hb d_Lw_judge_2 rfl (lv_at hl 0 rfl) ?_
  rcases h with h | h | h
  · refine kh_calli (va_runV (As := []) (rest := [.int (0 : Int32), .ref (g.1 53)]) (b := g.1 51) ⟨hx, hb, hml, hown, hts⟩ (c_Sd_judge l h) (cwV 0 hts (gd_v gw894 gw895 gw896 gw1 gw897) rfl rfl rfl (by decide +kernel) ⟨Nat.le_of_ble_eq_true rfl, Nat.le_of_ble_eq_true rfl⟩) ⟨kw_blind (Zk_ok g), va_recv hK hst.1 rfl (WS_o51 g σ), kw_pre (Zk_ok g) hK hZ hA hst⟩ rfl rfl hl.1 rfl (lv_room (Nat.le_of_ble_eq_true rfl)) d_Lw_judge_3 ⟨Nat.le_of_ble_eq_true rfl, Nat.le_of_ble_eq_true rfl⟩) hst hA (fun r1 σ1 H locs h hst => ?_)
    refine lv_i2l hx hb d_Lw_judge_6 rfl ?_
    obtain ⟨hi, h⟩ := h
    refine kw_last hx hb hK hst 53 (WS_a53 g σ1) hi (WS_s53 g σ1 _ _) d_Lw_judge_7 (fun σ2 H locs e2 hst => ?_)
    replace h := h σ2 e2
    refine lv_goto (tgt := 17) hx hb d_Lw_judge_8 (by decide) ?_
    refine lv_iconst (v := (0 : Int32)) hx hb d_Lw_judge_17 (by decide) ?_
    refine W.widen (k := 5) (n := 3968) (Nat.le_of_ble_eq_true rfl) (Nat.le_of_ble_eq_true rfl) ?_
    exact kw_iret hx hb hr hlocks hst h d_Lw_judge_18
  · refine kh_throw (E := E_is) (hpc := 11) (As := []) (rest := [.int (0 : Int32), .ref (g.1 53)]) (b := g.1 51) ⟨hx, hb, hml, hown, hts⟩ (c_Sd_judge_is l htr h) (cwV 0 hts (gd_v gw894 gw895 gw896 gw1 gw897) rfl rfl rfl (by decide +kernel) ⟨Nat.le_of_ble_eq_true rfl, Nat.le_of_ble_eq_true rfl⟩) ⟨kw_blind (Zk_ok g), va_recv hK hst.1 rfl (WS_o51 g σ), kw_pre (Zk_ok g) hK hZ hA hst⟩ rfl hl.1 rfl (Nat.le_of_ble_eq_true rfl) d_Lw_judge_3 ⟨Nat.le_of_ble_eq_true rfl, Nat.le_of_ble_eq_true rfl⟩ (fun ha k hk => kc_of _ _ htab (kc_hy ⟨Nat.zero_le _, Nat.le_of_ble_eq_true rfl⟩ (by decide) (kc_yes ha hown (hts _ gw473) (hZ.2.2.2.1.1.use (List.mem_of_getElem? (i := 5) rfl)) hk))) hst hA (fun x_1 σ1 H locs h hst => ?_)
    refine lv_astore_n hx hb d_Lw_judge_11 rfl hl (by decide) rfl (fun ls hl => ?_)
    have hl : lv_has ls 3 [(2, .ref x_1), (0, .ref (g.1 51)), (1, .ref (g.1 53))] := hl
    refine lv_iconst (v := (1 : Int32)) hx hb d_Lw_judge_12 (by decide) ?_
    refine W.widen (k := 5) (n := 3968) (Nat.le_of_ble_eq_true rfl) (Nat.le_of_ble_eq_true rfl) ?_
    exact kw_iret hx hb hr hlocks hst h d_Lw_judge_13
  · refine kh_throw (E := E_uo) (hpc := 14) (As := []) (rest := [.int (0 : Int32), .ref (g.1 53)]) (b := g.1 51) ⟨hx, hb, hml, hown, hts⟩ (c_Sd_judge_uo l htr h) (cwV 0 hts (gd_v gw894 gw895 gw896 gw1 gw897) rfl rfl rfl (by decide +kernel) ⟨Nat.le_of_ble_eq_true rfl, Nat.le_of_ble_eq_true rfl⟩) ⟨kw_blind (Zk_ok g), va_recv hK hst.1 rfl (WS_o51 g σ), kw_pre (Zk_ok g) hK hZ hA hst⟩ rfl hl.1 rfl (Nat.le_of_ble_eq_true rfl) d_Lw_judge_3 ⟨Nat.le_of_ble_eq_true rfl, Nat.le_of_ble_eq_true rfl⟩ (fun ha k hk => kc_of _ _ htab (kc_hn ⟨Nat.zero_le _, Nat.le_of_ble_eq_true rfl⟩ (by decide) (kc_no ha hown (hts _ gw473) (hZ.2.2.2.1.2 _ (List.mem_of_getElem? (i := 5) rfl)) hk) (kc_hy ⟨Nat.zero_le _, Nat.le_of_ble_eq_true rfl⟩ (by decide) (kc_yes ha hown (hts _ gw737) (hZ.2.2.2.1.1.use (List.mem_of_getElem? (i := 7) rfl)) hk)))) hst hA (fun x_1 σ1 H locs h hst => ?_)
    refine lv_astore_n hx hb d_Lw_judge_14 rfl hl (by decide) rfl (fun ls hl => ?_)
    have hl : lv_has ls 3 [(2, .ref x_1), (0, .ref (g.1 51)), (1, .ref (g.1 53))] := hl
    refine lv_iconst (v := (2 : Int32)) hx hb d_Lw_judge_15 (by decide) ?_
    refine W.widen (k := 5) (n := 3968) (Nat.le_of_ble_eq_true rfl) (Nat.le_of_ble_eq_true rfl) ?_
    exact kw_iret hx hb hr hlocks hst h d_Lw_judge_16
set_option maxRecDepth 100000 in
set_option maxHeartbeats 4000000 in
theorem c_Lw_judge (l : Launch) {D : va_G} {g : Gm} (htr : l.stackTraces = false) {sz : Nat} {σ : Sg} {post : Int32 → Sg → Prop} (h : wq_Lw_judge σ post) : Met l y_Lw_judge (.codeWith y_Lw_judge k_Lw_judge 3 (some .int) [(0, 8, 11, 17), (0, 8, 14, 51)] :: GW) { frames := 38, cells := 5, slots := 3968, locals := 948 } (PcW D vwCl (WS g) g (Zk g) σ sz [.ref (g.1 51), .ref (g.1 53)]) (QiW D vwCl (WS g) post (va_A (WS g σ) sz)) 5 3968 (va_A (WS g σ) sz) := by
  refine kh_entry (own := R_Lw) (by decide) rfl rfl (Nat.le_of_ble_eq_true rfl) ?_
  intro p e s m below meth c ls hsz C htab hl hst
  exact b_Lw_judge_0 C htr htab σ _ _ ls hl hst h
