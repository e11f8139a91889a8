theorem lt_1 {w : Cond} (h : w ∈ tables_1_1) : w ∈ lw_tbl := List.mem_append_right _ (show w ∈ tables_1 from List.mem_append_left _ h)
theorem lt_2 {w : Cond} (h : w ∈ tables_1_2) : w ∈ lw_tbl := List.mem_append_right _ (show w ∈ tables_1 from List.mem_append_right _ (List.mem_append_left _ h))
theorem lt_3 {w : Cond} (h : w ∈ tables_1_3) : w ∈ lw_tbl := List.mem_append_right _ (show w ∈ tables_1 from List.mem_append_right _ (List.mem_append_right _ (List.mem_append_left _ h)))
theorem lt_4 {w : Cond} (h : w ∈ tables_1_4) : w ∈ lw_tbl := List.mem_append_right _ (show w ∈ tables_1 from List.mem_append_right _ (List.mem_append_right _ (List.mem_append_right _ (List.mem_append_left _ h))))
theorem lt_5 {w : Cond} (h : w ∈ tables_1_5) : w ∈ lw_tbl := List.mem_append_right _ (show w ∈ tables_1 from List.mem_append_right _ (List.mem_append_right _ (List.mem_append_right _ (List.mem_append_right _ (List.mem_append_left _ h)))))
theorem lt_6 {w : Cond} (h : w ∈ tables_1_6) : w ∈ lw_tbl := List.mem_append_right _ (show w ∈ tables_1 from List.mem_append_right _ (List.mem_append_right _ (List.mem_append_right _ (List.mem_append_right _ (List.mem_append_right _ (List.mem_append_left _ h))))))
theorem lt_7 {w : Cond} (h : w ∈ tables_1_7) : w ∈ lw_tbl := List.mem_append_right _ (show w ∈ tables_1 from List.mem_append_right _ (List.mem_append_right _ (List.mem_append_right _ (List.mem_append_right _ (List.mem_append_right _ (List.mem_append_right _ (h)))))))
theorem gw28 : (Jvm.Cond.instantiable "SchemaDesk" (9 : Nat)) ∈ GW := gw_t1 (List.mem_of_getElem? (i := 28) rfl) rfl
theorem gw1032 : (Jvm.Cond.instantiable "SchemaDeskModel" (46 : Nat)) ∈ GW := gw_t5 (List.mem_of_getElem? (i := 72) rfl) rfl
theorem ks_known {s : State} {args : Array Value} (hts : ∀ w ∈ GW, w.before args s = true) : ∃ (D : va_G) (t : Nat → ClassId), ∀ ad : Nat → Nat, va_K D vwCl (TYS (ad, t)) s := by
  obtain ⟨c0, i0, h0⟩ := u_known (N := 12) hts in_Tr (hts _ gw98)
  obtain ⟨c1, i1, h1⟩ := u_known (N := 2) hts in_Tx (hts _ gw100)
  obtain ⟨c2, i2, h2⟩ := u_known (N := 5) hts in_Rd (hts _ gw203)
  obtain ⟨c3, i3, h3⟩ := u_known (N := 1) hts in_Mk (hts _ gw289)
  obtain ⟨c4, i4, h4⟩ := u_known (N := 2) hts in_Wb (hts _ gw36)
  obtain ⟨c5, i5, h5⟩ := u_known (N := 10) hts in_Pl (hts _ gw227)
  obtain ⟨c6, i6, h6⟩ := u_known (N := 6) hts in_Vd (hts _ gw283)
  obtain ⟨c7, i7, h7⟩ := u_known (N := 8) hts in_Rp (hts _ gw326)
  obtain ⟨c8, i8, h8⟩ := u_known (N := 10) hts in_Pr (hts _ gw360)
  obtain ⟨c9, i9, h9⟩ := u_known (N := 9) hts in_Sd (hts _ gw28)
  obtain ⟨c10, i10, h10⟩ := u_known (N := 46) hts in_Md (hts _ gw1032)
  obtain ⟨a0, k0, m0, e0, f0, g0⟩ := Cond.arrayClass_spec (hts _ gw96)
  obtain ⟨a1, k1, m1, e1, f1, g1⟩ := Cond.arrayClass_spec (hts _ gw95)
  obtain ⟨a2, k2, m2, e2, f2, g2⟩ := Cond.arrayClass_spec (hts _ gw281)
  obtain ⟨a3, k3, m3, e3, f3, g3⟩ := Cond.arrayClass_spec (hts _ gw298)
  refine ⟨(fun k => match k with | 0 => c0 | 1 => c1 | 2 => c2 | 3 => c3 | 4 => c4 | 5 => c5 | 6 => c6 | 7 => c7 | 8 => c8 | 9 => c9 | _ => c10, fun k => match k with | 0 => i0 | 1 => i1 | 2 => i2 | 3 => i3 | 4 => i4 | 5 => i5 | 6 => i6 | 7 => i7 | 8 => i8 | 9 => i9 | _ => i10), (fun k => match k with | 0 => a0 | 1 => a1 | 2 => a2 | _ => a3), fun ad => ⟨fun c q hq => ?_, fun k q hq => ?_⟩⟩
  · match c, hq with
    | 0, hq => obtain rfl := Option.some.inj hq; exact h0
    | 1, hq => obtain rfl := Option.some.inj hq; exact h1
    | 2, hq => obtain rfl := Option.some.inj hq; exact h2
    | 3, hq => obtain rfl := Option.some.inj hq; exact h3
    | 4, hq => obtain rfl := Option.some.inj hq; exact h4
    | 5, hq => obtain rfl := Option.some.inj hq; exact h5
    | 6, hq => obtain rfl := Option.some.inj hq; exact h6
    | 7, hq => obtain rfl := Option.some.inj hq; exact h7
    | 8, hq => obtain rfl := Option.some.inj hq; exact h8
    | 9, hq => obtain rfl := Option.some.inj hq; exact h9
    | 10, hq => obtain rfl := Option.some.inj hq; exact h10
    | c + 11, hq => simp at hq
  · match k, hq with
    | 0, hq => obtain rfl := Option.some.inj hq; exact ⟨fun n z => ⟨fun k h => (by cases h), k0, f0, m0, g0⟩, e0⟩
    | 1, hq => obtain rfl := Option.some.inj hq; exact ⟨fun n z => ⟨fun k h => (by cases h), k1, f1, m1, g1⟩, e1⟩
    | 2, hq => obtain rfl := Option.some.inj hq; exact ⟨fun n z => ⟨fun k h => (by cases h), k2, f2, m2, g2⟩, e2⟩
    | 3, hq => obtain rfl := Option.some.inj hq; exact ⟨fun n z => ⟨fun k h => (by cases h), k3, f3, m3, g3⟩, e3⟩
    | k + 4, hq => simp at hq
theorem ks_L {args : Array Value} {s : State} {n d : String} {A : Nat → Prop} (hl : (Cond.laysStatic "java/lang/Throwable" n d).before args s = true) (h : (Cond.isRef (.static "java/lang/Throwable" n d)).before args s = true) (hA : ∀ a : Nat, a < s.heap.size → ¬ A a) : kz_L n d A s s.heap := by
  obtain ⟨c, k, i, f, a, cell, hc, hi, hst, ha, hcell, hs, hcls, hlt, hty⟩ := Cond.laysStatic_spec hl
  cases hv : (Term.static "java/lang/Throwable" n d).eval args s none [] s with
  | none => simp [Cond.before, Cond.holds, Cond.value, hv] at h
  | some w =>
    obtain ⟨hst', a', cell', ha', hcell', -, hslot⟩ := Term.static_spec hi hv
    cases ha.symm.trans ha'
    cases hcell.symm.trans hcell'
    refine ⟨c, k, i, f, a, cell, w, hc, hi, hst, ha, hcell, hs, hcls, hlt, hty, hslot, ?_, hA a (Array.getElem?_eq_some_iff.mp hcell).1⟩
    cases w <;> simp [Cond.before, Cond.holds, Cond.value, hv] at h ⊢
set_option maxRecDepth 100000 in
set_option maxHeartbeats 4000000 in
theorem ks_Z {s : State} {args : Array Value} {A : Nat → Prop} (hts : ∀ w ∈ lw_tbl, w.before args s = true) (hgv : (Jvm.Cond.and given_1 narrow_1).before args s = true) (hA : ∀ a : Nat, a < s.heap.size → ¬ A a) : ∃ t : Nat, ∀ (ad : Nat → Nat) (tt : Nat → ClassId), ad 92 = t → Zk (ad, tt) A s s.heap := by
  have hf := flat_of_before _ hgv
  have hlen : (Term.length (.static "SchemaDesk" "WORD_OF_KIND" "[I")).eval args s none [] s = some (.int (Int32.ofNat 7)) := va_eqt (hf (.eq (.length (.static "SchemaDesk" "WORD_OF_KIND" "[I")) (.int 7)) (by decide +kernel))
  obtain ⟨t, ht, hT⟩ := va_Tof (N := 7) (f := fun j => .int (kwd j)) (A := A) (by decide) (hf (.arrayOf (.static "SchemaDesk" "WORD_OF_KIND" "[I") .int) (by decide +kernel)) hlen (fun j hj => by
    rcases (show j = 0 ∨ j = 1 ∨ j = 2 ∨ j = 3 ∨ j = 4 ∨ j = 5 ∨ j = 6 by omega) with rfl | rfl | rfl | rfl | rfl | rfl | rfl
    · exact va_eqt (hf (.eq (.elem (.static "SchemaDesk" "WORD_OF_KIND" "[I") (.int 0)) (.int 22)) (by decide +kernel))
    · exact va_eqt (hf (.eq (.elem (.static "SchemaDesk" "WORD_OF_KIND" "[I") (.int 1)) (.int 23)) (by decide +kernel))
    · exact va_eqt (hf (.eq (.elem (.static "SchemaDesk" "WORD_OF_KIND" "[I") (.int 2)) (.int 23)) (by decide +kernel))
    · exact va_eqt (hf (.eq (.elem (.static "SchemaDesk" "WORD_OF_KIND" "[I") (.int 3)) (.int 24)) (by decide +kernel))
    · exact va_eqt (hf (.eq (.elem (.static "SchemaDesk" "WORD_OF_KIND" "[I") (.int 4)) (.int 25)) (by decide +kernel))
    · exact va_eqt (hf (.eq (.elem (.static "SchemaDesk" "WORD_OF_KIND" "[I") (.int 5)) (.int 26)) (by decide +kernel))
    · exact va_eqt (hf (.eq (.elem (.static "SchemaDesk" "WORD_OF_KIND" "[I") (.int 6)) (.int 27)) (by decide +kernel))) hA
  have hZ := va_Zref (hts _ (lt_4 (List.mem_of_getElem? (i := 135) rfl))) (hts _ (lt_1 (List.mem_of_getElem? (i := 1) rfl))) ht hA
  refine ⟨t, fun ad tt h => ?_⟩
  have hn : va_Nw (Jvm.Cond.fieldLinkNest "SchemaDesk$Verdicts" (166 : Nat) "SchemaDesk" "WORD_OF_KIND" "[I" "SchemaDesk") s := va_Nw.of rfl (hts _ (lt_4 (List.mem_of_getElem? (i := 134) rfl)))
  have h1 : kz_T s := by
    show ∀ w ∈ thrW, w.before #[] s = true
    unfold thrW
    exact kt_c (va_tabs rfl rfl (hts _ (lt_3 (List.mem_of_getElem? (i := 1) rfl)))) (kt_c (va_tabs rfl rfl (hts _ (lt_3 (List.mem_of_getElem? (i := 3) rfl)))) (kt_c (va_tabs rfl rfl (hts _ (lt_3 (List.mem_of_getElem? (i := 5) rfl)))) (kt_c (va_tabs rfl rfl (hts _ (lt_3 (List.mem_of_getElem? (i := 0) rfl)))) (kt_c (va_tabs rfl rfl (hts _ (lt_3 (List.mem_of_getElem? (i := 65) rfl)))) (kt_c (va_tabs rfl rfl (hts _ (lt_3 (List.mem_of_getElem? (i := 80) rfl)))) (kt_c (va_tabs rfl rfl (hts _ (lt_3 (List.mem_of_getElem? (i := 227) rfl)))) (kt_c (va_tabs rfl rfl (hts _ (lt_4 (List.mem_of_getElem? (i := 63) rfl)))) (kt_n))))))))
  have h2 : kz_N s := by
    show ∀ q ∈ thrN, va_Nc q.1 q.2 s
    unfold thrN
    exact List.forall_mem_cons.mpr ⟨va_Nc.of (args := args) (hf (.not (.castable E_io E_ia)) (by decide +kernel)), List.forall_mem_cons.mpr ⟨va_Nc.of (args := args) (hf (.not (.castable E_is E_ia)) (by decide +kernel)), List.forall_mem_cons.mpr ⟨va_Nc.of (args := args) (hf (.not (.castable E_is E_io)) (by decide +kernel)), List.forall_mem_cons.mpr ⟨va_Nc.of (args := args) (hf (.not (.castable E_ns E_ia)) (by decide +kernel)), List.forall_mem_cons.mpr ⟨va_Nc.of (args := args) (hf (.not (.castable E_uo E_ns)) (by decide +kernel)), List.forall_mem_cons.mpr ⟨va_Nc.of (args := args) (hf (.not (.castable E_uo E_is)) (by decide +kernel)), fun _ h => absurd h List.not_mem_nil⟩⟩⟩⟩⟩⟩
  have h3 : kz_L "UNASSIGNED_STACK" "[Ljava/lang/StackTraceElement;" A s s.heap := ks_L (hts _ (lt_3 (List.mem_of_getElem? (i := 25) rfl))) (hf (.isRef (.static "java/lang/Throwable" "UNASSIGNED_STACK" "[Ljava/lang/StackTraceElement;")) (by decide +kernel)) hA
  have h4 : kz_L "SUPPRESSED_SENTINEL" "Ljava/util/List;" A s s.heap := ks_L (hts _ (lt_3 (List.mem_of_getElem? (i := 27) rfl))) (hf (.isRef (.static "java/lang/Throwable" "SUPPRESSED_SENTINEL" "Ljava/util/List;")) (by decide +kernel)) hA
  exact ⟨by show va_Z _ _ _ (.ref (ad 92)) _ _ _; rw [h]; exact hZ, by show va_T _ (ad 92) _ _ _ _ _; rw [h]; exact hT, hn, ⟨h1, h2⟩, h3, h4⟩
theorem ks_nest {s : State} {args : Array Value} (hts : ∀ w ∈ lw_tbl, w.before args s = true) : nestW s := ⟨va_Nw.of rfl (hts _ (lt_2 (List.mem_of_getElem? (i := 50) rfl))), va_Nw.of rfl (hts _ (lt_2 (List.mem_of_getElem? (i := 92) rfl))), va_Nw.of rfl (hts _ (lt_2 (List.mem_of_getElem? (i := 126) rfl)))⟩
/-- the law's loop, by turns -/
def wl_F (L : Nat) (xs : Nat → Int32) : Nat → Int32 → Sg → Prop
  | 0, _, _ => False
  | n + 1, x, σ => wb_Lw_law L xs (wl_F L xs n) x σ
set_option maxRecDepth 100000 in
set_option maxHeartbeats 4000000 in
theorem ks_loop {p : Program} {l : Launch} {e : Env} {s : State} {m : MethodId} {below : List Frame} {meth : Method} {c : Code} {D : va_G} {g : Gm} {b L : Nat} {xs : Nat → Int32} (htr : l.stackTraces = false) (C : kC p s m #[Value.ref b] meth c code 7 ret GW R_Lw D vwCl g (Zk g) (fun q => s.heap.size ≤ q)) (hX : va_X b L xs s s.heap) (hbl : b < s.heap.size) :
    ∀ (n kc ks : Nat) (x4 : Int32) (σ : Sg) (H : Heap) (locs : List Loc) (ls : Array Slot), kc + 5 * n ≤ room_1.cells → ks + 3968 * n ≤ room_1.slots → lv_has ls 7 [(4, .int x4), (3, .ref (g.1 53)), (2, .ref (g.1 54)), (1, .ref (g.1 51)), (0, .ref b)] → Wst D vwCl (WS g) (fun q => s.heap.size ≤ q) s σ H locs → wl_F L xs n x4 σ →
      W p l e room_1 s m #[Value.ref b] below meth c H locs kc ks (lw_Z below #[Value.ref b] s) (F0 m 23 ls []) := by
  intro n
  induction n with
  | zero => intro kc ks x4 σ H locs ls _ _ _ _ h; exact h.elim
  | succ n ih =>
    intro kc ks x4 σ H locs ls h1 h2 hl hst h
    have h3 : kc + 5 ≤ room_1.cells ∧ ks + 3968 ≤ room_1.slots := ⟨by omega, by omega⟩
    exact b_Lw_law (F := wl_F L xs n) htr C hX hbl h3 x4 (fun σ H locs ls hl hst h => ih (kc + 5) (ks + 3968) (x4 + 4) σ H locs ls (by omega) (by omega) hl hst h) σ H locs ls hl hst h
