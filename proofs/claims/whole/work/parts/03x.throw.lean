/-! A throw: what it needs of the tables and of Throwable's statics, and what the catching needs. -/
abbrev E_ia : String := "java/lang/IllegalArgumentException"
abbrev E_io : String := "java/lang/IndexOutOfBoundsException"
abbrev E_is : String := "java/lang/IllegalStateException"
abbrev E_ns : String := "java/util/NoSuchElementException"
abbrev E_uo : String := "java/lang/UnsupportedOperationException"
abbrev E_up : List String := ["java/lang/RuntimeException", "java/lang/Exception"]
def thrW : List Cond := [.declares ⟨"java/lang/RuntimeException", "<init>", "()V"⟩, .declares ⟨"java/lang/Exception", "<init>", "()V"⟩, .declares ⟨"java/lang/Throwable", "<init>", "()V"⟩,
  .castable E_ia E_ia, .castable E_io E_io, .castable E_is E_is, .castable E_ns E_ns, .castable E_uo E_uo]
def thrN : List (String × String) := [(E_io, E_ia), (E_is, E_ia), (E_is, E_io), (E_ns, E_ia), (E_uo, E_ns), (E_uo, E_is)]
def kz_N (U : State) : Prop := ∀ q ∈ thrN, va_Nc q.1 q.2 U
theorem thrW_ok : ∀ w ∈ thrW, w.onTables = true ∧ w.keepsCast = true := by decide +kernel
def kz_T (U : State) : Prop := ∀ w ∈ thrW, w.before #[] U = true
theorem kz_T.moved {u U : State} (hW : u.WarmedH U.vm) (h : kz_T u) : kz_T U := fun w hw =>
  va_tabs (thrW_ok w hw).1 (rfl : (u.setVm U.vm).vm = U.vm) (Cond.before_shiftedCast (State.Shifted.of_warmed hW) w (thrW_ok w hw).2 (h w hw))
theorem kz_T.use {U : State} (h : kz_T U) {w : Cond} (hw : w ∈ thrW) {args : Array Value} : w.before args U = true := va_tabs (thrW_ok w hw).1 rfl (h w hw)
def kz_L (n d : String) (A : Nat → Prop) (U : State) (H : Heap) : Prop := ∃ (c : ClassId) (k : Class) (i : Nat) (f : Field) (a : Nat) (cell : Cell) (v : Value), U.vm.findClass "java/lang/Throwable" = some c ∧ U.fieldFound? "java/lang/Throwable" n d = some (c, k, i, f) ∧ f.isStatic = true ∧ k.statics = some a ∧ H[a]? = some cell ∧ cell.vm.isStatics = true ∧ cell.cls = c ∧ f.slot < cell.slots.size ∧ k.staticTypes[f.slot]? = some f.type ∧ cell.slots[f.slot]? = some v ∧ (v = .null ∨ ∃ t, v = .ref t) ∧ ¬ A a
theorem kz_L.moved {n d : String} {A : Nat → Prop} {u U : State} {H : Heap} (hvm : u.vm.Alike U.vm) (h : kz_L n d A u H) : kz_L n d A U H := by
  obtain ⟨c, k, i, f, a, cell, v, h0, h1, h2, h3, h4, h5, h6, h7, h8, h9⟩ := h
  obtain ⟨k', hi', he⟩ := State.fieldFound?_setVm hvm h1
  exact ⟨c, k', i, f, a, cell, v, by rw [hvm.findClass]; exact h0, hi', h2, by rw [he]; exact h3, h4, h5, h6, h7, by rw [he]; exact h8, h9⟩
theorem kz_L.kept {n d : String} {A : Nat → Prop} {U : State} {H H1 : Heap} (h : kz_L n d A U H) (hq : ∀ a : Nat, a < H.size → ¬ A a → H1[a]? = H[a]?) : kz_L n d A U H1 := by
  obtain ⟨c, k, i, f, a, cell, v, h0, h1, h2, h3, h4, h5, h6, h7, h8, h9, h10, h11⟩ := h
  exact ⟨c, k, i, f, a, cell, v, h0, h1, h2, h3, by rw [hq a (Array.getElem?_eq_some_iff.mp h4).1 h11]; exact h4, h5, h6, h7, h8, h9, h10, h11⟩
theorem kz_L.narrow {n d : String} {A B : Nat → Prop} {U : State} {H : Heap} (h : kz_L n d A U H) (hAB : ∀ q, B q → A q) : kz_L n d B U H := by
  obtain ⟨c, k, i, f, a, cell, v, h0, h1, h2, h3, h4, h5, h6, h7, h8, h9, h10, h11⟩ := h
  exact ⟨c, k, i, f, a, cell, v, h0, h1, h2, h3, h4, h5, h6, h7, h8, h9, h10, fun z => h11 (hAB a z)⟩
theorem kz_L.lays {n d : String} {A : Nat → Prop} {U : State} (h : kz_L n d A U U.heap) {args : Array Value} : (Cond.laysStatic "java/lang/Throwable" n d).before args U = true := by
  obtain ⟨c, k, i, f, a, cell, v, h0, h1, h2, h3, h4, h5, h6, h7, h8, h9, h10, h11⟩ := h
  simp [Cond.before, Cond.holds, Cond.value, h0, h1, h2, h3, h4, h5, h6, h7, h8]
theorem kz_L.ref {n d : String} {A : Nat → Prop} {U : State} (h : kz_L n d A U U.heap) {args : Array Value} : (Cond.isRef (.static "java/lang/Throwable" n d)).before args U = true := by
  obtain ⟨c, k, i, f, a, cell, v, h0, h1, h2, h3, h4, h5, h6, h7, h8, h9, h10, h11⟩ := h
  have hv : (Term.static "java/lang/Throwable" n d).eval args U none [] U = some v := by
    simp [Term.eval, State.fieldNamed?, h1, h2, h3, h4, h5, h9]
  rcases h10 with rfl | ⟨t, rfl⟩ <;> simp [Cond.before, Cond.holds, Cond.value, hv]
def Zx : Zt := fun A U H => (kz_T U ∧ kz_N U) ∧ kz_L "UNASSIGNED_STACK" "[Ljava/lang/StackTraceElement;" A U H ∧ kz_L "SUPPRESSED_SENTINEL" "Ljava/util/List;" A U H
theorem Zx_ok : Zok Zx := ⟨fun _ _ _ _ h q => ⟨⟨q.1.1.moved h, fun x hx => (q.1.2 x hx).moved h.alike⟩, q.2.1.moved h.alike, q.2.2.moved h.alike⟩, fun _ _ _ _ h q => ⟨q.1, q.2.1.kept h, q.2.2.kept h⟩, fun _ _ _ _ h q => ⟨q.1, q.2.1.narrow h, q.2.2.narrow h⟩⟩
theorem kt_c {args : Array Value} {s : State} {w : Cond} {l : List Cond} (h : w.before args s = true) (t : ∀ w ∈ l, w.before args s = true) : ∀ w' ∈ w :: l, w'.before args s = true := List.forall_mem_cons.mpr ⟨h, t⟩
theorem kt_n {args : Array Value} {s : State} : ∀ w ∈ ([] : List Cond), w.before args s = true := fun _ h => absurd h List.not_mem_nil
/-- the state at a throw as a start of its own -/
theorem kt_rebase {p : Program} {l : Launch} {e : Env} {R R' : Room} {s : State} {m : MethodId} {args : Array Value} {below : List Frame} {meth : Method} {c : Code} {T : State} {locs : List Loc} {cells slots : Nat} (X : Stand p l e R s m args below meth c T locs cells slots) (hf : R'.frames ≤ R.frames) (hl : R'.locals ≤ R.locals) (hc : cells + R'.cells ≤ R.cells) (hs : slots + R'.slots ≤ R.slots) :
    Stand p l e R' (T.setFrames (.invoking m args :: below)) m args below meth c T [] 0 0 := by
  have hcurT : T.cur < T.threads.size := by
    obtain ⟨g, hg⟩ := Option.isSome_iff_exists.mp X.here.top
    obtain ⟨r, hr⟩ := State.topJava?_eq_some.mp hg
    exact State.cur_lt_of_frames hr
  have hfr : (T.setFrames (.invoking m args :: below)).frames = .invoking m args :: below := State.frames_setFrames _ hcurT
  have hmeth : T.vm.method? m = some meth := X.method'
  have hvm := X.warmed.alike
  have hroom := X.room
  have hsz := X.heapSize
  have hus := X.used
  have hbk := X.book
  refine ⟨X.admits, X.cas, X.clock, hfr, ?_, ?_, hmeth, X.code, X.here, X.tail, State.WarmedH.refl _, (State.stackLimits_setFrames _ _ _).symm, (State.stackBytes_setFrames _ _).symm, ?_⟩
  · have hloc : (T.setFrames (.invoking m args :: below)).localsInUse = s.localsInUse := by
      simp only [State.localsInUse, hfr, X.frames]
      have h1 : (T.setFrames (.invoking m args :: below)).vm.method? m = some meth := hmeth
      rw [h1, X.method]
    simp only [State.hasRoom, Bool.and_eq_true, decide_eq_true_eq] at hroom ⊢
    obtain ⟨⟨⟨⟨r1, r2⟩, r3⟩, r4⟩, r5⟩ := hroom
    rw [hloc, hfr, State.stackLimits_setFrames, State.stackBytes_setFrames, X.limits, X.bytes]
    rw [X.frames] at r2
    refine ⟨⟨⟨⟨by omega, by omega⟩, ?_⟩, ?_⟩, hbk⟩
    · show T.heap.size + R'.cells ≤ _
      omega
    · show T.slotsUsed + R'.slots ≤ _
      omega
  · have hh := X.hears
    cases below with
    | nil => exact (show _ = true by simpa [State.hears, hmeth, X.method] using hh)
    | cons b r =>
      cases b with
      | java g =>
        simp only [State.hears] at hh ⊢
        have h1 : (T.setFrames (.invoking m args :: .java g :: r)).code? g.method = s.code? g.method := by
          rw [State.code?_eq, State.code?_eq]
          show (T.vm.method? g.method).bind _ = _
          rw [hvm.method?]
        rw [h1]
        exact hh
      | _ => first | (simp [State.hears] at hh ⊢; done) | exact (show _ = true by simpa [State.hears, hmeth, X.method] using hh)
  · obtain ⟨t, ht, -⟩ := State.frames_cons hfr
    have h := (State.sameButNew.refl (T.setFrames (.invoking m args :: below)) ht).setFrames T.frames (State.cur_lt_of_frames hfr)
    rw [State.setFrames_setFrames] at h
    obtain ⟨g, hg⟩ := Option.isSome_iff_exists.mp X.here.top
    obtain ⟨r, hr⟩ := State.topJava?_eq_some.mp hg
    obtain ⟨t', ht', -⟩ := State.frames_cons hr
    rw [State.setFrames_self ht'] at h
    exact h
theorem kt_same {s t : State} {k n : Nat} (h : s.sameButNew t [] k n) : s.heap.size ≤ t.heap.size ∧ ∀ q : Nat, q < s.heap.size → t.heap[q]? = s.heap[q]? := by
  refine ⟨h.2.1, fun q hq => ?_⟩
  have h0 : s.heap[q]? = some s.heap[q] := Array.getElem?_eq_getElem hq
  obtain ⟨c', h1, h2, h3, h4⟩ := h.2.2.2.2.2 q _ h0
  have h5 : c'.slots = (s.heap[q]).slots := Array.ext_getElem? fun i => h4 i (by simp)
  rw [h1, h0, h2, h5]
def kx_out (E : String) (s t : State) (x : Addr) : Prop := ∃ ce : Cell, t.heap[x]? = some ce ∧ ce.vm = .none ∧ s.vm.findClass E = some ce.cls
def MQT (below : List Frame) (E : String) (B : State → Prop) (A : Nat → Prop) (s : State) (mc ms : Nat) : State → Prop := fun t => ∃ x, t.status = .running ∧ Ended t below (.threw x) ∧ kx_out E s t x ∧ B t ∧ va_F A s t ∧ s.WarmedH t.vm ∧ ∃ L, s.sameButNew ({ t with vm := s.vm } : State) L mc ms ∧ ∀ q ∈ L, A q.base
/-- a contract of a method that throws E -/
def MetT (l : Launch) (y : MethodName) (ws : List Cond) (rm : Room) (Pc : Array Value → State → Prop) (E : String) (B : State → Prop) (A : Nat → Prop) (mc ms : Nat) : Prop :=
  MetFree l y (headSpec ws rm) Pc (fun _ _ _ _ _ => True) (fun _ st o t => ∃ x, o = .threw x ∧ kx_out E st t x ∧ B t ∧ va_F A st t ∧ st.WarmedH t.vm ∧ ∃ L, st.sameButNew ({ t with vm := st.vm } : State) L mc ms ∧ ∀ q ∈ L, A q.base)
section KT
variable {p : Program} {l : Launch} {e : Env} {R : Room} {s : State} {m : MethodId} {args : Array Value} {below : List Frame} {meth : Method} {c : Code} {H : Heap} {locs : List Loc} {cells slots : Nat}
  {D : va_G} {cl : List vw_C} {ω : Sg → va_W} {g : Gm} {ζ : Zt} {A : Nat → Prop} {σ : Sg} {cc : ByteArray} {pc : Nat} {ls : Array Slot} {a : Nat}
theorem kt_throw0 {own E : String} {ia ic : Nat} (hx : p.tables.exec = Jvm.exec) (hb : c.code = cc) (hown : s.vm.findClass own = some m.cls) (hlocks : meth.locks = false) (htr : l.stackTraces = false) (hE : Jvm.Bundle.fit E = true) (hat : ∀ w ∈ Jvm.Bundle.ownAtoms0 own ic E E_up, w.before args s = true)
    (hcl : (Cond.classLink own ia E).before args s = true) (hinst : (Cond.instantiable E 6).before args s = true) (hini : (Cond.initialized E).before args s = true) (hout : c.exceptionTable.isEmpty = true) (hls : ls.size = c.maxLocals)
    (hc : 1 ≤ R.cells) (hs : 6 ≤ R.slots) (hf : 6 ≤ R.frames) (hlo : 100 ≤ R.locals) (d0 : decode cc pc = .ok (.new ia, 3)) (d3 : decode cc (pc + 3) = .ok (.dup, 1)) (d4 : decode cc (pc + 4) = .ok (.invokespecial ic, 3)) (d7 : decode cc (pc + 7) = .ok (.athrow, 1)) :
    W p l e R s m args below meth c s.heap [] 0 0 (fun t => ∃ x, t.status = .running ∧ Ended t below (.threw x) ∧ kx_out E s t x ∧ s.WarmedH t.vm ∧ s.sameButNew ({ t with vm := s.vm } : State) [] 1 6) (F0 m pc ls []) := by
  refine W.newc hx hb (g := F0 m pc ls []) hown hcl hinst hini rfl d0 (by omega) (by omega) (fun cC kC h1 h2 h3 h4 => ?_)
  refine W.eq (g2 := F0 m (pc + 3) ls [.ref s.heap.size]) rfl ?_
  refine lv_dup hx hb d3 rfl ?_
  intro T hT X
  have htr' : e.platform.stackTraces = false := by rw [X.admits.platform]; exact htr
  have hcell : T.heap[s.heap.size]? = some (freshCell cC kC) := by rw [hT]; simp
  have hno : ∀ x ∈ c.exceptionTable.toList, covers x (pc + 7) = false := by
    intro x hx9
    have h9 : c.exceptionTable = #[] := by simpa using hout
    rw [h9] at hx9
    simp at hx9
  obtain ⟨U, st, hrun, hend, hW, hsame, ce, hce, hoc⟩ := X.ctorThrow0 hx htr' (own := own) (cls := E) (names := E_up) (ic := ic) hown hE (by decide) hat (fun x h => by cases h) h1 h2 hcell (Nat.le_refl _)
    (g := F0 m (pc + 3 + 1) ls [.ref s.heap.size, .ref s.heap.size]) rfl hls rfl rfl (rest := []) rfl (by rw [hb]; exact d4) (by rw [hb]; exact d7) hno (by show 2 + 3 < R.frames; omega) (by show 2 * 0 + 1 + (13 * (2 + 1) + 41) ≤ R.locals; omega) hlocks
  exact ⟨U, st, _, hrun, hend, ⟨ce, hce, hoc.vm, hoc.cls⟩, hW, hsame⟩
/-- a throw anywhere in a walk -/
theorem kt_throw {own E : String} {ia ic : Nat} {post : Sg → Prop} (hx : p.tables.exec = Jvm.exec) (hb : c.code = cc) (hown : s.vm.findClass own = some m.cls) (hlocks : meth.locks = false) (htr : l.stackTraces = false) (hE : Jvm.Bundle.fit E = true) (hts : ∀ w ∈ GW, w.before args s = true) (hζ : Zok ζ) (hZ : ζ A s s.heap) (hst : Wst D cl ω A s σ H locs)
    (hat : ∀ u : State, (∀ w ∈ GW, w.before args u = true) → ζ A u u.heap → ∀ w ∈ Jvm.Bundle.ownAtoms0 own ic E E_up, w.before args u = true)
    (hcl : Cond.classLink own ia E ∈ GW) (hinst : Cond.instantiable E 6 ∈ GW) (hini : Cond.initialized E ∈ GW) (hout : c.exceptionTable.isEmpty = true) (hls : ls.size = c.maxLocals)
    (hc : cells + 1 ≤ R.cells) (hs : slots + 6 ≤ R.slots) (hf : 6 ≤ R.frames) (hlo : 100 ≤ R.locals) (h : post σ) (d0 : decode cc pc = .ok (.new ia, 3)) (d3 : decode cc (pc + 3) = .ok (.dup, 1)) (d4 : decode cc (pc + 4) = .ok (.invokespecial ic, 3)) (d7 : decode cc (pc + 7) = .ok (.athrow, 1)) :
    W p l e R s m args below meth c H locs cells slots (MQT below E (fun t => ∃ σ1, post σ1 ∧ Bw D cl ω A σ1 t) A s (cells + 1) (slots + 6)) (F0 m pc ls []) := by
  intro T hT X
  have X' := kt_rebase (R' := { frames := R.frames, cells := 1, slots := 6, locals := R.locals }) X (Nat.le_refl _) (Nat.le_refl _) hc hs
  generalize hs' : T.setFrames (.invoking m args :: below) = s' at X'
  have hvm : s'.vm = T.vm := by rw [← hs']; rfl
  have hheap : s'.heap = T.heap := by rw [← hs']; rfl
  have hWT : s.WarmedH s'.vm := by rw [hvm]; exact X.warmed
  have hts' : ∀ w ∈ GW, w.before args s' = true := fun w hw => word_at hWT (GW_good w hw) (hts w hw)
  have hZ' : ζ A s' s'.heap := by
    rw [hheap, hT]
    exact hζ.2.1 A s' s.heap H hst.2.2.2.1 (hζ.1 A s s' s.heap hWT hZ)
  have hown' : s'.vm.findClass own = some m.cls := by rw [hWT.alike.findClass]; exact hown
  have W0 := kt_throw0 (p := p) (l := l) (e := e) (R := { frames := R.frames, cells := 1, slots := 6, locals := R.locals }) (s := s') (m := m) (args := args) (below := below) (meth := meth) (c := c) (ls := ls) (pc := pc) (own := own) (E := E) (ia := ia) (ic := ic) hx hb hown' hlocks htr hE (hat s' hts' hZ') (hts' _ hcl) (hts' _ hinst) (hts' _ hini) hout hls (Nat.le_refl _) (Nat.le_refl _) hf hlo d0 d3 d4 d7
  obtain ⟨t, st, x, hrun, hend, ⟨ce, hce, hcv, hcc⟩, hWt, hsame⟩ := W0 T hheap.symm X'
  obtain ⟨z1, z2⟩ := kt_same hsame
  have z1 : H.size ≤ t.heap.size := by rw [← hT, ← hheap]; exact z1
  have z2 : ∀ q : Nat, q < H.size → t.heap[q]? = H[q]? := fun q hq => by
    have := z2 q (by rw [hheap, hT]; exact hq)
    rw [hheap, hT] at this
    exact this
  refine ⟨t, st, x, hrun, hend, ⟨ce, hce, hcv, by rw [← hWT.alike.findClass]; exact hcc⟩, ⟨σ, h, ?_, hst.2.1⟩, ⟨Nat.le_trans hst.2.2.1 z1, fun q h1 h2 => ?_⟩, ?_, locs, ?_, hst.2.2.2.2⟩
  · exact hst.1.kept fun k q hk => z2 q.1 ((hst.1 k q hk).lt)
  · rw [z2 q (Nat.lt_of_lt_of_le h1 hst.2.2.1)]
    exact hst.2.2.2.1 q h1 h2
  · have h3 : s'.WarmedH t.vm := hWt
    have h4 : T.WarmedH t.vm := by
      rw [← hs'] at h3
      exact h3
    exact State.WarmedH.trans X.warmed h4
  · have h5 : T.sameButNew (t.setVm T.vm) [] 1 6 := by
      rw [← hs'] at hsame
      refine ⟨?_, hsame.2⟩
      have h6 := hsame.1
      rw [State.setFrames_setFrames] at h6
      exact h6
    have h7 := X.same.trans (h5.setVm s.vm)
    rw [List.append_nil] at h7
    exact h7
theorem MetT.ofW {y : MethodName} {ws ws' : List Cond} {rm : Room} {Pc : Array Value → State → Prop} {E : String} {B : State → Prop} {mc ms : Nat} {maxL : Nat} {ret : Option FieldType} (hy : plainName y.cls = true) (hw : ws = Cond.code y cc maxL ret :: ws')
    (body : ∀ p e s m args below meth c s₁, BodyLoose p l y (headSpec ws rm) cc maxL ret e s m args below meth c s₁ → c.maxLocals = maxL → Pc args s → W p l e (headSpec ws rm).room s m args below meth c s.heap [] 0 0 (MQT below E B A s mc ms) (entryFrame m args maxL)) : MetT l y ws rm Pc E B A mc ms := by
  refine MetFree.of_bodyS (code := cc) (maxLocals := maxL) (ret := ret) hy ?_ ?_
  · intro args s m h hn
    obtain ⟨meth, c, h1, h2, h3, h4, h5, h6, -, -⟩ := Cond.code_spec hn (atoms_spec (ws := ws) h _ (by rw [hw]; exact List.mem_cons_self))
    exact ⟨meth, c, h1, h2, h3, h4, h5, h6⟩
  · intro p e s m args below meth c s₁ B0 hml hP _
    have hh : s₁.heap = s.heap := by rw [B0.state]; rfl
    obtain ⟨t, a1, x, b1, b2, b3⟩ := body p e s m args below meth c s₁ B0 hml hP s₁ hh (Stand.of_body B0)
    exact ⟨t, .threw x, a1, b1, b2, x, rfl, b3⟩
theorem kt_entry {y : MethodName} {ws ws' : List Cond} {rm : Room} {nL : Nat} {ret : Option FieldType} {own E : String} {sz mc ms : Nat} {vs : List Value} {B : State → Prop} (hy : plainName y.cls = true) (hw : ws = Cond.code y cc nL ret :: ws') (ho : y.cls = own) (hn : (lg_sl vs).length ≤ nL)
    (body : ∀ (p : Program) (e : Env) (s : State) (m : MethodId) (below : List Frame) (meth : Method) (c : Code) (ls : Array Slot), s.heap.size = sz → kC p s m vs.toArray meth c cc nL ret ws' own D cl g ζ (va_A (ω σ) sz) → c.exceptionTable.isEmpty = true → lv_has ls nL (lv_args 0 vs) → Wst D cl ω (va_A (ω σ) sz) s σ s.heap [] →
      W p l e rm s m vs.toArray below meth c s.heap [] 0 0 (MQT below E B (va_A (ω σ) sz) s mc ms) (F0 m 0 ls [])) :
    MetT l y ws rm (PcW D cl ω g ζ σ sz vs) E B (va_A (ω σ) sz) mc ms := by
  refine MetT.ofW (cc := cc) (maxL := nL) (ret := ret) hy hw ?_
  intro p e s m args below meth c s₁ B0 hml hv
  obtain ⟨rfl, hsz, hP, hK, hD0, hZ⟩ := hv
  have hts := atoms_spec (ws := ws) B0.pre
  have hown : s.vm.findClass own = some m.cls := by rw [← ho]; exact findClass_of_methodNamed B0.named
  have hl := lv_entry vs (n := nL) hn
  obtain ⟨meth2, c2, q1, q2, q3, q4, q5, q6, q7, -⟩ := Cond.code_spec B0.named (hts _ (by rw [hw]; exact List.mem_cons_self))
  have hcode : meth.code = some c := by
    have h := B0.here.code
    rw [State.code?_eq, B0.method₁] at h
    exact h
  have e1 : meth2 = meth := Option.some.inj (q1.symm.trans B0.method)
  subst e1
  have e2 : c2 = c := Option.some.inj (q2.symm.trans hcode)
  subst e2
  rw [lg_entry_eq]
  refine body p e s m below meth2 c2 _ hsz ⟨B0.exec, B0.bytes, B0.returns, hml, hown, fun w h => hts w (by rw [hw]; exact List.mem_cons_of_mem _ h), B0.notSynchronized, hK, ?_, ?_⟩ q7 hl ⟨hP, hD0.self, va_S.rf⟩
  · exact hZ
  · intro q h
    exact Or.inr (hsz ▸ h)
end KT
