/-! The law's helpers: methods with a table of handlers; calls of them. -/
/-- the rows of a handler table, by their numbers -/
def kc_hs (pl : Platform) (s0 : State) (f : JFrame) (thrown : ClassId) (hpc : Nat) : List (Nat × Nat × Nat × Nat) → Prop
  | [] => False
  | q :: t => (q.1 ≤ f.pc ∧ f.pc < q.2.1) ∧ q.2.2.2 ≠ 0 ∧ ∃ c, s0.vm.ClassLinks pl f.method.cls q.2.2.2 c ∧ ((s0.vm.assignable thrown c = true ∧ q.2.2.1 = hpc) ∨ (s0.vm.assignable thrown c = false ∧ kc_hs pl s0 f thrown hpc t))
theorem kc_of {pl : Platform} {s0 : State} {f : JFrame} {thrown : ClassId} {hpc : Nat} : ∀ (rows : List ExceptionTableEntry) (hh : List (Nat × Nat × Nat × Nat)), rows.map (fun h => (h.startPc, h.endPc, h.handlerPc, h.catchType)) = hh → kc_hs pl s0 f thrown hpc hh → kc_rows pl s0 f thrown hpc rows := by
  intro rows
  induction rows with
  | nil => intro hh e h; subst e; exact h.elim
  | cons x t ih =>
    intro hh e h
    subst e
    obtain ⟨⟨h1, h2⟩, h3, c, h4, h5⟩ := h
    refine ⟨by simp only [covers]; exact Bool.and_eq_true_iff.mpr ⟨decide_eq_true h1, decide_eq_true h2⟩, h3, c, h4, ?_⟩
    rcases h5 with h5 | ⟨h5, h6⟩
    · exact Or.inl h5
    · exact Or.inr ⟨h5, ih _ rfl h6⟩
theorem kc_yes {l : Launch} {e : Env} {s : State} {args : Array Value} {own E N : String} {ct : Nat} {d k : ClassId} (ha : l.admits e) (hown : s.vm.findClass own = some d) (hlink : (Cond.classLink own ct N).before args s = true) (hc : (Cond.castable E N).before args s = true) (hk : s.vm.findClass E = some k) :
    ∃ c, s.vm.ClassLinks e.platform d ct c ∧ s.vm.assignable k c = true := by
  have hpl : e.platform.magicAccessors = ({} : Platform).magicAccessors := by rw [ha.platform]
  obtain ⟨c3, c4, hc3, hc4, hasg⟩ := Cond.castable_spec hc
  cases Option.some.inj (hc3.symm.trans hk)
  obtain ⟨c5, hc5, hl5⟩ := Cond.classLink_spec hown hlink e.platform hpl
  cases Option.some.inj (hc4.symm.trans hc5)
  exact ⟨_, hl5, hasg⟩
theorem kc_no {l : Launch} {e : Env} {s : State} {args : Array Value} {own E N : String} {ct : Nat} {d k : ClassId} (ha : l.admits e) (hown : s.vm.findClass own = some d) (hlink : (Cond.classLink own ct N).before args s = true) (hn : va_Nc E N s) (hk : s.vm.findClass E = some k) :
    ∃ c, s.vm.ClassLinks e.platform d ct c ∧ s.vm.assignable k c = false := by
  have hpl : e.platform.magicAccessors = ({} : Platform).magicAccessors := by rw [ha.platform]
  obtain ⟨a8, b8, h1, h2, h3⟩ := hn
  cases Option.some.inj (h1.symm.trans hk)
  obtain ⟨c5, hc5, hl5⟩ := Cond.classLink_spec hown hlink e.platform hpl
  cases Option.some.inj (h2.symm.trans hc5)
  exact ⟨_, hl5, h3⟩
theorem kc_hy {pl : Platform} {s0 : State} {f : JFrame} {thrown : ClassId} {a b h ct : Nat} {t : List (Nat × Nat × Nat × Nat)} (h1 : a ≤ f.pc ∧ f.pc < b) (h0 : ct ≠ 0) (hx : ∃ c, s0.vm.ClassLinks pl f.method.cls ct c ∧ s0.vm.assignable thrown c = true) : kc_hs pl s0 f thrown h ((a, b, h, ct) :: t) := by
  obtain ⟨c, h2, h3⟩ := hx
  exact ⟨h1, h0, c, h2, Or.inl ⟨h3, rfl⟩⟩
theorem kc_hn {pl : Platform} {s0 : State} {f : JFrame} {thrown : ClassId} {a b h ct hpc : Nat} {t : List (Nat × Nat × Nat × Nat)} (h1 : a ≤ f.pc ∧ f.pc < b) (h0 : ct ≠ 0) (hx : ∃ c, s0.vm.ClassLinks pl f.method.cls ct c ∧ s0.vm.assignable thrown c = false) (ht : kc_hs pl s0 f thrown hpc t) : kc_hs pl s0 f thrown hpc ((a, b, h, ct) :: t) := by
  obtain ⟨c, h2, h3⟩ := hx
  exact ⟨h1, h0, c, h2, Or.inr ⟨h3, ht⟩⟩
section KH
variable {p : Program} {l : Launch} {e : Env} {R : Room} {s : State} {m : MethodId} {args : Array Value} {below : List Frame} {meth : Method} {c : Code} {H : Heap} {locs : List Loc} {cells slots : Nat} {Q : State → Prop}
  {D : va_G} {cl : List vw_C} {ω : Sg → va_W} {g : Gm} {ζ : Zt} {A : Nat → Prop} {σ : Sg} {cc : ByteArray} {pc : Nat} {ls : Array Slot} {rest : List Value} {a : Nat}
/-- a method with handlers: its entry -/
theorem kh_entry {y : MethodName} {ws ws' : List Cond} {rm : Room} {nL : Nat} {ret : Option FieldType} {own : String} {sz : Nat} {vs : List Value} {Qc : Array Value → State → Outcome → State → Prop} {hh : List (Nat × Nat × Nat × Nat)} (hy : plainName y.cls = true) (hw : ws = Cond.codeWith y cc nL ret hh :: ws') (ho : y.cls = own) (hn : (lg_sl vs).length ≤ nL)
    (body : ∀ (p : Program) (e : Env) (s : State) (m : MethodId) (below : List Frame) (meth : Method) (c : Code) (ls : Array Slot), s.heap.size = sz → kC p s m vs.toArray meth c cc nL ret ws' own D cl g ζ (va_A (ω σ) sz) → c.exceptionTable.toList.map (fun h => (h.startPc, h.endPc, h.handlerPc, h.catchType)) = hh → lv_has ls nL (lv_args 0 vs) → Wst D cl ω (va_A (ω σ) sz) s σ s.heap [] →
      W p l e rm s m vs.toArray below meth c s.heap [] 0 0 (MQ below Qc vs.toArray s cells slots (va_A (ω σ) sz)) (F0 m 0 ls [])) :
    Met l y ws rm (PcW D cl ω g ζ σ sz vs) Qc cells slots (va_A (ω σ) sz) := by
  refine va_MetW (cc := cc) (maxL := nL) (ret := ret) (hh := hh) hy hw ?_
  intro p e s m args below meth c s₁ B hml hv
  obtain ⟨rfl, hsz, hP, hK, hD0, hZ⟩ := hv
  have hts := atoms_spec (ws := ws) B.pre
  have hown : s.vm.findClass own = some m.cls := by rw [← ho]; exact findClass_of_methodNamed B.named
  have hl := lv_entry vs (n := nL) hn
  obtain ⟨m2, meth2, c2, q0, q1, q2, q3, q4, q5, -⟩ := Cond.codeWith_spec (hts _ (by rw [hw]; exact List.mem_cons_self))
  cases Option.some.inj (q0.symm.trans B.named)
  have hcode : meth.code = some c := by
    have h := B.here.code
    rw [State.code?_eq, B.method₁] at h
    exact h
  have e1 : meth2 = meth := Option.some.inj (q1.symm.trans B.method)
  subst e1
  have e2 : c2 = c := Option.some.inj (q2.symm.trans hcode)
  subst e2
  rw [lg_entry_eq]
  refine body p e s m below meth2 c2 _ hsz ⟨B.exec, B.bytes, B.returns, hml, hown, fun w h => hts w (by rw [hw]; exact List.mem_cons_of_mem _ h), B.notSynchronized, hK, ?_, ?_⟩ q5 hl ⟨hP, hD0.self, va_S.rf⟩
  · exact hZ
  · intro q h
    exact Or.inr (hsz ▸ h)
/-- a static call of a method with handlers -/
theorem kh_run {y : MethodName} {bytes : ByteArray} {maxL nL mc ms n index : Nat} {ret : Option FieldType} {hh : List (Nat × Nat × Nat × Nat)} {ws ws' : List Cond} {rm : Room} {Pc : Array Value → State → Prop} {Qc : Array Value → State → Outcome → State → Prop} {free : Addr → Prop} {own : String} {As : List Value} {st0 : List Value}
    (S : CallFix p m c cc nL s args GW own) (hM : Met l y ws rm Pc Qc mc ms free) (hws : ws = Cond.codeWith y bytes maxL ret hh :: GW) (hrc : rm.cells = mc) (hrs : rm.slots = ms) (hfr : rm.frames + 1 ≤ R.frames) (hlo : 8 + (maxL + 11) + rm.locals ≤ R.locals)
    (h1 : Cond.methodLink own index y ∈ GW) (h2 : Cond.static y ∈ GW) (h3 : Cond.initialized y.cls ∈ GW) (h4 : Cond.codeWith y bytes maxL ret hh ∈ GW) (hy : y.cls ≠ "java/lang/invoke/MethodHandle" ∧ y.cls ≠ "java/lang/invoke/VarHandle" ∧ (parseMethodDescriptor y.desc).map (fun d => d.parameters.length) = some n) (hp : PreS s H Pc As)
    (hn : As.length = n) (hsize : ls.size = nL) (hstack : st0 = As.reverse ++ rest) (hW : (rest.map fun v => v.category).sum ≤ 8) (hdg : decode cc pc = .ok (.invokestatic index, 3)) (hf : cells + mc ≤ R.cells ∧ slots + ms ≤ R.slots) :
    va_Run p l e R s m args below meth c H locs cells slots mc ms (F0 m pc ls st0) rest (Qc As.toArray) free := by
  obtain ⟨hx, hb, hml, ho, hts⟩ := S
  have hw9 : ∀ w ∈ ws, ∀ (a' : Array Value) (U : State), s.WarmedH U.vm → w.before a' U = true := fun w hw a' U hW9 => by
    have h9 : w ∈ GW := by
      rw [hws] at hw
      rcases List.mem_cons.mp hw with rfl | h
      · exact h4
      · exact h
    exact word_at hW9 (GW_good w h9) (hts w h9)
  have hK : Back l R p e below s args y 3 8 (PreOf R mc ms Pc) (PostOf Qc mc ms free) := va_backW (bytes := bytes) (maxL := maxL) (ret := ret) (hh := hh) hM hp.1 hrc hrs hfr hlo hw9 (by rw [hws]; exact List.mem_cons_self) (fun a' U hW9 => word_at hW9 (GW_good _ h3) (hts _ h3))
  intro T hT X
  obtain ⟨mk, methM, cM, hnamed, hmethM, -, -, -, -, -, -, hsigM⟩ := Cond.codeWith_spec (hts _ h4)
  have hstatic : methM.isStatic = true := Cond.static_spec hnamed hmethM (hts _ h2)
  obtain ⟨kP, hkP, -⟩ := className_of_methodNamed hnamed
  have hinitP : kP.init = .initialized := Cond.initialized_spec (findClass_of_methodNamed hnamed) hkP (hts _ h3)
  have hlen : As.length = methM.sig.parameters.length := by
    have h9 := hy.2.2
    rw [hsigM] at h9
    rw [hn]
    exact (Option.some.inj h9).symm
  obtain ⟨vm₁, X₁, hstep₁⟩ := X.invokestatic hx ho (hts _ h1) hnamed hmethM hstatic hkP hinitP ⟨hy.1, hy.2.1⟩ (g := F0 m pc ls st0) rfl (argsL := As) (rest := rest) hlen hstack (by rw [hb]; exact hdg)
  obtain ⟨v, ⟨U', l2, c2, s2⟩, X', ⟨g', mk', t, L, e1, e2, hq, q1, hL, q2, q3⟩, hsteps⟩ := hK m meth c ⟨T.setVm vm₁, locs, cells, slots⟩ (F0 m pc ls rest) (.invokestatic index) mk As.toArray X₁ rfl (hsize.trans hml.symm) (by rw [hb]; exact hdg) (by show 2 * 0 + (rest.map fun v => v.category).sum ≤ 8; omega) (X₁.named hnamed) ⟨hf.1, hf.2, hp.2 (T.setVm vm₁) hT X₁.warmed⟩
  dsimp only [Pt.U, Pt.locs, Pt.cells, Pt.slots] at X' e1 e2 q1 q2 q3 hsteps
  subst q1; subst q2; subst q3
  exact ⟨v, (T.setVm vm₁).calling g' mk' As.toArray, t, U', L, hT, X', hL, e1, e2, hq, fun target h => hstep₁ _ fun acts => by rw [doInvoke_state]; exact hsteps.trans h⟩
/-- a call that throws, in the fixed world -/
theorem kh_throw {own C E : String} {index n maxL nL hpc : Nat} {y : MethodName} {bytes : ByteArray} {ret : Option FieldType} {ws Ts : List Cond} {rm : Room} {post : Sg → Prop} {b : Addr} {As : List Value} {st0 : List Value}
    (S : CallFix p m c cc nL s args Ts own) (hM : MetT l y ws rm (PcW D cl ω g ζ σ H.size (.ref b :: As)) E (fun t => ∃ σ1, post σ1 ∧ Bw D cl ω (va_A (ω σ) H.size) σ1 t) (va_A (ω σ) H.size) 1 6) (cw : CallW R s args own C index y bytes maxL ret ws rm 1 6 n) (hp : PreV s H C b (PcW D cl ω g ζ σ H.size (.ref b :: As)) As) (hn : As.length = n) (hsize : ls.size = nL) (hstack : st0 = As.reverse ++ .ref b :: rest) (hW : (rest.map fun v => v.category).sum ≤ 8) (hdg : decode cc pc = .ok (.invokevirtual index, 3)) (hf : cells + 1 ≤ R.cells ∧ slots + 6 ≤ R.slots)
    (hrows : l.admits e → ∀ k : ClassId, s.vm.findClass E = some k → kc_rows e.platform s (F0 m pc ls rest) k hpc c.exceptionTable.toList) (hst : Wst D cl ω A s σ H locs) (hA : ∀ q : Nat, s.heap.size ≤ q → A q)
    (kk : ∀ (x : Addr) (σ1 : Sg) (H1 : Heap) (locs1 : List Loc), post σ1 → Wst D cl ω A s σ1 H1 locs1 → W p l e R s m args below meth c H1 locs1 (cells + 1) (slots + 6) Q (F0 m hpc ls [.ref x])) :
    W p l e R s m args below meth c H locs cells slots Q (F0 m pc ls st0) := by
  intro T hT X
  refine kc_callV S hM cw hp hn hsize hstack hW hdg hf (hrows X.admits) hst.2.2 (kw_sub hst hA) (fun x t H1 locs1 ht hB _ hS => ?_) T hT X
  obtain ⟨σ1, h1, h2⟩ := hB
  exact kk x σ1 H1 locs1 h1 (kw_back hst hA ht h2 hS)
/-- calls that may make cells -/
theorem kh_calli {mc ms : Nat} {post : Int32 → Sg → Prop} {st0 : List Value} {av : Array Value} (hr : va_Run p l e R s m args below meth c H locs cells slots mc ms (F0 m pc ls st0) rest (QiW D cl ω post (va_A (ω σ) H.size) av) (va_A (ω σ) H.size)) (hst : Wst D cl ω A s σ H locs) (hA : ∀ q : Nat, s.heap.size ≤ q → A q)
    (kk : ∀ (r : Int32) (σ1 : Sg) (H1 : Heap) (locs1 : List Loc), post r σ1 → Wst D cl ω A s σ1 H1 locs1 → W p l e R s m args below meth c H1 locs1 (cells + mc) (slots + ms) Q (F0 m (pc + 3) ls (.int r :: rest))) : W p l e R s m args below meth c H locs cells slots Q (F0 m pc ls st0) :=
  va_calli hr hst.2.2 (fun q _ h => kw_sub hst hA q h) (kw_sub hst hA) (fun r u t H1 locs1 ht _ hp hB _ _ hS => kk r u H1 locs1 hp (kw_back hst hA ht hB hS))
end KH
