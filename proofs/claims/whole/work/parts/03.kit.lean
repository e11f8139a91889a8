/-! A fixed world: a list of cells as a function of a state of numbers. Rows over the kit's rows, shorter for a program that lays them. -/
abbrev Sg : Type := (Nat → Nat → Int32) × (Nat → Nat → Int64) × Nat × Nat
def si (σ : Sg) (a j : Nat) (v : Int32) : Sg := (fun b => if b = a then upd (σ.1 b) j v else σ.1 b, σ.2)
def sl (σ : Sg) (a j : Nat) (v : Int64) : Sg := (σ.1, fun b => if b = a then vp_updL (σ.2.1 b) j v else σ.2.1 b, σ.2.2)
def sw (σ : Sg) (a : Nat) (f : Nat → Int32) : Sg := (fun b => if b = a then f else σ.1 b, σ.2)
abbrev Gm : Type := (Nat → Nat) × (Nat → ClassId)
abbrev TYS (g : Gm) : List (ClassId × FieldType) := [(g.2 0, .int), (g.2 1, .char), (g.2 2, .boolean), (g.2 3, .long)]
/-- the world, its frame -/
def Wst (D : va_G) (cl : List vw_C) (ω : Sg → va_W) (A : Nat → Prop) (s : State) (σ : Sg) (H : Heap) (locs : List Loc) : Prop := va_P D cl (ω σ) H ∧ va_D A (ω σ) ∧ va_S A s.heap H locs
abbrev Zt : Type := (Nat → Prop) → State → Heap → Prop
/-- a premise on what isn't written: it moves with the tables, stays with what stays, narrows -/
def Zok (ζ : Zt) : Prop := (∀ (A : Nat → Prop) (u U : State) (H : Heap), u.WarmedH U.vm → ζ A u H → ζ A U H) ∧ (∀ (A : Nat → Prop) (U : State) (H H1 : Heap), (∀ a : Nat, a < H.size → ¬ A a → H1[a]? = H[a]?) → ζ A U H → ζ A U H1) ∧ ∀ (A B : Nat → Prop) (U : State) (H : Heap), (∀ q, B q → A q) → ζ A U H → ζ B U H
def Zno : Zt := fun _ _ _ => True
theorem Zno_ok : Zok Zno := ⟨fun _ _ _ _ _ _ => trivial, fun _ _ _ _ _ _ => trivial, fun _ _ _ _ _ _ => trivial⟩
/-- what a walk of a method knows all the way -/
def kC (p : Program) (s : State) (m : MethodId) (args : Array Value) (meth : Method) (c : Code) (cc : ByteArray) (nL : Nat) (ret : Option FieldType) (Ts : List Cond) (own : String) (D : va_G) (cl : List vw_C) (g : Gm) (ζ : Zt) (A : Nat → Prop) : Prop :=
  p.tables.exec = Jvm.exec ∧ c.code = cc ∧ meth.sig.returnType = ret ∧ c.maxLocals = nL ∧ s.vm.findClass own = some m.cls ∧ (∀ w ∈ Ts, w.before args s = true) ∧ meth.locks = false ∧ va_K D cl (TYS g) s ∧ ζ A s s.heap ∧ (∀ q : Nat, s.heap.size ≤ q → A q)
/-- a contract's start and ends -/
def PcW (D : va_G) (cl : List vw_C) (ω : Sg → va_W) (g : Gm) (ζ : Zt) (σ : Sg) (sz : Nat) (av : List Value) : Array Value → State → Prop :=
  va_Pc av (fun U => U.heap.size = sz ∧ va_P D cl (ω σ) U.heap ∧ va_K D cl (TYS g) U ∧ va_D (fun _ => True) (ω σ) ∧ ζ (va_A (ω σ) sz) U U.heap)
abbrev Bw (D : va_G) (cl : List vw_C) (ω : Sg → va_W) (A : Nat → Prop) (σ : Sg) (t : State) : Prop := va_P D cl (ω σ) t.heap ∧ va_D A (ω σ)
abbrev QiW (D : va_G) (cl : List vw_C) (ω : Sg → va_W) (post : Int32 → Sg → Prop) (A : Nat → Prop) : Array Value → State → Outcome → State → Prop := va_Qi post (Bw D cl ω A) A
abbrev QlW (D : va_G) (cl : List vw_C) (ω : Sg → va_W) (post : Int64 → Sg → Prop) (A : Nat → Prop) : Array Value → State → Outcome → State → Prop := va_Ql post (Bw D cl ω A) A
abbrev QvW (D : va_G) (cl : List vw_C) (ω : Sg → va_W) (post : Sg → Prop) (A : Nat → Prop) : Array Value → State → Outcome → State → Prop := va_Qv post (Bw D cl ω A) A
/-- a reference comes back: that of the cell k + o -/
abbrev QrW (D : va_G) (cl : List vw_C) (ω : Sg → va_W) (g : Gm) (o : Nat) (post : Nat → Sg → Prop) (A : Nat → Prop) : Array Value → State → Outcome → State → Prop := va_Qr (S := Nat × Sg) (fun u => post u.1 u.2) (fun u a t => a = g.1 (u.1 + o) ∧ Bw D cl ω A u.2 t) A
section KW
variable {p : Program} {l : Launch} {e : Env} {R : Room} {s : State} {m : MethodId} {args : Array Value} {below : List Frame} {meth : Method} {c : Code} {H : Heap} {locs : List Loc} {cells slots : Nat} {Q : State → Prop}
  {D : va_G} {cl : List vw_C} {ω : Sg → va_W} {g : Gm} {ζ : Zt} {A : Nat → Prop} {σ : Sg} {cc : ByteArray} {pc : Nat} {ls : Array Slot} {rest : List Value} {a : Nat}
theorem kw_iast (hx : p.tables.exec = Jvm.exec) (hb : c.code = cc) (hK : va_K D cl (TYS g) s) (hst : Wst D cl ω A s σ H locs) (q0 : Nat) {n : Nat} {f : Nat → Int32} (ha : (ω σ)[q0]? = some (a, .inl (g.2 0, n, .inl f))) {i x : Int32} (hin : vp_in i n)
    (hset : (ω σ).set q0 (a, .inl (g.2 0, n, .inl (upd f i.toNatClampNeg x))) = ω (si σ q0 i.toNatClampNeg x)) (hdg : decode cc pc = .ok (.iastore, 1))
    (kk : ∀ (σ1 : Sg) (H1 : Heap) (locs1 : List Loc), σ1 = si σ q0 i.toNatClampNeg x → Wst D cl ω A s σ1 H1 locs1 → W p l e R s m args below meth c H1 locs1 cells slots Q (F0 m (pc + 1) ls rest)) :
    W p l e R s m args below meth c H locs cells slots Q (F0 m pc ls (.int x :: .int i :: .ref a :: rest)) :=
  va_iast hx hb hK hst.1 hst.2.1 hst.2.2 q0 0 ha rfl hin hdg (fun H1 locs1 h1 h2 h3 => kk _ H1 locs1 rfl ⟨hset ▸ h1, hset ▸ h2, h3⟩)
theorem kw_cast (hx : p.tables.exec = Jvm.exec) (hb : c.code = cc) (hK : va_K D cl (TYS g) s) (hst : Wst D cl ω A s σ H locs) (q0 : Nat) {n : Nat} {f : Nat → Int32} (ha : (ω σ)[q0]? = some (a, .inl (g.2 1, n, .inl f))) {i x : Int32} (hin : vp_in i n)
    (hset : (ω σ).set q0 (a, .inl (g.2 1, n, .inl (upd f i.toNatClampNeg (vp_nar .char x)))) = ω (si σ q0 i.toNatClampNeg (vp_nar .char x))) (hdg : decode cc pc = .ok (.castore, 1))
    (kk : ∀ (σ1 : Sg) (H1 : Heap) (locs1 : List Loc), σ1 = si σ q0 i.toNatClampNeg (vp_nar .char x) → Wst D cl ω A s σ1 H1 locs1 → W p l e R s m args below meth c H1 locs1 cells slots Q (F0 m (pc + 1) ls rest)) :
    W p l e R s m args below meth c H locs cells slots Q (F0 m pc ls (.int x :: .int i :: .ref a :: rest)) :=
  va_cast hx hb hK hst.1 hst.2.1 hst.2.2 q0 1 ha rfl hin hdg (fun H1 locs1 h1 h2 h3 => kk _ H1 locs1 rfl ⟨hset ▸ h1, hset ▸ h2, h3⟩)
theorem kw_zast (hx : p.tables.exec = Jvm.exec) (hb : c.code = cc) (hK : va_K D cl (TYS g) s) (hst : Wst D cl ω A s σ H locs) (q0 : Nat) {n : Nat} {f : Nat → Int32} (ha : (ω σ)[q0]? = some (a, .inl (g.2 2, n, .inl f))) {i x : Int32} (hin : vp_in i n)
    (hset : (ω σ).set q0 (a, .inl (g.2 2, n, .inl (upd f i.toNatClampNeg (vp_nar .boolean x)))) = ω (si σ q0 i.toNatClampNeg (vp_nar .boolean x))) (hdg : decode cc pc = .ok (.bastore, 1))
    (kk : ∀ (σ1 : Sg) (H1 : Heap) (locs1 : List Loc), σ1 = si σ q0 i.toNatClampNeg (vp_nar .boolean x) → Wst D cl ω A s σ1 H1 locs1 → W p l e R s m args below meth c H1 locs1 cells slots Q (F0 m (pc + 1) ls rest)) :
    W p l e R s m args below meth c H locs cells slots Q (F0 m pc ls (.int x :: .int i :: .ref a :: rest)) :=
  va_zast hx hb hK hst.1 hst.2.1 hst.2.2 q0 2 ha rfl hin hdg (fun H1 locs1 h1 h2 h3 => kk _ H1 locs1 rfl ⟨hset ▸ h1, hset ▸ h2, h3⟩)
theorem kw_last (hx : p.tables.exec = Jvm.exec) (hb : c.code = cc) (hK : va_K D cl (TYS g) s) (hst : Wst D cl ω A s σ H locs) (q0 : Nat) {n : Nat} {f : Nat → Int64} (ha : (ω σ)[q0]? = some (a, .inl (g.2 3, n, .inr (.inl f)))) {i : Int32} {x : Int64} (hin : vp_in i n)
    (hset : (ω σ).set q0 (a, .inl (g.2 3, n, .inr (.inl (vp_updL f i.toNatClampNeg x)))) = ω (sl σ q0 i.toNatClampNeg x)) (hdg : decode cc pc = .ok (.lastore, 1))
    (kk : ∀ (σ1 : Sg) (H1 : Heap) (locs1 : List Loc), σ1 = sl σ q0 i.toNatClampNeg x → Wst D cl ω A s σ1 H1 locs1 → W p l e R s m args below meth c H1 locs1 cells slots Q (F0 m (pc + 1) ls rest)) :
    W p l e R s m args below meth c H locs cells slots Q (F0 m pc ls (.long x :: .int i :: .ref a :: rest)) :=
  va_last hx hb hK hst.1 hst.2.1 hst.2.2 q0 3 ha rfl hin hdg (fun H1 locs1 h1 h2 h3 => kk _ H1 locs1 rfl ⟨hset ▸ h1, hset ▸ h2, h3⟩)
/-- a scalar field is written -/
theorem kw_put (hx : p.tables.exec = Jvm.exec) (hb : c.code = cc) {own ref C : String} {T : u_T} {N ci index : Nat} {Ts : List Cond} (hts : ∀ w ∈ Ts, w.before args s = true) (hin : ∀ w ∈ u_ws C T N, w ∈ Ts) (ty0 : Nat → FieldType) (hty : ∀ k, k < N → parseFieldDescriptor (T k).2.2.1 = some (ty0 k)) (hnm : ∀ a, a < N → ∀ b, b < N → a ≠ b → (T a).2.1 ≠ (T b).2.1) (hown : s.vm.findClass own = some m.cls)
    (hK : va_K D cl (TYS g) s) (hst : Wst D cl ω A s σ H locs) (q0 : Nat) {fs : List Value} (he : (ω σ)[q0]? = some (a, .inr (ci, fs))) (hc : cl[ci]? = some (C, T, N)) (k : Nat) (hk : k < N) (hlink : (Cond.fieldLink own index ref (T k).2.1 (T k).2.2.1).before args s = true) (hsame : ∀ x, s.fieldFound? (T k).1 (T k).2.1 (T k).2.2.1 = some x → s.fieldFound? ref (T k).2.1 (T k).2.2.1 = some x) (hfin : (T k).2.2.2 = false) {ty : FieldType} {x : Int32} (hd : parseFieldDescriptor (T k).2.2.1 = some ty) (hn : narrow ty (.int x) = .int x) (hfit : fits ty (.int x) = true) (hl : k < fs.length)
    (hset : (ω σ).set q0 (a, .inr (ci, fs.set k (.int x))) = ω (si σ q0 k x)) (hdg : decode cc pc = .ok (.putfield index, 3))
    (kk : ∀ (σ1 : Sg) (H1 : Heap) (locs1 : List Loc), σ1 = si σ q0 k x → Wst D cl ω A s σ1 H1 locs1 → W p l e R s m args below meth c H1 locs1 cells slots Q (F0 m (pc + 3) ls rest)) :
    W p l e R s m args below meth c H locs cells slots Q (F0 m pc ls (.int x :: .ref a :: rest)) :=
  va_put hx hb hts hin ty0 hty hnm hown hK hst.1 hst.2.1 hst.2.2 q0 he hc k hk hlink hsame hfin hd hn hfit hl hdg (fun H1 locs1 h1 h2 h3 => kk _ H1 locs1 rfl ⟨hset ▸ h1, hset ▸ h2, h3⟩)
/-- a long field is written -/
theorem kw_putl (hx : p.tables.exec = Jvm.exec) (hb : c.code = cc) {own ref C : String} {T : u_T} {N ci index : Nat} {Ts : List Cond} (hts : ∀ w ∈ Ts, w.before args s = true) (hin : ∀ w ∈ u_ws C T N, w ∈ Ts) (ty0 : Nat → FieldType) (hty : ∀ k, k < N → parseFieldDescriptor (T k).2.2.1 = some (ty0 k)) (hnm : ∀ a, a < N → ∀ b, b < N → a ≠ b → (T a).2.1 ≠ (T b).2.1) (hown : s.vm.findClass own = some m.cls)
    (hK : va_K D cl (TYS g) s) (hst : Wst D cl ω A s σ H locs) (q0 : Nat) {fs : List Value} (he : (ω σ)[q0]? = some (a, .inr (ci, fs))) (hc : cl[ci]? = some (C, T, N)) (k : Nat) (hk : k < N) (hlink : (Cond.fieldLink own index ref (T k).2.1 (T k).2.2.1).before args s = true) (hsame : ∀ x, s.fieldFound? (T k).1 (T k).2.1 (T k).2.2.1 = some x → s.fieldFound? ref (T k).2.1 (T k).2.2.1 = some x) (hfin : (T k).2.2.2 = false) {ty : FieldType} {x : Int64} (hd : parseFieldDescriptor (T k).2.2.1 = some ty) (hn : narrow ty (.long x) = .long x) (hfit : fits ty (.long x) = true) (hl : k < fs.length)
    (hset : (ω σ).set q0 (a, .inr (ci, fs.set k (.long x))) = ω (sl σ q0 k x)) (hdg : decode cc pc = .ok (.putfield index, 3))
    (kk : ∀ (σ1 : Sg) (H1 : Heap) (locs1 : List Loc), σ1 = sl σ q0 k x → Wst D cl ω A s σ1 H1 locs1 → W p l e R s m args below meth c H1 locs1 cells slots Q (F0 m (pc + 3) ls rest)) :
    W p l e R s m args below meth c H locs cells slots Q (F0 m pc ls (.long x :: .ref a :: rest)) :=
  va_put hx hb hts hin ty0 hty hnm hown hK hst.1 hst.2.1 hst.2.2 q0 he hc k hk hlink hsame hfin hd hn hfit hl hdg (fun H1 locs1 h1 h2 h3 => kk _ H1 locs1 rfl ⟨hset ▸ h1, hset ▸ h2, h3⟩)
/-- the callee's cells are the walk's own -/
theorem kw_sub (hst : Wst D cl ω A s σ H locs) (hA : ∀ q : Nat, s.heap.size ≤ q → A q) : ∀ q, va_A (ω σ) H.size q → A q := by
  rintro q (⟨k, e, h⟩ | h)
  · exact hst.2.1.2 k (q, e) h
  · exact hA q (Nat.le_trans hst.2.2.1 h)
theorem kw_blind {sz : Nat} {av : List Value} (hζ : Zok ζ) : FrameBlind (PcW D cl ω g ζ σ sz av) := by
  intro a U f mk q
  obtain ⟨q0, q1, qP, qK, qD, qZ⟩ := q
  exact ⟨q0, q1, qP, va_K.moved (u := U) (U := U.calling f mk a) (Vm.Alike.refl U.vm) qK, qD, hζ.1 _ U (U.calling f mk a) U.heap (State.WarmedH.refl U) qZ⟩
theorem kw_pre {av : List Value} (hζ : Zok ζ) (hK : va_K D cl (TYS g) s) (hZ : ζ A s s.heap) (hA : ∀ q : Nat, s.heap.size ≤ q → A q) (hst : Wst D cl ω A s σ H locs) : ∀ U : State, U.heap = H → s.WarmedH U.vm → PcW D cl ω g ζ σ H.size av av.toArray U := by
  intro U hU hW
  refine ⟨rfl, by rw [hU], by rw [hU]; exact hst.1, va_K.moved hW.alike hK, hst.2.1.weaken (fun _ _ _ _ => trivial), ?_⟩
  rw [hU]
  exact hζ.2.2 A _ U H (kw_sub hst hA) (hζ.2.1 A U s.heap H hst.2.2.2.1 (hζ.1 A s U s.heap hW hZ))
theorem kw_back {σ1 : Sg} {H1 : Heap} {locs1 : List Loc} {t : State} (hst : Wst D cl ω A s σ H locs) (hA : ∀ q : Nat, s.heap.size ≤ q → A q) (ht : t.heap = H1) (hB : Bw D cl ω (va_A (ω σ) H.size) σ1 t) (hS : va_S A s.heap H1 locs1) : Wst D cl ω A s σ1 H1 locs1 :=
  ⟨ht ▸ hB.1, hB.2.weaken (fun _ q _ h => kw_sub hst hA q.1 h), hS⟩
theorem kw_calli {post : Int32 → Sg → Prop} {st0 : List Value} {av : Array Value} (hr : va_Run p l e R s m args below meth c H locs cells slots 0 0 (F0 m pc ls st0) rest (QiW D cl ω post (va_A (ω σ) H.size) av) (va_A (ω σ) H.size)) (hst : Wst D cl ω A s σ H locs) (hA : ∀ q : Nat, s.heap.size ≤ q → A q)
    (kk : ∀ (r : Int32) (σ1 : Sg) (H1 : Heap) (locs1 : List Loc), post r σ1 → Wst D cl ω A s σ1 H1 locs1 → W p l e R s m args below meth c H1 locs1 cells slots Q (F0 m (pc + 3) ls (.int r :: rest))) : W p l e R s m args below meth c H locs cells slots Q (F0 m pc ls st0) :=
  va_calli hr hst.2.2 (fun q _ h => kw_sub hst hA q h) (kw_sub hst hA) (fun r u t H1 locs1 ht _ hp hB _ _ hS => kk r u H1 locs1 hp (kw_back hst hA ht hB hS))
theorem kw_calll {post : Int64 → Sg → Prop} {st0 : List Value} {av : Array Value} (hr : va_Run p l e R s m args below meth c H locs cells slots 0 0 (F0 m pc ls st0) rest (QlW D cl ω post (va_A (ω σ) H.size) av) (va_A (ω σ) H.size)) (hst : Wst D cl ω A s σ H locs) (hA : ∀ q : Nat, s.heap.size ≤ q → A q)
    (kk : ∀ (r : Int64) (σ1 : Sg) (H1 : Heap) (locs1 : List Loc), post r σ1 → Wst D cl ω A s σ1 H1 locs1 → W p l e R s m args below meth c H1 locs1 cells slots Q (F0 m (pc + 3) ls (.long r :: rest))) : W p l e R s m args below meth c H locs cells slots Q (F0 m pc ls st0) :=
  va_calll hr hst.2.2 (fun q _ h => kw_sub hst hA q h) (kw_sub hst hA) (fun r u t H1 locs1 ht _ hp hB _ _ hS => kk r u H1 locs1 hp (kw_back hst hA ht hB hS))
theorem kw_callv {post : Sg → Prop} {st0 : List Value} {av : Array Value} (hr : va_Run p l e R s m args below meth c H locs cells slots 0 0 (F0 m pc ls st0) rest (QvW D cl ω post (va_A (ω σ) H.size) av) (va_A (ω σ) H.size)) (hst : Wst D cl ω A s σ H locs) (hA : ∀ q : Nat, s.heap.size ≤ q → A q)
    (kk : ∀ (σ1 : Sg) (H1 : Heap) (locs1 : List Loc), post σ1 → Wst D cl ω A s σ1 H1 locs1 → W p l e R s m args below meth c H1 locs1 cells slots Q (F0 m (pc + 3) ls rest)) : W p l e R s m args below meth c H locs cells slots Q (F0 m pc ls st0) :=
  va_callv hr hst.2.2 (fun q _ h => kw_sub hst hA q h) (kw_sub hst hA) (fun u t H1 locs1 ht _ hp hB _ _ hS => kk u H1 locs1 hp (kw_back hst hA ht hB hS))
theorem kw_callr {o : Nat} {post : Nat → Sg → Prop} {st0 : List Value} {av : Array Value} (hr : va_Run p l e R s m args below meth c H locs cells slots 0 0 (F0 m pc ls st0) rest (QrW D cl ω g o post (va_A (ω σ) H.size) av) (va_A (ω σ) H.size)) (hst : Wst D cl ω A s σ H locs) (hA : ∀ q : Nat, s.heap.size ≤ q → A q)
    (kk : ∀ (k : Nat) (σ1 : Sg) (H1 : Heap) (locs1 : List Loc), post k σ1 → Wst D cl ω A s σ1 H1 locs1 → W p l e R s m args below meth c H1 locs1 cells slots Q (F0 m (pc + 3) ls (.ref (g.1 (k + o)) :: rest))) : W p l e R s m args below meth c H locs cells slots Q (F0 m pc ls st0) :=
  va_callr hr hst.2.2 (fun q _ h => kw_sub hst hA q h) (kw_sub hst hA) (fun u ra t H1 locs1 ht _ hp hB _ _ hS => by
    obtain ⟨rfl, hB⟩ := hB
    exact kk u.1 u.2 H1 locs1 hp (kw_back hst hA ht hB hS))
/-- the ends -/
theorem kw_iret {post : Int32 → Sg → Prop} {v : Int32} (hx : p.tables.exec = Jvm.exec) (hb : c.code = cc) (hr : meth.sig.returnType = some .int) (hlocks : meth.locks = false) (hst : Wst D cl ω A s σ H locs) (h : post v σ) (hdg : decode cc pc = .ok (.ireturn, 1)) :
    W p l e R s m args below meth c H locs cells slots (MQ below (QiW D cl ω post A) args s cells slots A) (F0 m pc ls [.int v]) :=
  W.iret hx hb hr (fun t ht _ => ⟨⟨v, σ, rfl, h, by rw [ht]; exact hst.1, hst.2.1⟩, hst.2.2.F ht⟩) hst.2.2.2.2 hdg hlocks
theorem kw_zret {post : Int32 → Sg → Prop} {v : Int32} {ty : FieldType} (hx : p.tables.exec = Jvm.exec) (hb : c.code = cc) (hr : meth.sig.returnType = some ty) (hlocks : meth.locks = false) (hst : Wst D cl ω A s σ H locs) (h : narrow ty (.int v) = .int v ∧ post v σ) (hdg : decode cc pc = .ok (.ireturn, 1)) :
    W p l e R s m args below meth c H locs cells slots (MQ below (QiW D cl ω post A) args s cells slots A) (F0 m pc ls [.int v]) :=
  W.zret hx hb hr h.1 (fun t ht _ => ⟨⟨v, σ, rfl, h.2, by rw [ht]; exact hst.1, hst.2.1⟩, hst.2.2.F ht⟩) hst.2.2.2.2 hdg hlocks
theorem kw_lret {post : Int64 → Sg → Prop} {v : Int64} (hx : p.tables.exec = Jvm.exec) (hb : c.code = cc) (hr : meth.sig.returnType = some .long) (hlocks : meth.locks = false) (hst : Wst D cl ω A s σ H locs) (h : post v σ) (hdg : decode cc pc = .ok (.lreturn, 1)) :
    W p l e R s m args below meth c H locs cells slots (MQ below (QlW D cl ω post A) args s cells slots A) (F0 m pc ls [.long v]) :=
  W.lret hx hb hr (fun t ht _ => ⟨⟨v, σ, rfl, h, by rw [ht]; exact hst.1, hst.2.1⟩, hst.2.2.F ht⟩) hst.2.2.2.2 hdg hlocks
theorem kw_vret {post : Sg → Prop} (hx : p.tables.exec = Jvm.exec) (hb : c.code = cc) (hr : meth.sig.returnType = none) (hlocks : meth.locks = false) (hst : Wst D cl ω A s σ H locs) (h : post σ) (hdg : decode cc pc = .ok (.return_, 1)) :
    W p l e R s m args below meth c H locs cells slots (MQ below (QvW D cl ω post A) args s cells slots A) (F0 m pc ls []) :=
  W.vret hx hb hr (fun t ht _ => ⟨⟨σ, rfl, h, by rw [ht]; exact hst.1, hst.2.1⟩, hst.2.2.F ht⟩) hst.2.2.2.2 hdg hlocks
theorem kw_aret {o k : Nat} {post : Nat → Sg → Prop} {Cn : String} (hx : p.tables.exec = Jvm.exec) (hb : c.code = cc) (hr : meth.sig.returnType = some (.object Cn)) (hlocks : meth.locks = false) (hst : Wst D cl ω A s σ H locs) (h : post k σ) (ha : a = g.1 (k + o)) (hdg : decode cc pc = .ok (.areturn, 1)) :
    W p l e R s m args below meth c H locs cells slots (MQ below (QrW D cl ω g o post A) args s cells slots A) (F0 m pc ls [.ref a]) :=
  W.aret hx hb hr (Or.inl ⟨Cn, rfl⟩) (Or.inr ⟨a, rfl⟩) (fun t ht _ => ⟨⟨(k, σ), a, rfl, h, ha, by rw [ht]; exact hst.1, hst.2.1⟩, hst.2.2.F ht⟩) hst.2.2.2.2 hdg hlocks
/-- a method's entry -/
theorem kw_entry {y : MethodName} {ws ws' : List Cond} {rm : Room} {nL : Nat} {ret : Option FieldType} {own : String} {sz : Nat} {vs : List Value} {Qc : Array Value → State → Outcome → State → Prop} (hy : plainName y.cls = true) (hw : ws = Cond.code y cc nL ret :: ws') (ho : y.cls = own) (hn : (lg_sl vs).length ≤ nL)
    (body : ∀ (p : Program) (e : Env) (s : State) (m : MethodId) (below : List Frame) (meth : Method) (c : Code) (ls : Array Slot), s.heap.size = sz → kC p s m vs.toArray meth c cc nL ret ws' own D cl g ζ (va_A (ω σ) sz) → (y.name = "<init>" → meth.name = "<init>") → lv_has ls nL (lv_args 0 vs) → Wst D cl ω (va_A (ω σ) sz) s σ s.heap [] →
      W p l e rm s m vs.toArray below meth c s.heap [] 0 0 (MQ below Qc vs.toArray s cells slots (va_A (ω σ) sz)) (F0 m 0 ls [])) :
    Met l y ws rm (PcW D cl ω g ζ σ sz vs) Qc cells slots (va_A (ω σ) sz) := by
  refine Met.ofW (cc := cc) (maxL := nL) (ret := ret) hy hw ?_
  intro p e s m args below meth c s₁ B hml hv
  obtain ⟨rfl, hsz, hP, hK, hD0, hZ⟩ := hv
  have hts := atoms_spec (ws := ws) B.pre
  have hown : s.vm.findClass own = some m.cls := by rw [← ho]; exact findClass_of_methodNamed B.named
  have hl := lv_entry vs (n := nL) hn
  rw [lg_entry_eq]
  refine body p e s m below meth c _ hsz ⟨B.exec, B.bytes, B.returns, hml, hown, fun w h => hts w (by rw [hw]; exact List.mem_cons_of_mem _ h), B.notSynchronized, hK, ?_, ?_⟩ (fun h => by rw [← h]; exact (name_of_methodNamed B.named B.method).1) hl ⟨hP, hD0.self, va_S.rf⟩
  · exact hZ
  · intro q h
    exact Or.inr (hsz ▸ h)
theorem kw_inc {n : Int} {k : Int32} (x : Int32) (h : Int32.ofInt n = k) : x + Int32.ofInt n = x + k := by rw [h]
theorem kw_tin (hx : p.tables.exec = Jvm.exec) (hb : c.code = cc) {dflt lo hi : Int} {offs : Array Int} {len : Nat} {x k : Int32} {off : Int} {tgt : Nat} (hdg : decode cc pc = .ok (.tableswitch dflt lo hi offs, len)) (hk : x = k) (h1 : ¬ k.toInt < lo) (h2 : ¬ hi < k.toInt) (ho : offs[(k.toInt - lo).toNat]? = some off) (ht : (pc : Int) + off = (tgt : Int))
    (kk : W p l e R s m args below meth c H locs cells slots Q (F0 m tgt ls rest)) : W p l e R s m args below meth c H locs cells slots Q (F0 m pc ls (.int x :: rest)) := by
  subst hk
  exact lv_tableIn hx hb hdg h1 h2 ho ht kk
theorem kw_lin (hx : p.tables.exec = Jvm.exec) (hb : c.code = cc) {dflt : Int} {ps : Array (Int × Int)} {len : Nat} {x k : Int32} {tgt : Nat} (hdg : decode cc pc = .ok (.lookupswitch dflt ps, len)) (hk : x = k) (hp : (ps.toList.zip (ps.toList.drop 1)).all (fun (a, next) => a.1 < next.1) = true) (ht : (pc : Int) + Op.lookupswitch.offset ps.toList dflt k.toInt = (tgt : Int))
    (kk : W p l e R s m args below meth c H locs cells slots Q (F0 m tgt ls rest)) : W p l e R s m args below meth c H locs cells slots Q (F0 m pc ls (.int x :: rest)) := by
  subst hk
  exact lv_lookup hx hb hdg hp rfl ht kk
theorem kw_copy (hx : p.tables.exec = Jvm.exec) (hb : c.code = cc) (hml : c.maxLocals = ls.size) {own : String} {index : Nat} (hown : s.vm.findClass own = some m.cls) (hlink : (Cond.methodLink own index arraycopyName).before args s = true) (hnat : (Cond.native arraycopyName).before args s = true) (hstat : (Cond.static arraycopyName).before args s = true) (hini : (Cond.initialized "java/lang/System").before args s = true)
    (hK : va_K D cl (TYS g) s) (hst : Wst D cl ω A s σ H locs) (q0 q1 t0 : Nat) {a0 : Nat} {cA : ClassId} {n0 n1 : Nat} {f f1 : Nat → Int32} {ty : FieldType} (ha0 : (ω σ)[q0]? = some (a0, .inl (cA, n0, .inl f))) (ha1 : (ω σ)[q1]? = some (a, .inl (cA, n1, .inl f1))) (ht : (TYS g)[t0]? = some (cA, ty)) (hprim : refKind ty = false)
    {sp dp n : Int32} (h1 : ¬ sp < 0) (h2 : ¬ dp < 0) (h3 : ¬ n < 0) (h4 : sp.toNatClampNeg + n.toNatClampNeg ≤ n0) (h5 : dp.toNatClampNeg + n.toNatClampNeg ≤ n1) (hfit : ∀ i, i < n.toNatClampNeg → fits ty (.int (f (sp.toNatClampNeg + i))) = true)
    (hframes : 1 ≤ R.frames) (hlocals : (rest.map fun v => v.category).sum + (nativeFrameWords "java/lang/System" "arraycopy" 5 + 11) ≤ R.locals)
    (hset : (ω σ).set q1 (a, .inl (cA, n1, .inl (va_cpy f f1 sp.toNatClampNeg dp.toNatClampNeg n.toNatClampNeg))) = ω (sw σ q1 (va_cpy f f1 sp.toNatClampNeg dp.toNatClampNeg n.toNatClampNeg))) (hdg : decode cc pc = .ok (.invokestatic index, 3))
    (kk : ∀ (σ1 : Sg) (H1 : Heap) (locs1 : List Loc), σ1 = sw σ q1 (va_cpy f f1 sp.toNatClampNeg dp.toNatClampNeg n.toNatClampNeg) → Wst D cl ω A s σ1 H1 locs1 → W p l e R s m args below meth c H1 locs1 cells slots Q (F0 m (pc + 3) ls rest)) :
    W p l e R s m args below meth c H locs cells slots Q (F0 m pc ls (.int n :: .int dp :: .ref a :: .int sp :: .ref a0 :: rest)) :=
  va_copyi hx hb hml hown hlink hnat hstat hini hK hst.1 hst.2.1 hst.2.2 q0 q1 t0 t0 ha0 ha1 ht ht hprim h1 h2 h3 h4 h5 hfit hframes hlocals hdg (fun H1 locs1 h1 h2 h3 => kk _ H1 locs1 rfl ⟨hset ▸ h1, hset ▸ h2, h3⟩)
end KW
