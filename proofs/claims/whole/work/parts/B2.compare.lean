/-- only longs where P says have changed -/
def FL (P : Nat → Nat → Prop) (σ σ' : Sg) : Prop := σ'.1 = σ.1 ∧ σ'.2.2 = σ.2.2 ∧ ∀ c k, ¬ P c k → σ'.2.1 c k = σ.2.1 c k
theorem FL_r {P : Nat → Nat → Prop} {σ : Sg} : FL P σ σ := ⟨rfl, rfl, fun _ _ _ => rfl⟩
theorem FL_t {P : Nat → Nat → Prop} {σ σ1 σ2 : Sg} (h : FL P σ σ1) (k : FL P σ1 σ2) : FL P σ σ2 := ⟨k.1.trans h.1, k.2.1.trans h.2.1, fun c j hp => (k.2.2 c j hp).trans (h.2.2 c j hp)⟩
theorem FL_m {P Q : Nat → Nat → Prop} {σ σ' : Sg} (h : FL P σ σ') (hm : ∀ c k, P c k → Q c k) : FL Q σ σ' := ⟨h.1, h.2.1, fun c k hq => h.2.2 c k (fun hp => hq (hm c k hp))⟩
theorem FL_sl {P : Nat → Nat → Prop} {σ0 σ : Sg} {c k : Nat} {v : Int64} (h : FL P σ0 σ) (hp : P c k) : FL P σ0 (sl σ c k v) :=
  FL_t h ⟨rfl, rfl, fun c' k' hn => by rw [sl_2, if_neg (fun q => hn (by rw [q.1, q.2]; exact hp))]⟩
theorem FL_add {P : Nat → Nat → Prop} {σ0 σ : Sg} {i : Nat} (h : FL P σ0 σ) (h1 : P 54 38) (h2 : P 54 39) : FL P σ0 (madd σ i) := by
  unfold madd; split
  · exact FL_sl h h1
  · exact FL_sl h h2
section CM
variable {tS : Nat → Nat} {lS : Nat} {S : TG} {tD : Nat → Nat} {lD : Nat} {D : TG} {L : List Nat}
/-- both trees in the reference -/
abbrev MC (tS : Nat → Nat) (lS : Nat) (S : TG) (tD : Nat → Nat) (lD : Nat) (D : TG) (L : List Nat) (σ : Sg) : Prop := (MPl tS lS S σ L) ∧ (MI 1 σ lD tD D op0) ∧ (TX 1 σ lD tD) ∧ (WG lS S) ∧ (WG lD D) ∧ (S.N ≤ 160) ∧ (D.N ≤ 80)
theorem MC.p {tS : Nat → Nat} {lS : Nat} {S : TG} {tD : Nat → Nat} {lD : Nat} {D : TG} {L : List Nat} {σ : Sg} (hX : MC tS lS S tD lD D L σ) : MPl tS lS S σ L := hX.1
theorem MC.d {tS : Nat → Nat} {lS : Nat} {S : TG} {tD : Nat → Nat} {lD : Nat} {D : TG} {L : List Nat} {σ : Sg} (hX : MC tS lS S tD lD D L σ) : MI 1 σ lD tD D op0 := hX.2.1
theorem MC.x {tS : Nat → Nat} {lS : Nat} {S : TG} {tD : Nat → Nat} {lD : Nat} {D : TG} {L : List Nat} {σ : Sg} (hX : MC tS lS S tD lD D L σ) : TX 1 σ lD tD := hX.2.2.1
theorem MC.ws {tS : Nat → Nat} {lS : Nat} {S : TG} {tD : Nat → Nat} {lD : Nat} {D : TG} {L : List Nat} {σ : Sg} (hX : MC tS lS S tD lD D L σ) : WG lS S := hX.2.2.2.1
theorem MC.wd {tS : Nat → Nat} {lS : Nat} {S : TG} {tD : Nat → Nat} {lD : Nat} {D : TG} {L : List Nat} {σ : Sg} (hX : MC tS lS S tD lD D L σ) : WG lD D := hX.2.2.2.2.1
theorem MC.ns {tS : Nat → Nat} {lS : Nat} {S : TG} {tD : Nat → Nat} {lD : Nat} {D : TG} {L : List Nat} {σ : Sg} (hX : MC tS lS S tD lD D L σ) : S.N ≤ 160 := hX.2.2.2.2.2.1
theorem MC.nd {tS : Nat → Nat} {lS : Nat} {S : TG} {tD : Nat → Nat} {lD : Nat} {D : TG} {L : List Nat} {σ : Sg} (hX : MC tS lS S tD lD D L σ) : D.N ≤ 80 := hX.2.2.2.2.2.2
theorem MC_i {σ σ' : Sg} (h : MC tS lS S tD lD D L σ) (e : ∀ c, c ≠ 54 → c ≠ 88 → c ≠ 89 → c ≠ 90 → c ≠ 91 → σ'.1 c = σ.1 c) (e54 : ∀ k, k = 18 ∨ k = 28 → σ'.1 54 k = σ.1 54 k) (e55 : σ'.2.1 55 = σ.2.1 55) : MC tS lS S tD lD D L σ' := by
  obtain ⟨p, d, x, ws, wd, ns, nd⟩ := h
  obtain ⟨t0, t1, t2, t3, t4, t5⟩ := p.s.t
  refine ⟨⟨⟨MI_cg p.s.i (fun c h1 h2 => e c (by omega) (by omega) (by omega) (by omega) (by omega)), ⟨t0, by rw [e54 18 (by omega)]; exact t1, by rw [e 57 (by omega) (by omega) (by omega) (by omega) (by omega)]; exact t2, t3, t4, fun k hk => by rw [e 56 (by omega) (by omega) (by omega) (by omega) (by omega)]; exact t5 k hk⟩, by rw [e55]; exact p.s.w⟩, RU_Fr p.r (fun c k hc => by rw [e c (by omega) (by omega) (by omega) (by omega) (by omega)]), by rw [e54 28 (by omega)]; exact p.n, fun j hj => by rw [e 78 (by omega) (by omega) (by omega) (by omega) (by omega)]; exact p.o j hj, p.l, p.m⟩, MI_cg d (fun c h1 h2 => e c (by omega) (by omega) (by omega) (by omega) (by omega)), ⟨x.1, x.2.1, x.2.2.1, fun k hk => by rw [e 56 (by omega) (by omega) (by omega) (by omega) (by omega)]; exact x.2.2.2 k hk⟩, ws, wd, ns, nd⟩
theorem MC_FL {P : Nat → Nat → Prop} {σ σ' : Sg} (h : MC tS lS S tD lD D L σ) (f : FL P σ σ') (hP : ∀ k, ¬ P 55 k) : MC tS lS S tD lD D L σ' :=
  MC_i h (fun c _ _ _ _ _ => by rw [f.1]) (fun k _ => by rw [f.1]) (funext fun k => f.2.2 55 k (hP k))
/-- the cells of both trees -/
abbrev MT (S D : TG) (tS : Nat → Nat) (lS : Nat) (tD : Nat → Nat) (lD : Nat) (σ : Sg) : Prop := (∀ k, k < S.N → σ.1 59 k = nI (S.kd k)) ∧ (∀ k, k < D.N → σ.1 59 (160 + k) = nI (D.kd k)) ∧ (∀ k, k < S.N → σ.1 64 k = nI (S.K k).length) ∧ (∀ k, k < D.N → σ.1 64 (160 + k) = nI (D.K k).length) ∧ (∀ k, k < S.N → σ.1 60 k = nI (S.fr k)) ∧ (∀ k, k < D.N → σ.1 60 (160 + k) = nI (D.fr k)) ∧ (∀ k, k < S.N → chM 0 (σ.1 66) (σ.1 65 k) (S.K k)) ∧ (∀ k, k < D.N → chM 1 (σ.1 66) (σ.1 65 (160 + k)) (D.K k)) ∧ (∀ k, k < S.N → σ.1 69 k = S.nu k) ∧ (∀ k, k < D.N → σ.1 69 (160 + k) = D.nu k) ∧ (∀ k, k < S.N → S.kd k = 4 → σ.1 62 k = nI (qe tS lS (S.fr k + 1))) ∧ (∀ k, k < D.N → D.kd k = 4 → σ.1 62 (160 + k) = nI (qe tD lD (D.fr k + 1))) ∧ (∀ k, k < S.N → σ.1 67 k = oI (S.nm k)) ∧ (∀ k, k < D.N → σ.1 67 (160 + k) = oI (D.nm k)) ∧ (∀ k, k < S.N → ∀ n, S.nm k = some n → σ.1 68 k = nI (qe tS lS (n + 1))) ∧ (∀ k, k < D.N → ∀ n, D.nm k = some n → σ.1 68 (160 + k) = nI (qe tD lD (n + 1))) ∧ (σ.1 58 0 = nI S.N) ∧ (σ.1 58 1 = nI D.N)
theorem MT.kS {S D : TG} {tS : Nat → Nat} {lS : Nat} {tD : Nat → Nat} {lD : Nat} {σ : Sg} (hX : MT S D tS lS tD lD σ) : ∀ k, k < S.N → σ.1 59 k = nI (S.kd k) := hX.1
theorem MT.kD {S D : TG} {tS : Nat → Nat} {lS : Nat} {tD : Nat → Nat} {lD : Nat} {σ : Sg} (hX : MT S D tS lS tD lD σ) : ∀ k, k < D.N → σ.1 59 (160 + k) = nI (D.kd k) := hX.2.1
theorem MT.mS {S D : TG} {tS : Nat → Nat} {lS : Nat} {tD : Nat → Nat} {lD : Nat} {σ : Sg} (hX : MT S D tS lS tD lD σ) : ∀ k, k < S.N → σ.1 64 k = nI (S.K k).length := hX.2.2.1
theorem MT.mD {S D : TG} {tS : Nat → Nat} {lS : Nat} {tD : Nat → Nat} {lD : Nat} {σ : Sg} (hX : MT S D tS lS tD lD σ) : ∀ k, k < D.N → σ.1 64 (160 + k) = nI (D.K k).length := hX.2.2.2.1
theorem MT.fS {S D : TG} {tS : Nat → Nat} {lS : Nat} {tD : Nat → Nat} {lD : Nat} {σ : Sg} (hX : MT S D tS lS tD lD σ) : ∀ k, k < S.N → σ.1 60 k = nI (S.fr k) := hX.2.2.2.2.1
theorem MT.fD {S D : TG} {tS : Nat → Nat} {lS : Nat} {tD : Nat → Nat} {lD : Nat} {σ : Sg} (hX : MT S D tS lS tD lD σ) : ∀ k, k < D.N → σ.1 60 (160 + k) = nI (D.fr k) := hX.2.2.2.2.2.1
theorem MT.cS {S D : TG} {tS : Nat → Nat} {lS : Nat} {tD : Nat → Nat} {lD : Nat} {σ : Sg} (hX : MT S D tS lS tD lD σ) : ∀ k, k < S.N → chM 0 (σ.1 66) (σ.1 65 k) (S.K k) := hX.2.2.2.2.2.2.1
theorem MT.cD {S D : TG} {tS : Nat → Nat} {lS : Nat} {tD : Nat → Nat} {lD : Nat} {σ : Sg} (hX : MT S D tS lS tD lD σ) : ∀ k, k < D.N → chM 1 (σ.1 66) (σ.1 65 (160 + k)) (D.K k) := hX.2.2.2.2.2.2.2.1
theorem MT.uS {S D : TG} {tS : Nat → Nat} {lS : Nat} {tD : Nat → Nat} {lD : Nat} {σ : Sg} (hX : MT S D tS lS tD lD σ) : ∀ k, k < S.N → σ.1 69 k = S.nu k := hX.2.2.2.2.2.2.2.2.1
theorem MT.uD {S D : TG} {tS : Nat → Nat} {lS : Nat} {tD : Nat → Nat} {lD : Nat} {σ : Sg} (hX : MT S D tS lS tD lD σ) : ∀ k, k < D.N → σ.1 69 (160 + k) = D.nu k := hX.2.2.2.2.2.2.2.2.2.1
theorem MT.qS {S D : TG} {tS : Nat → Nat} {lS : Nat} {tD : Nat → Nat} {lD : Nat} {σ : Sg} (hX : MT S D tS lS tD lD σ) : ∀ k, k < S.N → S.kd k = 4 → σ.1 62 k = nI (qe tS lS (S.fr k + 1)) := hX.2.2.2.2.2.2.2.2.2.2.1
theorem MT.qD {S D : TG} {tS : Nat → Nat} {lS : Nat} {tD : Nat → Nat} {lD : Nat} {σ : Sg} (hX : MT S D tS lS tD lD σ) : ∀ k, k < D.N → D.kd k = 4 → σ.1 62 (160 + k) = nI (qe tD lD (D.fr k + 1)) := hX.2.2.2.2.2.2.2.2.2.2.2.1
theorem MT.aS {S D : TG} {tS : Nat → Nat} {lS : Nat} {tD : Nat → Nat} {lD : Nat} {σ : Sg} (hX : MT S D tS lS tD lD σ) : ∀ k, k < S.N → σ.1 67 k = oI (S.nm k) := hX.2.2.2.2.2.2.2.2.2.2.2.2.1
theorem MT.aD {S D : TG} {tS : Nat → Nat} {lS : Nat} {tD : Nat → Nat} {lD : Nat} {σ : Sg} (hX : MT S D tS lS tD lD σ) : ∀ k, k < D.N → σ.1 67 (160 + k) = oI (D.nm k) := hX.2.2.2.2.2.2.2.2.2.2.2.2.2.1
theorem MT.eS {S D : TG} {tS : Nat → Nat} {lS : Nat} {tD : Nat → Nat} {lD : Nat} {σ : Sg} (hX : MT S D tS lS tD lD σ) : ∀ k, k < S.N → ∀ n, S.nm k = some n → σ.1 68 k = nI (qe tS lS (n + 1)) := hX.2.2.2.2.2.2.2.2.2.2.2.2.2.2.1
theorem MT.eD {S D : TG} {tS : Nat → Nat} {lS : Nat} {tD : Nat → Nat} {lD : Nat} {σ : Sg} (hX : MT S D tS lS tD lD σ) : ∀ k, k < D.N → ∀ n, D.nm k = some n → σ.1 68 (160 + k) = nI (qe tD lD (n + 1)) := hX.2.2.2.2.2.2.2.2.2.2.2.2.2.2.2.1
theorem MT.nS {S D : TG} {tS : Nat → Nat} {lS : Nat} {tD : Nat → Nat} {lD : Nat} {σ : Sg} (hX : MT S D tS lS tD lD σ) : σ.1 58 0 = nI S.N := hX.2.2.2.2.2.2.2.2.2.2.2.2.2.2.2.2.1
theorem MT.nD {S D : TG} {tS : Nat → Nat} {lS : Nat} {tD : Nat → Nat} {lD : Nat} {σ : Sg} (hX : MT S D tS lS tD lD σ) : σ.1 58 1 = nI D.N := hX.2.2.2.2.2.2.2.2.2.2.2.2.2.2.2.2.2
theorem MC_T {σ : Sg} (h : MC tS lS S tD lD D L σ) : MT S D tS lS tD lD σ := by
  have a := h.p.s.i
  have d := h.d
  have z : ∀ k : Nat, 160 * 0 + k = k := fun k => by omega
  have o : ∀ k : Nat, 160 * 1 + k = 160 + k := fun k => by omega
  refine ⟨fun k hk => ?_, fun k hk => ?_, fun k hk => ?_, fun k hk => ?_, fun k hk => ?_, fun k hk => ?_, fun k hk => ?_, fun k hk => ?_, fun k hk => ?_, fun k hk => ?_, fun k hk q => ?_, fun k hk q => ?_, fun k hk => ?_, fun k hk => ?_, fun k hk n q => ?_, fun k hk n q => ?_, a.N, d.N⟩
  · have := a.kd k hk (by show 0 < 2; omega); rw [z] at this; exact this
  · have := d.kd k hk (by show 0 < 2; omega); rw [o] at this; exact this
  · have := a.mn k hk; rw [z] at this; exact this
  · have := d.mn k hk; rw [o] at this; exact this
  · have := a.fr k hk; rw [z] at this; exact this
  · have := d.fr k hk; rw [o] at this; exact this
  · have := a.ch k hk; rw [z] at this; exact this
  · have := d.ch k hk; rw [o] at this; exact this
  · have := a.nu k hk (by show 0 < 2; omega); rw [z] at this; exact this
  · have := d.nu k hk (by show 0 < 2; omega); rw [o] at this; exact this
  · have := a.cs k hk (by show 0 < 2; omega) q; rw [z] at this; exact this
  · have := d.cs k hk (by show 0 < 2; omega) q; rw [o] at this; exact this
  · have := a.nm k hk; rw [z] at this; exact this
  · have := d.nm k hk; rw [o] at this; exact this
  · have := a.ne k hk n q; rw [z] at this; exact this
  · have := d.ne k hk n q; rw [o] at this; exact this
theorem oM_1 (o : Option Nat) : oM 1 o = match o with | none => -nI 1 | some c => nI (160 + c) := by cases o <;> simp [oM]
/-- childNamed of the reference in the document, by a word of the schema -/
theorem cn_d {σ : Sg} (h : MC tS lS S tD lD D L σ) {i g e1 : Nat} (hi : i < D.N) (h6 : D.kd i = 6) (hg : g ≤ e1) (he : e1 ≤ lS) : Ri (wq_Md_childNamed (nI (160 + i)) (nI g) (nI e1) σ) (oM 1 (cnd tD lD D i tS g e1)) σ := by
  have hnd := h.nd
  have := cn_m (t1 := 0) (tx1 := tS) (g := g) (e1 := e1) h.d h.wd h.x (TM_X h.p.s.t) hi (by omega) (by omega) h6 hg he
  rw [show 160 * 1 + i = 160 + i by omega, show 160 * 0 + g = g by omega, show 160 * 0 + e1 = e1 by omega] at this
  exact this
/-- and in the schema, by a word of the document -/
theorem cn_s {σ : Sg} (h : MC tS lS S tD lD D L σ) {p g e1 : Nat} (hp : p < S.N) (h6 : S.kd p = 6) (hg : g ≤ e1) (he : e1 ≤ lD) : Ri (wq_Md_childNamed (nI p) (nI (160 + g)) (nI (160 + e1)) σ) (oI (cnd tS lS S p tD g e1)) σ := by
  have hns := h.ns
  have := cn_m (t1 := 1) (tx1 := tD) (g := g) (e1 := e1) h.p.s.i h.ws (TM_X h.p.s.t) h.x hp (by omega) (by omega) h6 hg he
  rw [oM_0, show 160 * 0 + p = p by omega, show 160 * 1 + g = 160 + g by omega, show 160 * 1 + e1 = 160 + e1 by omega] at this
  exact this
theorem Md_equals_r {σ : Sg} (h : MC tS lS S tD lD D L σ) {s i : Nat} (hs : s < S.N) (hi : i < D.N) (E : Nat → Nat → Bool) (hE : ∀ x ∈ S.K s, ∀ y, y < D.N → bt σ 80 x y = E x y) : Ri (wq_Md_equals (nI s) (nI (160 + i)) σ) (nB (eqB tS lS S tD lD D E s i)) σ := by
  have M := MC_T h
  have hns := h.ns
  have hnd := h.nd
  have kv := h.ws.kd s hs
  have ki := h.wd.kd i hi
  have lv := len_K h.ws hs
  have li := len_K h.wd hi
  have fs := h.ws.fr s hs
  have fi := h.wd.fr i hi
  intro post hp
  unfold wq_Md_equals
  refine ex_s ?_
  show ∃ m, wb_Md_equals_0 (wp_Md_equals post m) post (nI s) (nI (160 + i)) σ
  simp (disch := omega) only [wb_Md_equals_0, M.kS s hs, M.kD i hi, M.mS s hs, M.mD i hi, M.fS s hs, M.fD i hi, M.uS s hs, M.uD i hi, litI, n_le, n_lt, n_eq, n_in, n_cl, nI_add, n_b0, n_b1, n_v0, n_v1, n_m1, n_m1', n_m1l, n_m1l', n_m1g, n_m1ge, si_1, si_2, forall_eq, not_true_eq_false, not_false_eq_true, true_imp_iff, false_imp_iff, true_and, and_true, false_and, and_false, implies_true, ite_true, ite_false, if_true, if_false, Classical.not_not, Nat.reduceEqDiff, reduceIte, Nat.add_left_cancel_iff, Nat.add_eq_left, Nat.left_eq_add, and_self, n_sub, pk_mul, eq_true (show s < 240 by omega), eq_true (show 160 + i < 240 by omega)]
  unfold eqB at hp
  by_cases e1 : S.kd s = D.kd i
  case neg =>
    rw [if_neg e1] at hp
    simp only [eq_false e1, litI, n_le, n_lt, n_eq, n_in, n_cl, nI_add, n_b0, n_b1, n_v0, n_v1, n_m1, n_m1', n_m1l, n_m1l', n_m1g, n_m1ge, si_1, si_2, forall_eq, not_true_eq_false, not_false_eq_true, true_imp_iff, false_imp_iff, true_and, and_true, false_and, and_false, implies_true, ite_true, ite_false, if_true, if_false, Classical.not_not, Nat.reduceEqDiff, reduceIte, Nat.add_left_cancel_iff, Nat.add_eq_left, Nat.left_eq_add, and_self, n_sub, pk_mul]
    exact ⟨0, hp⟩
  rw [if_pos e1] at hp
  simp only [eq_true e1, litI, n_le, n_lt, n_eq, n_in, n_cl, nI_add, n_b0, n_b1, n_v0, n_v1, n_m1, n_m1', n_m1l, n_m1l', n_m1g, n_m1ge, si_1, si_2, forall_eq, not_true_eq_false, not_false_eq_true, true_imp_iff, false_imp_iff, true_and, and_true, false_and, and_false, implies_true, ite_true, ite_false, if_true, if_false, Classical.not_not, Nat.reduceEqDiff, reduceIte, Nat.add_left_cancel_iff, Nat.add_eq_left, Nat.left_eq_add, and_self, n_sub, pk_mul]
  by_cases el : (S.K s).length = (D.K i).length
  case neg =>
    have e5 : 5 ≤ S.kd s := Classical.byContradiction (fun q => el (by rw [h.ws.nl s hs (by omega), h.wd.nl i hi (by omega)]))
    rw [if_neg (by omega), if_neg (by omega), if_neg el] at hp
    simp only [eq_false el, litI, n_le, n_lt, n_eq, n_in, n_cl, nI_add, n_b0, n_b1, n_v0, n_v1, n_m1, n_m1', n_m1l, n_m1l', n_m1g, n_m1ge, si_1, si_2, forall_eq, not_true_eq_false, not_false_eq_true, true_imp_iff, false_imp_iff, true_and, and_true, false_and, and_false, implies_true, ite_true, ite_false, if_true, if_false, Classical.not_not, Nat.reduceEqDiff, reduceIte, Nat.add_left_cancel_iff, Nat.add_eq_left, Nat.left_eq_add, and_self, n_sub, pk_mul]
    exact ⟨0, hp⟩
  rw [if_pos el] at hp
  simp only [eq_true el, litI, n_le, n_lt, n_eq, n_in, n_cl, nI_add, n_b0, n_b1, n_v0, n_v1, n_m1, n_m1', n_m1l, n_m1l', n_m1g, n_m1ge, si_1, si_2, forall_eq, not_true_eq_false, not_false_eq_true, true_imp_iff, false_imp_iff, true_and, and_true, false_and, and_false, implies_true, ite_true, ite_false, if_true, if_false, Classical.not_not, Nat.reduceEqDiff, reduceIte, Nat.add_left_cancel_iff, Nat.add_eq_left, Nat.left_eq_add, and_self, n_sub, pk_mul]
  by_cases e3 : S.kd s = 3
  · rw [if_pos e3] at hp
    simp only [eq_true e3, litI, n_le, n_lt, n_eq, n_in, n_cl, nI_add, n_b0, n_b1, n_v0, n_v1, n_m1, n_m1', n_m1l, n_m1l', n_m1g, n_m1ge, si_1, si_2, forall_eq, not_true_eq_false, not_false_eq_true, true_imp_iff, false_imp_iff, true_and, and_true, false_and, and_false, implies_true, ite_true, ite_false, if_true, if_false, Classical.not_not, Nat.reduceEqDiff, reduceIte, Nat.add_left_cancel_iff, Nat.add_eq_left, Nat.left_eq_add, and_self, n_sub, pk_mul]
    by_cases en : S.nu s = D.nu i
    · rw [decide_eq_true en] at hp
      simp only [eq_true en, litI, n_le, n_lt, n_eq, n_in, n_cl, nI_add, n_b0, n_b1, n_v0, n_v1, n_m1, n_m1', n_m1l, n_m1l', n_m1g, n_m1ge, si_1, si_2, forall_eq, not_true_eq_false, not_false_eq_true, true_imp_iff, false_imp_iff, true_and, and_true, false_and, and_false, implies_true, ite_true, ite_false, if_true, if_false, Classical.not_not, Nat.reduceEqDiff, reduceIte, Nat.add_left_cancel_iff, Nat.add_eq_left, Nat.left_eq_add, and_self, n_sub, pk_mul]
      exact ⟨0, hp⟩
    · rw [decide_eq_false en] at hp
      simp only [eq_false en, litI, n_le, n_lt, n_eq, n_in, n_cl, nI_add, n_b0, n_b1, n_v0, n_v1, n_m1, n_m1', n_m1l, n_m1l', n_m1g, n_m1ge, si_1, si_2, forall_eq, not_true_eq_false, not_false_eq_true, true_imp_iff, false_imp_iff, true_and, and_true, false_and, and_false, implies_true, ite_true, ite_false, if_true, if_false, Classical.not_not, Nat.reduceEqDiff, reduceIte, Nat.add_left_cancel_iff, Nat.add_eq_left, Nat.left_eq_add, and_self, n_sub, pk_mul]
      exact ⟨0, hp⟩
  rw [if_neg e3] at hp
  simp only [eq_false e3, litI, n_le, n_lt, n_eq, n_in, n_cl, nI_add, n_b0, n_b1, n_v0, n_v1, n_m1, n_m1', n_m1l, n_m1l', n_m1g, n_m1ge, si_1, si_2, forall_eq, not_true_eq_false, not_false_eq_true, true_imp_iff, false_imp_iff, true_and, and_true, false_and, and_false, implies_true, ite_true, ite_false, if_true, if_false, Classical.not_not, Nat.reduceEqDiff, reduceIte, Nat.add_left_cancel_iff, Nat.add_eq_left, Nat.left_eq_add, and_self, n_sub, pk_mul]
  by_cases e4 : S.kd s = 4
  · rw [if_pos e4] at hp
    simp only [eq_true e4, litI, n_le, n_lt, n_eq, n_in, n_cl, nI_add, n_b0, n_b1, n_v0, n_v1, n_m1, n_m1', n_m1l, n_m1l', n_m1g, n_m1ge, si_1, si_2, forall_eq, not_true_eq_false, not_false_eq_true, true_imp_iff, false_imp_iff, true_and, and_true, false_and, and_false, implies_true, ite_true, ite_false, if_true, if_false, Classical.not_not, Nat.reduceEqDiff, reduceIte, Nat.add_left_cancel_iff, Nat.add_eq_left, Nat.left_eq_add, and_self, n_sub, pk_mul, M.qS s hs e4, M.qD i hi (by omega)]
    have q1 := qe_sp (tx := tS) (len := lS) (x := S.fr s + 1) (by omega)
    have q2 := qe_sp (tx := tD) (len := lD) (x := D.fr i + 1) (by omega)
    have q11 := q1.1
    have q12 := q1.2.1
    have q21 := q2.1
    have q22 := q2.2.1
    have l1 := h.p.s.t.2.2.2.1
    have l2 := h.x.2.2.1
    refine ⟨0, ?_⟩
    have hsame := Md_same_r (σ := σ) (A := S.fr s + 1) (Ae := qe tS lS (S.fr s + 1)) (B := 160 + (D.fr i) + 1) (Be := 160 + qe tD lD (D.fr i + 1)) (u := fun j => tS (S.fr s + 1 + j)) (v := fun j => tD (D.fr i + 1 + j)) q11 (by omega) (by omega) (by omega) (fun j hj => by
      have := h.p.s.t.2.2.2.2.2 (S.fr s + 1 + j) (by omega); rw [show 160 * 0 + (S.fr s + 1 + j) = S.fr s + 1 + j by omega] at this; exact ⟨this.1, this.2.2⟩) (fun j hj => by
      have := h.x.2.2.2 (D.fr i + 1 + j) (by omega); rw [show 160 * 1 + (D.fr i + 1 + j) = 160 + D.fr i + 1 + j by omega] at this; exact ⟨this.1, this.2.2⟩)
    refine hsame _ ?_
    rw [bI_B, nB_n]
    refine ⟨trivial, ?_⟩
    have e5 : (decide (qe tS lS (S.fr s + 1) - (S.fr s + 1) = 160 + qe tD lD (D.fr i + 1) - (160 + D.fr i + 1) ∧ ∀ j, j < qe tS lS (S.fr s + 1) - (S.fr s + 1) → tS (S.fr s + 1 + j) = tD (D.fr i + 1 + j))) = decide (eqn tS (S.fr s + 1) (qe tS lS (S.fr s + 1)) tD (D.fr i + 1) (qe tD lD (D.fr i + 1))) := by
      have : 160 + qe tD lD (D.fr i + 1) - (160 + D.fr i + 1) = qe tD lD (D.fr i + 1) - (D.fr i + 1) := by omega
      simp only [this]
    rw [e5]; exact hp
  rw [if_neg e4] at hp
  simp only [eq_false e4, litI, n_le, n_lt, n_eq, n_in, n_cl, nI_add, n_b0, n_b1, n_v0, n_v1, n_m1, n_m1', n_m1l, n_m1l', n_m1g, n_m1ge, si_1, si_2, forall_eq, not_true_eq_false, not_false_eq_true, true_imp_iff, false_imp_iff, true_and, and_true, false_and, and_false, implies_true, ite_true, ite_false, if_true, if_false, Classical.not_not, Nat.reduceEqDiff, reduceIte, Nat.add_left_cancel_iff, Nat.add_eq_left, Nat.left_eq_add, and_self, n_sub, pk_mul]
  -- the loop
  have key : ∀ (ls ms : List Nat) (x4 x5 : Int32) (a : Bool), ls.length = ms.length → (∀ x ∈ ls, x ∈ S.K s) → (∀ y ∈ ms, y ∈ D.K i) → chM 0 (σ.1 66) x5 ls → chM 1 (σ.1 66) x4 ms →
      post (nB (a && if S.kd s = 6 then ls.all (fun x => match dch tS lS S tD lD D i x with | some y => E x y | none => false) else all2 E ls ms)) σ → ∃ m, wp_Md_equals post m 1 (nI s) (nI (160 + i)) (nB a) x4 x5 0 σ := by
    intro ls
    induction ls with
    | nil =>
      intro ms x4 x5 a hlm _ _ hB _ hp
      have hB : x5 = -nI 1 := hB
      subst hB
      have hp : post (nB a) σ := by
        have e : (if S.kd s = 6 then ([] : List Nat).all (fun x => match dch tS lS S tD lD D i x with | some y => E x y | none => false) else all2 E [] ms) = true := by
          split
          · rfl
          · cases ms <;> rfl
        rw [e, Bool.and_true] at hp; exact hp
      refine ⟨1, ?_⟩
      show wb_Md_equals_1 (wp_Md_equals post 0) post (nI s) (nI (160 + i)) (nB a) x4 (-nI 1) σ
      simp (disch := omega) only [wb_Md_equals_1, litI, hm0, nB_n, litI, n_le, n_lt, n_eq, n_in, n_cl, nI_add, n_b0, n_b1, n_v0, n_v1, n_m1, n_m1', n_m1l, n_m1l', n_m1g, n_m1ge, si_1, si_2, forall_eq, not_true_eq_false, not_false_eq_true, true_imp_iff, false_imp_iff, true_and, and_true, false_and, and_false, implies_true, ite_true, ite_false, if_true, if_false, Classical.not_not, Nat.reduceEqDiff, reduceIte, Nat.add_left_cancel_iff, Nat.add_eq_left, Nat.left_eq_add, and_self, n_sub, pk_mul]
      exact hp
    | cons x ls ihl =>
      intro ms x4 x5 a hlm hx hy hB hB2 hp
      cases ms with
      | nil => simp at hlm
      | cons y ms =>
        obtain ⟨b1, b2⟩ := hB
        obtain ⟨c1, c2⟩ := hB2
        rw [show 160 * 0 + x = x by omega] at b1 b2
        rw [show 160 * 1 + y = 160 + y by omega] at c1 c2
        subst b1; subst c1
        have hx1 := h.ws.ch s hs x (hx x (List.mem_cons_self ..))
        have hy1 := h.wd.ch i hi y (hy y (List.mem_cons_self ..))
        simp at hlm
        cases a with
        | false =>
          refine ⟨1, ?_⟩
          show wb_Md_equals_1 (wp_Md_equals post 0) post (nI s) (nI (160 + i)) (nB false) (nI (160 + y)) (nI x) σ
          simp (disch := omega) only [wb_Md_equals_1, litI, nB_0, nB_n, n_lt, eq_false (show ¬ x < 0 by omega), litI, n_le, n_lt, n_eq, n_in, n_cl, nI_add, n_b0, n_b1, n_v0, n_v1, n_m1, n_m1', n_m1l, n_m1l', n_m1g, n_m1ge, si_1, si_2, forall_eq, not_true_eq_false, not_false_eq_true, true_imp_iff, false_imp_iff, true_and, and_true, false_and, and_false, implies_true, ite_true, ite_false, if_true, if_false, Classical.not_not, Nat.reduceEqDiff, reduceIte, Nat.add_left_cancel_iff, Nat.add_eq_left, Nat.left_eq_add, and_self, n_sub, pk_mul]
          exact hp
        | true =>
          simp only [Bool.true_and] at hp
          -- behind the child
          have blk2 : ∀ (o : Option Nat), (∀ z, o = some z → z < D.N) → (∃ m, wp_Md_equals post m 1 (nI s) (nI (160 + i)) (nB (match o with | some z => E x z | none => false)) (σ.1 66 (160 + y)) (σ.1 66 x) 0 σ) → ∃ m, wp_Md_equals post m 2 (nI s) (nI (160 + i)) 0 (nI (160 + y)) (nI x) (oM 1 o) σ := by
            intro o ho hr
            have blk4 : ∀ (r : Bool), (∃ m, wp_Md_equals post m 1 (nI s) (nI (160 + i)) (nB r) (σ.1 66 (160 + y)) (σ.1 66 x) 0 σ) → ∃ m, wp_Md_equals post m 4 (nI s) (nI (160 + i)) (nB r) (nI (160 + y)) (nI x) 0 σ := by
              rintro r ⟨m, hm⟩
              refine ⟨m + 1, ?_⟩
              show wb_Md_equals_4 (wp_Md_equals post m) post (nI s) (nI (160 + i)) (nB r) (nI (160 + y)) (nI x) σ
              simp (disch := omega) only [wb_Md_equals_4, litI, n_le, n_lt, n_eq, n_in, n_cl, nI_add, n_b0, n_b1, n_v0, n_v1, n_m1, n_m1', n_m1l, n_m1l', n_m1g, n_m1ge, si_1, si_2, forall_eq, not_true_eq_false, not_false_eq_true, true_imp_iff, false_imp_iff, true_and, and_true, false_and, and_false, implies_true, ite_true, ite_false, if_true, if_false, Classical.not_not, Nat.reduceEqDiff, reduceIte, Nat.add_left_cancel_iff, Nat.add_eq_left, Nat.left_eq_add, and_self, n_sub, pk_mul, Nat.zero_le, eq_true (show 160 + y < 240 by omega), eq_true (show x < 240 by omega)]
              exact hm
            cases o with
            | none =>
              obtain ⟨m, hm⟩ := blk4 false hr
              refine ⟨m + 2, ?_⟩
              rw [oM_1]
              show wb_Md_equals_2 (wp_Md_equals post (m + 1)) post (nI s) (nI (160 + i)) (nI (160 + y)) (nI x) (-nI 1) σ
              simp (disch := omega) only [wb_Md_equals_2, litI, hm0, litI, n_le, n_lt, n_eq, n_in, n_cl, nI_add, n_b0, n_b1, n_v0, n_v1, n_m1, n_m1', n_m1l, n_m1l', n_m1g, n_m1ge, si_1, si_2, forall_eq, not_true_eq_false, not_false_eq_true, true_imp_iff, false_imp_iff, true_and, and_true, false_and, and_false, implies_true, ite_true, ite_false, if_true, if_false, Classical.not_not, Nat.reduceEqDiff, reduceIte, Nat.add_left_cancel_iff, Nat.add_eq_left, Nat.left_eq_add, and_self, n_sub, pk_mul]
              exact hm
            | some z =>
              have hz := ho z rfl
              have hEz := hE x (hx x (List.mem_cons_self ..)) z hz
              rw [oM_1]
              cases hq : E x z with
              | false =>
                have hr : ∃ m, wp_Md_equals post m 1 (nI s) (nI (160 + i)) (nB false) (σ.1 66 (160 + y)) (σ.1 66 x) 0 σ := by simpa [hq] using hr
                obtain ⟨m, hm⟩ := blk4 false hr
                refine ⟨m + 2, ?_⟩
                show wb_Md_equals_2 (wp_Md_equals post (m + 1)) post (nI s) (nI (160 + i)) (nI (160 + y)) (nI x) (nI (160 + z)) σ
                simp (disch := omega) only [wb_Md_equals_2, litI, n_lt, eq_false (show ¬ 160 + z < 0 by omega), not_false_eq_true, false_imp_iff, true_imp_iff, true_and, Md_isEqual_r (show z < 80 by omega) (show x < 160 by omega), hEz, hq, nB_0, not_true_eq_false, and_true]
                exact hm
              | true =>
                have hr : ∃ m, wp_Md_equals post m 1 (nI s) (nI (160 + i)) (nB true) (σ.1 66 (160 + y)) (σ.1 66 x) 0 σ := by simpa [hq] using hr
                obtain ⟨m, hm⟩ := blk4 true hr
                refine ⟨m + 1, ?_⟩
                show wb_Md_equals_2 (wp_Md_equals post m) post (nI s) (nI (160 + i)) (nI (160 + y)) (nI x) (nI (160 + z)) σ
                simp (disch := omega) only [wb_Md_equals_2, litI, n_lt, eq_false (show ¬ 160 + z < 0 by omega), not_false_eq_true, false_imp_iff, true_imp_iff, true_and, Md_isEqual_r (show z < 80 by omega) (show x < 160 by omega), hEz, hq, nB_0, not_true_eq_false, and_true, Bool.true_eq_false]
                exact hm
          by_cases e6 : S.kd s = 6
          · rw [if_pos e6, List.all_cons] at hp
            have hnx := nm_o h.ws hs e6 (hx x (List.mem_cons_self ..))
            have h67 : σ.1 67 x = nI (nmo S x) := by have := M.aS x hx1.2.1; rw [hnx.1] at this; exact this
            have h68 := M.eS x hx1.2.1 _ hnx.1
            have hq := qe_sp (tx := tS) (len := lS) (x := nmo S x + 1) (by omega)
            have hcn := cn_d h hi (by omega) hq.1 hq.2.1
            obtain ⟨m, hm⟩ := blk2 (dch tS lS S tD lD D i x) (fun z hz => cnd_lt2 h.wd hi hz) (ihl ms _ _ _ hlm (fun a ha => hx a (List.mem_cons_of_mem _ ha)) (fun a ha => hy a (List.mem_cons_of_mem _ ha)) b2 c2 (by rw [if_pos e6]; exact hp))
            refine ⟨m + 1, ?_⟩
            show wb_Md_equals_1 (wp_Md_equals post m) post (nI s) (nI (160 + i)) (nB true) (nI (160 + y)) (nI x) σ
            simp (disch := omega) only [wb_Md_equals_1, litI, nB_0, nB_n, n_lt, n_in, n_cl, n_eq, nI_add, eq_false (show ¬ x < 0 by omega), Bool.true_eq_false, not_false_eq_true, false_imp_iff, true_imp_iff, true_and, and_true, eq_true (show s < 240 by omega), eq_true (show x < 240 by omega), M.kS s hs, eq_false (show ¬ S.kd s = 5 by omega), h67, h68]
            exact hcn _ hm
          · rw [if_neg e6] at hp
            unfold all2 at hp
            have hK : S.K s ≠ [] := fun q => by have := hx x (List.mem_cons_self ..); rw [q] at this; cases this
            have e5 : S.kd s = 5 := by
              rcases Nat.lt_or_ge (S.kd s) 5 with q | q
              · exact absurd (h.ws.nl s hs q) hK
              · omega
            obtain ⟨m, hm⟩ := blk2 (some y) (fun z hz => by injection hz with hz; subst hz; exact hy1.2.1) (ihl ms _ _ _ hlm (fun a ha => hx a (List.mem_cons_of_mem _ ha)) (fun a ha => hy a (List.mem_cons_of_mem _ ha)) b2 c2 (by rw [if_neg e6]; exact hp))
            refine ⟨m + 1, ?_⟩
            show wb_Md_equals_1 (wp_Md_equals post m) post (nI s) (nI (160 + i)) (nB true) (nI (160 + y)) (nI x) σ
            simp (disch := omega) only [wb_Md_equals_1, litI, nB_0, nB_n, n_lt, n_in, n_cl, n_eq, nI_add, eq_false (show ¬ x < 0 by omega), Bool.true_eq_false, not_false_eq_true, not_true_eq_false, false_imp_iff, true_imp_iff, true_and, and_true, eq_true (show s < 240 by omega), eq_true (show x < 240 by omega), M.kS s hs, eq_true e5]
            rw [oM_1] at hm
            exact hm
  have := key (S.K s) (D.K i) (σ.1 65 (160 + i)) (σ.1 65 s) true el (fun x h => h) (fun y h => h) (M.cS s hs) (M.cD i hi) (by rw [Bool.true_and]; exact hp)
  exact this
def Pe (c k : Nat) : Prop := (c = 54 ∧ (k = 38 ∨ k = 39)) ∨ c = 80 ∨ c = 81
theorem bt_o {c s i : Nat} {σ σ' : Sg} (h1 : σ'.2.1 c s = σ.2.1 c s) (h2 : σ'.2.1 (c + 1) s = σ.2.1 (c + 1) s) : bt σ' c s i = bt σ c s i := by unfold bt; rw [h1, h2]
/-- a row of a table is set to the set -/
theorem bt_st {c s i : Nat} {σ : Sg} (hc : c ≠ 54) (hc2 : c ≠ 53) : bt (sl (sl σ c s (σ.2.1 54 38)) (c + 1) s ((sl σ c s (σ.2.1 54 38)).2.1 54 39)) c s i = st σ i := by
  have h1 : ¬ 54 = c := fun q => hc q.symm
  unfold bt st
  by_cases h : i < 64
  · simp [h, sl_2]
  · simp [h, sl_2, h1]
theorem Md_compare_r {σ : Sg} (h : MC tS lS S tD lD D L σ) : ∃ σ', Rv (wq_Md_compare σ) σ' ∧ FL Pe σ σ' ∧ (∀ s i, s < S.N → i < D.N → bt σ' 80 s i = EQ tS lS S tD lD D s i) := by
  obtain ⟨R, hR⟩ : ∃ R : Sg → Prop, R = fun σ' => FL Pe σ σ' ∧ (∀ s i, s < S.N → i < D.N → bt σ' 80 s i = EQ tS lS S tD lD D s i) := ⟨_, rfl⟩
  have hns := h.ns
  have hnd := h.nd
  have hPe : ∀ k, ¬ Pe 55 k := fun k => by unfold Pe; omega
  have n0 : ∀ σ1, FL Pe σ σ1 → σ1.1 58 0 = nI S.N := fun σ1 f => by rw [f.1]; exact (MC_T h).nS
  have n1 : ∀ σ1, FL Pe σ σ1 → σ1.1 58 1 = nI D.N := fun σ1 f => by rw [f.1]; exact (MC_T h).nD
  have e2 : ∀ m, nI m + (-1) = nI m - nI 1 := fun m => by rw [Int32.sub_eq_add_neg]; rfl
  have outer : ∀ m (σ1 : Sg), m ≤ S.N → FL Pe σ σ1 → (∀ s i, m ≤ s → s < S.N → i < D.N → bt σ1 80 s i = EQ tS lS S tD lD D s i) → Ex0 (fun post n => wp_Md_compare post n 1 (nI m - nI 1) 0 σ1) R := by
    intro m
    induction m with
    | zero =>
      intro σ1 _ f1 hb
      refine ⟨σ1, by rw [hR]; exact ⟨f1, fun s i h1 h2 => hb s i (by omega) h1 h2⟩, fun post hp => ⟨1, ?_⟩⟩
      show wb_Md_compare_1 (wp_Md_compare post 0) post (nI 0 - nI 1) σ1
      rw [m1n]
      simp only [wb_Md_compare_1, litI, hm0, litI, n_le, n_lt, n_eq, n_in, n_cl, nI_add, n_b0, n_b1, n_v0, n_v1, n_m1, n_m1', n_m1l, n_m1l', n_m1g, n_m1ge, si_1, si_2, forall_eq, not_true_eq_false, not_false_eq_true, true_imp_iff, false_imp_iff, true_and, and_true, false_and, and_false, implies_true, ite_true, ite_false, if_true, if_false, Classical.not_not, Nat.reduceEqDiff, reduceIte, Nat.add_left_cancel_iff, Nat.add_eq_left, Nat.left_eq_add, and_self, n_sub, pk_mul]
      exact hp
    | succ s ih =>
      intro σ1 hm f1 hb
      have e1 : nI (s + 1) - nI 1 = nI s := by rw [n_sub (by omega)]; rfl
      rw [e1]
      have inner : ∀ j (σ2 : Sg), j ≤ D.N → FL Pe σ σ2 → (∀ s' i, s + 1 ≤ s' → s' < S.N → i < D.N → bt σ2 80 s' i = EQ tS lS S tD lD D s' i) → (∀ i, i < 80 → bt σ2 80 s i = (decide (j ≤ i ∧ i < D.N) && EQ tS lS S tD lD D s i)) → Ex0 (fun post n => wp_Md_compare post n 2 (nI s) (nI (160 + j) - nI 1) σ2) R := by
        intro j
        induction j with
        | zero =>
          intro σ2 _ f2 hb2 hb3
          refine Ex0_s (ih σ2 (by omega) f2 (fun s' i h1 h2 h3 => by
            rcases Nat.eq_or_lt_of_le h1 with e | e
            · subst e; rw [hb3 i (by omega)]; simp [h3]
            · exact hb2 s' i e h2 h3)) (fun post n hn => ⟨n + 1, ?_⟩)
          show wb_Md_compare_2 (wp_Md_compare post n) post (nI s) (nI (160 + 0) - nI 1) σ2
          rw [n_sub (by omega)]
          rw [← e2] at hn
          simp (disch := omega) only [wb_Md_compare_2, litI, n_lt, eq_true (show 160 + 0 - 1 < 160 by omega), litI, n_le, n_lt, n_eq, n_in, n_cl, nI_add, n_b0, n_b1, n_v0, n_v1, n_m1, n_m1', n_m1l, n_m1l', n_m1g, n_m1ge, si_1, si_2, forall_eq, not_true_eq_false, not_false_eq_true, true_imp_iff, false_imp_iff, true_and, and_true, false_and, and_false, implies_true, ite_true, ite_false, if_true, if_false, Classical.not_not, Nat.reduceEqDiff, reduceIte, Nat.add_left_cancel_iff, Nat.add_eq_left, Nat.left_eq_add, and_self, n_sub, pk_mul]
          exact hn
        | succ i ihj =>
          intro σ2 hj f2 hb2 hb3
          have e3 : nI (160 + (i + 1)) - nI 1 = nI (160 + i) := by rw [n_sub (by omega)]; rfl
          rw [e3]
          have hM2 := MC_FL h f2 hPe
          have hEq := Md_equals_r hM2 (show s < S.N by omega) (show i < D.N by omega) (EQ tS lS S tD lD D) (fun x hx y hy => by
            have := (h.ws.ch s (by omega) x hx)
            exact hb2 x y (by omega) this.2.1 hy)
          rw [← EQ_u h.ws (by omega)] at hEq
          -- the end of the round
          have fin : ∀ (r : Bool), r = EQ tS lS S tD lD D s i → ∀ σ3, σ3 = sl (sl σ2 54 38 (σ2.2.1 80 s)) 54 39 ((sl σ2 54 38 (σ2.2.1 80 s)).2.1 81 s) → Ex0 (fun post n => wp_Md_compare post n 3 (nI s) (nI (160 + i)) (if r then madd σ3 i else σ3)) R := by
            intro r hr σ3 h3
            have f3 : FL Pe σ σ3 := by rw [h3]; exact FL_sl (FL_sl f2 (Or.inl ⟨rfl, by omega⟩)) (Or.inl ⟨rfl, by omega⟩)
            have st3 : ∀ k, k < 80 → st σ3 k = bt σ2 80 s k := fun k hk => by
              rw [h3]; unfold st bt; by_cases hk2 : k < 64 <;> simp [hk2, sl_2]
            let σ4 := if r then madd σ3 i else σ3
            have f4 : FL Pe σ σ4 := by
              simp only [σ4]; split
              · exact FL_add f3 (Or.inl ⟨rfl, by omega⟩) (Or.inl ⟨rfl, by omega⟩)
              · exact f3
            have st4 : ∀ k, k < 80 → st σ4 k = (st σ3 k || (r && decide (k = i))) := fun k hk => by
              simp only [σ4]
              cases r with
              | true => simp; rw [st_add (by omega) (by omega)]
              | false => simp
            have o4 : ∀ c k, c ≠ 54 → σ4.2.1 c k = σ2.2.1 c k := fun c k hc => by
              have e3 : σ3.2.1 c k = σ2.2.1 c k := by rw [h3, sl_2, if_neg (fun q => hc q.1), sl_2, if_neg (fun q => hc q.1)]
              simp only [σ4]; split
              · rw [madd_o hc]; exact e3
              · exact e3
            refine Ex0_s (ihj (sl (sl σ4 80 s (σ4.2.1 54 38)) 81 s ((sl σ4 80 s (σ4.2.1 54 38)).2.1 54 39)) (by omega) (FL_sl (FL_sl f4 (Or.inr (Or.inl rfl))) (Or.inr (Or.inr rfl))) (fun s' k h1 h2 h3 => by
              rw [← hb2 s' k h1 h2 h3]
              refine bt_o ?_ ?_
              · rw [sl_2, if_neg (by omega), sl_2, if_neg (by omega)]; exact o4 80 s' (by omega)
              · rw [sl_2, if_neg (by omega), sl_2, if_neg (by omega)]; exact o4 81 s' (by omega)) (fun k hk => by
              rw [bt_st (by omega) (by omega), st4 k hk, st3 k hk, hb3 k hk, hr]
              by_cases q1 : k = i
              · subst q1
                rw [decide_eq_false (by omega), decide_eq_true (show k ≤ k ∧ k < D.N by omega)]; simp
              · by_cases q2 : i + 1 ≤ k ∧ k < D.N
                · rw [decide_eq_true q2, decide_eq_true (show i ≤ k ∧ k < D.N by omega)]; simp [q1]
                · rw [decide_eq_false q2, decide_eq_false (show ¬ (i ≤ k ∧ k < D.N) by omega)]; simp [q1])) (fun post n hn => ⟨n + 1, ?_⟩)
            show wb_Md_compare_3 (wp_Md_compare post n) post (nI s) (nI (160 + i)) σ4
            rw [← e2] at hn
            simp (disch := omega) only [wb_Md_compare_3, n_in, n_cl, eq_true (show s < 160 by omega), true_and, forall_eq]
            exact hn
          cases hr : EQ tS lS S tD lD D s i with
          | false =>
            rw [hr] at hEq
            refine Ex0_s (fin false hr.symm _ rfl) (fun post n hn => ⟨n + 1, ?_⟩)
            show wb_Md_compare_2 (wp_Md_compare post n) post (nI s) (nI (160 + i)) σ2
            simp (disch := omega) only [wb_Md_compare_2, litI, n_lt, eq_false (show ¬ 160 + i < 160 by omega), not_false_eq_true, false_imp_iff, true_imp_iff, true_and]
            refine hEq _ ?_
            simp (disch := omega) only [n_in, n_cl, eq_true (show s < 160 by omega), true_and, forall_eq, nB_0, not_true_eq_false, false_imp_iff, true_imp_iff, and_true]
            exact hn
          | true =>
            rw [hr] at hEq
            refine Ex0_s (fin true hr.symm _ rfl) (fun post n hn => ⟨n + 1, ?_⟩)
            show wb_Md_compare_2 (wp_Md_compare post n) post (nI s) (nI (160 + i)) σ2
            simp (disch := omega) only [wb_Md_compare_2, litI, n_lt, eq_false (show ¬ 160 + i < 160 by omega), not_false_eq_true, false_imp_iff, true_imp_iff, true_and]
            refine hEq _ ?_
            simp (disch := omega) only [n_in, n_cl, n_sub, eq_true (show s < 160 by omega), true_and, forall_eq, nB_0, Bool.true_eq_false, not_false_eq_true, false_imp_iff, true_imp_iff, show 160 + i - 160 = i by omega, Md_add_r (show i < 128 by omega)]
            exact hn
      have f2 : FL Pe σ (sl (sl σ1 80 s 0) 81 s 0) := FL_sl (FL_sl f1 (Or.inr (Or.inl rfl))) (Or.inr (Or.inr rfl))
      refine Ex0_s (inner D.N _ (Nat.le_refl _) f2 (fun s' i h1 h2 h3 => by
        rw [← hb s' i h1 h2 h3]
        refine bt_o ?_ ?_
        · rw [sl_2, if_neg (by omega), sl_2, if_neg (by omega)]
        · rw [sl_2, if_neg (by omega), sl_2, if_neg (by omega)]) (fun i hi => by
        rw [decide_eq_false (by omega)]
        unfold bt
        by_cases hk2 : i < 64 <;> simp [hk2, sl_2, gb_0])) (fun post n hn => ⟨n + 1, ?_⟩)
      show wb_Md_compare_1 (wp_Md_compare post n) post (nI s) σ1
      simp (disch := omega) only [wb_Md_compare_1, litI, n_lt, eq_false (show ¬ s < 0 by omega), not_false_eq_true, false_imp_iff, true_imp_iff, true_and, n_in, n_cl, eq_true (show s < 160 by omega), forall_eq, eq_true (show 1 < 2 by omega), n1 _ f2, nI_add]
      exact hn
  obtain ⟨σ', q1, q2⟩ := outer S.N σ (Nat.le_refl _) FL_r (fun s i h1 h2 => by omega)
  rw [hR] at q1
  refine ⟨σ', fun post hp => ?_, q1⟩
  obtain ⟨n, hn⟩ := q2 post hp
  refine ⟨n + 1, ?_⟩
  show wb_Md_compare_0 (wp_Md_compare post n) post σ
  simp (disch := omega) only [wb_Md_compare_0, litI, n_in, n_cl, eq_true (show 0 < 2 by omega), true_and, n0 σ FL_r]
  exact hn
end CM
