theorem MI_oth {t t' len : Nat} {tx : Nat → Nat} {σ σ' : Sg} {G : TG} {op : Nat → Nat} (ht : t' < 2) (ht2 : t < 2) (hw : WG len G) (h : MI t σ len tx G op) (f : MFr t' σ σ') (hne : t ≠ t') (hN : G.N ≤ 160) (hF : G.F ≤ 400) : MI t σ' len tx G op := by
  have c58 : ∀ c, c = 58 ∨ c = 71 → σ'.1 c t = σ.1 c t := fun c hc => f.2 c t (by unfold Pm; omega)
  have c59 : ∀ c k, 59 ≤ c → c ≤ 69 → k < G.N → σ'.1 c (160 * t + k) = σ.1 c (160 * t + k) := fun c k h1 h2 h3 => f.2 c _ (by unfold Pm; omega)
  refine ⟨by rw [c58 _ (by omega)]; exact h.N, by rw [c58 _ (by omega)]; exact h.F, fun j hj => by rw [f.2 70 _ (by unfold Pm; omega)]; exact h.fl j hj, fun k hk => by rw [c59 _ k (by omega) (by omega) hk]; exact h.kd k hk, fun k hk => by rw [c59 _ k (by omega) (by omega) hk]; exact h.fr k hk, fun k hk => by rw [c59 _ k (by omega) (by omega) hk]; exact h.en k hk, fun k hk => by rw [c59 _ k (by omega) (by omega) hk]; exact h.pr k hk, fun k hk => by rw [c59 _ k (by omega) (by omega) hk]; exact h.mn k hk, fun k hk => by rw [c59 _ k (by omega) (by omega) hk]; exact h.nm k hk, fun k hk => by rw [c59 _ k (by omega) (by omega) hk]; exact h.ne k hk, fun k hk => by rw [c59 _ k (by omega) (by omega) hk]; exact h.nu k hk, fun k hk => by rw [c59 _ k (by omega) (by omega) hk]; exact h.cs k hk, fun k hk => ?_⟩
  rw [c59 _ k (by omega) (by omega) hk]
  exact chM_cg _ _ (fun j hj => (c59 _ j (by omega) (by omega) (hw.ch k hk j hj).2.1).symm) (h.ch k hk)
theorem MI_Fr {t len : Nat} {tx : Nat → Nat} {σ σ' : Sg} {G : TG} {op : Nat → Nat} {P : Nat → Nat → Prop} (h : MI t σ len tx G op) (f : Fr P σ σ') (hP : ∀ c k, 58 ≤ c → c ≤ 71 → ¬ P c k) : MI t σ' len tx G op :=
  MI_cg h (fun c h1 h2 => Fr_c f (fun k => hP c k h1 h2))
theorem TX_Fr {t len : Nat} {tx : Nat → Nat} {σ σ' : Sg} {P : Nat → Nat → Prop} (h : TX t σ len tx) (f : Fr P σ σ') (hP : ∀ k, ¬ P 56 k) : TX t σ' len tx := ⟨h.1, h.2.1, h.2.2.1, fun k hk => by rw [f.2 56 _ (hP _)]; exact h.2.2.2 k hk⟩
theorem oM_0 (o : Option Nat) : oM 0 o = oI o := by cases o <;> simp [oM, oI]
theorem qe_st {tx : Nat → Nat} {len x : Nat} (h : x < len) (hn : tx x ≠ 34) : qe tx len x = qe tx len (x + 1) := by
  refine qe_eq ?_
  have q := qe_sp (tx := tx) (len := len) (x := x + 1) h
  exact ⟨by have := q.1; omega, q.2.1, fun k h1 h2 => by
    rcases Nat.eq_or_lt_of_le h1 with e | e
    · subst e; exact hn
    · exact q.2.2.1 k e h2, q.2.2.2⟩
theorem qe_x {tx : Nat → Nat} {len x : Nat} (h : x ≤ len) : qe tx len x = x ↔ ¬ (x < len ∧ tx x ≠ 34) := by
  have q := qe_sp (tx := tx) (len := len) h
  constructor
  · rintro e ⟨h1, h2⟩
    rw [e] at q
    exact absurd h2 (q.2.2.2 h1)
  · intro hn
    rcases Nat.eq_or_lt_of_le q.1 with e | e
    · exact e.symm
    · exfalso
      have := q.2.2.1 x (Nat.le_refl _) e
      exact hn ⟨by have := q.2.1; omega, this⟩
section MP
variable {tx : Nat → Nat} {len : Nat} {G : TG}
/-- the reference's schema while it is prepared -/
abbrev SM (tx : Nat → Nat) (len : Nat) (G : TG) (σ : Sg) : Prop := (MI 0 σ len tx G op0) ∧ (TM 0 σ len tx) ∧ (σ.2.1 55 = mwords)
theorem SM.i {tx : Nat → Nat} {len : Nat} {G : TG} {σ : Sg} (hX : SM tx len G σ) : MI 0 σ len tx G op0 := hX.1
theorem SM.t {tx : Nat → Nat} {len : Nat} {G : TG} {σ : Sg} (hX : SM tx len G σ) : TM 0 σ len tx := hX.2.1
theorem SM.w {tx : Nat → Nat} {len : Nat} {G : TG} {σ : Sg} (hX : SM tx len G σ) : σ.2.1 55 = mwords := hX.2.2
def Qp (c k : Nat) : Prop := (c = 54 ∧ k = 28) ∨ (76 ≤ c ∧ c ≤ 79)
theorem SM_Fr {σ σ' : Sg} (h : SM tx len G σ) (f : Fr Qp σ σ') : SM tx len G σ' := by
  obtain ⟨t0, t1, t2, t3, t4, t5⟩ := h.t
  exact ⟨MI_Fr h.i f (fun c k h1 h2 => by unfold Qp; omega), ⟨t0, by rw [f.2 54 18 (by unfold Qp; omega)]; exact t1, by rw [f.2 57 0 (by unfold Qp; omega)]; exact t2, t3, t4, fun k hk => by rw [f.2 56 _ (by unfold Qp; omega)]; exact t5 k hk⟩, by rw [f.1]; exact h.w⟩
theorem Md_wordOf_r {σ : Sg} (hS : SM tx len G σ) (hW : WG len G) {k n : Nat} (hk : k < G.N) (hN : G.N ≤ 160) (hn : G.nm k = some n) (hnl : n < len) : Ri (wq_Md_wordOf (nI k) σ) (nI (nw tx len G k)) σ := by
  intro post hp
  have hl := hS.t.2.2.2.1
  have h67 : σ.1 67 k = nI n := by have := hS.i.nm k hk; rw [hn, show 160 * 0 + k = k by omega] at this; exact this
  have h68 : σ.1 68 k = nI (qe tx len (n + 1)) := by have := hS.i.ne k hk n hn; rw [show 160 * 0 + k = k by omega] at this; exact this
  have hq := qe_sp (tx := tx) (len := len) (x := n + 1) (by omega)
  have hp : post (nI (wsel (fun w => decide (isW tx (n + 1) (qe tx len (n + 1)) w)) 1 21)) σ := by unfold nw at hp; rw [hn] at hp; exact hp
  have loop : ∀ m w, w + m = 22 → (post (nI (wsel (fun w => decide (isW tx (n + 1) (qe tx len (n + 1)) w)) w m)) σ) → 1 ≤ w → ∃ f, wp_Md_wordOf post f 1 0 (nI w) (pkR tx (n + 1) (qe tx len (n + 1))) σ := by
    intro m
    induction m with
    | zero =>
      intro w hw hp _
      refine ⟨1, ?_⟩
      simp (disch := omega) only [wp_Md_wordOf, wb_Md_wordOf_1, litI, n_le, n_lt, n_eq, n_in, n_cl, nI_add, n_b0, n_b1, n_v0, n_v1, n_m1, n_m1', n_m1l, n_m1l', n_m1g, n_m1ge, si_1, si_2, forall_eq, not_true_eq_false, not_false_eq_true, true_imp_iff, false_imp_iff, true_and, and_true, false_and, and_false, implies_true, ite_true, ite_false, if_true, if_false, Classical.not_not, Nat.reduceEqDiff, reduceIte, Nat.add_left_cancel_iff, Nat.add_eq_left, Nat.left_eq_add, and_self, n_sub, pk_mul, eq_true (show 21 < w by omega)]
      exact hp
    | succ m ih =>
      intro w hw hp hw1
      unfold wsel at hp
      have h55 : σ.2.1 55 (w - 1) = lN (pkL wl (ws w) (we w - ws w)) := by rw [hS.w]; exact mw_ok w (by omega) hw1
      have e1 : lg_cmp (lN (pkL wl (ws w) (we w - ws w))) (pkR tx (n + 1) (qe tx len (n + 1))) = nI 0 ↔ isW tx (n + 1) (qe tx len (n + 1)) w := by
        rw [cmp_eq, eq_comm, pkR_eq hw1 (by omega)]
      by_cases q : isW tx (n + 1) (qe tx len (n + 1)) w
      · rw [decide_eq_true q] at hp
        refine ⟨1, ?_⟩
        show wb_Md_wordOf_1 (wp_Md_wordOf post 0) post (pkR tx (n + 1) (qe tx len (n + 1))) (nI w) σ
        simp (disch := omega) only [wb_Md_wordOf_1, litI, n_lt, n_sub, n_in, n_cl, eq_false (show ¬ 21 < w by omega), eq_true (show w - 1 < 27 by omega), h55, e1, eq_true q, not_true_eq_false, not_false_eq_true, false_imp_iff, true_imp_iff, true_and]
        exact hp
      · rw [decide_eq_false q] at hp
        obtain ⟨f, hf⟩ := ih (w + 1) (by omega) hp (by omega)
        refine ⟨f + 1, ?_⟩
        show wb_Md_wordOf_1 (wp_Md_wordOf post f) post (pkR tx (n + 1) (qe tx len (n + 1))) (nI w) σ
        simp (disch := omega) only [wb_Md_wordOf_1, litI, n_lt, n_sub, n_in, n_cl, nI_add, eq_false (show ¬ 21 < w by omega), eq_true (show w - 1 < 27 by omega), h55, e1, eq_false q, not_true_eq_false, not_false_eq_true, false_imp_iff, true_imp_iff, true_and, and_true]
        exact hf
  obtain ⟨f, hf⟩ := loop 21 1 (by omega) hp (by omega)
  refine ⟨f + 1, ?_⟩
  show wb_Md_wordOf_0 (wp_Md_wordOf post f) post (nI k) σ
  simp (disch := omega) only [wb_Md_wordOf_0, litI, n_in, n_cl, eq_true (show k < 240 by omega), true_and, h67, h68, nI_add]
  exact Md_packed_r hS.t hq.1 hq.2.1 _ hf
/-- the rules among the nodes below n -/
noncomputable def rlN (tx : Nat → Nat) (len : Nat) (G : TG) (n p w : Nat) : Option Nat := if w = 0 then none else (rul tx len G p w).filter (fun c => decide (c < n))
theorem rlN_s {n p w : Nat} (hw : 1 ≤ w) (hne : rul tx len G p w ≠ some n) : rlN tx len G (n + 1) p w = rlN tx len G n p w := by
  unfold rlN; rw [if_neg (by omega), if_neg (by omega)]
  cases h : rul tx len G p w with
  | none => rfl
  | some c =>
    have : c ≠ n := fun e => hne (by rw [h, e])
    have e : (decide (c < n + 1)) = decide (c < n) := by by_cases q : c < n <;> simp [q] <;> omega
    simp [Option.filter, e]
theorem rlN_e {n p w : Nat} (hW : WG len G) (hp : p < G.N) (hw : 1 ≤ w) (hN : G.N ≤ n) : rlN tx len G n p w = rul tx len G p w := by
  unfold rlN; rw [if_neg (by omega)]
  cases h : rul tx len G p w with
  | none => rfl
  | some c => have := rul_lt hW hp h; simp [Option.filter, show c < n by omega]
/-- the reference's rules and targets -/
abbrev RU (tx : Nat → Nat) (len : Nat) (G : TG) (σ : Sg) : Prop := (∀ p w, p < G.N → 1 ≤ w → w < 22 → σ.1 76 (22 * p + w) = oI (rul tx len G p w)) ∧ (∀ k, k < G.N → σ.1 77 k = oI (mtg tx len G k))
theorem RU.r {tx : Nat → Nat} {len : Nat} {G : TG} {σ : Sg} (hX : RU tx len G σ) : ∀ p w, p < G.N → 1 ≤ w → w < 22 → σ.1 76 (22 * p + w) = oI (rul tx len G p w) := hX.1
theorem RU.t {tx : Nat → Nat} {len : Nat} {G : TG} {σ : Sg} (hX : RU tx len G σ) : ∀ k, k < G.N → σ.1 77 k = oI (mtg tx len G k) := hX.2
theorem Md_targetOf_r {σ : Sg} (hS : SM tx len G σ) (hW : WG len G) {k : Nat} (hk : k < G.N) (hN : G.N ≤ 160) (h76 : ∀ p w, p < G.N → 1 ≤ w → w < 22 → σ.1 76 (22 * p + w) = oI (rul tx len G p w)) : Ri (wq_Md_targetOf (nI k) σ) (oI (mtg tx len G k)) σ := by
  intro post hp
  have hl := hS.t.2.2.2.1
  have hkd := hW.kd k hk
  have hfr := hW.fr k hk
  have h59 : σ.1 59 k = nI (G.kd k) := by have := hS.i.kd k hk (by show 0 < 2; omega); rw [show 160 * 0 + k = k by omega] at this; exact this
  have h60 : σ.1 60 k = nI (G.fr k) := by have := hS.i.fr k hk; rw [show 160 * 0 + k = k by omega] at this; exact this
  have hm1 : (-1 : Int32) = -nI 1 := rfl
  have h21 : σ.1 76 21 = oI (rul tx len G 0 21) := h76 0 21 (by omega) (by omega) (by omega)
  unfold wq_Md_targetOf
  unfold mtg at hp
  by_cases q2 : G.kd k = 4
  case neg =>
    rw [if_neg q2] at hp
    simp (disch := omega) only [litI, n_le, n_lt, n_eq, n_in, n_cl, nI_add, n_b0, n_b1, n_v0, n_v1, n_m1, n_m1', n_m1l, n_m1l', n_m1g, n_m1ge, si_1, si_2, forall_eq, not_true_eq_false, not_false_eq_true, true_imp_iff, false_imp_iff, true_and, and_true, false_and, and_false, implies_true, ite_true, ite_false, if_true, if_false, Classical.not_not, Nat.reduceEqDiff, reduceIte, Nat.add_left_cancel_iff, Nat.add_eq_left, Nat.left_eq_add, and_self, n_sub, pk_mul, eq_true (show k < 240 by omega), h59, eq_false q2, hm1]
    exact hp
  rw [if_pos q2] at hp
  have h62 : σ.1 62 k = nI (qe tx len (G.fr k + 1)) := by have := hS.i.cs k hk (by show 0 < 2; omega) q2; rw [show 160 * 0 + k = k by omega] at this; exact this
  have hqs := qe_sp (tx := tx) (len := len) (x := G.fr k + 1) (by omega)
  have hq1 := hqs.1
  have hq2 := hqs.2.1
  have hqx := qe_x (tx := tx) (len := len) (x := G.fr k + 1) (by omega)
  unfold tg1 at hp
  by_cases q3 : qe tx len (G.fr k + 1) = G.fr k + 1
  · rw [if_neg (fun r => hqx.mp q3 ⟨r.1, by omega⟩)] at hp
    simp (disch := omega) only [litI, n_le, n_lt, n_eq, n_in, n_cl, nI_add, n_b0, n_b1, n_v0, n_v1, n_m1, n_m1', n_m1l, n_m1l', n_m1g, n_m1ge, si_1, si_2, forall_eq, not_true_eq_false, not_false_eq_true, true_imp_iff, false_imp_iff, true_and, and_true, false_and, and_false, implies_true, ite_true, ite_false, if_true, if_false, Classical.not_not, Nat.reduceEqDiff, reduceIte, Nat.add_left_cancel_iff, Nat.add_eq_left, Nat.left_eq_add, and_self, n_sub, pk_mul, eq_true (show k < 240 by omega), h59, h60, h62, eq_true q2, eq_true q3, hm1]
    exact hp
  have q4 : G.fr k + 1 < len ∧ tx (G.fr k + 1) ≠ 34 := Classical.byContradiction (fun r => q3 (hqx.mpr r))
  have h56 : σ.1 56 (G.fr k + 1) = nI (tx (G.fr k + 1)) := by have := (hS.t.2.2.2.2.2 _ q4.1).1; rw [show 160 * 0 + (G.fr k + 1) = G.fr k + 1 by omega] at this; exact this
  have h56b := (hS.t.2.2.2.2.2 _ q4.1).2
  have hst := qe_st q4.1 q4.2
  by_cases q5 : tx (G.fr k + 1) = 35
  case neg =>
    rw [if_neg (fun r => q5 r.2)] at hp
    simp (disch := omega) only [litI, n_le, n_lt, n_eq, n_in, n_cl, nI_add, n_b0, n_b1, n_v0, n_v1, n_m1, n_m1', n_m1l, n_m1l', n_m1g, n_m1ge, si_1, si_2, forall_eq, not_true_eq_false, not_false_eq_true, true_imp_iff, false_imp_iff, true_and, and_true, false_and, and_false, implies_true, ite_true, ite_false, if_true, if_false, Classical.not_not, Nat.reduceEqDiff, reduceIte, Nat.add_left_cancel_iff, Nat.add_eq_left, Nat.left_eq_add, and_self, n_sub, pk_mul, eq_true (show k < 240 by omega), h59, h60, h62, h56, eq_true q2, eq_false q3, eq_false q5, eq_true (show G.fr k + 1 < 240 by omega), hm1]
    exact hp
  rw [if_pos ⟨q4.1, q5⟩] at hp
  have hst2 : qe tx len (G.fr k + 2) = qe tx len (G.fr k + 1) := hst.symm
  rw [hst2] at hp
  by_cases q6 : qe tx len (G.fr k + 1) = G.fr k + 2
  · rw [if_pos q6] at hp
    simp (disch := omega) only [litI, n_le, n_lt, n_eq, n_in, n_cl, nI_add, n_b0, n_b1, n_v0, n_v1, n_m1, n_m1', n_m1l, n_m1l', n_m1g, n_m1ge, si_1, si_2, forall_eq, not_true_eq_false, not_false_eq_true, true_imp_iff, false_imp_iff, true_and, and_true, false_and, and_false, implies_true, ite_true, ite_false, if_true, if_false, Classical.not_not, Nat.reduceEqDiff, reduceIte, Nat.add_left_cancel_iff, Nat.add_eq_left, Nat.left_eq_add, and_self, n_sub, pk_mul, eq_true (show k < 240 by omega), h59, h60, h62, h56, eq_true q2, eq_false q3, eq_true q5, eq_true (show G.fr k + 1 < 240 by omega), hm1, eq_true (show qe tx len (G.fr k + 1) = G.fr k + 1 + 1 by omega)]
    exact hp
  rw [if_neg q6] at hp
  have hneg : ¬ (-nI 1 : Int32) < nI 0 → False := fun z => z (by decide +kernel)
  have hm0 : ((-nI 1 : Int32) < nI 0) = True := by decide +kernel
  cases hr : rul tx len G 0 21 with
  | none =>
    rw [hr] at hp
    rw [hr] at h21
    simp (disch := omega) only [litI, n_le, n_lt, n_eq, n_in, n_cl, nI_add, n_b0, n_b1, n_v0, n_v1, n_m1, n_m1', n_m1l, n_m1l', n_m1g, n_m1ge, si_1, si_2, forall_eq, not_true_eq_false, not_false_eq_true, true_imp_iff, false_imp_iff, true_and, and_true, false_and, and_false, implies_true, ite_true, ite_false, if_true, if_false, Classical.not_not, Nat.reduceEqDiff, reduceIte, Nat.add_left_cancel_iff, Nat.add_eq_left, Nat.left_eq_add, and_self, n_sub, pk_mul, eq_true (show k < 240 by omega), h59, h60, h62, h56, eq_true q2, eq_false q3, eq_true q5, eq_true (show G.fr k + 1 < 240 by omega), hm1, eq_false (show ¬ qe tx len (G.fr k + 1) = G.fr k + 1 + 1 by omega), eq_true (show 21 < 3520 by omega), h21, oI, hm0]
    exact hp
  | some d =>
    rw [hr] at hp
    rw [hr] at h21
    have hd := rul_lt hW (by omega) hr
    have hdk := hW.kd d hd
    have h59d : σ.1 59 d = nI (G.kd d) := by have := hS.i.kd d hd (by show 0 < 2; omega); rw [show 160 * 0 + d = d by omega] at this; exact this
    by_cases q7 : G.kd d = 6
    · have hcn := cn_m (t1 := 0) (tx1 := tx) (g := G.fr k + 2) (e1 := qe tx len (G.fr k + 1)) hS.i hW (TM_X hS.t) (TM_X hS.t) hd (by omega) hN q7 (by omega) hq2
      rw [oM_0, show 160 * 0 + d = d by omega, show 160 * 0 + (G.fr k + 2) = G.fr k + 1 + 1 by omega, show 160 * 0 + qe tx len (G.fr k + 1) = qe tx len (G.fr k + 1) by omega] at hcn
      simp (disch := omega) only [litI, n_le, n_lt, n_eq, n_in, n_cl, nI_add, n_b0, n_b1, n_v0, n_v1, n_m1, n_m1', n_m1l, n_m1l', n_m1g, n_m1ge, si_1, si_2, forall_eq, not_true_eq_false, not_false_eq_true, true_imp_iff, false_imp_iff, true_and, and_true, false_and, and_false, implies_true, ite_true, ite_false, if_true, if_false, Classical.not_not, Nat.reduceEqDiff, reduceIte, Nat.add_left_cancel_iff, Nat.add_eq_left, Nat.left_eq_add, and_self, n_sub, pk_mul, eq_true (show k < 240 by omega), h59, h60, h62, h56, eq_true q2, eq_false q3, eq_true q5, eq_true (show G.fr k + 1 < 240 by omega), hm1, eq_false (show ¬ qe tx len (G.fr k + 1) = G.fr k + 1 + 1 by omega), eq_true (show 21 < 3520 by omega), h21, oI, eq_false (show ¬ d < 0 by omega), eq_true (show d < 240 by omega), h59d, eq_true q7]
      exact hcn _ hp
    · have e0 : cnd tx len G d tx (G.fr k + 2) (qe tx len (G.fr k + 1)) = none := by unfold cnd; rw [if_neg q7]
      simp only [e0] at hp
      simp (disch := omega) only [litI, n_le, n_lt, n_eq, n_in, n_cl, nI_add, n_b0, n_b1, n_v0, n_v1, n_m1, n_m1', n_m1l, n_m1l', n_m1g, n_m1ge, si_1, si_2, forall_eq, not_true_eq_false, not_false_eq_true, true_imp_iff, false_imp_iff, true_and, and_true, false_and, and_false, implies_true, ite_true, ite_false, if_true, if_false, Classical.not_not, Nat.reduceEqDiff, reduceIte, Nat.add_left_cancel_iff, Nat.add_eq_left, Nat.left_eq_add, and_self, n_sub, pk_mul, eq_true (show k < 240 by omega), h59, h60, h62, h56, eq_true q2, eq_false q3, eq_true q5, eq_true (show G.fr k + 1 < 240 by omega), hm1, eq_false (show ¬ qe tx len (G.fr k + 1) = G.fr k + 1 + 1 by omega), eq_true (show 21 < 3520 by omega), h21, oI, eq_false (show ¬ d < 0 by omega), eq_true (show d < 240 by omega), h59d, eq_false q7]
      exact hp
end MP
