/-- a loop over the children, the class's way -/
theorem loopC {f : Nat → Int32} {W : Nat → Nat → Int32 → Prop} {I : List Nat → Prop} {l : List Nat} (he : ∀ x, I l → ∃ n, W n l.length x)
    (hs : ∀ pre c suf, l = pre ++ c :: suf → I pre → (I (pre ++ [c]) → ∃ n, W n (pre.length + 1) (f c)) → ∃ n, W n pre.length (nI c)) : ∀ suf pre x, l = pre ++ suf → chB f x suf → I pre → ∃ n, W n pre.length x := by
  intro suf
  induction suf with
  | nil => intro pre x hl _ hi; rw [List.append_nil] at hl; subst hl; exact he x hi
  | cons c suf ih =>
    intro pre x hl hB hi
    obtain ⟨hx, hB⟩ := hB
    subst hx
    refine hs pre c suf hl hi (fun hi2 => ?_)
    have := ih (pre ++ [c]) (f c) (by rw [hl]; simp) hB hi2
    simpa using this
/-- and the reference's -/
theorem loopM {t : Nat} {f : Nat → Int32} {W : Nat → Int32 → Prop} {I : List Nat → Prop} {l : List Nat} (he : I l → ∃ n, W n (-nI 1))
    (hs : ∀ pre c suf, l = pre ++ c :: suf → I pre → (I (pre ++ [c]) → ∃ n, W n (f (160 * t + c))) → ∃ n, W n (nI (160 * t + c))) : ∀ suf pre x, l = pre ++ suf → chM t f x suf → I pre → ∃ n, W n x := by
  intro suf
  induction suf with
  | nil => intro pre x hl hx hi; rw [List.append_nil] at hl; subst hl; have hx : x = -nI 1 := hx; subst hx; exact he hi
  | cons c suf ih =>
    intro pre x hl hB hi
    obtain ⟨hx, hB⟩ := hB
    subst hx
    refine hs pre c suf hl hi (fun hi2 => ?_)
    exact ih (pre ++ [c]) _ (by rw [hl]; simp) hB hi2
theorem loopC0 {f : Nat → Int32} (l : List Nat) (W : Nat → Nat → Int32 → Prop) (I : List Nat → Prop) {x : Int32} (hB : chB f x l) (h0 : I []) (he : ∀ x, I l → ∃ n, W n l.length x)
    (hs : ∀ pre c suf, l = pre ++ c :: suf → I pre → (I (pre ++ [c]) → ∃ n, W n (pre.length + 1) (f c)) → ∃ n, W n pre.length (nI c)) : ∃ n, W n 0 x := loopC he hs l [] x rfl hB h0
theorem loopM0 {t : Nat} {f : Nat → Int32} (l : List Nat) (W : Nat → Int32 → Prop) (I : List Nat → Prop) {x : Int32} (hB : chM t f x l) (h0 : I []) (he : I l → ∃ n, W n (-nI 1))
    (hs : ∀ pre c suf, l = pre ++ c :: suf → I pre → (I (pre ++ [c]) → ∃ n, W n (f (160 * t + c))) → ∃ n, W n (nI (160 * t + c))) : ∃ n, W n x := loopM he hs l [] x rfl hB h0
def wsel (P : Nat → Bool) : Nat → Nat → Nat
  | _, 0 => 0
  | w, n + 1 => if P w then w else wsel P (w + 1) n
theorem wsel_ok (P : Nat → Bool) : ∀ n w, wsel P w n = 0 ∨ (P (wsel P w n) = true ∧ w ≤ wsel P w n ∧ wsel P w n < w + n)
  | 0, _ => Or.inl rfl
  | n + 1, w => by
    unfold wsel
    split
    · rename_i h; exact Or.inr ⟨h, by omega, by omega⟩
    · rcases wsel_ok P n (w + 1) with q | q
      · exact Or.inl q
      · exact Or.inr ⟨q.1, by omega, by omega⟩
theorem wsel_cg {P Q : Nat → Bool} (h : ∀ w, P w = Q w) : ∀ n w, wsel P w n = wsel Q w n
  | 0, _ => rfl
  | n + 1, w => by unfold wsel; rw [h w, wsel_cg h n (w + 1)]
def wof (tx : Nat → Nat) (f e : Nat) : Nat := wsel (fun w => decide (isW tx f e w)) 1 21
theorem wof_le {tx : Nat → Nat} {f e : Nat} : wof tx f e ≤ 21 := by unfold wof; rcases wsel_ok (fun w => decide (isW tx f e w)) 21 1 with q | q <;> omega
theorem wof_w {tx : Nat → Nat} {f e : Nat} (h : 1 ≤ wof tx f e) : isW tx f e (wof tx f e) := by
  unfold wof at h ⊢
  rcases wsel_ok (fun w => decide (isW tx f e w)) 21 1 with q | q
  · omega
  · exact of_decide_eq_true q.1
theorem eqn_s {tx tx1 : Nat → Nat} {f e g e1 : Nat} (h : eqn tx f e tx1 g e1) : eqn tx1 g e1 tx f e := ⟨h.1.symm, fun j hj => (h.2 j (by rw [h.1]; exact hj)).symm⟩
theorem eqn_t {tx tx1 tx2 : Nat → Nat} {f e g e1 k e2 : Nat} (h : eqn tx f e tx1 g e1) (h2 : eqn tx1 g e1 tx2 k e2) : eqn tx f e tx2 k e2 := ⟨h.1.trans h2.1, fun j hj => (h.2 j hj).trans (h2.2 j (by rw [← h.1]; exact hj))⟩
theorem wof_e {tx tx1 : Nat → Nat} {f e g e1 : Nat} (h : eqn tx f e tx1 g e1) : wof tx f e = wof tx1 g e1 := by
  unfold wof
  refine wsel_cg (fun w => ?_) 21 1
  by_cases q : isW tx f e w
  · rw [decide_eq_true q, decide_eq_true (show isW tx1 g e1 w from eqn_t (eqn_s h) q)]
  · rw [decide_eq_false q, decide_eq_false (show ¬ isW tx1 g e1 w from fun r => q (eqn_t h r))]
section PG
variable (tx : Nat → Nat) (len : Nat) (G : TG)
/-- the word of a node's name -/
noncomputable def nw (c : Nat) : Nat := match G.nm c with
  | some n => wof tx (n + 1) (qe tx len (n + 1))
  | none => 0
/-- the word by which a node speaks -/
noncomputable def wrd (c : Nat) : Nat := match G.nm c, G.pr c with
  | some n, some p => if cnd tx len G p tx (n + 1) (qe tx len (n + 1)) = some c then wof tx (n + 1) (qe tx len (n + 1)) else 0
  | _, _ => 0
/-- the child that speaks by w -/
noncomputable def rul (p w : Nat) : Option Nat := if G.kd p = 6 then (G.K p).find? (fun c => nw tx len G c == w) else none
/-- where a reference leads -/
noncomputable def tg1 (f : Nat) : Option Nat := if f + 1 < len ∧ tx (f + 1) = 35 then (if qe tx len (f + 2) = f + 2 then some 0 else match rul tx len G 0 21 with
    | some d => cnd tx len G d tx (f + 2) (qe tx len (f + 2))
    | none => none) else none
noncomputable def mtg (k : Nat) : Option Nat := if G.kd k = 4 then tg1 tx len G (G.fr k) else none
noncomputable def tgt (k : Nat) : Option Nat := if wrd tx len G k = 19 then mtg tx len G k else none
noncomputable def prp (k : Nat) : Option Nat := match rul tx len G k 12 with
  | some v => if G.kd v = 6 then some v else none
  | none => none
/-- what must be known before s -/
def Dp (s x : Nat) : Prop := (∃ w v, 15 ≤ w ∧ w ≤ 17 ∧ rul tx len G s w = some v ∧ G.kd v = 5 ∧ x ∈ G.K v) ∨ rul tx len G s 18 = some x ∨ ∃ v, rul tx len G s 19 = some v ∧ mtg tx len G v = some x
end PG
section PL
variable {tx : Nat → Nat} {len : Nat} {G : TG}
theorem wrd_le {c : Nat} : wrd tx len G c ≤ 21 := by
  unfold wrd; split
  · split
    · exact wof_le
    · omega
  · omega
theorem nw_le {c : Nat} : nw tx len G c ≤ 21 := by
  unfold nw; split
  · exact wof_le
  · omega
theorem rul_wrd (hW : WG len G) {p c w : Nat} (hp : p < G.N) (h6 : G.kd p = 6) (hc : c ∈ G.K p) (hw : 1 ≤ w) : wrd tx len G c = w ↔ rul tx len G p w = some c := by
  have hc1 := hW.ch p hp c hc
  obtain ⟨n, hn, hnl⟩ := (hW.nm c hc1.2.1 p hc1.2.2.1).1 h6
  have nme : ∀ a ∈ G.K p, ∃ m, G.nm a = some m := fun a ha => by
    have ha1 := hW.ch p hp a ha
    obtain ⟨m, hm, _⟩ := (hW.nm a ha1.2.1 p ha1.2.2.1).1 h6
    exact ⟨m, hm⟩
  have key : ∀ a ∈ G.K p, 1 ≤ nw tx len G c → (nmE tx len G tx (n + 1) (qe tx len (n + 1)) a = true ↔ nw tx len G a = nw tx len G c) := by
    intro a ha hc0
    obtain ⟨m, hm⟩ := nme a ha
    unfold nw nmE at *
    simp only [hm, hn] at hc0 ⊢
    constructor
    · intro h; exact wof_e (of_decide_eq_true h)
    · intro h
      have q1 := wof_w hc0
      have q2 := wof_w (tx := tx) (f := m + 1) (e := qe tx len (m + 1)) (by rw [h]; exact hc0)
      rw [h] at q2
      exact decide_eq_true (eqn_t q2 (eqn_s q1))
  have hwr : wrd tx len G c = if cnd tx len G p tx (n + 1) (qe tx len (n + 1)) = some c then nw tx len G c else 0 := by
    unfold wrd nw; rw [hn, hc1.2.2.1]
  have hnmc : nmE tx len G tx (n + 1) (qe tx len (n + 1)) c = true := by
    unfold nmE; rw [hn]; exact decide_eq_true ⟨rfl, fun _ _ => rfl⟩
  rw [hwr]
  unfold cnd rul
  rw [if_pos h6, if_pos h6]
  constructor
  · intro h
    split at h
    · rename_i hf
      obtain ⟨h1, as, bs, h2, h3⟩ := List.find?_eq_some_iff_append.mp hf
      refine List.find?_eq_some_iff_append.mpr ⟨by simp [h], as, bs, h2, fun a ha => ?_⟩
      have h4 := h3 a ha
      have haK : a ∈ G.K p := by rw [h2]; exact List.mem_append.mpr (Or.inl ha)
      have := key a haK (by omega)
      simp only [Bool.not_eq_true', beq_eq_false_iff_ne, ne_eq]
      intro q
      rw [this.mpr (by omega)] at h4; simp at h4
    · omega
  · intro h
    obtain ⟨h1, as, bs, h2, h3⟩ := List.find?_eq_some_iff_append.mp h
    have h1 : nw tx len G c = w := by simpa using h1
    rw [if_pos]
    · exact h1
    refine List.find?_eq_some_iff_append.mpr ⟨hnmc, as, bs, h2, fun a ha => ?_⟩
    have h4 := h3 a ha
    have haK : a ∈ G.K p := by rw [h2]; exact List.mem_append.mpr (Or.inl ha)
    have := key a haK (by omega)
    simp only [Bool.not_eq_true', beq_eq_false_iff_ne, ne_eq] at h4
    cases hq : nmE tx len G tx (n + 1) (qe tx len (n + 1)) a with
    | false => rfl
    | true => exact absurd (by rw [this.mp hq]; exact h1) h4
theorem wrd_0 (hW : WG len G) {p c : Nat} (hp : p < G.N) (h6 : G.kd p ≠ 6) (hc : c ∈ G.K p) : wrd tx len G c = 0 := by
  have hc1 := hW.ch p hp c hc
  have h5 : G.kd p = 5 := by
    have := hW.kd p hp
    rcases Nat.lt_or_ge (G.kd p) 5 with q | q
    · rw [hW.nl p hp q] at hc; cases hc
    · omega
  unfold wrd; rw [(hW.nm c hc1.2.1 p hc1.2.2.1).2 h5]
theorem rul_mem {p w c : Nat} (h : rul tx len G p w = some c) : G.kd p = 6 ∧ c ∈ G.K p := by
  unfold rul at h
  split at h
  · rename_i h6; exact ⟨h6, List.mem_of_find?_eq_some h⟩
  · cases h
theorem cby (hW : WG len G) {s w : Nat} (hs : s < G.N) (hw : 1 ≤ w) : (G.K s).find? (fun c => wrd tx len G c == w) = rul tx len G s w := by
  by_cases h6 : G.kd s = 6
  · cases h : rul tx len G s w with
    | none =>
      refine List.find?_eq_none.mpr (fun c hc q => ?_)
      have q : wrd tx len G c = w := by simpa using q
      rw [(rul_wrd hW hs h6 hc hw).mp q] at h; cases h
    | some c =>
      have hc := (rul_mem h).2
      have h1 := (rul_wrd hW hs h6 hc hw).mpr h
      cases hf : (G.K s).find? (fun c => wrd tx len G c == w) with
      | none => have := List.find?_eq_none.mp hf c hc; simp [h1] at this
      | some d =>
        have hd := List.mem_of_find?_eq_some hf
        have h2 : wrd tx len G d = w := by simpa using List.find?_some hf
        rw [(rul_wrd hW hs h6 hd hw).mp h2] at h; exact h
  · unfold rul; rw [if_neg h6]
    refine List.find?_eq_none.mpr (fun c hc q => ?_)
    have q : wrd tx len G c = w := by simpa using q
    rw [wrd_0 hW hs h6 hc] at q; omega
theorem K_nodup (hW : WG len G) {k : Nat} (hk : k < G.N) : (G.K k).Nodup := (hW.so k hk).imp (fun h => Nat.ne_of_lt h)
theorem cnd_lt2 (hW : WG len G) {k : Nat} {tx1 : Nat → Nat} {f1 e1 c : Nat} (hk : k < G.N) (h : cnd tx len G k tx1 f1 e1 = some c) : c < G.N := (hW.ch k hk c (cnd_lt h).2.1).2.1
theorem rul_lt (hW : WG len G) {p w c : Nat} (hp : p < G.N) (h : rul tx len G p w = some c) : c < G.N := (hW.ch p hp c (rul_mem h).2).2.1
theorem mtg_lt (hW : WG len G) {k x : Nat} (hk : k < G.N) (h : mtg tx len G k = some x) : x < G.N := by
  unfold mtg tg1 at h
  split at h
  · split at h
    · split at h
      · injection h with h; omega
      · split at h
        · rename_i d hd; exact cnd_lt2 hW (rul_lt hW (by omega) hd) h
        · cases h
    · cases h
  · cases h
/-- the class's plan: what it reads -/
theorem Pl_childBy_r {σ : Sg} (hC : CI 0 σ len tx G op0) (hW : WG len G) {s w : Nat} (hs : s < G.N) (hN : G.N ≤ 160) (hw : 1 ≤ w) (hw2 : w < 30) (h30 : ∀ k, k < G.N → σ.1 30 k = nI (wrd tx len G k)) : Ri (wq_Pl_childBy (nI s) (nI w) σ) (oI (rul tx len G s w)) σ := by
  intro post hp
  rw [← cby hW hs hw] at hp
  have hl := len_K hW hs
  have h5 : σ.1 5 s = nI (G.K s).length := hC.mn s hs
  unfold wq_Pl_childBy
  refine ex_s ?_
  simp only [wp_Pl_childBy, wb_Pl_childBy_0, litI, n_le, n_lt, n_eq, n_in, n_cl, nI_add, n_b0, n_b1, n_v0, n_v1, n_m1, n_m1', n_m1l, n_m1l', n_m1g, n_m1ge, si_1, si_2, forall_eq, not_true_eq_false, not_false_eq_true, true_imp_iff, false_imp_iff, true_and, and_true, false_and, and_false, implies_true, ite_true, ite_false, if_true, if_false, Classical.not_not, Nat.reduceEqDiff, reduceIte, Nat.add_left_cancel_iff, Nat.add_eq_left, Nat.left_eq_add, and_self, n_sub, pk_mul]
  refine loopC0 (G.K s) (fun n i x => wp_Pl_childBy post n 1 (nI s) (nI w) (nI i) x σ) (fun pre => ∀ c ∈ pre, ¬ wrd tx len G c = w) (hC.ch s hs) (by simp) ?_ ?_
  · intro x hi
    rw [List.find?_eq_none.mpr (fun c hc q => hi c hc (by simpa using q))] at hp
    refine ⟨1, ?_⟩
    simp (disch := omega) only [wp_Pl_childBy, wb_Pl_childBy_1, litI, n_le, n_lt, n_eq, n_in, n_cl, nI_add, n_b0, n_b1, n_v0, n_v1, n_m1, n_m1', n_m1l, n_m1l', n_m1g, n_m1ge, si_1, si_2, forall_eq, not_true_eq_false, not_false_eq_true, true_imp_iff, false_imp_iff, true_and, and_true, false_and, and_false, implies_true, ite_true, ite_false, if_true, if_false, Classical.not_not, Nat.reduceEqDiff, reduceIte, Nat.add_left_cancel_iff, Nat.add_eq_left, Nat.left_eq_add, and_self, n_sub, pk_mul, h5, eq_true (show s < 160 by omega), Nat.le_refl]
    exact hp
  · intro pre c suf hK hi ih
    have hc : c ∈ G.K s := by rw [hK]; simp
    have hcN := (hW.ch s hs c hc).2.1
    have hln : (G.K s).length = pre.length + suf.length + 1 := by rw [hK]; simp; omega
    have hwl := wrd_le (tx := tx) (len := len) (G := G) (c := c)
    by_cases q : wrd tx len G c = w
    · rw [hK, List.find?_append, List.find?_eq_none.mpr (fun a ha r => hi a ha (by simpa using r)), List.find?_cons_of_pos (by simp [q])] at hp
      refine ⟨1, ?_⟩
      simp (disch := omega) only [wp_Pl_childBy, wb_Pl_childBy_1, litI, n_le, n_lt, n_eq, n_in, n_cl, nI_add, n_b0, n_b1, n_v0, n_v1, n_m1, n_m1', n_m1l, n_m1l', n_m1g, n_m1ge, si_1, si_2, forall_eq, not_true_eq_false, not_false_eq_true, true_imp_iff, false_imp_iff, true_and, and_true, false_and, and_false, implies_true, ite_true, ite_false, if_true, if_false, Classical.not_not, Nat.reduceEqDiff, reduceIte, Nat.add_left_cancel_iff, Nat.add_eq_left, Nat.left_eq_add, and_self, n_sub, pk_mul, h5, eq_true (show s < 160 by omega), eq_true (show c < 160 by omega), eq_false (show ¬ (G.K s).length ≤ pre.length by omega), h30 c hcN, eq_true q]
      exact hp
    · obtain ⟨n, hn⟩ := ih (by intro a ha; rcases List.mem_append.mp ha with r | r
                               · exact hi a r
                               · simp at r; subst r; exact q)
      refine ⟨n + 1, ?_⟩
      show wb_Pl_childBy_1 (wp_Pl_childBy post n) post (nI s) (nI w) (nI pre.length) (nI c) σ
      simp (disch := omega) only [wb_Pl_childBy_1, litI, n_le, n_lt, n_eq, n_in, n_cl, nI_add, n_b0, n_b1, n_v0, n_v1, n_m1, n_m1', n_m1l, n_m1l', n_m1g, n_m1ge, si_1, si_2, forall_eq, not_true_eq_false, not_false_eq_true, true_imp_iff, false_imp_iff, true_and, and_true, false_and, and_false, implies_true, ite_true, ite_false, if_true, if_false, Classical.not_not, Nat.reduceEqDiff, reduceIte, Nat.add_left_cancel_iff, Nat.add_eq_left, Nat.left_eq_add, and_self, n_sub, pk_mul, h5, eq_true (show s < 160 by omega), eq_true (show c < 160 by omega), eq_false (show ¬ (G.K s).length ≤ pre.length by omega), h30 c hcN, eq_false q]
      exact hn
theorem Pl_wordOf_r {σ : Sg} (hC : CI 0 σ len tx G op0) (hW : WG len G) {k : Nat} (hk : k < G.N) (hN : G.N ≤ 160) : Ri (wq_Pl_wordOf (nI k) σ) (nI (wrd tx len G k)) σ := by
  intro post hp
  have h6 : σ.1 6 k = oI (G.nm k) := hC.nm k hk
  have h4 : σ.1 4 k = oI (G.pr k) := hC.pr k hk
  have hl := hC.t.2.1
  have ht : tl 0 = 160 := rfl
  unfold wq_Pl_wordOf
  refine ex_s ?_
  cases hn : G.nm k with
  | none =>
    have : wrd tx len G k = 0 := by unfold wrd; rw [hn]
    rw [this] at hp
    refine ⟨0, ?_⟩
    show wb_Pl_wordOf_0 (wp_Pl_wordOf post 0) post (nI k) σ
    simp (disch := omega) only [wb_Pl_wordOf_0, litI, n_le, n_lt, n_eq, n_in, n_cl, nI_add, n_b0, n_b1, n_v0, n_v1, n_m1, n_m1', n_m1l, n_m1l', n_m1g, n_m1ge, si_1, si_2, forall_eq, not_true_eq_false, not_false_eq_true, true_imp_iff, false_imp_iff, true_and, and_true, false_and, and_false, implies_true, ite_true, ite_false, if_true, if_false, Classical.not_not, Nat.reduceEqDiff, reduceIte, Nat.add_left_cancel_iff, Nat.add_eq_left, Nat.left_eq_add, and_self, n_sub, pk_mul, h6, hn, oI, eq_true (show k < 160 by omega), show (-1 : Int32) = -nI 1 from rfl]
    exact hp
  | some n =>
    rcases hW.up k hk with ⟨_, q⟩ | ⟨p, q1, q2, q3⟩
    · rw [hW.n0 k hk q] at hn; cases hn
    have hp6 : G.kd p = 6 := by
      rcases Nat.lt_or_ge (G.kd p) 5 with r | r
      · rw [hW.nl p (by omega) r] at q3; cases q3
      · have := hW.kd p (by omega)
        rcases Nat.eq_or_lt_of_le r with r | r
        · rw [(hW.nm k hk p q1).2 r.symm] at hn; cases hn
        · omega
    have hnl : n < len := by obtain ⟨m, e1, e2⟩ := (hW.nm k hk p q1).1 hp6; rw [hn] at e1; injection e1 with e1; omega
    have hq := qe_sp (tx := tx) (len := len) (x := n + 1) (by omega)
    have hq1 := hq.1
    have hq2 := hq.2.1
    have hcn := cn_c (b1 := 0) (tx1 := tx) (g := n + 1) (e1 := qe tx len (n + 1)) hC hW hC.t (k := p) (by omega) (by show 0 < 2; omega) (by omega) hq
    have hwd : wrd tx len G k = if cnd tx len G p tx (n + 1) (qe tx len (n + 1)) = some k then wof tx (n + 1) (qe tx len (n + 1)) else 0 := by unfold wrd; rw [hn, q1]
    have e1 : oI (cnd tx len G p tx (n + 1) (qe tx len (n + 1))) = nI k ↔ cnd tx len G p tx (n + 1) (qe tx len (n + 1)) = some k := by
      cases hc : cnd tx len G p tx (n + 1) (qe tx len (n + 1)) with
      | none => simp [oI, n_m1' (show k < 2147483648 by omega)]
      | some c => have := cnd_lt2 hW (by omega) hc; simp [oI, n_eq (show c < 2147483648 by omega) (show k < 2147483648 by omega)]
    have loop : ∀ m w, w + m = 22 → (post (nI (wsel (fun w => decide (isW tx (n + 1) (qe tx len (n + 1)) w)) w m)) σ) → 1 ≤ w → ∃ f, wp_Pl_wordOf post f 1 0 (nI n) (nI (qe tx len (n + 1))) (nI w) σ := by
      intro m
      induction m with
      | zero =>
        intro w hw hp _
        refine ⟨1, ?_⟩
        simp (disch := omega) only [wp_Pl_wordOf, wb_Pl_wordOf_1, litI, n_le, n_lt, n_eq, n_in, n_cl, nI_add, n_b0, n_b1, n_v0, n_v1, n_m1, n_m1', n_m1l, n_m1l', n_m1g, n_m1ge, si_1, si_2, forall_eq, not_true_eq_false, not_false_eq_true, true_imp_iff, false_imp_iff, true_and, and_true, false_and, and_false, implies_true, ite_true, ite_false, if_true, if_false, Classical.not_not, Nat.reduceEqDiff, reduceIte, Nat.add_left_cancel_iff, Nat.add_eq_left, Nat.left_eq_add, and_self, n_sub, pk_mul, eq_true (show 21 < w by omega)]
        exact hp
      | succ m ih =>
        intro w hw hp hw1
        unfold wsel at hp
        by_cases q : isW tx (n + 1) (qe tx len (n + 1)) w
        · rw [decide_eq_true q] at hp
          refine ⟨1, ?_⟩
          simp (disch := omega) only [wp_Pl_wordOf, wb_Pl_wordOf_1, litI, n_le, n_lt, n_eq, n_in, n_cl, nI_add, n_b0, n_b1, n_v0, n_v1, n_m1, n_m1', n_m1l, n_m1l', n_m1g, n_m1ge, si_1, si_2, forall_eq, not_true_eq_false, not_false_eq_true, true_imp_iff, false_imp_iff, true_and, and_true, false_and, and_false, implies_true, ite_true, ite_false, if_true, if_false, Classical.not_not, Nat.reduceEqDiff, reduceIte, Nat.add_left_cancel_iff, Nat.add_eq_left, Nat.left_eq_add, and_self, n_sub, pk_mul, eq_false (show ¬ 21 < w by omega)]
          refine Wb_isWord_r hC.t hC.w hw1 (by omega) hq1 hq2 _ ?_
          simp only [bI_0, eq_true q, litI, n_le, n_lt, n_eq, n_in, n_cl, nI_add, n_b0, n_b1, n_v0, n_v1, n_m1, n_m1', n_m1l, n_m1l', n_m1g, n_m1ge, si_1, si_2, forall_eq, not_true_eq_false, not_false_eq_true, true_imp_iff, false_imp_iff, true_and, and_true, false_and, and_false, implies_true, ite_true, ite_false, if_true, if_false, Classical.not_not, Nat.reduceEqDiff, reduceIte, Nat.add_left_cancel_iff, Nat.add_eq_left, Nat.left_eq_add, and_self, n_sub, pk_mul]
          exact hp
        · rw [decide_eq_false q] at hp
          obtain ⟨f, hf⟩ := ih (w + 1) (by omega) hp (by omega)
          refine ⟨f + 1, ?_⟩
          show wb_Pl_wordOf_1 (wp_Pl_wordOf post f) post (nI n) (nI (qe tx len (n + 1))) (nI w) σ
          simp (disch := omega) only [wb_Pl_wordOf_1, litI, n_le, n_lt, n_eq, n_in, n_cl, nI_add, n_b0, n_b1, n_v0, n_v1, n_m1, n_m1', n_m1l, n_m1l', n_m1g, n_m1ge, si_1, si_2, forall_eq, not_true_eq_false, not_false_eq_true, true_imp_iff, false_imp_iff, true_and, and_true, false_and, and_false, implies_true, ite_true, ite_false, if_true, if_false, Classical.not_not, Nat.reduceEqDiff, reduceIte, Nat.add_left_cancel_iff, Nat.add_eq_left, Nat.left_eq_add, and_self, n_sub, pk_mul, eq_false (show ¬ 21 < w by omega)]
          refine Wb_isWord_r hC.t hC.w hw1 (by omega) hq1 hq2 _ ?_
          simp only [bI_0, eq_false q, litI, n_le, n_lt, n_eq, n_in, n_cl, nI_add, n_b0, n_b1, n_v0, n_v1, n_m1, n_m1', n_m1l, n_m1l', n_m1g, n_m1ge, si_1, si_2, forall_eq, not_true_eq_false, not_false_eq_true, true_imp_iff, false_imp_iff, true_and, and_true, false_and, and_false, implies_true, ite_true, ite_false, if_true, if_false, Classical.not_not, Nat.reduceEqDiff, reduceIte, Nat.add_left_cancel_iff, Nat.add_eq_left, Nat.left_eq_add, and_self, n_sub, pk_mul]
          exact hf
    by_cases hc : cnd tx len G p tx (n + 1) (qe tx len (n + 1)) = some k
    · rw [hwd, if_pos hc] at hp
      obtain ⟨f, hf⟩ := loop 21 1 (by omega) hp (by omega)
      refine ⟨f, ?_⟩
      show wb_Pl_wordOf_0 (wp_Pl_wordOf post f) post (nI k) σ
      simp (disch := omega) only [wb_Pl_wordOf_0, litI, n_le, n_lt, n_eq, n_in, n_cl, nI_add, n_b0, n_b1, n_v0, n_v1, n_m1, n_m1', n_m1l, n_m1l', n_m1g, n_m1ge, si_1, si_2, forall_eq, not_true_eq_false, not_false_eq_true, true_imp_iff, false_imp_iff, true_and, and_true, false_and, and_false, implies_true, ite_true, ite_false, if_true, if_false, Classical.not_not, Nat.reduceEqDiff, reduceIte, Nat.add_left_cancel_iff, Nat.add_eq_left, Nat.left_eq_add, and_self, n_sub, pk_mul, h6, h4, hn, q1, oI, eq_true (show k < 160 by omega), show (-1 : Int32) = -nI 1 from rfl]
      refine hcn _ ?_
      simp only [e1, eq_true hc, litI, n_le, n_lt, n_eq, n_in, n_cl, nI_add, n_b0, n_b1, n_v0, n_v1, n_m1, n_m1', n_m1l, n_m1l', n_m1g, n_m1ge, si_1, si_2, forall_eq, not_true_eq_false, not_false_eq_true, true_imp_iff, false_imp_iff, true_and, and_true, false_and, and_false, implies_true, ite_true, ite_false, if_true, if_false, Classical.not_not, Nat.reduceEqDiff, reduceIte, Nat.add_left_cancel_iff, Nat.add_eq_left, Nat.left_eq_add, and_self, n_sub, pk_mul]
      exact Tx_quotedEnd_r hC.t hq _ hf
    · rw [hwd, if_neg hc] at hp
      refine ⟨0, ?_⟩
      show wb_Pl_wordOf_0 (wp_Pl_wordOf post 0) post (nI k) σ
      simp (disch := omega) only [wb_Pl_wordOf_0, litI, n_le, n_lt, n_eq, n_in, n_cl, nI_add, n_b0, n_b1, n_v0, n_v1, n_m1, n_m1', n_m1l, n_m1l', n_m1g, n_m1ge, si_1, si_2, forall_eq, not_true_eq_false, not_false_eq_true, true_imp_iff, false_imp_iff, true_and, and_true, false_and, and_false, implies_true, ite_true, ite_false, if_true, if_false, Classical.not_not, Nat.reduceEqDiff, reduceIte, Nat.add_left_cancel_iff, Nat.add_eq_left, Nat.left_eq_add, and_self, n_sub, pk_mul, h6, h4, hn, q1, oI, eq_true (show k < 160 by omega), show (-1 : Int32) = -nI 1 from rfl]
      refine hcn _ ?_
      simp only [e1, eq_false hc, litI, n_le, n_lt, n_eq, n_in, n_cl, nI_add, n_b0, n_b1, n_v0, n_v1, n_m1, n_m1', n_m1l, n_m1l', n_m1g, n_m1ge, si_1, si_2, forall_eq, not_true_eq_false, not_false_eq_true, true_imp_iff, false_imp_iff, true_and, and_true, false_and, and_false, implies_true, ite_true, ite_false, if_true, if_false, Classical.not_not, Nat.reduceEqDiff, reduceIte, Nat.add_left_cancel_iff, Nat.add_eq_left, Nat.left_eq_add, and_self, n_sub, pk_mul]
      exact hp
theorem Pl_targetOf_r {σ : Sg} (hC : CI 0 σ len tx G op0) (hW : WG len G) {k : Nat} (hk : k < G.N) (hN : G.N ≤ 160) (h30 : ∀ k, k < G.N → σ.1 30 k = nI (wrd tx len G k)) : Ri (wq_Pl_targetOf (nI k) σ) (oI (tgt tx len G k)) σ := by
  intro post hp
  have hwl := wrd_le (tx := tx) (len := len) (G := G) (c := k)
  have hkd := hW.kd k hk
  have hfr := hW.fr k hk
  have h1 : σ.1 1 k = nI (G.kd k) := hC.kd k hk (by show 0 < 2; omega)
  have h2 : σ.1 2 k = nI (G.fr k) := hC.fr k hk
  have hl : len ≤ 160 := hC.t.2.1
  have ht : tl 0 = 160 := rfl
  have h10 : σ.1 10 1 = nI len := hC.t.1
  have hm1 : (-1 : Int32) = -nI 1 := rfl
  unfold wq_Pl_targetOf
  unfold tgt at hp
  by_cases q1 : wrd tx len G k = 19
  case neg =>
    rw [if_neg q1] at hp
    simp (disch := omega) only [litI, n_le, n_lt, n_eq, n_in, n_cl, nI_add, n_b0, n_b1, n_v0, n_v1, n_m1, n_m1', n_m1l, n_m1l', n_m1g, n_m1ge, si_1, si_2, forall_eq, not_true_eq_false, not_false_eq_true, true_imp_iff, false_imp_iff, true_and, and_true, false_and, and_false, implies_true, ite_true, ite_false, if_true, if_false, Classical.not_not, Nat.reduceEqDiff, reduceIte, Nat.add_left_cancel_iff, Nat.add_eq_left, Nat.left_eq_add, and_self, n_sub, pk_mul, eq_true (show k < 160 by omega), h30 k hk, eq_false q1, hm1]
    exact hp
  rw [if_pos q1] at hp
  unfold mtg at hp
  by_cases q2 : G.kd k = 4
  case neg =>
    rw [if_neg q2] at hp
    simp (disch := omega) only [litI, n_le, n_lt, n_eq, n_in, n_cl, nI_add, n_b0, n_b1, n_v0, n_v1, n_m1, n_m1', n_m1l, n_m1l', n_m1g, n_m1ge, si_1, si_2, forall_eq, not_true_eq_false, not_false_eq_true, true_imp_iff, false_imp_iff, true_and, and_true, false_and, and_false, implies_true, ite_true, ite_false, if_true, if_false, Classical.not_not, Nat.reduceEqDiff, reduceIte, Nat.add_left_cancel_iff, Nat.add_eq_left, Nat.left_eq_add, and_self, n_sub, pk_mul, eq_true (show k < 160 by omega), h30 k hk, eq_true q1, h1, eq_false q2, hm1]
    exact hp
  rw [if_pos q2] at hp
  unfold tg1 at hp
  by_cases q3 : G.fr k + 1 < len
  case neg =>
    rw [if_neg (fun r => q3 r.1)] at hp
    simp (disch := omega) only [litI, n_le, n_lt, n_eq, n_in, n_cl, nI_add, n_b0, n_b1, n_v0, n_v1, n_m1, n_m1', n_m1l, n_m1l', n_m1g, n_m1ge, si_1, si_2, forall_eq, not_true_eq_false, not_false_eq_true, true_imp_iff, false_imp_iff, true_and, and_true, false_and, and_false, implies_true, ite_true, ite_false, if_true, if_false, Classical.not_not, Nat.reduceEqDiff, reduceIte, Nat.add_left_cancel_iff, Nat.add_eq_left, Nat.left_eq_add, and_self, n_sub, pk_mul, eq_true (show k < 160 by omega), h30 k hk, eq_true q1, h1, h2, h10, eq_true q2, hm1, eq_true (show len ≤ G.fr k + 1 by omega)]
    exact hp
  have h11 : σ.1 11 (G.fr k + 1) = nI (tx (G.fr k + 1)) := (hC.t.2.2 _ q3).1
  have h11b := (hC.t.2.2 _ q3).2
  by_cases q4 : tx (G.fr k + 1) = 35
  case neg =>
    rw [if_neg (fun r => q4 r.2)] at hp
    simp (disch := omega) only [litI, n_le, n_lt, n_eq, n_in, n_cl, nI_add, n_b0, n_b1, n_v0, n_v1, n_m1, n_m1', n_m1l, n_m1l', n_m1g, n_m1ge, si_1, si_2, forall_eq, not_true_eq_false, not_false_eq_true, true_imp_iff, false_imp_iff, true_and, and_true, false_and, and_false, implies_true, ite_true, ite_false, if_true, if_false, Classical.not_not, Nat.reduceEqDiff, reduceIte, Nat.add_left_cancel_iff, Nat.add_eq_left, Nat.left_eq_add, and_self, n_sub, pk_mul, eq_true (show k < 160 by omega), h30 k hk, eq_true q1, h1, h2, h10, eq_true q2, hm1, eq_false (show ¬ len ≤ G.fr k + 1 by omega), eq_true (show G.fr k + 1 < 160 by omega), h11, eq_false q4]
    exact hp
  rw [if_pos ⟨q3, q4⟩] at hp
  have hq := qe_sp (tx := tx) (len := len) (x := G.fr k + 2) (by omega)
  have hq1 := hq.1
  have hq2 := hq.2.1
  simp (disch := omega) only [litI, n_le, n_lt, n_eq, n_in, n_cl, nI_add, n_b0, n_b1, n_v0, n_v1, n_m1, n_m1', n_m1l, n_m1l', n_m1g, n_m1ge, si_1, si_2, forall_eq, not_true_eq_false, not_false_eq_true, true_imp_iff, false_imp_iff, true_and, and_true, false_and, and_false, implies_true, ite_true, ite_false, if_true, if_false, Classical.not_not, Nat.reduceEqDiff, reduceIte, Nat.add_left_cancel_iff, Nat.add_eq_left, Nat.left_eq_add, and_self, n_sub, pk_mul, eq_true (show k < 160 by omega), h30 k hk, eq_true q1, h1, h2, h10, eq_true q2, hm1, eq_false (show ¬ len ≤ G.fr k + 1 by omega), eq_true (show G.fr k + 1 < 160 by omega), h11, eq_true q4, show G.fr k + 1 + 1 = G.fr k + 2 by omega]
  refine Tx_quotedEnd_r hC.t hq _ ?_
  by_cases q5 : qe tx len (G.fr k + 2) = G.fr k + 2
  · rw [if_pos q5] at hp
    simp (disch := omega) only [n_eq, eq_true q5, litI, n_le, n_lt, n_eq, n_in, n_cl, nI_add, n_b0, n_b1, n_v0, n_v1, n_m1, n_m1', n_m1l, n_m1l', n_m1g, n_m1ge, si_1, si_2, forall_eq, not_true_eq_false, not_false_eq_true, true_imp_iff, false_imp_iff, true_and, and_true, false_and, and_false, implies_true, ite_true, ite_false, if_true, if_false, Classical.not_not, Nat.reduceEqDiff, reduceIte, Nat.add_left_cancel_iff, Nat.add_eq_left, Nat.left_eq_add, and_self, n_sub, pk_mul]
    exact hp
  rw [if_neg q5] at hp
  simp (disch := omega) only [n_eq, eq_false q5, litI, n_le, n_lt, n_eq, n_in, n_cl, nI_add, n_b0, n_b1, n_v0, n_v1, n_m1, n_m1', n_m1l, n_m1l', n_m1g, n_m1ge, si_1, si_2, forall_eq, not_true_eq_false, not_false_eq_true, true_imp_iff, false_imp_iff, true_and, and_true, false_and, and_false, implies_true, ite_true, ite_false, if_true, if_false, Classical.not_not, Nat.reduceEqDiff, reduceIte, Nat.add_left_cancel_iff, Nat.add_eq_left, Nat.left_eq_add, and_self, n_sub, pk_mul]
  refine Pl_childBy_r hC hW (by omega) hN (by omega) (by omega) h30 _ ?_
  cases hr : rul tx len G 0 21 with
  | none =>
    rw [hr] at hp
    simp (disch := omega) only [oI, litI, n_le, n_lt, n_eq, n_in, n_cl, nI_add, n_b0, n_b1, n_v0, n_v1, n_m1, n_m1', n_m1l, n_m1l', n_m1g, n_m1ge, si_1, si_2, forall_eq, not_true_eq_false, not_false_eq_true, true_imp_iff, false_imp_iff, true_and, and_true, false_and, and_false, implies_true, ite_true, ite_false, if_true, if_false, Classical.not_not, Nat.reduceEqDiff, reduceIte, Nat.add_left_cancel_iff, Nat.add_eq_left, Nat.left_eq_add, and_self, n_sub, pk_mul]
    exact hp
  | some d =>
    rw [hr] at hp
    have hd := rul_lt hW (by omega) hr
    simp (disch := omega) only [oI, litI, n_le, n_lt, n_eq, n_in, n_cl, nI_add, n_b0, n_b1, n_v0, n_v1, n_m1, n_m1', n_m1l, n_m1l', n_m1g, n_m1ge, si_1, si_2, forall_eq, not_true_eq_false, not_false_eq_true, true_imp_iff, false_imp_iff, true_and, and_true, false_and, and_false, implies_true, ite_true, ite_false, if_true, if_false, Classical.not_not, Nat.reduceEqDiff, reduceIte, Nat.add_left_cancel_iff, Nat.add_eq_left, Nat.left_eq_add, and_self, n_sub, pk_mul]
    exact cn_c (b1 := 0) hC hW hC.t hd (by show 0 < 2; omega) (by omega) hq _ hp
end PL
