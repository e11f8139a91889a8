/-- what stays where P doesn't say -/
def Fr (P : Nat → Nat → Prop) (σ σ' : Sg) : Prop := σ'.2 = σ.2 ∧ ∀ c k, ¬ P c k → σ'.1 c k = σ.1 c k
theorem Fr_r {P : Nat → Nat → Prop} {σ : Sg} : Fr P σ σ := ⟨rfl, fun _ _ _ => rfl⟩
theorem Fr_t {P : Nat → Nat → Prop} {σ σ1 σ2 : Sg} (h : Fr P σ σ1) (k : Fr P σ1 σ2) : Fr P σ σ2 := ⟨k.1.trans h.1, fun c j hp => (k.2 c j hp).trans (h.2 c j hp)⟩
theorem Fr_si {P : Nat → Nat → Prop} {σ0 σ : Sg} {c k : Nat} {v : Int32} (h : Fr P σ0 σ) (hp : P c k) : Fr P σ0 (si σ c k v) :=
  Fr_t h ⟨rfl, fun c' k' hn => by rw [si_1, if_neg (fun q => hn (by rw [q.1, q.2]; exact hp))]⟩
theorem Fr_c {P : Nat → Nat → Prop} {σ σ' : Sg} (h : Fr P σ σ') {c : Nat} (hc : ∀ k, ¬ P c k) : σ'.1 c = σ.1 c := funext fun k => h.2 c k (hc k)
theorem Fr_m {P Q : Nat → Nat → Prop} {σ σ' : Sg} (h : Fr P σ σ') (hm : ∀ c k, P c k → Q c k) : Fr Q σ σ' := ⟨h.1, fun c k hq => h.2 c k (fun hp => hq (hm c k hp))⟩
def Pp (c k : Nat) : Prop := (c = 29 ∧ (k = 1 ∨ k = 6 ∨ k = 7)) ∨ (30 ≤ c ∧ c ≤ 34)
def Pq (c k : Nat) : Prop := (c = 29 ∧ k = 6) ∨ (33 ≤ c ∧ c ≤ 34)
theorem CI_Fr {b len : Nat} {tx : Nat → Nat} {σ σ' : Sg} {G : TG} {op : Nat → Nat} {P : Nat → Nat → Prop} (h : CI b σ len tx G op) (f : Fr P σ σ') (hP : ∀ c k, (b ≤ c ∧ c ≤ b + 11) ∨ c = 27 ∨ c = 28 → ¬ P c k) : CI b σ' len tx G op :=
  CI_cg h (fun c hc => Fr_c f (fun k => hP c k hc))
section AR
variable {tx : Nat → Nat} {len : Nat} {G : TG}
def plb (G : TG) (L : List Nat) (x : Nat) : Bool := decide (G.kd x ≠ 6 ∨ x ∈ L)
abbrev OC (G : TG) (σ : Sg) (L : List Nat) : Prop := (σ.1 29 6 = nI L.length) ∧ (∀ j, j < L.length → σ.1 33 j = nI (L.getD j 0)) ∧ (∀ x, x < G.N → σ.1 34 x = nB (plb G L x))
theorem OC.n {G : TG} {σ : Sg} {L : List Nat} (hX : OC G σ L) : σ.1 29 6 = nI L.length := hX.1
theorem OC.o {G : TG} {σ : Sg} {L : List Nat} (hX : OC G σ L) : ∀ j, j < L.length → σ.1 33 j = nI (L.getD j 0) := hX.2.1
theorem OC.p {G : TG} {σ : Sg} {L : List Nat} (hX : OC G σ L) : ∀ x, x < G.N → σ.1 34 x = nB (plb G L x) := hX.2.2
abbrev OLc (tx : Nat → Nat) (len : Nat) (G : TG) (L : List Nat) : Prop := OL (Dp tx len G) G.N (fun x => G.kd x = 6) (fun x => G.kd x ≠ 6) L
abbrev Mxc (tx : Nat → Nat) (len : Nat) (G : TG) (L : List Nat) : Prop := Mx (Dp tx len G) G.N (fun x => G.kd x = 6) (fun x => G.kd x ≠ 6) L
theorem PC_Fr {σ σ' : Sg} (h : PC tx len G σ) (f : Fr Pq σ σ') : PC tx len G σ' :=
  ⟨fun k hk => by rw [f.2 30 k (by unfold Pq; omega)]; exact h.w k hk, fun k hk => by rw [f.2 31 k (by unfold Pq; omega)]; exact h.t k hk, fun k hk => by rw [f.2 32 k (by unfold Pq; omega)]; exact h.p k hk⟩
theorem m1n : nI 0 - nI 1 = -nI 1 := by decide +kernel
theorem placeAll {σ : Sg} {L0 : List Nat} (hC : CI 0 σ len tx G op0) (hW : WG len G) (hP : PC tx len G σ) (hN : G.N ≤ 160) (hO : OC G σ L0) (hL : OLc tx len G L0) :
    ∃ σ' L, Rv (wq_Pl_placeAllReady σ) σ' ∧ Fr Pq σ σ' ∧ OC G σ' L ∧ OLc tx len G L ∧ L0 <+: L ∧ (L = L0 → Mxc tx len G L0) ∧ (Mxc tx len G L0 → L = L0) := by
  have key : ∀ m (σ1 : Sg) (L1 : List Nat), m ≤ G.N → Fr Pq σ σ1 → OC G σ1 L1 → OLc tx len G L1 → L0 <+: L1 → (L1 = L0 → ∀ s, m ≤ s → s < G.N → G.kd s = 6 → s ∉ L0 → ¬ ∀ x, Dp tx len G s x → G.kd x ≠ 6 ∨ x ∈ L0) → (Mxc tx len G L0 → L1 = L0) →
      ∃ σ' L, (∀ post : Sg → Prop, post σ' → ∃ n, wp_Pl_placeAllReady post n 1 (nI m - nI 1) σ1) ∧ Fr Pq σ σ' ∧ OC G σ' L ∧ OLc tx len G L ∧ L0 <+: L ∧ (L = L0 → Mxc tx len G L0) ∧ (Mxc tx len G L0 → L = L0) := by
    intro m
    induction m with
    | zero =>
      intro σ1 L1 _ f1 o1 l1 p1 q1 q2
      refine ⟨σ1, L1, fun post hp => ⟨1, ?_⟩, f1, o1, l1, p1, fun e s hs => q1 e s (by omega) hs, q2⟩
      show wb_Pl_placeAllReady_1 (wp_Pl_placeAllReady post 0) post (nI 0 - nI 1) σ1
      rw [m1n]
      simp only [wb_Pl_placeAllReady_1, litI, show (-nI 1 < nI 0) = True by decide +kernel, litI, n_le, n_lt, n_eq, n_in, n_cl, nI_add, n_b0, n_b1, n_v0, n_v1, n_m1, n_m1', n_m1l, n_m1l', n_m1g, n_m1ge, si_1, si_2, forall_eq, not_true_eq_false, not_false_eq_true, true_imp_iff, false_imp_iff, true_and, and_true, false_and, and_false, implies_true, ite_true, ite_false, if_true, if_false, Classical.not_not, Nat.reduceEqDiff, reduceIte, Nat.add_left_cancel_iff, Nat.add_eq_left, Nat.left_eq_add, and_self, n_sub, pk_mul]
      exact hp
    | succ m ih =>
      intro σ1 L1 hm f1 o1 l1 p1 q1 q2
      have hC1 : CI 0 σ1 len tx G op0 := CI_Fr hC f1 (fun c k hc => by unfold Pq; omega)
      have hP1 := PC_Fr hP f1
      have hr := Pl_isReady_r (s := m) hC1 hW hP1 (by omega) hN o1.p
      have e1 : nI (m + 1) - nI 1 = nI m := by rw [n_sub (by omega)]; rfl
      have e2 : nI m + (-1) = nI m - nI 1 := by rw [Int32.sub_eq_add_neg]; rfl
      rw [e1]
      by_cases hpl : plb G L1 m = true
      · obtain ⟨σ', L, r1, r2⟩ := ih σ1 L1 (by omega) f1 o1 l1 p1 (fun e s hs hsN h6 hn => by
          rcases Nat.eq_or_lt_of_le hs with r | r
          · subst r; unfold plb at hpl; rcases of_decide_eq_true hpl with z | z
            · exact absurd h6 z
            · rw [e] at z; exact absurd z hn
          · exact q1 e s (by omega) hsN h6 hn) q2
        refine ⟨σ', L, fun post hp => ?_, r2⟩
        obtain ⟨n, hn⟩ := r1 post hp
        refine ⟨n + 1, ?_⟩
        show wb_Pl_placeAllReady_1 (wp_Pl_placeAllReady post n) post (nI m) σ1
        simp (disch := omega) only [wb_Pl_placeAllReady_1, litI, n_le, n_lt, n_eq, n_in, n_cl, nI_add, n_b0, n_b1, n_v0, n_v1, n_m1, n_m1', n_m1l, n_m1l', n_m1g, n_m1ge, si_1, si_2, forall_eq, not_true_eq_false, not_false_eq_true, true_imp_iff, false_imp_iff, true_and, and_true, false_and, and_false, implies_true, ite_true, ite_false, if_true, if_false, Classical.not_not, Nat.reduceEqDiff, reduceIte, Nat.add_left_cancel_iff, Nat.add_eq_left, Nat.left_eq_add, and_self, n_sub, pk_mul, eq_false (show ¬ m < 0 by omega), eq_true (show m < 160 by omega), o1.p m (by omega), nB_0, hpl, Bool.true_eq_false]
        rw [← e2] at hn; exact hn
      · have hpl : plb G L1 m = false := by cases h : plb G L1 m <;> simp_all
        have hnn := of_decide_eq_false hpl
        have h6 : G.kd m = 6 := Classical.byContradiction (fun z => hnn (Or.inl z))
        have hnm : m ∉ L1 := fun z => hnn (Or.inr z)
        have hdp := LPb_Dp (tx := tx) (pl := plb G L1) hW (show m < G.N by omega) h6
        cases hrd : (G.K m).all (LPb tx len G (plb G L1)) with
        | false =>
          rw [hrd] at hr
          obtain ⟨σ', L, r1, r2⟩ := ih σ1 L1 (by omega) f1 o1 l1 p1 (fun e s hs hsN h6 hn => by
            rcases Nat.eq_or_lt_of_le hs with r | r
            · subst r
              intro hall
              rw [hdp.mpr (fun x hx => by unfold plb; rw [e]; exact decide_eq_true (hall x hx))] at hrd; cases hrd
            · exact q1 e s (by omega) hsN h6 hn) q2
          refine ⟨σ', L, fun post hp => ?_, r2⟩
          obtain ⟨n, hn⟩ := r1 post hp
          refine ⟨n + 1, ?_⟩
          show wb_Pl_placeAllReady_1 (wp_Pl_placeAllReady post n) post (nI m) σ1
          simp (disch := omega) only [wb_Pl_placeAllReady_1, litI, n_le, n_lt, n_eq, n_in, n_cl, nI_add, n_b0, n_b1, n_v0, n_v1, n_m1, n_m1', n_m1l, n_m1l', n_m1g, n_m1ge, si_1, si_2, forall_eq, not_true_eq_false, not_false_eq_true, true_imp_iff, false_imp_iff, true_and, and_true, false_and, and_false, implies_true, ite_true, ite_false, if_true, if_false, Classical.not_not, Nat.reduceEqDiff, reduceIte, Nat.add_left_cancel_iff, Nat.add_eq_left, Nat.left_eq_add, and_self, n_sub, pk_mul, eq_false (show ¬ m < 0 by omega), eq_true (show m < 160 by omega), o1.p m (by omega), nB_0, hpl]
          refine hr _ ?_
          simp only [nB_0, litI, n_le, n_lt, n_eq, n_in, n_cl, nI_add, n_b0, n_b1, n_v0, n_v1, n_m1, n_m1', n_m1l, n_m1l', n_m1g, n_m1ge, si_1, si_2, forall_eq, not_true_eq_false, not_false_eq_true, true_imp_iff, false_imp_iff, true_and, and_true, false_and, and_false, implies_true, ite_true, ite_false, if_true, if_false, Classical.not_not, Nat.reduceEqDiff, reduceIte, Nat.add_left_cancel_iff, Nat.add_eq_left, Nat.left_eq_add, and_self, n_sub, pk_mul]
          rw [← e2] at hn; exact hn
        | true =>
          rw [hrd] at hr
          have hall := hdp.mp hrd
          have hall2 : ∀ x, Dp tx len G m x → G.kd x ≠ 6 ∨ x ∈ L1 := fun x hx => of_decide_eq_true (hall x hx)
          have hlen : L1.length < 160 := by
            have l2 := OL_add l1 (show m < G.N by omega) h6 hnm hall2
            have := OL_len l2; simp at this; omega
          let σ2 := si (si (si σ1 34 m (nI 1)) 33 L1.length (nI m)) 29 6 (nI (L1.length + 1))
          have f2 : Fr Pq σ σ2 := Fr_si (Fr_si (Fr_si f1 (Or.inr (by omega))) (Or.inr (by omega))) (Or.inl ⟨rfl, rfl⟩)
          have o2 : OC G σ2 (L1 ++ [m]) := by
            refine ⟨by simp [σ2, si_1], fun j hj => ?_, fun x hx => ?_⟩
            · simp at hj
              by_cases e : j = L1.length
              · simp [σ2, si_1, e]
              · simp [σ2, si_1, e]
                have := o1.o j (by omega)
                rw [this]; congr 1
                rw [List.getD_eq_getElem?_getD, List.getElem?_append_left (by omega)]
            · by_cases e : x = m
              · subst e; simp [σ2, si_1, plb]; rfl
              · simp [σ2, si_1, e]; rw [o1.p x hx]; unfold plb; simp [e]
          obtain ⟨σ', L, r1, r2⟩ := ih σ2 (L1 ++ [m]) (by omega) f2 o2 (OL_add l1 (by omega) h6 hnm hall2) (List.IsPrefix.trans p1 (List.prefix_append _ _)) (fun e => by
              exfalso
              have h1 := p1.length_le
              have h2 := congrArg List.length e; simp at h2; omega) (fun hmx => by
              exfalso
              have e := q2 hmx
              subst e
              exact hmx m (by omega) h6 hnm hall2)
          refine ⟨σ', L, fun post hp => ?_, r2⟩
          obtain ⟨n, hn⟩ := r1 post hp
          refine ⟨n + 1, ?_⟩
          show wb_Pl_placeAllReady_1 (wp_Pl_placeAllReady post n) post (nI m) σ1
          simp (disch := omega) only [wb_Pl_placeAllReady_1, litI, n_le, n_lt, n_eq, n_in, n_cl, nI_add, n_b0, n_b1, n_v0, n_v1, n_m1, n_m1', n_m1l, n_m1l', n_m1g, n_m1ge, si_1, si_2, forall_eq, not_true_eq_false, not_false_eq_true, true_imp_iff, false_imp_iff, true_and, and_true, false_and, and_false, implies_true, ite_true, ite_false, if_true, if_false, Classical.not_not, Nat.reduceEqDiff, reduceIte, Nat.add_left_cancel_iff, Nat.add_eq_left, Nat.left_eq_add, and_self, n_sub, pk_mul, eq_false (show ¬ m < 0 by omega), eq_true (show m < 160 by omega), o1.p m (by omega), nB_0, hpl]
          refine hr _ ?_
          simp (disch := omega) only [nB_0, litI, n_le, n_lt, n_eq, n_in, n_cl, nI_add, n_b0, n_b1, n_v0, n_v1, n_m1, n_m1', n_m1l, n_m1l', n_m1g, n_m1ge, si_1, si_2, forall_eq, not_true_eq_false, not_false_eq_true, true_imp_iff, false_imp_iff, true_and, and_true, false_and, and_false, implies_true, ite_true, ite_false, if_true, if_false, Classical.not_not, Nat.reduceEqDiff, reduceIte, Nat.add_left_cancel_iff, Nat.add_eq_left, Nat.left_eq_add, and_self, n_sub, pk_mul, Bool.true_eq_false, eq_true (show m < 160 by omega), o1.n, eq_true hlen, show ¬ (29 = 34) by decide, show ¬ (29 = 33) by decide]
          rw [← e2] at hn; exact hn
  obtain ⟨σ', L, r1, r2⟩ := key G.N σ L0 (Nat.le_refl _) Fr_r hO hL (List.prefix_refl _) (fun _ s hs hsN => by omega) (fun _ => rfl)
  refine ⟨σ', L, fun post hp => ?_, r2⟩
  obtain ⟨n, hn⟩ := r1 post hp
  refine ⟨n + 1, ?_⟩
  show wb_Pl_placeAllReady_0 (wp_Pl_placeAllReady post n) post σ
  have h9 : σ.1 0 9 = nI G.N := hC.N
  simp only [wb_Pl_placeAllReady_0, h9, litI]
  exact hn
/-- all objects are in the list -/
def allC (G : TG) (L : List Nat) : Bool := (List.range G.N).all (plb G L)
def cntO (G : TG) : Nat → Nat
  | 0 => 0
  | k + 1 => cntO G k + (if G.kd k = 6 then 1 else 0)
theorem cntO_f (G : TG) : ∀ n, ((List.range n).filter (fun s => decide (G.kd s = 6))).length = cntO G n
  | 0 => rfl
  | n + 1 => by
    rw [List.range_succ, List.filter_append, List.length_append, cntO_f G n]
    show _ = cntO G n + (if G.kd n = 6 then 1 else 0)
    by_cases h : G.kd n = 6 <;> simp [h]
theorem cntO_le {dp : Nat → Nat → Prop} {q : Nat → Prop} {L : List Nat} (h : OL dp G.N (fun x => G.kd x = 6) q L) : L.length ≤ cntO G G.N ∧ (allC G L = true ↔ ¬ L.length < cntO G G.N) := by
  have hsub : L ⊆ (List.range G.N).filter (fun s => decide (G.kd s = 6)) := fun c hc => List.mem_filter.mpr ⟨List.mem_range.mpr (h.lt c hc).1, decide_eq_true (h.lt c hc).2⟩
  have h1 := List.Nodup.length_le_of_subset h.nd hsub
  rw [cntO_f] at h1
  refine ⟨h1, fun ha => ?_, fun hl => ?_⟩
  · have hsub2 : (List.range G.N).filter (fun s => decide (G.kd s = 6)) ⊆ L := fun c hc => by
      obtain ⟨c1, c2⟩ := List.mem_filter.mp hc
      have := List.all_eq_true.mp ha c c1
      rcases of_decide_eq_true this with z | z
      · exact absurd (of_decide_eq_true c2) z
      · exact z
    have := List.Nodup.length_le_of_subset (List.nodup_range.filter _) hsub2
    rw [cntO_f] at this; omega
  · refine List.all_eq_true.mpr (fun s hs => ?_)
    unfold plb
    refine decide_eq_true (Classical.byContradiction (fun hn => ?_))
    have h6 : G.kd s = 6 := Classical.byContradiction (fun z => hn (Or.inl z))
    have hnm : s ∉ L := fun z => hn (Or.inr z)
    have hsub3 : (s :: L) ⊆ (List.range G.N).filter (fun s => decide (G.kd s = 6)) := fun c hc => by
      rcases List.mem_cons.mp hc with e | e
      · subst e; exact List.mem_filter.mpr ⟨hs, decide_eq_true h6⟩
      · exact hsub e
    have := List.Nodup.length_le_of_subset (List.nodup_cons.mpr ⟨hnm, h.nd⟩) hsub3
    rw [cntO_f] at this; simp at this; omega
theorem cntO_N (G : TG) : ∀ n, cntO G n ≤ n
  | 0 => Nat.le_refl _
  | n + 1 => by have := cntO_N G n; unfold cntO; split <;> omega
/-- the class's plan -/
abbrev PF (tx : Nat → Nat) (len : Nat) (G : TG) (σ : Sg) (L : List Nat) : Prop := (PC tx len G σ) ∧ (σ.1 29 6 = nI L.length) ∧ (∀ j, j < L.length → σ.1 33 j = nI (L.getD j 0)) ∧ (OLc tx len G L) ∧ (Mxc tx len G L) ∧ (σ.1 29 7 = nB (!allC G L))
theorem PF.c {tx : Nat → Nat} {len : Nat} {G : TG} {σ : Sg} {L : List Nat} (hX : PF tx len G σ L) : PC tx len G σ := hX.1
theorem PF.n {tx : Nat → Nat} {len : Nat} {G : TG} {σ : Sg} {L : List Nat} (hX : PF tx len G σ L) : σ.1 29 6 = nI L.length := hX.2.1
theorem PF.o {tx : Nat → Nat} {len : Nat} {G : TG} {σ : Sg} {L : List Nat} (hX : PF tx len G σ L) : ∀ j, j < L.length → σ.1 33 j = nI (L.getD j 0) := hX.2.2.1
theorem PF.l {tx : Nat → Nat} {len : Nat} {G : TG} {σ : Sg} {L : List Nat} (hX : PF tx len G σ L) : OLc tx len G L := hX.2.2.2.1
theorem PF.m {tx : Nat → Nat} {len : Nat} {G : TG} {σ : Sg} {L : List Nat} (hX : PF tx len G σ L) : Mxc tx len G L := hX.2.2.2.2.1
theorem PF.b {tx : Nat → Nat} {len : Nat} {G : TG} {σ : Sg} {L : List Nat} (hX : PF tx len G σ L) : σ.1 29 7 = nB (!allC G L) := hX.2.2.2.2.2
theorem arrange {σ : Sg} (hC : CI 0 σ len tx G op0) (hW : WG len G) (hP : PC tx len G σ) (hN : G.N ≤ 160) : ∃ σ' L, Rv (wq_Pl_arrange σ) σ' ∧ Fr Pp σ σ' ∧ σ'.1 29 1 = σ.1 29 1 ∧ PF tx len G σ' L := by
  have hPq : ∀ c k, Pq c k → Pp c k := fun c k h => by unfold Pq at h; unfold Pp; omega
  have h9 : σ.1 0 9 = nI G.N := hC.N
  -- the second loop
  have loop2 : ∀ m (σ1 : Sg) (L : List Nat) (bf : Int32) (r : Nat), cntO G G.N + 2 - r ≤ m → Fr Pq σ σ1 → OC G σ1 L → OLc tx len G L → r ≤ cntO G G.N + 1 → ((bf < nI L.length ∧ r ≤ L.length) ∨ (bf = nI L.length ∧ Mxc tx len G L)) →
      ∃ σ' L', (∀ post : Sg → Prop, post σ' → ∃ n, wp_Pl_arrange post n 2 (nI (cntO G G.N)) bf (nI r) σ1) ∧ Fr Pp σ σ' ∧ σ'.1 29 1 = σ.1 29 1 ∧ PF tx len G σ' L' := by
    intro m
    induction m with
    | zero => intro σ1 L bf r hm _ _ _ hr _; omega
    | succ m ih =>
      intro σ1 L bf r hm f1 o1 l1 hr hinv
      have hC1 : CI 0 σ1 len tx G op0 := CI_Fr hC f1 (fun c k hc => by unfold Pq; omega)
      have hcl := cntO_le l1
      have hcN := cntO_N G G.N
      have hll := OL_len l1
      -- the end
      have fin : Mxc tx len G L → ∃ σ' L', (∀ post : Sg → Prop, post σ' → wp_Pl_arrange post 1 5 (nI (cntO G G.N)) 0 0 σ1) ∧ Fr Pp σ σ' ∧ σ'.1 29 1 = σ.1 29 1 ∧ PF tx len G σ' L' := by
        intro hmx
        refine ⟨si σ1 29 7 (nB (!allC G L)), L, fun post hp => ?_, Fr_si (Fr_m f1 hPq) (Or.inl ⟨rfl, by omega⟩), by rw [si_1, if_neg (by omega), f1.2 29 1 (by unfold Pq; omega)], ⟨?_, by rw [si_1, if_neg (by omega)]; exact o1.n, fun j hj => by rw [si_c (by omega)]; exact o1.o j hj, l1, hmx, by rw [si_1, if_pos ⟨rfl, rfl⟩]⟩⟩
        · show wb_Pl_arrange_5 (wp_Pl_arrange post 0) post (nI (cntO G G.N)) σ1
          by_cases hq : L.length < cntO G G.N
          · have hac : allC G L = false := by
              cases h : allC G L with
              | false => rfl
              | true => exact absurd hq (hcl.2.mp h)
            rw [hac] at hp
            simp (disch := omega) only [wb_Pl_arrange_5, litI, n_le, n_lt, n_eq, n_in, n_cl, nI_add, n_b0, n_b1, n_v0, n_v1, n_m1, n_m1', n_m1l, n_m1l', n_m1g, n_m1ge, si_1, si_2, forall_eq, not_true_eq_false, not_false_eq_true, true_imp_iff, false_imp_iff, true_and, and_true, false_and, and_false, implies_true, ite_true, ite_false, if_true, if_false, Classical.not_not, Nat.reduceEqDiff, reduceIte, Nat.add_left_cancel_iff, Nat.add_eq_left, Nat.left_eq_add, and_self, n_sub, pk_mul, o1.n, eq_false (show ¬ cntO G G.N ≤ L.length by omega)]
            exact ⟨by decide +kernel, hp⟩
          · rw [hcl.2.mpr hq] at hp
            simp (disch := omega) only [wb_Pl_arrange_5, litI, n_le, n_lt, n_eq, n_in, n_cl, nI_add, n_b0, n_b1, n_v0, n_v1, n_m1, n_m1', n_m1l, n_m1l', n_m1g, n_m1ge, si_1, si_2, forall_eq, not_true_eq_false, not_false_eq_true, true_imp_iff, false_imp_iff, true_and, and_true, false_and, and_false, implies_true, ite_true, ite_false, if_true, if_false, Classical.not_not, Nat.reduceEqDiff, reduceIte, Nat.add_left_cancel_iff, Nat.add_eq_left, Nat.left_eq_add, and_self, n_sub, pk_mul, o1.n, eq_true (show cntO G G.N ≤ L.length by omega)]
            exact ⟨by decide +kernel, hp⟩
        · have hp1 := PC_Fr hP f1
          exact ⟨fun k hk => by rw [si_c (by omega)]; exact hp1.w k hk, fun k hk => by rw [si_c (by omega)]; exact hp1.t k hk, fun k hk => by rw [si_c (by omega)]; exact hp1.p k hk⟩
      by_cases hq : Mxc tx len G L ∧ (cntO G G.N < r ∨ ¬ bf < nI L.length)
      · obtain ⟨σ', L', r1, r2⟩ := fin hq.1
        refine ⟨σ', L', fun post hp => ⟨2, ?_⟩, r2⟩
        show wb_Pl_arrange_2 (wp_Pl_arrange post 1) post (nI (cntO G G.N)) bf (nI r) σ1
        have := r1 post hp
        simp (disch := omega) only [wb_Pl_arrange_2, n_lt, o1.n]
        refine ⟨fun _ => this, fun z => ⟨fun _ => this, fun z2 => ?_⟩⟩
        exfalso
        rcases hq.2 with y | y
        · exact z y
        · exact z2 (Int32.not_lt.mp y)
      · have hbf : bf < nI L.length ∧ r ≤ L.length := by
          rcases hinv with y | y
          · exact y
          · exfalso; exact hq ⟨y.2, Or.inr (by rw [y.1]; exact fun z => Int32.lt_irrefl z)⟩
        have hrc : ¬ cntO G G.N < r := by omega
        obtain ⟨σ2, L2, p1, p2, p3, p4, p5, p6, p7⟩ := placeAll hC1 hW (PC_Fr hP f1) hN o1 l1
        have hpl := p5.length_le
        obtain ⟨σ', L', r1, r2⟩ := ih σ2 L2 (nI L.length) (r + 1) (by omega) (Fr_t f1 p2) p3 p4 (by omega) (by
          by_cases e : L2 = L
          · right; subst e; exact ⟨rfl, p6 rfl⟩
          · left
            have : L.length < L2.length := by
              rcases Nat.eq_or_lt_of_le hpl with z | z
              · exact absurd (List.IsPrefix.eq_of_length p5 z).symm e
              · exact z
            have := OL_len p4
            exact ⟨(n_lt (by omega) (by omega)).mpr (by omega), by omega⟩)
        refine ⟨σ', L', fun post hp => ?_, r2⟩
        obtain ⟨n, hn⟩ := r1 post hp
        refine ⟨n + 1, ?_⟩
        show wb_Pl_arrange_2 (wp_Pl_arrange post n) post (nI (cntO G G.N)) bf (nI r) σ1
        have hnb : ¬ nI L.length ≤ bf := fun z => Int32.lt_irrefl (Int32.lt_of_lt_of_le hbf.1 z)
        simp (disch := omega) only [wb_Pl_arrange_2, n_lt, eq_false hrc, o1.n, eq_false hnb, litI, n_le, n_lt, n_eq, n_in, n_cl, nI_add, n_b0, n_b1, n_v0, n_v1, n_m1, n_m1', n_m1l, n_m1l', n_m1g, n_m1ge, si_1, si_2, forall_eq, not_true_eq_false, not_false_eq_true, true_imp_iff, false_imp_iff, true_and, and_true, false_and, and_false, implies_true, ite_true, ite_false, if_true, if_false, Classical.not_not, Nat.reduceEqDiff, reduceIte, Nat.add_left_cancel_iff, Nat.add_eq_left, Nat.left_eq_add, and_self, n_sub, pk_mul]
        exact p1 _ hn
  -- the first loop
  have loop1 : ∀ m (σ1 : Sg) (k : Nat), G.N - k ≤ m → k ≤ G.N → Fr Pq σ σ1 → σ1.1 29 6 = nI 0 → (∀ x, x < k → σ1.1 34 x = nB (plb G [] x)) →
      ∃ σ' L', (∀ post : Sg → Prop, post σ' → ∃ n, wp_Pl_arrange post n 1 (nI (cntO G k)) (nI k) 0 σ1) ∧ Fr Pp σ σ' ∧ σ'.1 29 1 = σ.1 29 1 ∧ PF tx len G σ' L' := by
    intro m
    induction m with
    | zero =>
      intro σ1 k hm hk f1 h6 h34
      have hkN : k = G.N := by omega
      subst hkN
      obtain ⟨σ', L', r1, r2⟩ := loop2 _ σ1 [] (-nI 1) 0 (Nat.le_refl _) f1 ⟨h6, fun j hj => by simp at hj, h34⟩ ⟨List.nodup_nil, fun s hs => (by cases hs), fun A s B h => (by simp at h)⟩ (by omega) (Or.inl ⟨by decide +kernel, by omega⟩)
      refine ⟨σ', L', fun post hp => ?_, r2⟩
      obtain ⟨n, hn⟩ := r1 post hp
      refine ⟨n + 1, ?_⟩
      show wb_Pl_arrange_1 (wp_Pl_arrange post n) post (nI (cntO G G.N)) (nI G.N) σ1
      simp (disch := omega) only [wb_Pl_arrange_1, f1.2 0 9 (by unfold Pq; omega), h9, litI, n_le, n_lt, n_eq, n_in, n_cl, nI_add, n_b0, n_b1, n_v0, n_v1, n_m1, n_m1', n_m1l, n_m1l', n_m1g, n_m1ge, si_1, si_2, forall_eq, not_true_eq_false, not_false_eq_true, true_imp_iff, false_imp_iff, true_and, and_true, false_and, and_false, implies_true, ite_true, ite_false, if_true, if_false, Classical.not_not, Nat.reduceEqDiff, reduceIte, Nat.add_left_cancel_iff, Nat.add_eq_left, Nat.left_eq_add, and_self, n_sub, pk_mul, Nat.le_refl, show (-1 : Int32) = -nI 1 from rfl]
      exact hn
    | succ m ih =>
      intro σ1 k hm hk f1 h6 h34
      rcases Nat.eq_or_lt_of_le hk with e | e
      · subst e
        obtain ⟨σ', L', r1, r2⟩ := loop2 _ σ1 [] (-nI 1) 0 (Nat.le_refl _) f1 ⟨h6, fun j hj => by simp at hj, h34⟩ ⟨List.nodup_nil, fun s hs => (by cases hs), fun A s B h => (by simp at h)⟩ (by omega) (Or.inl ⟨by decide +kernel, by omega⟩)
        refine ⟨σ', L', fun post hp => ?_, r2⟩
        obtain ⟨n, hn⟩ := r1 post hp
        refine ⟨n + 1, ?_⟩
        show wb_Pl_arrange_1 (wp_Pl_arrange post n) post (nI (cntO G G.N)) (nI G.N) σ1
        simp (disch := omega) only [wb_Pl_arrange_1, f1.2 0 9 (by unfold Pq; omega), h9, litI, n_le, n_lt, n_eq, n_in, n_cl, nI_add, n_b0, n_b1, n_v0, n_v1, n_m1, n_m1', n_m1l, n_m1l', n_m1g, n_m1ge, si_1, si_2, forall_eq, not_true_eq_false, not_false_eq_true, true_imp_iff, false_imp_iff, true_and, and_true, false_and, and_false, implies_true, ite_true, ite_false, if_true, if_false, Classical.not_not, Nat.reduceEqDiff, reduceIte, Nat.add_left_cancel_iff, Nat.add_eq_left, Nat.left_eq_add, and_self, n_sub, pk_mul, Nat.le_refl, show (-1 : Int32) = -nI 1 from rfl]
        exact hn
      · have h1 : σ1.1 1 k = nI (G.kd k) := by rw [f1.2 1 k (by unfold Pq; omega)]; exact hC.kd k e (by show 0 < 2; omega)
        have hkd := hW.kd k e
        let σ2 := si σ1 34 k (nB (plb G [] k))
        obtain ⟨σ', L', r1, r2⟩ := ih σ2 (k + 1) (by omega) (by omega) (Fr_si f1 (Or.inr (by omega))) (by simp [σ2, si_1, h6]) (fun x hx => by
          by_cases e2 : x = k
          · subst e2; simp [σ2, si_1]
          · simp [σ2, si_1, e2]; exact h34 x (by omega))
        refine ⟨σ', L', fun post hp => ?_, r2⟩
        obtain ⟨n, hn⟩ := r1 post hp
        refine ⟨n + 3, ?_⟩
        show wb_Pl_arrange_1 (wp_Pl_arrange post (n + 2)) post (nI (cntO G k)) (nI k) σ1
        by_cases q : G.kd k = 6
        · have ec : cntO G (k + 1) = cntO G k + 1 := by simp [cntO, q]
          have ep : plb G [] k = false := by simp [plb, q]
          have es : σ2 = si σ1 34 k (nI 0) := by simp only [σ2, ep]; rfl
          rw [ec, es] at hn
          simp (disch := omega) only [wb_Pl_arrange_1, f1.2 0 9 (by unfold Pq; omega), h9, litI, n_le, n_lt, n_eq, n_in, n_cl, nI_add, n_b0, n_b1, n_v0, n_v1, n_m1, n_m1', n_m1l, n_m1l', n_m1g, n_m1ge, si_1, si_2, forall_eq, not_true_eq_false, not_false_eq_true, true_imp_iff, false_imp_iff, true_and, and_true, false_and, and_false, implies_true, ite_true, ite_false, if_true, if_false, Classical.not_not, Nat.reduceEqDiff, reduceIte, Nat.add_left_cancel_iff, Nat.add_eq_left, Nat.left_eq_add, and_self, n_sub, pk_mul, eq_false (show ¬ G.N ≤ k by omega), eq_true (show k < 160 by omega), h1, eq_true q]
          show wb_Pl_arrange_3 (wp_Pl_arrange post (n + 1)) post (nI (cntO G k)) (nI k) (nI 1) σ1
          simp (disch := omega) only [wb_Pl_arrange_3, litI, n_le, n_lt, n_eq, n_in, n_cl, nI_add, n_b0, n_b1, n_v0, n_v1, n_m1, n_m1', n_m1l, n_m1l', n_m1g, n_m1ge, si_1, si_2, forall_eq, not_true_eq_false, not_false_eq_true, true_imp_iff, false_imp_iff, true_and, and_true, false_and, and_false, implies_true, ite_true, ite_false, if_true, if_false, Classical.not_not, Nat.reduceEqDiff, reduceIte, Nat.add_left_cancel_iff, Nat.add_eq_left, Nat.left_eq_add, and_self, n_sub, pk_mul, show ¬ (1 = 0) by decide, eq_true (show k < 160 by omega)]
          show wb_Pl_arrange_4 (wp_Pl_arrange post n) post (nI (cntO G k)) (nI k) (nI 1) (si σ1 34 k (nI 0))
          simp (disch := omega) only [wb_Pl_arrange_4, litI, n_le, n_lt, n_eq, n_in, n_cl, nI_add, n_b0, n_b1, n_v0, n_v1, n_m1, n_m1', n_m1l, n_m1l', n_m1g, n_m1ge, si_1, si_2, forall_eq, not_true_eq_false, not_false_eq_true, true_imp_iff, false_imp_iff, true_and, and_true, false_and, and_false, implies_true, ite_true, ite_false, if_true, if_false, Classical.not_not, Nat.reduceEqDiff, reduceIte, Nat.add_left_cancel_iff, Nat.add_eq_left, Nat.left_eq_add, and_self, n_sub, pk_mul, show ¬ (1 = 0) by decide]
          exact hn
        · have ec : cntO G (k + 1) = cntO G k + 0 := by simp [cntO, q]
          have ep : plb G [] k = true := by simp [plb, q]
          have es : σ2 = si σ1 34 k (nI 1) := by simp only [σ2, ep]; rfl
          rw [ec, es] at hn
          simp (disch := omega) only [wb_Pl_arrange_1, f1.2 0 9 (by unfold Pq; omega), h9, litI, n_le, n_lt, n_eq, n_in, n_cl, nI_add, n_b0, n_b1, n_v0, n_v1, n_m1, n_m1', n_m1l, n_m1l', n_m1g, n_m1ge, si_1, si_2, forall_eq, not_true_eq_false, not_false_eq_true, true_imp_iff, false_imp_iff, true_and, and_true, false_and, and_false, implies_true, ite_true, ite_false, if_true, if_false, Classical.not_not, Nat.reduceEqDiff, reduceIte, Nat.add_left_cancel_iff, Nat.add_eq_left, Nat.left_eq_add, and_self, n_sub, pk_mul, eq_false (show ¬ G.N ≤ k by omega), eq_true (show k < 160 by omega), h1, eq_false q]
          show wb_Pl_arrange_3 (wp_Pl_arrange post (n + 1)) post (nI (cntO G k)) (nI k) (nI 0) σ1
          simp (disch := omega) only [wb_Pl_arrange_3, litI, n_le, n_lt, n_eq, n_in, n_cl, nI_add, n_b0, n_b1, n_v0, n_v1, n_m1, n_m1', n_m1l, n_m1l', n_m1g, n_m1ge, si_1, si_2, forall_eq, not_true_eq_false, not_false_eq_true, true_imp_iff, false_imp_iff, true_and, and_true, false_and, and_false, implies_true, ite_true, ite_false, if_true, if_false, Classical.not_not, Nat.reduceEqDiff, reduceIte, Nat.add_left_cancel_iff, Nat.add_eq_left, Nat.left_eq_add, and_self, n_sub, pk_mul, eq_true (show k < 160 by omega)]
          show wb_Pl_arrange_4 (wp_Pl_arrange post n) post (nI (cntO G k)) (nI k) (nI 0) (si σ1 34 k (nI 1))
          simp (disch := omega) only [wb_Pl_arrange_4, litI, n_le, n_lt, n_eq, n_in, n_cl, nI_add, n_b0, n_b1, n_v0, n_v1, n_m1, n_m1', n_m1l, n_m1l', n_m1g, n_m1ge, si_1, si_2, forall_eq, not_true_eq_false, not_false_eq_true, true_imp_iff, false_imp_iff, true_and, and_true, false_and, and_false, implies_true, ite_true, ite_false, if_true, if_false, Classical.not_not, Nat.reduceEqDiff, reduceIte, Nat.add_left_cancel_iff, Nat.add_eq_left, Nat.left_eq_add, and_self, n_sub, pk_mul]
          exact hn
  obtain ⟨σ', L', r1, r2⟩ := loop1 _ (si σ 29 6 (nI 0)) 0 (Nat.le_refl _) (by omega) (Fr_si Fr_r (Or.inl ⟨rfl, rfl⟩)) (by simp [si_1]) (fun x hx => by omega)
  refine ⟨σ', L', fun post hp => ?_, r2⟩
  obtain ⟨n, hn⟩ := r1 post hp
  refine ⟨n + 1, ?_⟩
  show wb_Pl_arrange_0 (wp_Pl_arrange post n) post σ
  simp only [wb_Pl_arrange_0, litI, n_le, n_lt, n_eq, n_in, n_cl, nI_add, n_b0, n_b1, n_v0, n_v1, n_m1, n_m1', n_m1l, n_m1l', n_m1g, n_m1ge, si_1, si_2, forall_eq, not_true_eq_false, not_false_eq_true, true_imp_iff, false_imp_iff, true_and, and_true, false_and, and_false, implies_true, ite_true, ite_false, if_true, if_false, Classical.not_not, Nat.reduceEqDiff, reduceIte, Nat.add_left_cancel_iff, Nat.add_eq_left, Nat.left_eq_add, and_self, n_sub, pk_mul]
  exact hn
end AR
