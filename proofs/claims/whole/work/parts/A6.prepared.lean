/-- a run with its end -/
def Ex1 (W : (Int32 → Sg → Prop) → Nat → Prop) (R : Int32 → Sg → Prop) : Prop := ∃ r σ', R r σ' ∧ ∀ post : Int32 → Sg → Prop, post r σ' → ∃ n, W post n
theorem Ex1_s {W W1 : (Int32 → Sg → Prop) → Nat → Prop} {R : Int32 → Sg → Prop} (h : Ex1 W1 R) (hs : ∀ post n, W1 post n → ∃ n, W post n) : Ex1 W R := by
  obtain ⟨r, σ', h1, h2⟩ := h
  exact ⟨r, σ', h1, fun post hp => by obtain ⟨n, hn⟩ := h2 post hp; exact hs post n hn⟩
def Ex0 (W : (Sg → Prop) → Nat → Prop) (R : Sg → Prop) : Prop := ∃ σ', R σ' ∧ ∀ post : Sg → Prop, post σ' → ∃ n, W post n
theorem Ex0_s {W W1 : (Sg → Prop) → Nat → Prop} {R : Sg → Prop} (h : Ex0 W1 R) (hs : ∀ post n, W1 post n → ∃ n, W post n) : Ex0 W R := by
  obtain ⟨σ', h1, h2⟩ := h
  exact ⟨σ', h1, fun post hp => by obtain ⟨n, hn⟩ := h2 post hp; exact hs post n hn⟩
section PP
variable {tx : Nat → Nat} {len : Nat} {G : TG}
abbrev OLm (tx : Nat → Nat) (len : Nat) (G : TG) (L : List Nat) : Prop := OL (Dp tx len G) G.N (fun _ => True) (fun _ => False) L
abbrev Mxm (tx : Nat → Nat) (len : Nat) (G : TG) (L : List Nat) : Prop := Mx (Dp tx len G) G.N (fun _ => True) (fun _ => False) L
abbrev OM (G : TG) (σ : Sg) (L : List Nat) : Prop := (σ.1 54 28 = nI L.length) ∧ (∀ j, j < L.length → σ.1 78 j = nI (L.getD j 0)) ∧ (∀ x, x < G.N → σ.1 79 x = nB (decide (x ∈ L)))
theorem OM.n {G : TG} {σ : Sg} {L : List Nat} (hX : OM G σ L) : σ.1 54 28 = nI L.length := hX.1
theorem OM.o {G : TG} {σ : Sg} {L : List Nat} (hX : OM G σ L) : ∀ j, j < L.length → σ.1 78 j = nI (L.getD j 0) := hX.2.1
theorem OM.p {G : TG} {σ : Sg} {L : List Nat} (hX : OM G σ L) : ∀ x, x < G.N → σ.1 79 x = nB (decide (x ∈ L)) := hX.2.2
theorem RU_Fr {σ σ' : Sg} (h : RU tx len G σ) (f : ∀ c k, c = 76 ∨ c = 77 → σ'.1 c k = σ.1 c k) : RU tx len G σ' :=
  ⟨fun p w hp h1 h2 => by rw [f _ _ (by omega)]; exact h.r p w hp h1 h2, fun k hk => by rw [f _ _ (by omega)]; exact h.t k hk⟩
theorem allm_D {L : List Nat} {s : Nat} : nnb tx len G (fun x => decide (x ∈ L)) s = true ↔ ∀ x, Dp tx len G s x → False ∨ x ∈ L := by
  rw [nnb_Dp]; simp
/-- the reference's plan -/
abbrev MPl (tx : Nat → Nat) (len : Nat) (G : TG) (σ : Sg) (L : List Nat) : Prop := (SM tx len G σ) ∧ (RU tx len G σ) ∧ (σ.1 54 28 = nI L.length) ∧ (∀ j, j < L.length → σ.1 78 j = nI (L.getD j 0)) ∧ (OLm tx len G L) ∧ (Mxm tx len G L)
theorem MPl.s {tx : Nat → Nat} {len : Nat} {G : TG} {σ : Sg} {L : List Nat} (hX : MPl tx len G σ L) : SM tx len G σ := hX.1
theorem MPl.r {tx : Nat → Nat} {len : Nat} {G : TG} {σ : Sg} {L : List Nat} (hX : MPl tx len G σ L) : RU tx len G σ := hX.2.1
theorem MPl.n {tx : Nat → Nat} {len : Nat} {G : TG} {σ : Sg} {L : List Nat} (hX : MPl tx len G σ L) : σ.1 54 28 = nI L.length := hX.2.2.1
theorem MPl.o {tx : Nat → Nat} {len : Nat} {G : TG} {σ : Sg} {L : List Nat} (hX : MPl tx len G σ L) : ∀ j, j < L.length → σ.1 78 j = nI (L.getD j 0) := hX.2.2.2.1
theorem MPl.l {tx : Nat → Nat} {len : Nat} {G : TG} {σ : Sg} {L : List Nat} (hX : MPl tx len G σ L) : OLm tx len G L := hX.2.2.2.2.1
theorem MPl.m {tx : Nat → Nat} {len : Nat} {G : TG} {σ : Sg} {L : List Nat} (hX : MPl tx len G σ L) : Mxm tx len G L := hX.2.2.2.2.2
theorem prep_l {σ0 : Sg} (hW : WG len G) (hN : G.N ≤ 160) (hS0 : SM tx len G σ0) : Ex1 (fun post n => wp_Md_prepared post n 1 0 0 0 σ0) (fun r σ' => ∃ L, Fr Qp σ0 σ' ∧ MPl tx len G σ' L ∧ r = nB (decide (L.length = G.N))) := by
  obtain ⟨R, hR⟩ : ∃ R : Int32 → Sg → Prop, R = fun r σ' => ∃ L, Fr Qp σ0 σ' ∧ MPl tx len G σ' L ∧ r = nB (decide (L.length = G.N)) := ⟨_, rfl⟩
  rw [← hR]
  have h58 : ∀ σ1, Fr Qp σ0 σ1 → σ1.1 58 0 = nI G.N := fun σ1 f => (SM_Fr hS0 f).i.N
  have z0 : (0 : Int32).toNatClampNeg = 0 := rfl
  -- the turns
  have turns : ∀ m (σ1 : Sg) (L : List Nat) (tn : Nat), G.N - tn ≤ m → tn ≤ G.N → Fr Qp σ0 σ1 → RU tx len G σ1 → OM G σ1 L → OLm tx len G L → (Mxm tx len G L ∨ tn ≤ L.length) → Ex1 (fun post n => wp_Md_prepared post n 7 (nI tn) 0 0 σ1) R := by
    intro m
    have fin : ∀ (σ1 : Sg) (L : List Nat), Fr Qp σ0 σ1 → RU tx len G σ1 → OM G σ1 L → OLm tx len G L → (Mxm tx len G L ∨ G.N ≤ L.length) → Ex1 (fun post n => wp_Md_prepared post n 7 (nI G.N) 0 0 σ1) R := by
      intro σ1 L f1 r1 o1 l1 hmx
      have hll := OL_len l1
      have hmx : Mxm tx len G L := by
        rcases hmx with q | q
        · exact q
        · intro s hs _ hn
          exfalso
          have hsub : (s :: L) ⊆ List.range G.N := fun c hc => by
            rcases List.mem_cons.mp hc with e | e
            · subst e; exact List.mem_range.mpr hs
            · exact List.mem_range.mpr (l1.lt c e).1
          have := List.Nodup.length_le_of_subset (List.nodup_cons.mpr ⟨hn, l1.nd⟩) hsub
          simp at this; omega
      refine ⟨_, σ1, by rw [hR]; exact ⟨L, f1, ⟨SM_Fr hS0 f1, r1, o1.n, o1.o, l1, hmx⟩, rfl⟩, fun post hp => ⟨1, ?_⟩⟩
      show wb_Md_prepared_7 (wp_Md_prepared post 0) post (nI G.N) σ1
      by_cases q : L.length = G.N
      · rw [decide_eq_true q] at hp
        simp (disch := omega) only [wb_Md_prepared_7, z0, h58 σ1 f1, o1.n, litI, n_le, n_lt, n_eq, n_in, n_cl, nI_add, n_b0, n_b1, n_v0, n_v1, n_m1, n_m1', n_m1l, n_m1l', n_m1g, n_m1ge, si_1, si_2, forall_eq, not_true_eq_false, not_false_eq_true, true_imp_iff, false_imp_iff, true_and, and_true, false_and, and_false, implies_true, ite_true, ite_false, if_true, if_false, Classical.not_not, Nat.reduceEqDiff, reduceIte, Nat.add_left_cancel_iff, Nat.add_eq_left, Nat.left_eq_add, and_self, n_sub, pk_mul, Nat.le_refl, eq_true (show 0 < 2 by decide), eq_true q]
        exact hp
      · rw [decide_eq_false q] at hp
        simp (disch := omega) only [wb_Md_prepared_7, z0, h58 σ1 f1, o1.n, litI, n_le, n_lt, n_eq, n_in, n_cl, nI_add, n_b0, n_b1, n_v0, n_v1, n_m1, n_m1', n_m1l, n_m1l', n_m1g, n_m1ge, si_1, si_2, forall_eq, not_true_eq_false, not_false_eq_true, true_imp_iff, false_imp_iff, true_and, and_true, false_and, and_false, implies_true, ite_true, ite_false, if_true, if_false, Classical.not_not, Nat.reduceEqDiff, reduceIte, Nat.add_left_cancel_iff, Nat.add_eq_left, Nat.left_eq_add, and_self, n_sub, pk_mul, Nat.le_refl, eq_true (show 0 < 2 by decide), eq_false q]
        exact hp
    induction m with
    | zero =>
      intro σ1 L tn hm htn f1 r1 o1 l1 hmx
      have e : tn = G.N := by omega
      subst e
      exact fin σ1 L f1 r1 o1 l1 hmx
    | succ m ih =>
      intro σ1 L tn hm htn f1 r1 o1 l1 hmx
      rcases Nat.eq_or_lt_of_le htn with e | e
      · subst e; exact fin σ1 L f1 r1 o1 l1 hmx
      -- one turn
      have inner : ∀ j (σ2 : Sg) (L2 : List Nat) (k : Nat), G.N - k ≤ j → k ≤ G.N → Fr Qp σ0 σ2 → RU tx len G σ2 → OM G σ2 L2 → OLm tx len G L2 → L <+: L2 → (L2 = L → ∀ s, s < k → s ∉ L → ¬ ∀ x, Dp tx len G s x → False ∨ x ∈ L) → (Mxm tx len G L → L2 = L) → Ex1 (fun post n => wp_Md_prepared post n 8 (nI tn) (nI k) 0 σ2) R := by
        intro j
        have fin2 : ∀ (σ2 : Sg) (L2 : List Nat), Fr Qp σ0 σ2 → RU tx len G σ2 → OM G σ2 L2 → OLm tx len G L2 → L <+: L2 → (L2 = L → ∀ s, s < G.N → s ∉ L → ¬ ∀ x, Dp tx len G s x → False ∨ x ∈ L) → (Mxm tx len G L → L2 = L) → Ex1 (fun post n => wp_Md_prepared post n 8 (nI tn) (nI G.N) 0 σ2) R := by
          intro σ2 L2 f2 r2 o2 l2 p2 q1 q2
          have hpl := p2.length_le
          refine Ex1_s (ih σ2 L2 (tn + 1) (by omega) (by omega) f2 r2 o2 l2 (by
            by_cases e2 : L2 = L
            · left; rw [e2]; exact fun s hs _ hn => q1 e2 s hs hn
            · right
              have : L.length < L2.length := by
                rcases Nat.eq_or_lt_of_le hpl with z | z
                · exact absurd (List.IsPrefix.eq_of_length p2 z).symm e2
                · exact z
              rcases hmx with z | z
              · exact absurd (q2 z) e2
              · omega)) (fun post n hn => ⟨n + 1, ?_⟩)
          show wb_Md_prepared_8 (wp_Md_prepared post n) post (nI tn) (nI G.N) σ2
          simp (disch := omega) only [wb_Md_prepared_8, z0, h58 σ2 f2, litI, n_le, n_lt, n_eq, n_in, n_cl, nI_add, n_b0, n_b1, n_v0, n_v1, n_m1, n_m1', n_m1l, n_m1l', n_m1g, n_m1ge, si_1, si_2, forall_eq, not_true_eq_false, not_false_eq_true, true_imp_iff, false_imp_iff, true_and, and_true, false_and, and_false, implies_true, ite_true, ite_false, if_true, if_false, Classical.not_not, Nat.reduceEqDiff, reduceIte, Nat.add_left_cancel_iff, Nat.add_eq_left, Nat.left_eq_add, and_self, n_sub, pk_mul, Nat.le_refl, eq_true (show 0 < 2 by decide)]
          exact hn
        induction j with
        | zero =>
          intro σ2 L2 k hj hk f2 r2 o2 l2 p2 q1 q2
          have e : k = G.N := by omega
          subst e
          exact fin2 σ2 L2 f2 r2 o2 l2 p2 q1 q2
        | succ j ihj =>
          intro σ2 L2 k hj hk f2 r2 o2 l2 p2 q1 q2
          rcases Nat.eq_or_lt_of_le hk with e | e
          · subst e; exact fin2 σ2 L2 f2 r2 o2 l2 p2 q1 q2
          have hr := Md_needsNothing_r (SM_Fr hS0 f2) hW r2 e hN o2.p
          by_cases hmem : k ∈ L2
          · refine Ex1_s (ihj σ2 L2 (k + 1) (by omega) (by omega) f2 r2 o2 l2 p2 (fun e2 s hs hsn => by
              rcases Nat.eq_or_lt_of_le (Nat.lt_succ_iff.mp hs) with z | z
              · subst z; rw [e2] at hmem; exact absurd hmem hsn
              · exact q1 e2 s z hsn) q2) (fun post n hn => ⟨n + 1, ?_⟩)
            show wb_Md_prepared_8 (wp_Md_prepared post n) post (nI tn) (nI k) σ2
            simp (disch := omega) only [wb_Md_prepared_8, z0, h58 σ2 f2, litI, n_le, n_lt, n_eq, n_in, n_cl, nI_add, n_b0, n_b1, n_v0, n_v1, n_m1, n_m1', n_m1l, n_m1l', n_m1g, n_m1ge, si_1, si_2, forall_eq, not_true_eq_false, not_false_eq_true, true_imp_iff, false_imp_iff, true_and, and_true, false_and, and_false, implies_true, ite_true, ite_false, if_true, if_false, Classical.not_not, Nat.reduceEqDiff, reduceIte, Nat.add_left_cancel_iff, Nat.add_eq_left, Nat.left_eq_add, and_self, n_sub, pk_mul, eq_false (show ¬ G.N ≤ k by omega), eq_true (show 0 < 2 by decide), eq_true (show k < 160 by omega), o2.p k e, nB_0, decide_eq_false_iff_not, eq_true hmem]
            exact hn
          · cases hrd : nnb tx len G (fun x => decide (x ∈ L2)) k with
            | false =>
              rw [hrd] at hr
              refine Ex1_s (ihj σ2 L2 (k + 1) (by omega) (by omega) f2 r2 o2 l2 p2 (fun e2 s hs hsn => by
                rcases Nat.eq_or_lt_of_le (Nat.lt_succ_iff.mp hs) with z | z
                · subst z; intro hall; rw [e2] at hrd; rw [allm_D.mpr hall] at hrd; cases hrd
                · exact q1 e2 s z hsn) q2) (fun post n hn => ⟨n + 1, ?_⟩)
              show wb_Md_prepared_8 (wp_Md_prepared post n) post (nI tn) (nI k) σ2
              simp (disch := omega) only [wb_Md_prepared_8, z0, h58 σ2 f2, litI, n_le, n_lt, n_eq, n_in, n_cl, nI_add, n_b0, n_b1, n_v0, n_v1, n_m1, n_m1', n_m1l, n_m1l', n_m1g, n_m1ge, si_1, si_2, forall_eq, not_true_eq_false, not_false_eq_true, true_imp_iff, false_imp_iff, true_and, and_true, false_and, and_false, implies_true, ite_true, ite_false, if_true, if_false, Classical.not_not, Nat.reduceEqDiff, reduceIte, Nat.add_left_cancel_iff, Nat.add_eq_left, Nat.left_eq_add, and_self, n_sub, pk_mul, eq_false (show ¬ G.N ≤ k by omega), eq_true (show 0 < 2 by decide), eq_true (show k < 160 by omega), o2.p k e, nB_0, decide_eq_false_iff_not, eq_false hmem]
              refine hr _ ?_
              simp only [nB_0, litI, n_le, n_lt, n_eq, n_in, n_cl, nI_add, n_b0, n_b1, n_v0, n_v1, n_m1, n_m1', n_m1l, n_m1l', n_m1g, n_m1ge, si_1, si_2, forall_eq, not_true_eq_false, not_false_eq_true, true_imp_iff, false_imp_iff, true_and, and_true, false_and, and_false, implies_true, ite_true, ite_false, if_true, if_false, Classical.not_not, Nat.reduceEqDiff, reduceIte, Nat.add_left_cancel_iff, Nat.add_eq_left, Nat.left_eq_add, and_self, n_sub, pk_mul]
              exact hn
            | true =>
              rw [hrd] at hr
              have hall := allm_D.mp hrd
              have l3 := OL_add l2 e trivial hmem hall
              have hlen : L2.length < 160 := by have := OL_len l3; simp at this; omega
              refine Ex1_s (ihj (si (si (si σ2 79 k (nI 1)) 78 L2.length (nI k)) 54 28 (nI (L2.length + 1))) (L2 ++ [k]) (k + 1) (by omega) (by omega) (Fr_si (Fr_si (Fr_si f2 (Or.inr (by omega))) (Or.inr (by omega))) (Or.inl ⟨rfl, rfl⟩)) (RU_Fr r2 (fun c j hc => by rw [si_c (by omega), si_c (by omega), si_c (by omega)])) (by
                refine ⟨by simp [si_1], fun j hj => ?_, fun x hx => ?_⟩
                · simp at hj
                  by_cases e : j = L2.length
                  · simp [si_1, e]
                  · simp [si_1, e]
                    have := o2.o j (by omega)
                    rw [this]; congr 1
                    rw [List.getD_eq_getElem?_getD, List.getElem?_append_left (by omega)]
                · by_cases e : x = k
                  · subst e; simp [si_1]; rfl
                  · simp [si_1, e]; rw [o2.p x hx]) l3 (List.IsPrefix.trans p2 (List.prefix_append _ _)) (fun e2 => by
                  exfalso
                  have h1 := p2.length_le
                  have h2 := congrArg List.length e2; simp at h2; omega) (fun hmx2 => by
                  exfalso
                  have e2 := q2 hmx2
                  subst e2
                  exact hmx2 k e trivial hmem hall)) (fun post n hn => ⟨n + 1, ?_⟩)
              show wb_Md_prepared_8 (wp_Md_prepared post n) post (nI tn) (nI k) σ2
              simp (disch := omega) only [wb_Md_prepared_8, z0, h58 σ2 f2, litI, n_le, n_lt, n_eq, n_in, n_cl, nI_add, n_b0, n_b1, n_v0, n_v1, n_m1, n_m1', n_m1l, n_m1l', n_m1g, n_m1ge, si_1, si_2, forall_eq, not_true_eq_false, not_false_eq_true, true_imp_iff, false_imp_iff, true_and, and_true, false_and, and_false, implies_true, ite_true, ite_false, if_true, if_false, Classical.not_not, Nat.reduceEqDiff, reduceIte, Nat.add_left_cancel_iff, Nat.add_eq_left, Nat.left_eq_add, and_self, n_sub, pk_mul, eq_false (show ¬ G.N ≤ k by omega), eq_true (show 0 < 2 by decide), eq_true (show k < 160 by omega), o2.p k e, nB_0, decide_eq_false_iff_not, eq_false hmem]
              refine hr _ ?_
              simp (disch := omega) only [nB_0, litI, n_le, n_lt, n_eq, n_in, n_cl, nI_add, n_b0, n_b1, n_v0, n_v1, n_m1, n_m1', n_m1l, n_m1l', n_m1g, n_m1ge, si_1, si_2, forall_eq, not_true_eq_false, not_false_eq_true, true_imp_iff, false_imp_iff, true_and, and_true, false_and, and_false, implies_true, ite_true, ite_false, if_true, if_false, Classical.not_not, Nat.reduceEqDiff, reduceIte, Nat.add_left_cancel_iff, Nat.add_eq_left, Nat.left_eq_add, and_self, n_sub, pk_mul, Bool.true_eq_false, eq_true (show k < 160 by omega), o2.n, eq_true hlen, show ¬ (54 = 79) by decide, show ¬ (54 = 78) by decide]
              exact hn
      refine Ex1_s (inner _ σ1 L 0 (Nat.le_refl _) (by omega) f1 r1 o1 l1 (List.prefix_refl _) (fun _ s hs => by omega) (fun _ => rfl)) (fun post n hn => ⟨n + 1, ?_⟩)
      show wb_Md_prepared_7 (wp_Md_prepared post n) post (nI tn) σ1
      simp (disch := omega) only [wb_Md_prepared_7, z0, h58 σ1 f1, litI, n_le, n_lt, n_eq, n_in, n_cl, nI_add, n_b0, n_b1, n_v0, n_v1, n_m1, n_m1', n_m1l, n_m1l', n_m1g, n_m1ge, si_1, si_2, forall_eq, not_true_eq_false, not_false_eq_true, true_imp_iff, false_imp_iff, true_and, and_true, false_and, and_false, implies_true, ite_true, ite_false, if_true, if_false, Classical.not_not, Nat.reduceEqDiff, reduceIte, Nat.add_left_cancel_iff, Nat.add_eq_left, Nat.left_eq_add, and_self, n_sub, pk_mul, eq_false (show ¬ G.N ≤ tn by omega), eq_true (show 0 < 2 by decide)]
      exact hn
  -- ready is cleared
  have rdy : ∀ m (σ1 : Sg) (k : Nat), G.N - k ≤ m → k ≤ G.N → Fr Qp σ0 σ1 → RU tx len G σ1 → σ1.1 54 28 = nI 0 → (∀ x, x < k → σ1.1 79 x = nI 0) → Ex1 (fun post n => wp_Md_prepared post n 6 (nI k) 0 0 σ1) R := by
    intro m
    have fin : ∀ (σ1 : Sg), Fr Qp σ0 σ1 → RU tx len G σ1 → σ1.1 54 28 = nI 0 → (∀ x, x < G.N → σ1.1 79 x = nI 0) → Ex1 (fun post n => wp_Md_prepared post n 6 (nI G.N) 0 0 σ1) R := by
      intro σ1 f1 r1 h28 h79
      refine Ex1_s (turns _ σ1 [] 0 (Nat.le_refl _) (by omega) f1 r1 ⟨h28, fun j hj => by simp at hj, fun x hx => by rw [h79 x hx]; simp; rfl⟩ ⟨List.nodup_nil, fun s hs => (by cases hs), fun A s B h => (by simp at h)⟩ (Or.inr (by omega))) (fun post n hn => ⟨n + 1, ?_⟩)
      show wb_Md_prepared_6 (wp_Md_prepared post n) post (nI G.N) σ1
      simp (disch := omega) only [wb_Md_prepared_6, z0, h58 σ1 f1, litI, n_le, n_lt, n_eq, n_in, n_cl, nI_add, n_b0, n_b1, n_v0, n_v1, n_m1, n_m1', n_m1l, n_m1l', n_m1g, n_m1ge, si_1, si_2, forall_eq, not_true_eq_false, not_false_eq_true, true_imp_iff, false_imp_iff, true_and, and_true, false_and, and_false, implies_true, ite_true, ite_false, if_true, if_false, Classical.not_not, Nat.reduceEqDiff, reduceIte, Nat.add_left_cancel_iff, Nat.add_eq_left, Nat.left_eq_add, and_self, n_sub, pk_mul, Nat.le_refl, eq_true (show 0 < 2 by decide)]
      exact hn
    induction m with
    | zero =>
      intro σ1 k hm hk f1 r1 h28 h79
      have e : k = G.N := by omega
      subst e; exact fin σ1 f1 r1 h28 h79
    | succ m ih =>
      intro σ1 k hm hk f1 r1 h28 h79
      rcases Nat.eq_or_lt_of_le hk with e | e
      · subst e; exact fin σ1 f1 r1 h28 h79
      refine Ex1_s (ih (si σ1 79 k (nI 0)) (k + 1) (by omega) (by omega) (Fr_si f1 (Or.inr (by omega))) (RU_Fr r1 (fun c j hc => by rw [si_c (by omega)])) (by rw [si_c (by omega)]; exact h28) (fun x hx => by
        by_cases e2 : x = k
        · simp [si_1, e2]
        · simp [si_1, e2]; exact h79 x (by omega))) (fun post n hn => ⟨n + 1, ?_⟩)
      show wb_Md_prepared_6 (wp_Md_prepared post n) post (nI k) σ1
      simp (disch := omega) only [wb_Md_prepared_6, z0, h58 σ1 f1, litI, n_le, n_lt, n_eq, n_in, n_cl, nI_add, n_b0, n_b1, n_v0, n_v1, n_m1, n_m1', n_m1l, n_m1l', n_m1g, n_m1ge, si_1, si_2, forall_eq, not_true_eq_false, not_false_eq_true, true_imp_iff, false_imp_iff, true_and, and_true, false_and, and_false, implies_true, ite_true, ite_false, if_true, if_false, Classical.not_not, Nat.reduceEqDiff, reduceIte, Nat.add_left_cancel_iff, Nat.add_eq_left, Nat.left_eq_add, and_self, n_sub, pk_mul, eq_false (show ¬ G.N ≤ k by omega), eq_true (show 0 < 2 by decide), eq_true (show k < 160 by omega)]
      exact hn
  -- targets
  have tgs : ∀ m (σ1 : Sg) (k : Nat), G.N - k ≤ m → k ≤ G.N → Fr Qp σ0 σ1 → (∀ p w, p < G.N → 1 ≤ w → w < 22 → σ1.1 76 (22 * p + w) = oI (rul tx len G p w)) → (∀ x, x < k → σ1.1 77 x = oI (mtg tx len G x)) → Ex1 (fun post n => wp_Md_prepared post n 3 (nI k) 0 0 σ1) R := by
    intro m
    have fin : ∀ (σ1 : Sg), Fr Qp σ0 σ1 → (∀ p w, p < G.N → 1 ≤ w → w < 22 → σ1.1 76 (22 * p + w) = oI (rul tx len G p w)) → (∀ x, x < G.N → σ1.1 77 x = oI (mtg tx len G x)) → Ex1 (fun post n => wp_Md_prepared post n 3 (nI G.N) 0 0 σ1) R := by
      intro σ1 f1 h76 h77
      refine Ex1_s (rdy _ (si σ1 54 28 (nI 0)) 0 (Nat.le_refl _) (by omega) (Fr_si f1 (Or.inl ⟨rfl, rfl⟩)) ⟨fun p w hp h1 h2 => by rw [si_c (by omega)]; exact h76 p w hp h1 h2, fun k hk => by rw [si_c (by omega)]; exact h77 k hk⟩ (by simp [si_1]) (fun x hx => by omega)) (fun post n hn => ⟨n + 1, ?_⟩)
      show wb_Md_prepared_3 (wp_Md_prepared post n) post (nI G.N) σ1
      simp (disch := omega) only [wb_Md_prepared_3, z0, h58 σ1 f1, litI, n_le, n_lt, n_eq, n_in, n_cl, nI_add, n_b0, n_b1, n_v0, n_v1, n_m1, n_m1', n_m1l, n_m1l', n_m1g, n_m1ge, si_1, si_2, forall_eq, not_true_eq_false, not_false_eq_true, true_imp_iff, false_imp_iff, true_and, and_true, false_and, and_false, implies_true, ite_true, ite_false, if_true, if_false, Classical.not_not, Nat.reduceEqDiff, reduceIte, Nat.add_left_cancel_iff, Nat.add_eq_left, Nat.left_eq_add, and_self, n_sub, pk_mul, Nat.le_refl, eq_true (show 0 < 2 by decide)]
      exact hn
    induction m with
    | zero =>
      intro σ1 k hm hk f1 h76 h77
      have e : k = G.N := by omega
      subst e; exact fin σ1 f1 h76 h77
    | succ m ih =>
      intro σ1 k hm hk f1 h76 h77
      rcases Nat.eq_or_lt_of_le hk with e | e
      · subst e; exact fin σ1 f1 h76 h77
      refine Ex1_s (ih (si σ1 77 k (oI (mtg tx len G k))) (k + 1) (by omega) (by omega) (Fr_si f1 (Or.inr (by omega))) (fun p w hp h1 h2 => by rw [si_c (by omega)]; exact h76 p w hp h1 h2) (fun x hx => by
        by_cases e2 : x = k
        · simp [si_1, e2]
        · simp [si_1, e2]; exact h77 x (by omega))) (fun post n hn => ⟨n + 1, ?_⟩)
      show wb_Md_prepared_3 (wp_Md_prepared post n) post (nI k) σ1
      simp (disch := omega) only [wb_Md_prepared_3, z0, h58 σ1 f1, litI, n_le, n_lt, n_eq, n_in, n_cl, nI_add, n_b0, n_b1, n_v0, n_v1, n_m1, n_m1', n_m1l, n_m1l', n_m1g, n_m1ge, si_1, si_2, forall_eq, not_true_eq_false, not_false_eq_true, true_imp_iff, false_imp_iff, true_and, and_true, false_and, and_false, implies_true, ite_true, ite_false, if_true, if_false, Classical.not_not, Nat.reduceEqDiff, reduceIte, Nat.add_left_cancel_iff, Nat.add_eq_left, Nat.left_eq_add, and_self, n_sub, pk_mul, eq_false (show ¬ G.N ≤ k by omega), eq_true (show 0 < 2 by decide)]
      refine Md_targetOf_r (SM_Fr hS0 f1) hW e hN h76 _ ?_
      simp (disch := omega) only [litI, n_le, n_lt, n_eq, n_in, n_cl, nI_add, n_b0, n_b1, n_v0, n_v1, n_m1, n_m1', n_m1l, n_m1l', n_m1g, n_m1ge, si_1, si_2, forall_eq, not_true_eq_false, not_false_eq_true, true_imp_iff, false_imp_iff, true_and, and_true, false_and, and_false, implies_true, ite_true, ite_false, if_true, if_false, Classical.not_not, Nat.reduceEqDiff, reduceIte, Nat.add_left_cancel_iff, Nat.add_eq_left, Nat.left_eq_add, and_self, n_sub, pk_mul, eq_true (show k < 160 by omega)]
      exact hn
  -- rules
  have rls : ∀ m (σ1 : Sg) (k : Nat), G.N - k ≤ m → k ≤ G.N → Fr Qp σ0 σ1 → (∀ p w, p < G.N → w < 22 → σ1.1 76 (22 * p + w) = oI (rlN tx len G k p w)) → Ex1 (fun post n => wp_Md_prepared post n 2 (nI k) 0 0 σ1) R := by
    intro m
    have fin : ∀ (σ1 : Sg), Fr Qp σ0 σ1 → (∀ p w, p < G.N → w < 22 → σ1.1 76 (22 * p + w) = oI (rlN tx len G G.N p w)) → Ex1 (fun post n => wp_Md_prepared post n 2 (nI G.N) 0 0 σ1) R := by
      intro σ1 f1 h76
      refine Ex1_s (tgs _ σ1 0 (Nat.le_refl _) (by omega) f1 (fun p w hp h1 h2 => by rw [h76 p w hp h2, rlN_e hW hp h1 (Nat.le_refl _)]) (fun x hx => by omega)) (fun post n hn => ⟨n + 1, ?_⟩)
      show wb_Md_prepared_2 (wp_Md_prepared post n) post (nI G.N) σ1
      simp (disch := omega) only [wb_Md_prepared_2, z0, h58 σ1 f1, litI, n_le, n_lt, n_eq, n_in, n_cl, nI_add, n_b0, n_b1, n_v0, n_v1, n_m1, n_m1', n_m1l, n_m1l', n_m1g, n_m1ge, si_1, si_2, forall_eq, not_true_eq_false, not_false_eq_true, true_imp_iff, false_imp_iff, true_and, and_true, false_and, and_false, implies_true, ite_true, ite_false, if_true, if_false, Classical.not_not, Nat.reduceEqDiff, reduceIte, Nat.add_left_cancel_iff, Nat.add_eq_left, Nat.left_eq_add, and_self, n_sub, pk_mul, Nat.le_refl, eq_true (show 0 < 2 by decide)]
      exact hn
    induction m with
    | zero =>
      intro σ1 k hm hk f1 h76
      have e : k = G.N := by omega
      subst e; exact fin σ1 f1 h76
    | succ m ih =>
      intro σ1 k hm hk f1 h76
      rcases Nat.eq_or_lt_of_le hk with e | e
      · subst e; exact fin σ1 f1 h76
      have hS1 := SM_Fr hS0 f1
      obtain ⟨z59, -, z63⟩ := MI0 hS1.i
      have h63 := z63 k e
      -- nothing new
      have same : (∀ p w, p < G.N → 1 ≤ w → rul tx len G p w ≠ some k) → Ex1 (fun post n => wp_Md_prepared post n 2 (nI (k + 1)) 0 0 σ1) R := fun hne =>
        ih σ1 (k + 1) (by omega) (by omega) f1 (fun p w hp hw => by
          rw [h76 p w hp hw]
          by_cases w0 : w = 0
          · subst w0; rfl
          · rw [rlN_s (by omega) (hne p w hp (by omega))])
      cases hpr : G.pr k with
      | none =>
        refine Ex1_s (same (fun p w hp _ hr => by have := (hW.ch p hp k (rul_mem hr).2).2.2.1; rw [hpr] at this; cases this)) (fun post n hn => ⟨n + 3, ?_⟩)
        show wb_Md_prepared_2 (wp_Md_prepared post (n + 2)) post (nI k) σ1
        rw [hpr] at h63
        simp (disch := omega) only [wb_Md_prepared_2, z0, h58 σ1 f1, litI, n_le, n_lt, n_eq, n_in, n_cl, nI_add, n_b0, n_b1, n_v0, n_v1, n_m1, n_m1', n_m1l, n_m1l', n_m1g, n_m1ge, si_1, si_2, forall_eq, not_true_eq_false, not_false_eq_true, true_imp_iff, false_imp_iff, true_and, and_true, false_and, and_false, implies_true, ite_true, ite_false, if_true, if_false, Classical.not_not, Nat.reduceEqDiff, reduceIte, Nat.add_left_cancel_iff, Nat.add_eq_left, Nat.left_eq_add, and_self, n_sub, pk_mul, eq_false (show ¬ G.N ≤ k by omega), eq_true (show 0 < 2 by decide), eq_true (show k < 240 by omega), h63, oI, hm0]
        show wb_Md_prepared_4 (wp_Md_prepared post (n + 1)) post (nI k) (-nI 1) σ1
        show wb_Md_prepared_5 (wp_Md_prepared post n) post (nI k) (-nI 1) (nI 0) σ1
        simp (disch := omega) only [wb_Md_prepared_5, litI, n_le, n_lt, n_eq, n_in, n_cl, nI_add, n_b0, n_b1, n_v0, n_v1, n_m1, n_m1', n_m1l, n_m1l', n_m1g, n_m1ge, si_1, si_2, forall_eq, not_true_eq_false, not_false_eq_true, true_imp_iff, false_imp_iff, true_and, and_true, false_and, and_false, implies_true, ite_true, ite_false, if_true, if_false, Classical.not_not, Nat.reduceEqDiff, reduceIte, Nat.add_left_cancel_iff, Nat.add_eq_left, Nat.left_eq_add, and_self, n_sub, pk_mul, Nat.le_refl]
        exact hn
      | some p =>
        rw [hpr] at h63
        rcases hW.up k e with ⟨_, q⟩ | ⟨p', q1, q2, q3⟩
        · rw [hpr] at q; cases q
        rw [hpr] at q1; injection q1 with q1; subst q1
        have hpN : p < G.N := by omega
        have hpk := hW.kd p hpN
        have h59 := z59 p hpN (by show 0 < 2; omega)
        by_cases h6 : G.kd p = 6
        · obtain ⟨nn, hnn, hnl⟩ := (hW.nm k e p hpr).1 h6
          have hwo := Md_wordOf_r hS1 hW e hN hnn hnl
          have hwl := nw_le (tx := tx) (len := len) (G := G) (c := k)
          by_cases w0 : nw tx len G k = 0
          · refine Ex1_s (same (fun p' w hp' hw hr => by
              unfold rul at hr; split at hr
              · have := List.find?_some hr; simp at this; omega
              · cases hr)) (fun post n hn => ⟨n + 2, ?_⟩)
            show wb_Md_prepared_2 (wp_Md_prepared post (n + 1)) post (nI k) σ1
            simp (disch := omega) only [wb_Md_prepared_2, z0, h58 σ1 f1, litI, n_le, n_lt, n_eq, n_in, n_cl, nI_add, n_b0, n_b1, n_v0, n_v1, n_m1, n_m1', n_m1l, n_m1l', n_m1g, n_m1ge, si_1, si_2, forall_eq, not_true_eq_false, not_false_eq_true, true_imp_iff, false_imp_iff, true_and, and_true, false_and, and_false, implies_true, ite_true, ite_false, if_true, if_false, Classical.not_not, Nat.reduceEqDiff, reduceIte, Nat.add_left_cancel_iff, Nat.add_eq_left, Nat.left_eq_add, and_self, n_sub, pk_mul, eq_false (show ¬ G.N ≤ k by omega), eq_true (show 0 < 2 by decide), eq_true (show k < 240 by omega), h63, oI, eq_false (show ¬ p < 0 by omega), eq_true (show p < 240 by omega), h59, eq_true h6]
            refine hwo _ ?_
            rw [w0]
            show wb_Md_prepared_5 (wp_Md_prepared post n) post (nI k) (nI p) (nI 0) σ1
            simp (disch := omega) only [wb_Md_prepared_5, litI, n_le, n_lt, n_eq, n_in, n_cl, nI_add, n_b0, n_b1, n_v0, n_v1, n_m1, n_m1', n_m1l, n_m1l', n_m1g, n_m1ge, si_1, si_2, forall_eq, not_true_eq_false, not_false_eq_true, true_imp_iff, false_imp_iff, true_and, and_true, false_and, and_false, implies_true, ite_true, ite_false, if_true, if_false, Classical.not_not, Nat.reduceEqDiff, reduceIte, Nat.add_left_cancel_iff, Nat.add_eq_left, Nat.left_eq_add, and_self, n_sub, pk_mul, Nat.le_refl]
            exact hn
          · have h76k := h76 p (nw tx len G k) hpN (by omega)
            have hlt : 22 * p + nw tx len G k < 3520 := by omega
            -- the rule at p
            have hsome : ∃ c, rul tx len G p (nw tx len G k) = some c ∧ c ≤ k := by
              cases hr : rul tx len G p (nw tx len G k) with
              | none =>
                unfold rul at hr; rw [if_pos h6] at hr
                have := List.find?_eq_none.mp hr k q3; simp at this
              | some c =>
                refine ⟨c, rfl, ?_⟩
                unfold rul at hr; rw [if_pos h6] at hr
                obtain ⟨h1, as, bs, h2, h3⟩ := List.find?_eq_some_iff_append.mp hr
                have hs := hW.so p hpN
                rw [h2] at q3 hs
                rcases List.mem_append.mp q3 with z | z
                · have := h3 k z; simp at this
                · rcases List.mem_cons.mp z with z | z
                  · omega
                  · have := (List.pairwise_cons.mp (List.pairwise_append.mp hs).2.1).1 k z; omega
            obtain ⟨c, hc1, hc2⟩ := hsome
            rcases Nat.eq_or_lt_of_le hc2 with ec | ec
            · -- it is the first
              subst ec
              have e0 : rlN tx len G c p (nw tx len G c) = none := by unfold rlN; rw [if_neg w0, hc1]; simp [Option.filter]
              rw [e0] at h76k
              refine Ex1_s (ih (si σ1 76 (22 * p + nw tx len G c) (nI c)) (c + 1) (by omega) (by omega) (Fr_si f1 (Or.inr (by omega))) (fun p' w hp' hw => by
                by_cases e2 : 22 * p' + w = 22 * p + nw tx len G c
                · have e3 : p' = p ∧ w = nw tx len G c := by omega
                  obtain ⟨e3, e4⟩ := e3
                  subst e3; subst e4
                  rw [si_1, if_pos ⟨rfl, rfl⟩]
                  unfold rlN; rw [if_neg w0, hc1]; simp [Option.filter, oI]
                · rw [si_1, if_neg (fun q => e2 q.2), h76 p' w hp' hw]
                  by_cases w1 : w = 0
                  · subst w1; rfl
                  · rw [rlN_s (by omega) (fun hr => e2 (by
                      have h1 := (hW.ch p' hp' c (rul_mem hr).2).2.2.1
                      rw [hpr] at h1; injection h1 with h1; subst h1
                      unfold rul at hr; rw [if_pos h6] at hr
                      have := List.find?_some hr; simp at this; omega))])) (fun post n hn => ⟨n + 2, ?_⟩)
              show wb_Md_prepared_2 (wp_Md_prepared post (n + 1)) post (nI c) σ1
              simp (disch := omega) only [wb_Md_prepared_2, z0, h58 σ1 f1, litI, n_le, n_lt, n_eq, n_in, n_cl, nI_add, n_b0, n_b1, n_v0, n_v1, n_m1, n_m1', n_m1l, n_m1l', n_m1g, n_m1ge, si_1, si_2, forall_eq, not_true_eq_false, not_false_eq_true, true_imp_iff, false_imp_iff, true_and, and_true, false_and, and_false, implies_true, ite_true, ite_false, if_true, if_false, Classical.not_not, Nat.reduceEqDiff, reduceIte, Nat.add_left_cancel_iff, Nat.add_eq_left, Nat.left_eq_add, and_self, n_sub, pk_mul, eq_false (show ¬ G.N ≤ c by omega), eq_true (show 0 < 2 by decide), eq_true (show c < 240 by omega), h63, oI, eq_false (show ¬ p < 0 by omega), eq_true (show p < 240 by omega), h59, eq_true h6]
              refine hwo _ ?_
              show wb_Md_prepared_5 (wp_Md_prepared post n) post (nI c) (nI p) (nI (nw tx len G c)) σ1
              simp (disch := omega) only [wb_Md_prepared_5, litI, n_le, n_lt, n_eq, n_in, n_cl, nI_add, n_b0, n_b1, n_v0, n_v1, n_m1, n_m1', n_m1l, n_m1l', n_m1g, n_m1ge, si_1, si_2, forall_eq, not_true_eq_false, not_false_eq_true, true_imp_iff, false_imp_iff, true_and, and_true, false_and, and_false, implies_true, ite_true, ite_false, if_true, if_false, Classical.not_not, Nat.reduceEqDiff, reduceIte, Nat.add_left_cancel_iff, Nat.add_eq_left, Nat.left_eq_add, and_self, n_sub, pk_mul, eq_false (show ¬ nw tx len G c ≤ 0 by omega), eq_true hlt, h76k, oI, hm0']
              exact hn
            · have e0 : rlN tx len G k p (nw tx len G k) = some c := by unfold rlN; rw [if_neg w0, hc1]; simp [Option.filter, ec]
              rw [e0] at h76k
              refine Ex1_s (same (fun p' w hp' hw hr => by
                have h1 := (hW.ch p' hp' k (rul_mem hr).2).2.2.1
                rw [hpr] at h1; injection h1 with h1; subst h1
                have h2 : nw tx len G k = w := by
                  unfold rul at hr; rw [if_pos h6] at hr
                  have := List.find?_some hr; simpa using this
                rw [← h2, hc1] at hr; injection hr with hr; omega)) (fun post n hn => ⟨n + 2, ?_⟩)
              show wb_Md_prepared_2 (wp_Md_prepared post (n + 1)) post (nI k) σ1
              simp (disch := omega) only [wb_Md_prepared_2, z0, h58 σ1 f1, litI, n_le, n_lt, n_eq, n_in, n_cl, nI_add, n_b0, n_b1, n_v0, n_v1, n_m1, n_m1', n_m1l, n_m1l', n_m1g, n_m1ge, si_1, si_2, forall_eq, not_true_eq_false, not_false_eq_true, true_imp_iff, false_imp_iff, true_and, and_true, false_and, and_false, implies_true, ite_true, ite_false, if_true, if_false, Classical.not_not, Nat.reduceEqDiff, reduceIte, Nat.add_left_cancel_iff, Nat.add_eq_left, Nat.left_eq_add, and_self, n_sub, pk_mul, eq_false (show ¬ G.N ≤ k by omega), eq_true (show 0 < 2 by decide), eq_true (show k < 240 by omega), h63, oI, eq_false (show ¬ p < 0 by omega), eq_true (show p < 240 by omega), h59, eq_true h6]
              refine hwo _ ?_
              show wb_Md_prepared_5 (wp_Md_prepared post n) post (nI k) (nI p) (nI (nw tx len G k)) σ1
              simp (disch := omega) only [wb_Md_prepared_5, litI, n_le, n_lt, n_eq, n_in, n_cl, nI_add, n_b0, n_b1, n_v0, n_v1, n_m1, n_m1', n_m1l, n_m1l', n_m1g, n_m1ge, si_1, si_2, forall_eq, not_true_eq_false, not_false_eq_true, true_imp_iff, false_imp_iff, true_and, and_true, false_and, and_false, implies_true, ite_true, ite_false, if_true, if_false, Classical.not_not, Nat.reduceEqDiff, reduceIte, Nat.add_left_cancel_iff, Nat.add_eq_left, Nat.left_eq_add, and_self, n_sub, pk_mul, eq_false (show ¬ nw tx len G k ≤ 0 by omega), eq_true hlt, h76k, oI, Nat.zero_le]
              exact hn
        · refine Ex1_s (same (fun p' w hp' _ hr => by
            have h1 := (hW.ch p' hp' k (rul_mem hr).2).2.2.1
            rw [hpr] at h1; injection h1 with h1; subst h1
            exact h6 (rul_mem hr).1)) (fun post n hn => ⟨n + 3, ?_⟩)
          show wb_Md_prepared_2 (wp_Md_prepared post (n + 2)) post (nI k) σ1
          simp (disch := omega) only [wb_Md_prepared_2, z0, h58 σ1 f1, litI, n_le, n_lt, n_eq, n_in, n_cl, nI_add, n_b0, n_b1, n_v0, n_v1, n_m1, n_m1', n_m1l, n_m1l', n_m1g, n_m1ge, si_1, si_2, forall_eq, not_true_eq_false, not_false_eq_true, true_imp_iff, false_imp_iff, true_and, and_true, false_and, and_false, implies_true, ite_true, ite_false, if_true, if_false, Classical.not_not, Nat.reduceEqDiff, reduceIte, Nat.add_left_cancel_iff, Nat.add_eq_left, Nat.left_eq_add, and_self, n_sub, pk_mul, eq_false (show ¬ G.N ≤ k by omega), eq_true (show 0 < 2 by decide), eq_true (show k < 240 by omega), h63, oI, eq_false (show ¬ p < 0 by omega), eq_true (show p < 240 by omega), h59, eq_false h6]
          show wb_Md_prepared_4 (wp_Md_prepared post (n + 1)) post (nI k) (nI p) σ1
          show wb_Md_prepared_5 (wp_Md_prepared post n) post (nI k) (nI p) (nI 0) σ1
          simp (disch := omega) only [wb_Md_prepared_5, litI, n_le, n_lt, n_eq, n_in, n_cl, nI_add, n_b0, n_b1, n_v0, n_v1, n_m1, n_m1', n_m1l, n_m1l', n_m1g, n_m1ge, si_1, si_2, forall_eq, not_true_eq_false, not_false_eq_true, true_imp_iff, false_imp_iff, true_and, and_true, false_and, and_false, implies_true, ite_true, ite_false, if_true, if_false, Classical.not_not, Nat.reduceEqDiff, reduceIte, Nat.add_left_cancel_iff, Nat.add_eq_left, Nat.left_eq_add, and_self, n_sub, pk_mul, Nat.le_refl]
          exact hn
  -- rules are cleared
  have clr : ∀ m (σ1 : Sg) (k : Nat), 22 * G.N - k ≤ m → k ≤ 22 * G.N → Fr Qp σ0 σ1 → (∀ x, x < k → σ1.1 76 x = -nI 1) → Ex1 (fun post n => wp_Md_prepared post n 1 (nI k) 0 0 σ1) R := by
    intro m
    have fin : ∀ (σ1 : Sg), Fr Qp σ0 σ1 → (∀ x, x < 22 * G.N → σ1.1 76 x = -nI 1) → Ex1 (fun post n => wp_Md_prepared post n 1 (nI (22 * G.N)) 0 0 σ1) R := by
      intro σ1 f1 h76
      refine Ex1_s (rls _ σ1 0 (Nat.le_refl _) (by omega) f1 (fun p w hp hw => by
        rw [h76 _ (by omega)]
        unfold rlN; split
        · rfl
        · cases rul tx len G p w <;> simp [Option.filter, oI])) (fun post n hn => ⟨n + 1, ?_⟩)
      show wb_Md_prepared_1 (wp_Md_prepared post n) post (nI (22 * G.N)) σ1
      simp (disch := omega) only [wb_Md_prepared_1, z0, h58 σ1 f1, litI, n_le, n_lt, n_eq, n_in, n_cl, nI_add, n_b0, n_b1, n_v0, n_v1, n_m1, n_m1', n_m1l, n_m1l', n_m1g, n_m1ge, si_1, si_2, forall_eq, not_true_eq_false, not_false_eq_true, true_imp_iff, false_imp_iff, true_and, and_true, false_and, and_false, implies_true, ite_true, ite_false, if_true, if_false, Classical.not_not, Nat.reduceEqDiff, reduceIte, Nat.add_left_cancel_iff, Nat.add_eq_left, Nat.left_eq_add, and_self, n_sub, pk_mul, Nat.le_refl, eq_true (show 0 < 2 by decide)]
      exact hn
    induction m with
    | zero =>
      intro σ1 k hm hk f1 h76
      have e : k = 22 * G.N := by omega
      subst e; exact fin σ1 f1 h76
    | succ m ih =>
      intro σ1 k hm hk f1 h76
      rcases Nat.eq_or_lt_of_le hk with e | e
      · subst e; exact fin σ1 f1 h76
      refine Ex1_s (ih (si σ1 76 k (-nI 1)) (k + 1) (by omega) (by omega) (Fr_si f1 (Or.inr (by omega))) (fun x hx => by
        by_cases e2 : x = k
        · simp [si_1, e2]
        · simp [si_1, e2]; exact h76 x (by omega))) (fun post n hn => ⟨n + 1, ?_⟩)
      show wb_Md_prepared_1 (wp_Md_prepared post n) post (nI k) σ1
      simp (disch := omega) only [wb_Md_prepared_1, z0, h58 σ1 f1, litI, n_le, n_lt, n_eq, n_in, n_cl, nI_add, n_b0, n_b1, n_v0, n_v1, n_m1, n_m1', n_m1l, n_m1l', n_m1g, n_m1ge, si_1, si_2, forall_eq, not_true_eq_false, not_false_eq_true, true_imp_iff, false_imp_iff, true_and, and_true, false_and, and_false, implies_true, ite_true, ite_false, if_true, if_false, Classical.not_not, Nat.reduceEqDiff, reduceIte, Nat.add_left_cancel_iff, Nat.add_eq_left, Nat.left_eq_add, and_self, n_sub, pk_mul, eq_false (show ¬ 22 * G.N ≤ k by omega), eq_true (show 0 < 2 by decide), eq_true (show k < 3520 by omega), show (-1 : Int32) = -nI 1 from rfl]
      exact hn
  exact clr _ σ0 0 (Nat.le_refl _) (by omega) Fr_r (fun x hx => by omega)
end PP
