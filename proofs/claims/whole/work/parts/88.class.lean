theorem si_c {σ : Sg} {a j : Nat} {v : Int32} {c : Nat} (h : c ≠ a) : (si σ a j v).1 c = σ.1 c := by unfold si; simp [h]
theorem CI_cg {b len : Nat} {tx : Nat → Nat} {σ σ' : Sg} {G : TG} {op : Nat → Nat} (h : CI b σ len tx G op) (e : ∀ c, (b ≤ c ∧ c ≤ b + 11) ∨ c = 27 ∨ c = 28 → σ'.1 c = σ.1 c) : CI b σ' len tx G op := by
  obtain ⟨t1, t2, t3⟩ := h.t
  refine ⟨⟨?_, t2, ?_⟩, ⟨?_, ?_⟩, ?_, ?_, ?_, ?_, ?_, ?_, ?_, ?_, ?_, ?_, ?_⟩
  · rw [e _ (by omega)]; exact t1
  · intro k hk; rw [e _ (by omega)]; exact t3 k hk
  · rw [e _ (by omega)]; exact h.w.1
  · rw [e _ (by omega)]; exact h.w.2
  · rw [e _ (by omega)]; exact h.N
  · rw [e _ (by omega)]; exact h.F
  · rw [e _ (by omega)]; exact h.fl
  · rw [e _ (by omega)]; exact h.kd
  · rw [e _ (by omega)]; exact h.fr
  · rw [e _ (by omega)]; exact h.en
  · rw [e _ (by omega)]; exact h.pr
  · rw [e _ (by omega)]; exact h.mn
  · rw [e _ (by omega)]; exact h.nm
  · rw [e _ (by omega)]; exact h.nu
  · rw [e _ (by omega)]; exact h.ch
theorem CI_ca {b len a : Nat} {tx : Nat → Nat} {σ : Sg} {G : TG} {op : Nat → Nat} (hb : b = 0 ∨ b = 13) (h : CI b σ len tx G op) : CI b (ca b σ a) len tx G op :=
  CI_cg h (fun c hc => si_c (by omega))
theorem WB_si {σ : Sg} {a j : Nat} {v : Int32} (h : WB σ) (h1 : a ≠ 27) (h2 : a ≠ 28) : WB (si σ a j v) := ⟨by rw [si_c (Ne.symm h1)]; exact h.1, by rw [si_c (Ne.symm h2)]; exact h.2⟩
theorem CI_bl {b len v : Nat} {tx : Nat → Nat} {σ : Sg} {G : TG} {op : Nat → Nat} (hb : b = 0 ∨ b = 13) (h : CI b σ len tx G op) : CI b (bl b σ G.F v) len tx (gF G v) op := by
  unfold bl
  refine ⟨?_, ?_, ?_, ?_, ?_, ?_, ?_, ?_, ?_, ?_, ?_, ?_, ?_⟩
  · exact Tx_si (Tx_si h.t (by omega) (by omega)) (by omega) (by omega)
  · exact WB_si (WB_si h.w (by omega) (by omega)) (by omega) (by omega)
  · simp [si_1, h.N, gF, mkT_N, mkT_F, mkT_fl, mkT_kd, mkT_fr, mkT_en, mkT_pr, mkT_nm, mkT_nu, mkT_K, mkT_lv]
  · simp [si_1, gF, mkT_N, mkT_F, mkT_fl, mkT_kd, mkT_fr, mkT_en, mkT_pr, mkT_nm, mkT_nu, mkT_K, mkT_lv]
  · intro j hj
    simp only [gF, litI, n_le, n_lt, n_eq, n_in, n_cl, nI_add, n_b0, n_b1, n_v0, n_v1, n_m1, n_m1', n_m1l, n_m1l', n_m1g, n_m1ge, si_1, si_2, forall_eq, not_true_eq_false, not_false_eq_true, true_imp_iff, false_imp_iff, true_and, and_true, false_and, and_false, implies_true, ite_true, ite_false, if_true, if_false, Classical.not_not, Nat.reduceEqDiff, reduceIte, Nat.add_left_cancel_iff, Nat.add_eq_left, Nat.left_eq_add, and_self, n_sub, pk_mul, mkT_N, mkT_F, mkT_fl, mkT_kd, mkT_fr, mkT_en, mkT_pr, mkT_nm, mkT_nu, mkT_K, mkT_lv] at hj ⊢
    by_cases e : j = G.F
    · simp [e]
    · simp only [e, litI, n_le, n_lt, n_eq, n_in, n_cl, nI_add, n_b0, n_b1, n_v0, n_v1, n_m1, n_m1', n_m1l, n_m1l', n_m1g, n_m1ge, si_1, si_2, forall_eq, not_true_eq_false, not_false_eq_true, true_imp_iff, false_imp_iff, true_and, and_true, false_and, and_false, implies_true, ite_true, ite_false, if_true, if_false, Classical.not_not, Nat.reduceEqDiff, reduceIte, Nat.add_left_cancel_iff, Nat.add_eq_left, Nat.left_eq_add, and_self, n_sub, pk_mul]; exact h.fl j (by omega)
  all_goals first | (rw [si_c (by omega), si_c (by omega)]) | skip
  · exact h.kd
  · exact h.fr
  · exact h.en
  · exact h.pr
  · exact h.mn
  · exact h.nm
  · exact h.nu
  · exact h.ch
def opO (b : Nat) (σ : Sg) (G : TG) (kd fr : Nat) : Option Nat → Option Nat → Sg
  | none, nm => opn b σ G.N kd fr (-nI 1) (oI nm)
  | some p, nm => si (opn b σ G.N kd fr (nI p) (oI nm)) (b + 5) p (nI ((G.K p).length + 1))
theorem Tr_open_o {b len : Nat} {tx : Nat → Nat} {σ : Sg} {G : TG} {op : Nat → Nat} {kd fr : Nat} {pr nm : Option Nat} (h : CI b σ len tx G op) (hN : G.N < tl b) (hp : ∀ p, pr = some p → p < G.N) (post : Int32 → Sg → Prop) : wq_Tr_open b (nI kd) (nI fr) (oI pr) (oI nm) σ post ↔ post (nI G.N) (opO b σ G kd fr pr nm) := by
  cases pr with
  | none => exact Tr_open_n h.N hN post
  | some p => exact Tr_open_p h.N hN (hp p rfl) (h.mn p (hp p rfl)) post
/-- an open one is new -/
theorem CI_open {b len kd kd2 fr en : Nat} {tx : Nat → Nat} {σ : Sg} {G : TG} {op op2 : Nat → Nat} {pr nm : Option Nat} {nu : Int32} (hb : b = 0 ∨ b = 13) (h : CI b σ len tx G op)
    (ho : ∀ k, k < G.N → op2 k = op k) (ho2 : op2 G.N = 2 ∨ (op2 G.N = 1 ∧ kd2 = kd ∧ nu = nI 0)) (hp : ∀ p, pr = some p → p < G.N ∧ chE (σ.1 (b + 8)) (nI (p + 1)) (G.K p) = nI G.N) :
    CI b (opO b σ G kd fr pr nm) len tx (gN G kd2 fr en pr nm nu) op2 := by
  have cell : ∀ c, (opO b σ G kd fr pr nm).1 c = if c = b + 5 then (fun k => if pr = some k then nI ((G.K k).length + 1) else (opn b σ G.N kd fr (oI pr) (oI nm)).1 (b + 5) k) else (opn b σ G.N kd fr (oI pr) (oI nm)).1 c := by
    intro c
    cases pr with
    | none => by_cases e : c = b + 5 <;> simp [e, oI, opO]
    | some p =>
      by_cases e : c = b + 5
      · subst e; funext k; by_cases e2 : k = p
        · subst e2; simp [si_1, opO]
        · simp [si_1, opO, e2, show ¬ p = k from fun q => e2 q.symm, oI]
      · simp only [e, if_false, opO]; rw [si_c e]; rfl
  refine ⟨?_, ?_, ?_, ?_, ?_, ?_, ?_, ?_, ?_, ?_, ?_, ?_, ?_⟩
  · obtain ⟨t1, t2, t3⟩ := h.t
    refine ⟨?_, t2, ?_⟩
    · rw [cell]; simp [opn, si_1, t1]
    · intro k hk; rw [cell]; simp [opn, si_1]; exact t3 k hk
  · refine ⟨?_, ?_⟩
    · rw [cell, if_neg (by omega)]; unfold opn; repeat rw [si_c (by omega)]
      exact h.w.1
    · rw [cell, if_neg (by omega)]; unfold opn; repeat rw [si_c (by omega)]
      exact h.w.2
  · rw [cell]; simp [opn, si_1, gN, mkT_N, mkT_F, mkT_fl, mkT_kd, mkT_fr, mkT_en, mkT_pr, mkT_nm, mkT_nu, mkT_K, mkT_lv]
  · rw [cell]; simp [opn, si_1, gN, h.F, mkT_N, mkT_F, mkT_fl, mkT_kd, mkT_fr, mkT_en, mkT_pr, mkT_nm, mkT_nu, mkT_K, mkT_lv]
  · intro j hj; rw [cell]; simp [opn, si_1, gN, mkT_N, mkT_F, mkT_fl, mkT_kd, mkT_fr, mkT_en, mkT_pr, mkT_nm, mkT_nu, mkT_K, mkT_lv]; exact h.fl j hj
  · intro k hk hk2; rw [cell]; simp [opn, si_1, gN, mkT_N, mkT_F, mkT_fl, mkT_kd, mkT_fr, mkT_en, mkT_pr, mkT_nm, mkT_nu, mkT_K, mkT_lv] at hk ⊢
    by_cases e : k = G.N
    · subst e; simp; rcases ho2 with q | q
      · omega
      · rw [q.2.1]
    · simp [e]; exact h.kd k (by omega) (by rw [← ho k (by omega)]; exact hk2)
  · intro k hk; rw [cell]; simp [opn, si_1, gN, mkT_N, mkT_F, mkT_fl, mkT_kd, mkT_fr, mkT_en, mkT_pr, mkT_nm, mkT_nu, mkT_K, mkT_lv] at hk ⊢
    by_cases e : k = G.N
    · simp [e]
    · simp [e]; exact h.fr k (by omega)
  · intro k hk hk2; rw [cell]; simp [opn, si_1, gN, mkT_N, mkT_F, mkT_fl, mkT_kd, mkT_fr, mkT_en, mkT_pr, mkT_nm, mkT_nu, mkT_K, mkT_lv] at hk ⊢
    by_cases e : k = G.N
    · subst e; omega
    · simp [e]; exact h.en k (by omega) (by rw [← ho k (by omega)]; exact hk2)
  · intro k hk; rw [cell]; simp [opn, si_1, gN, mkT_N, mkT_F, mkT_fl, mkT_kd, mkT_fr, mkT_en, mkT_pr, mkT_nm, mkT_nu, mkT_K, mkT_lv] at hk ⊢
    by_cases e : k = G.N
    · simp [e]
    · simp [e]; exact h.pr k (by omega)
  · intro k hk; rw [cell]; simp [opn, si_1, gN, mkT_N, mkT_F, mkT_fl, mkT_kd, mkT_fr, mkT_en, mkT_pr, mkT_nm, mkT_nu, mkT_K, mkT_lv] at hk ⊢
    by_cases e : k = G.N
    · subst e
      cases pr with
      | none => simp
      | some p => have := (hp p rfl).1; simp [show ¬ p = G.N by omega]
    · have h0 := h.mn k (by omega)
      cases pr with
      | none => simp [e]; exact h0
      | some p =>
        by_cases e2 : k = p
        · subst e2; simp [e]
        · simp [e, e2, show ¬ p = k from fun q => e2 q.symm]; exact h0
  · intro k hk; rw [cell]; simp [opn, si_1, gN, mkT_N, mkT_F, mkT_fl, mkT_kd, mkT_fr, mkT_en, mkT_pr, mkT_nm, mkT_nu, mkT_K, mkT_lv] at hk ⊢
    by_cases e : k = G.N
    · simp [e]
    · simp [e]; exact h.nm k (by omega)
  · intro k hk hk2; rw [cell]; simp [opn, si_1, gN, mkT_N, mkT_F, mkT_fl, mkT_kd, mkT_fr, mkT_en, mkT_pr, mkT_nm, mkT_nu, mkT_K, mkT_lv] at hk ⊢
    by_cases e : k = G.N
    · subst e; simp; rcases ho2 with q | q
      · omega
      · rw [q.2.2]
    · simp [e]; exact h.nu k (by omega) (by rw [← ho k (by omega)]; exact hk2)
  · intro k hk
    have e8 : (opO b σ G kd fr pr nm).1 (b + 8) = σ.1 (b + 8) := by
      rw [cell, if_neg (by omega)]; unfold opn; repeat rw [si_c (by omega)]
    rw [e8]
    simp [gN, mkT_N, mkT_F, mkT_fl, mkT_kd, mkT_fr, mkT_en, mkT_pr, mkT_nm, mkT_nu, mkT_K, mkT_lv] at hk ⊢
    by_cases e : k = G.N
    · simp [e, chB]
    · have h0 := h.ch k (by omega)
      simp [e]
      cases pr with
      | none => simp; exact h0
      | some p =>
        by_cases e2 : p = k
        · subst e2; simp; exact chB_app _ _ h0 (hp p rfl).2
        · simp [e2]; exact h0
/-- it is closed -/
theorem CI_close {b len k a : Nat} {tx : Nat → Nat} {σ : Sg} {G : TG} {op op2 : Nat → Nat} (hb : b = 0 ∨ b = 13) (h : CI b σ len tx G op) (ho : ∀ j, j ≠ k → op2 j = op j)
    (hk : op k < 2 ∨ (σ.1 (b + 1) k = nI (G.kd k) ∧ σ.1 (b + 7) k = G.nu k)) (hl : ∀ j, j < G.N → ∀ c ∈ (G.K j).dropLast, c ≠ k) :
    CI b (si (si σ (b + 3) k (nI a)) (b + 8) k (nI G.N)) len tx (gC G k a) op2 := by
  refine ⟨?_, ?_, ?_, ?_, ?_, ?_, ?_, ?_, ?_, ?_, ?_, ?_, ?_⟩
  · exact Tx_si (Tx_si h.t (by omega) (by omega)) (by omega) (by omega)
  · exact WB_si (WB_si h.w (by omega) (by omega)) (by omega) (by omega)
  · simp [si_1, h.N, gC, mkT_N, mkT_F, mkT_fl, mkT_kd, mkT_fr, mkT_en, mkT_pr, mkT_nm, mkT_nu, mkT_K, mkT_lv]
  · simp [si_1, h.F, gC, mkT_N, mkT_F, mkT_fl, mkT_kd, mkT_fr, mkT_en, mkT_pr, mkT_nm, mkT_nu, mkT_K, mkT_lv]
  · rw [si_c (by omega), si_c (by omega)]; exact h.fl
  · rw [si_c (by omega), si_c (by omega)]; intro j hj h2
    by_cases e : j = k
    · subst e; rcases hk with q | q
      · exact h.kd j hj q
      · exact q.1
    · exact h.kd j hj (by rw [← ho j e]; exact h2)
  · rw [si_c (by omega), si_c (by omega)]; exact h.fr
  · intro j hj h2
    simp [si_1, gC, mkT_N, mkT_F, mkT_fl, mkT_kd, mkT_fr, mkT_en, mkT_pr, mkT_nm, mkT_nu, mkT_K, mkT_lv]
    by_cases e : j = k
    · simp [e]
    · simp [e]; exact h.en j hj (by rw [← ho j e]; exact h2)
  · rw [si_c (by omega), si_c (by omega)]; exact h.pr
  · rw [si_c (by omega), si_c (by omega)]; exact h.mn
  · rw [si_c (by omega), si_c (by omega)]; exact h.nm
  · rw [si_c (by omega), si_c (by omega)]; intro j hj h2
    by_cases e : j = k
    · subst e; rcases hk with q | q
      · exact h.nu j hj q
      · exact q.2
    · exact h.nu j hj (by rw [← ho j e]; exact h2)
  · intro j hj
    have e8 : (si (si σ (b + 3) k (nI a)) (b + 8) k (nI G.N)).1 (b + 8) = fun j => if j = k then nI G.N else σ.1 (b + 8) j := by
      funext j; simp [si_1]
    rw [e8]
    exact chB_up _ _ (hl j hj) (h.ch j hj)
