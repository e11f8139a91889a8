section PR
variable {tx : Nat → Nat} {len : Nat} {G : TG}
theorem plan_f {σ : Sg} (hf : σ.1 29 1 = nI 1) : Rv (wq_Pl_refresh σ) σ := by
  intro post hp
  refine ⟨1, ?_⟩
  show wb_Pl_refresh_0 (wp_Pl_refresh post 0) post σ
  simp (disch := omega) only [wb_Pl_refresh_0, hf, litI, n_le, n_lt, n_eq, n_in, n_cl, nI_add, n_b0, n_b1, n_v0, n_v1, n_m1, n_m1', n_m1l, n_m1l', n_m1g, n_m1ge, si_1, si_2, forall_eq, not_true_eq_false, not_false_eq_true, true_imp_iff, false_imp_iff, true_and, and_true, false_and, and_false, implies_true, ite_true, ite_false, if_true, if_false, Classical.not_not, Nat.reduceEqDiff, reduceIte, Nat.add_left_cancel_iff, Nat.add_eq_left, Nat.left_eq_add, and_self, n_sub, pk_mul, show ¬ (1 = 0) by decide]
  exact hp
theorem prp_lt (hW : WG len G) {k x : Nat} (hk : k < G.N) (h : prp tx len G k = some x) : x < G.N ∧ G.kd x = 6 := by
  unfold prp at h; split at h
  · rename_i v hv; split at h
    · rename_i h6; injection h with h; subst h; exact ⟨rul_lt hW hk hv, h6⟩
    · cases h
  · cases h
theorem plan_r {σ : Sg} (hC : CI 0 σ len tx G op0) (hW : WG len G) (hN : G.N ≤ 160) (hf : σ.1 29 1 = nI 0) : ∃ σ' L, Rv (wq_Pl_refresh σ) σ' ∧ Fr Pp σ σ' ∧ σ'.1 29 1 = nI 1 ∧ PF tx len G σ' L := by
  have h9 : σ.1 0 9 = nI G.N := hC.N
  have loop2 : ∀ m (σ1 : Sg) (k : Nat), G.N - k ≤ m → k ≤ G.N → Fr Pp σ σ1 → σ1.1 29 1 = nI 1 → (∀ j, j < G.N → σ1.1 30 j = nI (wrd tx len G j)) → (∀ j, j < k → σ1.1 31 j = oI (tgt tx len G j) ∧ σ1.1 32 j = oI (prp tx len G j)) →
      ∃ σ' L, (∀ post : Sg → Prop, post σ' → ∃ n, wp_Pl_refresh post n 2 (nI k) σ1) ∧ Fr Pp σ σ' ∧ σ'.1 29 1 = nI 1 ∧ PF tx len G σ' L := by
    intro m
    induction m with
    | zero =>
      intro σ1 k hm hk f1 h29 h30 h31
      have e : k = G.N := by omega
      subst e
      obtain ⟨σ', L, r1, r2, r3, r4⟩ := arrange (CI_Fr hC f1 (fun c k hc => by unfold Pp; omega)) hW ⟨h30, fun k hk => (h31 k hk).1, fun k hk => (h31 k hk).2⟩ hN
      refine ⟨σ', L, fun post hp => ⟨1, ?_⟩, Fr_t f1 r2, by rw [r3]; exact h29, r4⟩
      show wb_Pl_refresh_2 (wp_Pl_refresh post 0) post (nI G.N) σ1
      simp (disch := omega) only [wb_Pl_refresh_2, f1.2 0 9 (by unfold Pp; omega), h9, n_le, Nat.le_refl, not_true_eq_false, false_imp_iff, true_imp_iff, and_true]
      exact r1 _ hp
    | succ m ih =>
      intro σ1 k hm hk f1 h29 h30 h31
      have hC1 : CI 0 σ1 len tx G op0 := CI_Fr hC f1 (fun c k hc => by unfold Pp; omega)
      rcases Nat.eq_or_lt_of_le hk with e | e
      · subst e
        obtain ⟨σ', L, r1, r2, r3, r4⟩ := arrange hC1 hW ⟨h30, fun k hk => (h31 k hk).1, fun k hk => (h31 k hk).2⟩ hN
        refine ⟨σ', L, fun post hp => ⟨1, ?_⟩, Fr_t f1 r2, by rw [r3]; exact h29, r4⟩
        show wb_Pl_refresh_2 (wp_Pl_refresh post 0) post (nI G.N) σ1
        simp (disch := omega) only [wb_Pl_refresh_2, f1.2 0 9 (by unfold Pp; omega), h9, n_le, Nat.le_refl, not_true_eq_false, false_imp_iff, true_imp_iff, and_true]
        exact r1 _ hp
      · have ht := Pl_targetOf_r hC1 hW e hN h30
        let σ2 := si σ1 31 k (oI (tgt tx len G k))
        let σ3 := si σ2 32 k (oI (prp tx len G k))
        have f2 : Fr Pp σ σ2 := Fr_si f1 (Or.inr (by omega))
        have hC2 : CI 0 σ2 len tx G op0 := CI_Fr hC f2 (fun c k hc => by unfold Pp; omega)
        have h302 : ∀ j, j < G.N → σ2.1 30 j = nI (wrd tx len G j) := fun j hj => by simp only [σ2]; rw [si_c (by omega)]; exact h30 j hj
        have hcb := Pl_childBy_r (w := 12) hC2 hW e hN (by omega) (by omega) h302
        obtain ⟨σ', L, r1, r2⟩ := ih σ3 (k + 1) (by omega) (by omega) (Fr_si f2 (Or.inr (by omega))) (by simp only [σ3, σ2]; rw [si_c (by omega), si_c (by omega)]; exact h29) (fun j hj => by simp only [σ3]; rw [si_c (by omega)]; exact h302 j hj) (fun j hj => by
          by_cases e2 : j = k
          · subst e2; simp [σ3, σ2, si_1]
          · simp [σ3, σ2, si_1, e2]; exact h31 j (by omega))
        refine ⟨σ', L, fun post hp => ?_, r2⟩
        obtain ⟨n, hn⟩ := r1 post hp
        refine ⟨n + 1, ?_⟩
        show wb_Pl_refresh_2 (wp_Pl_refresh post n) post (nI k) σ1
        simp (disch := omega) only [wb_Pl_refresh_2, f1.2 0 9 (by unfold Pp; omega), h9, n_le, eq_false (show ¬ G.N ≤ k by omega), not_false_eq_true, false_imp_iff, true_imp_iff, true_and]
        refine ht _ ?_
        simp (disch := omega) only [n_in, n_cl, eq_true (show k < 160 by omega), true_and, forall_eq, litI]
        refine hcb _ ?_
        cases hr : rul tx len G k 12 with
        | none =>
          have hpr : prp tx len G k = none := by unfold prp; rw [hr]
          have es : σ3 = si σ2 32 k (-nI 1) := by simp only [σ3, hpr]; rfl
          rw [es] at hn
          simp (disch := omega) only [oI, show (-1 : Int32) = -nI 1 from rfl, litI, n_le, n_lt, n_eq, n_in, n_cl, nI_add, n_b0, n_b1, n_v0, n_v1, n_m1, n_m1', n_m1l, n_m1l', n_m1g, n_m1ge, si_1, si_2, forall_eq, not_true_eq_false, not_false_eq_true, true_imp_iff, false_imp_iff, true_and, and_true, false_and, and_false, implies_true, ite_true, ite_false, if_true, if_false, Classical.not_not, Nat.reduceEqDiff, reduceIte, Nat.add_left_cancel_iff, Nat.add_eq_left, Nat.left_eq_add, and_self, n_sub, pk_mul]
          exact hn
        | some v =>
          have hv := rul_lt hW e hr
          have hkd := hW.kd v hv
          have h1 : σ2.1 1 v = nI (G.kd v) := hC2.kd v hv (by show 0 < 2; omega)
          by_cases q : G.kd v = 6
          · have hpr : prp tx len G k = some v := by unfold prp; rw [hr]; simp [q]
            have es : σ3 = si σ2 32 k (nI v) := by simp only [σ3, hpr]; rfl
            rw [es] at hn
            clear_value σ2
            simp (disch := omega) only [oI, show (-1 : Int32) = -nI 1 from rfl, litI, n_le, n_lt, n_eq, n_in, n_cl, nI_add, n_b0, n_b1, n_v0, n_v1, n_m1, n_m1', n_m1l, n_m1l', n_m1g, n_m1ge, si_1, si_2, forall_eq, not_true_eq_false, not_false_eq_true, true_imp_iff, false_imp_iff, true_and, and_true, false_and, and_false, implies_true, ite_true, ite_false, if_true, if_false, Classical.not_not, Nat.reduceEqDiff, reduceIte, Nat.add_left_cancel_iff, Nat.add_eq_left, Nat.left_eq_add, and_self, n_sub, pk_mul, h1, eq_true q, eq_true (show v < 160 by omega)]
            exact hn
          · have hpr : prp tx len G k = none := by unfold prp; rw [hr]; simp [q]
            have es : σ3 = si σ2 32 k (-nI 1) := by simp only [σ3, hpr]; rfl
            rw [es] at hn
            clear_value σ2
            simp (disch := omega) only [oI, show (-1 : Int32) = -nI 1 from rfl, litI, n_le, n_lt, n_eq, n_in, n_cl, nI_add, n_b0, n_b1, n_v0, n_v1, n_m1, n_m1', n_m1l, n_m1l', n_m1g, n_m1ge, si_1, si_2, forall_eq, not_true_eq_false, not_false_eq_true, true_imp_iff, false_imp_iff, true_and, and_true, false_and, and_false, implies_true, ite_true, ite_false, if_true, if_false, Classical.not_not, Nat.reduceEqDiff, reduceIte, Nat.add_left_cancel_iff, Nat.add_eq_left, Nat.left_eq_add, and_self, n_sub, pk_mul, h1, eq_false q, eq_true (show v < 160 by omega)]
            exact hn
  have loop1 : ∀ m (σ1 : Sg) (k : Nat), G.N - k ≤ m → k ≤ G.N → Fr Pp σ σ1 → σ1.1 29 1 = nI 1 → (∀ j, j < k → σ1.1 30 j = nI (wrd tx len G j)) →
      ∃ σ' L, (∀ post : Sg → Prop, post σ' → ∃ n, wp_Pl_refresh post n 1 (nI k) σ1) ∧ Fr Pp σ σ' ∧ σ'.1 29 1 = nI 1 ∧ PF tx len G σ' L := by
    intro m
    induction m with
    | zero =>
      intro σ1 k hm hk f1 h29 h30
      have e : k = G.N := by omega
      subst e
      obtain ⟨σ', L, r1, r2⟩ := loop2 _ σ1 0 (Nat.le_refl _) (by omega) f1 h29 h30 (fun j hj => by omega)
      refine ⟨σ', L, fun post hp => ?_, r2⟩
      obtain ⟨n, hn⟩ := r1 post hp
      refine ⟨n + 1, ?_⟩
      show wb_Pl_refresh_1 (wp_Pl_refresh post n) post (nI G.N) σ1
      simp (disch := omega) only [wb_Pl_refresh_1, f1.2 0 9 (by unfold Pp; omega), h9, n_le, Nat.le_refl, not_true_eq_false, false_imp_iff, true_imp_iff, and_true]
      exact hn
    | succ m ih =>
      intro σ1 k hm hk f1 h29 h30
      have hC1 : CI 0 σ1 len tx G op0 := CI_Fr hC f1 (fun c k hc => by unfold Pp; omega)
      rcases Nat.eq_or_lt_of_le hk with e | e
      · subst e
        obtain ⟨σ', L, r1, r2⟩ := loop2 _ σ1 0 (Nat.le_refl _) (by omega) f1 h29 h30 (fun j hj => by omega)
        refine ⟨σ', L, fun post hp => ?_, r2⟩
        obtain ⟨n, hn⟩ := r1 post hp
        refine ⟨n + 1, ?_⟩
        show wb_Pl_refresh_1 (wp_Pl_refresh post n) post (nI G.N) σ1
        simp (disch := omega) only [wb_Pl_refresh_1, f1.2 0 9 (by unfold Pp; omega), h9, n_le, Nat.le_refl, not_true_eq_false, false_imp_iff, true_imp_iff, and_true]
        exact hn
      · obtain ⟨σ', L, r1, r2⟩ := ih (si σ1 30 k (nI (wrd tx len G k))) (k + 1) (by omega) (by omega) (Fr_si f1 (Or.inr (by omega))) (by rw [si_c (by omega)]; exact h29) (fun j hj => by
          by_cases e2 : j = k
          · subst e2; simp [si_1]
          · simp [si_1, e2]; exact h30 j (by omega))
        refine ⟨σ', L, fun post hp => ?_, r2⟩
        obtain ⟨n, hn⟩ := r1 post hp
        refine ⟨n + 1, ?_⟩
        show wb_Pl_refresh_1 (wp_Pl_refresh post n) post (nI k) σ1
        simp (disch := omega) only [wb_Pl_refresh_1, f1.2 0 9 (by unfold Pp; omega), h9, n_le, eq_false (show ¬ G.N ≤ k by omega), not_false_eq_true, false_imp_iff, true_imp_iff, true_and]
        refine Pl_wordOf_r hC1 hW e hN _ ?_
        simp (disch := omega) only [n_in, n_cl, eq_true (show k < 160 by omega), true_and, forall_eq, litI, nI_add]
        exact hn
  obtain ⟨σ', L, r1, r2⟩ := loop1 _ (si σ 29 1 (nI 1)) 0 (Nat.le_refl _) (by omega) (Fr_si Fr_r (Or.inl ⟨rfl, by omega⟩)) (by simp [si_1]) (fun j hj => by omega)
  refine ⟨σ', L, fun post hp => ?_, r2⟩
  obtain ⟨n, hn⟩ := r1 post hp
  refine ⟨n + 1, ?_⟩
  show wb_Pl_refresh_0 (wp_Pl_refresh post n) post σ
  simp (disch := omega) only [wb_Pl_refresh_0, hf, litI, n_le, n_lt, n_eq, n_in, n_cl, nI_add, n_b0, n_b1, n_v0, n_v1, n_m1, n_m1', n_m1l, n_m1l', n_m1g, n_m1ge, si_1, si_2, forall_eq, not_true_eq_false, not_false_eq_true, true_imp_iff, false_imp_iff, true_and, and_true, false_and, and_false, implies_true, ite_true, ite_false, if_true, if_false, Classical.not_not, Nat.reduceEqDiff, reduceIte, Nat.add_left_cancel_iff, Nat.add_eq_left, Nat.left_eq_add, and_self, n_sub, pk_mul]
  exact ⟨by decide +kernel, hn⟩
end PR
