theorem Md_begin_p {t len : Nat} {tx : Nat → Nat} {σ : Sg} (hT : TM t σ len tx) {N a d p c : Nat} {nm ne : Int32} (hN : σ.1 58 t = nI N) (h : 160 * t + N < 240) (ha : σ.1 54 19 = nI a) (hd : σ.1 54 20 = nI d) (hd1 : 1 ≤ d) (hd9 : d ≤ 9) (hh : σ.1 72 (d - 1) = nI (160 * t + p)) (hp : p < N) (hc : σ.1 64 (160 * t + p) = nI c) (hcc : c < 240) (ls : Nat) (hls : 0 < c → ls < N ∧ σ.1 73 (d - 1) = nI (160 * t + ls)) :
    Ri (wq_Md_begin nm ne σ) (nI (160 * t + N)) (si (si (if c = 0 then si (bgn t σ N a nm ne (nI (160 * t + p))) 65 (160 * t + p) (nI (160 * t + N)) else si (bgn t σ N a nm ne (nI (160 * t + p))) 66 (160 * t + ls) (nI (160 * t + N))) 73 (d - 1) (nI (160 * t + N))) 64 (160 * t + p) (nI (c + 1))) := by
  obtain ⟨h0, h1, -⟩ := hT
  have e1 : ¬ 160 * t + p = 160 * t + N := by omega
  have e2 : 160 * t + p < 240 := by omega
  have e3 : ¬ d ≤ 0 := by omega
  have e4 : d - 1 < 9 := by omega
  have e5 : ¬ p = N := by omega
  have e6 : ¬ d = 0 := by omega
  intro post hq
  refine ⟨3, ?_⟩
  by_cases e : c = 0
  · rw [if_pos e] at hq
    simp (disch := omega) [wp_Md_begin, wb_Md_begin_0, wb_Md_begin_1, wb_Md_begin_2, hN, h1, h0, ha, hd, litI, n_le, n_lt, n_eq, n_in, n_cl, nI_add, n_b0, n_b1, n_v0, n_v1, n_m1, n_m1', n_m1l, n_m1l', n_m1g, n_m1ge, si_1, si_2, forall_eq, not_true_eq_false, not_false_eq_true, true_imp_iff, false_imp_iff, true_and, and_true, false_and, and_false, implies_true, ite_true, ite_false, if_true, if_false, Classical.not_not, Nat.reduceEqDiff, reduceIte, Nat.add_left_cancel_iff, Nat.add_eq_left, Nat.left_eq_add, and_self, n_sub, pk_mul, h, e3, e4, hh, e5, e2, hc, e, e6]
    subst e
    exact fun _ => hq
  · rw [if_neg e] at hq
    obtain ⟨h7, h8⟩ := hls (by omega)
    have h9 : 160 * t + ls < 240 := by omega
    simp (disch := omega) [wp_Md_begin, wb_Md_begin_0, wb_Md_begin_1, wb_Md_begin_2, hN, h1, h0, ha, hd, litI, n_le, n_lt, n_eq, n_in, n_cl, nI_add, n_b0, n_b1, n_v0, n_v1, n_m1, n_m1', n_m1l, n_m1l', n_m1g, n_m1ge, si_1, si_2, forall_eq, not_true_eq_false, not_false_eq_true, true_imp_iff, false_imp_iff, true_and, and_true, false_and, and_false, implies_true, ite_true, ite_false, if_true, if_false, Classical.not_not, Nat.reduceEqDiff, reduceIte, Nat.add_left_cancel_iff, Nat.add_eq_left, Nat.left_eq_add, and_self, n_sub, pk_mul, h, e3, e4, hh, e5, e2, hc, e, e6, h8, h9]
    exact fun _ => hq
/-- two words are the same -/
abbrev eqn (tx : Nat → Nat) (f e : Nat) (tx1 : Nat → Nat) (g e1 : Nat) : Prop := e - f = e1 - g ∧ ∀ j, j < e - f → tx (f + j) = tx1 (g + j)
theorem Tx_sameQuoted_r {b b1 len len1 : Nat} {tx tx1 : Nat → Nat} {σ : Sg} (hT : Tx b σ len tx) (hT1 : Tx b1 σ len1 tx1) {f e g e1 : Nat} (hs : Sp (fun c => c ≠ 34) tx len f e) (hs1 : Sp (fun c => c ≠ 34) tx1 len1 g e1) : Ri (wq_Tx_sameQuoted b b1 (nI f) (nI g) σ) (nI (bI (eqn tx f e tx1 g e1))) σ := by
  obtain ⟨h1, h2, h3⟩ := hT
  obtain ⟨k1, k2, k3⟩ := hT1
  obtain ⟨s1, s2, s3, s4⟩ := hs
  obtain ⟨r1, r2, r3, r4⟩ := hs1
  have h4 := tl_le b
  have k4 := tl_le b1
  intro post hp
  unfold wq_Tx_sameQuoted
  refine ex_s ?_
  show ∃ n, wp_Tx_sameQuoted b b1 post n 1 (nI f) (nI g) (0 : Int32) 0 0 σ
  -- the block for this text, and for the other
  have B1 : ∀ k, f + k < e → ∀ n, wp_Tx_sameQuoted b b1 post (n + 1) 1 (nI f) (nI g) (nI k) 0 0 σ ↔ wp_Tx_sameQuoted b b1 post n 3 (nI f) (nI g) (nI k) (nI 0) 0 σ := by
    intro k hk n
    have q1 := h3 (f + k) (by omega)
    have q2 := s3 (f + k) (by omega) hk
    have q3 : f + k < tl b := by omega
    simp (disch := omega) only [wp_Tx_sameQuoted, wb_Tx_sameQuoted_1, h1, litI, n_le, n_lt, n_eq, n_in, n_cl, nI_add, n_b0, n_b1, n_v0, n_v1, n_m1, n_m1', n_m1l, n_m1l', n_m1g, n_m1ge, si_1, si_2, forall_eq, not_true_eq_false, not_false_eq_true, true_imp_iff, false_imp_iff, true_and, and_true, false_and, and_false, implies_true, ite_true, ite_false, if_true, if_false, Classical.not_not, Nat.reduceEqDiff, reduceIte, Nat.add_left_cancel_iff, Nat.add_eq_left, Nat.left_eq_add, and_self, n_sub, pk_mul, q1.1, eq_false (show ¬ tx (f + k) = 34 from q2), eq_true q3, eq_false (show ¬ len < k by omega), eq_false (show ¬ len ≤ f + k by omega)]
  have B1e : ∀ k, f + k = e → ∀ n, wp_Tx_sameQuoted b b1 post (n + 2) 1 (nI f) (nI g) (nI k) 0 0 σ ↔ wp_Tx_sameQuoted b b1 post n 3 (nI f) (nI g) (nI k) (nI 1) 0 σ := by
    intro k hk n
    by_cases hl : e < len
    · have q1 := h3 (f + k) (by omega)
      have q2 : tx (f + k) = 34 := by rw [hk]; exact Classical.byContradiction (s4 hl)
      have q3 : f + k < tl b := by omega
      simp (disch := omega) only [wp_Tx_sameQuoted, wb_Tx_sameQuoted_1, wb_Tx_sameQuoted_2, h1, litI, n_le, n_lt, n_eq, n_in, n_cl, nI_add, n_b0, n_b1, n_v0, n_v1, n_m1, n_m1', n_m1l, n_m1l', n_m1g, n_m1ge, si_1, si_2, forall_eq, not_true_eq_false, not_false_eq_true, true_imp_iff, false_imp_iff, true_and, and_true, false_and, and_false, implies_true, ite_true, ite_false, if_true, if_false, Classical.not_not, Nat.reduceEqDiff, reduceIte, Nat.add_left_cancel_iff, Nat.add_eq_left, Nat.left_eq_add, and_self, n_sub, pk_mul, q1.1, eq_true q2, eq_true q3, eq_false (show ¬ len < k by omega), eq_false (show ¬ len ≤ f + k by omega)]
    · simp (disch := omega) only [wp_Tx_sameQuoted, wb_Tx_sameQuoted_1, wb_Tx_sameQuoted_2, h1, litI, n_le, n_lt, n_eq, n_in, n_cl, nI_add, n_b0, n_b1, n_v0, n_v1, n_m1, n_m1', n_m1l, n_m1l', n_m1g, n_m1ge, si_1, si_2, forall_eq, not_true_eq_false, not_false_eq_true, true_imp_iff, false_imp_iff, true_and, and_true, false_and, and_false, implies_true, ite_true, ite_false, if_true, if_false, Classical.not_not, Nat.reduceEqDiff, reduceIte, Nat.add_left_cancel_iff, Nat.add_eq_left, Nat.left_eq_add, and_self, n_sub, pk_mul, eq_false (show ¬ len < k by omega), eq_true (show len ≤ f + k by omega)]
  have B3 : ∀ k x, g + k < e1 → ∀ n, wp_Tx_sameQuoted b b1 post (n + 1) 3 (nI f) (nI g) (nI k) x 0 σ ↔ wp_Tx_sameQuoted b b1 post n 5 (nI f) (nI g) (nI k) x (nI 0) σ := by
    intro k x hk n
    have q1 := k3 (g + k) (by omega)
    have q2 := r3 (g + k) (by omega) hk
    have q3 : g + k < tl b1 := by omega
    simp (disch := omega) only [wp_Tx_sameQuoted, wb_Tx_sameQuoted_3, k1, litI, n_le, n_lt, n_eq, n_in, n_cl, nI_add, n_b0, n_b1, n_v0, n_v1, n_m1, n_m1', n_m1l, n_m1l', n_m1g, n_m1ge, si_1, si_2, forall_eq, not_true_eq_false, not_false_eq_true, true_imp_iff, false_imp_iff, true_and, and_true, false_and, and_false, implies_true, ite_true, ite_false, if_true, if_false, Classical.not_not, Nat.reduceEqDiff, reduceIte, Nat.add_left_cancel_iff, Nat.add_eq_left, Nat.left_eq_add, and_self, n_sub, pk_mul, q1.1, eq_false (show ¬ tx1 (g + k) = 34 from q2), eq_true q3, eq_false (show ¬ len1 ≤ g + k by omega)]
  have B3e : ∀ k x, g + k = e1 → ∀ n, wp_Tx_sameQuoted b b1 post (n + 2) 3 (nI f) (nI g) (nI k) x 0 σ ↔ wp_Tx_sameQuoted b b1 post n 5 (nI f) (nI g) (nI k) x (nI 1) σ := by
    intro k x hk n
    by_cases hl : e1 < len1
    · have q1 := k3 (g + k) (by omega)
      have q2 : tx1 (g + k) = 34 := by rw [hk]; exact Classical.byContradiction (r4 hl)
      have q3 : g + k < tl b1 := by omega
      simp (disch := omega) only [wp_Tx_sameQuoted, wb_Tx_sameQuoted_3, wb_Tx_sameQuoted_4, k1, litI, n_le, n_lt, n_eq, n_in, n_cl, nI_add, n_b0, n_b1, n_v0, n_v1, n_m1, n_m1', n_m1l, n_m1l', n_m1g, n_m1ge, si_1, si_2, forall_eq, not_true_eq_false, not_false_eq_true, true_imp_iff, false_imp_iff, true_and, and_true, false_and, and_false, implies_true, ite_true, ite_false, if_true, if_false, Classical.not_not, Nat.reduceEqDiff, reduceIte, Nat.add_left_cancel_iff, Nat.add_eq_left, Nat.left_eq_add, and_self, n_sub, pk_mul, q1.1, eq_true q2, eq_true q3, eq_false (show ¬ len1 ≤ g + k by omega)]
    · simp (disch := omega) only [wp_Tx_sameQuoted, wb_Tx_sameQuoted_3, wb_Tx_sameQuoted_4, k1, litI, n_le, n_lt, n_eq, n_in, n_cl, nI_add, n_b0, n_b1, n_v0, n_v1, n_m1, n_m1', n_m1l, n_m1l', n_m1g, n_m1ge, si_1, si_2, forall_eq, not_true_eq_false, not_false_eq_true, true_imp_iff, false_imp_iff, true_and, and_true, false_and, and_false, implies_true, ite_true, ite_false, if_true, if_false, Classical.not_not, Nat.reduceEqDiff, reduceIte, Nat.add_left_cancel_iff, Nat.add_eq_left, Nat.left_eq_add, and_self, n_sub, pk_mul, eq_true (show len1 ≤ g + k by omega)]
  have key : ∀ d k, e - f - k = d → f + k ≤ e → g + k ≤ e1 → (∀ j, j < k → tx (f + j) = tx1 (g + j)) → ∃ n, wp_Tx_sameQuoted b b1 post n 1 (nI f) (nI g) (nI k) 0 0 σ := by
    intro d
    induction d with
    | zero =>
      intro k hd hk hk1 hj
      have hke : f + k = e := by omega
      by_cases hg : g + k = e1
      · rw [bI_t ⟨by omega, fun j hj' => hj j (by omega)⟩] at hp
        refine ⟨5, ?_⟩
        rw [B1e k hke, B3e k _ hg]
        simp (disch := omega) only [wp_Tx_sameQuoted, wb_Tx_sameQuoted_5, litI, n_le, n_lt, n_eq, n_in, n_cl, nI_add, n_b0, n_b1, n_v0, n_v1, n_m1, n_m1', n_m1l, n_m1l', n_m1g, n_m1ge, si_1, si_2, forall_eq, not_true_eq_false, not_false_eq_true, true_imp_iff, false_imp_iff, true_and, and_true, false_and, and_false, implies_true, ite_true, ite_false, if_true, if_false, Classical.not_not, Nat.reduceEqDiff, reduceIte, Nat.add_left_cancel_iff, Nat.add_eq_left, Nat.left_eq_add, and_self, n_sub, pk_mul, show ¬ (1 = 0) by decide]
        exact hp
      · rw [bI_f (fun h => by have := h.1; omega)] at hp
        refine ⟨4, ?_⟩
        rw [B1e k hke, B3 k _ (by omega)]
        simp (disch := omega) only [wp_Tx_sameQuoted, wb_Tx_sameQuoted_5, litI, n_le, n_lt, n_eq, n_in, n_cl, nI_add, n_b0, n_b1, n_v0, n_v1, n_m1, n_m1', n_m1l, n_m1l', n_m1g, n_m1ge, si_1, si_2, forall_eq, not_true_eq_false, not_false_eq_true, true_imp_iff, false_imp_iff, true_and, and_true, false_and, and_false, implies_true, ite_true, ite_false, if_true, if_false, Classical.not_not, Nat.reduceEqDiff, reduceIte, Nat.add_left_cancel_iff, Nat.add_eq_left, Nat.left_eq_add, and_self, n_sub, pk_mul, show ¬ (1 = 0) by decide]
        exact hp
    | succ d ih =>
      intro k hd hk hk1 hj
      have hke : f + k < e := by omega
      by_cases hg : g + k = e1
      · rw [bI_f (fun h => by have := h.1; omega)] at hp
        refine ⟨4, ?_⟩
        rw [B1 k hke, B3e k _ hg]
        simp (disch := omega) only [wp_Tx_sameQuoted, wb_Tx_sameQuoted_5, litI, n_le, n_lt, n_eq, n_in, n_cl, nI_add, n_b0, n_b1, n_v0, n_v1, n_m1, n_m1', n_m1l, n_m1l', n_m1g, n_m1ge, si_1, si_2, forall_eq, not_true_eq_false, not_false_eq_true, true_imp_iff, false_imp_iff, true_and, and_true, false_and, and_false, implies_true, ite_true, ite_false, if_true, if_false, Classical.not_not, Nat.reduceEqDiff, reduceIte, Nat.add_left_cancel_iff, Nat.add_eq_left, Nat.left_eq_add, and_self, n_sub, pk_mul, show ¬ (1 = 0) by decide]
        exact hp
      · have q1 := h3 (f + k) (by omega)
        have q2 := k3 (g + k) (by omega)
        have q3 : f + k < tl b := by omega
        have q4 : g + k < tl b1 := by omega
        by_cases hq : tx (f + k) = tx1 (g + k)
        · obtain ⟨n, hn⟩ := ih (k + 1) (by omega) (by omega) (by omega) (fun j hj' => by
            rcases Nat.lt_or_ge j k with h | h
            · exact hj j h
            · have : j = k := by omega
              subst this; exact hq)
          refine ⟨n + 3, ?_⟩
          rw [B1 k hke, B3 k _ (by omega)]
          simp (disch := omega) only [wp_Tx_sameQuoted, wb_Tx_sameQuoted_5, litI, n_le, n_lt, n_eq, n_in, n_cl, nI_add, n_b0, n_b1, n_v0, n_v1, n_m1, n_m1', n_m1l, n_m1l', n_m1g, n_m1ge, si_1, si_2, forall_eq, not_true_eq_false, not_false_eq_true, true_imp_iff, false_imp_iff, true_and, and_true, false_and, and_false, implies_true, ite_true, ite_false, if_true, if_false, Classical.not_not, Nat.reduceEqDiff, reduceIte, Nat.add_left_cancel_iff, Nat.add_eq_left, Nat.left_eq_add, and_self, n_sub, pk_mul, q1.1, q2.1, eq_true q3, eq_true q4, eq_true hq]
          exact hn
        · rw [bI_f (fun h => hq (h.2 k (by omega)))] at hp
          refine ⟨3, ?_⟩
          rw [B1 k hke, B3 k _ (by omega)]
          simp (disch := omega) only [wp_Tx_sameQuoted, wb_Tx_sameQuoted_5, litI, n_le, n_lt, n_eq, n_in, n_cl, nI_add, n_b0, n_b1, n_v0, n_v1, n_m1, n_m1', n_m1l, n_m1l', n_m1g, n_m1ge, si_1, si_2, forall_eq, not_true_eq_false, not_false_eq_true, true_imp_iff, false_imp_iff, true_and, and_true, false_and, and_false, implies_true, ite_true, ite_false, if_true, if_false, Classical.not_not, Nat.reduceEqDiff, reduceIte, Nat.add_left_cancel_iff, Nat.add_eq_left, Nat.left_eq_add, and_self, n_sub, pk_mul, q1.1, q2.1, eq_true q3, eq_true q4, eq_false hq]
          exact hp
  exact key _ 0 rfl (by omega) (by omega) (fun j hj => by omega)
theorem Md_same_r {σ : Sg} {A Ae B Be : Nat} {u v : Nat → Nat} (hA : A ≤ Ae) (hB : B ≤ Be) (hAe : Ae ≤ 240) (hBe : Be ≤ 240) (hu : ∀ j, j < Ae - A → σ.1 56 (A + j) = nI (u j) ∧ u j ≤ 126) (hv : ∀ j, j < Be - B → σ.1 56 (B + j) = nI (v j) ∧ v j ≤ 126) : Ri (wq_Md_same (nI A) (nI Ae) (nI B) (nI Be) σ) (nI (bI (Ae - A = Be - B ∧ ∀ j, j < Ae - A → u j = v j))) σ := by
  intro post hp
  unfold wq_Md_same
  refine ex_s ?_
  by_cases he : Ae - A = Be - B
  · simp (disch := omega) only [wp_Md_same, wb_Md_same_0, litI, n_le, n_lt, n_eq, n_in, n_cl, nI_add, n_b0, n_b1, n_v0, n_v1, n_m1, n_m1', n_m1l, n_m1l', n_m1g, n_m1ge, si_1, si_2, forall_eq, not_true_eq_false, not_false_eq_true, true_imp_iff, false_imp_iff, true_and, and_true, false_and, and_false, implies_true, ite_true, ite_false, if_true, if_false, Classical.not_not, Nat.reduceEqDiff, reduceIte, Nat.add_left_cancel_iff, Nat.add_eq_left, Nat.left_eq_add, and_self, n_sub, pk_mul, eq_true he]
    have key : ∀ d k, Ae - A - k = d → k ≤ Ae - A → (∀ j, j < k → u j = v j) → ∃ n, wp_Md_same post n 1 (nI A) (nI Ae) (nI B) (nI 0) (nI 1) (nI k) σ := by
      intro d
      induction d with
      | zero =>
        intro k hd hk hj
        rw [bI_t ⟨he, fun j hj' => hj j (by omega)⟩] at hp
        refine ⟨1, ?_⟩
        simp (disch := omega) only [wp_Md_same, wb_Md_same_1, litI, n_le, n_lt, n_eq, n_in, n_cl, nI_add, n_b0, n_b1, n_v0, n_v1, n_m1, n_m1', n_m1l, n_m1l', n_m1g, n_m1ge, si_1, si_2, forall_eq, not_true_eq_false, not_false_eq_true, true_imp_iff, false_imp_iff, true_and, and_true, false_and, and_false, implies_true, ite_true, ite_false, if_true, if_false, Classical.not_not, Nat.reduceEqDiff, reduceIte, Nat.add_left_cancel_iff, Nat.add_eq_left, Nat.left_eq_add, and_self, n_sub, pk_mul, eq_true (show Ae - A ≤ k by omega)]
        exact hp
      | succ d ih =>
        intro k hd hk hj
        have q1 := hu k (by omega)
        have q2 := hv k (by omega)
        by_cases hq : u k = v k
        · refine ex_s ?_
          simp (disch := omega) only [wp_Md_same, wb_Md_same_1, litI, n_le, n_lt, n_eq, n_in, n_cl, nI_add, n_b0, n_b1, n_v0, n_v1, n_m1, n_m1', n_m1l, n_m1l', n_m1g, n_m1ge, si_1, si_2, forall_eq, not_true_eq_false, not_false_eq_true, true_imp_iff, false_imp_iff, true_and, and_true, false_and, and_false, implies_true, ite_true, ite_false, if_true, if_false, Classical.not_not, Nat.reduceEqDiff, reduceIte, Nat.add_left_cancel_iff, Nat.add_eq_left, Nat.left_eq_add, and_self, n_sub, pk_mul, eq_false (show ¬ Ae - A ≤ k by omega), eq_true (show A + k < 240 by omega), eq_true (show B + k < 240 by omega), q1.1, q2.1, eq_true hq, show ¬ (1 = 0) by decide]
          exact ih (k + 1) (by omega) (by omega) (fun j hj' => by
            rcases Nat.lt_or_ge j k with h | h
            · exact hj j h
            · have : j = k := by omega
              subst this; exact hq)
        · rw [bI_f (fun h => hq (h.2 k (by omega)))] at hp
          refine ⟨2, ?_⟩
          simp (disch := omega) only [wp_Md_same, wb_Md_same_1, litI, n_le, n_lt, n_eq, n_in, n_cl, nI_add, n_b0, n_b1, n_v0, n_v1, n_m1, n_m1', n_m1l, n_m1l', n_m1g, n_m1ge, si_1, si_2, forall_eq, not_true_eq_false, not_false_eq_true, true_imp_iff, false_imp_iff, true_and, and_true, false_and, and_false, implies_true, ite_true, ite_false, if_true, if_false, Classical.not_not, Nat.reduceEqDiff, reduceIte, Nat.add_left_cancel_iff, Nat.add_eq_left, Nat.left_eq_add, and_self, n_sub, pk_mul, eq_false (show ¬ Ae - A ≤ k by omega), eq_true (show A + k < 240 by omega), eq_true (show B + k < 240 by omega), q1.1, q2.1, eq_false hq, show ¬ (1 = 0) by decide]
          exact ⟨fun _ => hp, fun _ => hp⟩
    exact key _ 0 rfl (by omega) (fun j hj => by omega)
  · rw [bI_f (fun h => he h.1)] at hp
    refine ⟨1, ?_⟩
    simp (disch := omega) only [wp_Md_same, wb_Md_same_0, wb_Md_same_1, litI, n_le, n_lt, n_eq, n_in, n_cl, nI_add, n_b0, n_b1, n_v0, n_v1, n_m1, n_m1', n_m1l, n_m1l', n_m1g, n_m1ge, si_1, si_2, forall_eq, not_true_eq_false, not_false_eq_true, true_imp_iff, false_imp_iff, true_and, and_true, false_and, and_false, implies_true, ite_true, ite_false, if_true, if_false, Classical.not_not, Nat.reduceEqDiff, reduceIte, Nat.add_left_cancel_iff, Nat.add_eq_left, Nat.left_eq_add, and_self, n_sub, pk_mul, eq_false he]
    exact ⟨fun _ => hp, fun _ => hp⟩
