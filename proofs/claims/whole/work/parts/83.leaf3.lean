theorem Rd_passWrong_r {b len : Nat} {tx : Nat → Nat} {σ : Sg} (hT : Tx b σ len tx) {a d F : Nat} (ha : σ.1 (b + 12) 4 = nI a) (hl : a < len) (hd : d ≤ 8) (hF : σ.1 b 11 = nI F) (hf : F < tf b) : Rv (wq_Rd_passWrong b (nI d) σ) (ca b (bl b σ F ((if 8 ≤ d ∧ isOp (tx a) then 14 else 3) + 16 * a)) (a + 1)) := by
  obtain ⟨h1, h2, h3⟩ := hT
  have h4 := tl_le b
  have h5 := h3 a hl
  have h8 : a < tl b := by omega
  have hq : ∀ v, (bl b σ F v).1 (b + 12) 4 = nI a := fun v => by simp [bl, si_1, ha]
  intro post hp
  unfold wq_Rd_passWrong
  by_cases e : 8 ≤ d ∧ isOp (tx a)
  · rw [if_pos e] at hp
    refine ⟨3, ?_⟩
    simp (disch := omega) only [wp_Rd_passWrong, wb_Rd_passWrong_0, wb_Rd_passWrong_1, wb_Rd_passWrong_2, ha, h5.1, h8, litI, n_le, n_lt, n_eq, n_in, n_cl, nI_add, n_b0, n_b1, n_v0, n_v1, n_m1, n_m1', n_m1l, n_m1l', n_m1g, n_m1ge, si_1, si_2, forall_eq, not_true_eq_false, not_false_eq_true, true_imp_iff, false_imp_iff, true_and, and_true, false_and, and_false, implies_true, ite_true, ite_false, if_true, if_false, Classical.not_not, Nat.reduceEqDiff, reduceIte, Nat.add_left_cancel_iff, Nat.add_eq_left, Nat.left_eq_add, and_self, n_sub, pk_mul, Rd_opens_r, bI_0, eq_true e.2, eq_false (show ¬ d < 8 by omega), Tr_blame_r hF hf, hq]
    exact hp
  · rw [if_neg e] at hp
    by_cases e1 : d < 8
    · refine ⟨3, ?_⟩
      simp (disch := omega) only [wp_Rd_passWrong, wb_Rd_passWrong_0, wb_Rd_passWrong_1, wb_Rd_passWrong_2, ha, h5.1, h8, litI, n_le, n_lt, n_eq, n_in, n_cl, nI_add, n_b0, n_b1, n_v0, n_v1, n_m1, n_m1', n_m1l, n_m1l', n_m1g, n_m1ge, si_1, si_2, forall_eq, not_true_eq_false, not_false_eq_true, true_imp_iff, false_imp_iff, true_and, and_true, false_and, and_false, implies_true, ite_true, ite_false, if_true, if_false, Classical.not_not, Nat.reduceEqDiff, reduceIte, Nat.add_left_cancel_iff, Nat.add_eq_left, Nat.left_eq_add, and_self, n_sub, pk_mul, Rd_opens_r, bI_0, eq_true e1, Tr_blame_r hF hf, hq]
      exact hp
    · refine ⟨3, ?_⟩
      simp (disch := omega) only [wp_Rd_passWrong, wb_Rd_passWrong_0, wb_Rd_passWrong_1, wb_Rd_passWrong_2, ha, h5.1, h8, litI, n_le, n_lt, n_eq, n_in, n_cl, nI_add, n_b0, n_b1, n_v0, n_v1, n_m1, n_m1', n_m1l, n_m1l', n_m1g, n_m1ge, si_1, si_2, forall_eq, not_true_eq_false, not_false_eq_true, true_imp_iff, false_imp_iff, true_and, and_true, false_and, and_false, implies_true, ite_true, ite_false, if_true, if_false, Classical.not_not, Nat.reduceEqDiff, reduceIte, Nat.add_left_cancel_iff, Nat.add_eq_left, Nat.left_eq_add, and_self, n_sub, pk_mul, Rd_opens_r, bI_0, eq_false e1, eq_false (show ¬ isOp (tx a) from fun h => e ⟨by omega, h⟩), Tr_blame_r hF hf, hq]
      exact hp
theorem Md_stray_r {t len : Nat} {tx : Nat → Nat} {σ : Sg} (hT : TM t σ len tx) {a d F : Nat} (ha : σ.1 54 19 = nI a) (hd : σ.1 54 20 = nI d) (hl : a < len) (hd8 : d ≤ 8) (hF : σ.1 71 t = nI F) (hf : F < 400) : Rv (wq_Md_stray σ) (ma (nt t σ F ((if 8 ≤ d ∧ isOp (tx a) then 14 else 3) + 16 * a)) (a + 1)) := by
  have h3 := hT.2.2.2.1
  have h5 := hT.2.2.2.2.2 a hl
  have hq : ∀ v, (nt t σ F v).1 54 19 = nI a := fun v => by simp [nt, si_1, ha]
  intro post hp
  have hn := fun x y => Md_note_r hT hF hf (x := x) (y := y)
  by_cases e0 : tx a = 123
  · by_cases e2 : d = 8
    · rw [if_pos (by omega)] at hp
      simp (disch := omega) only [wq_Md_stray, Md_here_r hT ha hl, hd, ha, litI, n_le, n_lt, n_eq, n_in, n_cl, nI_add, n_b0, n_b1, n_v0, n_v1, n_m1, n_m1', n_m1l, n_m1l', n_m1g, n_m1ge, si_1, si_2, forall_eq, not_true_eq_false, not_false_eq_true, true_imp_iff, false_imp_iff, true_and, and_true, false_and, and_false, implies_true, ite_true, ite_false, if_true, if_false, Classical.not_not, Nat.reduceEqDiff, reduceIte, Nat.add_left_cancel_iff, Nat.add_eq_left, Nat.left_eq_add, and_self, n_sub, pk_mul, eq_true e0, eq_true e2, hn, hq]
      exact hp
    · rw [if_neg (by omega)] at hp
      simp (disch := omega) only [wq_Md_stray, Md_here_r hT ha hl, hd, ha, litI, n_le, n_lt, n_eq, n_in, n_cl, nI_add, n_b0, n_b1, n_v0, n_v1, n_m1, n_m1', n_m1l, n_m1l', n_m1g, n_m1ge, si_1, si_2, forall_eq, not_true_eq_false, not_false_eq_true, true_imp_iff, false_imp_iff, true_and, and_true, false_and, and_false, implies_true, ite_true, ite_false, if_true, if_false, Classical.not_not, Nat.reduceEqDiff, reduceIte, Nat.add_left_cancel_iff, Nat.add_eq_left, Nat.left_eq_add, and_self, n_sub, pk_mul, eq_true e0, eq_false e2, hn, hq]
      exact hp
  · by_cases e1 : tx a = 91
    · by_cases e2 : d = 8
      · rw [if_pos (by omega)] at hp
        simp (disch := omega) only [wq_Md_stray, Md_here_r hT ha hl, hd, ha, litI, n_le, n_lt, n_eq, n_in, n_cl, nI_add, n_b0, n_b1, n_v0, n_v1, n_m1, n_m1', n_m1l, n_m1l', n_m1g, n_m1ge, si_1, si_2, forall_eq, not_true_eq_false, not_false_eq_true, true_imp_iff, false_imp_iff, true_and, and_true, false_and, and_false, implies_true, ite_true, ite_false, if_true, if_false, Classical.not_not, Nat.reduceEqDiff, reduceIte, Nat.add_left_cancel_iff, Nat.add_eq_left, Nat.left_eq_add, and_self, n_sub, pk_mul, eq_false e0, eq_true e1, eq_true e2, hn, hq]
        exact hp
      · rw [if_neg (by omega)] at hp
        simp (disch := omega) only [wq_Md_stray, Md_here_r hT ha hl, hd, ha, litI, n_le, n_lt, n_eq, n_in, n_cl, nI_add, n_b0, n_b1, n_v0, n_v1, n_m1, n_m1', n_m1l, n_m1l', n_m1g, n_m1ge, si_1, si_2, forall_eq, not_true_eq_false, not_false_eq_true, true_imp_iff, false_imp_iff, true_and, and_true, false_and, and_false, implies_true, ite_true, ite_false, if_true, if_false, Classical.not_not, Nat.reduceEqDiff, reduceIte, Nat.add_left_cancel_iff, Nat.add_eq_left, Nat.left_eq_add, and_self, n_sub, pk_mul, eq_false e0, eq_true e1, eq_false e2, hn, hq]
        exact hp
    · rw [if_neg (by omega)] at hp
      simp (disch := omega) only [wq_Md_stray, Md_here_r hT ha hl, hd, ha, litI, n_le, n_lt, n_eq, n_in, n_cl, nI_add, n_b0, n_b1, n_v0, n_v1, n_m1, n_m1', n_m1l, n_m1l', n_m1g, n_m1ge, si_1, si_2, forall_eq, not_true_eq_false, not_false_eq_true, true_imp_iff, false_imp_iff, true_and, and_true, false_and, and_false, implies_true, ite_true, ite_false, if_true, if_false, Classical.not_not, Nat.reduceEqDiff, reduceIte, Nat.add_left_cancel_iff, Nat.add_eq_left, Nat.left_eq_add, and_self, n_sub, pk_mul, eq_false e0, eq_false e1, hn, hq]
      exact hp
theorem Rd_passQuoted_r {b len : Nat} {tx : Nat → Nat} {σ : Sg} (hT : Tx b σ len tx) {a e F : Nat} (ha : σ.1 (b + 12) 4 = nI a) (hs : Sp (fun c => c ≠ 34) tx len (a + 1) e) (hF : σ.1 b 11 = nI F) (hf : F < tf b) : Rv (wq_Rd_passQuoted b σ) (if e < len then ca b σ (e + 1) else ca b (bl b σ F (4 + 16 * a)) e) := by
  have h1 := hT.1
  have h2 := hT.2.1
  have h4 := tl_le b
  have h9 := hs.2.1
  intro post hp
  unfold wq_Rd_passQuoted
  simp (disch := omega) only [ha, litI, nI_add]
  refine Tx_quotedEnd_r hT hs _ ?_
  by_cases hl : e < len
  · rw [if_pos hl] at hp
    simp (disch := omega) only [h1, litI, n_le, n_lt, n_eq, n_in, n_cl, nI_add, n_b0, n_b1, n_v0, n_v1, n_m1, n_m1', n_m1l, n_m1l', n_m1g, n_m1ge, si_1, si_2, forall_eq, not_true_eq_false, not_false_eq_true, true_imp_iff, false_imp_iff, true_and, and_true, false_and, and_false, implies_true, ite_true, ite_false, if_true, if_false, Classical.not_not, Nat.reduceEqDiff, reduceIte, Nat.add_left_cancel_iff, Nat.add_eq_left, Nat.left_eq_add, and_self, n_sub, pk_mul, eq_false (show ¬ len ≤ e by omega)]
    exact hp
  · rw [if_neg hl] at hp
    simp (disch := omega) only [h1, ha, litI, n_le, n_lt, n_eq, n_in, n_cl, nI_add, n_b0, n_b1, n_v0, n_v1, n_m1, n_m1', n_m1l, n_m1l', n_m1g, n_m1ge, si_1, si_2, forall_eq, not_true_eq_false, not_false_eq_true, true_imp_iff, false_imp_iff, true_and, and_true, false_and, and_false, implies_true, ite_true, ite_false, if_true, if_false, Classical.not_not, Nat.reduceEqDiff, reduceIte, Nat.add_left_cancel_iff, Nat.add_eq_left, Nat.left_eq_add, and_self, n_sub, pk_mul, eq_true (show len ≤ e by omega), Tr_blame_r hF hf]
    exact hp
theorem Md_quoted_r {t len : Nat} {tx : Nat → Nat} {σ : Sg} (hT : TM t σ len tx) {a e F : Nat} (ha : σ.1 54 19 = nI a) (hs : Sp (fun c => c ≠ 34) tx len (a + 1) e) (hF : σ.1 71 t = nI F) (hf : F < 400) : Ri (wq_Md_quoted σ) (nI e) (if e < len then ma σ (e + 1) else nt t (ma σ e) F (4 + 16 * a)) := by
  have h9 := hs.2.1
  have h3 := hT.2.2.2.1
  have h4 := hT.2.2.2.2.2
  have h0 := hT.1
  have h1 := hT.2.1
  have h2 := hT.2.2.1
  intro post hp
  unfold wq_Md_quoted
  refine ex_s ?_
  simp (disch := omega) only [wp_Md_quoted, wb_Md_quoted_0, ha, litI, n_le, n_lt, n_eq, n_in, n_cl, nI_add, n_b0, n_b1, n_v0, n_v1, n_m1, n_m1', n_m1l, n_m1l', n_m1g, n_m1ge, si_1, si_2, forall_eq, not_true_eq_false, not_false_eq_true, true_imp_iff, false_imp_iff, true_and, and_true, false_and, and_false, implies_true, ite_true, ite_false, if_true, if_false, Classical.not_not, Nat.reduceEqDiff, reduceIte, Nat.add_left_cancel_iff, Nat.add_eq_left, Nat.left_eq_add, and_self, n_sub, pk_mul]
  refine scan (W := fun n x => wp_Md_quoted post n 1 (nI a) (si σ 54 19 (nI x))) ?_ ?_ (a + 1) hs
  · intro hn
    have hT' : TM t (si σ 54 19 (nI e)) len tx := TM_si hT (by decide) (by decide) (by decide)
    have ha' : (si σ 54 19 (nI e)).1 54 19 = nI e := by rw [si_1]; simp
    refine ⟨2, ?_⟩
    by_cases hl : e < len
    · have h6 : tx e = 34 := Classical.byContradiction (hn hl)
      rw [if_pos hl] at hp
      simp (disch := omega) only [wp_Md_quoted, wb_Md_quoted_1, wb_Md_quoted_2, Md_here_r hT' ha' hl, h1, h2, h0, litI, n_le, n_lt, n_eq, n_in, n_cl, nI_add, n_b0, n_b1, n_v0, n_v1, n_m1, n_m1', n_m1l, n_m1l', n_m1g, n_m1ge, si_1, si_2, forall_eq, not_true_eq_false, not_false_eq_true, true_imp_iff, false_imp_iff, true_and, and_true, false_and, and_false, implies_true, ite_true, ite_false, if_true, if_false, Classical.not_not, Nat.reduceEqDiff, reduceIte, Nat.add_left_cancel_iff, Nat.add_eq_left, Nat.left_eq_add, and_self, n_sub, pk_mul, eq_true h6, eq_false (show ¬ len ≤ e by omega), si_si]
      exact hp
    · rw [if_neg hl] at hp
      have hF' : (si σ 54 19 (nI e)).1 71 t = nI F := by rw [si_1]; simp [hF]
      simp (disch := omega) only [wp_Md_quoted, wb_Md_quoted_1, wb_Md_quoted_2, h1, h2, h0, litI, n_le, n_lt, n_eq, n_in, n_cl, nI_add, n_b0, n_b1, n_v0, n_v1, n_m1, n_m1', n_m1l, n_m1l', n_m1g, n_m1ge, si_1, si_2, forall_eq, not_true_eq_false, not_false_eq_true, true_imp_iff, false_imp_iff, true_and, and_true, false_and, and_false, implies_true, ite_true, ite_false, if_true, if_false, Classical.not_not, Nat.reduceEqDiff, reduceIte, Nat.add_left_cancel_iff, Nat.add_eq_left, Nat.left_eq_add, and_self, n_sub, pk_mul, eq_true (show len ≤ e by omega), Md_note_r hT' hF' hf]
      exact hp
  · intro x hlt hl hpa ih
    have hT' : TM t (si σ 54 19 (nI x)) len tx := TM_si hT (by decide) (by decide) (by decide)
    have ha' : (si σ 54 19 (nI x)).1 54 19 = nI x := by rw [si_1]; simp
    have h7 := h4 x hl
    refine ex_s ?_
    simp (disch := omega) only [wp_Md_quoted, wb_Md_quoted_1, Md_here_r hT' ha' hl, h1, h2, h0, litI, n_le, n_lt, n_eq, n_in, n_cl, nI_add, n_b0, n_b1, n_v0, n_v1, n_m1, n_m1', n_m1l, n_m1l', n_m1g, n_m1ge, si_1, si_2, forall_eq, not_true_eq_false, not_false_eq_true, true_imp_iff, false_imp_iff, true_and, and_true, false_and, and_false, implies_true, ite_true, ite_false, if_true, if_false, Classical.not_not, Nat.reduceEqDiff, reduceIte, Nat.add_left_cancel_iff, Nat.add_eq_left, Nat.left_eq_add, and_self, n_sub, pk_mul, eq_false (show ¬ tx x = 34 from hpa), eq_false (show ¬ len ≤ x by omega), si_si]
    exact ih
def opn (b : Nat) (σ : Sg) (N kd fr : Nat) (pr nm : Int32) : Sg := si (si (si (si (si (si (si σ b 9 (nI (N + 1))) (b + 1) N (nI kd)) (b + 2) N (nI fr)) (b + 4) N pr) (b + 5) N (nI 0)) (b + 6) N nm) (b + 7) N (nI 0)
theorem Tr_open_n {b : Nat} {σ : Sg} {N kd fr : Nat} {nm : Int32} (hN : σ.1 b 9 = nI N) (h : N < tl b) (post : Int32 → Sg → Prop) : wq_Tr_open b (nI kd) (nI fr) (-nI 1) nm σ post ↔ post (nI N) (opn b σ N kd fr (-nI 1) nm) := by
  have h4 := tl_le b
  simp (disch := omega) only [wq_Tr_open, hN, litI, n_le, n_lt, n_eq, n_in, n_cl, nI_add, n_b0, n_b1, n_v0, n_v1, n_m1, n_m1', n_m1l, n_m1l', n_m1g, n_m1ge, si_1, si_2, forall_eq, not_true_eq_false, not_false_eq_true, true_imp_iff, false_imp_iff, true_and, and_true, false_and, and_false, implies_true, ite_true, ite_false, if_true, if_false, Classical.not_not, Nat.reduceEqDiff, reduceIte, Nat.add_left_cancel_iff, Nat.add_eq_left, Nat.left_eq_add, and_self, n_sub, pk_mul, h, opn]
theorem Tr_open_p {b : Nat} {σ : Sg} {N kd fr p c : Nat} {nm : Int32} (hN : σ.1 b 9 = nI N) (h : N < tl b) (hp : p < N) (hc : σ.1 (b + 5) p = nI c) (post : Int32 → Sg → Prop) : wq_Tr_open b (nI kd) (nI fr) (nI p) nm σ post ↔ post (nI N) (si (opn b σ N kd fr (nI p) nm) (b + 5) p (nI (c + 1))) := by
  have h4 := tl_le b
  have h5 : ¬ p = N := by omega
  have h6 : p < tl b := by omega
  simp (disch := omega) only [wq_Tr_open, hN, litI, n_le, n_lt, n_eq, n_in, n_cl, nI_add, n_b0, n_b1, n_v0, n_v1, n_m1, n_m1', n_m1l, n_m1l', n_m1g, n_m1ge, si_1, si_2, forall_eq, not_true_eq_false, not_false_eq_true, true_imp_iff, false_imp_iff, true_and, and_true, false_and, and_false, implies_true, ite_true, ite_false, if_true, if_false, Classical.not_not, Nat.reduceEqDiff, reduceIte, Nat.add_left_cancel_iff, Nat.add_eq_left, Nat.left_eq_add, and_self, n_sub, pk_mul, h, opn, h5, hc, h6, Nat.add_left_cancel_iff, show ¬ (5 = 7) by decide, show ¬ (5 = 6) by decide, show ¬ (5 = 4) by decide, show ¬ (5 = 2) by decide, show ¬ (5 = 1) by decide, show ¬ (b + 5 = b) by omega]
theorem Tr_close_r {b : Nat} {σ : Sg} {N k a : Nat} (hN : σ.1 b 9 = nI N) (h : k < tl b) (post : Sg → Prop) : wq_Tr_close b (nI k) (nI a) σ post ↔ post (si (si σ (b + 3) k (nI a)) (b + 8) k (nI N)) := by
  have h4 := tl_le b
  simp (disch := omega) only [wq_Tr_close, hN, litI, n_le, n_lt, n_eq, n_in, n_cl, nI_add, n_b0, n_b1, n_v0, n_v1, n_m1, n_m1', n_m1l, n_m1l', n_m1g, n_m1ge, si_1, si_2, forall_eq, not_true_eq_false, not_false_eq_true, true_imp_iff, false_imp_iff, true_and, and_true, false_and, and_false, implies_true, ite_true, ite_false, if_true, if_false, Classical.not_not, Nat.reduceEqDiff, reduceIte, Nat.add_left_cancel_iff, Nat.add_eq_left, Nat.left_eq_add, and_self, n_sub, pk_mul, h, show ¬ (b = b + 3) by omega]
def bgn (t : Nat) (σ : Sg) (N a : Nat) (nm ne pr : Int32) : Sg := si (si (si (si (si (si (si (si (si (si (si σ 58 t (nI (N + 1))) 59 (160 * t + N) (nI 0)) 60 (160 * t + N) (nI a)) 69 (160 * t + N) (nI 0)) 64 (160 * t + N) (nI 0)) 65 (160 * t + N) (-nI 1)) 66 (160 * t + N) (-nI 1)) 62 (160 * t + N) (nI 0)) 67 (160 * t + N) nm) 68 (160 * t + N) ne) 63 (160 * t + N) pr
theorem Md_begin_0 {t len : Nat} {tx : Nat → Nat} {σ : Sg} (hT : TM t σ len tx) {N a : Nat} {nm ne : Int32} (hN : σ.1 58 t = nI N) (h : 160 * t + N < 240) (ha : σ.1 54 19 = nI a) (hd : σ.1 54 20 = nI 0) : Ri (wq_Md_begin nm ne σ) (nI (160 * t + N)) (bgn t σ N a nm ne (-nI 1)) := by
  obtain ⟨h0, h1, -⟩ := hT
  intro post hp
  refine ⟨2, ?_⟩
  simp (disch := omega) [wp_Md_begin, wb_Md_begin_0, wb_Md_begin_1, hN, h1, h0, ha, hd, litI, n_le, n_lt, n_eq, n_in, n_cl, nI_add, n_b0, n_b1, n_v0, n_v1, n_m1, n_m1', n_m1l, n_m1l', n_m1g, n_m1ge, si_1, si_2, forall_eq, not_true_eq_false, not_false_eq_true, true_imp_iff, false_imp_iff, true_and, and_true, false_and, and_false, implies_true, ite_true, ite_false, if_true, if_false, Classical.not_not, Nat.reduceEqDiff, reduceIte, Nat.add_left_cancel_iff, Nat.add_eq_left, Nat.left_eq_add, and_self, n_sub, pk_mul, pk_mul, h]
  exact hp
