def chB (f : Nat → Int32) : Int32 → List Nat → Prop
  | _, [] => True
  | x, c :: l => x = nI c ∧ chB f (f c) l
def chE (f : Nat → Int32) : Int32 → List Nat → Int32
  | x, [] => x
  | _, c :: l => chE f (f c) l
def chM (t : Nat) (g : Nat → Int32) : Int32 → List Nat → Prop
  | x, [] => x = -nI 1
  | x, c :: l => x = nI (160 * t + c) ∧ chM t g (g (160 * t + c)) l
def oI : Option Nat → Int32
  | none => -nI 1
  | some c => nI c
def oM (t : Nat) : Option Nat → Int32
  | none => -nI 1
  | some c => nI (160 * t + c)
theorem Tr_childNamed_r {b b1 len len1 : Nat} {tx tx1 : Nat → Nat} {σ : Sg} (hT : Tx b σ len tx) (hT1 : Tx b1 σ len1 tx1) {k g e1 : Nat} {l : List Nat} (hk : k < tl b) (hkd : σ.1 (b + 1) k = nI 6) (hch : σ.1 (b + 5) k = nI l.length) (hl : l.length < 2147483648) (hB : chB (σ.1 (b + 8)) (nI (k + 1)) l) (hs1 : Sp (fun c => c ≠ 34) tx1 len1 g e1) (P : Nat → Bool) (hP : ∀ c ∈ l, c < tl b ∧ ∃ n e, σ.1 (b + 6) c = nI n ∧ Sp (fun c => c ≠ 34) tx len (n + 1) e ∧ (P c = true ↔ eqn tx (n + 1) e tx1 g e1)) :
    Ri (wq_Tr_childNamed b b1 (nI k) (nI g) σ) (oI (l.find? P)) σ := by
  have h4 := tl_le b
  intro post hp
  unfold wq_Tr_childNamed
  refine ex_s ?_
  simp (disch := omega) only [wp_Tr_childNamed, wb_Tr_childNamed_0, hkd, litI, n_le, n_lt, n_eq, n_in, n_cl, nI_add, n_b0, n_b1, n_v0, n_v1, n_m1, n_m1', n_m1l, n_m1l', n_m1g, n_m1ge, si_1, si_2, forall_eq, not_true_eq_false, not_false_eq_true, true_imp_iff, false_imp_iff, true_and, and_true, false_and, and_false, implies_true, ite_true, ite_false, if_true, if_false, Classical.not_not, Nat.reduceEqDiff, reduceIte, Nat.add_left_cancel_iff, Nat.add_eq_left, Nat.left_eq_add, and_self, n_sub, pk_mul, hk]
  have key : ∀ l1 i x, i + l1.length = l.length → (∀ c ∈ l1, c ∈ l) → chB (σ.1 (b + 8)) x l1 → post (oI (l1.find? P)) σ → ∃ n, wp_Tr_childNamed b b1 post n 1 (nI k) (nI g) (nI i) x σ := by
    intro l1
    induction l1 with
    | nil =>
      intro i x hi _ _ hp
      refine ⟨1, ?_⟩
      simp (disch := omega) only [wp_Tr_childNamed, wb_Tr_childNamed_1, hch, litI, n_le, n_lt, n_eq, n_in, n_cl, nI_add, n_b0, n_b1, n_v0, n_v1, n_m1, n_m1', n_m1l, n_m1l', n_m1g, n_m1ge, si_1, si_2, forall_eq, not_true_eq_false, not_false_eq_true, true_imp_iff, false_imp_iff, true_and, and_true, false_and, and_false, implies_true, ite_true, ite_false, if_true, if_false, Classical.not_not, Nat.reduceEqDiff, reduceIte, Nat.add_left_cancel_iff, Nat.add_eq_left, Nat.left_eq_add, and_self, n_sub, pk_mul, hk, eq_true (show l.length ≤ i by simp at hi; omega)]
      exact hp
    | cons c l1 ih =>
      intro i x hi hm hB hp
      obtain ⟨hx, hB⟩ := hB
      obtain ⟨hc, n, e, hn, hs, hPc⟩ := hP c (hm c (List.mem_cons_self ..))
      have hlen : (c :: l1).length = l1.length + 1 := rfl
      refine ex_s ?_
      subst hx
      simp (disch := omega) only [wp_Tr_childNamed, wb_Tr_childNamed_1, hch, litI, n_le, n_lt, n_eq, n_in, n_cl, nI_add, n_b0, n_b1, n_v0, n_v1, n_m1, n_m1', n_m1l, n_m1l', n_m1g, n_m1ge, si_1, si_2, forall_eq, not_true_eq_false, not_false_eq_true, true_imp_iff, false_imp_iff, true_and, and_true, false_and, and_false, implies_true, ite_true, ite_false, if_true, if_false, Classical.not_not, Nat.reduceEqDiff, reduceIte, Nat.add_left_cancel_iff, Nat.add_eq_left, Nat.left_eq_add, and_self, n_sub, pk_mul, hk, hc, eq_false (show ¬ l.length ≤ i by omega), hn]
      by_cases hq : P c = true
      · refine ⟨0, Tx_sameQuoted_r hT hT1 hs hs1 _ ?_⟩
        rw [bI_t (hPc.mp hq)]
        simp (disch := omega) only [litI, n_le, n_lt, n_eq, n_in, n_cl, nI_add, n_b0, n_b1, n_v0, n_v1, n_m1, n_m1', n_m1l, n_m1l', n_m1g, n_m1ge, si_1, si_2, forall_eq, not_true_eq_false, not_false_eq_true, true_imp_iff, false_imp_iff, true_and, and_true, false_and, and_false, implies_true, ite_true, ite_false, if_true, if_false, Classical.not_not, Nat.reduceEqDiff, reduceIte, Nat.add_left_cancel_iff, Nat.add_eq_left, Nat.left_eq_add, and_self, n_sub, pk_mul, show ¬ (1 = 0) by decide]
        rw [List.find?_cons_of_pos (by exact hq)] at hp
        exact hp
      · refine ex_i (fun n h => Tx_sameQuoted_r hT hT1 hs hs1 _ h) ?_
        rw [bI_f (fun h => hq (hPc.mpr h))]
        simp (disch := omega) only [litI, n_le, n_lt, n_eq, n_in, n_cl, nI_add, n_b0, n_b1, n_v0, n_v1, n_m1, n_m1', n_m1l, n_m1l', n_m1g, n_m1ge, si_1, si_2, forall_eq, not_true_eq_false, not_false_eq_true, true_imp_iff, false_imp_iff, true_and, and_true, false_and, and_false, implies_true, ite_true, ite_false, if_true, if_false, Classical.not_not, Nat.reduceEqDiff, reduceIte, Nat.add_left_cancel_iff, Nat.add_eq_left, Nat.left_eq_add, and_self, n_sub, pk_mul]
        rw [List.find?_cons_of_neg (by exact hq)] at hp
        exact ih (i + 1) _ (by omega) (fun c' h => hm c' (List.mem_cons_of_mem _ h)) hB hp
  exact key l 0 _ (by omega) (fun c h => h) hB hp
theorem Tr_childNamed_n {b b1 : Nat} {σ : Sg} {k kd : Nat} {x : Int32} (hk : k < tl b) (hkd : σ.1 (b + 1) k = nI kd) (hne : kd ≠ 6) (hlt : kd < 7) : Ri (wq_Tr_childNamed b b1 (nI k) x σ) (oI none) σ := by
  have h4 := tl_le b
  intro post hp
  refine ⟨1, ?_⟩
  simp (disch := omega) only [wp_Tr_childNamed, wb_Tr_childNamed_0, hkd, litI, n_le, n_lt, n_eq, n_in, n_cl, nI_add, n_b0, n_b1, n_v0, n_v1, n_m1, n_m1', n_m1l, n_m1l', n_m1g, n_m1ge, si_1, si_2, forall_eq, not_true_eq_false, not_false_eq_true, true_imp_iff, false_imp_iff, true_and, and_true, false_and, and_false, implies_true, ite_true, ite_false, if_true, if_false, Classical.not_not, Nat.reduceEqDiff, reduceIte, Nat.add_left_cancel_iff, Nat.add_eq_left, Nat.left_eq_add, and_self, n_sub, pk_mul, hk, eq_false hne]
  exact hp
theorem Md_childNamed_r {t : Nat} {σ : Sg} (ht : t < 2) {k A Ae : Nat} {l : List Nat} (hk : 160 * t + k < 240) (hk2 : t = 0 → k < 160) (hC : chM t (σ.1 66) (σ.1 65 (160 * t + k)) l) (hA : A ≤ Ae) (hAe : Ae ≤ 240) {v : Nat → Nat} (hv : ∀ j, j < Ae - A → σ.1 56 (A + j) = nI (v j) ∧ v j ≤ 126) (P : Nat → Bool) (hP : ∀ c ∈ l, 160 * t + c < 240 ∧ ∃ n e, n + 1 ≤ e ∧ 160 * t + e ≤ 240 ∧ σ.1 67 (160 * t + c) = nI n ∧ σ.1 68 (160 * t + c) = nI e ∧ ∃ u : Nat → Nat, (∀ j, j < e - (n + 1) → σ.1 56 (160 * t + n + 1 + j) = nI (u j) ∧ u j ≤ 126) ∧ (P c = true ↔ e - (n + 1) = Ae - A ∧ ∀ j, j < e - (n + 1) → u j = v j)) :
    Ri (wq_Md_childNamed (nI (160 * t + k)) (nI A) (nI Ae) σ) (oM t (l.find? P)) σ := by
  intro post hp
  unfold wq_Md_childNamed
  refine ex_s ?_
  have hb : ∃ n, wp_Md_childNamed post n 1 0 (nI A) (nI Ae) (nI (160 * t)) (σ.1 65 (160 * t + k)) σ := by
    have key : ∀ l1 x, (∀ c ∈ l1, c ∈ l) → chM t (σ.1 66) x l1 → post (oM t (l1.find? P)) σ → ∃ n, wp_Md_childNamed post n 1 0 (nI A) (nI Ae) (nI (160 * t)) x σ := by
      intro l1
      induction l1 with
      | nil =>
        intro x _ hx hp
        refine ⟨1, ?_⟩
        have hx : x = -nI 1 := hx
        subst hx
        have h1 : (-nI 1 : Int32) < nI 0 := by decide +kernel
        simp (disch := omega) only [wp_Md_childNamed, wb_Md_childNamed_1, litI, n_le, n_lt, n_eq, n_in, n_cl, nI_add, n_b0, n_b1, n_v0, n_v1, n_m1, n_m1', n_m1l, n_m1l', n_m1g, n_m1ge, si_1, si_2, forall_eq, not_true_eq_false, not_false_eq_true, true_imp_iff, false_imp_iff, true_and, and_true, false_and, and_false, implies_true, ite_true, ite_false, if_true, if_false, Classical.not_not, Nat.reduceEqDiff, reduceIte, Nat.add_left_cancel_iff, Nat.add_eq_left, Nat.left_eq_add, and_self, n_sub, pk_mul, eq_true h1]
        exact hp
      | cons c l1 ih =>
        intro x hm hC hp
        obtain ⟨hx, hC⟩ := hC
        obtain ⟨hc, n, e, hne, he, hn, hee, u, hu, hPc⟩ := hP c (hm c (List.mem_cons_self ..))
        refine ex_s ?_
        subst hx
        simp (disch := omega) only [wp_Md_childNamed, wb_Md_childNamed_1, litI, n_le, n_lt, n_eq, n_in, n_cl, nI_add, n_b0, n_b1, n_v0, n_v1, n_m1, n_m1', n_m1l, n_m1l', n_m1g, n_m1ge, si_1, si_2, forall_eq, not_true_eq_false, not_false_eq_true, true_imp_iff, false_imp_iff, true_and, and_true, false_and, and_false, implies_true, ite_true, ite_false, if_true, if_false, Classical.not_not, Nat.reduceEqDiff, reduceIte, Nat.add_left_cancel_iff, Nat.add_eq_left, Nat.left_eq_add, and_self, n_sub, pk_mul, eq_false (show ¬ 160 * t + c < 0 by omega), hc, hn, hee]
        have hsame := Md_same_r (σ := σ) (A := 160 * t + n + 1) (Ae := 160 * t + e) (B := A) (Be := Ae) (u := u) (v := v) (by omega) hA (by omega) hAe (fun j hj => hu j (by omega)) hv
        have hiff : (160 * t + e - (160 * t + n + 1) = Ae - A ∧ ∀ j, j < 160 * t + e - (160 * t + n + 1) → u j = v j) ↔ P c = true := by
          rw [hPc, show 160 * t + e - (160 * t + n + 1) = e - (n + 1) by omega]
        by_cases hq : P c = true
        · refine ⟨0, hsame _ ?_⟩
          rw [bI_t (hiff.mpr hq)]
          simp (disch := omega) only [litI, n_le, n_lt, n_eq, n_in, n_cl, nI_add, n_b0, n_b1, n_v0, n_v1, n_m1, n_m1', n_m1l, n_m1l', n_m1g, n_m1ge, si_1, si_2, forall_eq, not_true_eq_false, not_false_eq_true, true_imp_iff, false_imp_iff, true_and, and_true, false_and, and_false, implies_true, ite_true, ite_false, if_true, if_false, Classical.not_not, Nat.reduceEqDiff, reduceIte, Nat.add_left_cancel_iff, Nat.add_eq_left, Nat.left_eq_add, and_self, n_sub, pk_mul, show ¬ (1 = 0) by decide]
          rw [List.find?_cons_of_pos (by exact hq)] at hp
          exact hp
        · refine ex_i (fun n h => hsame _ h) ?_
          rw [bI_f (fun h => hq (hiff.mp h))]
          simp (disch := omega) only [litI, n_le, n_lt, n_eq, n_in, n_cl, nI_add, n_b0, n_b1, n_v0, n_v1, n_m1, n_m1', n_m1l, n_m1l', n_m1g, n_m1ge, si_1, si_2, forall_eq, not_true_eq_false, not_false_eq_true, true_imp_iff, false_imp_iff, true_and, and_true, false_and, and_false, implies_true, ite_true, ite_false, if_true, if_false, Classical.not_not, Nat.reduceEqDiff, reduceIte, Nat.add_left_cancel_iff, Nat.add_eq_left, Nat.left_eq_add, and_self, n_sub, pk_mul]
          rw [List.find?_cons_of_neg (by exact hq)] at hp
          exact ih _ (fun c' h => hm c' (List.mem_cons_of_mem _ h)) hC hp
    exact key l _ (fun c h => h) hC hp
  by_cases h0 : t = 0
  · subst h0
    have := hk2 rfl
    simp (disch := omega) only [wp_Md_childNamed, wb_Md_childNamed_0, litI, n_le, n_lt, n_eq, n_in, n_cl, nI_add, n_b0, n_b1, n_v0, n_v1, n_m1, n_m1', n_m1l, n_m1l', n_m1g, n_m1ge, si_1, si_2, forall_eq, not_true_eq_false, not_false_eq_true, true_imp_iff, false_imp_iff, true_and, and_true, false_and, and_false, implies_true, ite_true, ite_false, if_true, if_false, Classical.not_not, Nat.reduceEqDiff, reduceIte, Nat.add_left_cancel_iff, Nat.add_eq_left, Nat.left_eq_add, and_self, n_sub, pk_mul, eq_false (show ¬ 160 ≤ 160 * 0 + k by omega), eq_true hk]
    exact hb
  · have h1 : t = 1 := by omega
    subst h1
    simp (disch := omega) only [wp_Md_childNamed, wb_Md_childNamed_0, litI, n_le, n_lt, n_eq, n_in, n_cl, nI_add, n_b0, n_b1, n_v0, n_v1, n_m1, n_m1', n_m1l, n_m1l', n_m1g, n_m1ge, si_1, si_2, forall_eq, not_true_eq_false, not_false_eq_true, true_imp_iff, false_imp_iff, true_and, and_true, false_and, and_false, implies_true, ite_true, ite_false, if_true, if_false, Classical.not_not, Nat.reduceEqDiff, reduceIte, Nat.add_left_cancel_iff, Nat.add_eq_left, Nat.left_eq_add, and_self, n_sub, pk_mul, eq_true (show 160 ≤ 160 * 1 + k by omega), eq_true hk]
    exact hb
/-- what a number's letters say -/
def dig (tx : Nat → Nat) : Nat → Nat → Int32 → Int32
  | _, 0, v => v
  | a, n + 1, v => dig tx (a + 1) n (nI 10 * v + (nI (tx a) - nI 48))
theorem Rd_num_l {b len : Nat} {tx : Nat → Nat} {σ : Sg} (hT : Tx b σ len tx) {a' : Nat} (hl : a' ≤ len) {post : Sg → Prop} {x1 x2 x3 : Int32} (ha' : a' < len → ¬ isDg (tx a')) :
    ∀ m a n v, a' - a = m → a ≤ a' → n ≤ a → (∀ k, a ≤ k → k < a' → isDg (tx k)) → (∃ f, wp_Rd_readNumber b post f 3 x1 x2 x3 (nI (n + (a' - a))) (if n < 6 then dig tx a (min (6 - n) (a' - a)) v else v) (si σ (b + 12) 4 (nI a'))) → ∃ f, wp_Rd_readNumber b post f 2 x1 x2 x3 (nI n) v (si σ (b + 12) 4 (nI a)) := by
  obtain ⟨h1, h2, h3⟩ := hT
  have h4 := tl_le b
  intro m
  induction m with
  | zero =>
    intro a n v hm haa hn hd h
    have : a = a' := by omega
    subst this
    have e0 : (if n < 6 then dig tx a (min (6 - n) (a - a)) v else v) = v := by
      split
      · rw [show min (6 - n) (a - a) = 0 by omega]; rfl
      · rfl
    rw [e0, show n + (a - a) = n by omega] at h
    refine ex_s ?_
    by_cases hl' : a < len
    · have h5 := h3 a hl'
      have h6 := ha' hl'
      simp (disch := omega) only [wp_Rd_readNumber, wb_Rd_readNumber_2, h1, h5.1, litI, n_le, n_lt, n_eq, n_in, n_cl, nI_add, n_b0, n_b1, n_v0, n_v1, n_m1, n_m1', n_m1l, n_m1l', n_m1g, n_m1ge, si_1, si_2, forall_eq, not_true_eq_false, not_false_eq_true, true_imp_iff, false_imp_iff, true_and, and_true, false_and, and_false, implies_true, ite_true, ite_false, if_true, if_false, Classical.not_not, Nat.reduceEqDiff, reduceIte, Nat.add_left_cancel_iff, Nat.add_eq_left, Nat.left_eq_add, and_self, n_sub, pk_mul, eq_false (show ¬ len ≤ a by omega), eq_true (show a < tl b by omega), Rd_isDigit_r, bI_0, eq_false h6]
      exact h
    · simp (disch := omega) only [wp_Rd_readNumber, wb_Rd_readNumber_2, h1, litI, n_le, n_lt, n_eq, n_in, n_cl, nI_add, n_b0, n_b1, n_v0, n_v1, n_m1, n_m1', n_m1l, n_m1l', n_m1g, n_m1ge, si_1, si_2, forall_eq, not_true_eq_false, not_false_eq_true, true_imp_iff, false_imp_iff, true_and, and_true, false_and, and_false, implies_true, ite_true, ite_false, if_true, if_false, Classical.not_not, Nat.reduceEqDiff, reduceIte, Nat.add_left_cancel_iff, Nat.add_eq_left, Nat.left_eq_add, and_self, n_sub, pk_mul, eq_true (show len ≤ a by omega)]
      exact h
  | succ m ih =>
    intro a n v hm haa hn hd h
    have h5 := h3 a (by omega)
    have h6 := hd a (Nat.le_refl _) (by omega)
    refine ex_s ?_
    by_cases hn6 : 6 ≤ n
    · simp (disch := omega) only [wp_Rd_readNumber, wb_Rd_readNumber_2, h1, h5.1, litI, n_le, n_lt, n_eq, n_in, n_cl, nI_add, n_b0, n_b1, n_v0, n_v1, n_m1, n_m1', n_m1l, n_m1l', n_m1g, n_m1ge, si_1, si_2, forall_eq, not_true_eq_false, not_false_eq_true, true_imp_iff, false_imp_iff, true_and, and_true, false_and, and_false, implies_true, ite_true, ite_false, if_true, if_false, Classical.not_not, Nat.reduceEqDiff, reduceIte, Nat.add_left_cancel_iff, Nat.add_eq_left, Nat.left_eq_add, and_self, n_sub, pk_mul, eq_false (show ¬ len ≤ a by omega), eq_true (show a < tl b by omega), Rd_isDigit_r, bI_0, eq_true h6, eq_true hn6, si_si]
      refine ih (a + 1) (n + 1) v (by omega) (by omega) (by omega) (fun k hk hk2 => hd k (by omega) hk2) ?_
      rw [if_neg (by omega)] at h ⊢
      rw [show n + 1 + (a' - (a + 1)) = n + (a' - a) by omega]
      exact h
    · simp (disch := omega) only [wp_Rd_readNumber, wb_Rd_readNumber_2, h1, h5.1, litI, n_le, n_lt, n_eq, n_in, n_cl, nI_add, n_b0, n_b1, n_v0, n_v1, n_m1, n_m1', n_m1l, n_m1l', n_m1g, n_m1ge, si_1, si_2, forall_eq, not_true_eq_false, not_false_eq_true, true_imp_iff, false_imp_iff, true_and, and_true, false_and, and_false, implies_true, ite_true, ite_false, if_true, if_false, Classical.not_not, Nat.reduceEqDiff, reduceIte, Nat.add_left_cancel_iff, Nat.add_eq_left, Nat.left_eq_add, and_self, n_sub, pk_mul, eq_false (show ¬ len ≤ a by omega), eq_true (show a < tl b by omega), Rd_isDigit_r, bI_0, eq_true h6, eq_false hn6, si_si]
      refine ih (a + 1) (n + 1) _ (by omega) (by omega) (by omega) (fun k hk hk2 => hd k (by omega) hk2) ?_
      rw [if_pos (by omega)] at h
      rw [show n + 1 + (a' - (a + 1)) = n + (a' - a) by omega]
      have e1 : min (6 - n) (a' - a) = min (6 - (n + 1)) (a' - (a + 1)) + 1 := by omega
      rw [e1] at h
      have e2 : (if n + 1 < 6 then dig tx (a + 1) (min (6 - (n + 1)) (a' - (a + 1))) (nI 10 * v + (nI (tx a) - nI 48)) else nI 10 * v + (nI (tx a) - nI 48)) = dig tx a (min (6 - (n + 1)) (a' - (a + 1)) + 1) v := by
        split
        · rfl
        · rw [show min (6 - (n + 1)) (a' - (a + 1)) = 0 by omega]; rfl
      rw [n_sub (by omega)] at e2
      rw [e2]
      exact h
