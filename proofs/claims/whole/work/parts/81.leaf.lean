/-- a loop that goes on while the letters are as p says -/
theorem scan {p : Nat → Prop} {tx : Nat → Nat} {len a' : Nat} {W : Nat → Nat → Prop} (he : (a' < len → ¬ p (tx a')) → ∃ n, W n a') (hs : ∀ a, a < a' → a < len → p (tx a) → (∃ n, W n (a + 1)) → ∃ n, W n a) : ∀ a, Sp p tx len a a' → ∃ n, W n a := by
  have h : ∀ d a, a' - a = d → Sp p tx len a a' → ∃ n, W n a := by
    intro d
    induction d with
    | zero =>
      intro a hd h
      have : a = a' := by have := h.1; omega
      subst this; exact he h.2.2.2
    | succ d ih =>
      intro a hd h
      rcases Sp_step h with ⟨e, _⟩ | ⟨hl, hlt, hp, h'⟩
      · omega
      · exact hs a hlt hl hp (ih (a + 1) (by omega) h')
  exact fun a h' => h _ a rfl h'
theorem ex_i {P Q : Nat → Prop} (h : ∀ n, P n → Q n) (k : ∃ n, P n) : ∃ n, Q n := ⟨k.choose, h _ k.choose_spec⟩
def bI (p : Prop) [Decidable p] : Nat := if p then 1 else 0
theorem bI_0 (p : Prop) [Decidable p] : nI (bI p) = nI 0 ↔ ¬ p := by unfold bI; split <;> rename_i h <;> simp [h]; decide +kernel
theorem bI_lt (p : Prop) [Decidable p] : bI p < 2147483648 := by unfold bI; split <;> omega
theorem bI_t {p : Prop} [Decidable p] (h : p) : bI p = 1 := if_pos h
theorem bI_f {p : Prop} [Decidable p] (h : ¬ p) : bI p = 0 := if_neg h
theorem si_si (σ : Sg) (c k : Nat) (v w : Int32) : si (si σ c k v) c k w = si σ c k w := by
  unfold si
  refine Prod.ext (funext fun b => ?_) rfl
  by_cases h : b = c
  · simp [h]; funext j; by_cases hj : j = k
    · simp [hj, pk_us]
    · simp [pk_un hj]
  · simp [h]
theorem si_id {σ : Sg} {c k : Nat} {v : Int32} (h : σ.1 c k = v) : si σ c k v = σ := by
  unfold si
  refine Prod.ext (funext fun b => ?_) rfl
  by_cases hb : b = c
  · subst hb; simp; funext j; by_cases hj : j = k
    · subst hj; rw [pk_us, h]
    · rw [pk_un hj]
  · simp [hb]
theorem Tx_si {b len : Nat} {tx : Nat → Nat} {σ : Sg} (hT : Tx b σ len tx) {c k : Nat} {v : Int32} (h1 : c ≠ b + 10) (h2 : c ≠ b + 11) : Tx b (si σ c k v) len tx := by
  obtain ⟨h3, h4, h5⟩ := hT
  refine ⟨by rw [si_1, if_neg (fun h => h1 h.1.symm)]; exact h3, h4, fun j hj => ?_⟩
  rw [si_1, if_neg (fun h => h2 h.1.symm)]; exact h5 j hj
theorem Tx_quotedEnd_r {b len : Nat} {tx : Nat → Nat} {σ : Sg} (hT : Tx b σ len tx) {a a' : Nat} (hs : Sp (fun c => c ≠ 34) tx len a a') : Ri (wq_Tx_quotedEnd b (nI a) σ) (nI a') σ := by
  obtain ⟨h1, h2, h3⟩ := hT
  have h4 := tl_le b
  have h9 := hs.2.1
  intro post hp
  unfold wq_Tx_quotedEnd
  refine ex_s ?_
  refine scan (W := fun n a => wp_Tx_quotedEnd b post n 1 0 (nI a) σ) ?_ ?_ a hs
  · intro hn
    refine ex_s ⟨0, ?_⟩
    by_cases hl : a' < len
    · have h5 := (h3 a' hl).1
      have h6 : tx a' = 34 := Classical.byContradiction (hn hl)
      simp (disch := omega) only [wp_Tx_quotedEnd, wb_Tx_quotedEnd_1, h1, h5, h6, litI, n_le, n_lt, n_eq, n_in, n_cl, nI_add, n_b0, n_b1, n_v0, n_v1, n_m1, n_m1', n_m1l, n_m1l', n_m1g, n_m1ge, si_1, si_2, forall_eq, not_true_eq_false, not_false_eq_true, true_imp_iff, false_imp_iff, true_and, and_true, false_and, and_false, implies_true, ite_true, ite_false, if_true, if_false, Classical.not_not, Nat.reduceEqDiff, reduceIte, Nat.add_left_cancel_iff, Nat.add_eq_left, Nat.left_eq_add, and_self, n_sub, pk_mul]
      exact ⟨fun _ => hp, fun _ => ⟨by omega, hp⟩⟩
    · simp (disch := omega) only [wp_Tx_quotedEnd, wb_Tx_quotedEnd_1, h1, litI, n_le, n_lt, n_eq, n_in, n_cl, nI_add, n_b0, n_b1, n_v0, n_v1, n_m1, n_m1', n_m1l, n_m1l', n_m1g, n_m1ge, si_1, si_2, forall_eq, not_true_eq_false, not_false_eq_true, true_imp_iff, false_imp_iff, true_and, and_true, false_and, and_false, implies_true, ite_true, ite_false, if_true, if_false, Classical.not_not, Nat.reduceEqDiff, reduceIte, Nat.add_left_cancel_iff, Nat.add_eq_left, Nat.left_eq_add, and_self, n_sub, pk_mul]
      exact ⟨fun _ => hp, fun h => absurd (by omega) h⟩
  · intro a hlt hl hpa ih
    refine ex_s ?_
    have h5 := (h3 a hl).1
    have h6 := h3 a hl
    have h7 : ¬ len ≤ a := by omega
    have h8 : a < tl b := by omega
    simp (disch := omega) only [wp_Tx_quotedEnd, wb_Tx_quotedEnd_1, h1, h5, litI, n_le, n_lt, n_eq, n_in, n_cl, nI_add, n_b0, n_b1, n_v0, n_v1, n_m1, n_m1', n_m1l, n_m1l', n_m1g, n_m1ge, si_1, si_2, forall_eq, not_true_eq_false, not_false_eq_true, true_imp_iff, false_imp_iff, true_and, and_true, false_and, and_false, implies_true, ite_true, ite_false, if_true, if_false, Classical.not_not, Nat.reduceEqDiff, reduceIte, Nat.add_left_cancel_iff, Nat.add_eq_left, Nat.left_eq_add, and_self, n_sub, pk_mul, h7, h8, hpa]
    exact ih
theorem Rd_passBlanks_r {b len : Nat} {tx : Nat → Nat} {σ : Sg} (hT : Tx b σ len tx) {a a' : Nat} (ha : σ.1 (b + 12) 4 = nI a) (hs : Sp (fun c => c = 32) tx len a a') : Rv (wq_Rd_passBlanks b σ) (si σ (b + 12) 4 (nI a')) := by
  obtain ⟨h1, h2, h3⟩ := hT
  have h4 := tl_le b
  have h9 := hs.2.1
  intro post hp
  unfold wq_Rd_passBlanks
  refine ex_s ?_
  show ∃ n, wp_Rd_passBlanks b post n 1 σ
  rw [show σ = si σ (b + 12) 4 (nI a) from (si_id ha).symm]
  refine scan (W := fun n a => wp_Rd_passBlanks b post n 1 (si σ (b + 12) 4 (nI a))) ?_ ?_ a hs
  · intro hn
    refine ex_s ⟨0, ?_⟩
    by_cases hl : a' < len
    · have h5 := h3 a' hl
      have h6 := hn hl
      have h7 : ¬ len ≤ a' := by omega
      have h8 : a' < tl b := by omega
      simp (disch := omega) [wp_Rd_passBlanks, wb_Rd_passBlanks_1, h1, h5.1, h6, h7, h8, litI, n_le, n_lt, n_eq, n_in, n_cl, nI_add, n_b0, n_b1, n_v0, n_v1, n_m1, n_m1', n_m1l, n_m1l', n_m1g, n_m1ge, si_1, si_2, forall_eq, not_true_eq_false, not_false_eq_true, true_imp_iff, false_imp_iff, true_and, and_true, false_and, and_false, implies_true, ite_true, ite_false, if_true, if_false, Classical.not_not, Nat.reduceEqDiff, reduceIte, Nat.add_left_cancel_iff, Nat.add_eq_left, Nat.left_eq_add, and_self, n_sub, pk_mul, hp]
    · have h7 : len ≤ a' := by omega
      simp (disch := omega) [wp_Rd_passBlanks, wb_Rd_passBlanks_1, h1, h7, litI, n_le, n_lt, n_eq, n_in, n_cl, nI_add, n_b0, n_b1, n_v0, n_v1, n_m1, n_m1', n_m1l, n_m1l', n_m1g, n_m1ge, si_1, si_2, forall_eq, not_true_eq_false, not_false_eq_true, true_imp_iff, false_imp_iff, true_and, and_true, false_and, and_false, implies_true, ite_true, ite_false, if_true, if_false, Classical.not_not, Nat.reduceEqDiff, reduceIte, Nat.add_left_cancel_iff, Nat.add_eq_left, Nat.left_eq_add, and_self, n_sub, pk_mul, hp]
  · intro a hlt hl hpa ih
    refine ex_s ?_
    have h5 := h3 a hl
    have h7 : ¬ len ≤ a := by omega
    have h8 : a < tl b := by omega
    simp (disch := omega) [wp_Rd_passBlanks, wb_Rd_passBlanks_1, h1, h5.1, h7, h8, litI, n_le, n_lt, n_eq, n_in, n_cl, nI_add, n_b0, n_b1, n_v0, n_v1, n_m1, n_m1', n_m1l, n_m1l', n_m1g, n_m1ge, si_1, si_2, forall_eq, not_true_eq_false, not_false_eq_true, true_imp_iff, false_imp_iff, true_and, and_true, false_and, and_false, implies_true, ite_true, ite_false, if_true, if_false, Classical.not_not, Nat.reduceEqDiff, reduceIte, Nat.add_left_cancel_iff, Nat.add_eq_left, Nat.left_eq_add, and_self, n_sub, pk_mul, hpa, si_si]
    exact ih
/-- the letters of a text of the reference, and what stands around them -/
def TM (t : Nat) (σ : Sg) (len : Nat) (tx : Nat → Nat) : Prop := t < 2 ∧ σ.1 54 18 = nI t ∧ σ.1 57 t = nI len ∧ len ≤ 160 ∧ 160 * t + len ≤ 240 ∧ ∀ k, k < len → σ.1 56 (160 * t + k) = nI (tx k) ∧ 32 ≤ tx k ∧ tx k ≤ 126
theorem Md_here_r {t len : Nat} {tx : Nat → Nat} {σ : Sg} (hT : TM t σ len tx) {a : Nat} (ha : σ.1 54 19 = nI a) (hl : a < len) (post : Int32 → Sg → Prop) : wq_Md_here σ post ↔ post (nI (tx a)) σ := by
  obtain ⟨h0, h1, h2, h3, h3', h4⟩ := hT
  have h5 := h4 a hl
  have h6 : ¬ len ≤ a := by omega
  have h7 : 160 * t + a < 240 := by omega
  simp (disch := omega) [wq_Md_here, h1, h2, ha, h0, h6, litI, n_le, n_lt, n_eq, n_in, n_cl, nI_add, n_b0, n_b1, n_v0, n_v1, n_m1, n_m1', n_m1l, n_m1l', n_m1g, n_m1ge, si_1, si_2, forall_eq, not_true_eq_false, not_false_eq_true, true_imp_iff, false_imp_iff, true_and, and_true, false_and, and_false, implies_true, ite_true, ite_false, if_true, if_false, Classical.not_not, Nat.reduceEqDiff, reduceIte, Nat.add_left_cancel_iff, Nat.add_eq_left, Nat.left_eq_add, and_self, n_sub, pk_mul, pk_mul, h5.1, h7]
theorem Md_here_e {t len : Nat} {tx : Nat → Nat} {σ : Sg} (hT : TM t σ len tx) {a : Nat} (ha : σ.1 54 19 = nI a) (hl : len ≤ a) (ha' : a ≤ 160) (post : Int32 → Sg → Prop) : wq_Md_here σ post ↔ post (-nI 1) σ := by
  obtain ⟨h0, h1, h2, h3, h3', h4⟩ := hT
  simp (disch := omega) [wq_Md_here, h1, h2, ha, h0, hl, litI, n_le, n_lt, n_eq, n_in, n_cl, nI_add, n_b0, n_b1, n_v0, n_v1, n_m1, n_m1', n_m1l, n_m1l', n_m1g, n_m1ge, si_1, si_2, forall_eq, not_true_eq_false, not_false_eq_true, true_imp_iff, false_imp_iff, true_and, and_true, false_and, and_false, implies_true, ite_true, ite_false, if_true, if_false, Classical.not_not, Nat.reduceEqDiff, reduceIte, Nat.add_left_cancel_iff, Nat.add_eq_left, Nat.left_eq_add, and_self, n_sub, pk_mul]
theorem TM_si {t len : Nat} {tx : Nat → Nat} {σ : Sg} (hT : TM t σ len tx) {c k : Nat} {v : Int32} (h1 : c ≠ 56) (h2 : c ≠ 57) (h3 : c = 54 → k ≠ 18) : TM t (si σ c k v) len tx := by
  obtain ⟨h4, h5, h6, h7, h8, h9⟩ := hT
  refine ⟨h4, ?_, ?_, h7, h8, fun j hj => ?_⟩
  · rw [si_1, if_neg (fun h => h3 h.1.symm h.2.symm)]; exact h5
  · rw [si_1, if_neg (fun h => h2 h.1.symm)]; exact h6
  · rw [si_1, if_neg (fun h => h1 h.1.symm)]; exact h9 j hj
theorem Md_blanks_r {t len : Nat} {tx : Nat → Nat} {σ : Sg} (hT : TM t σ len tx) {a a' : Nat} (ha : σ.1 54 19 = nI a) (hs : Sp (fun c => c = 32) tx len a a') : Rv (wq_Md_blanks σ) (si σ 54 19 (nI a')) := by
  have h9 := hs.2.1
  have h3 := hT.2.2.2.1
  have h4 := hT.2.2.2.2.2
  intro post hp
  unfold wq_Md_blanks
  refine ex_s ?_
  show ∃ n, wp_Md_blanks post n 1 σ
  rw [show σ = si σ 54 19 (nI a) from (si_id ha).symm]
  refine scan (W := fun n a => wp_Md_blanks post n 1 (si σ 54 19 (nI a))) ?_ ?_ a hs
  · intro hn
    refine ex_s ⟨0, ?_⟩
    have hT' : TM t (si σ 54 19 (nI a')) len tx := TM_si hT (by decide) (by decide) (by decide)
    have ha' : (si σ 54 19 (nI a')).1 54 19 = nI a' := by rw [si_1]; simp
    by_cases hl : a' < len
    · have h6 := hn hl
      have h7 := h4 a' hl
      simp (disch := omega) [wp_Md_blanks, wb_Md_blanks_1, Md_here_r hT' ha' hl, h6, litI, n_le, n_lt, n_eq, n_in, n_cl, nI_add, n_b0, n_b1, n_v0, n_v1, n_m1, n_m1', n_m1l, n_m1l', n_m1g, n_m1ge, si_1, si_2, forall_eq, not_true_eq_false, not_false_eq_true, true_imp_iff, false_imp_iff, true_and, and_true, false_and, and_false, implies_true, ite_true, ite_false, if_true, if_false, Classical.not_not, Nat.reduceEqDiff, reduceIte, Nat.add_left_cancel_iff, Nat.add_eq_left, Nat.left_eq_add, and_self, n_sub, pk_mul, hp]
    · simp (disch := omega) [wp_Md_blanks, wb_Md_blanks_1, Md_here_e hT' ha' (by omega) (by omega), litI, n_le, n_lt, n_eq, n_in, n_cl, nI_add, n_b0, n_b1, n_v0, n_v1, n_m1, n_m1', n_m1l, n_m1l', n_m1g, n_m1ge, si_1, si_2, forall_eq, not_true_eq_false, not_false_eq_true, true_imp_iff, false_imp_iff, true_and, and_true, false_and, and_false, implies_true, ite_true, ite_false, if_true, if_false, Classical.not_not, Nat.reduceEqDiff, reduceIte, Nat.add_left_cancel_iff, Nat.add_eq_left, Nat.left_eq_add, and_self, n_sub, pk_mul, hp]
  · intro a hlt hl hpa ih
    have hT' : TM t (si σ 54 19 (nI a)) len tx := TM_si hT (by decide) (by decide) (by decide)
    have ha' : (si σ 54 19 (nI a)).1 54 19 = nI a := by rw [si_1]; simp
    refine ex_s ?_
    simp (disch := omega) [wp_Md_blanks, wb_Md_blanks_1, Md_here_r hT' ha' hl, hpa, litI, n_le, n_lt, n_eq, n_in, n_cl, nI_add, n_b0, n_b1, n_v0, n_v1, n_m1, n_m1', n_m1l, n_m1l', n_m1g, n_m1ge, si_1, si_2, forall_eq, not_true_eq_false, not_false_eq_true, true_imp_iff, false_imp_iff, true_and, and_true, false_and, and_false, implies_true, ite_true, ite_false, if_true, if_false, Classical.not_not, Nat.reduceEqDiff, reduceIte, Nat.add_left_cancel_iff, Nat.add_eq_left, Nat.left_eq_add, and_self, n_sub, pk_mul, si_si]
    exact ih
