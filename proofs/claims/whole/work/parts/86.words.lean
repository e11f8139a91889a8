theorem Md_num_l {t len : Nat} {tx : Nat → Nat} {σ : Sg} (hT : TM t σ len tx) {a0 a' : Nat} (hl : a' ≤ len) {post : Sg → Prop} {x1 x2 : Int32} (ha' : a' < len → ¬ isDg (tx a')) :
    ∀ m a v, a' - a = m → a0 ≤ a → a ≤ a' → (∀ k, a ≤ k → k < a' → isDg (tx k)) → (∃ f, wp_Md_number post f 2 x1 x2 (nI a0) (if a - a0 < 6 then dig tx a (min (6 - (a - a0)) (a' - a)) v else v) (si σ 54 19 (nI a'))) → ∃ f, wp_Md_number post f 2 x1 x2 (nI a0) v (si σ 54 19 (nI a)) := by
  have h3 := hT.2.2.2.1
  intro m
  induction m with
  | zero =>
    intro a v hm h0 haa hd h
    have : a = a' := by omega
    subst this
    have e0 : (if a - a0 < 6 then dig tx a (min (6 - (a - a0)) (a - a)) v else v) = v := by
      split
      · rw [show min (6 - (a - a0)) (a - a) = 0 by omega]; rfl
      · rfl
    rw [e0] at h
    exact h
  | succ m ih =>
    intro a v hm h0 haa hd h
    have h5 := hT.2.2.2.2.2 a (by omega)
    have h6 := hd a (Nat.le_refl _) (by omega)
    have hT' : TM t (si σ 54 19 (nI a)) len tx := TM_si hT (by decide) (by decide) (by decide)
    have haq : (si σ 54 19 (nI a)).1 54 19 = nI a := by rw [si_1]; simp
    refine ex_s ?_
    by_cases hn6 : 6 ≤ a - a0
    · simp (disch := omega) only [wp_Md_number, wb_Md_number_2, Md_here_r hT' haq (show a < len by omega), haq, litI, n_le, n_lt, n_eq, n_in, n_cl, nI_add, n_b0, n_b1, n_v0, n_v1, n_m1, n_m1', n_m1l, n_m1l', n_m1g, n_m1ge, si_1, si_2, forall_eq, not_true_eq_false, not_false_eq_true, true_imp_iff, false_imp_iff, true_and, and_true, false_and, and_false, implies_true, ite_true, ite_false, if_true, if_false, Classical.not_not, Nat.reduceEqDiff, reduceIte, Nat.add_left_cancel_iff, Nat.add_eq_left, Nat.left_eq_add, and_self, n_sub, pk_mul, Md_isDigit_r, bI_0, eq_true h6, eq_true hn6, si_si]
      refine ih (a + 1) v (by omega) (by omega) (by omega) (fun k hk hk2 => hd k (by omega) hk2) ?_
      rw [if_neg (by omega)] at h ⊢
      exact h
    · simp (disch := omega) only [wp_Md_number, wb_Md_number_2, Md_here_r hT' haq (show a < len by omega), haq, litI, n_le, n_lt, n_eq, n_in, n_cl, nI_add, n_b0, n_b1, n_v0, n_v1, n_m1, n_m1', n_m1l, n_m1l', n_m1g, n_m1ge, si_1, si_2, forall_eq, not_true_eq_false, not_false_eq_true, true_imp_iff, false_imp_iff, true_and, and_true, false_and, and_false, implies_true, ite_true, ite_false, if_true, if_false, Classical.not_not, Nat.reduceEqDiff, reduceIte, Nat.add_left_cancel_iff, Nat.add_eq_left, Nat.left_eq_add, and_self, n_sub, pk_mul, Md_isDigit_r, bI_0, eq_true h6, eq_false hn6, si_si]
      refine ih (a + 1) _ (by omega) (by omega) (by omega) (fun k hk hk2 => hd k (by omega) hk2) ?_
      rw [if_pos (by omega)] at h
      have e1 : min (6 - (a - a0)) (a' - a) = min (6 - (a + 1 - a0)) (a' - (a + 1)) + 1 := by omega
      rw [e1] at h
      have e3 : nI 10 * v + nI (tx a) - nI 48 = nI 10 * v + (nI (tx a) - nI 48) := by rw [Int32.sub_eq_add_neg, Int32.add_assoc, ← Int32.sub_eq_add_neg]
      have e2 : (if a + 1 - a0 < 6 then dig tx (a + 1) (min (6 - (a + 1 - a0)) (a' - (a + 1))) (nI 10 * v + (nI (tx a) - nI 48)) else nI 10 * v + (nI (tx a) - nI 48)) = dig tx a (min (6 - (a + 1 - a0)) (a' - (a + 1)) + 1) v := by
        split
        · rfl
        · rw [show min (6 - (a + 1 - a0)) (a' - (a + 1)) = 0 by omega]; rfl
      rw [e3, e2]
      exact h
/-- the words' letters, their starts and ends -/
def wl (j : Nat) : Nat := wlets.getD j 0
def ws (w : Nat) : Nat := wstas.getD w 0
def we (w : Nat) : Nat := wstas.getD (w + 1) 0 - 1
theorem ws_ok : ∀ w, w < 30 → 1 ≤ w → ws w ≤ we w ∧ we w + 1 = wstas.getD (w + 1) 0 ∧ we w < 202 ∧ we w - ws w ≤ 12 := by decide +kernel
theorem wl_ok : ∀ j, j < 202 → wl j ≤ 126 := by decide +kernel
def WB (σ : Sg) : Prop := σ.1 27 = wlet ∧ σ.1 28 = wsta
theorem Wb_isWord_r {b len : Nat} {tx : Nat → Nat} {σ : Sg} (hT : Tx b σ len tx) (hW : WB σ) {w f e : Nat} (h1 : 1 ≤ w) (h2 : w < 30) (hf : f ≤ e) (he : e ≤ len) : Ri (wq_Wb_isWord b (nI w) (nI f) (nI e) σ) (nI (bI (eqn tx f e wl (ws w) (we w)))) σ := by
  obtain ⟨t1, t2, t3⟩ := hT
  obtain ⟨w1, w2, w3, w4⟩ := ws_ok w h2 h1
  have h4 := tl_le b
  have q1 : σ.1 28 w = nI (ws w) := by rw [hW.2]; rfl
  have q2 : σ.1 28 (w + 1) = nI (we w + 1) := by rw [hW.2, w2]; rfl
  have q3 : ∀ j, σ.1 27 j = nI (wl j) := by intro j; rw [hW.1]; rfl
  intro post hp
  unfold wq_Wb_isWord
  refine ex_s ?_
  have q4 : we w + 1 - 1 - ws w = we w - ws w := by omega
  simp (disch := omega) only [wp_Wb_isWord, wb_Wb_isWord_0, litI, n_le, n_lt, n_eq, n_in, n_cl, nI_add, n_b0, n_b1, n_v0, n_v1, n_m1, n_m1', n_m1l, n_m1l', n_m1g, n_m1ge, si_1, si_2, forall_eq, not_true_eq_false, not_false_eq_true, true_imp_iff, false_imp_iff, true_and, and_true, false_and, and_false, implies_true, ite_true, ite_false, if_true, if_false, Classical.not_not, Nat.reduceEqDiff, reduceIte, Nat.add_left_cancel_iff, Nat.add_eq_left, Nat.left_eq_add, and_self, n_sub, pk_mul, eq_true (show w < 31 by omega), eq_true (show w + 1 < 31 by omega), q1, q2, q4]
  by_cases hq : e - f = we w - ws w
  · simp only [eq_true hq, litI, n_le, n_lt, n_eq, n_in, n_cl, nI_add, n_b0, n_b1, n_v0, n_v1, n_m1, n_m1', n_m1l, n_m1l', n_m1g, n_m1ge, si_1, si_2, forall_eq, not_true_eq_false, not_false_eq_true, true_imp_iff, false_imp_iff, true_and, and_true, false_and, and_false, implies_true, ite_true, ite_false, if_true, if_false, Classical.not_not, Nat.reduceEqDiff, reduceIte, Nat.add_left_cancel_iff, Nat.add_eq_left, Nat.left_eq_add, and_self, n_sub, pk_mul]
    have key : ∀ d k, e - f - k = d → k ≤ e - f → (∀ j, j < k → tx (f + j) = wl (ws w + j)) → ∃ n, wp_Wb_isWord b post n 1 (nI 0) (nI f) (nI e) (nI (ws w)) (nI k) σ := by
      intro d
      induction d with
      | zero =>
        intro k hd hk hj
        rw [bI_t ⟨hq, fun j hj' => hj j (by omega)⟩] at hp
        refine ⟨1, ?_⟩
        simp (disch := omega) only [wp_Wb_isWord, wb_Wb_isWord_1, litI, n_le, n_lt, n_eq, n_in, n_cl, nI_add, n_b0, n_b1, n_v0, n_v1, n_m1, n_m1', n_m1l, n_m1l', n_m1g, n_m1ge, si_1, si_2, forall_eq, not_true_eq_false, not_false_eq_true, true_imp_iff, false_imp_iff, true_and, and_true, false_and, and_false, implies_true, ite_true, ite_false, if_true, if_false, Classical.not_not, Nat.reduceEqDiff, reduceIte, Nat.add_left_cancel_iff, Nat.add_eq_left, Nat.left_eq_add, and_self, n_sub, pk_mul, eq_true (show e - f ≤ k by omega)]
        exact hp
      | succ d ih =>
        intro k hd hk hj
        have r1 := t3 (f + k) (by omega)
        have r2 := wl_ok (ws w + k) (by omega)
        by_cases hx : tx (f + k) = wl (ws w + k)
        · refine ex_s ?_
          simp (disch := omega) only [wp_Wb_isWord, wb_Wb_isWord_1, litI, n_le, n_lt, n_eq, n_in, n_cl, nI_add, n_b0, n_b1, n_v0, n_v1, n_m1, n_m1', n_m1l, n_m1l', n_m1g, n_m1ge, si_1, si_2, forall_eq, not_true_eq_false, not_false_eq_true, true_imp_iff, false_imp_iff, true_and, and_true, false_and, and_false, implies_true, ite_true, ite_false, if_true, if_false, Classical.not_not, Nat.reduceEqDiff, reduceIte, Nat.add_left_cancel_iff, Nat.add_eq_left, Nat.left_eq_add, and_self, n_sub, pk_mul, eq_false (show ¬ e - f ≤ k by omega), eq_true (show f + k < tl b by omega), eq_true (show ws w + k < 202 by omega), r1.1, q3, eq_true hx]
          exact ih (k + 1) (by omega) (by omega) (fun j hj' => by
            rcases Nat.lt_or_ge j k with h | h
            · exact hj j h
            · have : j = k := by omega
              subst this; exact hx)
        · rw [bI_f (fun h => hx (h.2 k (by omega)))] at hp
          refine ⟨1, ?_⟩
          simp (disch := omega) only [wp_Wb_isWord, wb_Wb_isWord_1, litI, n_le, n_lt, n_eq, n_in, n_cl, nI_add, n_b0, n_b1, n_v0, n_v1, n_m1, n_m1', n_m1l, n_m1l', n_m1g, n_m1ge, si_1, si_2, forall_eq, not_true_eq_false, not_false_eq_true, true_imp_iff, false_imp_iff, true_and, and_true, false_and, and_false, implies_true, ite_true, ite_false, if_true, if_false, Classical.not_not, Nat.reduceEqDiff, reduceIte, Nat.add_left_cancel_iff, Nat.add_eq_left, Nat.left_eq_add, and_self, n_sub, pk_mul, eq_false (show ¬ e - f ≤ k by omega), eq_true (show f + k < tl b by omega), eq_true (show ws w + k < 202 by omega), r1.1, q3, eq_false hx]
          exact hp
    exact key _ 0 rfl (by omega) (fun j hj => by omega)
  · rw [bI_f (fun h => hq h.1)] at hp
    simp only [eq_false hq, litI, n_le, n_lt, n_eq, n_in, n_cl, nI_add, n_b0, n_b1, n_v0, n_v1, n_m1, n_m1', n_m1l, n_m1l', n_m1g, n_m1ge, si_1, si_2, forall_eq, not_true_eq_false, not_false_eq_true, true_imp_iff, false_imp_iff, true_and, and_true, false_and, and_false, implies_true, ite_true, ite_false, if_true, if_false, Classical.not_not, Nat.reduceEqDiff, reduceIte, Nat.add_left_cancel_iff, Nat.add_eq_left, Nat.left_eq_add, and_self, n_sub, pk_mul]
    exact ⟨0, hp⟩
/-- letters packed, five bits each -/
def pkL (tx : Nat → Nat) (f : Nat) : Nat → Nat
  | 0 => 0
  | n + 1 => pkL tx f n + (tx (f + n) - 96) * 2 ^ (5 * n)
theorem pkL_front (tx : Nat → Nat) (f n : Nat) : pkL tx f (n + 1) = (tx f - 96) + 32 * pkL tx (f + 1) n := by
  induction n with
  | zero => simp [pkL]
  | succ n ih =>
    rw [show pkL tx f (n + 1 + 1) = pkL tx f (n + 1) + (tx (f + (n + 1)) - 96) * 2 ^ (5 * (n + 1)) from rfl, ih, show pkL tx (f + 1) (n + 1) = pkL tx (f + 1) n + (tx (f + 1 + n) - 96) * 2 ^ (5 * n) from rfl, show f + (n + 1) = f + 1 + n by omega, show 2 ^ (5 * (n + 1)) = 32 * 2 ^ (5 * n) by rw [show 5 * (n + 1) = 5 + 5 * n by omega, Nat.pow_add]]
    rw [Nat.mul_add, Nat.add_assoc]
    congr 2
    rw [Nat.mul_left_comm]
theorem pkL_lt (tx : Nat → Nat) (f : Nat) : ∀ n, (∀ j, j < n → isLo (tx (f + j))) → pkL tx f n < 2 ^ (5 * n)
  | 0, _ => by simp [pkL]
  | n + 1, h => by
    have h1 := pkL_lt tx f n (fun j hj => h j (by omega))
    have h2 := h n (by omega)
    rw [show pkL tx f (n + 1) = pkL tx f n + (tx (f + n) - 96) * 2 ^ (5 * n) from rfl, show 5 * (n + 1) = 5 * n + 5 by omega, Nat.pow_add]
    have h3 : (tx (f + n) - 96) * 2 ^ (5 * n) ≤ 26 * 2 ^ (5 * n) := Nat.mul_le_mul_right _ (by omega)
    omega
theorem pkL_inj : ∀ n m (tx tx1 : Nat → Nat) (f g : Nat), (∀ j, j < n → isLo (tx (f + j))) → (∀ j, j < m → isLo (tx1 (g + j))) → pkL tx f n = pkL tx1 g m → n = m ∧ ∀ j, j < n → tx (f + j) = tx1 (g + j)
  | 0, 0, _, _, _, _, _, _, _ => ⟨rfl, fun j hj => by omega⟩
  | 0, m + 1, tx, tx1, f, g, _, h2, h => by
    have h3 := h2 0 (by omega)
    rw [pkL_front, show pkL tx f 0 = 0 from rfl] at h
    rw [Nat.add_zero] at h3
    omega
  | n + 1, 0, tx, tx1, f, g, h1, _, h => by
    have h3 := h1 0 (by omega)
    rw [pkL_front, show pkL tx1 g 0 = 0 from rfl] at h
    rw [Nat.add_zero] at h3
    omega
  | n + 1, m + 1, tx, tx1, f, g, h1, h2, h => by
    have h3 := h1 0 (by omega)
    have h4 := h2 0 (by omega)
    rw [pkL_front, pkL_front] at h
    rw [Nat.add_zero] at h3 h4
    obtain ⟨e1, e2⟩ := pkL_inj n m tx tx1 (f + 1) (g + 1) (fun j hj => by rw [show f + 1 + j = f + (j + 1) by omega]; exact h1 (j + 1) (by omega)) (fun j hj => by rw [show g + 1 + j = g + (j + 1) by omega]; exact h2 (j + 1) (by omega)) (by omega)
    refine ⟨by omega, fun j hj => ?_⟩
    cases j with
    | zero => rw [Nat.add_zero, Nat.add_zero]; omega
    | succ j => rw [show f + (j + 1) = f + 1 + j by omega, show g + (j + 1) = g + 1 + j by omega]; exact e2 j (by omega)
theorem cmp_lt (x y : Int64) : (lg_cmp x y < nI 0) ↔ x < y := lg_cmp_lt x y
theorem cmp_eq (x y : Int64) : (lg_cmp x y = nI 0) ↔ x = y := lg_cmp_eq x y
/-- what packed answers -/
def pkR (tx : Nat → Nat) (f e : Nat) : Int64 := if e - f ≤ 12 ∧ ∀ j, j < e - f → isLo (tx (f + j)) then lN (pkL tx f (e - f)) else -1
theorem Md_packed_r {t len : Nat} {tx : Nat → Nat} {σ : Sg} (hT : TM t σ len tx) {f e : Nat} (hf : f ≤ e) (he : e ≤ len) (post : Int64 → Sg → Prop) (hp : post (pkR tx f e) σ) : wq_Md_packed (nI f) (nI e) σ post := by
  obtain ⟨h0, h1, h2, h3, h3', h4⟩ := hT
  unfold wq_Md_packed
  refine ex_s ?_
  have hneg : ((-1 : Int64) < 0) = True := by decide +kernel
  by_cases hq : e - f ≤ 12
  · simp (disch := omega) only [wp_Md_packed, wb_Md_packed_0, litI, n_le, n_lt, n_eq, n_in, n_cl, nI_add, n_b0, n_b1, n_v0, n_v1, n_m1, n_m1', n_m1l, n_m1l', n_m1g, n_m1ge, si_1, si_2, forall_eq, not_true_eq_false, not_false_eq_true, true_imp_iff, false_imp_iff, true_and, and_true, false_and, and_false, implies_true, ite_true, ite_false, if_true, if_false, Classical.not_not, Nat.reduceEqDiff, reduceIte, Nat.add_left_cancel_iff, Nat.add_eq_left, Nat.left_eq_add, and_self, n_sub, pk_mul, eq_true hq]
    have key : ∀ d k, e - f - k = d → k ≤ e - f → (∀ j, j < k → isLo (tx (f + j))) → ∃ n, wp_Md_packed post n 1 (nI f) (nI e) (nI (f + k)) (lN (pkL tx f k)) σ := by
      intro d
      induction d with
      | zero =>
        intro k hd hk hj
        have hke : k = e - f := by omega
        subst hke
        rw [pkR, if_pos ⟨hq, hj⟩] at hp
        refine ⟨1, ?_⟩
        simp (disch := omega) only [wp_Md_packed, wb_Md_packed_1, litI, n_le, n_lt, n_eq, n_in, n_cl, nI_add, n_b0, n_b1, n_v0, n_v1, n_m1, n_m1', n_m1l, n_m1l', n_m1g, n_m1ge, si_1, si_2, forall_eq, not_true_eq_false, not_false_eq_true, true_imp_iff, false_imp_iff, true_and, and_true, false_and, and_false, implies_true, ite_true, ite_false, if_true, if_false, Classical.not_not, Nat.reduceEqDiff, reduceIte, Nat.add_left_cancel_iff, Nat.add_eq_left, Nat.left_eq_add, and_self, n_sub, pk_mul, eq_true (show e ≤ f + (e - f) by omega)]
        exact hp
      | succ d ih =>
        intro k hd hk hj
        have r1 := h4 (f + k) (by omega)
        have b1 := pkL_lt tx f k hj
        have b2 : 2 ^ (5 * k) ≤ 2 ^ 60 := Nat.pow_le_pow_right (by decide) (by omega)
        have r2 : ¬ (lN (pkL tx f k) < (0 : Int64)) := by
          rw [show (0 : Int64) = lN 0 from rfl, pk_lLT (by omega) (by omega)]; omega
        by_cases hx : isLo (tx (f + k))
        · refine ex_s ?_
          simp (disch := omega) only [wp_Md_packed, wb_Md_packed_1, litI, n_le, n_lt, n_eq, n_in, n_cl, nI_add, n_b0, n_b1, n_v0, n_v1, n_m1, n_m1', n_m1l, n_m1l', n_m1g, n_m1ge, si_1, si_2, forall_eq, not_true_eq_false, not_false_eq_true, true_imp_iff, false_imp_iff, true_and, and_true, false_and, and_false, implies_true, ite_true, ite_false, if_true, if_false, Classical.not_not, Nat.reduceEqDiff, reduceIte, Nat.add_left_cancel_iff, Nat.add_eq_left, Nat.left_eq_add, and_self, n_sub, pk_mul, cmp_lt, h1, eq_false (show ¬ e ≤ f + k by omega), eq_false r2, eq_true (show 160 * t + (f + k) < 240 by omega), r1.1, Md_isLetter_r, bI_0, eq_true hx]
          have e1 : f + k - f = k := by omega
          have e2 : lN (pkL tx f k) ||| (nI (tx (f + k) - 96)).toInt64 <<< ((nI (5 * k)).toInt64 &&& 63) = lN (pkL tx f (k + 1)) := by
            rw [nI_l (by omega), wb_shl _ (by omega)]
            rw [g_or' (k := 5 * k) rfl b1]
            · rfl
            · have h3 : (tx (f + k) - 96) * 2 ^ (5 * k) ≤ 26 * 2 ^ (5 * k) := Nat.mul_le_mul_right _ (by omega)
              have b3 : 2 ^ (5 * k) ≤ 2 ^ 55 := Nat.pow_le_pow_right (by decide) (by omega)
              omega
          simp only [e1, e2]
          exact ih (k + 1) (by omega) (by omega) (fun j hj' => by
            rcases Nat.lt_or_ge j k with h | h
            · exact hj j h
            · have : j = k := by omega
              subst this; exact hx)
        · rw [pkR, if_neg (fun h => hx (h.2 k (by omega)))] at hp
          refine ⟨2, ?_⟩
          simp (disch := omega) only [wp_Md_packed, wb_Md_packed_1, litI, n_le, n_lt, n_eq, n_in, n_cl, nI_add, n_b0, n_b1, n_v0, n_v1, n_m1, n_m1', n_m1l, n_m1l', n_m1g, n_m1ge, si_1, si_2, forall_eq, not_true_eq_false, not_false_eq_true, true_imp_iff, false_imp_iff, true_and, and_true, false_and, and_false, implies_true, ite_true, ite_false, if_true, if_false, Classical.not_not, Nat.reduceEqDiff, reduceIte, Nat.add_left_cancel_iff, Nat.add_eq_left, Nat.left_eq_add, and_self, n_sub, pk_mul, cmp_lt, h1, eq_false (show ¬ e ≤ f + k by omega), eq_false r2, eq_true (show 160 * t + (f + k) < 240 by omega), r1.1, Md_isLetter_r, bI_0, eq_false hx, hneg]
          exact ⟨fun _ => hp, fun _ => hp⟩
    exact key _ 0 rfl (by omega) (fun j hj => by omega)
  · rw [pkR, if_neg (fun h => hq h.1)] at hp
    refine ⟨1, ?_⟩
    simp (disch := omega) only [wp_Md_packed, wb_Md_packed_0, wb_Md_packed_1, litI, n_le, n_lt, n_eq, n_in, n_cl, nI_add, n_b0, n_b1, n_v0, n_v1, n_m1, n_m1', n_m1l, n_m1l', n_m1g, n_m1ge, si_1, si_2, forall_eq, not_true_eq_false, not_false_eq_true, true_imp_iff, false_imp_iff, true_and, and_true, false_and, and_false, implies_true, ite_true, ite_false, if_true, if_false, Classical.not_not, Nat.reduceEqDiff, reduceIte, Nat.add_left_cancel_iff, Nat.add_eq_left, Nat.left_eq_add, and_self, n_sub, pk_mul, eq_false hq, cmp_lt, hneg]
    exact ⟨fun _ => hp, fun _ => hp⟩
theorem pkW_lo : ∀ w, w < 30 → 1 ≤ w → ∀ j, j < 12 → j < we w - ws w → isLo (wl (ws w + j)) := by decide +kernel
theorem pkR_eq {tx : Nat → Nat} {f e w : Nat} (h1 : 1 ≤ w) (h2 : w < 30) : pkR tx f e = lN (pkL wl (ws w) (we w - ws w)) ↔ eqn tx f e wl (ws w) (we w) := by
  obtain ⟨w1, w2, w3, w4⟩ := ws_ok w h2 h1
  have hlo : ∀ j, j < we w - ws w → isLo (wl (ws w + j)) := fun j hj => pkW_lo w h2 h1 j (by omega) hj
  have hb : ∀ n, n ≤ 12 → 2 ^ (5 * n) ≤ 2 ^ 60 := fun n hn => Nat.pow_le_pow_right (by decide) (by omega)
  have b1 := pkL_lt wl (ws w) _ hlo
  have b2 := hb _ w4
  unfold pkR
  by_cases hq : e - f ≤ 12 ∧ ∀ j, j < e - f → isLo (tx (f + j))
  · rw [if_pos hq, pk_lEQ (by have := pkL_lt tx f _ hq.2; have := hb _ hq.1; omega) (by omega)]
    constructor
    · intro h
      exact pkL_inj _ _ tx wl f (ws w) hq.2 hlo h
    · intro h
      have hc : ∀ n (u v : Nat → Nat) a c, (∀ j, j < n → u (a + j) = v (c + j)) → pkL u a n = pkL v c n := by
        intro n
        induction n with
        | zero => intros; rfl
        | succ n ih => intro u v a c hh; unfold pkL; rw [ih u v a c (fun j hj => hh j (by omega)), hh n (by omega)]
      rw [← h.1]; exact hc _ _ _ _ _ h.2
  · rw [if_neg hq]
    constructor
    · intro h
      exfalso
      have h5 := congrArg Int64.toInt h
      rw [pk_lT (by omega)] at h5
      have h6 : ((-1 : Int64)).toInt = -1 := by decide +kernel
      omega
    · intro h
      exact absurd ⟨by omega, fun j hj => by rw [h.2 j hj]; exact hlo j (by omega)⟩ hq
theorem mw_ok : ∀ w, w < 28 → 1 ≤ w → mwords (w - 1) = lN (pkL wl (ws w) (we w - ws w)) := by decide +kernel
theorem mw_28 : (5877798 : Int64) = lN (pkL wl (ws 28) (we 28 - ws 28)) := by decide +kernel
theorem mw_29 : (185940 : Int64) = lN (pkL wl (ws 29) (we 29 - ws 29)) := by decide +kernel
