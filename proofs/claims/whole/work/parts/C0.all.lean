section JA
variable {tS : Nat → Nat} {lS : Nat} {S : TG} {tD : Nat → Nat} {lD : Nat} {D : TG} {L : List Nat} {σ : Sg}
def Pj (c k : Nat) : Prop := (c = 54 ∧ (k = 38 ∨ k = 39)) ∨ (80 ≤ c ∧ c ≤ 87)
theorem judgeAll_m (M : MC tS lS S tD lD D L σ) (hall : ∀ s, s < S.N → s ∈ L) : ∃ σ', Rv (wq_Md_judgeAll σ) σ' ∧ FL Pj σ σ' ∧ (∀ a j, a < S.N → j < D.N → bt σ' 80 a j = EQ tS lS S tD lD D a j) ∧ (∀ s i, s < S.N → i < D.N → bt σ' 82 s i = HH tS lS S tD lD D s i) ∧ (∀ s i, s < S.N → i < 80 → bt σ' 84 s i = false) := by
  have hns := M.ns
  have hnd := M.nd
  have hPj : ∀ k, ¬ Pj 55 k := fun k => by unfold Pj; omega
  have z0 : (0 : Int32).toNatClampNeg = 0 := rfl
  obtain ⟨σa, a1, a2, a3⟩ := Md_compare_r M
  have fa : FL Pj σ σa := FL_m a2 (fun c k h => by unfold Pe at h; unfold Pj; omega)
  obtain ⟨R, hR⟩ : ∃ R : Sg → Prop, R = fun σ' => FL Pj σ σ' ∧ (∀ a j, a < S.N → j < D.N → bt σ' 80 a j = EQ tS lS S tD lD D a j) ∧ (∀ s i, s < S.N → i < D.N → bt σ' 82 s i = HH tS lS S tD lD D s i) ∧ (∀ s i, s < S.N → i < 80 → bt σ' 84 s i = false) := ⟨_, rfl⟩
  have e2 : ∀ m, nI m + (-1) = nI m - nI 1 := fun m => by rw [Int32.sub_eq_add_neg]; rfl
  have fills : ∀ m (σ1 : Sg), m ≤ D.N → FL Pj σ σ1 → (∀ a j, a < S.N → j < D.N → bt σ1 80 a j = EQ tS lS S tD lD D a j) → (∀ s i, s < S.N → i < D.N → bt σ1 82 s i = (decide (m ≤ i) && HH tS lS S tD lD D s i)) → (∀ s i, s < S.N → i < 80 → bt σ1 84 s i = false) → Ex0 (fun post n => wp_Md_judgeAll post n 2 (nI (160 + m) - nI 1) σ1) R := by
    intro m
    induction m with
    | zero =>
      intro σ1 _ f1 hE hh h84
      refine ⟨σ1, by rw [hR]; exact ⟨f1, hE, fun s i hs hi => by rw [hh s i hs hi]; simp, h84⟩, fun post hp => ⟨1, ?_⟩⟩
      show wb_Md_judgeAll_2 (wp_Md_judgeAll post 0) post (nI (160 + 0) - nI 1) σ1
      rw [n_sub (by omega)]
      simp (disch := omega) only [wb_Md_judgeAll_2, litI, n_lt, eq_true (show 160 + 0 - 1 < 160 by omega), litI, n_le, n_lt, n_eq, n_in, n_cl, nI_add, n_b0, n_b1, n_v0, n_v1, n_m1, n_m1', n_m1l, n_m1l', n_m1g, n_m1ge, si_1, si_2, forall_eq, not_true_eq_false, not_false_eq_true, true_imp_iff, false_imp_iff, true_and, and_true, false_and, and_false, implies_true, ite_true, ite_false, if_true, if_false, Classical.not_not, Nat.reduceEqDiff, reduceIte, Nat.add_left_cancel_iff, Nat.add_eq_left, Nat.left_eq_add, and_self, n_sub, pk_mul]
      exact hp
    | succ i ih =>
      intro σ1 hm f1 hE hh h84
      have e3 : nI (160 + (i + 1)) - nI 1 = nI (160 + i) := by rw [n_sub (by omega)]; rfl
      rw [e3]
      obtain ⟨σ2, b1, b2, b3, b4, b5⟩ := fill_m (MC_FL M f1 hPj) hE hall (show i < D.N by omega) (fun s hs c hc => by
        have := M.wd.ch i (by omega) c hc
        rw [hh s c hs this.2.1, decide_eq_true (by omega), Bool.true_and]) (fun s hs q => by
        rw [hh s i hs (by omega), decide_eq_false (by omega)] at q; cases q)
      refine Ex0_s (ih σ2 (by omega) (FL_t f1 (FL_m b2 (fun c k h => by unfold Pf at h; unfold Pj; omega))) (fun a j ha hj => by rw [← hE a j ha hj]; exact bt_o (b2.2.2 80 a (by unfold Pf; omega)) (b2.2.2 81 a (by unfold Pf; omega))) (fun s j hs hj => ?_) (fun s j hs hj => by rw [← h84 s j hs hj]; exact bt_o (b2.2.2 84 s (by unfold Pf; omega)) (b2.2.2 85 s (by unfold Pf; omega)))) (fun post n hn => ⟨n + 1, ?_⟩)
      · by_cases e : j = i
        · subst e; rw [b3 s hs, decide_eq_true (Nat.le_refl _), Bool.true_and]
        · rw [b4 s j (by omega) e, hh s j hs hj]
          have hdd := dd (show i + 1 ≤ j ↔ i ≤ j from by omega)
          rw [hdd]
      · show wb_Md_judgeAll_2 (wp_Md_judgeAll post n) post (nI (160 + i)) σ1
        rw [← e2] at hn
        simp (disch := omega) only [wb_Md_judgeAll_2, litI, n_lt, eq_false (show ¬ 160 + i < 160 by omega), not_false_eq_true, false_imp_iff, true_imp_iff, true_and]
        exact b1 _ hn
  have clr : ∀ m (σ1 : Sg) (k : Nat), S.N - k ≤ m → k ≤ S.N → FL Pj σ σ1 → (∀ a j, a < S.N → j < D.N → bt σ1 80 a j = EQ tS lS S tD lD D a j) → (∀ s i, s < k → i < 80 → bt σ1 82 s i = false ∧ bt σ1 84 s i = false) → Ex0 (fun post n => wp_Md_judgeAll post n 1 (nI k) σ1) R := by
    intro m
    have fin : ∀ (σ1 : Sg), FL Pj σ σ1 → (∀ a j, a < S.N → j < D.N → bt σ1 80 a j = EQ tS lS S tD lD D a j) → (∀ s i, s < S.N → i < 80 → bt σ1 82 s i = false ∧ bt σ1 84 s i = false) → Ex0 (fun post n => wp_Md_judgeAll post n 1 (nI S.N) σ1) R := by
      intro σ1 f1 hE hz
      have n0 : σ1.1 58 0 = nI S.N := by rw [f1.1]; exact (MC_T M).nS
      have n1 : σ1.1 58 1 = nI D.N := by rw [f1.1]; exact (MC_T M).nD
      refine Ex0_s (fills D.N σ1 (Nat.le_refl _) f1 hE (fun s i hs hi => by rw [(hz s i hs (by omega)).1, decide_eq_false (by omega)]; rfl) (fun s i hs hi => (hz s i hs hi).2)) (fun post n hn => ⟨n + 1, ?_⟩)
      show wb_Md_judgeAll_1 (wp_Md_judgeAll post n) post (nI S.N) σ1
      simp (disch := omega) only [wb_Md_judgeAll_1, litI, n_in, n_cl, n0, n1, n_le, nI_add, Nat.le_refl, eq_true (show 0 < 2 by decide), eq_true (show 1 < 2 by decide), not_true_eq_false, false_imp_iff, true_imp_iff, true_and, and_true]
      exact hn
    induction m with
    | zero =>
      intro σ1 k hm hk f1 hE hz
      have e : k = S.N := by omega
      subst e; exact fin σ1 f1 hE hz
    | succ m ih =>
      intro σ1 k hm hk f1 hE hz
      rcases Nat.eq_or_lt_of_le hk with e | e
      · subst e; exact fin σ1 f1 hE hz
      have n0 : σ1.1 58 0 = nI S.N := by rw [f1.1]; exact (MC_T M).nS
      refine Ex0_s (ih (sl (sl (sl (sl σ1 82 k 0) 83 k 0) 84 k 0) 85 k 0) (k + 1) (by omega) (by omega) (FL_sl (FL_sl (FL_sl (FL_sl f1 (Or.inr (by omega))) (Or.inr (by omega))) (Or.inr (by omega))) (Or.inr (by omega))) (fun a j ha hj => by
        rw [← hE a j ha hj]
        refine bt_o ?_ ?_ <;> (rw [sl_2, if_neg (by omega), sl_2, if_neg (by omega), sl_2, if_neg (by omega), sl_2, if_neg (by omega)])) (fun s i hs hi => by
        by_cases e2 : s = k
        · subst e2; unfold bt; by_cases hk2 : i < 64 <;> simp [hk2, sl_2, gb_0]
        · have := hz s i (by omega) hi
          have ho : ∀ c, (sl (sl (sl (sl σ1 82 k 0) 83 k 0) 84 k 0) 85 k 0).2.1 c s = σ1.2.1 c s := fun c => by rw [sl_2, if_neg (fun q => e2 q.2), sl_2, if_neg (fun q => e2 q.2), sl_2, if_neg (fun q => e2 q.2), sl_2, if_neg (fun q => e2 q.2)]
          exact ⟨by rw [bt_o (ho 82) (ho 83)]; exact this.1, by rw [bt_o (ho 84) (ho 85)]; exact this.2⟩)) (fun post n hn => ⟨n + 1, ?_⟩)
      show wb_Md_judgeAll_1 (wp_Md_judgeAll post n) post (nI k) σ1
      simp (disch := omega) only [wb_Md_judgeAll_1, litI, n_in, n_cl, n0, n_le, nI_add, eq_false (show ¬ S.N ≤ k by omega), eq_true (show 0 < 2 by decide), eq_true (show k < 160 by omega), not_false_eq_true, false_imp_iff, true_imp_iff, true_and, forall_eq]
      exact hn
  obtain ⟨σ', q1, q2⟩ := clr _ σa 0 (Nat.le_refl _) (by omega) fa a3 (fun s i hs => by omega)
  rw [hR] at q1
  refine ⟨σ', fun post hp => ?_, q1⟩
  obtain ⟨n, hn⟩ := q2 post hp
  refine ⟨n + 1, ?_⟩
  show wb_Md_judgeAll_0 (wp_Md_judgeAll post n) post σ
  exact a1 _ hn
end JA
