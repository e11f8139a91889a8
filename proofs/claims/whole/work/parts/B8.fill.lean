section FI
variable {tS : Nat → Nat} {lS : Nat} {S : TG} {tD : Nat → Nat} {lD : Nat} {D : TG} {L : List Nat} {σ : Sg}
theorem says_m (M : MC tS lS S tD lD D L σ) (hE : ∀ a j, a < S.N → j < D.N → bt σ 80 a j = EQ tS lS S tD lD D a j) {s w v i : Nat} (hs : s < S.N) (hi : i < D.N) (hr : rul tS lS S s w = some v) (w1 : 1 ≤ w) (w2 : w ≤ 20) :
    Ri (wq_Md_says (nI s) (nI w) (nI v) (nI (160 + i)) σ) (nB (sob tS lS S tD lD D (hMf σ) (eMf σ) s w v i)) σ := by
  have T := MC_T M
  have hn := M.ns
  have hd := M.nd
  have hv := rul_lt M.ws hs hr
  have hkv := M.ws.kd v hv
  have hki := M.wd.kd i hi
  intro post hp
  unfold wq_Md_says
  refine ex_s ?_
  show ∃ n, wb_Md_says_0 (wp_Md_says post n) post (nI s) (nI w) (nI v) (nI (160 + i)) σ
  have fin : ∀ {b : Bool}, post (nB b) σ → (narrow .boolean (.int (nB b)) = .int (nB b) ∧ post (nB b) σ) := fun h => ⟨(nB_n _).mpr trivial, h⟩
  unfold sob at hp
  by_cases q1 : w = 1
  · rw [if_pos q1] at hp
    refine ⟨0, ?_⟩
    simp (disch := omega) only [wb_Md_says_0, litI, n_le, n_lt, n_eq, n_in, n_cl, nI_add, n_b0, n_b1, n_v0, n_v1, n_m1, n_m1', n_m1l, n_m1l', n_m1g, n_m1ge, si_1, si_2, forall_eq, not_true_eq_false, not_false_eq_true, true_imp_iff, false_imp_iff, true_and, and_true, false_and, and_false, implies_true, ite_true, ite_false, if_true, if_false, Classical.not_not, Nat.reduceEqDiff, reduceIte, Nat.add_left_cancel_iff, Nat.add_eq_left, Nat.left_eq_add, and_self, n_sub, pk_mul, eq_true q1]
    exact typed_m M hv hi _ (fin hp)
  rw [if_neg q1] at hp
  by_cases q2 : w = 2
  · rw [if_pos q2] at hp
    refine ⟨0, ?_⟩
    simp (disch := omega) only [wb_Md_says_0, litI, n_le, n_lt, n_eq, n_in, n_cl, nI_add, n_b0, n_b1, n_v0, n_v1, n_m1, n_m1', n_m1l, n_m1l', n_m1g, n_m1ge, si_1, si_2, forall_eq, not_true_eq_false, not_false_eq_true, true_imp_iff, false_imp_iff, true_and, and_true, false_and, and_false, implies_true, ite_true, ite_false, if_true, if_false, Classical.not_not, Nat.reduceEqDiff, reduceIte, Nat.add_left_cancel_iff, Nat.add_eq_left, Nat.left_eq_add, and_self, n_sub, pk_mul, eq_false q1, eq_true q2, Md_isEqual_r (show i < 80 by omega) (show v < 160 by omega), hE v i hv hi]
    exact fin hp
  rw [if_neg q2] at hp
  by_cases q3 : w = 3
  · rw [if_pos q3] at hp
    have key : ∀ suf x (a : Bool), (∀ c ∈ suf, c < S.N) → chM 0 (σ.1 66) x suf → post (nB (a || suf.any (fun a => EQ tS lS S tD lD D a i))) σ → ∃ n, wp_Md_says post n 1 0 0 0 (nI (160 + i)) (nB a) x σ := by
      intro suf
      induction suf with
      | nil =>
        intro x a _ hB hp
        have hB : x = -nI 1 := hB
        subst hB
        simp only [List.any_nil, Bool.or_false] at hp
        refine ⟨1, ?_⟩
        show wb_Md_says_1 (wp_Md_says post 0) post (nI (160 + i)) (nB a) (-nI 1) σ
        simp (disch := omega) only [wb_Md_says_1, litI, hm0, nB_n, litI, n_le, n_lt, n_eq, n_in, n_cl, nI_add, n_b0, n_b1, n_v0, n_v1, n_m1, n_m1', n_m1l, n_m1l', n_m1g, n_m1ge, si_1, si_2, forall_eq, not_true_eq_false, not_false_eq_true, true_imp_iff, false_imp_iff, true_and, and_true, false_and, and_false, implies_true, ite_true, ite_false, if_true, if_false, Classical.not_not, Nat.reduceEqDiff, reduceIte, Nat.add_left_cancel_iff, Nat.add_eq_left, Nat.left_eq_add, and_self, n_sub, pk_mul]
        exact hp
      | cons c suf ih =>
        intro x a hK hB hp
        obtain ⟨hx, hB⟩ := hB
        rw [show 160 * 0 + c = c by omega] at hx hB
        subst hx
        have hcN := hK c (List.mem_cons_self ..)
        rw [List.any_cons, ← Bool.or_assoc] at hp
        obtain ⟨n, hn⟩ := ih _ _ (fun d hd => hK d (List.mem_cons_of_mem _ hd)) hB hp
        refine ⟨n + 1, ?_⟩
        show wb_Md_says_1 (wp_Md_says post n) post (nI (160 + i)) (nB a) (nI c) σ
        simp (disch := omega) only [wb_Md_says_1, litI, n_lt, eq_false (show ¬ c < 0 by omega), not_false_eq_true, false_imp_iff, true_imp_iff, true_and, n_in, n_cl, eq_true (show c < 240 by omega), Md_isEqual_r (show i < 80 by omega) (show c < 160 by omega), hE c i hcN hi]
        refine bQ' (fun q => ?_) (fun q => ?_)
        · rw [q, Bool.false_or] at hn
          exact bQ (fun q2 => by rw [q2] at hn; exact hn) (fun q2 => by rw [q2] at hn; exact hn)
        · rw [q, Bool.true_or] at hn; exact hn
    have hlt : ∀ c ∈ S.K v, c < S.N := fun c hc => (M.ws.ch v hv c hc).2.1
    by_cases k5 : S.kd v = 5
    · rw [if_pos k5] at hp
      simp (disch := omega) only [wb_Md_says_0, litI, n_le, n_lt, n_eq, n_in, n_cl, nI_add, n_b0, n_b1, n_v0, n_v1, n_m1, n_m1', n_m1l, n_m1l', n_m1g, n_m1ge, si_1, si_2, forall_eq, not_true_eq_false, not_false_eq_true, true_imp_iff, false_imp_iff, true_and, and_true, false_and, and_false, implies_true, ite_true, ite_false, if_true, if_false, Classical.not_not, Nat.reduceEqDiff, reduceIte, Nat.add_left_cancel_iff, Nat.add_eq_left, Nat.left_eq_add, and_self, n_sub, pk_mul, eq_false q1, eq_false q2, eq_true q3, T.kS v hv, eq_true (show v < 240 by omega), eq_true k5]
      exact key (S.K v) _ false hlt (T.cS v hv) (by rw [Bool.false_or]; exact hp)
    · rw [if_neg k5] at hp
      simp (disch := omega) only [wb_Md_says_0, litI, n_le, n_lt, n_eq, n_in, n_cl, nI_add, n_b0, n_b1, n_v0, n_v1, n_m1, n_m1', n_m1l, n_m1l', n_m1g, n_m1ge, si_1, si_2, forall_eq, not_true_eq_false, not_false_eq_true, true_imp_iff, false_imp_iff, true_and, and_true, false_and, and_false, implies_true, ite_true, ite_false, if_true, if_false, Classical.not_not, Nat.reduceEqDiff, reduceIte, Nat.add_left_cancel_iff, Nat.add_eq_left, Nat.left_eq_add, and_self, n_sub, pk_mul, eq_false q1, eq_false q2, eq_true q3, T.kS v hv, eq_true (show v < 240 by omega), eq_false k5]
      exact key (S.K v) _ true hlt (T.cS v hv) (by rw [Bool.true_or]; exact hp)
  rw [if_neg q3] at hp
  refine ⟨0, ?_⟩
  by_cases q4 : 4 ≤ w ∧ w ≤ 10
  · rw [if_pos q4] at hp
    simp (disch := omega) only [wb_Md_says_0, litI, n_le, n_lt, n_eq, n_in, n_cl, nI_add, n_b0, n_b1, n_v0, n_v1, n_m1, n_m1', n_m1l, n_m1l', n_m1g, n_m1ge, si_1, si_2, forall_eq, not_true_eq_false, not_false_eq_true, true_imp_iff, false_imp_iff, true_and, and_true, false_and, and_false, implies_true, ite_true, ite_false, if_true, if_false, Classical.not_not, Nat.reduceEqDiff, reduceIte, Nat.add_left_cancel_iff, Nat.add_eq_left, Nat.left_eq_add, and_self, n_sub, pk_mul, eq_false q1, eq_false q2, eq_false q3, eq_false (show ¬ 11 ≤ w by omega)]
    exact measured_m M hv hi q4.1 q4.2 _ (fin hp)
  rw [if_neg q4] at hp
  by_cases q11 : w = 11
  · rw [if_pos q11] at hp
    by_cases k6 : D.kd i = 6
    · simp (disch := omega) only [wb_Md_says_0, litI, n_le, n_lt, n_eq, n_in, n_cl, nI_add, n_b0, n_b1, n_v0, n_v1, n_m1, n_m1', n_m1l, n_m1l', n_m1g, n_m1ge, si_1, si_2, forall_eq, not_true_eq_false, not_false_eq_true, true_imp_iff, false_imp_iff, true_and, and_true, false_and, and_false, implies_true, ite_true, ite_false, if_true, if_false, Classical.not_not, Nat.reduceEqDiff, reduceIte, Nat.add_left_cancel_iff, Nat.add_eq_left, Nat.left_eq_add, and_self, n_sub, pk_mul, eq_false q1, eq_false q2, eq_false q3, eq_true (show 11 ≤ w by omega), eq_true q11, T.kD i hi, eq_true (show 160 + i < 240 by omega), eq_true k6]
      exact required_m M hv hi k6 _ (bP hp)
    · unfold reqb at hp
      rw [if_neg (fun z => k6 z.2)] at hp
      simp (disch := omega) only [wb_Md_says_0, litI, n_le, n_lt, n_eq, n_in, n_cl, nI_add, n_b0, n_b1, n_v0, n_v1, n_m1, n_m1', n_m1l, n_m1l', n_m1g, n_m1ge, si_1, si_2, forall_eq, not_true_eq_false, not_false_eq_true, true_imp_iff, false_imp_iff, true_and, and_true, false_and, and_false, implies_true, ite_true, ite_false, if_true, if_false, Classical.not_not, Nat.reduceEqDiff, reduceIte, Nat.add_left_cancel_iff, Nat.add_eq_left, Nat.left_eq_add, and_self, n_sub, pk_mul, eq_false q1, eq_false q2, eq_false q3, eq_true (show 11 ≤ w by omega), eq_true q11, T.kD i hi, eq_true (show 160 + i < 240 by omega), eq_false k6]
      exact hp
  rw [if_neg q11] at hp
  by_cases q15 : w < 15
  · rw [if_pos (by omega)] at hp
    simp (disch := omega) only [wb_Md_says_0, litI, n_le, n_lt, n_eq, n_in, n_cl, nI_add, n_b0, n_b1, n_v0, n_v1, n_m1, n_m1', n_m1l, n_m1l', n_m1g, n_m1ge, si_1, si_2, forall_eq, not_true_eq_false, not_false_eq_true, true_imp_iff, false_imp_iff, true_and, and_true, false_and, and_false, implies_true, ite_true, ite_false, if_true, if_false, Classical.not_not, Nat.reduceEqDiff, reduceIte, Nat.add_left_cancel_iff, Nat.add_eq_left, Nat.left_eq_add, and_self, n_sub, pk_mul, eq_false q1, eq_false q2, eq_false q3, eq_true (show 11 ≤ w by omega), eq_false q11, eq_true q15]
    exact children_m M hs hi hr (by omega) _ (fin hp)
  by_cases q20 : w = 20
  · rw [if_pos (by omega)] at hp
    simp (disch := omega) only [wb_Md_says_0, litI, n_le, n_lt, n_eq, n_in, n_cl, nI_add, n_b0, n_b1, n_v0, n_v1, n_m1, n_m1', n_m1l, n_m1l', n_m1g, n_m1ge, si_1, si_2, forall_eq, not_true_eq_false, not_false_eq_true, true_imp_iff, false_imp_iff, true_and, and_true, false_and, and_false, implies_true, ite_true, ite_false, if_true, if_false, Classical.not_not, Nat.reduceEqDiff, reduceIte, Nat.add_left_cancel_iff, Nat.add_eq_left, Nat.left_eq_add, and_self, n_sub, pk_mul, eq_false q1, eq_false q2, eq_false q3, eq_true (show 11 ≤ w by omega), eq_false q11, eq_false q15, eq_true q20]
    exact children_m M hs hi hr (by omega) _ (fin hp)
  rw [if_neg (by omega)] at hp
  by_cases q18 : 18 ≤ w
  · rw [if_neg (by omega), if_neg (by omega), if_neg (by omega)] at hp
    by_cases e18 : w = 18
    · rw [if_pos e18] at hp
      simp (disch := omega) only [wb_Md_says_0, litI, n_le, n_lt, n_eq, n_in, n_cl, nI_add, n_b0, n_b1, n_v0, n_v1, n_m1, n_m1', n_m1l, n_m1l', n_m1g, n_m1ge, si_1, si_2, forall_eq, not_true_eq_false, not_false_eq_true, true_imp_iff, false_imp_iff, true_and, and_true, false_and, and_false, implies_true, ite_true, ite_false, if_true, if_false, Classical.not_not, Nat.reduceEqDiff, reduceIte, Nat.add_left_cancel_iff, Nat.add_eq_left, Nat.left_eq_add, and_self, n_sub, pk_mul, eq_false q1, eq_false q2, eq_false q3, eq_true (show 11 ≤ w by omega), eq_false q11, eq_false q15, eq_false q20, eq_true q18, eq_true e18, Md_isSo_r (show i < 80 by omega) (show v < 160 by omega)]
      show (¬ nB (hMf σ v i) = nI 0 → _) ∧ (nB (hMf σ v i) = nI 0 → _)
      exact bQ' (fun q => by rw [q] at hp; exact hp) (fun q => by rw [q] at hp; exact hp)
    · have e19 : w = 19 := by omega
      rw [if_neg e18, if_pos e19] at hp
      have h77 := M.p.r.t v hv
      by_cases k4 : S.kd v = 4
      · rw [if_pos k4] at hp
        simp (disch := omega) only [wb_Md_says_0, litI, n_le, n_lt, n_eq, n_in, n_cl, nI_add, n_b0, n_b1, n_v0, n_v1, n_m1, n_m1', n_m1l, n_m1l', n_m1g, n_m1ge, si_1, si_2, forall_eq, not_true_eq_false, not_false_eq_true, true_imp_iff, false_imp_iff, true_and, and_true, false_and, and_false, implies_true, ite_true, ite_false, if_true, if_false, Classical.not_not, Nat.reduceEqDiff, reduceIte, Nat.add_left_cancel_iff, Nat.add_eq_left, Nat.left_eq_add, and_self, n_sub, pk_mul, eq_false q1, eq_false q2, eq_false q3, eq_true (show 11 ≤ w by omega), eq_false q11, eq_false q15, eq_false q20, eq_true q18, eq_false e18, T.kS v hv, eq_true (show v < 240 by omega), eq_true (show v < 160 by omega), eq_true k4, h77]
        cases hm : mtg tS lS S v with
        | none =>
          rw [hm] at hp
          simp only [oI, hm0, not_true_eq_false, false_imp_iff, true_imp_iff, and_true]
          exact hp
        | some x =>
          have hx := mtg_lt M.ws hv hm
          rw [hm] at hp
          simp (disch := omega) only [oI, n_lt, eq_false (show ¬ x < 0 by omega), not_false_eq_true, false_imp_iff, true_imp_iff, true_and, Md_isSo_r (show i < 80 by omega) (show x < 160 by omega)]
          exact bP hp
      · rw [if_neg k4] at hp
        simp (disch := omega) only [wb_Md_says_0, litI, n_le, n_lt, n_eq, n_in, n_cl, nI_add, n_b0, n_b1, n_v0, n_v1, n_m1, n_m1', n_m1l, n_m1l', n_m1g, n_m1ge, si_1, si_2, forall_eq, not_true_eq_false, not_false_eq_true, true_imp_iff, false_imp_iff, true_and, and_true, false_and, and_false, implies_true, ite_true, ite_false, if_true, if_false, Classical.not_not, Nat.reduceEqDiff, reduceIte, Nat.add_left_cancel_iff, Nat.add_eq_left, Nat.left_eq_add, and_self, n_sub, pk_mul, eq_false q1, eq_false q2, eq_false q3, eq_true (show 11 ≤ w by omega), eq_false q11, eq_false q15, eq_false q20, eq_true q18, eq_false e18, T.kS v hv, eq_true (show v < 240 by omega), eq_false k4]
        exact hp
  · simp (disch := omega) only [wb_Md_says_0, litI, n_le, n_lt, n_eq, n_in, n_cl, nI_add, n_b0, n_b1, n_v0, n_v1, n_m1, n_m1', n_m1l, n_m1l', n_m1g, n_m1ge, si_1, si_2, forall_eq, not_true_eq_false, not_false_eq_true, true_imp_iff, false_imp_iff, true_and, and_true, false_and, and_false, implies_true, ite_true, ite_false, if_true, if_false, Classical.not_not, Nat.reduceEqDiff, reduceIte, Nat.add_left_cancel_iff, Nat.add_eq_left, Nat.left_eq_add, and_self, n_sub, pk_mul, eq_false q1, eq_false q2, eq_false q3, eq_true (show 11 ≤ w by omega), eq_false q11, eq_false q15, eq_false q20, eq_false q18]
    refine combined_m M hv hi (by omega) _ (fin ?_)
    by_cases k5 : S.kd v = 5
    · simp only [k5, if_true] at hp ⊢
      by_cases e15 : w = 15
      · rw [if_pos e15] at hp ⊢; exact hp
      · rw [if_neg e15] at hp ⊢
        by_cases e16 : w = 16
        · rw [if_pos e16] at hp ⊢; exact hp
        · rw [if_neg e16] at hp ⊢; rw [if_pos (by omega)] at hp; exact hp
    · simp only [k5, if_false] at hp ⊢
      by_cases e15 : w = 15
      · rw [if_pos e15] at hp; exact hp
      · rw [if_neg e15] at hp
        by_cases e16 : w = 16
        · rw [if_pos e16] at hp; exact hp
        · rw [if_neg e16, if_pos (by omega)] at hp; exact hp
/-- what the reference writes while it fills -/
def Ps (c k : Nat) : Prop := c = 54 ∧ (k = 38 ∨ k = 39)
theorem unite_m (M : MC tS lS S tD lD D L σ) {n i : Nat} (hn : n < S.N) (hi : i < D.N) : ∃ σ', Rv (wq_Md_unite (nI n) (nI (160 + i)) σ) σ' ∧ FL Ps σ σ' ∧ (∀ c, c < 80 → st σ' c = (st σ c || (hMf σ n i && bt σ 86 n c))) := by
  have hns := M.ns
  have hnd := M.nd
  cases hq : hMf σ n i with
  | false =>
    refine ⟨σ, fun post hp => ?_, FL_r, fun c hc => by simp⟩
    unfold wq_Md_unite
    rw [Md_isSo_r (show i < 80 by omega) (show n < 160 by omega)]
    show (¬ nB (hMf σ n i) = nI 0 → _) ∧ (nB (hMf σ n i) = nI 0 → _)
    rw [hq]
    exact bQ' (fun _ => hp) (fun z => by cases z)
  | true =>
    refine ⟨sl (sl σ 54 38 (σ.2.1 54 38 ||| σ.2.1 86 n)) 54 39 ((sl σ 54 38 (σ.2.1 54 38 ||| σ.2.1 86 n)).2.1 54 39 ||| (sl σ 54 38 (σ.2.1 54 38 ||| σ.2.1 86 n)).2.1 87 n), fun post hp => ?_, FL_sl (FL_sl FL_r ⟨rfl, by omega⟩) ⟨rfl, by omega⟩, fun c hc => ?_⟩
    · unfold wq_Md_unite
      rw [Md_isSo_r (show i < 80 by omega) (show n < 160 by omega)]
      show (¬ nB (hMf σ n i) = nI 0 → _) ∧ (nB (hMf σ n i) = nI 0 → _)
      rw [hq]
      refine bQ' (fun z => by cases z) (fun _ => ?_)
      simp (disch := omega) only [n_in, n_cl, eq_true (show n < 160 by omega), true_and, forall_eq]
      exact hp
    · unfold st bt
      by_cases hk : c < 64 <;> simp [hk, sl_2, gb_or]
/-- the bits that evaluate leaves: by the tables of the others -/
noncomputable def evm (tS : Nat → Nat) (lS : Nat) (S : TG) (tD : Nat → Nat) (lD : Nat) (D : TG) (σ : Sg) (s i c : Nat) : Bool :=
  (decide (D.kd i = 6 ∧ c ∈ D.K i) && ((prf tS lS S tD lD D s c).isSome || (rul tS lS S s 13).isSome)) || (match rul tS lS S s 15 with | some v => if S.kd v = 5 then (S.K v).any (fun n => hMf σ n i && bt σ 86 n c) else false | none => false) || (match rul tS lS S s 16 with | some v => if S.kd v = 5 then (S.K v).any (fun n => hMf σ n i && bt σ 86 n c) else false | none => false) || (match rul tS lS S s 17 with | some v => if S.kd v = 5 then (S.K v).any (fun n => hMf σ n i && bt σ 86 n c) else false | none => false) || (match rul tS lS S s 19 with | some v => (match mtg tS lS S v with | some x => hMf σ x i && bt σ 86 x c | none => false) | none => false)
noncomputable def uni (tS : Nat → Nat) (lS : Nat) (S : TG) (σ : Sg) (s i c w : Nat) : Bool := match rul tS lS S s w with
  | some v => if S.kd v = 5 then (S.K v).any (fun n => hMf σ n i && bt σ 86 n c) else false
  | none => false
theorem evaluate_m (M : MC tS lS S tD lD D L σ) {s i : Nat} (hs : s < S.N) (hi : i < D.N) : ∃ σ', Rv (wq_Md_evaluate (nI s) (nI (160 + i)) σ) σ' ∧ FL Ps σ σ' ∧ (∀ c, c < 80 → st σ' c = evm tS lS S tD lD D σ s i c) := by
  have T := MC_T M
  have hns := M.ns
  have hnd := M.nd
  have hki := M.wd.kd i hi
  obtain ⟨R, hR⟩ : ∃ R : Sg → Prop, R = fun σ' => FL Ps σ σ' ∧ (∀ c, c < 80 → st σ' c = evm tS lS S tD lD D σ s i c) := ⟨_, rfl⟩
  have MF : ∀ σ1, FL Ps σ σ1 → MC tS lS S tD lD D L σ1 := fun σ1 f => MC_FL M f (fun k => by unfold Ps; omega)
  have hH : ∀ σ1, FL Ps σ σ1 → ∀ n j, hMf σ1 n j = hMf σ n j := fun σ1 f n j => bt_o (f.2.2 82 n (by unfold Ps; omega)) (f.2.2 83 n (by unfold Ps; omega))
  have hB : ∀ σ1, FL Ps σ σ1 → ∀ n j, bt σ1 86 n j = bt σ 86 n j := fun σ1 f n j => bt_o (f.2.2 86 n (by unfold Ps; omega)) (f.2.2 87 n (by unfold Ps; omega))
  let bs : Nat → Bool := fun c => decide (D.kd i = 6 ∧ c ∈ D.K i) && ((prf tS lS S tD lD D s c).isSome || (rul tS lS S s 13).isSome)
  -- the last block
  have last : ∀ σ1, FL Ps σ σ1 → (∀ c, c < 80 → st σ1 c = (bs c || uni tS lS S σ s i c 15 || uni tS lS S σ s i c 16 || uni tS lS S σ s i c 17)) → Ex0 (fun post n => wp_Md_evaluate post n 2 (nI s) (nI (160 + i)) (nI 18) 0 σ1) R := by
    intro σ1 f1 h1
    have r19 : σ1.1 76 (22 * s + 19) = oI (rul tS lS S s 19) := (MF σ1 f1).p.r.r s 19 hs (by omega) (by omega)
    have noadd : (match rul tS lS S s 19 with | some v => (match mtg tS lS S v with | some x => fun c => hMf σ x i && bt σ 86 x c | none => fun _ => false) | none => fun _ => false) = (fun _ => false) → R σ1 := fun hno => by
      rw [hR]
      refine ⟨f1, fun c hc => ?_⟩
      rw [h1 c hc]
      show _ = (bs c || uni tS lS S σ s i c 15 || uni tS lS S σ s i c 16 || uni tS lS S σ s i c 17 || _)
      have := congrFun hno c
      cases hr : rul tS lS S s 19 with
      | none => simp
      | some v =>
        rw [hr] at this
        cases hm : mtg tS lS S v with
        | none => simp [hm]
        | some x => simp only [hm] at this ⊢; rw [this]; simp
    cases hr : rul tS lS S s 19 with
    | none =>
      rw [hr] at r19 noadd
      refine ⟨σ1, noadd rfl, fun post hp => ⟨1, ?_⟩⟩
      show wb_Md_evaluate_2 (wp_Md_evaluate post 0) post (nI s) (nI (160 + i)) (nI 18) σ1
      simp (disch := omega) only [wb_Md_evaluate_2, litI, n_lt, eq_true (show 17 < 18 by omega), litI, n_le, n_lt, n_eq, n_in, n_cl, nI_add, n_b0, n_b1, n_v0, n_v1, n_m1, n_m1', n_m1l, n_m1l', n_m1g, n_m1ge, si_1, si_2, forall_eq, not_true_eq_false, not_false_eq_true, true_imp_iff, false_imp_iff, true_and, and_true, false_and, and_false, implies_true, ite_true, ite_false, if_true, if_false, Classical.not_not, Nat.reduceEqDiff, reduceIte, Nat.add_left_cancel_iff, Nat.add_eq_left, Nat.left_eq_add, and_self, n_sub, pk_mul, eq_true (show 22 * s + 19 < 3520 by omega), r19, oI, hm0]
      exact hp
    | some v =>
      have hv := rul_lt M.ws hs hr
      have r77 : σ1.1 77 v = oI (mtg tS lS S v) := (MF σ1 f1).p.r.t v hv
      rw [hr] at r19 noadd
      cases hm : mtg tS lS S v with
      | none =>
        rw [hm] at r77
        refine ⟨σ1, noadd (by simp only [hm]), fun post hp => ⟨1, ?_⟩⟩
        show wb_Md_evaluate_2 (wp_Md_evaluate post 0) post (nI s) (nI (160 + i)) (nI 18) σ1
        simp (disch := omega) only [wb_Md_evaluate_2, litI, n_lt, eq_true (show 17 < 18 by omega), litI, n_le, n_lt, n_eq, n_in, n_cl, nI_add, n_b0, n_b1, n_v0, n_v1, n_m1, n_m1', n_m1l, n_m1l', n_m1g, n_m1ge, si_1, si_2, forall_eq, not_true_eq_false, not_false_eq_true, true_imp_iff, false_imp_iff, true_and, and_true, false_and, and_false, implies_true, ite_true, ite_false, if_true, if_false, Classical.not_not, Nat.reduceEqDiff, reduceIte, Nat.add_left_cancel_iff, Nat.add_eq_left, Nat.left_eq_add, and_self, n_sub, pk_mul, eq_true (show 22 * s + 19 < 3520 by omega), r19, oI, eq_false (show ¬ v < 0 by omega), eq_true (show v < 160 by omega), r77, hm0]
        exact hp
      | some x =>
        have hx := mtg_lt M.ws hv hm
        rw [hm] at r77
        obtain ⟨σ2, u1, u2, u3⟩ := unite_m (MF σ1 f1) hx hi
        refine ⟨σ2, ?_, fun post hp => ⟨1, ?_⟩⟩
        · rw [hR]
          refine ⟨FL_t f1 u2, fun c hc => ?_⟩
          rw [u3 c hc, h1 c hc, hH σ1 f1, hB σ1 f1]
          show _ = (bs c || uni tS lS S σ s i c 15 || uni tS lS S σ s i c 16 || uni tS lS S σ s i c 17 || _)
          rw [hr]; simp only [hm]
        · show wb_Md_evaluate_2 (wp_Md_evaluate post 0) post (nI s) (nI (160 + i)) (nI 18) σ1
          simp (disch := omega) only [wb_Md_evaluate_2, litI, n_lt, eq_true (show 17 < 18 by omega), litI, n_le, n_lt, n_eq, n_in, n_cl, nI_add, n_b0, n_b1, n_v0, n_v1, n_m1, n_m1', n_m1l, n_m1l', n_m1g, n_m1ge, si_1, si_2, forall_eq, not_true_eq_false, not_false_eq_true, true_imp_iff, false_imp_iff, true_and, and_true, false_and, and_false, implies_true, ite_true, ite_false, if_true, if_false, Classical.not_not, Nat.reduceEqDiff, reduceIte, Nat.add_left_cancel_iff, Nat.add_eq_left, Nat.left_eq_add, and_self, n_sub, pk_mul, eq_true (show 22 * s + 19 < 3520 by omega), r19, oI, eq_false (show ¬ v < 0 by omega), eq_true (show v < 160 by omega), r77, eq_false (show ¬ x < 0 by omega)]
          exact u1 _ hp
  -- the arrays
  have arrs : ∀ (w : Nat) (σ1 : Sg) (F : Nat → Bool), 15 ≤ w → w ≤ 17 → FL Ps σ σ1 → (∀ c, c < 80 → st σ1 c = F c) → (∀ σ2, FL Ps σ σ2 → (∀ c, c < 80 → st σ2 c = (F c || uni tS lS S σ s i c w)) → Ex0 (fun post n => wp_Md_evaluate post n 2 (nI s) (nI (160 + i)) (nI (w + 1)) 0 σ2) R) → Ex0 (fun post n => wp_Md_evaluate post n 2 (nI s) (nI (160 + i)) (nI w) 0 σ1) R := by
    intro w σ1 F w1 w2 f1 h1 next
    have rw_ : σ1.1 76 (22 * s + w) = oI (rul tS lS S s w) := (MF σ1 f1).p.r.r s w hs (by omega) (by omega)
    -- a chain
    have chain : ∀ suf x (σ2 : Sg) (Z : Nat → Bool), (∀ n ∈ suf, n < S.N) → chM 0 (σ.1 66) x suf → FL Ps σ σ2 → (∀ c, c < 80 → st σ2 c = Z c) → (∀ c, c < 80 → (Z c || suf.any (fun n => hMf σ n i && bt σ 86 n c)) = (F c || uni tS lS S σ s i c w)) → Ex0 (fun post n => wp_Md_evaluate post n 4 (nI s) (nI (160 + i)) (nI w) x σ2) R := by
      intro suf
      induction suf with
      | nil =>
        intro x σ2 Z _ hx f2 h2 hz
        have hx : x = -nI 1 := hx
        subst hx
        refine Ex0_s (next σ2 f2 (fun c hc => by rw [h2 c hc, ← hz c hc]; simp)) (fun post n hn => ⟨n + 1, ?_⟩)
        show wb_Md_evaluate_4 (wp_Md_evaluate post n) post (nI s) (nI (160 + i)) (nI w) (-nI 1) σ2
        simp (disch := omega) only [wb_Md_evaluate_4, litI, hm0, litI, n_le, n_lt, n_eq, n_in, n_cl, nI_add, n_b0, n_b1, n_v0, n_v1, n_m1, n_m1', n_m1l, n_m1l', n_m1g, n_m1ge, si_1, si_2, forall_eq, not_true_eq_false, not_false_eq_true, true_imp_iff, false_imp_iff, true_and, and_true, false_and, and_false, implies_true, ite_true, ite_false, if_true, if_false, Classical.not_not, Nat.reduceEqDiff, reduceIte, Nat.add_left_cancel_iff, Nat.add_eq_left, Nat.left_eq_add, and_self, n_sub, pk_mul]
        exact hn
      | cons a suf ih =>
        intro x σ2 Z hlt hx f2 h2 hz
        obtain ⟨hx, hx2⟩ := hx
        rw [show 160 * 0 + a = a by omega] at hx hx2
        subst hx
        have haN := hlt a (List.mem_cons_self ..)
        obtain ⟨σ3, u1, u2, u3⟩ := unite_m (MF σ2 f2) haN hi
        have e66 : σ3.1 66 a = σ.1 66 a := by rw [(FL_t f2 u2).1]
        refine Ex0_s (ih _ σ3 (fun c => Z c || (hMf σ a i && bt σ 86 a c)) (fun n hn => hlt n (List.mem_cons_of_mem _ hn)) hx2 (FL_t f2 u2) (fun c hc => by rw [u3 c hc, h2 c hc, hH σ2 f2, hB σ2 f2]) (fun c hc => by rw [← hz c hc, List.any_cons, Bool.or_assoc])) (fun post n hn => ⟨n + 1, ?_⟩)
        show wb_Md_evaluate_4 (wp_Md_evaluate post n) post (nI s) (nI (160 + i)) (nI w) (nI a) σ2
        simp (disch := omega) only [wb_Md_evaluate_4, litI, n_lt, eq_false (show ¬ a < 0 by omega), not_false_eq_true, false_imp_iff, true_imp_iff, true_and]
        refine u1 _ ?_
        simp (disch := omega) only [n_in, n_cl, eq_true (show a < 240 by omega), true_and, e66]
        exact hn
    have none4 : uni tS lS S σ s i = (fun c w' => uni tS lS S σ s i c w') := rfl
    cases hr : rul tS lS S s w with
    | none =>
      rw [hr] at rw_
      refine Ex0_s (chain [] (-nI 1) σ1 F (by simp) rfl f1 h1 (fun c hc => by unfold uni; rw [hr]; simp)) (fun post n hn => ⟨n + 1, ?_⟩)
      show wb_Md_evaluate_2 (wp_Md_evaluate post n) post (nI s) (nI (160 + i)) (nI w) σ1
      simp (disch := omega) only [wb_Md_evaluate_2, litI, n_lt, eq_false (show ¬ 17 < w by omega), litI, n_le, n_lt, n_eq, n_in, n_cl, nI_add, n_b0, n_b1, n_v0, n_v1, n_m1, n_m1', n_m1l, n_m1l', n_m1g, n_m1ge, si_1, si_2, forall_eq, not_true_eq_false, not_false_eq_true, true_imp_iff, false_imp_iff, true_and, and_true, false_and, and_false, implies_true, ite_true, ite_false, if_true, if_false, Classical.not_not, Nat.reduceEqDiff, reduceIte, Nat.add_left_cancel_iff, Nat.add_eq_left, Nat.left_eq_add, and_self, n_sub, pk_mul, eq_true (show 22 * s + w < 3520 by omega), rw_, oI, hm0, show (-1 : Int32) = -nI 1 from rfl]
      exact hn
    | some v =>
      have hv := rul_lt M.ws hs hr
      have hkv := M.ws.kd v hv
      have h59 : σ1.1 59 v = nI (S.kd v) := by rw [f1.1]; exact T.kS v hv
      rw [hr] at rw_
      by_cases k5 : S.kd v = 5
      · have h65 : σ1.1 65 v = σ.1 65 v := by rw [f1.1]
        refine Ex0_s (chain (S.K v) (σ.1 65 v) σ1 F (fun n hn => (M.ws.ch v hv n hn).2.1) (T.cS v hv) f1 h1 (fun c hc => by unfold uni; rw [hr]; simp [k5])) (fun post n hn => ⟨n + 1, ?_⟩)
        show wb_Md_evaluate_2 (wp_Md_evaluate post n) post (nI s) (nI (160 + i)) (nI w) σ1
        simp (disch := omega) only [wb_Md_evaluate_2, litI, n_lt, eq_false (show ¬ 17 < w by omega), litI, n_le, n_lt, n_eq, n_in, n_cl, nI_add, n_b0, n_b1, n_v0, n_v1, n_m1, n_m1', n_m1l, n_m1l', n_m1g, n_m1ge, si_1, si_2, forall_eq, not_true_eq_false, not_false_eq_true, true_imp_iff, false_imp_iff, true_and, and_true, false_and, and_false, implies_true, ite_true, ite_false, if_true, if_false, Classical.not_not, Nat.reduceEqDiff, reduceIte, Nat.add_left_cancel_iff, Nat.add_eq_left, Nat.left_eq_add, and_self, n_sub, pk_mul, eq_true (show 22 * s + w < 3520 by omega), rw_, oI, eq_false (show ¬ v < 0 by omega), eq_true (show v < 240 by omega), h59, eq_true k5, h65]
        exact hn
      · refine Ex0_s (chain [] (-nI 1) σ1 F (by simp) rfl f1 h1 (fun c hc => by unfold uni; rw [hr]; simp [k5])) (fun post n hn => ⟨n + 1, ?_⟩)
        show wb_Md_evaluate_2 (wp_Md_evaluate post n) post (nI s) (nI (160 + i)) (nI w) σ1
        simp (disch := omega) only [wb_Md_evaluate_2, litI, n_lt, eq_false (show ¬ 17 < w by omega), litI, n_le, n_lt, n_eq, n_in, n_cl, nI_add, n_b0, n_b1, n_v0, n_v1, n_m1, n_m1', n_m1l, n_m1l', n_m1g, n_m1ge, si_1, si_2, forall_eq, not_true_eq_false, not_false_eq_true, true_imp_iff, false_imp_iff, true_and, and_true, false_and, and_false, implies_true, ite_true, ite_false, if_true, if_false, Classical.not_not, Nat.reduceEqDiff, reduceIte, Nat.add_left_cancel_iff, Nat.add_eq_left, Nat.left_eq_add, and_self, n_sub, pk_mul, eq_true (show 22 * s + w < 3520 by omega), rw_, oI, eq_false (show ¬ v < 0 by omega), eq_true (show v < 240 by omega), h59, eq_false k5, show (-1 : Int32) = -nI 1 from rfl]
        exact hn
  have all3 : ∀ σ1, FL Ps σ σ1 → (∀ c, c < 80 → st σ1 c = bs c) → Ex0 (fun post n => wp_Md_evaluate post n 2 (nI s) (nI (160 + i)) (nI 15) 0 σ1) R := fun σ1 f1 h1 =>
    arrs 15 σ1 bs (by omega) (by omega) f1 h1 (fun σ2 f2 h2 => arrs 16 σ2 _ (by omega) (by omega) f2 h2 (fun σ3 f3 h3 => arrs 17 σ3 _ (by omega) (by omega) f3 h3 (fun σ4 f4 h4 => last σ4 f4 h4)))
  -- the children
  have kids : ∀ suf pre x (σ1 : Sg), D.kd i = 6 → D.K i = pre ++ suf → chM 1 (σ.1 66) x suf → FL Ps σ σ1 → (∀ c, c < 80 → st σ1 c = (decide (c ∈ pre) && ((prf tS lS S tD lD D s c).isSome || (rul tS lS S s 13).isSome))) → Ex0 (fun post n => wp_Md_evaluate post n 1 (nI s) (nI (160 + i)) x 0 σ1) R := by
    intro suf
    induction suf with
    | nil =>
      intro pre x σ1 k6 hK hx f1 h1
      have hx : x = -nI 1 := hx
      subst hx
      rw [List.append_nil] at hK
      refine Ex0_s (all3 σ1 f1 (fun c hc => by
        rw [h1 c hc]; show _ = (decide (D.kd i = 6 ∧ c ∈ D.K i) && _)
        have hdd := dd (show c ∈ pre ↔ (D.kd i = 6 ∧ c ∈ D.K i) from by rw [hK]; simp [k6])
        rw [hdd])) (fun post n hn => ⟨n + 1, ?_⟩)
      show wb_Md_evaluate_1 (wp_Md_evaluate post n) post (nI s) (nI (160 + i)) (-nI 1) σ1
      simp (disch := omega) only [wb_Md_evaluate_1, litI, hm0, litI, n_le, n_lt, n_eq, n_in, n_cl, nI_add, n_b0, n_b1, n_v0, n_v1, n_m1, n_m1', n_m1l, n_m1l', n_m1g, n_m1ge, si_1, si_2, forall_eq, not_true_eq_false, not_false_eq_true, true_imp_iff, false_imp_iff, true_and, and_true, false_and, and_false, implies_true, ite_true, ite_false, if_true, if_false, Classical.not_not, Nat.reduceEqDiff, reduceIte, Nat.add_left_cancel_iff, Nat.add_eq_left, Nat.left_eq_add, and_self, n_sub, pk_mul]
      exact hn
    | cons c suf ih =>
      intro pre x σ1 k6 hK hx f1 h1
      obtain ⟨hx, hx2⟩ := hx
      rw [show 160 * 1 + c = 160 + c by omega] at hx hx2
      subst hx
      have hcK : c ∈ D.K i := by rw [hK]; simp
      have hcN := (M.wd.ch i hi c hcK).2.1
      have hnp : c ∉ pre := fun q => by
        have := K_nodup M.wd hi
        rw [hK] at this
        exact (List.nodup_append.mp this).2.2 c q c (List.mem_cons_self ..) rfl
      have hpf := propFor_r (MF σ1 f1) hs hi k6 hcK
      have hlt : ∀ y, prf tS lS S tD lD D s c = some y → y < 2147483648 := fun y hy => by have := prf_lt M.ws hs hy; omega
      have r13 : σ1.1 76 (22 * s + 13) = oI (rul tS lS S s 13) := (MF σ1 f1).p.r.r s 13 hs (by omega) (by omega)
      have hlt13 : ∀ y, rul tS lS S s 13 = some y → y < 2147483648 := fun y hy => by have := rul_lt M.ws hs hy; omega
      have e66 : ∀ σ2, FL Ps σ σ2 → σ2.1 66 (160 + c) = σ.1 66 (160 + c) := fun σ2 f => by rw [f.1]
      have yes : ((prf tS lS S tD lD D s c).isSome || (rul tS lS S s 13).isSome) = true → Ex0 (fun post n => wp_Md_evaluate post n 3 (nI s) (nI (160 + i)) (nI (160 + c)) 0 σ1) R := fun hy => by
        have f2 : FL Ps σ (madd σ1 c) := FL_add f1 ⟨rfl, by omega⟩ ⟨rfl, by omega⟩
        refine Ex0_s (ih (pre ++ [c]) _ (madd σ1 c) k6 (by rw [hK]; simp) hx2 f2 (fun c' hc' => by
          rw [st_add (by omega) (by omega), h1 c' hc']
          by_cases e : c' = c
          · subst e; rw [hy]; simp
          · simp [e])) (fun post n hn => ⟨n + 1, ?_⟩)
        show wb_Md_evaluate_3 (wp_Md_evaluate post n) post (nI s) (nI (160 + i)) (nI (160 + c)) σ1
        simp (disch := omega) only [wb_Md_evaluate_3, litI, n_sub, show 160 + c - 160 = c by omega, Md_add_r (show c < 128 by omega), n_in, n_cl, eq_true (show 160 + c < 240 by omega), true_and, e66 _ f2]
        exact hn
      by_cases q1 : prf tS lS S tD lD D s c = none
      · by_cases q2 : rul tS lS S s 13 = none
        · refine Ex0_s (ih (pre ++ [c]) _ σ1 k6 (by rw [hK]; simp) hx2 f1 (fun c' hc' => by
            rw [h1 c' hc']
            by_cases e : c' = c
            · subst e; rw [q1, q2]; simp
            · simp [e])) (fun post n hn => ⟨n + 1, ?_⟩)
          show wb_Md_evaluate_1 (wp_Md_evaluate post n) post (nI s) (nI (160 + i)) (nI (160 + c)) σ1
          simp (disch := omega) only [wb_Md_evaluate_1, litI, n_lt, eq_false (show ¬ 160 + c < 0 by omega), not_false_eq_true, false_imp_iff, true_imp_iff, true_and]
          refine hpf _ ?_
          simp (disch := omega) only [litI, n_le, n_lt, n_eq, n_in, n_cl, nI_add, n_b0, n_b1, n_v0, n_v1, n_m1, n_m1', n_m1l, n_m1l', n_m1g, n_m1ge, si_1, si_2, forall_eq, not_true_eq_false, not_false_eq_true, true_imp_iff, false_imp_iff, true_and, and_true, false_and, and_false, implies_true, ite_true, ite_false, if_true, if_false, Classical.not_not, Nat.reduceEqDiff, reduceIte, Nat.add_left_cancel_iff, Nat.add_eq_left, Nat.left_eq_add, and_self, n_sub, pk_mul, oI_ge hlt, eq_true q1, r13, oI_lt hlt13, eq_true q2, eq_true (show 22 * s + 13 < 3520 by omega), eq_true (show 160 + c < 240 by omega), e66 _ f1]
          exact hn
        · refine Ex0_s (yes (by rw [q1]; cases h13 : rul tS lS S s 13 with | none => exact absurd h13 q2 | some y => rfl)) (fun post n hn => ⟨n + 1, ?_⟩)
          show wb_Md_evaluate_1 (wp_Md_evaluate post n) post (nI s) (nI (160 + i)) (nI (160 + c)) σ1
          simp (disch := omega) only [wb_Md_evaluate_1, litI, n_lt, eq_false (show ¬ 160 + c < 0 by omega), not_false_eq_true, false_imp_iff, true_imp_iff, true_and]
          refine hpf _ ?_
          simp (disch := omega) only [litI, n_le, n_lt, n_eq, n_in, n_cl, nI_add, n_b0, n_b1, n_v0, n_v1, n_m1, n_m1', n_m1l, n_m1l', n_m1g, n_m1ge, si_1, si_2, forall_eq, not_true_eq_false, not_false_eq_true, true_imp_iff, false_imp_iff, true_and, and_true, false_and, and_false, implies_true, ite_true, ite_false, if_true, if_false, Classical.not_not, Nat.reduceEqDiff, reduceIte, Nat.add_left_cancel_iff, Nat.add_eq_left, Nat.left_eq_add, and_self, n_sub, pk_mul, oI_ge hlt, eq_true q1, r13, oI_lt hlt13, eq_false q2, eq_true (show 22 * s + 13 < 3520 by omega)]
          exact hn
      · refine Ex0_s (yes (by cases hpq : prf tS lS S tD lD D s c with | none => exact absurd hpq q1 | some y => rfl)) (fun post n hn => ⟨n + 1, ?_⟩)
        show wb_Md_evaluate_1 (wp_Md_evaluate post n) post (nI s) (nI (160 + i)) (nI (160 + c)) σ1
        simp (disch := omega) only [wb_Md_evaluate_1, litI, n_lt, eq_false (show ¬ 160 + c < 0 by omega), not_false_eq_true, false_imp_iff, true_imp_iff, true_and]
        refine hpf _ ?_
        simp (disch := omega) only [litI, n_le, n_lt, n_eq, n_in, n_cl, nI_add, n_b0, n_b1, n_v0, n_v1, n_m1, n_m1', n_m1l, n_m1l', n_m1g, n_m1ge, si_1, si_2, forall_eq, not_true_eq_false, not_false_eq_true, true_imp_iff, false_imp_iff, true_and, and_true, false_and, and_false, implies_true, ite_true, ite_false, if_true, if_false, Classical.not_not, Nat.reduceEqDiff, reduceIte, Nat.add_left_cancel_iff, Nat.add_eq_left, Nat.left_eq_add, and_self, n_sub, pk_mul, oI_ge hlt, eq_false q1]
        exact hn
  have f0 : FL Ps σ (sl (sl σ 54 38 0) 54 39 0) := FL_sl (FL_sl FL_r ⟨rfl, by omega⟩) ⟨rfl, by omega⟩
  have h0 : ∀ c, st (sl (sl σ 54 38 0) 54 39 0) c = false := fun c => by unfold st; by_cases hk : c < 64 <;> simp [hk, sl_2, gb_0]
  have start : Ex0 (fun post n => wp_Md_evaluate post n 0 (nI s) (nI (160 + i)) 0 0 σ) R := by
    by_cases k6 : D.kd i = 6
    · refine Ex0_s (kids (D.K i) [] _ _ k6 rfl (T.cD i hi) f0 (fun c hc => by rw [h0]; simp)) (fun post n hn => ⟨n + 1, ?_⟩)
      show wb_Md_evaluate_0 (wp_Md_evaluate post n) post (nI s) (nI (160 + i)) σ
      simp (disch := omega) only [wb_Md_evaluate_0, forall_eq, n_in, n_cl, eq_true (show 160 + i < 240 by omega), true_and, sl_1, T.kD i hi, litI, n_eq, eq_true k6, not_true_eq_false, false_imp_iff, true_imp_iff]
      exact hn
    · refine Ex0_s (all3 _ f0 (fun c hc => by rw [h0]; show false = (decide (D.kd i = 6 ∧ c ∈ D.K i) && _); rw [decide_eq_false (fun q => k6 q.1)]; rfl)) (fun post n hn => ⟨n + 2, ?_⟩)
      show wb_Md_evaluate_0 (wp_Md_evaluate post (n + 1)) post (nI s) (nI (160 + i)) σ
      simp (disch := omega) only [wb_Md_evaluate_0, forall_eq, n_in, n_cl, eq_true (show 160 + i < 240 by omega), true_and, sl_1, T.kD i hi, litI, n_eq, eq_false k6, not_false_eq_true, false_imp_iff, true_imp_iff, and_true, show (-1 : Int32) = -nI 1 from rfl]
      show wb_Md_evaluate_1 (wp_Md_evaluate post n) post (nI s) (nI (160 + i)) (-nI 1) _
      simp (disch := omega) only [wb_Md_evaluate_1, litI, hm0, litI, n_le, n_lt, n_eq, n_in, n_cl, nI_add, n_b0, n_b1, n_v0, n_v1, n_m1, n_m1', n_m1l, n_m1l', n_m1g, n_m1ge, si_1, si_2, forall_eq, not_true_eq_false, not_false_eq_true, true_imp_iff, false_imp_iff, true_and, and_true, false_and, and_false, implies_true, ite_true, ite_false, if_true, if_false, Classical.not_not, Nat.reduceEqDiff, reduceIte, Nat.add_left_cancel_iff, Nat.add_eq_left, Nat.left_eq_add, and_self, n_sub, pk_mul]
      exact hn
  obtain ⟨σ', q1, q2⟩ := start
  rw [hR] at q1
  exact ⟨σ', fun post hp => q2 post hp, q1⟩
end FI
