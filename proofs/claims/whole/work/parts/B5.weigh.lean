section WE
variable {tS : Nat → Nat} {lS : Nat} {S : TG} {tD : Nat → Nat} {lD : Nat} {D : TG} {σ : Sg}
theorem holdFor_r (C : CV tS lS S tD lD D σ) {s v i : Nat} (hs : s < S.N) (hv : v < S.N) (hi : i < D.N) : Ri (wq_Vd_holdForChildren (nI s) (nI v) (nI i) σ) (nB (chib tS lS S tD lD D (hCf S σ) (eCf σ) s (wrd tS lS S v) v i)) σ := by
  have T := CC_T C.c
  have hn := C.c.ns
  have hd := C.c.nd
  have hl := len_K C.c.wd hi
  have hm1 : (-1 : Int32) = -nI 1 := rfl
  intro post hp
  unfold chib at hp
  unfold wq_Vd_holdForChildren
  refine ex_s ?_
  simp only [wp_Vd_holdForChildren, wb_Vd_holdForChildren_0, litI, n_le, n_lt, n_eq, n_in, n_cl, nI_add, n_b0, n_b1, n_v0, n_v1, n_m1, n_m1', n_m1l, n_m1l', n_m1g, n_m1ge, si_1, si_2, forall_eq, not_true_eq_false, not_false_eq_true, true_imp_iff, false_imp_iff, true_and, and_true, false_and, and_false, implies_true, ite_true, ite_false, if_true, if_false, Classical.not_not, Nat.reduceEqDiff, reduceIte, Nat.add_left_cancel_iff, Nat.add_eq_left, Nat.left_eq_add, and_self, n_sub, pk_mul]
  refine loopC0 (D.K i) (fun n j x => wp_Vd_holdForChildren post n 1 (nI s) (nI v) (nI i) (nI j) x σ) (fun pre => pre.all (chf tS lS S tD lD D (hCf S σ) (eCf σ) s (wrd tS lS S v) v i) = true) (T.cD i hi) (by simp) ?_ ?_
  · intro x hI
    rw [hI] at hp
    refine ⟨1, ?_⟩
    show wb_Vd_holdForChildren_1 (wp_Vd_holdForChildren post 0) post (nI s) (nI v) (nI i) (nI (D.K i).length) x σ
    simp (disch := omega) only [wb_Vd_holdForChildren_1, litI, n_le, n_lt, n_eq, n_in, n_cl, nI_add, n_b0, n_b1, n_v0, n_v1, n_m1, n_m1', n_m1l, n_m1l', n_m1g, n_m1ge, si_1, si_2, forall_eq, not_true_eq_false, not_false_eq_true, true_imp_iff, false_imp_iff, true_and, and_true, false_and, and_false, implies_true, ite_true, ite_false, if_true, if_false, Classical.not_not, Nat.reduceEqDiff, reduceIte, Nat.add_left_cancel_iff, Nat.add_eq_left, Nat.left_eq_add, and_self, n_sub, pk_mul, T.mD i hi, eq_true (show i < 80 by omega), Nat.le_refl]
    exact hp
  · intro pre c suf hK hI ih
    have hcK : c ∈ D.K i := by rw [hK]; simp
    have hc := C.c.wd.ch i hi c hcK
    have hln : (D.K i).length = pre.length + suf.length + 1 := by rw [hK]; simp; omega
    have hnf := nodeFor_r C hs hv hi hcK
    cases hq : nfr tS lS S tD lD D (eCf σ) s (wrd tS lS S v) v i c with
    | none =>
      rw [hq] at hnf
      obtain ⟨n, hn⟩ := ih (by rw [List.all_append, hI]; simp [chf, hq])
      refine ⟨n + 1, ?_⟩
      show wb_Vd_holdForChildren_1 (wp_Vd_holdForChildren post n) post (nI s) (nI v) (nI i) (nI pre.length) (nI c) σ
      simp (disch := omega) only [wb_Vd_holdForChildren_1, litI, n_le, n_lt, n_eq, n_in, n_cl, nI_add, n_b0, n_b1, n_v0, n_v1, n_m1, n_m1', n_m1l, n_m1l', n_m1g, n_m1ge, si_1, si_2, forall_eq, not_true_eq_false, not_false_eq_true, true_imp_iff, false_imp_iff, true_and, and_true, false_and, and_false, implies_true, ite_true, ite_false, if_true, if_false, Classical.not_not, Nat.reduceEqDiff, reduceIte, Nat.add_left_cancel_iff, Nat.add_eq_left, Nat.left_eq_add, and_self, n_sub, pk_mul, T.mD i hi, eq_true (show i < 80 by omega), eq_false (show ¬ (D.K i).length ≤ pre.length by omega)]
      refine hnf _ ?_
      simp (disch := omega) only [hm1, oI, litI, n_le, n_lt, n_eq, n_in, n_cl, nI_add, n_b0, n_b1, n_v0, n_v1, n_m1, n_m1', n_m1l, n_m1l', n_m1g, n_m1ge, si_1, si_2, forall_eq, not_true_eq_false, not_false_eq_true, true_imp_iff, false_imp_iff, true_and, and_true, false_and, and_false, implies_true, ite_true, ite_false, if_true, if_false, Classical.not_not, Nat.reduceEqDiff, reduceIte, Nat.add_left_cancel_iff, Nat.add_eq_left, Nat.left_eq_add, and_self, n_sub, pk_mul, eq_true (show c < 80 by omega)]
      exact hn
    | some x =>
      have hx := nfr_lt C.c.ws hs hv hq
      rw [hq] at hnf
      have hhx := isHeld_r C hx hc.2.1
      cases hq2 : hCf S σ x c with
      | false =>
        rw [hq2] at hhx
        rw [all_spl hK (by simp [chf, hq, hq2])] at hp
        refine ⟨1, ?_⟩
        show wb_Vd_holdForChildren_1 (wp_Vd_holdForChildren post 0) post (nI s) (nI v) (nI i) (nI pre.length) (nI c) σ
        simp (disch := omega) only [wb_Vd_holdForChildren_1, litI, n_le, n_lt, n_eq, n_in, n_cl, nI_add, n_b0, n_b1, n_v0, n_v1, n_m1, n_m1', n_m1l, n_m1l', n_m1g, n_m1ge, si_1, si_2, forall_eq, not_true_eq_false, not_false_eq_true, true_imp_iff, false_imp_iff, true_and, and_true, false_and, and_false, implies_true, ite_true, ite_false, if_true, if_false, Classical.not_not, Nat.reduceEqDiff, reduceIte, Nat.add_left_cancel_iff, Nat.add_eq_left, Nat.left_eq_add, and_self, n_sub, pk_mul, T.mD i hi, eq_true (show i < 80 by omega), eq_false (show ¬ (D.K i).length ≤ pre.length by omega)]
        refine hnf _ ?_
        simp (disch := omega) only [hm1, oI, litI, n_le, n_lt, n_eq, n_in, n_cl, nI_add, n_b0, n_b1, n_v0, n_v1, n_m1, n_m1', n_m1l, n_m1l', n_m1g, n_m1ge, si_1, si_2, forall_eq, not_true_eq_false, not_false_eq_true, true_imp_iff, false_imp_iff, true_and, and_true, false_and, and_false, implies_true, ite_true, ite_false, if_true, if_false, Classical.not_not, Nat.reduceEqDiff, reduceIte, Nat.add_left_cancel_iff, Nat.add_eq_left, Nat.left_eq_add, and_self, n_sub, pk_mul]
        refine hhx _ ?_
        simp only [nB_0, litI, n_le, n_lt, n_eq, n_in, n_cl, nI_add, n_b0, n_b1, n_v0, n_v1, n_m1, n_m1', n_m1l, n_m1l', n_m1g, n_m1ge, si_1, si_2, forall_eq, not_true_eq_false, not_false_eq_true, true_imp_iff, false_imp_iff, true_and, and_true, false_and, and_false, implies_true, ite_true, ite_false, if_true, if_false, Classical.not_not, Nat.reduceEqDiff, reduceIte, Nat.add_left_cancel_iff, Nat.add_eq_left, Nat.left_eq_add, and_self, n_sub, pk_mul]
        exact hp
      | true =>
        rw [hq2] at hhx
        obtain ⟨n, hn⟩ := ih (by rw [List.all_append, hI]; simp [chf, hq, hq2])
        refine ⟨n + 1, ?_⟩
        show wb_Vd_holdForChildren_1 (wp_Vd_holdForChildren post n) post (nI s) (nI v) (nI i) (nI pre.length) (nI c) σ
        simp (disch := omega) only [wb_Vd_holdForChildren_1, litI, n_le, n_lt, n_eq, n_in, n_cl, nI_add, n_b0, n_b1, n_v0, n_v1, n_m1, n_m1', n_m1l, n_m1l', n_m1g, n_m1ge, si_1, si_2, forall_eq, not_true_eq_false, not_false_eq_true, true_imp_iff, false_imp_iff, true_and, and_true, false_and, and_false, implies_true, ite_true, ite_false, if_true, if_false, Classical.not_not, Nat.reduceEqDiff, reduceIte, Nat.add_left_cancel_iff, Nat.add_eq_left, Nat.left_eq_add, and_self, n_sub, pk_mul, T.mD i hi, eq_true (show i < 80 by omega), eq_false (show ¬ (D.K i).length ≤ pre.length by omega)]
        refine hnf _ ?_
        simp (disch := omega) only [hm1, oI, litI, n_le, n_lt, n_eq, n_in, n_cl, nI_add, n_b0, n_b1, n_v0, n_v1, n_m1, n_m1', n_m1l, n_m1l', n_m1g, n_m1ge, si_1, si_2, forall_eq, not_true_eq_false, not_false_eq_true, true_imp_iff, false_imp_iff, true_and, and_true, false_and, and_false, implies_true, ite_true, ite_false, if_true, if_false, Classical.not_not, Nat.reduceEqDiff, reduceIte, Nat.add_left_cancel_iff, Nat.add_eq_left, Nat.left_eq_add, and_self, n_sub, pk_mul]
        refine hhx _ ?_
        simp (disch := omega) only [nB_0, litI, n_le, n_lt, n_eq, n_in, n_cl, nI_add, n_b0, n_b1, n_v0, n_v1, n_m1, n_m1', n_m1l, n_m1l', n_m1g, n_m1ge, si_1, si_2, forall_eq, not_true_eq_false, not_false_eq_true, true_imp_iff, false_imp_iff, true_and, and_true, false_and, and_false, implies_true, ite_true, ite_false, if_true, if_false, Classical.not_not, Nat.reduceEqDiff, reduceIte, Nat.add_left_cancel_iff, Nat.add_eq_left, Nat.left_eq_add, and_self, n_sub, pk_mul, Bool.true_eq_false, eq_true (show c < 80 by omega)]
        exact hn
theorem countHeld_r (C : CV tS lS S tD lD D σ) {v i : Nat} (hv : v < S.N) (hi : i < D.N) : Ri (wq_Vd_countHeld (nI v) (nI i) σ) (nI (cntb S (hCf S σ) v i)) σ := by
  have T := CC_T C.c
  have hn := C.c.ns
  have hl := len_K C.c.ws hv
  intro post hp
  unfold wq_Vd_countHeld
  refine ex_s ?_
  simp only [wp_Vd_countHeld, wb_Vd_countHeld_0, litI, n_le, n_lt, n_eq, n_in, n_cl, nI_add, n_b0, n_b1, n_v0, n_v1, n_m1, n_m1', n_m1l, n_m1l', n_m1g, n_m1ge, si_1, si_2, forall_eq, not_true_eq_false, not_false_eq_true, true_imp_iff, false_imp_iff, true_and, and_true, false_and, and_false, implies_true, ite_true, ite_false, if_true, if_false, Classical.not_not, Nat.reduceEqDiff, reduceIte, Nat.add_left_cancel_iff, Nat.add_eq_left, Nat.left_eq_add, and_self, n_sub, pk_mul]
  have gen : ∀ suf pre x, S.K v = pre ++ suf → chB (σ.1 8) x suf → ∃ n, wp_Vd_countHeld post n 1 (nI v) (nI i) (nI (pre.countP (fun a => hCf S σ a i))) (nI pre.length) x σ := by
    intro suf
    induction suf with
    | nil =>
      intro pre x hK _
      rw [List.append_nil] at hK
      have hp : post (nI (pre.countP (fun a => hCf S σ a i))) σ := by unfold cntb at hp; rw [hK] at hp; exact hp
      refine ⟨1, ?_⟩
      show wb_Vd_countHeld_1 (wp_Vd_countHeld post 0) post (nI v) (nI i) (nI (pre.countP (fun a => hCf S σ a i))) (nI pre.length) x σ
      rw [hK] at hl
      simp (disch := omega) only [wb_Vd_countHeld_1, litI, n_le, n_lt, n_eq, n_in, n_cl, nI_add, n_b0, n_b1, n_v0, n_v1, n_m1, n_m1', n_m1l, n_m1l', n_m1g, n_m1ge, si_1, si_2, forall_eq, not_true_eq_false, not_false_eq_true, true_imp_iff, false_imp_iff, true_and, and_true, false_and, and_false, implies_true, ite_true, ite_false, if_true, if_false, Classical.not_not, Nat.reduceEqDiff, reduceIte, Nat.add_left_cancel_iff, Nat.add_eq_left, Nat.left_eq_add, and_self, n_sub, pk_mul, T.mS v hv, eq_true (show v < 160 by omega), hK, Nat.le_refl]
      exact hp
    | cons a suf ih =>
      intro pre x hK hB
      obtain ⟨hx, hB⟩ := hB
      subst hx
      have ha := C.c.ws.ch v hv a (by rw [hK]; simp)
      have hln : (S.K v).length = pre.length + suf.length + 1 := by rw [hK]; simp; omega
      have hhx := isHeld_r C ha.2.1 hi
      obtain ⟨n, hn⟩ := ih (pre ++ [a]) _ (by rw [hK]; simp) hB
      rw [List.countP_append, List.length_append] at hn
      refine ⟨n + 1, ?_⟩
      show wb_Vd_countHeld_1 (wp_Vd_countHeld post n) post (nI v) (nI i) (nI (pre.countP (fun a => hCf S σ a i))) (nI pre.length) (nI a) σ
      simp (disch := omega) only [wb_Vd_countHeld_1, litI, n_le, n_lt, n_eq, n_in, n_cl, nI_add, n_b0, n_b1, n_v0, n_v1, n_m1, n_m1', n_m1l, n_m1l', n_m1g, n_m1ge, si_1, si_2, forall_eq, not_true_eq_false, not_false_eq_true, true_imp_iff, false_imp_iff, true_and, and_true, false_and, and_false, implies_true, ite_true, ite_false, if_true, if_false, Classical.not_not, Nat.reduceEqDiff, reduceIte, Nat.add_left_cancel_iff, Nat.add_eq_left, Nat.left_eq_add, and_self, n_sub, pk_mul, T.mS v hv, eq_true (show v < 160 by omega), eq_false (show ¬ (S.K v).length ≤ pre.length by omega)]
      refine hhx _ ?_
      cases hq : hCf S σ a i with
      | false =>
        simp (disch := omega) only [nB_0, litI, n_le, n_lt, n_eq, n_in, n_cl, nI_add, n_b0, n_b1, n_v0, n_v1, n_m1, n_m1', n_m1l, n_m1l', n_m1g, n_m1ge, si_1, si_2, forall_eq, not_true_eq_false, not_false_eq_true, true_imp_iff, false_imp_iff, true_and, and_true, false_and, and_false, implies_true, ite_true, ite_false, if_true, if_false, Classical.not_not, Nat.reduceEqDiff, reduceIte, Nat.add_left_cancel_iff, Nat.add_eq_left, Nat.left_eq_add, and_self, n_sub, pk_mul, eq_true (show a < 160 by omega)]
        simp [hq] at hn
        exact hn
      | true =>
        simp (disch := omega) only [nB_0, litI, n_le, n_lt, n_eq, n_in, n_cl, nI_add, n_b0, n_b1, n_v0, n_v1, n_m1, n_m1', n_m1l, n_m1l', n_m1g, n_m1ge, si_1, si_2, forall_eq, not_true_eq_false, not_false_eq_true, true_imp_iff, false_imp_iff, true_and, and_true, false_and, and_false, implies_true, ite_true, ite_false, if_true, if_false, Classical.not_not, Nat.reduceEqDiff, reduceIte, Nat.add_left_cancel_iff, Nat.add_eq_left, Nat.left_eq_add, and_self, n_sub, pk_mul, Bool.true_eq_false, eq_true (show a < 160 by omega)]
        simp [hq] at hn
        exact hn
  exact gen (S.K v) [] _ rfl (T.cS v hv)
theorem isSo_r (C : CV tS lS S tD lD D σ) {s v i : Nat} (hs : s < S.N) (hv : v < S.N) (hi : i < D.N) : Ri (wq_Vd_isSo (nI s) (nI v) (nI i) σ) (nB (sob tS lS S tD lD D (hCf S σ) (eCf σ) s (wrd tS lS S v) v i)) σ := by
  have T := CC_T C.c
  have hn := C.c.ns
  have hd := C.c.nd
  have hkv := C.c.ws.kd v hv
  have hki := C.c.wd.kd i hi
  have hfi := C.c.wd.fr i hi
  have hwl := wrd_le (tx := tS) (len := lS) (G := S) (c := v)
  have hm1 : (-1 : Int32) = -nI 1 := rfl
  have h30 := C.p.w v hv
  have h31 := C.p.t v hv
  have hlv := len_K C.c.ws hv
  have hli := len_K C.c.wd hi
  have hcl : cntb S (hCf S σ) v i ≤ 160 := by unfold cntb; have := List.countP_le_length (p := fun a => hCf S σ a i) (l := S.K v); omega
  intro post hp
  have hsame := isSame_c C.c 11 0 v i (by omega) (by omega) hv hi
  have hcnt := countHeld_r C hv hi
  have hcld := holdFor_r C hs hv hi
  have bsimp : ∀ (b : Bool), post (nB b) σ → ((nB b = nI 0 → post (nI 0) σ) ∧ (¬ nB b = nI 0 → post (nI 1) σ)) := fun b h => bP h
  -- measures
  have mea : 4 ≤ wrd tS lS S v → wrd tS lS S v ≤ 10 → ∀ (k : Nat) (x : Int32), (S.kd v = 3 → D.kd i = k → post (nB (numb (wrd tS lS S v) x (S.nu v))) σ) → (S.kd v = 3 → D.kd i = k → wq_Vd_isNumberSo (nI (wrd tS lS S v)) x (S.nu v) σ (fun r1 σ1 => (r1 = nI 0 → post (nI 0) σ1) ∧ (¬ r1 = nI 0 → post (nI 1) σ1))) := fun w1 w2 k x h k3 k4 => Vd_isNumberSo_r w1 w2 _ _ σ _ (bsimp _ (h k3 k4))
  unfold wq_Vd_isSo
  simp (disch := omega) only [litI, n_le, n_lt, n_eq, n_in, n_cl, nI_add, n_b0, n_b1, n_v0, n_v1, n_m1, n_m1', n_m1l, n_m1l', n_m1g, n_m1ge, si_1, si_2, forall_eq, not_true_eq_false, not_false_eq_true, true_imp_iff, false_imp_iff, true_and, and_true, false_and, and_false, implies_true, ite_true, ite_false, if_true, if_false, Classical.not_not, Nat.reduceEqDiff, reduceIte, Nat.add_left_cancel_iff, Nat.add_eq_left, Nat.left_eq_add, and_self, n_sub, pk_mul, h30, h31, T.kS v hv, T.kD i hi, T.uS v hv, T.uD i hi, T.mS v hv, T.mD i hi, eq_true (show v < 160 by omega), eq_true (show i < 80 by omega)]
  unfold sob at hp
  refine ⟨fun w => ?_, fun w => ?_, fun w => ?_, fun w => ?_, fun w => ?_, fun w => ?_, fun w => ?_, fun w => ?_, fun w => ?_, fun w => ?_, fun w => ?_, fun w => ?_, fun w => ?_, fun w => ?_, fun w => ?_, fun w => ?_, fun w => ?_, fun w => ?_, fun w => ?_, fun w => ?_, fun w => ?_⟩
  · rw [w, if_pos rfl] at hp
    refine typeSo_r C.c hv hi _ ?_
    rw [nB_n]; exact ⟨trivial, hp⟩
  · rw [w, if_neg (by omega), if_pos rfl] at hp
    refine hsame _ ?_
    rw [nB_n]; exact ⟨trivial, hp⟩
  · rw [w, if_neg (by omega), if_neg (by omega), if_pos rfl] at hp
    refine ⟨fun k => ?_, fun k => ?_⟩
    · rw [if_neg k] at hp; exact hp
    · rw [if_pos k] at hp
      exact hasSame_r C.c hv hi _ (bsimp _ hp)
  · rw [if_neg (by omega), if_neg (by omega), if_neg (by omega), if_pos (by omega)] at hp
    unfold meab at hp
    refine ⟨fun k => ?_, fun k => ⟨fun k2 => ?_, fun k2 => ?_⟩⟩
    · rw [if_neg k] at hp; exact hp
    · rw [if_pos k, if_pos (by omega), if_neg k2] at hp; exact hp
    · rw [if_pos k, if_pos (by omega), if_pos k2] at hp
      exact mea (by omega) (by omega) 3 _ (fun _ _ => hp) k k2
  · rw [if_neg (by omega), if_neg (by omega), if_neg (by omega), if_pos (by omega)] at hp
    unfold meab at hp
    refine ⟨fun k => ?_, fun k => ⟨fun k2 => ?_, fun k2 => ?_⟩⟩
    · rw [if_neg k] at hp; exact hp
    · rw [if_pos k, if_pos (by omega), if_neg k2] at hp; exact hp
    · rw [if_pos k, if_pos (by omega), if_pos k2] at hp
      exact mea (by omega) (by omega) 3 _ (fun _ _ => hp) k k2
  · rw [if_neg (by omega), if_neg (by omega), if_neg (by omega), if_pos (by omega)] at hp
    unfold meab at hp
    refine ⟨fun k => ?_, fun k => ⟨fun k2 => ?_, fun k2 => ?_⟩⟩
    · rw [if_neg k] at hp; exact hp
    · rw [if_pos k, if_pos (by omega), if_neg k2] at hp; exact hp
    · rw [if_pos k, if_pos (by omega), if_pos k2] at hp
      exact mea (by omega) (by omega) 3 _ (fun _ _ => hp) k k2
  · rw [if_neg (by omega), if_neg (by omega), if_neg (by omega), if_pos (by omega)] at hp
    unfold meab at hp
    refine ⟨fun k => ?_, fun k => ⟨fun k2 => ?_, fun k2 => ?_⟩⟩
    · rw [if_neg k] at hp; exact hp
    · rw [if_pos k, if_neg (by omega), if_pos (by omega), if_neg k2] at hp; exact hp
    · rw [if_pos k, if_neg (by omega), if_pos (by omega), if_pos k2] at hp
      have hq := qe_sp (tx := tD) (len := lD) (x := D.fr i + 1) (by omega)
      have hq1 := hq.1
      have hfD : σ.1 (13 + 2) i = nI (D.fr i) := T.fD i hi
      show wq_Tr_charactersOf 13 (nI i) σ _
      simp (disch := omega) only [wq_Tr_charactersOf, litI, n_le, n_lt, n_eq, n_in, n_cl, nI_add, n_b0, n_b1, n_v0, n_v1, n_m1, n_m1', n_m1l, n_m1l', n_m1g, n_m1ge, si_1, si_2, forall_eq, not_true_eq_false, not_false_eq_true, true_imp_iff, false_imp_iff, true_and, and_true, false_and, and_false, implies_true, ite_true, ite_false, if_true, if_false, Classical.not_not, Nat.reduceEqDiff, reduceIte, Nat.add_left_cancel_iff, Nat.add_eq_left, Nat.left_eq_add, and_self, n_sub, pk_mul, hfD, eq_true (show i < tl 13 from (by show i < 80; omega))]
      refine Tx_quotedEnd_r C.c.d.t hq _ ?_
      simp (disch := omega) only [litI, n_le, n_lt, n_eq, n_in, n_cl, nI_add, n_b0, n_b1, n_v0, n_v1, n_m1, n_m1', n_m1l, n_m1l', n_m1g, n_m1ge, si_1, si_2, forall_eq, not_true_eq_false, not_false_eq_true, true_imp_iff, false_imp_iff, true_and, and_true, false_and, and_false, implies_true, ite_true, ite_false, if_true, if_false, Classical.not_not, Nat.reduceEqDiff, reduceIte, Nat.add_left_cancel_iff, Nat.add_eq_left, Nat.left_eq_add, and_self, n_sub, pk_mul, T.uS v hv, eq_true (show v < 160 by omega)]
      exact mea (by omega) (by omega) 4 _ (fun _ _ => hp) k k2
  · rw [if_neg (by omega), if_neg (by omega), if_neg (by omega), if_pos (by omega)] at hp
    unfold meab at hp
    refine ⟨fun k => ?_, fun k => ⟨fun k2 => ?_, fun k2 => ?_⟩⟩
    · rw [if_neg k] at hp; exact hp
    · rw [if_pos k, if_neg (by omega), if_pos (by omega), if_neg k2] at hp; exact hp
    · rw [if_pos k, if_neg (by omega), if_pos (by omega), if_pos k2] at hp
      have hq := qe_sp (tx := tD) (len := lD) (x := D.fr i + 1) (by omega)
      have hq1 := hq.1
      have hfD : σ.1 (13 + 2) i = nI (D.fr i) := T.fD i hi
      show wq_Tr_charactersOf 13 (nI i) σ _
      simp (disch := omega) only [wq_Tr_charactersOf, litI, n_le, n_lt, n_eq, n_in, n_cl, nI_add, n_b0, n_b1, n_v0, n_v1, n_m1, n_m1', n_m1l, n_m1l', n_m1g, n_m1ge, si_1, si_2, forall_eq, not_true_eq_false, not_false_eq_true, true_imp_iff, false_imp_iff, true_and, and_true, false_and, and_false, implies_true, ite_true, ite_false, if_true, if_false, Classical.not_not, Nat.reduceEqDiff, reduceIte, Nat.add_left_cancel_iff, Nat.add_eq_left, Nat.left_eq_add, and_self, n_sub, pk_mul, hfD, eq_true (show i < tl 13 from (by show i < 80; omega))]
      refine Tx_quotedEnd_r C.c.d.t hq _ ?_
      simp (disch := omega) only [litI, n_le, n_lt, n_eq, n_in, n_cl, nI_add, n_b0, n_b1, n_v0, n_v1, n_m1, n_m1', n_m1l, n_m1l', n_m1g, n_m1ge, si_1, si_2, forall_eq, not_true_eq_false, not_false_eq_true, true_imp_iff, false_imp_iff, true_and, and_true, false_and, and_false, implies_true, ite_true, ite_false, if_true, if_false, Classical.not_not, Nat.reduceEqDiff, reduceIte, Nat.add_left_cancel_iff, Nat.add_eq_left, Nat.left_eq_add, and_self, n_sub, pk_mul, T.uS v hv, eq_true (show v < 160 by omega)]
      exact mea (by omega) (by omega) 4 _ (fun _ _ => hp) k k2
  · rw [if_neg (by omega), if_neg (by omega), if_neg (by omega), if_pos (by omega)] at hp
    unfold meab at hp
    refine ⟨fun k => ?_, fun k => ⟨fun k2 => ?_, fun k2 => ?_⟩⟩
    · rw [if_neg k] at hp; exact hp
    · rw [if_pos k, if_neg (by omega), if_neg (by omega), if_neg k2] at hp; exact hp
    · rw [if_pos k, if_neg (by omega), if_neg (by omega), if_pos k2] at hp
      exact mea (by omega) (by omega) 5 _ (fun _ _ => hp) k k2
  · rw [if_neg (by omega), if_neg (by omega), if_neg (by omega), if_pos (by omega)] at hp
    unfold meab at hp
    refine ⟨fun k => ?_, fun k => ⟨fun k2 => ?_, fun k2 => ?_⟩⟩
    · rw [if_neg k] at hp; exact hp
    · rw [if_pos k, if_neg (by omega), if_neg (by omega), if_neg k2] at hp; exact hp
    · rw [if_pos k, if_neg (by omega), if_neg (by omega), if_pos k2] at hp
      exact mea (by omega) (by omega) 5 _ (fun _ _ => hp) k k2
  · rw [if_neg (by omega), if_neg (by omega), if_neg (by omega), if_neg (by omega), if_pos w] at hp
    unfold reqb at hp
    refine ⟨fun k => ?_, fun k => ⟨fun k2 => ?_, fun k2 => ?_⟩⟩
    · rw [if_neg (fun z => k z.1)] at hp; exact hp
    · rw [if_neg (fun z => k2 z.2)] at hp; exact hp
    · rw [if_pos ⟨k, k2⟩] at hp
      exact allNames_r C.c hv hi _ (bsimp _ hp)
  · rw [if_neg (by omega), if_neg (by omega), if_neg (by omega), if_neg (by omega), if_neg (by omega), if_pos (by omega)] at hp
    refine hcld _ ?_
    rw [nB_n]; exact ⟨trivial, hp⟩
  · rw [if_neg (by omega), if_neg (by omega), if_neg (by omega), if_neg (by omega), if_neg (by omega), if_pos (by omega)] at hp
    refine hcld _ ?_
    rw [nB_n]; exact ⟨trivial, hp⟩
  · rw [if_neg (by omega), if_neg (by omega), if_neg (by omega), if_neg (by omega), if_neg (by omega), if_pos (by omega)] at hp
    refine hcld _ ?_
    rw [nB_n]; exact ⟨trivial, hp⟩
  · rw [if_neg (by omega), if_neg (by omega), if_neg (by omega), if_neg (by omega), if_neg (by omega), if_neg (by omega), if_pos w] at hp
    refine ⟨fun k => ?_, fun k => ?_⟩
    · rw [if_neg k] at hp; exact hp
    · rw [if_pos k] at hp
      refine hcnt _ ?_
      simp (disch := omega) only [litI, n_le, n_lt, n_eq, n_in, n_cl, nI_add, n_b0, n_b1, n_v0, n_v1, n_m1, n_m1', n_m1l, n_m1l', n_m1g, n_m1ge, si_1, si_2, forall_eq, not_true_eq_false, not_false_eq_true, true_imp_iff, false_imp_iff, true_and, and_true, false_and, and_false, implies_true, ite_true, ite_false, if_true, if_false, Classical.not_not, Nat.reduceEqDiff, reduceIte, Nat.add_left_cancel_iff, Nat.add_eq_left, Nat.left_eq_add, and_self, n_sub, pk_mul, T.mS v hv, eq_true (show v < 160 by omega)]
      exact dP' hp
  · rw [if_neg (by omega), if_neg (by omega), if_neg (by omega), if_neg (by omega), if_neg (by omega), if_neg (by omega), if_neg (by omega), if_pos w] at hp
    refine ⟨fun k => ?_, fun k => ?_⟩
    · rw [if_neg k] at hp; exact hp
    · rw [if_pos k] at hp
      refine hcnt _ ?_
      simp (disch := omega) only [litI, n_le, n_lt, n_eq, n_in, n_cl, nI_add, n_b0, n_b1, n_v0, n_v1, n_m1, n_m1', n_m1l, n_m1l', n_m1g, n_m1ge, si_1, si_2, forall_eq, not_true_eq_false, not_false_eq_true, true_imp_iff, false_imp_iff, true_and, and_true, false_and, and_false, implies_true, ite_true, ite_false, if_true, if_false, Classical.not_not, Nat.reduceEqDiff, reduceIte, Nat.add_left_cancel_iff, Nat.add_eq_left, Nat.left_eq_add, and_self, n_sub, pk_mul]
      by_cases q : 0 < cntb S (hCf S σ) v i
      · rw [decide_eq_true q] at hp; exact ⟨fun z => by omega, fun _ => hp⟩
      · rw [decide_eq_false q] at hp; exact ⟨fun _ => hp, fun z => by omega⟩
  · rw [if_neg (by omega), if_neg (by omega), if_neg (by omega), if_neg (by omega), if_neg (by omega), if_neg (by omega), if_neg (by omega), if_neg (by omega), if_pos w] at hp
    refine ⟨fun k => ?_, fun k => ?_⟩
    · rw [if_neg k] at hp; exact hp
    · rw [if_pos k] at hp
      refine hcnt _ ?_
      simp (disch := omega) only [litI, n_le, n_lt, n_eq, n_in, n_cl, nI_add, n_b0, n_b1, n_v0, n_v1, n_m1, n_m1', n_m1l, n_m1l', n_m1g, n_m1ge, si_1, si_2, forall_eq, not_true_eq_false, not_false_eq_true, true_imp_iff, false_imp_iff, true_and, and_true, false_and, and_false, implies_true, ite_true, ite_false, if_true, if_false, Classical.not_not, Nat.reduceEqDiff, reduceIte, Nat.add_left_cancel_iff, Nat.add_eq_left, Nat.left_eq_add, and_self, n_sub, pk_mul]
      exact dP' hp
  · rw [if_neg (by omega), if_neg (by omega), if_neg (by omega), if_neg (by omega), if_neg (by omega), if_neg (by omega), if_neg (by omega), if_neg (by omega), if_neg (by omega), if_pos w] at hp
    refine isHeld_r C hv hi _ ?_
    refine bQ' (fun q => ?_) (fun q => ?_)
    · rw [q] at hp; exact hp
    · rw [q] at hp; exact hp
  · rw [if_neg (by omega), if_neg (by omega), if_neg (by omega), if_neg (by omega), if_neg (by omega), if_neg (by omega), if_neg (by omega), if_neg (by omega), if_neg (by omega), if_neg (by omega), if_pos w] at hp
    have htg : tgt tS lS S v = mtg tS lS S v := by unfold tgt; rw [if_pos w]
    refine ⟨fun k => ?_, fun k => ?_⟩
    · rw [if_neg k] at hp; exact hp
    · rw [if_pos k] at hp
      rw [htg]
      cases hq : mtg tS lS S v with
      | none =>
        rw [hq] at hp
        simp (disch := omega) only [hm1, oI, litI, n_le, n_lt, n_eq, n_in, n_cl, nI_add, n_b0, n_b1, n_v0, n_v1, n_m1, n_m1', n_m1l, n_m1l', n_m1g, n_m1ge, si_1, si_2, forall_eq, not_true_eq_false, not_false_eq_true, true_imp_iff, false_imp_iff, true_and, and_true, false_and, and_false, implies_true, ite_true, ite_false, if_true, if_false, Classical.not_not, Nat.reduceEqDiff, reduceIte, Nat.add_left_cancel_iff, Nat.add_eq_left, Nat.left_eq_add, and_self, n_sub, pk_mul]
        exact hp
      | some x =>
        have hx := mtg_lt C.c.ws hv hq
        rw [hq] at hp
        simp (disch := omega) only [hm1, oI, litI, n_le, n_lt, n_eq, n_in, n_cl, nI_add, n_b0, n_b1, n_v0, n_v1, n_m1, n_m1', n_m1l, n_m1l', n_m1g, n_m1ge, si_1, si_2, forall_eq, not_true_eq_false, not_false_eq_true, true_imp_iff, false_imp_iff, true_and, and_true, false_and, and_false, implies_true, ite_true, ite_false, if_true, if_false, Classical.not_not, Nat.reduceEqDiff, reduceIte, Nat.add_left_cancel_iff, Nat.add_eq_left, Nat.left_eq_add, and_self, n_sub, pk_mul]
        exact isHeld_r C hx hi _ (bsimp _ hp)
  · rw [if_neg (by omega), if_neg (by omega), if_neg (by omega), if_neg (by omega), if_neg (by omega), if_pos (by omega)] at hp
    refine hcld _ ?_
    rw [nB_n]; exact ⟨trivial, hp⟩
  · rw [if_neg (by omega), if_neg (by omega), if_neg (by omega), if_neg (by omega), if_neg (by omega), if_neg (by omega), if_neg (by omega), if_neg (by omega), if_neg (by omega), if_neg (by omega), if_neg (by omega)] at hp
    exact hp
theorem holdsEv_r (C : CV tS lS S tD lD D σ) {a i c : Nat} (ha : a < S.N) (hi : i < D.N) (hc : c < D.N) : Ri (wq_Vd_holdsAndEvaluates (nI a) (nI i) (nI c) σ) (nB (epb tS lS S (hCf S σ) (eCf σ) i c a)) σ := by
  have T := CC_T C.c
  have hn := C.c.ns
  have hd := C.c.nd
  have hk := C.c.ws.kd a ha
  have hm1 : (-1 : Int32) = -nI 1 := rfl
  have hcb := Pl_childBy_r (w := 20) C.c.s C.c.ws ha hn (by omega) (by omega) C.p.w
  intro post hp
  unfold wq_Vd_holdsAndEvaluates
  unfold epb at hp
  by_cases h6 : S.kd a = 6
  · rw [decide_eq_true h6, Bool.true_and] at hp
    have hh : hCf S σ a i = hb σ 36 a i := by unfold hCf; rw [if_pos h6]
    rw [hh] at hp
    simp (disch := omega) only [T.kS a ha, litI, n_le, n_lt, n_eq, n_in, n_cl, nI_add, n_b0, n_b1, n_v0, n_v1, n_m1, n_m1', n_m1l, n_m1l', n_m1g, n_m1ge, si_1, si_2, forall_eq, not_true_eq_false, not_false_eq_true, true_imp_iff, false_imp_iff, true_and, and_true, false_and, and_false, implies_true, ite_true, ite_false, if_true, if_false, Classical.not_not, Nat.reduceEqDiff, reduceIte, Nat.add_left_cancel_iff, Nat.add_eq_left, Nat.left_eq_add, and_self, n_sub, pk_mul, eq_true (show a < 160 by omega), eq_true h6, Mk_has_r (show a < 160 by omega) (show i < 128 by omega), Mk_has_r (show a < 160 by omega) (show c < 128 by omega)]
    refine bQ' (fun q => ?_) (fun q => ?_)
    · rw [q] at hp; exact hp
    · rw [q, Bool.true_and] at hp
      refine bQ' (fun q2 => ?_) (fun q2 => ?_)
      · rw [show eCf σ a c = false from q2, Bool.false_or] at hp
        refine hcb _ ?_
        cases hr : rul tS lS S a 20 with
        | none =>
          rw [hr] at hp
          simp (disch := omega) only [hm1, oI, litI, n_le, n_lt, n_eq, n_in, n_cl, nI_add, n_b0, n_b1, n_v0, n_v1, n_m1, n_m1', n_m1l, n_m1l', n_m1g, n_m1ge, si_1, si_2, forall_eq, not_true_eq_false, not_false_eq_true, true_imp_iff, false_imp_iff, true_and, and_true, false_and, and_false, implies_true, ite_true, ite_false, if_true, if_false, Classical.not_not, Nat.reduceEqDiff, reduceIte, Nat.add_left_cancel_iff, Nat.add_eq_left, Nat.left_eq_add, and_self, n_sub, pk_mul]
          exact hp
        | some x =>
          have hx := rul_lt C.c.ws ha hr
          rw [hr] at hp
          simp (disch := omega) only [hm1, oI, litI, n_le, n_lt, n_eq, n_in, n_cl, nI_add, n_b0, n_b1, n_v0, n_v1, n_m1, n_m1', n_m1l, n_m1l', n_m1g, n_m1ge, si_1, si_2, forall_eq, not_true_eq_false, not_false_eq_true, true_imp_iff, false_imp_iff, true_and, and_true, false_and, and_false, implies_true, ite_true, ite_false, if_true, if_false, Classical.not_not, Nat.reduceEqDiff, reduceIte, Nat.add_left_cancel_iff, Nat.add_eq_left, Nat.left_eq_add, and_self, n_sub, pk_mul]
          exact hp
      · rw [show eCf σ a c = true from q2, Bool.true_or] at hp; exact hp
  · rw [decide_eq_false h6, Bool.false_and, Bool.false_and] at hp
    simp (disch := omega) only [T.kS a ha, litI, n_le, n_lt, n_eq, n_in, n_cl, nI_add, n_b0, n_b1, n_v0, n_v1, n_m1, n_m1', n_m1l, n_m1l', n_m1g, n_m1ge, si_1, si_2, forall_eq, not_true_eq_false, not_false_eq_true, true_imp_iff, false_imp_iff, true_and, and_true, false_and, and_false, implies_true, ite_true, ite_false, if_true, if_false, Classical.not_not, Nat.reduceEqDiff, reduceIte, Nat.add_left_cancel_iff, Nat.add_eq_left, Nat.left_eq_add, and_self, n_sub, pk_mul, eq_true (show a < 160 by omega), eq_false h6]
    exact hp
theorem evInside_r (C : CV tS lS S tD lD D σ) {v i c : Nat} (hv : v < S.N) (hi : i < D.N) (hc : c < D.N) : Ri (wq_Vd_isEvaluatedInside (nI v) (nI i) (nI c) σ) (nB ((S.K v).any (epb tS lS S (hCf S σ) (eCf σ) i c))) σ := by
  have T := CC_T C.c
  have hn := C.c.ns
  have hl := len_K C.c.ws hv
  intro post hp
  unfold wq_Vd_isEvaluatedInside
  refine ex_s ?_
  simp only [wp_Vd_isEvaluatedInside, wb_Vd_isEvaluatedInside_0, litI, n_le, n_lt, n_eq, n_in, n_cl, nI_add, n_b0, n_b1, n_v0, n_v1, n_m1, n_m1', n_m1l, n_m1l', n_m1g, n_m1ge, si_1, si_2, forall_eq, not_true_eq_false, not_false_eq_true, true_imp_iff, false_imp_iff, true_and, and_true, false_and, and_false, implies_true, ite_true, ite_false, if_true, if_false, Classical.not_not, Nat.reduceEqDiff, reduceIte, Nat.add_left_cancel_iff, Nat.add_eq_left, Nat.left_eq_add, and_self, n_sub, pk_mul]
  refine loopC0 (S.K v) (fun n j x => wp_Vd_isEvaluatedInside post n 1 (nI v) (nI i) (nI c) (nI j) x σ) (fun pre => pre.any (epb tS lS S (hCf S σ) (eCf σ) i c) = false) (T.cS v hv) (by simp) ?_ ?_
  · intro x hI
    rw [hI] at hp
    refine ⟨1, ?_⟩
    show wb_Vd_isEvaluatedInside_1 (wp_Vd_isEvaluatedInside post 0) post (nI v) (nI i) (nI c) (nI (S.K v).length) x σ
    simp (disch := omega) only [wb_Vd_isEvaluatedInside_1, litI, n_le, n_lt, n_eq, n_in, n_cl, nI_add, n_b0, n_b1, n_v0, n_v1, n_m1, n_m1', n_m1l, n_m1l', n_m1g, n_m1ge, si_1, si_2, forall_eq, not_true_eq_false, not_false_eq_true, true_imp_iff, false_imp_iff, true_and, and_true, false_and, and_false, implies_true, ite_true, ite_false, if_true, if_false, Classical.not_not, Nat.reduceEqDiff, reduceIte, Nat.add_left_cancel_iff, Nat.add_eq_left, Nat.left_eq_add, and_self, n_sub, pk_mul, T.mS v hv, eq_true (show v < 160 by omega), Nat.le_refl]
    exact hp
  · intro pre a suf hK hI ih
    have ha := C.c.ws.ch v hv a (by rw [hK]; simp)
    have hln : (S.K v).length = pre.length + suf.length + 1 := by rw [hK]; simp; omega
    have hsm := holdsEv_r C ha.2.1 hi hc
    cases hq : epb tS lS S (hCf S σ) (eCf σ) i c a with
    | true =>
      rw [any_spl hK hq] at hp
      rw [hq] at hsm
      refine ⟨1, ?_⟩
      show wb_Vd_isEvaluatedInside_1 (wp_Vd_isEvaluatedInside post 0) post (nI v) (nI i) (nI c) (nI pre.length) (nI a) σ
      simp (disch := omega) only [wb_Vd_isEvaluatedInside_1, litI, n_le, n_lt, n_eq, n_in, n_cl, nI_add, n_b0, n_b1, n_v0, n_v1, n_m1, n_m1', n_m1l, n_m1l', n_m1g, n_m1ge, si_1, si_2, forall_eq, not_true_eq_false, not_false_eq_true, true_imp_iff, false_imp_iff, true_and, and_true, false_and, and_false, implies_true, ite_true, ite_false, if_true, if_false, Classical.not_not, Nat.reduceEqDiff, reduceIte, Nat.add_left_cancel_iff, Nat.add_eq_left, Nat.left_eq_add, and_self, n_sub, pk_mul, T.mS v hv, eq_true (show v < 160 by omega), eq_false (show ¬ (S.K v).length ≤ pre.length by omega)]
      refine hsm _ ?_
      simp only [nB_0, litI, n_le, n_lt, n_eq, n_in, n_cl, nI_add, n_b0, n_b1, n_v0, n_v1, n_m1, n_m1', n_m1l, n_m1l', n_m1g, n_m1ge, si_1, si_2, forall_eq, not_true_eq_false, not_false_eq_true, true_imp_iff, false_imp_iff, true_and, and_true, false_and, and_false, implies_true, ite_true, ite_false, if_true, if_false, Classical.not_not, Nat.reduceEqDiff, reduceIte, Nat.add_left_cancel_iff, Nat.add_eq_left, Nat.left_eq_add, and_self, n_sub, pk_mul, Bool.true_eq_false]
      exact hp
    | false =>
      rw [hq] at hsm
      obtain ⟨n, hn⟩ := ih (by rw [List.any_append, hI]; simp [hq])
      refine ⟨n + 1, ?_⟩
      show wb_Vd_isEvaluatedInside_1 (wp_Vd_isEvaluatedInside post n) post (nI v) (nI i) (nI c) (nI pre.length) (nI a) σ
      simp (disch := omega) only [wb_Vd_isEvaluatedInside_1, litI, n_le, n_lt, n_eq, n_in, n_cl, nI_add, n_b0, n_b1, n_v0, n_v1, n_m1, n_m1', n_m1l, n_m1l', n_m1g, n_m1ge, si_1, si_2, forall_eq, not_true_eq_false, not_false_eq_true, true_imp_iff, false_imp_iff, true_and, and_true, false_and, and_false, implies_true, ite_true, ite_false, if_true, if_false, Classical.not_not, Nat.reduceEqDiff, reduceIte, Nat.add_left_cancel_iff, Nat.add_eq_left, Nat.left_eq_add, and_self, n_sub, pk_mul, T.mS v hv, eq_true (show v < 160 by omega), eq_false (show ¬ (S.K v).length ≤ pre.length by omega)]
      refine hsm _ ?_
      simp (disch := omega) only [nB_0, litI, n_le, n_lt, n_eq, n_in, n_cl, nI_add, n_b0, n_b1, n_v0, n_v1, n_m1, n_m1', n_m1l, n_m1l', n_m1g, n_m1ge, si_1, si_2, forall_eq, not_true_eq_false, not_false_eq_true, true_imp_iff, false_imp_iff, true_and, and_true, false_and, and_false, implies_true, ite_true, ite_false, if_true, if_false, Classical.not_not, Nat.reduceEqDiff, reduceIte, Nat.add_left_cancel_iff, Nat.add_eq_left, Nat.left_eq_add, and_self, n_sub, pk_mul, eq_true (show a < 160 by omega)]
      exact hn
/-- the child v of s evaluates c -/
noncomputable def evv (tS : Nat → Nat) (lS : Nat) (S : TG) (tD : Nat → Nat) (lD : Nat) (D : TG) (h e : Nat → Nat → Bool) (s i c v : Nat) : Bool :=
  if wrd tS lS S v = 12 ∨ wrd tS lS S v = 13 then (nfr tS lS S tD lD D e s (wrd tS lS S v) v i c).isSome else if wrd tS lS S v = 15 ∨ wrd tS lS S v = 16 ∨ wrd tS lS S v = 17 then (if S.kd v = 5 then (S.K v).any (epb tS lS S h e i c) else false) else if wrd tS lS S v = 19 then (match mtg tS lS S v with
    | some x => epb tS lS S h e i c x
    | none => false) else false
theorem evaluatesBy_r (C : CV tS lS S tD lD D σ) {s v i c : Nat} (hs : s < S.N) (hv : v < S.N) (hi : i < D.N) (hcK : c ∈ D.K i) : Ri (wq_Vd_evaluatesBy (nI s) (nI v) (nI i) (nI c) σ) (nB (evv tS lS S tD lD D (hCf S σ) (eCf σ) s i c v)) σ := by
  have T := CC_T C.c
  have hn := C.c.ns
  have hkv := C.c.ws.kd v hv
  have hwl := wrd_le (tx := tS) (len := lS) (G := S) (c := v)
  have hm1 : (-1 : Int32) = -nI 1 := rfl
  have h30 := C.p.w v hv
  have h31 := C.p.t v hv
  have hc := (C.c.wd.ch i hi c hcK).2.1
  intro post hp
  have hnf := nodeFor_r C hs hv hi hcK
  have hin := evInside_r C hv hi hc
  unfold evv at hp
  have pr : (wrd tS lS S v = 12 ∨ wrd tS lS S v = 13) → wq_Vd_nodeFor (nI s) (nI v) (nI i) (nI c) σ (fun r1 σ1 => (r1 = -nI 1 → post (nI 0) σ1) ∧ (¬ r1 = -nI 1 → post (nI 1) σ1)) := fun w => by
    rw [if_pos w] at hp
    refine hnf _ ?_
    cases hq : nfr tS lS S tD lD D (eCf σ) s (wrd tS lS S v) v i c with
    | none => rw [hq] at hp; exact ⟨fun _ => hp, fun z => absurd rfl z⟩
    | some x => rw [hq] at hp; have := nfr_lt C.c.ws hs hv hq; exact ⟨fun z => ((n_m1 (show x < 2147483648 by omega)).mp z).elim, fun _ => hp⟩
  have arr : (wrd tS lS S v = 15 ∨ wrd tS lS S v = 16 ∨ wrd tS lS S v = 17) → ((¬ S.kd v = 5 → post (nI 0) σ) ∧ (S.kd v = 5 → wq_Vd_isEvaluatedInside (nI v) (nI i) (nI c) σ (fun r1 σ1 => (r1 = nI 0 → post (nI 0) σ1) ∧ (¬ r1 = nI 0 → post (nI 1) σ1)))) := fun w => by
    rw [if_neg (by omega), if_pos w] at hp
    refine ⟨fun k => ?_, fun k => ?_⟩
    · rw [if_neg k] at hp; exact hp
    · rw [if_pos k] at hp; exact hin _ (bP hp)
  unfold wq_Vd_evaluatesBy
  simp (disch := omega) only [litI, n_le, n_lt, n_eq, n_in, n_cl, nI_add, n_b0, n_b1, n_v0, n_v1, n_m1, n_m1', n_m1l, n_m1l', n_m1g, n_m1ge, si_1, si_2, forall_eq, not_true_eq_false, not_false_eq_true, true_imp_iff, false_imp_iff, true_and, and_true, false_and, and_false, implies_true, ite_true, ite_false, if_true, if_false, Classical.not_not, Nat.reduceEqDiff, reduceIte, Nat.add_left_cancel_iff, Nat.add_eq_left, Nat.left_eq_add, and_self, n_sub, pk_mul, h30, h31, T.kS v hv, eq_true (show v < 160 by omega), hm1]
  refine ⟨fun w => pr (by omega), fun w => pr (by omega), fun w => ?_, fun w => arr (by omega), fun w => arr (by omega), fun w => arr (by omega), fun w => ?_, fun w => ?_, fun w => ?_⟩
  · rw [if_neg (by omega), if_neg (by omega), if_neg (by omega)] at hp; exact hp
  · rw [if_neg (by omega), if_neg (by omega), if_neg (by omega)] at hp; exact hp
  · rw [if_neg (by omega), if_neg (by omega), if_pos w] at hp
    have htg : tgt tS lS S v = mtg tS lS S v := by unfold tgt; rw [if_pos w]
    rw [htg]
    cases hq : mtg tS lS S v with
    | none =>
      rw [hq] at hp
      simp (disch := omega) only [oI, litI, n_le, n_lt, n_eq, n_in, n_cl, nI_add, n_b0, n_b1, n_v0, n_v1, n_m1, n_m1', n_m1l, n_m1l', n_m1g, n_m1ge, si_1, si_2, forall_eq, not_true_eq_false, not_false_eq_true, true_imp_iff, false_imp_iff, true_and, and_true, false_and, and_false, implies_true, ite_true, ite_false, if_true, if_false, Classical.not_not, Nat.reduceEqDiff, reduceIte, Nat.add_left_cancel_iff, Nat.add_eq_left, Nat.left_eq_add, and_self, n_sub, pk_mul]
      exact hp
    | some x =>
      have hx := mtg_lt C.c.ws hv hq
      rw [hq] at hp
      simp (disch := omega) only [oI, litI, n_le, n_lt, n_eq, n_in, n_cl, nI_add, n_b0, n_b1, n_v0, n_v1, n_m1, n_m1', n_m1l, n_m1l', n_m1g, n_m1ge, si_1, si_2, forall_eq, not_true_eq_false, not_false_eq_true, true_imp_iff, false_imp_iff, true_and, and_true, false_and, and_false, implies_true, ite_true, ite_false, if_true, if_false, Classical.not_not, Nat.reduceEqDiff, reduceIte, Nat.add_left_cancel_iff, Nat.add_eq_left, Nat.left_eq_add, and_self, n_sub, pk_mul]
      exact holdsEv_r C hx hi hc _ (bP hp)
  · rw [if_neg (by omega), if_neg (by omega), if_neg (by omega)] at hp; exact hp
end WE
