section SM2
variable {tS : Nat → Nat} {lS : Nat} {S : TG} {tD : Nat → Nat} {lD : Nat} {D : TG} {L : List Nat} {σ : Sg}
theorem oI_lt {o : Option Nat} (h : ∀ c, o = some c → c < 2147483648) : (oI o < nI 0) ↔ o = none := by
  cases o with
  | none => simp [oI]; decide +kernel
  | some c => simp [oI, n_lt (h c rfl) (show 0 < 2147483648 by decide)]
theorem oI_ge {o : Option Nat} (h : ∀ c, o = some c → c < 2147483648) : (nI 0 ≤ oI o) ↔ ¬ o = none := by
  cases o with
  | none => simp [oI]; decide +kernel
  | some c => simp [oI, n_le (show 0 < 2147483648 by decide) (h c rfl)]
theorem propFor_r (M : MC tS lS S tD lD D L σ) {s i c : Nat} (hs : s < S.N) (hi : i < D.N) (k6 : D.kd i = 6) (hc : c ∈ D.K i) : Ri (wq_Md_propertyFor (nI s) (nI (160 + c)) σ) (oI (prf tS lS S tD lD D s c)) σ := by
  have T := MC_T M
  have hn := M.ns
  have hd := M.nd
  have hcN := (M.wd.ch i hi c hc).2.1
  have hm1 : (-1 : Int32) = -nI 1 := rfl
  have r12 : σ.1 76 (22 * s + 12) = oI (rul tS lS S s 12) := M.p.r.r s 12 hs (by omega) (by omega)
  intro post hp
  unfold wq_Md_propertyFor
  unfold prf prp at hp
  cases hr : rul tS lS S s 12 with
  | none =>
    rw [hr] at hp r12
    simp (disch := omega) only [litI, n_le, n_lt, n_eq, n_in, n_cl, nI_add, n_b0, n_b1, n_v0, n_v1, n_m1, n_m1', n_m1l, n_m1l', n_m1g, n_m1ge, si_1, si_2, forall_eq, not_true_eq_false, not_false_eq_true, true_imp_iff, false_imp_iff, true_and, and_true, false_and, and_false, implies_true, ite_true, ite_false, if_true, if_false, Classical.not_not, Nat.reduceEqDiff, reduceIte, Nat.add_left_cancel_iff, Nat.add_eq_left, Nat.left_eq_add, and_self, n_sub, pk_mul, r12, oI, hm0, hm1, eq_true (show 22 * s + 12 < 3520 by omega)]
    exact hp
  | some v =>
    have hv := rul_lt M.ws hs hr
    have hkv := M.ws.kd v hv
    rw [hr] at hp r12
    by_cases h6 : S.kd v = 6
    · simp only [h6, if_true] at hp
      have hnx := nm_o M.wd hi k6 hc
      have h67 : σ.1 67 (160 + c) = nI (nmo D c) := by have := T.aD c hcN; rw [hnx.1] at this; exact this
      have h68 := T.eD c hcN _ hnx.1
      have hq := qe_sp (tx := tD) (len := lD) (x := nmo D c + 1) (by omega)
      have hcn := cn_s M hv h6 hq.1 hq.2.1
      simp (disch := omega) only [litI, n_le, n_lt, n_eq, n_in, n_cl, nI_add, n_b0, n_b1, n_v0, n_v1, n_m1, n_m1', n_m1l, n_m1l', n_m1g, n_m1ge, si_1, si_2, forall_eq, not_true_eq_false, not_false_eq_true, true_imp_iff, false_imp_iff, true_and, and_true, false_and, and_false, implies_true, ite_true, ite_false, if_true, if_false, Classical.not_not, Nat.reduceEqDiff, reduceIte, Nat.add_left_cancel_iff, Nat.add_eq_left, Nat.left_eq_add, and_self, n_sub, pk_mul, r12, oI, hm1, eq_true (show 22 * s + 12 < 3520 by omega), eq_false (show ¬ v < 0 by omega), eq_true (show v < 240 by omega), T.kS v hv, eq_true h6, eq_true (show 160 + c < 240 by omega), h67, h68]
      rw [show 160 + nmo D c + 1 = 160 + (nmo D c + 1) by omega]
      exact hcn _ hp
    · simp only [h6, if_false] at hp
      simp (disch := omega) only [litI, n_le, n_lt, n_eq, n_in, n_cl, nI_add, n_b0, n_b1, n_v0, n_v1, n_m1, n_m1', n_m1l, n_m1l', n_m1g, n_m1ge, si_1, si_2, forall_eq, not_true_eq_false, not_false_eq_true, true_imp_iff, false_imp_iff, true_and, and_true, false_and, and_false, implies_true, ite_true, ite_false, if_true, if_false, Classical.not_not, Nat.reduceEqDiff, reduceIte, Nat.add_left_cancel_iff, Nat.add_eq_left, Nat.left_eq_add, and_self, n_sub, pk_mul, r12, oI, hm1, eq_true (show 22 * s + 12 < 3520 by omega), eq_false (show ¬ v < 0 by omega), eq_true (show v < 240 by omega), T.kS v hv, eq_false h6]
      exact hp
def hMf (σ : Sg) (s i : Nat) : Bool := bt σ 82 s i
def eMf (σ : Sg) (_s c : Nat) : Bool := st σ c
theorem spoken_n (M : MC tS lS S tD lD D L σ) {s w : Nat} (hs : s < S.N) (hw : 1 ≤ w) (hw2 : w < 22) (hr : rul tS lS S s w = none) (x y : Int32) : Ri (wq_Md_spokenOf (nI s) (nI w) x y σ) (-nI 1) σ := by
  have hn := M.ns
  have hm1 : (-1 : Int32) = -nI 1 := rfl
  have r1 : σ.1 76 (22 * s + w) = oI (rul tS lS S s w) := M.p.r.r s w hs hw hw2
  intro post hp
  unfold wq_Md_spokenOf
  rw [hr] at r1
  simp (disch := omega) only [litI, n_le, n_lt, n_eq, n_in, n_cl, nI_add, n_b0, n_b1, n_v0, n_v1, n_m1, n_m1', n_m1l, n_m1l', n_m1g, n_m1ge, si_1, si_2, forall_eq, not_true_eq_false, not_false_eq_true, true_imp_iff, false_imp_iff, true_and, and_true, false_and, and_false, implies_true, ite_true, ite_false, if_true, if_false, Classical.not_not, Nat.reduceEqDiff, reduceIte, Nat.add_left_cancel_iff, Nat.add_eq_left, Nat.left_eq_add, and_self, n_sub, pk_mul, r1, oI, hm0', hm1, eq_true (show 22 * s + w < 3520 by omega)]
  exact hp
theorem spoken_r (M : MC tS lS S tD lD D L σ) {s w v i c : Nat} (hs : s < S.N) (hi : i < D.N) (hc : c ∈ D.K i) (hr : rul tS lS S s w = some v) (hw : w = 12 ∨ w = 13 ∨ w = 14 ∨ w = 20) : Ri (wq_Md_spokenOf (nI s) (nI w) (nI (160 + c)) (nI (160 + i)) σ) (oI (nfr tS lS S tD lD D (eMf σ) s w v i c)) σ := by
  have T := MC_T M
  have hn := M.ns
  have hd := M.nd
  have hki := M.wd.kd i hi
  have hcN := (M.wd.ch i hi c hc).2.1
  have hv := rul_lt M.ws hs hr
  have hm1 : (-1 : Int32) = -nI 1 := rfl
  have r1 : σ.1 76 (22 * s + w) = oI (rul tS lS S s w) := M.p.r.r s w hs (by omega) (by omega)
  rw [hr] at r1
  intro post hp
  unfold wq_Md_spokenOf
  unfold nfr at hp
  by_cases w14 : w = 14
  · rw [w14] at hp
    by_cases k5 : D.kd i = 5
    · rw [if_pos k5, if_pos rfl] at hp
      simp (disch := omega) only [litI, n_le, n_lt, n_eq, n_in, n_cl, nI_add, n_b0, n_b1, n_v0, n_v1, n_m1, n_m1', n_m1l, n_m1l', n_m1g, n_m1ge, si_1, si_2, forall_eq, not_true_eq_false, not_false_eq_true, true_imp_iff, false_imp_iff, true_and, and_true, false_and, and_false, implies_true, ite_true, ite_false, if_true, if_false, Classical.not_not, Nat.reduceEqDiff, reduceIte, Nat.add_left_cancel_iff, Nat.add_eq_left, Nat.left_eq_add, and_self, n_sub, pk_mul, r1, oI, hm1, eq_true (show 22 * s + w < 3520 by omega), Nat.zero_le, eq_true w14, eq_true (show 160 + i < 240 by omega), T.kD i hi, eq_true k5]
      exact hp
    · rw [if_neg k5, if_neg (show ¬ 14 = 20 by decide), if_neg (show ¬ 14 = 12 by decide), if_neg (show ¬ 14 = 13 by decide), ite_self] at hp
      simp (disch := omega) only [litI, n_le, n_lt, n_eq, n_in, n_cl, nI_add, n_b0, n_b1, n_v0, n_v1, n_m1, n_m1', n_m1l, n_m1l', n_m1g, n_m1ge, si_1, si_2, forall_eq, not_true_eq_false, not_false_eq_true, true_imp_iff, false_imp_iff, true_and, and_true, false_and, and_false, implies_true, ite_true, ite_false, if_true, if_false, Classical.not_not, Nat.reduceEqDiff, reduceIte, Nat.add_left_cancel_iff, Nat.add_eq_left, Nat.left_eq_add, and_self, n_sub, pk_mul, r1, oI, hm1, eq_true (show 22 * s + w < 3520 by omega), Nat.zero_le, eq_true w14, eq_true (show 160 + i < 240 by omega), T.kD i hi, eq_false k5]
      exact hp
  by_cases k6 : D.kd i = 6
  case neg =>
    rw [if_neg w14, if_neg k6, ite_self] at hp
    simp (disch := omega) only [litI, n_le, n_lt, n_eq, n_in, n_cl, nI_add, n_b0, n_b1, n_v0, n_v1, n_m1, n_m1', n_m1l, n_m1l', n_m1g, n_m1ge, si_1, si_2, forall_eq, not_true_eq_false, not_false_eq_true, true_imp_iff, false_imp_iff, true_and, and_true, false_and, and_false, implies_true, ite_true, ite_false, if_true, if_false, Classical.not_not, Nat.reduceEqDiff, reduceIte, Nat.add_left_cancel_iff, Nat.add_eq_left, Nat.left_eq_add, and_self, n_sub, pk_mul, r1, oI, hm1, eq_true (show 22 * s + w < 3520 by omega), Nat.zero_le, eq_false w14, eq_true (show 160 + i < 240 by omega), T.kD i hi, eq_false k6]
    exact hp
  rw [if_neg (show ¬ D.kd i = 5 by omega), if_pos k6] at hp
  have hpf := propFor_r M hs hi k6 hc
  have hlt : ∀ x, prf tS lS S tD lD D s c = some x → x < 2147483648 := fun x hx => by have := prf_lt M.ws hs hx; omega
  simp (disch := omega) only [litI, n_le, n_lt, n_eq, n_in, n_cl, nI_add, n_b0, n_b1, n_v0, n_v1, n_m1, n_m1', n_m1l, n_m1l', n_m1g, n_m1ge, si_1, si_2, forall_eq, not_true_eq_false, not_false_eq_true, true_imp_iff, false_imp_iff, true_and, and_true, false_and, and_false, implies_true, ite_true, ite_false, if_true, if_false, Classical.not_not, Nat.reduceEqDiff, reduceIte, Nat.add_left_cancel_iff, Nat.add_eq_left, Nat.left_eq_add, and_self, n_sub, pk_mul, r1, oI, hm1, eq_true (show 22 * s + w < 3520 by omega), Nat.zero_le, eq_false w14, eq_true (show 160 + i < 240 by omega), T.kD i hi, eq_true k6]
  refine hpf _ ?_
  rcases hw with w1 | w1 | w1 | w1
  · rw [if_neg (by omega), if_pos w1] at hp
    simp (disch := omega) only [litI, n_le, n_lt, n_eq, n_in, n_cl, nI_add, n_b0, n_b1, n_v0, n_v1, n_m1, n_m1', n_m1l, n_m1l', n_m1g, n_m1ge, si_1, si_2, forall_eq, not_true_eq_false, not_false_eq_true, true_imp_iff, false_imp_iff, true_and, and_true, false_and, and_false, implies_true, ite_true, ite_false, if_true, if_false, Classical.not_not, Nat.reduceEqDiff, reduceIte, Nat.add_left_cancel_iff, Nat.add_eq_left, Nat.left_eq_add, and_self, n_sub, pk_mul, eq_true w1]
    exact hp
  · rw [if_neg (by omega), if_neg (by omega), if_pos w1] at hp
    simp (disch := omega) only [litI, n_le, n_lt, n_eq, n_in, n_cl, nI_add, n_b0, n_b1, n_v0, n_v1, n_m1, n_m1', n_m1l, n_m1l', n_m1g, n_m1ge, si_1, si_2, forall_eq, not_true_eq_false, not_false_eq_true, true_imp_iff, false_imp_iff, true_and, and_true, false_and, and_false, implies_true, ite_true, ite_false, if_true, if_false, Classical.not_not, Nat.reduceEqDiff, reduceIte, Nat.add_left_cancel_iff, Nat.add_eq_left, Nat.left_eq_add, and_self, n_sub, pk_mul, eq_true w1, eq_false (show ¬ w = 12 by omega), oI_ge hlt]
    by_cases q : prf tS lS S tD lD D s c = none
    · rw [if_pos q] at hp; exact ⟨fun z => absurd q z, fun _ => hp⟩
    · rw [if_neg q] at hp; exact ⟨fun _ => hp, fun z => absurd z q⟩
  · exact absurd w1 w14
  · rw [if_pos w1] at hp
    simp (disch := omega) only [litI, n_le, n_lt, n_eq, n_in, n_cl, nI_add, n_b0, n_b1, n_v0, n_v1, n_m1, n_m1', n_m1l, n_m1l', n_m1g, n_m1ge, si_1, si_2, forall_eq, not_true_eq_false, not_false_eq_true, true_imp_iff, false_imp_iff, true_and, and_true, false_and, and_false, implies_true, ite_true, ite_false, if_true, if_false, Classical.not_not, Nat.reduceEqDiff, reduceIte, Nat.add_left_cancel_iff, Nat.add_eq_left, Nat.left_eq_add, and_self, n_sub, pk_mul, eq_false (show ¬ w = 13 by omega), eq_false (show ¬ w = 12 by omega), show 160 + c - 160 = c by omega, Md_bit_r (show c < 128 by omega)]
    show (nB (st σ c) = nI 0 → _) ∧ (¬ nB (st σ c) = nI 0 → _)
    refine bQ (fun q => ?_) (fun q => ?_)
    · rw [if_neg (by show ¬ st σ c = true; rw [q]; decide)] at hp; exact hp
    · rw [if_pos (show eMf σ s c = true from q)] at hp; exact hp
theorem children_m (M : MC tS lS S tD lD D L σ) {s w v i : Nat} (hs : s < S.N) (hi : i < D.N) (hr : rul tS lS S s w = some v) (hw : w = 12 ∨ w = 13 ∨ w = 14 ∨ w = 20) : Ri (wq_Md_children (nI s) (nI w) (nI (160 + i)) σ) (nB (chib tS lS S tD lD D (hMf σ) (eMf σ) s w v i)) σ := by
  have T := MC_T M
  have hn := M.ns
  have hd := M.nd
  have hv := rul_lt M.ws hs hr
  intro post hp
  unfold chib at hp
  have key : ∀ suf x (a : Bool), (∀ c ∈ suf, c ∈ D.K i) → chM 1 (σ.1 66) x suf → post (nB (a && suf.all (chf tS lS S tD lD D (hMf σ) (eMf σ) s w v i))) σ → ∃ n, wp_Md_children post n 1 (nI s) (nI w) (nI (160 + i)) (nB a) x σ := by
    intro suf
    induction suf with
    | nil =>
      intro x a _ hB hp
      have hB : x = -nI 1 := hB
      subst hB
      simp only [List.all_nil, Bool.and_true] at hp
      refine ⟨1, ?_⟩
      show wb_Md_children_1 (wp_Md_children post 0) post (nI s) (nI w) (nI (160 + i)) (nB a) (-nI 1) σ
      simp (disch := omega) only [wb_Md_children_1, litI, hm0, nB_n, litI, n_le, n_lt, n_eq, n_in, n_cl, nI_add, n_b0, n_b1, n_v0, n_v1, n_m1, n_m1', n_m1l, n_m1l', n_m1g, n_m1ge, si_1, si_2, forall_eq, not_true_eq_false, not_false_eq_true, true_imp_iff, false_imp_iff, true_and, and_true, false_and, and_false, implies_true, ite_true, ite_false, if_true, if_false, Classical.not_not, Nat.reduceEqDiff, reduceIte, Nat.add_left_cancel_iff, Nat.add_eq_left, Nat.left_eq_add, and_self, n_sub, pk_mul]
      exact hp
    | cons c suf ih =>
      intro x a hK hB hp
      obtain ⟨hx, hB⟩ := hB
      rw [show 160 * 1 + c = 160 + c by omega] at hx hB
      subst hx
      have hcK := hK c (List.mem_cons_self ..)
      have hcN := (M.wd.ch i hi c hcK).2.1
      cases a with
      | false =>
        refine ⟨1, ?_⟩
        show wb_Md_children_1 (wp_Md_children post 0) post (nI s) (nI w) (nI (160 + i)) (nB false) (nI (160 + c)) σ
        simp (disch := omega) only [wb_Md_children_1, litI, nB_0, nB_n, n_lt, eq_false (show ¬ 160 + c < 0 by omega), litI, n_le, n_lt, n_eq, n_in, n_cl, nI_add, n_b0, n_b1, n_v0, n_v1, n_m1, n_m1', n_m1l, n_m1l', n_m1g, n_m1ge, si_1, si_2, forall_eq, not_true_eq_false, not_false_eq_true, true_imp_iff, false_imp_iff, true_and, and_true, false_and, and_false, implies_true, ite_true, ite_false, if_true, if_false, Classical.not_not, Nat.reduceEqDiff, reduceIte, Nat.add_left_cancel_iff, Nat.add_eq_left, Nat.left_eq_add, and_self, n_sub, pk_mul]
        exact hp
      | true =>
        have hsp := spoken_r M hs hi hcK hr hw
        rw [Bool.true_and, List.all_cons] at hp
        cases hq : nfr tS lS S tD lD D (eMf σ) s w v i c with
        | none =>
          rw [hq] at hsp
          obtain ⟨n, hn⟩ := ih _ true (fun d hd => hK d (List.mem_cons_of_mem _ hd)) hB (by
            have e : chf tS lS S tD lD D (hMf σ) (eMf σ) s w v i c = true := by unfold chf; rw [hq]
            rw [e] at hp; exact hp)
          refine ⟨n + 1, ?_⟩
          show wb_Md_children_1 (wp_Md_children post n) post (nI s) (nI w) (nI (160 + i)) (nB true) (nI (160 + c)) σ
          simp (disch := omega) only [wb_Md_children_1, litI, nB_0, n_lt, eq_false (show ¬ 160 + c < 0 by omega), Bool.true_eq_false, not_false_eq_true, false_imp_iff, true_imp_iff, true_and]
          refine hsp _ ?_
          simp (disch := omega) only [oI, hm0, not_true_eq_false, false_imp_iff, true_imp_iff, and_true, n_in, n_cl, eq_true (show 160 + c < 240 by omega), true_and]
          exact hn
        | some y =>
          have hy := nfr_lt M.ws hs hv hq
          rw [hq] at hsp
          obtain ⟨n, hn⟩ := ih _ (hMf σ y c) (fun d hd => hK d (List.mem_cons_of_mem _ hd)) hB (by
            have e : chf tS lS S tD lD D (hMf σ) (eMf σ) s w v i c = hMf σ y c := by unfold chf; rw [hq]
            rw [e] at hp; exact hp)
          refine ⟨n + 1, ?_⟩
          show wb_Md_children_1 (wp_Md_children post n) post (nI s) (nI w) (nI (160 + i)) (nB true) (nI (160 + c)) σ
          simp (disch := omega) only [wb_Md_children_1, litI, nB_0, n_lt, eq_false (show ¬ 160 + c < 0 by omega), Bool.true_eq_false, not_false_eq_true, false_imp_iff, true_imp_iff, true_and]
          refine hsp _ ?_
          simp (disch := omega) only [oI, n_lt, eq_false (show ¬ y < 0 by omega), not_false_eq_true, false_imp_iff, true_imp_iff, true_and, Md_isSo_r (show c < 80 by omega) (show y < 160 by omega), n_in, n_cl, eq_true (show 160 + c < 240 by omega)]
          show (nB (hMf σ y c) = nI 0 → _) ∧ (¬ nB (hMf σ y c) = nI 0 → _)
          exact bQ (fun q => by rw [q] at hn; exact hn) (fun q => by rw [q] at hn; exact hn)
  unfold wq_Md_children
  refine ex_s ?_
  show ∃ n, wb_Md_children_0 (wp_Md_children post n) post (nI s) (nI w) (nI (160 + i)) σ
  simp (disch := omega) only [wb_Md_children_0, n_in, n_cl, eq_true (show 160 + i < 240 by omega), true_and]
  exact key (D.K i) _ true (fun c h => h) (T.cD i hi) (by rw [Bool.true_and]; exact hp)
theorem combined_m (M : MC tS lS S tD lD D L σ) {w v i : Nat} (hv : v < S.N) (hi : i < D.N) (hw : w = 15 ∨ w = 16 ∨ w = 17) :
    Ri (wq_Md_combined (nI w) (nI v) (nI (160 + i)) σ) (nB (if S.kd v = 5 then (if w = 15 then decide (cntb S (hMf σ) v i = (S.K v).length) else if w = 16 then decide (0 < cntb S (hMf σ) v i) else decide (cntb S (hMf σ) v i = 1)) else true)) σ := by
  have T := MC_T M
  have hn := M.ns
  have hd := M.nd
  have hkv := M.ws.kd v hv
  have hlv := len_K M.ws hv
  intro post hp
  unfold wq_Md_combined
  refine ex_s ?_
  show ∃ n, wb_Md_combined_0 (wp_Md_combined post n) post (nI w) (nI v) (nI (160 + i)) σ
  by_cases k5 : S.kd v = 5
  case neg =>
    rw [if_neg k5] at hp
    refine ⟨0, ?_⟩
    simp (disch := omega) only [wb_Md_combined_0, litI, n_le, n_lt, n_eq, n_in, n_cl, nI_add, n_b0, n_b1, n_v0, n_v1, n_m1, n_m1', n_m1l, n_m1l', n_m1g, n_m1ge, si_1, si_2, forall_eq, not_true_eq_false, not_false_eq_true, true_imp_iff, false_imp_iff, true_and, and_true, false_and, and_false, implies_true, ite_true, ite_false, if_true, if_false, Classical.not_not, Nat.reduceEqDiff, reduceIte, Nat.add_left_cancel_iff, Nat.add_eq_left, Nat.left_eq_add, and_self, n_sub, pk_mul, T.kS v hv, eq_true (show v < 240 by omega), eq_false k5]
    exact hp
  rw [if_pos k5] at hp
  simp (disch := omega) only [wb_Md_combined_0, litI, n_le, n_lt, n_eq, n_in, n_cl, nI_add, n_b0, n_b1, n_v0, n_v1, n_m1, n_m1', n_m1l, n_m1l', n_m1g, n_m1ge, si_1, si_2, forall_eq, not_true_eq_false, not_false_eq_true, true_imp_iff, false_imp_iff, true_and, and_true, false_and, and_false, implies_true, ite_true, ite_false, if_true, if_false, Classical.not_not, Nat.reduceEqDiff, reduceIte, Nat.add_left_cancel_iff, Nat.add_eq_left, Nat.left_eq_add, and_self, n_sub, pk_mul, T.kS v hv, eq_true (show v < 240 by omega), eq_true k5]
  have key : ∀ suf pre x, S.K v = pre ++ suf → chM 0 (σ.1 66) x suf → ∃ n, wp_Md_combined post n 1 (nI w) (nI v) (nI (160 + i)) (nI (pre.countP (fun a => hMf σ a i))) x σ := by
    intro suf
    induction suf with
    | nil =>
      intro pre x hK hB
      have hB : x = -nI 1 := hB
      subst hB
      rw [List.append_nil] at hK
      have hcl : pre.countP (fun a => hMf σ a i) ≤ pre.length := List.countP_le_length
      have hcb : cntb S (hMf σ) v i = pre.countP (fun a => hMf σ a i) := by unfold cntb; rw [hK]
      rw [hcb] at hp
      rw [hK] at hlv
      refine ⟨1, ?_⟩
      show wb_Md_combined_1 (wp_Md_combined post 0) post (nI w) (nI v) (nI (160 + i)) (nI (pre.countP (fun a => hMf σ a i))) (-nI 1) σ
      rcases hw with w1 | w1 | w1
      · rw [if_pos w1, hK] at hp
        simp (disch := omega) only [wb_Md_combined_1, hm0, litI, n_le, n_lt, n_eq, n_in, n_cl, nI_add, n_b0, n_b1, n_v0, n_v1, n_m1, n_m1', n_m1l, n_m1l', n_m1g, n_m1ge, si_1, si_2, forall_eq, not_true_eq_false, not_false_eq_true, true_imp_iff, false_imp_iff, true_and, and_true, false_and, and_false, implies_true, ite_true, ite_false, if_true, if_false, Classical.not_not, Nat.reduceEqDiff, reduceIte, Nat.add_left_cancel_iff, Nat.add_eq_left, Nat.left_eq_add, and_self, n_sub, pk_mul, eq_true w1, eq_true (show v < 240 by omega), T.mS v hv, hK]
        exact dP' hp
      · rw [if_neg (by omega), if_pos w1] at hp
        simp (disch := omega) only [wb_Md_combined_1, hm0, litI, n_le, n_lt, n_eq, n_in, n_cl, nI_add, n_b0, n_b1, n_v0, n_v1, n_m1, n_m1', n_m1l, n_m1l', n_m1g, n_m1ge, si_1, si_2, forall_eq, not_true_eq_false, not_false_eq_true, true_imp_iff, false_imp_iff, true_and, and_true, false_and, and_false, implies_true, ite_true, ite_false, if_true, if_false, Classical.not_not, Nat.reduceEqDiff, reduceIte, Nat.add_left_cancel_iff, Nat.add_eq_left, Nat.left_eq_add, and_self, n_sub, pk_mul, eq_false (show ¬ w = 15 by omega), eq_true w1]
        by_cases q : 0 < pre.countP (fun a => hMf σ a i)
        · rw [decide_eq_true q] at hp; exact ⟨fun z => by omega, fun _ => hp⟩
        · rw [decide_eq_false q] at hp; exact ⟨fun _ => hp, fun z => by omega⟩
      · rw [if_neg (by omega), if_neg (by omega)] at hp
        simp (disch := omega) only [wb_Md_combined_1, hm0, litI, n_le, n_lt, n_eq, n_in, n_cl, nI_add, n_b0, n_b1, n_v0, n_v1, n_m1, n_m1', n_m1l, n_m1l', n_m1g, n_m1ge, si_1, si_2, forall_eq, not_true_eq_false, not_false_eq_true, true_imp_iff, false_imp_iff, true_and, and_true, false_and, and_false, implies_true, ite_true, ite_false, if_true, if_false, Classical.not_not, Nat.reduceEqDiff, reduceIte, Nat.add_left_cancel_iff, Nat.add_eq_left, Nat.left_eq_add, and_self, n_sub, pk_mul, eq_false (show ¬ w = 15 by omega), eq_false (show ¬ w = 16 by omega)]
        exact dP' hp
    | cons a suf ih =>
      intro pre x hK hB
      obtain ⟨hx, hB⟩ := hB
      rw [show 160 * 0 + a = a by omega] at hx hB
      subst hx
      have ha := M.ws.ch v hv a (by rw [hK]; simp)
      obtain ⟨n, hn⟩ := ih (pre ++ [a]) _ (by rw [hK]; simp) hB
      rw [List.countP_append] at hn
      refine ⟨n + 1, ?_⟩
      show wb_Md_combined_1 (wp_Md_combined post n) post (nI w) (nI v) (nI (160 + i)) (nI (pre.countP (fun a => hMf σ a i))) (nI a) σ
      simp (disch := omega) only [wb_Md_combined_1, litI, n_lt, eq_false (show ¬ a < 0 by omega), not_false_eq_true, false_imp_iff, true_imp_iff, true_and, Md_isSo_r (show i < 80 by omega) (show a < 160 by omega), n_in, n_cl, eq_true (show a < 240 by omega), nI_add]
      show (nB (hMf σ a i) = nI 0 → _) ∧ (¬ nB (hMf σ a i) = nI 0 → _)
      refine bQ (fun q => ?_) (fun q => ?_)
      · simp [q] at hn; exact hn
      · simp [q] at hn; exact hn
  exact key (S.K v) [] _ rfl (T.cS v hv)
theorem isKind_m (M : MC tS lS S tD lD D L σ) {v i : Nat} (hv : v < S.N) (k4 : S.kd v = 4) (hi : i < D.N) : Ri (wq_Md_isKind (nI v) (nI (160 + i)) σ) (nB (ikb tS lS S D v i)) σ := by
  have T := MC_T M
  have hn := M.ns
  have hd := M.nd
  have hki := M.wd.kd i hi
  have hf := M.ws.fr v hv
  have hq := qe_sp (tx := tS) (len := lS) (x := S.fr v + 1) (by omega)
  have hkw := kwn_b hki
  intro post hp
  have b1 : ∀ w, w = kwn (D.kd i) → wp_Md_isKind post 1 1 0 0 (nI w) (pkR tS (S.fr v + 1) (qe tS lS (S.fr v + 1))) σ := by
    intro w hw
    show wb_Md_isKind_1 (wp_Md_isKind post 0) post (pkR tS (S.fr v + 1) (qe tS lS (S.fr v + 1))) (nI w) σ
    have h55 : σ.2.1 55 (w - 1) = lN (pkL wl (ws w) (we w - ws w)) := by rw [M.p.s.w]; exact mw_ok w (by omega) (by omega)
    have e1 : lg_cmp (pkR tS (S.fr v + 1) (qe tS lS (S.fr v + 1))) (lN (pkL wl (ws w) (we w - ws w))) = nI 0 ↔ eqn tS (S.fr v + 1) (qe tS lS (S.fr v + 1)) wl (ws w) (we w) := by rw [cmp_eq, pkR_eq (by omega) (by omega)]
    unfold ikb at hp
    rw [← hw] at hp
    simp (disch := omega) only [wb_Md_isKind_1, litI, n_sub, n_in, n_cl, eq_true (show w - 1 < 27 by omega), true_and, h55, e1, n_b0, n_b1]
    exact dP' hp
  refine ⟨2, ?_⟩
  show wb_Md_isKind_0 (wp_Md_isKind post 1) post (nI v) (nI (160 + i)) σ
  simp (disch := omega) only [wb_Md_isKind_0, litI, n_in, n_cl, nI_add, eq_true (show v < 240 by omega), true_and, T.fS v hv, T.qS v hv k4]
  refine Md_packed_r M.p.s.t hq.1 hq.2.1 _ ?_
  simp (disch := omega) only [n_in, n_cl, eq_true (show 160 + i < 240 by omega), true_and, T.kD i hi, n_eq, n_lt, nI_add]
  by_cases q0 : D.kd i = 0
  · simp only [eq_true q0, litI, n_le, n_lt, n_eq, n_in, n_cl, nI_add, n_b0, n_b1, n_v0, n_v1, n_m1, n_m1', n_m1l, n_m1l', n_m1g, n_m1ge, si_1, si_2, forall_eq, not_true_eq_false, not_false_eq_true, true_imp_iff, false_imp_iff, true_and, and_true, false_and, and_false, implies_true, ite_true, ite_false, if_true, if_false, Classical.not_not, Nat.reduceEqDiff, reduceIte, Nat.add_left_cancel_iff, Nat.add_eq_left, Nat.left_eq_add, and_self, n_sub, pk_mul]
    exact b1 22 (by unfold kwn; rw [if_pos q0])
  · simp only [eq_false q0, litI, n_le, n_lt, n_eq, n_in, n_cl, nI_add, n_b0, n_b1, n_v0, n_v1, n_m1, n_m1', n_m1l, n_m1l', n_m1g, n_m1ge, si_1, si_2, forall_eq, not_true_eq_false, not_false_eq_true, true_imp_iff, false_imp_iff, true_and, and_true, false_and, and_false, implies_true, ite_true, ite_false, if_true, if_false, Classical.not_not, Nat.reduceEqDiff, reduceIte, Nat.add_left_cancel_iff, Nat.add_eq_left, Nat.left_eq_add, and_self, n_sub, pk_mul]
    by_cases q2 : 2 < D.kd i
    · simp only [eq_true q2, litI, n_le, n_lt, n_eq, n_in, n_cl, nI_add, n_b0, n_b1, n_v0, n_v1, n_m1, n_m1', n_m1l, n_m1l', n_m1g, n_m1ge, si_1, si_2, forall_eq, not_true_eq_false, not_false_eq_true, true_imp_iff, false_imp_iff, true_and, and_true, false_and, and_false, implies_true, ite_true, ite_false, if_true, if_false, Classical.not_not, Nat.reduceEqDiff, reduceIte, Nat.add_left_cancel_iff, Nat.add_eq_left, Nat.left_eq_add, and_self, n_sub, pk_mul]
      exact b1 (D.kd i + 21) (by unfold kwn; rw [if_neg q0, if_neg (by omega)])
    · simp only [eq_false q2, litI, n_le, n_lt, n_eq, n_in, n_cl, nI_add, n_b0, n_b1, n_v0, n_v1, n_m1, n_m1', n_m1l, n_m1l', n_m1g, n_m1ge, si_1, si_2, forall_eq, not_true_eq_false, not_false_eq_true, true_imp_iff, false_imp_iff, true_and, and_true, false_and, and_false, implies_true, ite_true, ite_false, if_true, if_false, Classical.not_not, Nat.reduceEqDiff, reduceIte, Nat.add_left_cancel_iff, Nat.add_eq_left, Nat.left_eq_add, and_self, n_sub, pk_mul]
      exact b1 23 (by unfold kwn; rw [if_neg q0, if_pos (by omega)])
theorem typed_m (M : MC tS lS S tD lD D L σ) {v i : Nat} (hv : v < S.N) (hi : i < D.N) : Ri (wq_Md_typed (nI v) (nI (160 + i)) σ) (nB (typb tS lS S D v i)) σ := by
  have T := MC_T M
  have hn := M.ns
  have hd := M.nd
  have hkv := M.ws.kd v hv
  intro post hp
  have key : ∀ suf x (a : Bool), (∀ c ∈ suf, c < S.N) → chM 0 (σ.1 66) x suf → post (nB (a || suf.any (fun a => decide (S.kd a = 4) && ikb tS lS S D a i))) σ → ∃ n, wp_Md_typed post n 1 0 (nI (160 + i)) (nB a) x σ := by
    intro suf
    induction suf with
    | nil =>
      intro x a _ hB hp
      have hB : x = -nI 1 := hB
      subst hB
      simp only [List.any_nil, Bool.or_false] at hp
      refine ⟨1, ?_⟩
      show wb_Md_typed_1 (wp_Md_typed post 0) post (nI (160 + i)) (nB a) (-nI 1) σ
      simp (disch := omega) only [wb_Md_typed_1, litI, hm0, nB_n, litI, n_le, n_lt, n_eq, n_in, n_cl, nI_add, n_b0, n_b1, n_v0, n_v1, n_m1, n_m1', n_m1l, n_m1l', n_m1g, n_m1ge, si_1, si_2, forall_eq, not_true_eq_false, not_false_eq_true, true_imp_iff, false_imp_iff, true_and, and_true, false_and, and_false, implies_true, ite_true, ite_false, if_true, if_false, Classical.not_not, Nat.reduceEqDiff, reduceIte, Nat.add_left_cancel_iff, Nat.add_eq_left, Nat.left_eq_add, and_self, n_sub, pk_mul]
      exact hp
    | cons c suf ih =>
      intro x a hK hB hp
      obtain ⟨hx, hB⟩ := hB
      rw [show 160 * 0 + c = c by omega] at hx hB
      subst hx
      have hcN := hK c (List.mem_cons_self ..)
      have hkc := M.ws.kd c hcN
      rw [List.any_cons, ← Bool.or_assoc] at hp
      obtain ⟨n, hn⟩ := ih _ _ (fun d hd => hK d (List.mem_cons_of_mem _ hd)) hB hp
      refine ⟨n + 1, ?_⟩
      show wb_Md_typed_1 (wp_Md_typed post n) post (nI (160 + i)) (nB a) (nI c) σ
      simp (disch := omega) only [wb_Md_typed_1, litI, n_lt, eq_false (show ¬ c < 0 by omega), not_false_eq_true, false_imp_iff, true_imp_iff, true_and, n_in, n_cl, eq_true (show c < 240 by omega), T.kS c hcN, n_eq]
      refine bQ' (fun q => ?_) (fun q => ?_)
      · rw [q, Bool.false_or] at hn
        by_cases k4 : S.kd c = 4
        · rw [decide_eq_true k4, Bool.true_and] at hn
          refine ⟨fun z => absurd k4 z, fun _ => isKind_m M hcN k4 hi _ ?_⟩
          exact bQ (fun q2 => by rw [q2] at hn; exact hn) (fun q2 => by rw [q2] at hn; exact hn)
        · rw [decide_eq_false k4, Bool.false_and] at hn
          exact ⟨fun _ => hn, fun z => absurd z k4⟩
      · rw [q, Bool.true_or] at hn; exact hn
  unfold wq_Md_typed
  refine ex_s ?_
  show ∃ n, wb_Md_typed_0 (wp_Md_typed post n) post (nI v) (nI (160 + i)) σ
  unfold typb at hp
  by_cases k4 : S.kd v = 4
  · rw [if_pos k4] at hp
    refine ⟨0, ?_⟩
    simp (disch := omega) only [wb_Md_typed_0, litI, n_le, n_lt, n_eq, n_in, n_cl, nI_add, n_b0, n_b1, n_v0, n_v1, n_m1, n_m1', n_m1l, n_m1l', n_m1g, n_m1ge, si_1, si_2, forall_eq, not_true_eq_false, not_false_eq_true, true_imp_iff, false_imp_iff, true_and, and_true, false_and, and_false, implies_true, ite_true, ite_false, if_true, if_false, Classical.not_not, Nat.reduceEqDiff, reduceIte, Nat.add_left_cancel_iff, Nat.add_eq_left, Nat.left_eq_add, and_self, n_sub, pk_mul, T.kS v hv, eq_true (show v < 240 by omega), eq_true k4]
    refine isKind_m M hv k4 hi _ ?_
    rw [nB_n]; exact ⟨trivial, hp⟩
  rw [if_neg k4] at hp
  have hlt : ∀ c ∈ S.K v, c < S.N := fun c hc => (M.ws.ch v hv c hc).2.1
  by_cases k5 : S.kd v = 5
  · rw [if_pos k5] at hp
    simp (disch := omega) only [wb_Md_typed_0, litI, n_le, n_lt, n_eq, n_in, n_cl, nI_add, n_b0, n_b1, n_v0, n_v1, n_m1, n_m1', n_m1l, n_m1l', n_m1g, n_m1ge, si_1, si_2, forall_eq, not_true_eq_false, not_false_eq_true, true_imp_iff, false_imp_iff, true_and, and_true, false_and, and_false, implies_true, ite_true, ite_false, if_true, if_false, Classical.not_not, Nat.reduceEqDiff, reduceIte, Nat.add_left_cancel_iff, Nat.add_eq_left, Nat.left_eq_add, and_self, n_sub, pk_mul, T.kS v hv, eq_true (show v < 240 by omega), eq_false k4, eq_true k5]
    exact key (S.K v) _ false hlt (T.cS v hv) (by rw [Bool.false_or]; exact hp)
  · rw [if_neg k5] at hp
    simp (disch := omega) only [wb_Md_typed_0, litI, n_le, n_lt, n_eq, n_in, n_cl, nI_add, n_b0, n_b1, n_v0, n_v1, n_m1, n_m1', n_m1l, n_m1l', n_m1g, n_m1ge, si_1, si_2, forall_eq, not_true_eq_false, not_false_eq_true, true_imp_iff, false_imp_iff, true_and, and_true, false_and, and_false, implies_true, ite_true, ite_false, if_true, if_false, Classical.not_not, Nat.reduceEqDiff, reduceIte, Nat.add_left_cancel_iff, Nat.add_eq_left, Nat.left_eq_add, and_self, n_sub, pk_mul, T.kS v hv, eq_true (show v < 240 by omega), eq_false k4, eq_false k5]
    exact key (S.K v) _ true hlt (T.cS v hv) (by rw [Bool.true_or]; exact hp)
theorem required_m (M : MC tS lS S tD lD D L σ) {v i : Nat} (hv : v < S.N) (hi : i < D.N) (k6 : D.kd i = 6) : Ri (wq_Md_required (nI v) (nI (160 + i)) σ) (nB (reqb tS lS S tD lD D v i)) σ := by
  have T := MC_T M
  have hn := M.ns
  have hd := M.nd
  have hkv := M.ws.kd v hv
  intro post hp
  have key : ∀ suf x (a : Bool), (∀ c ∈ suf, c < S.N) → chM 0 (σ.1 66) x suf → post (nB (a && suf.all (fun a => decide (S.kd a ≠ 4) || (cnd tD lD D i tS (S.fr a + 1) (qe tS lS (S.fr a + 1))).isSome))) σ → ∃ n, wp_Md_required post n 1 0 (nI (160 + i)) (nB a) x σ := by
    intro suf
    induction suf with
    | nil =>
      intro x a _ hB hp
      have hB : x = -nI 1 := hB
      subst hB
      simp only [List.all_nil, Bool.and_true] at hp
      refine ⟨1, ?_⟩
      show wb_Md_required_1 (wp_Md_required post 0) post (nI (160 + i)) (nB a) (-nI 1) σ
      simp (disch := omega) only [wb_Md_required_1, litI, hm0, nB_n, litI, n_le, n_lt, n_eq, n_in, n_cl, nI_add, n_b0, n_b1, n_v0, n_v1, n_m1, n_m1', n_m1l, n_m1l', n_m1g, n_m1ge, si_1, si_2, forall_eq, not_true_eq_false, not_false_eq_true, true_imp_iff, false_imp_iff, true_and, and_true, false_and, and_false, implies_true, ite_true, ite_false, if_true, if_false, Classical.not_not, Nat.reduceEqDiff, reduceIte, Nat.add_left_cancel_iff, Nat.add_eq_left, Nat.left_eq_add, and_self, n_sub, pk_mul]
      exact hp
    | cons c suf ih =>
      intro x a hK hB hp
      obtain ⟨hx, hB⟩ := hB
      rw [show 160 * 0 + c = c by omega] at hx hB
      subst hx
      have hcN := hK c (List.mem_cons_self ..)
      have hkc := M.ws.kd c hcN
      have hfc := M.ws.fr c hcN
      rw [List.all_cons, ← Bool.and_assoc] at hp
      obtain ⟨n, hn⟩ := ih _ _ (fun d hd => hK d (List.mem_cons_of_mem _ hd)) hB hp
      refine ⟨n + 1, ?_⟩
      show wb_Md_required_1 (wp_Md_required post n) post (nI (160 + i)) (nB a) (nI c) σ
      simp (disch := omega) only [wb_Md_required_1, litI, n_lt, eq_false (show ¬ c < 0 by omega), not_false_eq_true, false_imp_iff, true_imp_iff, true_and, n_in, n_cl, eq_true (show c < 240 by omega), T.kS c hcN, T.fS c hcN, n_eq, nI_add]
      refine bQ (fun q => ?_) (fun q => ?_)
      · rw [q, Bool.false_and] at hn; exact hn
      · rw [q, Bool.true_and] at hn
        by_cases k4 : S.kd c = 4
        · rw [decide_eq_false (fun z => z k4), Bool.false_or] at hn
          rw [T.qS c hcN k4]
          have hq := qe_sp (tx := tS) (len := lS) (x := S.fr c + 1) (by omega)
          have hlt : ∀ x, cnd tD lD D i tS (S.fr c + 1) (qe tS lS (S.fr c + 1)) = some x → 160 * 1 + x < 2147483648 := fun x hx => by have := cnd_lt2 M.wd hi hx; omega
          refine ⟨fun z => absurd k4 z, fun _ => cn_d M hi k6 hq.1 hq.2.1 _ ?_⟩
          rw [oM_lt hlt]
          cases hcq : cnd tD lD D i tS (S.fr c + 1) (qe tS lS (S.fr c + 1)) with
          | none => rw [hcq] at hn; exact ⟨fun _ => hn, fun z => absurd rfl z⟩
          | some y => rw [hcq] at hn; exact ⟨fun z => (by cases z), fun _ => hn⟩
        · rw [decide_eq_true k4, Bool.true_or] at hn
          exact ⟨fun _ => hn, fun z => absurd z k4⟩
  unfold wq_Md_required
  refine ex_s ?_
  show ∃ n, wb_Md_required_0 (wp_Md_required post n) post (nI v) (nI (160 + i)) σ
  unfold reqb at hp
  have hlt : ∀ c ∈ S.K v, c < S.N := fun c hc => (M.ws.ch v hv c hc).2.1
  by_cases k5 : S.kd v = 5
  · rw [if_pos ⟨k5, k6⟩] at hp
    simp (disch := omega) only [wb_Md_required_0, litI, n_le, n_lt, n_eq, n_in, n_cl, nI_add, n_b0, n_b1, n_v0, n_v1, n_m1, n_m1', n_m1l, n_m1l', n_m1g, n_m1ge, si_1, si_2, forall_eq, not_true_eq_false, not_false_eq_true, true_imp_iff, false_imp_iff, true_and, and_true, false_and, and_false, implies_true, ite_true, ite_false, if_true, if_false, Classical.not_not, Nat.reduceEqDiff, reduceIte, Nat.add_left_cancel_iff, Nat.add_eq_left, Nat.left_eq_add, and_self, n_sub, pk_mul, T.kS v hv, eq_true (show v < 240 by omega), eq_true k5]
    exact key (S.K v) _ true hlt (T.cS v hv) (by rw [Bool.true_and]; exact hp)
  · rw [if_neg (fun z => k5 z.1)] at hp
    simp (disch := omega) only [wb_Md_required_0, litI, n_le, n_lt, n_eq, n_in, n_cl, nI_add, n_b0, n_b1, n_v0, n_v1, n_m1, n_m1', n_m1l, n_m1l', n_m1g, n_m1ge, si_1, si_2, forall_eq, not_true_eq_false, not_false_eq_true, true_imp_iff, false_imp_iff, true_and, and_true, false_and, and_false, implies_true, ite_true, ite_false, if_true, if_false, Classical.not_not, Nat.reduceEqDiff, reduceIte, Nat.add_left_cancel_iff, Nat.add_eq_left, Nat.left_eq_add, and_self, n_sub, pk_mul, T.kS v hv, eq_true (show v < 240 by omega), eq_false k5, show (-1 : Int32) = -nI 1 from rfl]
    exact key [] _ true (by simp) rfl hp
theorem measured_m (M : MC tS lS S tD lD D L σ) {w v i : Nat} (hv : v < S.N) (hi : i < D.N) (w1 : 4 ≤ w) (w2 : w ≤ 10) : Ri (wq_Md_measured (nI w) (nI v) (nI (160 + i)) σ) (nB (meab S tD lD D w v i)) σ := by
  have T := MC_T M
  have hn := M.ns
  have hd := M.nd
  have hkv := M.ws.kd v hv
  have hki := M.wd.kd i hi
  have hfi := M.wd.fr i hi
  intro post hp
  -- the comparison
  have b2 : ∀ x, post (nB (numb w x (S.nu v))) σ → wp_Md_measured post 1 2 (nI w) 0 0 0 (S.nu v) x σ := by
    intro x hp
    show wb_Md_measured_2 (wp_Md_measured post 0) post (nI w) (S.nu v) x σ
    unfold numb at hp
    by_cases q6 : w = 6
    · rw [if_neg (by omega), if_pos q6] at hp
      simp (disch := omega) only [wb_Md_measured_2, litI, n_le, n_lt, n_eq, n_in, n_cl, nI_add, n_b0, n_b1, n_v0, n_v1, n_m1, n_m1', n_m1l, n_m1l', n_m1g, n_m1ge, si_1, si_2, forall_eq, not_true_eq_false, not_false_eq_true, true_imp_iff, false_imp_iff, true_and, and_true, false_and, and_false, implies_true, ite_true, ite_false, if_true, if_false, Classical.not_not, Nat.reduceEqDiff, reduceIte, Nat.add_left_cancel_iff, Nat.add_eq_left, Nat.left_eq_add, and_self, n_sub, pk_mul, eq_true q6]
      by_cases q : S.nu v ≤ nI 0
      · rw [decide_eq_true (show S.nu v ≤ 0 from q), Bool.true_or] at hp
        exact ⟨fun _ => hp, fun z => absurd q z⟩
      · rw [decide_eq_false (show ¬ S.nu v ≤ 0 from q), Bool.false_or] at hp
        refine ⟨fun z => absurd z q, fun _ => ⟨fun z => q (by rw [z]; exact Int32.le_refl _), ?_⟩⟩
        exact dP' hp
    · by_cases q4 : w = 4
      · rw [if_pos (by omega)] at hp
        simp (disch := omega) only [wb_Md_measured_2, litI, n_le, n_lt, n_eq, n_in, n_cl, nI_add, n_b0, n_b1, n_v0, n_v1, n_m1, n_m1', n_m1l, n_m1l', n_m1g, n_m1ge, si_1, si_2, forall_eq, not_true_eq_false, not_false_eq_true, true_imp_iff, false_imp_iff, true_and, and_true, false_and, and_false, implies_true, ite_true, ite_false, if_true, if_false, Classical.not_not, Nat.reduceEqDiff, reduceIte, Nat.add_left_cancel_iff, Nat.add_eq_left, Nat.left_eq_add, and_self, n_sub, pk_mul, eq_false q6, eq_true q4]
        exact dP hp
      · by_cases q7 : w = 7
        · rw [if_pos (by omega)] at hp
          simp (disch := omega) only [wb_Md_measured_2, litI, n_le, n_lt, n_eq, n_in, n_cl, nI_add, n_b0, n_b1, n_v0, n_v1, n_m1, n_m1', n_m1l, n_m1l', n_m1g, n_m1ge, si_1, si_2, forall_eq, not_true_eq_false, not_false_eq_true, true_imp_iff, false_imp_iff, true_and, and_true, false_and, and_false, implies_true, ite_true, ite_false, if_true, if_false, Classical.not_not, Nat.reduceEqDiff, reduceIte, Nat.add_left_cancel_iff, Nat.add_eq_left, Nat.left_eq_add, and_self, n_sub, pk_mul, eq_false q6, eq_false q4, eq_true q7]
          exact dP hp
        · by_cases q9 : w = 9
          · rw [if_pos (by omega)] at hp
            simp (disch := omega) only [wb_Md_measured_2, litI, n_le, n_lt, n_eq, n_in, n_cl, nI_add, n_b0, n_b1, n_v0, n_v1, n_m1, n_m1', n_m1l, n_m1l', n_m1g, n_m1ge, si_1, si_2, forall_eq, not_true_eq_false, not_false_eq_true, true_imp_iff, false_imp_iff, true_and, and_true, false_and, and_false, implies_true, ite_true, ite_false, if_true, if_false, Classical.not_not, Nat.reduceEqDiff, reduceIte, Nat.add_left_cancel_iff, Nat.add_eq_left, Nat.left_eq_add, and_self, n_sub, pk_mul, eq_false q6, eq_false q4, eq_false q7, eq_true q9]
            exact dP hp
          · rw [if_neg (by omega), if_neg q6] at hp
            simp (disch := omega) only [wb_Md_measured_2, litI, n_le, n_lt, n_eq, n_in, n_cl, nI_add, n_b0, n_b1, n_v0, n_v1, n_m1, n_m1', n_m1l, n_m1l', n_m1g, n_m1ge, si_1, si_2, forall_eq, not_true_eq_false, not_false_eq_true, true_imp_iff, false_imp_iff, true_and, and_true, false_and, and_false, implies_true, ite_true, ite_false, if_true, if_false, Classical.not_not, Nat.reduceEqDiff, reduceIte, Nat.add_left_cancel_iff, Nat.add_eq_left, Nat.left_eq_add, and_self, n_sub, pk_mul, eq_false q6, eq_false q4, eq_false q7, eq_false q9]
            exact dP hp
  have b1 : ∀ k, k = (if w < 7 then 3 else if w < 9 then 4 else 5) → wp_Md_measured post 2 1 (nI w) (nI v) (nI (160 + i)) (nI k) 0 0 σ := by
    intro k hk
    show wb_Md_measured_1 (wp_Md_measured post 1) post (nI w) (nI v) (nI (160 + i)) (nI k) σ
    have hk7 : k < 7 := by rw [hk]; split <;> (try split) <;> omega
    unfold meab at hp
    by_cases k3 : S.kd v = 3
    case neg =>
      rw [if_neg k3] at hp
      simp (disch := omega) only [wb_Md_measured_1, litI, n_le, n_lt, n_eq, n_in, n_cl, nI_add, n_b0, n_b1, n_v0, n_v1, n_m1, n_m1', n_m1l, n_m1l', n_m1g, n_m1ge, si_1, si_2, forall_eq, not_true_eq_false, not_false_eq_true, true_imp_iff, false_imp_iff, true_and, and_true, false_and, and_false, implies_true, ite_true, ite_false, if_true, if_false, Classical.not_not, Nat.reduceEqDiff, reduceIte, Nat.add_left_cancel_iff, Nat.add_eq_left, Nat.left_eq_add, and_self, n_sub, pk_mul, T.kS v hv, eq_true (show v < 240 by omega), eq_false k3]
      exact hp
    rw [if_pos k3] at hp
    by_cases q7 : w < 7
    · rw [if_pos q7] at hp hk
      by_cases ki : D.kd i = 3
      · rw [if_pos ki] at hp
        simp (disch := omega) only [wb_Md_measured_1, litI, n_le, n_lt, n_eq, n_in, n_cl, nI_add, n_b0, n_b1, n_v0, n_v1, n_m1, n_m1', n_m1l, n_m1l', n_m1g, n_m1ge, si_1, si_2, forall_eq, not_true_eq_false, not_false_eq_true, true_imp_iff, false_imp_iff, true_and, and_true, false_and, and_false, implies_true, ite_true, ite_false, if_true, if_false, Classical.not_not, Nat.reduceEqDiff, reduceIte, Nat.add_left_cancel_iff, Nat.add_eq_left, Nat.left_eq_add, and_self, n_sub, pk_mul, T.kS v hv, T.kD i hi, eq_true (show v < 240 by omega), eq_true (show 160 + i < 240 by omega), eq_true k3, eq_true (show D.kd i = k by omega), eq_false (show ¬ 7 ≤ w by omega), T.uS v hv, T.uD i hi]
        exact b2 _ hp
      · rw [if_neg ki] at hp
        simp (disch := omega) only [wb_Md_measured_1, litI, n_le, n_lt, n_eq, n_in, n_cl, nI_add, n_b0, n_b1, n_v0, n_v1, n_m1, n_m1', n_m1l, n_m1l', n_m1g, n_m1ge, si_1, si_2, forall_eq, not_true_eq_false, not_false_eq_true, true_imp_iff, false_imp_iff, true_and, and_true, false_and, and_false, implies_true, ite_true, ite_false, if_true, if_false, Classical.not_not, Nat.reduceEqDiff, reduceIte, Nat.add_left_cancel_iff, Nat.add_eq_left, Nat.left_eq_add, and_self, n_sub, pk_mul, T.kS v hv, T.kD i hi, eq_true (show v < 240 by omega), eq_true (show 160 + i < 240 by omega), eq_true k3, eq_false (show ¬ D.kd i = k by omega)]
        exact hp
    rw [if_neg q7] at hp hk
    by_cases q9 : w < 9
    · rw [if_pos q9] at hp hk
      by_cases ki : D.kd i = 4
      · rw [if_pos ki] at hp
        have hq := qe_sp (tx := tD) (len := lD) (x := D.fr i + 1) (by omega)
        have hq1 := hq.1
        simp (disch := omega) only [wb_Md_measured_1, litI, n_le, n_lt, n_eq, n_in, n_cl, nI_add, n_b0, n_b1, n_v0, n_v1, n_m1, n_m1', n_m1l, n_m1l', n_m1g, n_m1ge, si_1, si_2, forall_eq, not_true_eq_false, not_false_eq_true, true_imp_iff, false_imp_iff, true_and, and_true, false_and, and_false, implies_true, ite_true, ite_false, if_true, if_false, Classical.not_not, Nat.reduceEqDiff, reduceIte, Nat.add_left_cancel_iff, Nat.add_eq_left, Nat.left_eq_add, and_self, n_sub, pk_mul, T.kS v hv, T.kD i hi, eq_true (show v < 240 by omega), eq_true (show 160 + i < 240 by omega), eq_true k3, eq_true (show D.kd i = k by omega), eq_true (show 7 ≤ w by omega), eq_false (show ¬ 9 ≤ w by omega), T.uS v hv, T.fD i hi, T.qD i hi ki]
        rw [show qe tD lD (D.fr i + 1) - D.fr i - 1 = qe tD lD (D.fr i + 1) - (D.fr i + 1) by omega]
        exact b2 _ hp
      · rw [if_neg ki] at hp
        simp (disch := omega) only [wb_Md_measured_1, litI, n_le, n_lt, n_eq, n_in, n_cl, nI_add, n_b0, n_b1, n_v0, n_v1, n_m1, n_m1', n_m1l, n_m1l', n_m1g, n_m1ge, si_1, si_2, forall_eq, not_true_eq_false, not_false_eq_true, true_imp_iff, false_imp_iff, true_and, and_true, false_and, and_false, implies_true, ite_true, ite_false, if_true, if_false, Classical.not_not, Nat.reduceEqDiff, reduceIte, Nat.add_left_cancel_iff, Nat.add_eq_left, Nat.left_eq_add, and_self, n_sub, pk_mul, T.kS v hv, T.kD i hi, eq_true (show v < 240 by omega), eq_true (show 160 + i < 240 by omega), eq_true k3, eq_false (show ¬ D.kd i = k by omega)]
        exact hp
    · rw [if_neg q9] at hp hk
      by_cases ki : D.kd i = 5
      · rw [if_pos ki] at hp
        simp (disch := omega) only [wb_Md_measured_1, litI, n_le, n_lt, n_eq, n_in, n_cl, nI_add, n_b0, n_b1, n_v0, n_v1, n_m1, n_m1', n_m1l, n_m1l', n_m1g, n_m1ge, si_1, si_2, forall_eq, not_true_eq_false, not_false_eq_true, true_imp_iff, false_imp_iff, true_and, and_true, false_and, and_false, implies_true, ite_true, ite_false, if_true, if_false, Classical.not_not, Nat.reduceEqDiff, reduceIte, Nat.add_left_cancel_iff, Nat.add_eq_left, Nat.left_eq_add, and_self, n_sub, pk_mul, T.kS v hv, T.kD i hi, eq_true (show v < 240 by omega), eq_true (show 160 + i < 240 by omega), eq_true k3, eq_true (show D.kd i = k by omega), eq_true (show 7 ≤ w by omega), eq_true (show 9 ≤ w by omega), T.uS v hv, T.mD i hi]
        exact b2 _ hp
      · rw [if_neg ki] at hp
        simp (disch := omega) only [wb_Md_measured_1, litI, n_le, n_lt, n_eq, n_in, n_cl, nI_add, n_b0, n_b1, n_v0, n_v1, n_m1, n_m1', n_m1l, n_m1l', n_m1g, n_m1ge, si_1, si_2, forall_eq, not_true_eq_false, not_false_eq_true, true_imp_iff, false_imp_iff, true_and, and_true, false_and, and_false, implies_true, ite_true, ite_false, if_true, if_false, Classical.not_not, Nat.reduceEqDiff, reduceIte, Nat.add_left_cancel_iff, Nat.add_eq_left, Nat.left_eq_add, and_self, n_sub, pk_mul, T.kS v hv, T.kD i hi, eq_true (show v < 240 by omega), eq_true (show 160 + i < 240 by omega), eq_true k3, eq_false (show ¬ D.kd i = k by omega)]
        exact hp
  refine ⟨3, ?_⟩
  show wb_Md_measured_0 (wp_Md_measured post 2) post (nI w) (nI v) (nI (160 + i)) σ
  by_cases q7 : w < 7
  · simp (disch := omega) only [wb_Md_measured_0, litI, n_le, n_lt, n_eq, n_in, n_cl, nI_add, n_b0, n_b1, n_v0, n_v1, n_m1, n_m1', n_m1l, n_m1l', n_m1g, n_m1ge, si_1, si_2, forall_eq, not_true_eq_false, not_false_eq_true, true_imp_iff, false_imp_iff, true_and, and_true, false_and, and_false, implies_true, ite_true, ite_false, if_true, if_false, Classical.not_not, Nat.reduceEqDiff, reduceIte, Nat.add_left_cancel_iff, Nat.add_eq_left, Nat.left_eq_add, and_self, n_sub, pk_mul, eq_false (show ¬ 7 ≤ w by omega)]
    exact b1 3 (by rw [if_pos q7])
  · by_cases q9 : w < 9
    · simp (disch := omega) only [wb_Md_measured_0, litI, n_le, n_lt, n_eq, n_in, n_cl, nI_add, n_b0, n_b1, n_v0, n_v1, n_m1, n_m1', n_m1l, n_m1l', n_m1g, n_m1ge, si_1, si_2, forall_eq, not_true_eq_false, not_false_eq_true, true_imp_iff, false_imp_iff, true_and, and_true, false_and, and_false, implies_true, ite_true, ite_false, if_true, if_false, Classical.not_not, Nat.reduceEqDiff, reduceIte, Nat.add_left_cancel_iff, Nat.add_eq_left, Nat.left_eq_add, and_self, n_sub, pk_mul, eq_true (show 7 ≤ w by omega), eq_false (show ¬ 9 ≤ w by omega)]
      exact b1 4 (by rw [if_neg q7, if_pos q9])
    · simp (disch := omega) only [wb_Md_measured_0, litI, n_le, n_lt, n_eq, n_in, n_cl, nI_add, n_b0, n_b1, n_v0, n_v1, n_m1, n_m1', n_m1l, n_m1l', n_m1g, n_m1ge, si_1, si_2, forall_eq, not_true_eq_false, not_false_eq_true, true_imp_iff, false_imp_iff, true_and, and_true, false_and, and_false, implies_true, ite_true, ite_false, if_true, if_false, Classical.not_not, Nat.reduceEqDiff, reduceIte, Nat.add_left_cancel_iff, Nat.add_eq_left, Nat.left_eq_add, and_self, n_sub, pk_mul, eq_true (show 7 ≤ w by omega), eq_true (show 9 ≤ w by omega)]
      exact b1 5 (by rw [if_neg q7, if_neg q9])
end SM2
