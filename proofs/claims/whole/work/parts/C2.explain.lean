section EX
variable {tS : Nat → Nat} {lS : Nat} {S : TG} {tD : Nat → Nat} {lD : Nat} {D : TG} {σ : Sg}
def P4 (c _k : Nat) : Prop := c = 42 ∨ c = 44
/-- all that the class's report reads -/
abbrev CR (tS : Nat → Nat) (lS : Nat) (S : TG) (tD : Nat → Nat) (lD : Nat) (D : TG) (σ : Sg) : Prop := (CV tS lS S tD lD D σ) ∧ (VD tS lS S tD lD D σ)
theorem CR.v {tS : Nat → Nat} {lS : Nat} {S : TG} {tD : Nat → Nat} {lD : Nat} {D : TG} {σ : Sg} (hX : CR tS lS S tD lD D σ) : CV tS lS S tD lD D σ := hX.1
theorem CR.d {tS : Nat → Nat} {lS : Nat} {S : TG} {tD : Nat → Nat} {lD : Nat} {D : TG} {σ : Sg} (hX : CR tS lS S tD lD D σ) : VD tS lS S tD lD D σ := hX.2
theorem CR_FL {σ' : Sg} (h : CR tS lS S tD lD D σ) (f : FL P4 σ σ') : CR tS lS S tD lD D σ' := by
  refine ⟨CV_1 h.v f.1, fun s i hs hi => ?_, fun s i c hs h6 hi k6 hc => ?_⟩
  · rw [← h.d.h s i hs hi]; unfold hCf; rw [hb_o (fun k => f.2.2 37 k (by unfold P4; omega))]
  · rw [← h.d.e s i c hs h6 hi k6 hc]; exact hb_o (fun k => f.2.2 39 k (by unfold P4; omega))
theorem report_c (C : CR tS lS S tD lD D σ) {s i : Nat} (hs : s < S.N) (hi : i < D.N) : ∃ σ', Rv (wq_Rp_report (nI s) (nI i) σ) σ' ∧ FL P4 σ σ' ∧ (∀ v j, hb σ' 43 v j = hb σ 43 v j) ∧ (∀ x c, x < S.N → c < D.N → (hb σ' 41 x c = true ↔ hb σ 41 x c = true ∨ (x = s ∧ c = i ∧ HH tS lS S tD lD D s i = false))) := by
  have hn := C.v.c.ns
  have hd := C.v.c.nd
  have hh := isHeld_r C.v hs hi
  rw [C.d.h s i hs hi] at hh
  cases hq : HH tS lS S tD lD D s i with
  | true =>
    rw [hq] at hh
    refine ⟨σ, fun post hp => hh _ ?_, FL_r, fun _ _ => rfl, fun x c _ _ => by simp⟩
    exact bQ' (fun z => by cases z) (fun _ => hp)
  | false =>
    rw [hq] at hh
    refine ⟨mput 41 σ s i, fun post hp => hh _ ?_, FL_put FL_r (fun k => Or.inl rfl), fun v j => hb_o (fun k => mput_o (by omega)), fun x c hx hc => ?_⟩
    · refine bQ' (fun _ => ?_) (fun z => by cases z)
      rw [Mk_put_r (by omega) (by omega)]; exact hp
    · rw [hb_put (by omega) (by omega)]
      simp
theorem repInside_c (C : CR tS lS S tD lD D σ) {v i : Nat} (hv : v < S.N) (hi : i < D.N) : ∃ σ', Rv (wq_Rp_reportInside (nI v) (nI i) σ) σ' ∧ FL P4 σ σ' ∧ (∀ v j, hb σ' 43 v j = hb σ 43 v j) ∧ (∀ x c, x < S.N → c < D.N → (hb σ' 41 x c = true ↔ hb σ 41 x c = true ∨ (x ∈ S.K v ∧ c = i ∧ HH tS lS S tD lD D x i = false))) := by
  have T := CC_T C.v.c
  have hn := C.v.c.ns
  have hl := len_K C.v.c.ws hv
  obtain ⟨R, hR⟩ : ∃ R : Sg → Prop, R = fun σ' => FL P4 σ σ' ∧ (∀ v j, hb σ' 43 v j = hb σ 43 v j) ∧ (∀ x c, x < S.N → c < D.N → (hb σ' 41 x c = true ↔ hb σ 41 x c = true ∨ (x ∈ S.K v ∧ c = i ∧ HH tS lS S tD lD D x i = false))) := ⟨_, rfl⟩
  have key : ∀ suf pre y (σ1 : Sg), S.K v = pre ++ suf → chB (σ.1 8) y suf → FL P4 σ σ1 → (∀ v j, hb σ1 43 v j = hb σ 43 v j) → (∀ x c, x < S.N → c < D.N → (hb σ1 41 x c = true ↔ hb σ 41 x c = true ∨ (x ∈ pre ∧ c = i ∧ HH tS lS S tD lD D x i = false))) → Ex0 (fun post n => wp_Rp_reportInside post n 1 (nI v) (nI i) (nI pre.length) y σ1) R := by
    intro suf
    induction suf with
    | nil =>
      intro pre y σ1 hK _ f1 h43 h41
      rw [List.append_nil] at hK
      have h5 : σ1.1 5 v = nI pre.length := by rw [f1.1, T.mS v hv, hK]
      refine ⟨σ1, by rw [hR, hK]; exact ⟨f1, h43, h41⟩, fun post hp => ⟨1, ?_⟩⟩
      show wb_Rp_reportInside_1 (wp_Rp_reportInside post 0) post (nI v) (nI i) (nI pre.length) y σ1
      rw [hK] at hl
      simp (disch := omega) only [wb_Rp_reportInside_1, litI, n_le, n_lt, n_eq, n_in, n_cl, nI_add, n_b0, n_b1, n_v0, n_v1, n_m1, n_m1', n_m1l, n_m1l', n_m1g, n_m1ge, si_1, si_2, forall_eq, not_true_eq_false, not_false_eq_true, true_imp_iff, false_imp_iff, true_and, and_true, false_and, and_false, implies_true, ite_true, ite_false, if_true, if_false, Classical.not_not, Nat.reduceEqDiff, reduceIte, Nat.add_left_cancel_iff, Nat.add_eq_left, Nat.left_eq_add, and_self, n_sub, pk_mul, h5, eq_true (show v < 160 by omega), Nat.le_refl]
      exact hp
    | cons a suf ih =>
      intro pre y σ1 hK hB f1 h43 h41
      obtain ⟨hy, hB⟩ := hB
      subst hy
      have ha := C.v.c.ws.ch v hv a (by rw [hK]; simp)
      have hln : (S.K v).length = pre.length + suf.length + 1 := by rw [hK]; simp; omega
      have h5 : σ1.1 5 v = nI (S.K v).length := by rw [f1.1, T.mS v hv]
      obtain ⟨σ2, r1, r2, r3, r4⟩ := report_c (CR_FL C f1) ha.2.1 hi
      have e8 : σ2.1 8 a = σ.1 8 a := by rw [(FL_t f1 r2).1]
      refine Ex0_s (ih (pre ++ [a]) _ σ2 (by rw [hK]; simp) hB (FL_t f1 r2) (fun v j => (r3 v j).trans (h43 v j)) (fun x c hx hc => ?_)) (fun post n hn => ⟨n + 1, ?_⟩)
      · rw [r4 x c hx hc, h41 x c hx hc]
        simp only [List.mem_append, List.mem_singleton]
        constructor
        · rintro ((q | q) | q)
          · exact Or.inl q
          · exact Or.inr ⟨Or.inl q.1, q.2⟩
          · exact Or.inr ⟨Or.inr q.1, q.2.1, by rw [q.1]; exact q.2.2⟩
        · rintro (q | ⟨q | q, q2⟩)
          · exact Or.inl (Or.inl q)
          · exact Or.inl (Or.inr ⟨q, q2⟩)
          · exact Or.inr ⟨q, q2.1, by rw [← q]; exact q2.2⟩
      · rw [List.length_append] at hn
        show wb_Rp_reportInside_1 (wp_Rp_reportInside post n) post (nI v) (nI i) (nI pre.length) (nI a) σ1
        simp (disch := omega) only [wb_Rp_reportInside_1, litI, n_le, n_lt, n_eq, n_in, n_cl, nI_add, n_b0, n_b1, n_v0, n_v1, n_m1, n_m1', n_m1l, n_m1l', n_m1g, n_m1ge, si_1, si_2, forall_eq, not_true_eq_false, not_false_eq_true, true_imp_iff, false_imp_iff, true_and, and_true, false_and, and_false, implies_true, ite_true, ite_false, if_true, if_false, Classical.not_not, Nat.reduceEqDiff, reduceIte, Nat.add_left_cancel_iff, Nat.add_eq_left, Nat.left_eq_add, and_self, n_sub, pk_mul, h5, eq_true (show v < 160 by omega), eq_false (show ¬ (S.K v).length ≤ pre.length by omega)]
        refine r1 _ ?_
        simp (disch := omega) only [litI, n_le, n_lt, n_eq, n_in, n_cl, nI_add, n_b0, n_b1, n_v0, n_v1, n_m1, n_m1', n_m1l, n_m1l', n_m1g, n_m1ge, si_1, si_2, forall_eq, not_true_eq_false, not_false_eq_true, true_imp_iff, false_imp_iff, true_and, and_true, false_and, and_false, implies_true, ite_true, ite_false, if_true, if_false, Classical.not_not, Nat.reduceEqDiff, reduceIte, Nat.add_left_cancel_iff, Nat.add_eq_left, Nat.left_eq_add, and_self, n_sub, pk_mul, eq_true (show a < 160 by omega), e8]
        exact hn
  obtain ⟨σ', q1, q2⟩ := key (S.K v) [] _ σ rfl (T.cS v hv) FL_r (fun _ _ => rfl) (fun x c _ _ => by simp)
  rw [hR] at q1
  refine ⟨σ', fun post hp => ?_, q1⟩
  obtain ⟨n, hn⟩ := q2 post hp
  refine ⟨n + 1, ?_⟩
  show wb_Rp_reportInside_0 (wp_Rp_reportInside post n) post (nI v) (nI i) σ
  simp only [wb_Rp_reportInside_0, litI, n_le, n_lt, n_eq, n_in, n_cl, nI_add, n_b0, n_b1, n_v0, n_v1, n_m1, n_m1', n_m1l, n_m1l', n_m1g, n_m1ge, si_1, si_2, forall_eq, not_true_eq_false, not_false_eq_true, true_imp_iff, false_imp_iff, true_and, and_true, false_and, and_false, implies_true, ite_true, ite_false, if_true, if_false, Classical.not_not, Nat.reduceEqDiff, reduceIte, Nat.add_left_cancel_iff, Nat.add_eq_left, Nat.left_eq_add, and_self, n_sub, pk_mul]
  exact hn
theorem nfr_cg {e e' : Nat → Nat → Bool} {s w v i c : Nat} (h : D.kd i = 6 → e s c = e' s c) : nfr tS lS S tD lD D e s w v i c = nfr tS lS S tD lD D e' s w v i c := by
  unfold nfr
  by_cases k6 : D.kd i = 6
  · rw [h k6]
  · rw [if_neg k6, if_neg k6]
theorem repFor_c (C : CR tS lS S tD lD D σ) {s v i : Nat} (hs : s < S.N) (h6 : S.kd s = 6) (hv : v < S.N) (hi : i < D.N) : ∃ σ', Rv (wq_Rp_reportForChildren (nI s) (nI v) (nI i) σ) σ' ∧ FL P4 σ σ' ∧ (∀ v j, hb σ' 43 v j = hb σ 43 v j) ∧ (∀ x c, x < S.N → c < D.N → (hb σ' 41 x c = true ↔ hb σ 41 x c = true ∨ (c ∈ D.K i ∧ nfr tS lS S tD lD D (EE tS lS S tD lD D) s (wrd tS lS S v) v i c = some x ∧ HH tS lS S tD lD D x c = false))) := by
  have T := CC_T C.v.c
  have hn := C.v.c.ns
  have hd := C.v.c.nd
  have hl := len_K C.v.c.wd hi
  obtain ⟨R, hR⟩ : ∃ R : Sg → Prop, R = fun σ' => FL P4 σ σ' ∧ (∀ v j, hb σ' 43 v j = hb σ 43 v j) ∧ (∀ x c, x < S.N → c < D.N → (hb σ' 41 x c = true ↔ hb σ 41 x c = true ∨ (c ∈ D.K i ∧ nfr tS lS S tD lD D (EE tS lS S tD lD D) s (wrd tS lS S v) v i c = some x ∧ HH tS lS S tD lD D x c = false))) := ⟨_, rfl⟩
  have key : ∀ suf pre y (σ1 : Sg), D.K i = pre ++ suf → chB (σ.1 21) y suf → FL P4 σ σ1 → (∀ v j, hb σ1 43 v j = hb σ 43 v j) → (∀ x c, x < S.N → c < D.N → (hb σ1 41 x c = true ↔ hb σ 41 x c = true ∨ (c ∈ pre ∧ nfr tS lS S tD lD D (EE tS lS S tD lD D) s (wrd tS lS S v) v i c = some x ∧ HH tS lS S tD lD D x c = false))) → Ex0 (fun post n => wp_Rp_reportForChildren post n 1 (nI s) (nI v) (nI i) (nI pre.length) y σ1) R := by
    intro suf
    induction suf with
    | nil =>
      intro pre y σ1 hK _ f1 h43 h41
      rw [List.append_nil] at hK
      have h18 : σ1.1 18 i = nI pre.length := by rw [f1.1, T.mD i hi, hK]
      refine ⟨σ1, by rw [hR, hK]; exact ⟨f1, h43, h41⟩, fun post hp => ⟨1, ?_⟩⟩
      show wb_Rp_reportForChildren_1 (wp_Rp_reportForChildren post 0) post (nI s) (nI v) (nI i) (nI pre.length) y σ1
      rw [hK] at hl
      simp (disch := omega) only [wb_Rp_reportForChildren_1, litI, n_le, n_lt, n_eq, n_in, n_cl, nI_add, n_b0, n_b1, n_v0, n_v1, n_m1, n_m1', n_m1l, n_m1l', n_m1g, n_m1ge, si_1, si_2, forall_eq, not_true_eq_false, not_false_eq_true, true_imp_iff, false_imp_iff, true_and, and_true, false_and, and_false, implies_true, ite_true, ite_false, if_true, if_false, Classical.not_not, Nat.reduceEqDiff, reduceIte, Nat.add_left_cancel_iff, Nat.add_eq_left, Nat.left_eq_add, and_self, n_sub, pk_mul, h18, eq_true (show i < 80 by omega), Nat.le_refl]
      exact hp
    | cons a suf ih =>
      intro pre y σ1 hK hB f1 h43 h41
      obtain ⟨hy, hB⟩ := hB
      subst hy
      have haK : a ∈ D.K i := by rw [hK]; simp
      have ha := C.v.c.wd.ch i hi a haK
      have hln : (D.K i).length = pre.length + suf.length + 1 := by rw [hK]; simp; omega
      have h18 : σ1.1 18 i = nI (D.K i).length := by rw [f1.1, T.mD i hi]
      have C1 := CR_FL C f1
      have hnf := nodeFor_r C1.v hs hv hi haK
      rw [nfr_cg (e' := EE tS lS S tD lD D) (fun k6 => C1.d.e s i a hs h6 hi k6 haK)] at hnf
      cases hq : nfr tS lS S tD lD D (EE tS lS S tD lD D) s (wrd tS lS S v) v i a with
      | none =>
        rw [hq] at hnf
        have e21 : σ1.1 21 a = σ.1 21 a := by rw [f1.1]
        refine Ex0_s (ih (pre ++ [a]) _ σ1 (by rw [hK]; simp) hB f1 h43 (fun x c hx hc => ?_)) (fun post n hn => ⟨n + 1, ?_⟩)
        · rw [h41 x c hx hc]
          simp only [List.mem_append, List.mem_singleton]
          constructor
          · rintro (q | q)
            · exact Or.inl q
            · exact Or.inr ⟨Or.inl q.1, q.2⟩
          · rintro (q | ⟨q | q, q2⟩)
            · exact Or.inl q
            · exact Or.inr ⟨q, q2⟩
            · rw [q, hq] at q2; cases q2.1
        · rw [List.length_append] at hn
          show wb_Rp_reportForChildren_1 (wp_Rp_reportForChildren post n) post (nI s) (nI v) (nI i) (nI pre.length) (nI a) σ1
          simp (disch := omega) only [wb_Rp_reportForChildren_1, litI, n_le, n_lt, n_eq, n_in, n_cl, nI_add, n_b0, n_b1, n_v0, n_v1, n_m1, n_m1', n_m1l, n_m1l', n_m1g, n_m1ge, si_1, si_2, forall_eq, not_true_eq_false, not_false_eq_true, true_imp_iff, false_imp_iff, true_and, and_true, false_and, and_false, implies_true, ite_true, ite_false, if_true, if_false, Classical.not_not, Nat.reduceEqDiff, reduceIte, Nat.add_left_cancel_iff, Nat.add_eq_left, Nat.left_eq_add, and_self, n_sub, pk_mul, h18, eq_true (show i < 80 by omega), eq_false (show ¬ (D.K i).length ≤ pre.length by omega)]
          refine hnf _ ?_
          simp (disch := omega) only [oI, show (-1 : Int32) = -nI 1 from rfl, litI, n_le, n_lt, n_eq, n_in, n_cl, nI_add, n_b0, n_b1, n_v0, n_v1, n_m1, n_m1', n_m1l, n_m1l', n_m1g, n_m1ge, si_1, si_2, forall_eq, not_true_eq_false, not_false_eq_true, true_imp_iff, false_imp_iff, true_and, and_true, false_and, and_false, implies_true, ite_true, ite_false, if_true, if_false, Classical.not_not, Nat.reduceEqDiff, reduceIte, Nat.add_left_cancel_iff, Nat.add_eq_left, Nat.left_eq_add, and_self, n_sub, pk_mul, eq_true (show a < 80 by omega), e21]
          exact hn
      | some z =>
        have hz := nfr_lt C.v.c.ws hs hv hq
        rw [hq] at hnf
        obtain ⟨σ2, r1, r2, r3, r4⟩ := report_c C1 hz ha.2.1
        have e21 : σ2.1 21 a = σ.1 21 a := by rw [(FL_t f1 r2).1]
        refine Ex0_s (ih (pre ++ [a]) _ σ2 (by rw [hK]; simp) hB (FL_t f1 r2) (fun v j => (r3 v j).trans (h43 v j)) (fun x c hx hc => ?_)) (fun post n hn => ⟨n + 1, ?_⟩)
        · rw [r4 x c hx hc, h41 x c hx hc]
          simp only [List.mem_append, List.mem_singleton]
          constructor
          · rintro ((q | q) | q)
            · exact Or.inl q
            · exact Or.inr ⟨Or.inl q.1, q.2⟩
            · exact Or.inr ⟨Or.inr q.2.1, by rw [q.2.1, hq, q.1], by rw [q.1, q.2.1]; exact q.2.2⟩
          · rintro (q | ⟨q | q, q2, q3⟩)
            · exact Or.inl (Or.inl q)
            · exact Or.inl (Or.inr ⟨q, q2, q3⟩)
            · rw [q, hq] at q2; injection q2 with q2
              exact Or.inr ⟨q2.symm, q, by rw [q2, ← q]; exact q3⟩
        · rw [List.length_append] at hn
          show wb_Rp_reportForChildren_1 (wp_Rp_reportForChildren post n) post (nI s) (nI v) (nI i) (nI pre.length) (nI a) σ1
          simp (disch := omega) only [wb_Rp_reportForChildren_1, litI, n_le, n_lt, n_eq, n_in, n_cl, nI_add, n_b0, n_b1, n_v0, n_v1, n_m1, n_m1', n_m1l, n_m1l', n_m1g, n_m1ge, si_1, si_2, forall_eq, not_true_eq_false, not_false_eq_true, true_imp_iff, false_imp_iff, true_and, and_true, false_and, and_false, implies_true, ite_true, ite_false, if_true, if_false, Classical.not_not, Nat.reduceEqDiff, reduceIte, Nat.add_left_cancel_iff, Nat.add_eq_left, Nat.left_eq_add, and_self, n_sub, pk_mul, h18, eq_true (show i < 80 by omega), eq_false (show ¬ (D.K i).length ≤ pre.length by omega)]
          refine hnf _ ?_
          simp (disch := omega) only [oI, show (-1 : Int32) = -nI 1 from rfl, litI, n_le, n_lt, n_eq, n_in, n_cl, nI_add, n_b0, n_b1, n_v0, n_v1, n_m1, n_m1', n_m1l, n_m1l', n_m1g, n_m1ge, si_1, si_2, forall_eq, not_true_eq_false, not_false_eq_true, true_imp_iff, false_imp_iff, true_and, and_true, false_and, and_false, implies_true, ite_true, ite_false, if_true, if_false, Classical.not_not, Nat.reduceEqDiff, reduceIte, Nat.add_left_cancel_iff, Nat.add_eq_left, Nat.left_eq_add, and_self, n_sub, pk_mul]
          refine r1 _ ?_
          simp (disch := omega) only [litI, n_le, n_lt, n_eq, n_in, n_cl, nI_add, n_b0, n_b1, n_v0, n_v1, n_m1, n_m1', n_m1l, n_m1l', n_m1g, n_m1ge, si_1, si_2, forall_eq, not_true_eq_false, not_false_eq_true, true_imp_iff, false_imp_iff, true_and, and_true, false_and, and_false, implies_true, ite_true, ite_false, if_true, if_false, Classical.not_not, Nat.reduceEqDiff, reduceIte, Nat.add_left_cancel_iff, Nat.add_eq_left, Nat.left_eq_add, and_self, n_sub, pk_mul, eq_true (show a < 80 by omega), e21]
          exact hn
  obtain ⟨σ', q1, q2⟩ := key (D.K i) [] _ σ rfl (T.cD i hi) FL_r (fun _ _ => rfl) (fun x c _ _ => by simp)
  rw [hR] at q1
  refine ⟨σ', fun post hp => ?_, q1⟩
  obtain ⟨n, hn⟩ := q2 post hp
  refine ⟨n + 1, ?_⟩
  show wb_Rp_reportForChildren_0 (wp_Rp_reportForChildren post n) post (nI s) (nI v) (nI i) σ
  simp only [wb_Rp_reportForChildren_0, litI, n_le, n_lt, n_eq, n_in, n_cl, nI_add, n_b0, n_b1, n_v0, n_v1, n_m1, n_m1', n_m1l, n_m1l', n_m1g, n_m1ge, si_1, si_2, forall_eq, not_true_eq_false, not_false_eq_true, true_imp_iff, false_imp_iff, true_and, and_true, false_and, and_false, implies_true, ite_true, ite_false, if_true, if_false, Classical.not_not, Nat.reduceEqDiff, reduceIte, Nat.add_left_cancel_iff, Nat.add_eq_left, Nat.left_eq_add, and_self, n_sub, pk_mul]
  exact hn
/-- by the child v alone -/
def Ldv (tS : Nat → Nat) (lS : Nat) (S : TG) (tD : Nat → Nat) (lD : Nat) (D : TG) (s i v x c : Nat) : Prop := ∃ w, Bad tS lS S tD lD D s w v i ∧ HH tS lS S tD lD D x c = false ∧ (((w = 12 ∨ w = 13 ∨ w = 14 ∨ w = 20) ∧ c ∈ D.K i ∧ nfr tS lS S tD lD D (EE tS lS S tD lD D) s w v i c = some x) ∨ (w = 15 ∧ x ∈ S.K v ∧ c = i) ∨ (w = 19 ∧ mtg tS lS S v = some x ∧ c = i))
theorem bad_w (hW : WG lS S) {s w v i : Nat} (hs : s < S.N) (h : Bad tS lS S tD lD D s w v i) : wrd tS lS S v = w ∧ v ∈ S.K s := ⟨(rul_wrd hW hs h.1 (rul_mem h.2.2.2.1).2 h.2.1).mpr h.2.2.2.1, (rul_mem h.2.2.2.1).2⟩
theorem expChild_c (C : CR tS lS S tD lD D σ) {s v i : Nat} (hs : s < S.N) (h6 : S.kd s = 6) (hvK : v ∈ S.K s) (hi : i < D.N) (hb' : sob tS lS S tD lD D (HH tS lS S tD lD D) (EE tS lS S tD lD D) s (wrd tS lS S v) v i = false) :
    ∃ σ', Rv (wq_Rp_explainChild (nI s) (nI v) (nI i) σ) σ' ∧ FL P4 σ σ' ∧ (∀ x c, x < S.N → c < D.N → (hb σ' 41 x c = true ↔ hb σ 41 x c = true ∨ Ldv tS lS S tD lD D s i v x c)) ∧ (∀ u j, u < S.N → j < D.N → (hb σ' 43 u j = true ↔ hb σ 43 u j = true ∨ (u = v ∧ j = i ∧ Wr tS lS S tD lD D s v i))) := by
  have hW := C.v.c.ws
  have hn := C.v.c.ns
  have hd := C.v.c.nd
  have hv := (hW.ch s hs v hvK).2.1
  have hwl := wrd_le (tx := tS) (len := lS) (G := S) (c := v)
  have hm1 : (-1 : Int32) = -nI 1 := rfl
  have h30 := C.v.p.w v hv
  have h31 := C.v.p.t v hv
  have hwne : ¬ (wrd tS lS S v = 0 ∨ 21 ≤ wrd tS lS S v) := fun q => by rw [sob_0 q] at hb'; cases hb'
  have hbad : Bad tS lS S tD lD D s (wrd tS lS S v) v i := ⟨h6, by omega, by omega, (rul_wrd hW hs h6 hvK (by omega)).mp rfl, hb'⟩
  have buniq : ∀ w, Bad tS lS S tD lD D s w v i → w = wrd tS lS S v := fun w h => (bad_w hW hs h).1.symm
  -- a put
  have put : ¬ (wrd tS lS S v = 12 ∨ wrd tS lS S v = 13 ∨ wrd tS lS S v = 14 ∨ wrd tS lS S v = 15 ∨ wrd tS lS S v = 20) → (wrd tS lS S v = 19 → mtg tS lS S v = none) → FL P4 σ (mput 43 σ v i) ∧ (∀ x c, x < S.N → c < D.N → (hb (mput 43 σ v i) 41 x c = true ↔ hb σ 41 x c = true ∨ Ldv tS lS S tD lD D s i v x c)) ∧ (∀ u j, u < S.N → j < D.N → (hb (mput 43 σ v i) 43 u j = true ↔ hb σ 43 u j = true ∨ (u = v ∧ j = i ∧ Wr tS lS S tD lD D s v i))) := fun q1 q2 => by
    refine ⟨FL_put FL_r (fun k => Or.inr rfl), fun x c hx hc => ?_, fun u j hu hj => ?_⟩
    · rw [hb_o (fun k => mput_o (by omega))]
      refine ⟨Or.inl, fun z => ?_⟩
      rcases z with z | ⟨w, hb2, hf, hcs⟩
      · exact z
      · have := buniq w hb2; subst this
        rcases hcs with z | z | z
        · exact absurd z.1 (by omega)
        · exact absurd z.1 (by omega)
        · rw [q2 z.1] at z; cases z.2.1
    · rw [hb_put (by omega) (by omega)]
      simp only [Bool.or_eq_true, decide_eq_true_iff, true_and]
      refine ⟨fun z => ?_, fun z => ?_⟩
      · rcases z with z | z
        · exact Or.inl z
        · exact Or.inr ⟨z.1, z.2, _, hbad, q1, q2⟩
      · rcases z with z | z
        · exact Or.inl z
        · exact Or.inr ⟨z.1, z.2.1⟩
  have nowr : ((wrd tS lS S v = 12 ∨ wrd tS lS S v = 13 ∨ wrd tS lS S v = 14 ∨ wrd tS lS S v = 15 ∨ wrd tS lS S v = 20) ∨ (wrd tS lS S v = 19 ∧ mtg tS lS S v ≠ none)) → ¬ Wr tS lS S tD lD D s v i := fun q => by
    rintro ⟨w, hb2, q1, q2⟩
    have := buniq w hb2; subst this
    rcases q with q | q
    · exact q1 q
    · exact q.2 (q2 q.1)
  by_cases k1 : wrd tS lS S v = 12 ∨ wrd tS lS S v = 13 ∨ wrd tS lS S v = 14 ∨ wrd tS lS S v = 20
  · obtain ⟨σ', r1, r2, r3, r4⟩ := repFor_c C hs h6 hv hi
    refine ⟨σ', fun post hp => ?_, r2, fun x c hx hc => ?_, fun u j hu hj => ?_⟩
    · have := r1 _ hp
      unfold wq_Rp_explainChild
      simp (disch := omega) only [litI, n_le, n_lt, n_eq, n_in, n_cl, nI_add, n_b0, n_b1, n_v0, n_v1, n_m1, n_m1', n_m1l, n_m1l', n_m1g, n_m1ge, si_1, si_2, forall_eq, not_true_eq_false, not_false_eq_true, true_imp_iff, false_imp_iff, true_and, and_true, false_and, and_false, implies_true, ite_true, ite_false, if_true, if_false, Classical.not_not, Nat.reduceEqDiff, reduceIte, Nat.add_left_cancel_iff, Nat.add_eq_left, Nat.left_eq_add, and_self, n_sub, pk_mul, h30, eq_true (show v < 160 by omega)]
      exact ⟨fun _ => this, fun _ => this, fun _ => this, fun z => by omega, fun z => by omega, fun z => by omega, fun z => by omega, fun z => by omega, fun _ => this, fun z => by omega⟩
    · rw [r4 x c hx hc]
      refine ⟨fun z => ?_, fun z => ?_⟩
      · rcases z with z | z
        · exact Or.inl z
        · exact Or.inr ⟨_, hbad, z.2.2, Or.inl ⟨k1, z.1, z.2.1⟩⟩
      · rcases z with z | ⟨w, hb2, hf, hcs⟩
        · exact Or.inl z
        · have := buniq w hb2; subst this
          rcases hcs with z | z | z
          · exact Or.inr ⟨z.2.1, z.2.2, hf⟩
          · exact absurd z.1 (by omega)
          · exact absurd z.1 (by omega)
    · rw [r3 u j]
      exact ⟨Or.inl, fun z => z.elim id (fun z => absurd z.2.2 (nowr (Or.inl (by omega))))⟩
  by_cases k15 : wrd tS lS S v = 15
  · obtain ⟨σ', r1, r2, r3, r4⟩ := repInside_c C hv hi
    refine ⟨σ', fun post hp => ?_, r2, fun x c hx hc => ?_, fun u j hu hj => ?_⟩
    · have := r1 _ hp
      unfold wq_Rp_explainChild
      simp (disch := omega) only [litI, n_le, n_lt, n_eq, n_in, n_cl, nI_add, n_b0, n_b1, n_v0, n_v1, n_m1, n_m1', n_m1l, n_m1l', n_m1g, n_m1ge, si_1, si_2, forall_eq, not_true_eq_false, not_false_eq_true, true_imp_iff, false_imp_iff, true_and, and_true, false_and, and_false, implies_true, ite_true, ite_false, if_true, if_false, Classical.not_not, Nat.reduceEqDiff, reduceIte, Nat.add_left_cancel_iff, Nat.add_eq_left, Nat.left_eq_add, and_self, n_sub, pk_mul, h30, eq_true (show v < 160 by omega)]
      exact ⟨fun z => by omega, fun z => by omega, fun z => by omega, fun _ => this, fun z => by omega, fun z => by omega, fun z => by omega, fun z => by omega, fun z => by omega, fun z => by omega⟩
    · rw [r4 x c hx hc]
      refine ⟨fun z => ?_, fun z => ?_⟩
      · rcases z with z | z
        · exact Or.inl z
        · exact Or.inr ⟨_, hbad, by rw [z.2.1]; exact z.2.2, Or.inr (Or.inl ⟨k15, z.1, z.2.1⟩)⟩
      · rcases z with z | ⟨w, hb2, hf, hcs⟩
        · exact Or.inl z
        · have := buniq w hb2; subst this
          rcases hcs with z | z | z
          · exact absurd z.1 k1
          · exact Or.inr ⟨z.2.1, z.2.2, by rw [← z.2.2]; exact hf⟩
          · exact absurd z.1 (by omega)
    · rw [r3 u j]
      exact ⟨Or.inl, fun z => z.elim id (fun z => absurd z.2.2 (nowr (Or.inl (by omega))))⟩
  by_cases k19 : wrd tS lS S v = 19
  · have htg : tgt tS lS S v = mtg tS lS S v := by unfold tgt; rw [if_pos k19]
    cases hm : mtg tS lS S v with
    | none =>
      obtain ⟨p1, p2, p3⟩ := put (by omega) (fun _ => hm)
      refine ⟨_, fun post hp => ?_, p1, p2, p3⟩
      unfold wq_Rp_explainChild
      simp (disch := omega) only [litI, n_le, n_lt, n_eq, n_in, n_cl, nI_add, n_b0, n_b1, n_v0, n_v1, n_m1, n_m1', n_m1l, n_m1l', n_m1g, n_m1ge, si_1, si_2, forall_eq, not_true_eq_false, not_false_eq_true, true_imp_iff, false_imp_iff, true_and, and_true, false_and, and_false, implies_true, ite_true, ite_false, if_true, if_false, Classical.not_not, Nat.reduceEqDiff, reduceIte, Nat.add_left_cancel_iff, Nat.add_eq_left, Nat.left_eq_add, and_self, n_sub, pk_mul, h30, h31, htg, hm, oI, hm1, eq_true (show v < 160 by omega), Mk_put_r (show v < 160 by omega) (show i < 128 by omega)]
      exact ⟨fun z => by omega, fun z => by omega, fun z => by omega, fun z => by omega, fun z => by omega, fun z => by omega, fun z => by omega, fun _ => hp, fun z => by omega, fun z => by omega⟩
    | some y =>
      have hy := mtg_lt hW hv hm
      obtain ⟨σ', r1, r2, r3, r4⟩ := report_c C hy hi
      refine ⟨σ', fun post hp => ?_, r2, fun x c hx hc => ?_, fun u j hu hj => ?_⟩
      · have := r1 _ hp
        unfold wq_Rp_explainChild
        simp (disch := omega) only [litI, n_le, n_lt, n_eq, n_in, n_cl, nI_add, n_b0, n_b1, n_v0, n_v1, n_m1, n_m1', n_m1l, n_m1l', n_m1g, n_m1ge, si_1, si_2, forall_eq, not_true_eq_false, not_false_eq_true, true_imp_iff, false_imp_iff, true_and, and_true, false_and, and_false, implies_true, ite_true, ite_false, if_true, if_false, Classical.not_not, Nat.reduceEqDiff, reduceIte, Nat.add_left_cancel_iff, Nat.add_eq_left, Nat.left_eq_add, and_self, n_sub, pk_mul, h30, h31, htg, hm, oI, hm1, eq_true (show v < 160 by omega)]
        exact ⟨fun z => by omega, fun z => by omega, fun z => by omega, fun z => by omega, fun z => by omega, fun z => by omega, fun z => by omega, fun _ => this, fun z => by omega, fun z => by omega⟩
      · rw [r4 x c hx hc]
        refine ⟨fun z => ?_, fun z => ?_⟩
        · rcases z with z | z
          · exact Or.inl z
          · exact Or.inr ⟨_, hbad, by rw [z.1, z.2.1]; exact z.2.2, Or.inr (Or.inr ⟨k19, by rw [hm, z.1], z.2.1⟩)⟩
        · rcases z with z | ⟨w, hb2, hf, hcs⟩
          · exact Or.inl z
          · have := buniq w hb2; subst this
            rcases hcs with z | z | z
            · exact absurd z.1 k1
            · exact absurd z.1 k15
            · have e := z.2.1; rw [hm] at e; injection e with e
              exact Or.inr ⟨e.symm, z.2.2, by rw [e, ← z.2.2]; exact hf⟩
      · rw [r3 u j]
        exact ⟨Or.inl, fun z => z.elim id (fun z => absurd z.2.2 (nowr (Or.inr ⟨k19, by rw [hm]; simp⟩)))⟩
  · obtain ⟨p1, p2, p3⟩ := put (by omega) (fun z => absurd z k19)
    refine ⟨_, fun post hp => ?_, p1, p2, p3⟩
    unfold wq_Rp_explainChild
    simp (disch := omega) only [litI, n_le, n_lt, n_eq, n_in, n_cl, nI_add, n_b0, n_b1, n_v0, n_v1, n_m1, n_m1', n_m1l, n_m1l', n_m1g, n_m1ge, si_1, si_2, forall_eq, not_true_eq_false, not_false_eq_true, true_imp_iff, false_imp_iff, true_and, and_true, false_and, and_false, implies_true, ite_true, ite_false, if_true, if_false, Classical.not_not, Nat.reduceEqDiff, reduceIte, Nat.add_left_cancel_iff, Nat.add_eq_left, Nat.left_eq_add, and_self, n_sub, pk_mul, h30, eq_true (show v < 160 by omega), Mk_put_r (show v < 160 by omega) (show i < 128 by omega)]
    exact ⟨fun z => by omega, fun z => by omega, fun z => by omega, fun z => by omega, fun _ => hp, fun _ => hp, fun _ => hp, fun z => by omega, fun z => by omega, fun _ => hp⟩
theorem explain_c (C : CR tS lS S tD lD D σ) {s i : Nat} (hs : s < S.N) (h6 : S.kd s = 6) (hi : i < D.N) :
    ∃ σ', Rv (wq_Rp_explain (nI s) (nI i) σ) σ' ∧ FL P4 σ σ' ∧ (∀ x c, x < S.N → c < D.N → (hb σ' 41 x c = true ↔ hb σ 41 x c = true ∨ Ld tS lS S tD lD D s i x c)) ∧ (∀ u j, u < S.N → j < D.N → (hb σ' 43 u j = true ↔ hb σ 43 u j = true ∨ (j = i ∧ Wr tS lS S tD lD D s u i))) := by
  have T := CC_T C.v.c
  have hW := C.v.c.ws
  have hWD := C.v.c.wd
  have hn := C.v.c.ns
  have hl := len_K hW hs
  obtain ⟨R, hR⟩ : ∃ R : Sg → Prop, R = fun σ' => FL P4 σ σ' ∧ (∀ x c, x < S.N → c < D.N → (hb σ' 41 x c = true ↔ hb σ 41 x c = true ∨ Ld tS lS S tD lD D s i x c)) ∧ (∀ u j, u < S.N → j < D.N → (hb σ' 43 u j = true ↔ hb σ 43 u j = true ∨ (j = i ∧ Wr tS lS S tD lD D s u i))) := ⟨_, rfl⟩
  have key : ∀ suf pre y (σ1 : Sg), S.K s = pre ++ suf → chB (σ.1 8) y suf → FL P4 σ σ1 → (∀ x c, x < S.N → c < D.N → (hb σ1 41 x c = true ↔ hb σ 41 x c = true ∨ ∃ v ∈ pre, Ldv tS lS S tD lD D s i v x c)) → (∀ u j, u < S.N → j < D.N → (hb σ1 43 u j = true ↔ hb σ 43 u j = true ∨ (u ∈ pre ∧ j = i ∧ Wr tS lS S tD lD D s u i))) → Ex0 (fun post n => wp_Rp_explain post n 1 (nI s) (nI i) (nI pre.length) y σ1) R := by
    intro suf
    induction suf with
    | nil =>
      intro pre y σ1 hK _ f1 h41 h43
      rw [List.append_nil] at hK
      have h5 : σ1.1 5 s = nI pre.length := by rw [f1.1, T.mS s hs, hK]
      refine ⟨σ1, ?_, fun post hp => ⟨1, ?_⟩⟩
      · rw [hR]
        refine ⟨f1, fun x c hx hc => ?_, fun u j hu hj => ?_⟩
        · rw [h41 x c hx hc]
          refine ⟨fun z => z.imp id (fun ⟨v, _, w, h⟩ => ⟨w, v, h⟩), fun z => z.imp id (fun ⟨w, v, h⟩ => ⟨v, by rw [← hK]; exact (bad_w hW hs h.1).2, w, h⟩)⟩
        · rw [h43 u j hu hj]
          refine ⟨fun z => z.imp id (fun h => h.2), fun z => z.imp id (fun h => ⟨?_, h⟩)⟩
          obtain ⟨w, hb2, _⟩ := h.2
          rw [← hK]; exact (bad_w hW hs hb2).2
      · show wb_Rp_explain_1 (wp_Rp_explain post 0) post (nI s) (nI i) (nI pre.length) y σ1
        rw [hK] at hl
        simp (disch := omega) only [wb_Rp_explain_1, litI, n_le, n_lt, n_eq, n_in, n_cl, nI_add, n_b0, n_b1, n_v0, n_v1, n_m1, n_m1', n_m1l, n_m1l', n_m1g, n_m1ge, si_1, si_2, forall_eq, not_true_eq_false, not_false_eq_true, true_imp_iff, false_imp_iff, true_and, and_true, false_and, and_false, implies_true, ite_true, ite_false, if_true, if_false, Classical.not_not, Nat.reduceEqDiff, reduceIte, Nat.add_left_cancel_iff, Nat.add_eq_left, Nat.left_eq_add, and_self, n_sub, pk_mul, h5, eq_true (show s < 160 by omega), Nat.le_refl]
        exact hp
    | cons v suf ih =>
      intro pre y σ1 hK hB f1 h41 h43
      obtain ⟨hy, hB⟩ := hB
      subst hy
      have hvK : v ∈ S.K s := by rw [hK]; simp
      have hv := hW.ch s hs v hvK
      have hln : (S.K s).length = pre.length + suf.length + 1 := by rw [hK]; simp; omega
      have h5 : σ1.1 5 s = nI (S.K s).length := by rw [f1.1, T.mS s hs]
      have C1 := CR_FL C f1
      have hso := isSo_r C1.v hs hv.2.1 hi
      have hsc : sob tS lS S tD lD D (hCf S σ1) (eCf σ1) s (wrd tS lS S v) v i = sob tS lS S tD lD D (HH tS lS S tD lD D) (EE tS lS S tD lD D) s (wrd tS lS S v) v i :=
        sob_cg hW hWD hs hi hvK rfl h6 (fun x hx => C1.d.h x i (Dp_lt hW hs hx) hi) (fun c hc x hx => C1.d.h x c hx (hWD.ch i hi c hc).2.1) (fun c hc k6 => C1.d.e s i c hs h6 hi k6 hc)
      rw [hsc] at hso
      have next : ∀ σ2, FL P4 σ σ2 → (∀ x c, x < S.N → c < D.N → (hb σ2 41 x c = true ↔ hb σ1 41 x c = true ∨ Ldv tS lS S tD lD D s i v x c)) → (∀ u j, u < S.N → j < D.N → (hb σ2 43 u j = true ↔ hb σ1 43 u j = true ∨ (u = v ∧ j = i ∧ Wr tS lS S tD lD D s v i))) → Ex0 (fun post n => wp_Rp_explain post n 1 (nI s) (nI i) (nI (pre.length + 1)) (σ.1 8 v) σ2) R := fun σ2 f2 g41 g43 => by
        have := ih (pre ++ [v]) _ σ2 (by rw [hK]; simp) hB f2 (fun x c hx hc => by
          rw [g41 x c hx hc, h41 x c hx hc]
          simp only [List.mem_append, List.mem_singleton]
          constructor
          · rintro ((q | ⟨u, q1, q2⟩) | q)
            · exact Or.inl q
            · exact Or.inr ⟨u, Or.inl q1, q2⟩
            · exact Or.inr ⟨v, Or.inr rfl, q⟩
          · rintro (q | ⟨u, q1 | q1, q2⟩)
            · exact Or.inl (Or.inl q)
            · exact Or.inl (Or.inr ⟨u, q1, q2⟩)
            · rw [q1] at q2; exact Or.inr q2) (fun u j hu hj => by
          rw [g43 u j hu hj, h43 u j hu hj]
          simp only [List.mem_append, List.mem_singleton]
          constructor
          · rintro ((q | ⟨q1, q2⟩) | ⟨q1, q2, q3⟩)
            · exact Or.inl q
            · exact Or.inr ⟨Or.inl q1, q2⟩
            · exact Or.inr ⟨Or.inr q1, q2, by rw [q1]; exact q3⟩
          · rintro (q | ⟨q1 | q1, q2, q3⟩)
            · exact Or.inl (Or.inl q)
            · exact Or.inl (Or.inr ⟨q1, q2, q3⟩)
            · rw [q1] at q3; exact Or.inr ⟨q1, q2, q3⟩)
        rw [List.length_append] at this
        exact this
      have nobad : sob tS lS S tD lD D (HH tS lS S tD lD D) (EE tS lS S tD lD D) s (wrd tS lS S v) v i = true → ∀ w, ¬ Bad tS lS S tD lD D s w v i := fun q w hb2 => by
        have e := (bad_w hW hs hb2).1
        have h2 := hb2.2.2.2.2
        rw [← e, q] at h2; cases h2
      cases hq : sob tS lS S tD lD D (HH tS lS S tD lD D) (EE tS lS S tD lD D) s (wrd tS lS S v) v i with
      | true =>
        rw [hq] at hso
        have e8 : σ1.1 8 v = σ.1 8 v := by rw [f1.1]
        refine Ex0_s (next σ1 f1 (fun x c _ _ => ⟨Or.inl, fun z => z.elim id (fun ⟨w, h⟩ => absurd h.1 (nobad hq w))⟩) (fun u j _ _ => ⟨Or.inl, fun z => z.elim id (fun ⟨_, _, w, h⟩ => absurd h.1 (nobad hq w))⟩)) (fun post n hn => ⟨n + 1, ?_⟩)
        show wb_Rp_explain_1 (wp_Rp_explain post n) post (nI s) (nI i) (nI pre.length) (nI v) σ1
        simp (disch := omega) only [wb_Rp_explain_1, litI, n_le, n_lt, n_eq, n_in, n_cl, nI_add, n_b0, n_b1, n_v0, n_v1, n_m1, n_m1', n_m1l, n_m1l', n_m1g, n_m1ge, si_1, si_2, forall_eq, not_true_eq_false, not_false_eq_true, true_imp_iff, false_imp_iff, true_and, and_true, false_and, and_false, implies_true, ite_true, ite_false, if_true, if_false, Classical.not_not, Nat.reduceEqDiff, reduceIte, Nat.add_left_cancel_iff, Nat.add_eq_left, Nat.left_eq_add, and_self, n_sub, pk_mul, h5, eq_true (show s < 160 by omega), eq_false (show ¬ (S.K s).length ≤ pre.length by omega)]
        refine hso _ ?_
        simp (disch := omega) only [nB_0, litI, n_le, n_lt, n_eq, n_in, n_cl, nI_add, n_b0, n_b1, n_v0, n_v1, n_m1, n_m1', n_m1l, n_m1l', n_m1g, n_m1ge, si_1, si_2, forall_eq, not_true_eq_false, not_false_eq_true, true_imp_iff, false_imp_iff, true_and, and_true, false_and, and_false, implies_true, ite_true, ite_false, if_true, if_false, Classical.not_not, Nat.reduceEqDiff, reduceIte, Nat.add_left_cancel_iff, Nat.add_eq_left, Nat.left_eq_add, and_self, n_sub, pk_mul, Bool.true_eq_false, eq_true (show v < 160 by omega), e8]
        exact hn
      | false =>
        rw [hq] at hso
        obtain ⟨σ2, r1, r2, r3, r4⟩ := expChild_c C1 hs h6 hvK hi hq
        have e8 : σ2.1 8 v = σ.1 8 v := by rw [(FL_t f1 r2).1]
        refine Ex0_s (next σ2 (FL_t f1 r2) r3 r4) (fun post n hn => ⟨n + 1, ?_⟩)
        show wb_Rp_explain_1 (wp_Rp_explain post n) post (nI s) (nI i) (nI pre.length) (nI v) σ1
        simp (disch := omega) only [wb_Rp_explain_1, litI, n_le, n_lt, n_eq, n_in, n_cl, nI_add, n_b0, n_b1, n_v0, n_v1, n_m1, n_m1', n_m1l, n_m1l', n_m1g, n_m1ge, si_1, si_2, forall_eq, not_true_eq_false, not_false_eq_true, true_imp_iff, false_imp_iff, true_and, and_true, false_and, and_false, implies_true, ite_true, ite_false, if_true, if_false, Classical.not_not, Nat.reduceEqDiff, reduceIte, Nat.add_left_cancel_iff, Nat.add_eq_left, Nat.left_eq_add, and_self, n_sub, pk_mul, h5, eq_true (show s < 160 by omega), eq_false (show ¬ (S.K s).length ≤ pre.length by omega)]
        refine hso _ ?_
        simp (disch := omega) only [nB_0, litI, n_le, n_lt, n_eq, n_in, n_cl, nI_add, n_b0, n_b1, n_v0, n_v1, n_m1, n_m1', n_m1l, n_m1l', n_m1g, n_m1ge, si_1, si_2, forall_eq, not_true_eq_false, not_false_eq_true, true_imp_iff, false_imp_iff, true_and, and_true, false_and, and_false, implies_true, ite_true, ite_false, if_true, if_false, Classical.not_not, Nat.reduceEqDiff, reduceIte, Nat.add_left_cancel_iff, Nat.add_eq_left, Nat.left_eq_add, and_self, n_sub, pk_mul]
        refine r1 _ ?_
        simp (disch := omega) only [n_in, n_cl, eq_true (show v < 160 by omega), true_and, e8]
        exact hn
  obtain ⟨σ', q1, q2⟩ := key (S.K s) [] _ σ rfl (T.cS s hs) FL_r (fun x c _ _ => by simp) (fun u j _ _ => by simp)
  rw [hR] at q1
  refine ⟨σ', fun post hp => ?_, q1⟩
  obtain ⟨n, hn⟩ := q2 post hp
  refine ⟨n + 1, ?_⟩
  show wb_Rp_explain_0 (wp_Rp_explain post n) post (nI s) (nI i) σ
  simp only [wb_Rp_explain_0, litI, n_le, n_lt, n_eq, n_in, n_cl, nI_add, n_b0, n_b1, n_v0, n_v1, n_m1, n_m1', n_m1l, n_m1l', n_m1g, n_m1ge, si_1, si_2, forall_eq, not_true_eq_false, not_false_eq_true, true_imp_iff, false_imp_iff, true_and, and_true, false_and, and_false, implies_true, ite_true, ite_false, if_true, if_false, Classical.not_not, Nat.reduceEqDiff, reduceIte, Nat.add_left_cancel_iff, Nat.add_eq_left, Nat.left_eq_add, and_self, n_sub, pk_mul]
  exact hn
end EX
