section RE
variable {tS : Nat → Nat} {lS : Nat} {S : TG} {tD : Nat → Nat} {lD : Nat} {D : TG} {σ : Sg}
def e0 (_ _ : Nat) : Bool := false
theorem nfr_e {e : Nat → Nat → Bool} {s w v i c : Nat} (hw : w ≠ 20) : nfr tS lS S tD lD D e s w v i c = nfr tS lS S tD lD D e0 s w v i c := by
  unfold nfr; simp only [if_neg hw]
/-- how what is looked for goes on -/
def Ra (tS : Nat → Nat) (lS : Nat) (S : TG) (tD : Nat → Nat) (lD : Nat) (D : TG) (s i x c : Nat) : Prop := S.kd s = 6 ∧ ((∃ w v, (w = 12 ∨ w = 13 ∨ w = 14) ∧ rul tS lS S s w = some v ∧ c ∈ D.K i ∧ nfr tS lS S tD lD D e0 s w v i c = some x) ∨ (∃ w v, (w = 15 ∨ w = 16 ∨ w = 17) ∧ rul tS lS S s w = some v ∧ S.kd v = 5 ∧ x ∈ S.K v ∧ c = i) ∨ (∃ v, rul tS lS S s 19 = some v ∧ mtg tS lS S v = some x ∧ c = i))
/-- by the child v alone -/
def Rav (tS : Nat → Nat) (lS : Nat) (S : TG) (tD : Nat → Nat) (lD : Nat) (D : TG) (s i v x c : Nat) : Prop := ((wrd tS lS S v = 12 ∨ wrd tS lS S v = 13 ∨ wrd tS lS S v = 14) ∧ c ∈ D.K i ∧ nfr tS lS S tD lD D e0 s (wrd tS lS S v) v i c = some x) ∨ ((wrd tS lS S v = 15 ∨ wrd tS lS S v = 16 ∨ wrd tS lS S v = 17) ∧ S.kd v = 5 ∧ x ∈ S.K v ∧ c = i) ∨ (wrd tS lS S v = 19 ∧ mtg tS lS S v = some x ∧ c = i)
theorem Ra_v (hW : WG lS S) {s i x c : Nat} (hs : s < S.N) (h6 : S.kd s = 6) : Ra tS lS S tD lD D s i x c ↔ ∃ v ∈ S.K s, Rav tS lS S tD lD D s i v x c := by
  constructor
  · rintro ⟨_, ⟨w, v, hw, hr, h1, h2⟩ | ⟨w, v, hw, hr, h1, h2, h3⟩ | ⟨v, hr, h1, h2⟩⟩
    · have hv := (rul_mem hr).2
      have e : wrd tS lS S v = w := (rul_wrd hW hs h6 hv (by omega)).mpr hr
      exact ⟨v, hv, Or.inl ⟨by rw [e]; exact hw, h1, by rw [e]; exact h2⟩⟩
    · have hv := (rul_mem hr).2
      have e : wrd tS lS S v = w := (rul_wrd hW hs h6 hv (by omega)).mpr hr
      exact ⟨v, hv, Or.inr (Or.inl ⟨by rw [e]; exact hw, h1, h2, h3⟩)⟩
    · have hv := (rul_mem hr).2
      have e : wrd tS lS S v = 19 := (rul_wrd hW hs h6 hv (by omega)).mpr hr
      exact ⟨v, hv, Or.inr (Or.inr ⟨e, h1, h2⟩)⟩
  · rintro ⟨v, hv, ⟨hw, h1, h2⟩ | ⟨hw, h1, h2, h3⟩ | ⟨hw, h1, h2⟩⟩
    · exact ⟨h6, Or.inl ⟨wrd tS lS S v, v, hw, (rul_wrd hW hs h6 hv (by omega)).mp rfl, h1, h2⟩⟩
    · exact ⟨h6, Or.inr (Or.inl ⟨wrd tS lS S v, v, hw, (rul_wrd hW hs h6 hv (by omega)).mp rfl, h1, h2, h3⟩)⟩
    · exact ⟨h6, Or.inr (Or.inr ⟨v, (rul_wrd hW hs h6 hv (by omega)).mp hw, h1, h2⟩)⟩
theorem Ra_ok (hW : WG lS S) (hWD : WG lD D) {s i x c : Nat} (hs : s < S.N) (hi : i < D.N) (h : Ra tS lS S tD lD D s i x c) : x < S.N ∧ c < D.N ∧ ((i < c) ∨ (c = i ∧ Dp tS lS S s x)) := by
  obtain ⟨_, ⟨w, v, hw, hr, h1, h2⟩ | ⟨w, v, hw, hr, h1, h2, h3⟩ | ⟨v, hr, h1, h2⟩⟩ := h
  · have hc := hWD.ch i hi c h1
    exact ⟨nfr_lt hW hs (rul_lt hW hs hr) h2, hc.2.1, Or.inl hc.1⟩
  · have hv := rul_lt hW hs hr
    exact ⟨(hW.ch v hv x h2).2.1, by omega, Or.inr ⟨h3, Or.inl ⟨w, v, by omega, by omega, hr, h1, h2⟩⟩⟩
  · exact ⟨mtg_lt hW (rul_lt hW hs hr) h1, by omega, Or.inr ⟨h2, Or.inr (Or.inr ⟨v, hr, h1⟩)⟩⟩
/-- what is reached -/
def Re (tS : Nat → Nat) (lS : Nat) (S : TG) (tD : Nat → Nat) (lD : Nat) (D : TG) (s i : Nat) : Prop := ∀ P : Nat → Nat → Prop, P 0 0 → (∀ s i x c, P s i → Ra tS lS S tD lD D s i x c → P x c) → P s i
theorem Re_0 : Re tS lS S tD lD D 0 0 := fun _ h0 _ => h0
theorem Re_s {s i x c : Nat} (h : Re tS lS S tD lD D s i) (hl : Ra tS lS S tD lD D s i x c) : Re tS lS S tD lD D x c := fun P h0 hs => hs s i x c (h P h0 hs) hl
def P5 (c _k : Nat) : Prop := c = 50
theorem CV_P5 {σ' : Sg} (h : CV tS lS S tD lD D σ) (f : FL P5 σ σ') : CV tS lS S tD lD D σ' := CV_1 h f.1
theorem put_c {s i : Nat} (hs : s < 160) (hi : i < 128) : Rv (wq_Mk_put 49 (nI s) (nI i) σ) (mput 49 σ s i) ∧ FL P5 σ (mput 49 σ s i) ∧ (∀ x c, c < 128 → (hb (mput 49 σ s i) 49 x c = true ↔ hb σ 49 x c = true ∨ (x = s ∧ c = i))) :=
  ⟨fun post hp => (Mk_put_r hs hi σ post).mpr hp, FL_put FL_r (fun _ => rfl), fun x c hc => by rw [hb_put hi hc, Bool.or_eq_true, decide_eq_true_iff]; simp⟩
theorem reIn_c (C : CV tS lS S tD lD D σ) {v i : Nat} (hv : v < S.N) (hi : i < D.N) : ∃ σ', Rv (wq_Pr_reachInside (nI v) (nI i) σ) σ' ∧ FL P5 σ σ' ∧ (∀ x c, c < 128 → (hb σ' 49 x c = true ↔ hb σ 49 x c = true ∨ (S.kd v = 5 ∧ x ∈ S.K v ∧ c = i))) := by
  have T := CC_T C.c
  have hn := C.c.ns
  have hd := C.c.nd
  have hl := len_K C.c.ws hv
  have hkv := C.c.ws.kd v hv
  by_cases k5 : S.kd v = 5
  · obtain ⟨R, hR⟩ : ∃ R : Sg → Prop, R = fun σ' => FL P5 σ σ' ∧ (∀ x c, c < 128 → (hb σ' 49 x c = true ↔ hb σ 49 x c = true ∨ (S.kd v = 5 ∧ x ∈ S.K v ∧ c = i))) := ⟨_, rfl⟩
    have key : ∀ suf pre y (σ1 : Sg), S.K v = pre ++ suf → chB (σ.1 8) y suf → FL P5 σ σ1 → (∀ x c, c < 128 → (hb σ1 49 x c = true ↔ hb σ 49 x c = true ∨ (x ∈ pre ∧ c = i))) → Ex0 (fun post n => wp_Pr_reachInside post n 1 (nI v) (nI i) (nI pre.length) y σ1) R := by
      intro suf
      induction suf with
      | nil =>
        intro pre y σ1 hK _ f1 h41
        rw [List.append_nil] at hK
        have h5 : σ1.1 5 v = nI pre.length := by rw [f1.1, T.mS v hv, hK]
        refine ⟨σ1, by rw [hR, hK]; exact ⟨f1, fun x c hc => by rw [h41 x c hc]; exact ⟨fun q => q.imp_right (fun q => ⟨k5, q⟩), fun q => q.imp_right (fun q => q.2)⟩⟩, fun post hp => ⟨1, ?_⟩⟩
        show wb_Pr_reachInside_1 (wp_Pr_reachInside post 0) post (nI v) (nI i) (nI pre.length) y σ1
        rw [hK] at hl
        simp (disch := omega) only [wb_Pr_reachInside_1, litI, n_le, n_lt, n_eq, n_in, n_cl, nI_add, n_b0, n_b1, n_v0, n_v1, n_m1, n_m1', n_m1l, n_m1l', n_m1g, n_m1ge, si_1, si_2, forall_eq, not_true_eq_false, not_false_eq_true, true_imp_iff, false_imp_iff, true_and, and_true, false_and, and_false, implies_true, ite_true, ite_false, if_true, if_false, Classical.not_not, Nat.reduceEqDiff, reduceIte, Nat.add_left_cancel_iff, Nat.add_eq_left, Nat.left_eq_add, and_self, n_sub, pk_mul, h5, eq_true (show v < 160 by omega), Nat.le_refl]
        exact hp
      | cons a suf ih =>
        intro pre y σ1 hK hB f1 h41
        obtain ⟨hy, hB⟩ := hB
        subst hy
        have ha := C.c.ws.ch v hv a (by rw [hK]; simp)
        have hln : (S.K v).length = pre.length + suf.length + 1 := by rw [hK]; simp; omega
        have h5 : σ1.1 5 v = nI (S.K v).length := by rw [f1.1, T.mS v hv]
        obtain ⟨r1, r2, r4⟩ := put_c (σ := σ1) (s := a) (i := i) (by omega) (by omega)
        have e8 : (mput 49 σ1 a i).1 8 a = σ.1 8 a := by rw [(FL_t f1 r2).1]
        refine Ex0_s (ih (pre ++ [a]) _ (mput 49 σ1 a i) (by rw [hK]; simp) hB (FL_t f1 r2) (fun x c hc => ?_)) (fun post n hn => ⟨n + 1, ?_⟩)
        · rw [r4 x c hc, h41 x c hc]
          simp only [List.mem_append, List.mem_singleton]
          constructor
          · rintro ((q | q) | q)
            · exact Or.inl q
            · exact Or.inr ⟨Or.inl q.1, q.2⟩
            · exact Or.inr ⟨Or.inr q.1, q.2⟩
          · rintro (q | ⟨q | q, q2⟩)
            · exact Or.inl (Or.inl q)
            · exact Or.inl (Or.inr ⟨q, q2⟩)
            · exact Or.inr ⟨q, q2⟩
        · rw [List.length_append] at hn
          show wb_Pr_reachInside_1 (wp_Pr_reachInside post n) post (nI v) (nI i) (nI pre.length) (nI a) σ1
          simp (disch := omega) only [wb_Pr_reachInside_1, litI, n_le, n_lt, n_eq, n_in, n_cl, nI_add, n_b0, n_b1, n_v0, n_v1, n_m1, n_m1', n_m1l, n_m1l', n_m1g, n_m1ge, si_1, si_2, forall_eq, not_true_eq_false, not_false_eq_true, true_imp_iff, false_imp_iff, true_and, and_true, false_and, and_false, implies_true, ite_true, ite_false, if_true, if_false, Classical.not_not, Nat.reduceEqDiff, reduceIte, Nat.add_left_cancel_iff, Nat.add_eq_left, Nat.left_eq_add, and_self, n_sub, pk_mul, h5, eq_true (show v < 160 by omega), eq_false (show ¬ (S.K v).length ≤ pre.length by omega)]
          refine r1 _ ?_
          simp (disch := omega) only [litI, n_le, n_lt, n_eq, n_in, n_cl, nI_add, n_b0, n_b1, n_v0, n_v1, n_m1, n_m1', n_m1l, n_m1l', n_m1g, n_m1ge, si_1, si_2, forall_eq, not_true_eq_false, not_false_eq_true, true_imp_iff, false_imp_iff, true_and, and_true, false_and, and_false, implies_true, ite_true, ite_false, if_true, if_false, Classical.not_not, Nat.reduceEqDiff, reduceIte, Nat.add_left_cancel_iff, Nat.add_eq_left, Nat.left_eq_add, and_self, n_sub, pk_mul, eq_true (show a < 160 by omega), e8]
          exact hn
    obtain ⟨σ', q1, q2⟩ := key (S.K v) [] _ σ rfl (T.cS v hv) FL_r (fun x c _ => by simp)
    rw [hR] at q1
    refine ⟨σ', fun post hp => ?_, q1⟩
    obtain ⟨n, hn⟩ := q2 post hp
    refine ⟨n + 1, ?_⟩
    show wb_Pr_reachInside_0 (wp_Pr_reachInside post n) post (nI v) (nI i) σ
    simp (disch := omega) only [wb_Pr_reachInside_0, litI, n_le, n_lt, n_eq, n_in, n_cl, nI_add, n_b0, n_b1, n_v0, n_v1, n_m1, n_m1', n_m1l, n_m1l', n_m1g, n_m1ge, si_1, si_2, forall_eq, not_true_eq_false, not_false_eq_true, true_imp_iff, false_imp_iff, true_and, and_true, false_and, and_false, implies_true, ite_true, ite_false, if_true, if_false, Classical.not_not, Nat.reduceEqDiff, reduceIte, Nat.add_left_cancel_iff, Nat.add_eq_left, Nat.left_eq_add, and_self, n_sub, pk_mul, T.kS v hv, k5, eq_true (show v < 160 by omega)]
    exact hn
  · refine ⟨σ, fun post hp => ⟨1, ?_⟩, FL_r, fun x c hc => ⟨Or.inl, fun q => q.elim id (fun q => absurd q.1 k5)⟩⟩
    show wb_Pr_reachInside_0 (wp_Pr_reachInside post 0) post (nI v) (nI i) σ
    simp (disch := omega) only [wb_Pr_reachInside_0, litI, n_le, n_lt, n_eq, n_in, n_cl, nI_add, n_b0, n_b1, n_v0, n_v1, n_m1, n_m1', n_m1l, n_m1l', n_m1g, n_m1ge, si_1, si_2, forall_eq, not_true_eq_false, not_false_eq_true, true_imp_iff, false_imp_iff, true_and, and_true, false_and, and_false, implies_true, ite_true, ite_false, if_true, if_false, Classical.not_not, Nat.reduceEqDiff, reduceIte, Nat.add_left_cancel_iff, Nat.add_eq_left, Nat.left_eq_add, and_self, n_sub, pk_mul, T.kS v hv, eq_false k5, eq_true (show v < 160 by omega)]
    exact hp
theorem reFor_c (C : CV tS lS S tD lD D σ) {s v i : Nat} (hs : s < S.N) (hv : v < S.N) (hi : i < D.N) (hw : wrd tS lS S v ≠ 20) : ∃ σ', Rv (wq_Pr_reachForChildren (nI s) (nI v) (nI i) σ) σ' ∧ FL P5 σ σ' ∧ (∀ x c, c < 128 → (hb σ' 49 x c = true ↔ hb σ 49 x c = true ∨ (c ∈ D.K i ∧ nfr tS lS S tD lD D e0 s (wrd tS lS S v) v i c = some x))) := by
  have T := CC_T C.c
  have hn := C.c.ns
  have hd := C.c.nd
  have hl := len_K C.c.wd hi
  obtain ⟨R, hR⟩ : ∃ R : Sg → Prop, R = fun σ' => FL P5 σ σ' ∧ (∀ x c, c < 128 → (hb σ' 49 x c = true ↔ hb σ 49 x c = true ∨ (c ∈ D.K i ∧ nfr tS lS S tD lD D e0 s (wrd tS lS S v) v i c = some x))) := ⟨_, rfl⟩
  have key : ∀ suf pre y (σ1 : Sg), D.K i = pre ++ suf → chB (σ.1 21) y suf → FL P5 σ σ1 → (∀ x c, c < 128 → (hb σ1 49 x c = true ↔ hb σ 49 x c = true ∨ (c ∈ pre ∧ nfr tS lS S tD lD D e0 s (wrd tS lS S v) v i c = some x))) → Ex0 (fun post n => wp_Pr_reachForChildren post n 1 (nI s) (nI v) (nI i) (nI pre.length) y σ1) R := by
    intro suf
    induction suf with
    | nil =>
      intro pre y σ1 hK _ f1 h41
      rw [List.append_nil] at hK
      have h18 : σ1.1 18 i = nI pre.length := by rw [f1.1, T.mD i hi, hK]
      refine ⟨σ1, by rw [hR, hK]; exact ⟨f1, h41⟩, fun post hp => ⟨1, ?_⟩⟩
      show wb_Pr_reachForChildren_1 (wp_Pr_reachForChildren post 0) post (nI s) (nI v) (nI i) (nI pre.length) y σ1
      rw [hK] at hl
      simp (disch := omega) only [wb_Pr_reachForChildren_1, litI, n_le, n_lt, n_eq, n_in, n_cl, nI_add, n_b0, n_b1, n_v0, n_v1, n_m1, n_m1', n_m1l, n_m1l', n_m1g, n_m1ge, si_1, si_2, forall_eq, not_true_eq_false, not_false_eq_true, true_imp_iff, false_imp_iff, true_and, and_true, false_and, and_false, implies_true, ite_true, ite_false, if_true, if_false, Classical.not_not, Nat.reduceEqDiff, reduceIte, Nat.add_left_cancel_iff, Nat.add_eq_left, Nat.left_eq_add, and_self, n_sub, pk_mul, h18, eq_true (show i < 80 by omega), Nat.le_refl]
      exact hp
    | cons a suf ih =>
      intro pre y σ1 hK hB f1 h41
      obtain ⟨hy, hB⟩ := hB
      subst hy
      have haK : a ∈ D.K i := by rw [hK]; simp
      have ha := C.c.wd.ch i hi a haK
      have hln : (D.K i).length = pre.length + suf.length + 1 := by rw [hK]; simp; omega
      have h18 : σ1.1 18 i = nI (D.K i).length := by rw [f1.1, T.mD i hi]
      have C1 := CV_P5 C f1
      have hnf := nodeFor_r C1 hs hv hi haK
      rw [nfr_e hw] at hnf
      cases hq : nfr tS lS S tD lD D e0 s (wrd tS lS S v) v i a with
      | none =>
        rw [hq] at hnf
        have e21 : σ1.1 21 a = σ.1 21 a := by rw [f1.1]
        refine Ex0_s (ih (pre ++ [a]) _ σ1 (by rw [hK]; simp) hB f1 (fun x c hc => ?_)) (fun post n hn => ⟨n + 1, ?_⟩)
        · rw [h41 x c hc]
          simp only [List.mem_append, List.mem_singleton]
          constructor
          · rintro (q | q)
            · exact Or.inl q
            · exact Or.inr ⟨Or.inl q.1, q.2⟩
          · rintro (q | ⟨q | q, q2⟩)
            · exact Or.inl q
            · exact Or.inr ⟨q, q2⟩
            · rw [q, hq] at q2; cases q2
        · rw [List.length_append] at hn
          show wb_Pr_reachForChildren_1 (wp_Pr_reachForChildren post n) post (nI s) (nI v) (nI i) (nI pre.length) (nI a) σ1
          simp (disch := omega) only [wb_Pr_reachForChildren_1, litI, n_le, n_lt, n_eq, n_in, n_cl, nI_add, n_b0, n_b1, n_v0, n_v1, n_m1, n_m1', n_m1l, n_m1l', n_m1g, n_m1ge, si_1, si_2, forall_eq, not_true_eq_false, not_false_eq_true, true_imp_iff, false_imp_iff, true_and, and_true, false_and, and_false, implies_true, ite_true, ite_false, if_true, if_false, Classical.not_not, Nat.reduceEqDiff, reduceIte, Nat.add_left_cancel_iff, Nat.add_eq_left, Nat.left_eq_add, and_self, n_sub, pk_mul, h18, eq_true (show i < 80 by omega), eq_false (show ¬ (D.K i).length ≤ pre.length by omega)]
          refine hnf _ ?_
          simp (disch := omega) only [oI, show (-1 : Int32) = -nI 1 from rfl, litI, n_le, n_lt, n_eq, n_in, n_cl, nI_add, n_b0, n_b1, n_v0, n_v1, n_m1, n_m1', n_m1l, n_m1l', n_m1g, n_m1ge, si_1, si_2, forall_eq, not_true_eq_false, not_false_eq_true, true_imp_iff, false_imp_iff, true_and, and_true, false_and, and_false, implies_true, ite_true, ite_false, if_true, if_false, Classical.not_not, Nat.reduceEqDiff, reduceIte, Nat.add_left_cancel_iff, Nat.add_eq_left, Nat.left_eq_add, and_self, n_sub, pk_mul, eq_true (show a < 80 by omega), e21]
          exact hn
      | some z =>
        have hz := nfr_lt C.c.ws hs hv hq
        rw [hq] at hnf
        obtain ⟨r1, r2, r4⟩ := put_c (σ := σ1) (s := z) (i := a) (by omega) (by omega)
        have e21 : (mput 49 σ1 z a).1 21 a = σ.1 21 a := by rw [(FL_t f1 r2).1]
        refine Ex0_s (ih (pre ++ [a]) _ (mput 49 σ1 z a) (by rw [hK]; simp) hB (FL_t f1 r2) (fun x c hc => ?_)) (fun post n hn => ⟨n + 1, ?_⟩)
        · rw [r4 x c hc, h41 x c hc]
          simp only [List.mem_append, List.mem_singleton]
          constructor
          · rintro ((q | q) | q)
            · exact Or.inl q
            · exact Or.inr ⟨Or.inl q.1, q.2⟩
            · exact Or.inr ⟨Or.inr q.2, by rw [q.2, hq, q.1]⟩
          · rintro (q | ⟨q | q, q2⟩)
            · exact Or.inl (Or.inl q)
            · exact Or.inl (Or.inr ⟨q, q2⟩)
            · rw [q, hq] at q2; injection q2 with q2
              exact Or.inr ⟨q2.symm, q⟩
        · rw [List.length_append] at hn
          show wb_Pr_reachForChildren_1 (wp_Pr_reachForChildren post n) post (nI s) (nI v) (nI i) (nI pre.length) (nI a) σ1
          simp (disch := omega) only [wb_Pr_reachForChildren_1, litI, n_le, n_lt, n_eq, n_in, n_cl, nI_add, n_b0, n_b1, n_v0, n_v1, n_m1, n_m1', n_m1l, n_m1l', n_m1g, n_m1ge, si_1, si_2, forall_eq, not_true_eq_false, not_false_eq_true, true_imp_iff, false_imp_iff, true_and, and_true, false_and, and_false, implies_true, ite_true, ite_false, if_true, if_false, Classical.not_not, Nat.reduceEqDiff, reduceIte, Nat.add_left_cancel_iff, Nat.add_eq_left, Nat.left_eq_add, and_self, n_sub, pk_mul, h18, eq_true (show i < 80 by omega), eq_false (show ¬ (D.K i).length ≤ pre.length by omega)]
          refine hnf _ ?_
          simp (disch := omega) only [oI, show (-1 : Int32) = -nI 1 from rfl, litI, n_le, n_lt, n_eq, n_in, n_cl, nI_add, n_b0, n_b1, n_v0, n_v1, n_m1, n_m1', n_m1l, n_m1l', n_m1g, n_m1ge, si_1, si_2, forall_eq, not_true_eq_false, not_false_eq_true, true_imp_iff, false_imp_iff, true_and, and_true, false_and, and_false, implies_true, ite_true, ite_false, if_true, if_false, Classical.not_not, Nat.reduceEqDiff, reduceIte, Nat.add_left_cancel_iff, Nat.add_eq_left, Nat.left_eq_add, and_self, n_sub, pk_mul]
          refine r1 _ ?_
          simp (disch := omega) only [litI, n_le, n_lt, n_eq, n_in, n_cl, nI_add, n_b0, n_b1, n_v0, n_v1, n_m1, n_m1', n_m1l, n_m1l', n_m1g, n_m1ge, si_1, si_2, forall_eq, not_true_eq_false, not_false_eq_true, true_imp_iff, false_imp_iff, true_and, and_true, false_and, and_false, implies_true, ite_true, ite_false, if_true, if_false, Classical.not_not, Nat.reduceEqDiff, reduceIte, Nat.add_left_cancel_iff, Nat.add_eq_left, Nat.left_eq_add, and_self, n_sub, pk_mul, eq_true (show a < 80 by omega), e21]
          exact hn
  obtain ⟨σ', q1, q2⟩ := key (D.K i) [] _ σ rfl (T.cD i hi) FL_r (fun x c _ => by simp)
  rw [hR] at q1
  refine ⟨σ', fun post hp => ?_, q1⟩
  obtain ⟨n, hn⟩ := q2 post hp
  refine ⟨n + 1, ?_⟩
  show wb_Pr_reachForChildren_0 (wp_Pr_reachForChildren post n) post (nI s) (nI v) (nI i) σ
  simp only [wb_Pr_reachForChildren_0, litI, n_le, n_lt, n_eq, n_in, n_cl, nI_add, n_b0, n_b1, n_v0, n_v1, n_m1, n_m1', n_m1l, n_m1l', n_m1g, n_m1ge, si_1, si_2, forall_eq, not_true_eq_false, not_false_eq_true, true_imp_iff, false_imp_iff, true_and, and_true, false_and, and_false, implies_true, ite_true, ite_false, if_true, if_false, Classical.not_not, Nat.reduceEqDiff, reduceIte, Nat.add_left_cancel_iff, Nat.add_eq_left, Nat.left_eq_add, and_self, n_sub, pk_mul]
  exact hn
theorem reFrom_c (C : CV tS lS S tD lD D σ) {s i : Nat} (hs : s < S.N) (h6 : S.kd s = 6) (hi : i < D.N) : ∃ σ', Rv (wq_Pr_reachFrom (nI s) (nI i) σ) σ' ∧ FL P5 σ σ' ∧ (∀ x c, c < 128 → (hb σ' 49 x c = true ↔ hb σ 49 x c = true ∨ Ra tS lS S tD lD D s i x c)) := by
  have T := CC_T C.c
  have hn := C.c.ns
  have hd := C.c.nd
  have hW := C.c.ws
  have hl := len_K hW hs
  obtain ⟨R, hR⟩ : ∃ R : Sg → Prop, R = fun σ' => FL P5 σ σ' ∧ (∀ x c, c < 128 → (hb σ' 49 x c = true ↔ hb σ 49 x c = true ∨ Ra tS lS S tD lD D s i x c)) := ⟨_, rfl⟩
  have key : ∀ suf pre y (σ1 : Sg), S.K s = pre ++ suf → chB (σ.1 8) y suf → FL P5 σ σ1 → (∀ x c, c < 128 → (hb σ1 49 x c = true ↔ hb σ 49 x c = true ∨ ∃ v ∈ pre, Rav tS lS S tD lD D s i v x c)) → Ex0 (fun post n => wp_Pr_reachFrom post n 1 (nI s) (nI i) (nI pre.length) y σ1) R := by
    intro suf
    induction suf with
    | nil =>
      intro pre y σ1 hK _ f1 h41
      rw [List.append_nil] at hK
      have h5 : σ1.1 5 s = nI pre.length := by rw [f1.1, T.mS s hs, hK]
      refine ⟨σ1, by rw [hR]; exact ⟨f1, fun x c hc => by rw [h41 x c hc, Ra_v hW hs h6, hK]⟩, fun post hp => ⟨1, ?_⟩⟩
      show wb_Pr_reachFrom_1 (wp_Pr_reachFrom post 0) post (nI s) (nI i) (nI pre.length) y σ1
      rw [hK] at hl
      unfold wb_Pr_reachFrom_1
      rw [n_in (by omega), n_cl (by omega), h5]
      exact ⟨by omega, fun _ => hp, fun z => absurd ((n_le (by omega) (by omega)).mpr (Nat.le_refl _)) z⟩
    | cons v suf ih =>
      intro pre y σ1 hK hB f1 h41
      obtain ⟨hy, hB⟩ := hB
      subst hy
      have hvK : v ∈ S.K s := by rw [hK]; simp
      have hv := hW.ch s hs v hvK
      have hvN := hv.2.1
      have hln : (S.K s).length = pre.length + suf.length + 1 := by rw [hK]; simp; omega
      have h5 : σ1.1 5 s = nI (S.K s).length := by rw [f1.1, T.mS s hs]
      have C1 := CV_P5 C f1
      have h30 : σ1.1 30 v = nI (wrd tS lS S v) := C1.p.w v hvN
      have h31 : σ1.1 31 v = oI (tgt tS lS S v) := C1.p.t v hvN
      have hwl : wrd tS lS S v ≤ 21 := wrd_le
      -- one round
      have stp : ∀ (post : Sg → Prop) n, ((wrd tS lS S v = 12 ∨ wrd tS lS S v = 13 ∨ wrd tS lS S v = 14) → wq_Pr_reachForChildren (nI s) (nI v) (nI i) σ1 (fun σ2 => wp_Pr_reachFrom post n 1 (nI s) (nI i) (nI pre.length + 1) (σ2.1 8 v) σ2)) →
          ((wrd tS lS S v = 15 ∨ wrd tS lS S v = 16 ∨ wrd tS lS S v = 17) → wq_Pr_reachInside (nI v) (nI i) σ1 (fun σ2 => wp_Pr_reachFrom post n 1 (nI s) (nI i) (nI pre.length + 1) (σ2.1 8 v) σ2)) →
          ((¬ (12 ≤ wrd tS lS S v ∧ wrd tS lS S v ≤ 17) ∧ ¬ wrd tS lS S v = 19) → wp_Pr_reachFrom post n 1 (nI s) (nI i) (nI pre.length + 1) (σ1.1 8 v) σ1) →
          (wrd tS lS S v = 19 → tgt tS lS S v = none → wp_Pr_reachFrom post n 1 (nI s) (nI i) (nI pre.length + 1) (σ1.1 8 v) σ1) →
          (wrd tS lS S v = 19 → ∀ x, tgt tS lS S v = some x → wq_Mk_put 49 (nI x) (nI i) σ1 (fun σ2 => wp_Pr_reachFrom post n 1 (nI s) (nI i) (nI pre.length + 1) (σ2.1 8 v) σ2)) →
          wp_Pr_reachFrom post (n + 1) 1 (nI s) (nI i) (nI pre.length) (nI v) σ1 := by
        intro post n hA hB2 hD hT0 hT1
        show wb_Pr_reachFrom_1 (wp_Pr_reachFrom post n) post (nI s) (nI i) (nI pre.length) (nI v) σ1
        unfold wb_Pr_reachFrom_1
        have vin : vp_in (nI v) 160 := (n_in (by omega)).mpr (by omega)
        have vcl : (nI v).toNatClampNeg = v := n_cl (by omega)
        have scl : (nI s).toNatClampNeg = s := n_cl (by omega)
        rw [vcl, scl, h5, h30, h31]
        have e : ∀ k, k < 100 → nI (wrd tS lS S v) = nI k → wrd tS lS S v = k := fun k hk z => (n_eq (by omega) (by omega)).mp z
        have ne : ∀ k, k < 100 → ¬ nI (wrd tS lS S v) = nI k → ¬ wrd tS lS S v = k := fun k hk z y => z (by rw [y])
        refine ⟨(n_in (by omega)).mpr (by omega), fun z => absurd ((n_le (by omega) (by omega)).mp z) (by omega), fun _ => ⟨vin, ?_, ?_, ?_, ?_, ?_, ?_, ?_, ?_, ?_⟩⟩
        · intro z; have := e 12 (by omega) z
          simp only [vin, true_and]; exact hA (by omega)
        · intro z; have := e 13 (by omega) z
          simp only [vin, true_and]; exact hA (by omega)
        · intro z; have := e 14 (by omega) z
          simp only [vin, true_and]; exact hA (by omega)
        · intro z; have := e 15 (by omega) z
          simp only [vin, true_and]; exact hB2 (by omega)
        · intro z; have := e 16 (by omega) z
          simp only [vin, true_and]; exact hB2 (by omega)
        · intro z; have := e 17 (by omega) z
          simp only [vin, true_and]; exact hB2 (by omega)
        · intro z; have := e 18 (by omega) z
          exact ⟨vin, hD (by omega)⟩
        · intro z; have h19 := e 19 (by omega) z
          cases ht : tgt tS lS S v with
          | none => exact ⟨vin, fun _ => ⟨vin, hT0 h19 ht⟩, fun y => absurd rfl y⟩
          | some x =>
            have hx := tgt_lt hW hvN ht
            refine ⟨vin, fun y => absurd ((n_m1 (by omega)).mp y) id, fun _ => ⟨vin, ?_⟩⟩
            simp only [vin, true_and]; exact hT1 h19 x ht
        · intro z
          have z12 := ne 12 (by omega) z.1
          have z13 := ne 13 (by omega) z.2.1
          have z14 := ne 14 (by omega) z.2.2.1
          have z15 := ne 15 (by omega) z.2.2.2.1
          have z16 := ne 16 (by omega) z.2.2.2.2.1
          have z17 := ne 17 (by omega) z.2.2.2.2.2.1
          have z19 := ne 19 (by omega) z.2.2.2.2.2.2.2
          exact ⟨vin, hD (by omega)⟩
      -- what the child does
      obtain ⟨σ2, f2, g2, st⟩ : ∃ σ2, FL P5 σ1 σ2 ∧ (∀ x c, c < 128 → (hb σ2 49 x c = true ↔ hb σ1 49 x c = true ∨ Rav tS lS S tD lD D s i v x c)) ∧ ∀ (post : Sg → Prop) n, wp_Pr_reachFrom post n 1 (nI s) (nI i) (nI pre.length + 1) (σ2.1 8 v) σ2 → wp_Pr_reachFrom post (n + 1) 1 (nI s) (nI i) (nI pre.length) (nI v) σ1 := by
        by_cases w1 : wrd tS lS S v = 12 ∨ wrd tS lS S v = 13 ∨ wrd tS lS S v = 14
        · obtain ⟨σ2, r1, r2, r3⟩ := reFor_c C1 hs hvN hi (by omega)
          refine ⟨σ2, r2, fun x c hc => ?_, fun post n hn1 => stp post n (fun _ => r1 _ hn1) (fun z => by omega) (fun z => by omega) (fun z => by omega) (fun z => by omega)⟩
          rw [r3 x c hc]
          refine ⟨fun q => q.imp_right (fun q => Or.inl ⟨w1, q⟩), fun q => q.imp_right (fun q => ?_)⟩
          rcases q with q | q | q
          · exact q.2
          · omega
          · omega
        · by_cases w2 : wrd tS lS S v = 15 ∨ wrd tS lS S v = 16 ∨ wrd tS lS S v = 17
          · obtain ⟨σ2, r1, r2, r3⟩ := reIn_c C1 hvN hi
            refine ⟨σ2, r2, fun x c hc => ?_, fun post n hn1 => stp post n (fun z => by omega) (fun _ => r1 _ hn1) (fun z => by omega) (fun z => by omega) (fun z => by omega)⟩
            rw [r3 x c hc]
            refine ⟨fun q => q.imp_right (fun q => Or.inr (Or.inl ⟨w2, q⟩)), fun q => q.imp_right (fun q => ?_)⟩
            rcases q with q | q | q
            · omega
            · exact q.2
            · omega
          · by_cases w3 : wrd tS lS S v = 19 ∧ ∃ x, mtg tS lS S v = some x
            · obtain ⟨h19, x0, hx0⟩ := w3
              have ht : tgt tS lS S v = some x0 := by unfold tgt; rw [if_pos h19]; exact hx0
              have hx := tgt_lt hW hvN ht
              obtain ⟨r1, r2, r4⟩ := put_c (σ := σ1) (s := x0) (i := i) (by omega) (by omega)
              refine ⟨mput 49 σ1 x0 i, r2, fun x c hc => ?_, fun post n hn1 => stp post n (fun z => by omega) (fun z => by omega) (fun z => by omega) (fun _ z => by rw [ht] at z; cases z) (fun _ x z => by rw [ht] at z; injection z with z; subst z; exact r1 _ hn1)⟩
              rw [r4 x c hc]
              refine ⟨fun q => q.imp_right (fun q => Or.inr (Or.inr ⟨h19, by rw [q.1]; exact hx0, q.2⟩)), fun q => q.imp_right (fun q => ?_)⟩
              rcases q with q | q | q
              · omega
              · omega
              · have e := q.2.1; rw [hx0] at e; injection e with e; exact ⟨e.symm, q.2.2⟩
            · have ht : wrd tS lS S v = 19 → tgt tS lS S v = none := fun h => by
                unfold tgt; rw [if_pos h]
                cases hx : mtg tS lS S v with
                | none => rfl
                | some x => exact absurd ⟨h, x, hx⟩ w3
              refine ⟨σ1, FL_r, fun x c hc => ⟨Or.inl, fun q => q.elim id (fun q => ?_)⟩, fun post n hn1 => stp post n (fun z => by omega) (fun z => by omega) (fun _ => hn1) (fun _ _ => hn1) (fun z x y => by rw [ht z] at y; cases y)⟩
              rcases q with q | q | q
              · omega
              · omega
              · exact absurd ⟨q.1, x, q.2.1⟩ w3
      have e8 : σ2.1 8 v = σ.1 8 v := by rw [(FL_t f1 f2).1]
      rw [e8] at st
      refine Ex0_s (ih (pre ++ [v]) _ σ2 (by rw [hK]; simp) hB (FL_t f1 f2) (fun x c hc => ?_)) (fun post n hn1 => ⟨n + 1, st post n ?_⟩)
      · rw [g2 x c hc, h41 x c hc]
        simp only [List.mem_append, List.mem_singleton]
        constructor
        · rintro ((q | ⟨u, q1, q2⟩) | q)
          · exact Or.inl q
          · exact Or.inr ⟨u, Or.inl q1, q2⟩
          · exact Or.inr ⟨v, Or.inr rfl, q⟩
        · rintro (q | ⟨u, q1 | q1, q2⟩)
          · exact Or.inl (Or.inl q)
          · exact Or.inl (Or.inr ⟨u, q1, q2⟩)
          · subst q1; exact Or.inr q2
      · rw [List.length_append] at hn1
        rw [show (1 : Int32) = nI 1 from rfl, nI_add]
        exact hn1
  obtain ⟨σ', q1, q2⟩ := key (S.K s) [] _ σ rfl (T.cS s hs) FL_r (fun x c _ => by simp)
  rw [hR] at q1
  refine ⟨σ', fun post hp => ?_, q1⟩
  obtain ⟨n, hn⟩ := q2 post hp
  refine ⟨n + 1, ?_⟩
  show wb_Pr_reachFrom_0 (wp_Pr_reachFrom post n) post (nI s) (nI i) σ
  simp only [wb_Pr_reachFrom_0, litI, n_le, n_lt, n_eq, n_in, n_cl, nI_add, n_b0, n_b1, n_v0, n_v1, n_m1, n_m1', n_m1l, n_m1l', n_m1g, n_m1ge, si_1, si_2, forall_eq, not_true_eq_false, not_false_eq_true, true_imp_iff, false_imp_iff, true_and, and_true, false_and, and_false, implies_true, ite_true, ite_false, if_true, if_false, Classical.not_not, Nat.reduceEqDiff, reduceIte, Nat.add_left_cancel_iff, Nat.add_eq_left, Nat.left_eq_add, and_self, n_sub, pk_mul]
  exact hn
/-- all that is reached, up to the row -/
theorem reAll_c (C : CV tS lS S tD lD D σ) {Lc : List Nat} (P : PF tS lS S σ Lc) (hc : allC S Lc = true) (h0 : 0 < S.N) {last : Nat} (hl : last < D.N) : ∃ σ', Rv (wq_Pr_reachAll (nI last) σ) σ' ∧ FL P5 σ σ' ∧ (∀ s, s < S.N → (hb σ' 49 s last = true ↔ Re tS lS S tD lD D s last)) := by
  have hn := C.c.ns
  have hd := C.c.nd
  have hW := C.c.ws
  have hWD := C.c.wd
  have hll := OL_len P.l
  have hin : ∀ s, s < S.N → S.kd s = 6 → s ∈ Lc := fun s hs h6 => by
    rcases of_decide_eq_true (List.all_eq_true.mp hc s (List.mem_range.mpr hs)) with z | z
    · exact absurd h6 z
    · exact z
  obtain ⟨R, hR⟩ : ∃ R : Sg → Prop, R = fun σ' => FL P5 σ σ' ∧ (∀ s, s < S.N → (hb σ' 49 s last = true ↔ Re tS lS S tD lD D s last)) := ⟨_, rfl⟩
  let I := fun (Pz : Nat → Nat → Prop) (σ1 : Sg) => FL P5 σ σ1 ∧ (∀ x c, x < S.N → c < D.N → hb σ1 49 x c = true → Re tS lS S tD lD D x c) ∧ hb σ1 49 0 0 = true ∧ (∀ s j, s < S.N → j < D.N → S.kd s = 6 → Pz s j → hb σ1 49 s j = true → ∀ x c, Ra tS lS S tD lD D s j x c → hb σ1 49 x c = true)
  have loop : ∀ d i (σ1 : Sg) (x3 : Int32), i + d = last + 1 → I (fun s j => j < i) σ1 → Ex0 (fun post n => wp_Pr_reachAll post n 1 (nI last) (nI i) x3 σ1) R := by
    intro d
    induction d with
    | zero =>
      intro i σ1 x3 hi q
      obtain ⟨qf, qa, qb, qc⟩ := q
      have m1 : ∀ s i, Re tS lS S tD lD D s i → s < S.N ∧ i < D.N ∧ (i ≤ last → hb σ1 49 s i = true) := fun s i hr => by
        refine hr (fun s i => s < S.N ∧ i < D.N ∧ (i ≤ last → hb σ1 49 s i = true)) ⟨h0, by omega, fun _ => qb⟩ (fun s i x c hp hl2 => ?_)
        have hk := Ra_ok hW hWD hp.1 hp.2.1 hl2
        exact ⟨hk.1, hk.2.1, fun hcl => qc s i hp.1 hp.2.1 hl2.1 (by show i < _; omega) (hp.2.2 (by omega)) x c hl2⟩
      refine ⟨σ1, by rw [hR]; exact ⟨qf, fun s hs => ⟨qa s last hs hl, fun z => (m1 s last z).2.2 (Nat.le_refl _)⟩⟩, fun post hp => ⟨1, ?_⟩⟩
      show wb_Pr_reachAll_1 (wp_Pr_reachAll post 0) post (nI last) (nI i) σ1
      exact ⟨fun _ => hp, fun z => absurd ((n_lt (by omega) (by omega)).mpr (by omega)) z⟩
    | succ d ih =>
      intro i σ1 x3 hi q
      have inner : ∀ m (σ1 : Sg), m ≤ Lc.length → I (fun s j => j < i ∨ (j = i ∧ s ∈ Lc.drop m)) σ1 → Ex0 (fun post n => wp_Pr_reachAll post n 2 (nI last) (nI i) (nI m - nI 1) σ1) R := by
        intro m
        induction m with
        | zero =>
          intro σ1 hm q
          obtain ⟨qf, qa, qb, qc⟩ := q
          refine Ex0_s (ih (i + 1) σ1 0 (by omega) ⟨qf, qa, qb, fun s j hs hj h6 hp => qc s j hs hj h6 (by
            rcases Nat.eq_or_lt_of_le (Nat.lt_succ_iff.mp hp) with e | e
            · exact Or.inr ⟨e, hin s hs h6⟩
            · exact Or.inl e)⟩) (fun post n hn1 => ⟨n + 1, ?_⟩)
          show wb_Pr_reachAll_2 (wp_Pr_reachAll post n) post (nI last) (nI i) (nI 0 - nI 1) σ1
          unfold wb_Pr_reachAll_2
          refine ⟨fun _ => ?_, fun z => absurd (by decide +kernel) z⟩
          rw [show (1 : Int32) = nI 1 from rfl, nI_add]
          exact hn1
        | succ m ihm =>
          intro σ1 hm q
          obtain ⟨qf, qa, qb, qc⟩ := q
          have C1 := CV_P5 C qf
          have hsp : Lc = Lc.take m ++ Lc.getD m 0 :: Lc.drop (m + 1) := by
            rw [List.getD_eq_getElem?_getD, List.getElem?_eq_getElem hm]
            simp
          obtain ⟨s0, hs0⟩ : ∃ s, s = Lc.getD m 0 := ⟨_, rfl⟩
          rw [← hs0] at hsp
          have hmem : s0 ∈ Lc := by rw [hsp]; simp
          have hsN := (P.l.lt s0 hmem).1
          have h6 : S.kd s0 = 6 := (P.l.lt s0 hmem).2
          have hiN : i < D.N := by omega
          have hdr : Lc.drop m = s0 :: Lc.drop (m + 1) := by
            rw [hs0, List.getD_eq_getElem?_getD, List.getElem?_eq_getElem hm]
            exact List.drop_eq_getElem_cons hm
          have hnd : ∀ x, x ∈ Lc.take m → x ∉ Lc.drop m := by
            have := P.l.nd
            rw [hsp] at this
            have := List.nodup_append.mp this
            intro x hx hy
            rw [hdr] at hy
            exact this.2.2 x hx x hy rfl
          have ee : nI (m + 1) - nI 1 = nI m := by rw [pk_sub (by omega)]; rfl
          have e2 : ∀ m, nI m + (-1) = nI m - nI 1 := fun m => by rw [Int32.sub_eq_add_neg]; rfl
          have pz : ∀ s j, (j < i ∨ (j = i ∧ s ∈ Lc.drop m)) → ((j < i ∨ (j = i ∧ s ∈ Lc.drop (m + 1))) ∨ (s = s0 ∧ j = i)) := fun s j => by
            rw [hdr, List.mem_cons]
            rintro (z | ⟨z, y | y⟩)
            · exact Or.inl (Or.inl z)
            · exact Or.inr ⟨y, z⟩
            · exact Or.inl (Or.inr ⟨z, y⟩)
          have h33 : σ1.1 33 m = nI s0 := by rw [qf.1, P.o m hm, hs0]
          rw [ee]
          cases hk : hb σ1 49 s0 i with
          | false =>
            refine Ex0_s (ihm σ1 (by omega) ⟨qf, qa, qb, fun s j hs hj k6 hp z => ?_⟩) (fun post n hn1 => ⟨n + 1, ?_⟩)
            · rcases pz s j hp with y | ⟨y1, y2⟩
              · exact qc s j hs hj k6 y z
              · rw [y1, y2, hk] at z; cases z
            · show wb_Pr_reachAll_2 (wp_Pr_reachAll post n) post (nI last) (nI i) (nI m) σ1
              unfold wb_Pr_reachAll_2
              refine ⟨fun z => absurd ((n_lt (b := 0) (by omega) (by omega)).mp z) (by omega), fun _ => ⟨(n_in (by omega)).mpr (by omega), ?_⟩⟩
              rw [n_cl (by omega), h33, Mk_has_r (by omega) (by omega), e2, hk]
              exact ⟨fun _ => hn1, fun z => absurd rfl z⟩
          | true =>
            obtain ⟨σ2, r1, r2, r3⟩ := reFrom_c C1 hsN h6 hiN
            refine Ex0_s (ihm σ2 (by omega) ⟨FL_t qf r2, fun x c hx hc2 z => ?_, (r3 0 0 (by omega)).mpr (Or.inl qb), fun s j hs hj k6 hp z x c hl2 => ?_⟩) (fun post n hn1 => ⟨n + 1, ?_⟩)
            · rcases (r3 x c (by omega)).mp z with y | y
              · exact qa x c hx hc2 y
              · exact Re_s (qa s0 i hsN hiN hk) y
            · have hok := Ra_ok hW hWD hs hj hl2
              rcases (r3 s j (by omega)).mp z with y | y
              · rcases pz s j hp with hp | hp
                · exact (r3 x c (by omega)).mpr (Or.inl (qc s j hs hj k6 hp y x c hl2))
                · rw [hp.1, hp.2] at hl2
                  exact (r3 x c (by omega)).mpr (Or.inr hl2)
              · exfalso
                rcases (Ra_ok hW hWD hsN hiN y).2.2 with u | ⟨u, u2⟩
                · omega
                · rcases P.l.tp (Lc.take m) s0 (Lc.drop (m + 1)) hsp s u2 with t | t
                  · exact t k6
                  · rcases hp with hp | ⟨_, hp⟩
                    · omega
                    · exact hnd s t hp
            · show wb_Pr_reachAll_2 (wp_Pr_reachAll post n) post (nI last) (nI i) (nI m) σ1
              unfold wb_Pr_reachAll_2
              refine ⟨fun z => absurd ((n_lt (b := 0) (by omega) (by omega)).mp z) (by omega), fun _ => ⟨(n_in (by omega)).mpr (by omega), ?_⟩⟩
              rw [n_cl (by omega), h33, Mk_has_r (by omega) (by omega), e2, hk]
              refine ⟨fun z => absurd z (by decide +kernel), fun _ => ⟨(n_in (by omega)).mpr (by omega), ?_⟩⟩
              rw [h33]
              exact r1 _ hn1
      refine Ex0_s (inner Lc.length σ1 (Nat.le_refl _) (by
        obtain ⟨qf, qa, qb, qc⟩ := q
        refine ⟨qf, qa, qb, fun s j hs hj k6 hp => qc s j hs hj k6 ?_⟩
        rw [List.drop_length] at hp; simpa using hp)) (fun post n hn1 => ⟨n + 1, ?_⟩)
      show wb_Pr_reachAll_1 (wp_Pr_reachAll post n) post (nI last) (nI i) σ1
      unfold wb_Pr_reachAll_1
      rw [q.1.1, P.n]
      exact ⟨fun z => absurd ((n_lt (by omega) (by omega)).mp z) (by omega), fun _ => hn1⟩
  obtain ⟨σa, a1, a2, a3, a4, a5⟩ := Mk_clear_r 49 σ
  have fa : FL P5 σ σa := ⟨a2, a3, fun c k hp => a4 c k hp⟩
  obtain ⟨r1, r2, r4⟩ := put_c (σ := σa) (s := 0) (i := 0) (by omega) (by omega)
  obtain ⟨σ', q1, q2⟩ := loop (last + 1) 0 (mput 49 σa 0 0) 0 (by omega) ⟨FL_t fa r2, fun x c hx hc2 z => by
    rcases (r4 x c (by omega)).mp z with y | ⟨y1, y2⟩
    · rw [a5 x c (by omega) (by omega)] at y; cases y
    · subst y1; subst y2; exact Re_0, (r4 0 0 (by omega)).mpr (Or.inr ⟨rfl, rfl⟩), fun s j _ _ _ hp => absurd hp (by show ¬ j < 0; omega)⟩
  rw [hR] at q1
  refine ⟨σ', fun post hp => ?_, q1⟩
  obtain ⟨n, hn1⟩ := q2 post hp
  refine ⟨n + 1, ?_⟩
  show wb_Pr_reachAll_0 (wp_Pr_reachAll post n) post (nI last) σ
  unfold wb_Pr_reachAll_0
  exact a1 _ (r1 _ hn1)
end RE
