section RM
variable {tS : Nat → Nat} {lS : Nat} {S : TG} {tD : Nat → Nat} {lD : Nat} {D : TG} {L : List Nat} {σ : Sg}
theorem hP55 : ∀ k, ¬ Pk 55 k := fun k => by unfold Pk; omega
/-- the verdicts of the reference, at i -/
abbrev MVd (tS : Nat → Nat) (lS : Nat) (S : TG) (tD : Nat → Nat) (lD : Nat) (D : TG) (L : List Nat) (σ : Sg) (i : Nat) : Prop := (MC tS lS S tD lD D L σ) ∧ (∀ a j, a < S.N → j < D.N → bt σ 80 a j = EQ tS lS S tD lD D a j) ∧ (∀ s j, s < S.N → j < D.N → bt σ 82 s j = HH tS lS S tD lD D s j) ∧ (∀ s, s < S.N → ∀ c, c < 80 → bt σ 86 s c = EP tS lS S tD lD D s i c)
theorem MVd.m {tS : Nat → Nat} {lS : Nat} {S : TG} {tD : Nat → Nat} {lD : Nat} {D : TG} {L : List Nat} {σ : Sg} {i : Nat} (hX : MVd tS lS S tD lD D L σ i) : MC tS lS S tD lD D L σ := hX.1
theorem MVd.e {tS : Nat → Nat} {lS : Nat} {S : TG} {tD : Nat → Nat} {lD : Nat} {D : TG} {L : List Nat} {σ : Sg} {i : Nat} (hX : MVd tS lS S tD lD D L σ i) : ∀ a j, a < S.N → j < D.N → bt σ 80 a j = EQ tS lS S tD lD D a j := hX.2.1
theorem MVd.h {tS : Nat → Nat} {lS : Nat} {S : TG} {tD : Nat → Nat} {lD : Nat} {D : TG} {L : List Nat} {σ : Sg} {i : Nat} (hX : MVd tS lS S tD lD D L σ i) : ∀ s j, s < S.N → j < D.N → bt σ 82 s j = HH tS lS S tD lD D s j := hX.2.2.1
theorem MVd.p {tS : Nat → Nat} {lS : Nat} {S : TG} {tD : Nat → Nat} {lD : Nat} {D : TG} {L : List Nat} {σ : Sg} {i : Nat} (hX : MVd tS lS S tD lD D L σ i) : ∀ s, s < S.N → ∀ c, c < 80 → bt σ 86 s c = EP tS lS S tD lD D s i c := hX.2.2.2
theorem MVd_J {P : Nat → Nat → Prop} {σ' : Sg} {i : Nat} (h : MVd tS lS S tD lD D L σ i) (f : FJ P σ σ') (hP : ∀ c k, P c k → Pk c k) : MVd tS lS S tD lD D L σ' i := by
  have o : ∀ c k, c = 80 ∨ c = 81 ∨ c = 82 ∨ c = 83 ∨ c = 86 ∨ c = 87 → σ'.2.1 c k = σ.2.1 c k := fun c k hc => f.d c k (fun q => by have := hP c k q; unfold Pk at this; omega)
  exact ⟨MC_J h.m f (fun k q => hP55 k (hP 55 k q)), fun a j ha hj => by rw [bt_o (o 80 a (by omega)) (o 81 a (by omega))]; exact h.e a j ha hj, fun a j ha hj => by rw [bt_o (o 82 a (by omega)) (o 83 a (by omega))]; exact h.h a j ha hj, fun a ha c hc => by rw [bt_o (o 86 a (by omega)) (o 87 a (by omega))]; exact h.p a ha c hc⟩
theorem repAll_m {i : Nat} (V : MVd tS lS S tD lD D L σ i) {v j : Nat} (hv : v < S.N) (hj : j < D.N) : ∃ σ', Rv (wq_Md_reportAll (nI v) (nI (160 + j)) σ) σ' ∧ FL Pk σ σ' ∧ (∀ x c, c < 80 → (bt σ' 84 x c = true ↔ bt σ 84 x c = true ∨ (x ∈ S.K v ∧ c = j ∧ HH tS lS S tD lD D x j = false))) := by
  have T := MC_T V.m
  have hn := V.m.ns
  have hd := V.m.nd
  obtain ⟨R, hR⟩ : ∃ R : Sg → Prop, R = fun σ' => FL Pk σ σ' ∧ (∀ x c, c < 80 → (bt σ' 84 x c = true ↔ bt σ 84 x c = true ∨ (x ∈ S.K v ∧ c = j ∧ HH tS lS S tD lD D x j = false))) := ⟨_, rfl⟩
  have key : ∀ suf pre y (σ1 : Sg), S.K v = pre ++ suf → chM 0 (σ.1 66) y suf → FL Pk σ σ1 → (∀ x c, c < 80 → (bt σ1 84 x c = true ↔ bt σ 84 x c = true ∨ (x ∈ pre ∧ c = j ∧ HH tS lS S tD lD D x j = false))) → Ex0 (fun post n => wp_Md_reportAll post n 1 0 (nI (160 + j)) y σ1) R := by
    intro suf
    induction suf with
    | nil =>
      intro pre y σ1 hK hB f hm
      have hB : y = -nI 1 := hB
      subst hB
      rw [List.append_nil] at hK
      refine ⟨σ1, by rw [hR]; exact ⟨f, by rw [hK]; exact hm⟩, fun post hp => ⟨1, ?_⟩⟩
      show wb_Md_reportAll_1 (wp_Md_reportAll post 0) post (nI (160 + j)) (-nI 1) σ1
      simp (disch := omega) only [wb_Md_reportAll_1, litI, hm0, litI, n_le, n_lt, n_eq, n_in, n_cl, nI_add, n_b0, n_b1, n_v0, n_v1, n_m1, n_m1', n_m1l, n_m1l', n_m1g, n_m1ge, si_1, si_2, forall_eq, not_true_eq_false, not_false_eq_true, true_imp_iff, false_imp_iff, true_and, and_true, false_and, and_false, implies_true, ite_true, ite_false, if_true, if_false, Classical.not_not, Nat.reduceEqDiff, reduceIte, Nat.add_left_cancel_iff, Nat.add_eq_left, Nat.left_eq_add, and_self, n_sub, pk_mul]
      exact hp
    | cons x suf ih =>
      intro pre y σ1 hK hB f hm
      obtain ⟨hx, hB⟩ := hB
      rw [show 160 * 0 + x = x by omega] at hx hB
      subst hx
      have hxK : x ∈ S.K v := by rw [hK]; simp
      have hxN := (V.m.ws.ch v hv x hxK).2.1
      have V1 := MVd_J V (FJ_L f) (fun c k h => h)
      have hK2 : S.K v = (pre ++ [x]) ++ suf := by rw [hK]; simp
      cases hq : HH tS lS S tD lD D x j with
      | true =>
        refine Ex0_s (ih (pre ++ [x]) _ σ1 hK2 hB f (fun z c hc => ?_)) (fun post n hn1 => ⟨n + 1, ?_⟩)
        · rw [hm z c hc]
          simp only [List.mem_append, List.mem_singleton]
          constructor
          · rintro (q | ⟨q, q2⟩)
            · exact Or.inl q
            · exact Or.inr ⟨Or.inl q, q2⟩
          · rintro (q | ⟨q | q, q2, q3⟩)
            · exact Or.inl q
            · exact Or.inr ⟨q, q2, q3⟩
            · rw [q, hq] at q3; cases q3
        · show wb_Md_reportAll_1 (wp_Md_reportAll post n) post (nI (160 + j)) (nI x) σ1
          have h82 := V1.h x j hxN hj
          rw [hq] at h82
          rw [← f.1] at hn1
          simp (disch := omega) only [wb_Md_reportAll_1, litI, n_lt, eq_false (show ¬ x < 0 by omega), Md_isSo_r (show j < 80 by omega) (show x < 160 by omega), h82, nB_0, n_in, n_cl, eq_true (show x < 240 by omega), Bool.true_eq_false, not_false_eq_true, false_imp_iff, true_imp_iff, true_and, and_true]
          exact hn1
      | false =>
        obtain ⟨σ2, m1, m2, m3⟩ := mark_m (σ := σ1) (s := x) (i := j) (by omega) (by omega)
        refine Ex0_s (ih (pre ++ [x]) _ σ2 hK2 hB (FL_t f m2) (fun z c hc => ?_)) (fun post n hn1 => ⟨n + 1, ?_⟩)
        · rw [m3 z c hc, Bool.or_eq_true, hm z c hc, decide_eq_true_iff]
          simp only [List.mem_append, List.mem_singleton]
          constructor
          · rintro ((q | ⟨q, q2⟩) | ⟨q, q2⟩)
            · exact Or.inl q
            · exact Or.inr ⟨Or.inl q, q2⟩
            · exact Or.inr ⟨Or.inr q, q2, by rw [q]; exact hq⟩
          · rintro (q | ⟨q | q, q2, q3⟩)
            · exact Or.inl (Or.inl q)
            · exact Or.inl (Or.inr ⟨q, q2, q3⟩)
            · exact Or.inr ⟨q, q2⟩
        · show wb_Md_reportAll_1 (wp_Md_reportAll post n) post (nI (160 + j)) (nI x) σ1
          have h82 := V1.h x j hxN hj
          rw [hq] at h82
          rw [← f.1] at hn1
          simp (disch := omega) only [wb_Md_reportAll_1, litI, n_lt, eq_false (show ¬ x < 0 by omega), Md_isSo_r (show j < 80 by omega) (show x < 160 by omega), h82, nB_0, n_in, n_cl, eq_true (show x < 240 by omega), not_true_eq_false, not_false_eq_true, false_imp_iff, true_imp_iff, true_and, and_true]
          refine m1 _ ?_
          rw [m2.1]; exact hn1
  obtain ⟨σ', q1, q2⟩ := key (S.K v) [] _ σ rfl (T.cS v hv) FL_r (fun x c hc => by simp)
  rw [hR] at q1
  refine ⟨σ', fun post hp => ?_, q1⟩
  obtain ⟨n, hn1⟩ := q2 post hp
  refine ⟨n + 1, ?_⟩
  show wb_Md_reportAll_0 (wp_Md_reportAll post n) post (nI v) (nI (160 + j)) σ
  simp (disch := omega) only [wb_Md_reportAll_0, n_in, n_cl, eq_true (show v < 240 by omega), true_and]
  exact hn1
/-- the set of what is evaluated, as the reference has it -/
theorem ev_m (hall : ∀ s, s < S.N → s ∈ L) {s i : Nat} (V : MVd tS lS S tD lD D L σ i) (hs : s < S.N) (hi : i < D.N) : ∃ σ', Rv (wq_Md_evaluate (nI s) (nI (160 + i)) σ) σ' ∧ FL Ps σ σ' ∧ (∀ c ∈ D.K i, D.kd i = 6 → st σ' c = EE tS lS S tD lD D s c) := by
  obtain ⟨σ', h1, h2, h3⟩ := evaluate_m V.m hs hi
  refine ⟨σ', h1, h2, fun c hc k6 => ?_⟩
  have hc1 := (V.m.wd.ch i hi c hc).2.1
  have hd := V.m.nd
  rw [h3 c (by omega), evm_EE V.m.ws V.m.wd V.m.p.l hall hs hi (fun x hx => ?_), decide_eq_true ⟨k6, hc⟩, Bool.true_and]
  have hxN := Dp_lt V.m.ws hs hx
  exact ⟨V.h x i hxN hi, V.p x hxN c (by omega)⟩
theorem Ps_Pk {c k : Nat} (h : Ps c k) : Pk c k := Or.inl h
theorem repCh_m (hall : ∀ s, s < S.N → s ∈ L) {s w v i : Nat} (V : MVd tS lS S tD lD D L σ i) (hs : s < S.N) (hi : i < D.N) (hr : rul tS lS S s w = some v) (hw : w = 12 ∨ w = 13 ∨ w = 14 ∨ w = 20) :
    ∃ σ', Rv (wq_Md_reportChildren (nI s) (nI w) (nI (160 + i)) σ) σ' ∧ FL Pk σ σ' ∧ (∀ x c, c < 80 → (bt σ' 84 x c = true ↔ bt σ 84 x c = true ∨ (c ∈ D.K i ∧ nfr tS lS S tD lD D (EE tS lS S tD lD D) s w v i c = some x ∧ HH tS lS S tD lD D x c = false))) := by
  have T := MC_T V.m
  have hn := V.m.ns
  have hd := V.m.nd
  have hv := rul_lt V.m.ws hs hr
  obtain ⟨σe, v1, v2, v3⟩ := ev_m hall V hs hi
  obtain ⟨R, hR⟩ : ∃ R : Sg → Prop, R = fun σ' => FL Pk σ σ' ∧ (∀ x c, c < 80 → (bt σ' 84 x c = true ↔ bt σ 84 x c = true ∨ (c ∈ D.K i ∧ nfr tS lS S tD lD D (EE tS lS S tD lD D) s w v i c = some x ∧ HH tS lS S tD lD D x c = false))) := ⟨_, rfl⟩
  have key : ∀ suf pre y (σ1 : Sg), D.K i = pre ++ suf → chM 1 (σ.1 66) y suf → FL Pk σ σ1 → (∀ x c, c < 80 → (bt σ1 84 x c = true ↔ bt σ 84 x c = true ∨ (c ∈ pre ∧ nfr tS lS S tD lD D (EE tS lS S tD lD D) s w v i c = some x ∧ HH tS lS S tD lD D x c = false))) → Ex0 (fun post n => wp_Md_reportChildren post n 1 (nI s) (nI w) (nI (160 + i)) y (σe.2.1 54 38) (σe.2.1 54 39) σ1) R := by
    intro suf
    induction suf with
    | nil =>
      intro pre y σ1 hK hB f hm
      have hB : y = -nI 1 := hB
      subst hB
      rw [List.append_nil] at hK
      refine ⟨σ1, by rw [hR]; exact ⟨f, by rw [hK]; exact hm⟩, fun post hp => ⟨1, ?_⟩⟩
      show wb_Md_reportChildren_1 (wp_Md_reportChildren post 0) post (nI s) (nI w) (nI (160 + i)) (σe.2.1 54 38) (σe.2.1 54 39) (-nI 1) σ1
      simp (disch := omega) only [wb_Md_reportChildren_1, litI, hm0, litI, n_le, n_lt, n_eq, n_in, n_cl, nI_add, n_b0, n_b1, n_v0, n_v1, n_m1, n_m1', n_m1l, n_m1l', n_m1g, n_m1ge, si_1, si_2, forall_eq, not_true_eq_false, not_false_eq_true, true_imp_iff, false_imp_iff, true_and, and_true, false_and, and_false, implies_true, ite_true, ite_false, if_true, if_false, Classical.not_not, Nat.reduceEqDiff, reduceIte, Nat.add_left_cancel_iff, Nat.add_eq_left, Nat.left_eq_add, and_self, n_sub, pk_mul]
      exact hp
    | cons c suf ih =>
      intro pre y σ1 hK hB f hm
      obtain ⟨hx, hB⟩ := hB
      rw [show 160 * 1 + c = 160 + c by omega] at hx hB
      subst hx
      have hcK : c ∈ D.K i := by rw [hK]; simp
      have hcN := (V.m.wd.ch i hi c hcK).2.1
      obtain ⟨σ2, hσ2⟩ : ∃ σ2, σ2 = sl (sl σ1 54 38 (σe.2.1 54 38)) 54 39 (σe.2.1 54 39) := ⟨_, rfl⟩
      have f2 : FL Pk σ σ2 := by rw [hσ2]; exact FL_sl (FL_sl f (Or.inl ⟨rfl, by omega⟩)) (Or.inl ⟨rfl, by omega⟩)
      have o2 : ∀ x j, bt σ2 84 x j = bt σ1 84 x j := fun x j => by rw [hσ2]; refine bt_o ?_ ?_ <;> rw [sl_2, if_neg (by omega), sl_2, if_neg (by omega)]
      have s2 : ∀ j, st σ2 j = st σe j := fun j => by unfold st; rw [hσ2]; by_cases hj : j < 64 <;> simp [hj, sl_2]
      have V2 := MVd_J V (FJ_L f2) (fun c k h => h)
      have hsp := spoken_r V2.m hs hi hcK hr hw
      have enf : nfr tS lS S tD lD D (eMf σ2) s w v i c = nfr tS lS S tD lD D (EE tS lS S tD lD D) s w v i c := nfr_cg (fun k6 => by unfold eMf; rw [s2]; exact v3 c hcK k6)
      rw [enf] at hsp
      have hK2 : D.K i = (pre ++ [c]) ++ suf := by rw [hK]; simp
      have same : (∀ x, nfr tS lS S tD lD D (EE tS lS S tD lD D) s w v i c = some x → HH tS lS S tD lD D x c = true) → (∀ x j, j < 80 → (bt σ2 84 x j = true ↔ bt σ 84 x j = true ∨ (j ∈ pre ++ [c] ∧ nfr tS lS S tD lD D (EE tS lS S tD lD D) s w v i j = some x ∧ HH tS lS S tD lD D x j = false))) := by
        intro hno x j hj
        rw [o2, hm x j hj]
        simp only [List.mem_append, List.mem_singleton]
        constructor
        · rintro (q | ⟨q, q2⟩)
          · exact Or.inl q
          · exact Or.inr ⟨Or.inl q, q2⟩
        · rintro (q | ⟨q | q, q2, q3⟩)
          · exact Or.inl q
          · exact Or.inr ⟨q, q2, q3⟩
          · subst q; rw [hno x q2] at q3; cases q3
      cases hq : nfr tS lS S tD lD D (EE tS lS S tD lD D) s w v i c with
      | none =>
        rw [hq] at hsp
        refine Ex0_s (ih (pre ++ [c]) _ σ2 hK2 hB f2 (same (fun x h => by rw [hq] at h; cases h))) (fun post n hn1 => ⟨n + 1, ?_⟩)
        show wb_Md_reportChildren_1 (wp_Md_reportChildren post n) post (nI s) (nI w) (nI (160 + i)) (σe.2.1 54 38) (σe.2.1 54 39) (nI (160 + c)) σ1
        simp (disch := omega) only [wb_Md_reportChildren_1, litI, n_lt, eq_false (show ¬ 160 + c < 0 by omega), not_false_eq_true, false_imp_iff, true_imp_iff, true_and, forall_eq, ← hσ2]
        refine hsp _ ?_
        rw [← f2.1] at hn1
        simp (disch := omega) only [oI, hm0, not_true_eq_false, false_imp_iff, true_imp_iff, and_true, n_in, n_cl, eq_true (show 160 + c < 240 by omega), true_and]
        exact hn1
      | some x =>
        have hxN := nfr_lt V.m.ws hs hv hq
        rw [hq] at hsp
        have h82 := V2.h x c hxN hcN
        cases hh : HH tS lS S tD lD D x c with
        | true =>
          rw [hh] at h82
          refine Ex0_s (ih (pre ++ [c]) _ σ2 hK2 hB f2 (same (fun z h => by rw [hq] at h; injection h with h; rw [← h]; exact hh))) (fun post n hn1 => ⟨n + 1, ?_⟩)
          show wb_Md_reportChildren_1 (wp_Md_reportChildren post n) post (nI s) (nI w) (nI (160 + i)) (σe.2.1 54 38) (σe.2.1 54 39) (nI (160 + c)) σ1
          simp (disch := omega) only [wb_Md_reportChildren_1, litI, n_lt, eq_false (show ¬ 160 + c < 0 by omega), not_false_eq_true, false_imp_iff, true_imp_iff, true_and, forall_eq, ← hσ2]
          refine hsp _ ?_
          rw [← f2.1] at hn1
          simp (disch := omega) only [oI, n_lt, eq_false (show ¬ x < 0 by omega), Md_isSo_r (show c < 80 by omega) (show x < 160 by omega), h82, nB_0, Bool.true_eq_false, not_false_eq_true, false_imp_iff, true_imp_iff, and_true, n_in, n_cl, eq_true (show 160 + c < 240 by omega), true_and]
          exact hn1
        | false =>
          rw [hh] at h82
          obtain ⟨σ3, m1, m2, m3⟩ := mark_m (σ := σ2) (s := x) (i := c) (by omega) (by omega)
          refine Ex0_s (ih (pre ++ [c]) _ σ3 hK2 hB (FL_t f2 m2) (fun z j hj => ?_)) (fun post n hn1 => ⟨n + 1, ?_⟩)
          · rw [m3 z j hj, Bool.or_eq_true, o2, hm z j hj, decide_eq_true_iff]
            simp only [List.mem_append, List.mem_singleton]
            constructor
            · rintro ((q | ⟨q, q2⟩) | ⟨q, q2⟩)
              · exact Or.inl q
              · exact Or.inr ⟨Or.inl q, q2⟩
              · subst q; subst q2; exact Or.inr ⟨Or.inr rfl, hq, hh⟩
            · rintro (q | ⟨q | q, q2, q3⟩)
              · exact Or.inl (Or.inl q)
              · exact Or.inl (Or.inr ⟨q, q2, q3⟩)
              · subst q; rw [hq] at q2; injection q2 with q2; exact Or.inr ⟨q2.symm, rfl⟩
          · show wb_Md_reportChildren_1 (wp_Md_reportChildren post n) post (nI s) (nI w) (nI (160 + i)) (σe.2.1 54 38) (σe.2.1 54 39) (nI (160 + c)) σ1
            simp (disch := omega) only [wb_Md_reportChildren_1, litI, n_lt, eq_false (show ¬ 160 + c < 0 by omega), not_false_eq_true, false_imp_iff, true_imp_iff, true_and, forall_eq, ← hσ2]
            refine hsp _ ?_
            rw [← f2.1] at hn1
            simp (disch := omega) only [oI, n_lt, eq_false (show ¬ x < 0 by omega), Md_isSo_r (show c < 80 by omega) (show x < 160 by omega), h82, nB_0, not_true_eq_false, not_false_eq_true, false_imp_iff, true_imp_iff, and_true, n_in, n_cl, eq_true (show 160 + c < 240 by omega), true_and]
            refine m1 _ ?_
            rw [m2.1]; exact hn1
  have fe : FL Pk σ σe := FL_m v2 (fun c k => Ps_Pk)
  obtain ⟨σ', q1, q2⟩ := key (D.K i) [] _ σe rfl (T.cD i hi) fe (fun x c hc => by
    rw [bt_o (v2.2.2 84 x (by unfold Ps; omega)) (v2.2.2 85 x (by unfold Ps; omega))]; simp)
  rw [hR] at q1
  refine ⟨σ', fun post hp => ?_, q1⟩
  obtain ⟨n, hn1⟩ := q2 post hp
  refine ⟨n + 1, ?_⟩
  show wb_Md_reportChildren_0 (wp_Md_reportChildren post n) post (nI s) (nI w) (nI (160 + i)) σ
  unfold wb_Md_reportChildren_0
  refine v1 _ ?_
  rw [n_in (by omega), n_cl (by omega), fe.1]
  exact ⟨by omega, hn1⟩
end RM
