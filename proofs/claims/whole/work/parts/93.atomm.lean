theorem MS_ok {t len k a a' d : Nat} {tx : Nat → Nat} {σ : Sg} {G : TG} {op op2 h sn cm : Nat → Nat} (m : MS t σ len tx G op d h sn cm a') (ho : ∀ j, j ≠ k → op2 j = op j)
    (hk : op k < 2 ∨ (σ.1 59 (160 * t + k) = nI (G.kd k) ∧ σ.1 69 (160 * t + k) = G.nu k ∧ (G.kd k = 4 → σ.1 62 (160 * t + k) = nI (qe tx len (G.fr k + 1))))) (he : op2 k = 0 → σ.1 61 (160 * t + k) = nI a) : MS t σ len tx (gC G k a) op2 d h sn cm a' :=
  ⟨m.tt, MI_ok m.i ho hk he, ST_cg m.s rfl (fun _ _ _ => rfl) (fun _ _ => rfl), m.aa, m.w⟩
theorem Md_letters_l {t len : Nat} {tx : Nat → Nat} {σ : Sg} (hT : TM t σ len tx) {post : Sg → Prop} {n a' : Nat} (hn : n < 240) : ∀ a, Sp isLo tx len a a' → (∃ f, wp_Md_value post f 2 0 0 (nI n) 0 0 (ma σ a')) → ∃ f, wp_Md_value post f 2 0 0 (nI n) 0 0 (ma σ a) := by
  intro a hs h
  refine scan (W := fun f x => wp_Md_value post f 2 0 0 (nI n) 0 0 (ma σ x)) (fun _ => h) ?_ a hs
  intro x hlt hl hpa ih
  have hT' : TM t (ma σ x) len tx := TM_si hT (by decide) (by decide) (by decide)
  have ha' : (ma σ x).1 54 19 = nI x := by simp [ma, si_1]
  have h7 := hT.2.2.2.2.2 x hl
  have e : si (ma σ x) 54 19 (nI (x + 1)) = ma σ (x + 1) := by unfold ma; rw [si_si]
  refine ex_s ?_
  simp (disch := omega) only [wp_Md_value, wb_Md_value_2, Md_here_r hT' ha' hl, Md_isLetter_r, bI_0, eq_true hpa, ha', litI, n_le, n_lt, n_eq, n_in, n_cl, nI_add, n_b0, n_b1, n_v0, n_v1, n_m1, n_m1', n_m1l, n_m1l', n_m1g, n_m1ge, si_1, si_2, forall_eq, not_true_eq_false, not_false_eq_true, true_imp_iff, false_imp_iff, true_and, and_true, false_and, and_false, implies_true, ite_true, ite_false, if_true, if_false, Classical.not_not, Nat.reduceEqDiff, reduceIte, Nat.add_left_cancel_iff, Nat.add_eq_left, Nat.left_eq_add, and_self, n_sub, pk_mul, e]
  exact ih
theorem atom_m {t len a a' kd d : Nat} {tx : Nat → Nat} {σ : Sg} {G : TG} {op h sn cm : Nat → Nat} {pr nm : Option Nat} {nu ne : Int32} {fo : Option Nat} (m : MS t σ len tx G op d h sn cm a) (hw : WG len G) (hh : HS G d h) (hl : a < len)
    (hA : At tx len a kd nu fo a') (hN : 160 * t + G.N < 240) (hN2 : G.N < 160) (hF : G.F < 400) (hp : ∀ p, pr = some p → p < G.N ∧ 1 ≤ d ∧ h (d - 1) = p) (hp0 : pr = none → d = 0) (hd : d ≤ 9) (hn : ∀ n, nm = some n → ne = nI (qe tx len (n + 1))) (ho : ∀ k, G.N ≤ k → op k = 0) :
    ∃ σ', Rv (wq_Md_value (oI nm) ne σ) σ' ∧ MS t σ' len tx (gC (gFo (gN G kd a 0 pr nm nu) fo) G.N a') op d h sn cm a' ∧ MFr t σ σ' := by
  have h3 := m.tt.2.2.2.1
  have h5 := m.tt.2.2.2.2.2 a hl
  have hao := At_ok hl hA
  have n1 : ¬ tx a = 123 := fun q => hao.2.2.2.2 (Or.inl q)
  have n2 : ¬ tx a = 91 := fun q => hao.2.2.2.2 (Or.inr q)
  let op2 : Nat → Nat := fun k => if k = G.N then 2 else op k
  have hop : ∀ k, k ≠ G.N → op k = op2 k := fun k hk => by simp [op2, hk]
  have hop2 : op2 G.N = 2 := by simp [op2]
  obtain ⟨b1, b2⟩ := MS_begin (kd2 := kd) (en := 0) (nu := nu) (op2 := op2) m hw hh (fun k hk => (hop k (by omega)).symm) hop2 hN hN2 hp hp0 hd hn
  have hfr := MFr_bgO (t := t) (a := a) (d := d) (nm := oI nm) (ne := ne) (pr := pr) (MFr_r (σ := σ)) hN2 (fun p hpp => ⟨(hp p hpp).1, fun c hc => (hw.ch p (hp p hpp).1 c hc).2.1⟩)
  have c69 : (bgO t σ G a (oI nm) ne d pr).1 69 (160 * t + G.N) = nI 0 := by
    cases pr with
    | none => simp [bgO, bgn, si_1]
    | some p => simp only [bgO]; rw [si_c (by decide), si_c (by decide)]; split <;> (rw [si_c (by decide)]; simp [bgn, si_1])
  have c60 : (bgO t σ G a (oI nm) ne d pr).1 60 (160 * t + G.N) = nI a := by
    have := b2.i.fr G.N (by simp [gN, mkT_N, mkT_F, mkT_fl, mkT_kd, mkT_fr, mkT_en, mkT_pr, mkT_nm, mkT_nu, mkT_K, mkT_lv]); simpa [gN, mkT_N, mkT_F, mkT_fl, mkT_kd, mkT_fr, mkT_en, mkT_pr, mkT_nm, mkT_nu, mkT_K, mkT_lv] using this
  generalize bgO t σ G a (oI nm) ne d pr = σ1 at b1 b2 hfr c69 c60
  have hfr1 : (gN G kd a 0 pr nm nu).F = G.F := rfl
  rcases hA with ⟨e, q1, q2, rfl, rfl, rfl, rfl⟩ | ⟨q1, q2, rfl, rfl, rfl⟩ | ⟨q1, q2, rfl, rfl, rfl⟩
  case inl =>
    have q3 := q2.2.1
    have m1 := MS_w (k := G.N) (c := 59) (v := nI 4) b2 (Or.inl ⟨Or.inl rfl, hop2⟩)
    have hq := Md_quoted_r m1.tt m1.aa q2 m1.i.F (by rw [hfr1]; exact hF)
    have m2 : MS t (if e < len then ma (si σ1 59 (160 * t + G.N) (nI 4)) (e + 1) else nt t (ma (si σ1 59 (160 * t + G.N) (nI 4)) e) (gN G 4 a 0 pr nm (nI 0)).F (4 + 16 * a)) len tx (gFo (gN G 4 a 0 pr nm (nI 0)) (if e < len then none else some (4 + 16 * a))) op2 d h sn cm (if e < len then e + 1 else e) := by
      split
      · exact MS_ma m1
      · exact MS_nt (MS_ma m1)
    have f2 : MFr t σ (if e < len then ma (si σ1 59 (160 * t + G.N) (nI 4)) (e + 1) else nt t (ma (si σ1 59 (160 * t + G.N) (nI 4)) e) (gN G 4 a 0 pr nm (nI 0)).F (4 + 16 * a)) := by
      split
      · exact MFr_ma (MFr_w hfr (by omega) hN2)
      · exact MFr_nt (MFr_ma (MFr_w hfr (by omega) hN2)) hF
    have k59 : (if e < len then ma (si σ1 59 (160 * t + G.N) (nI 4)) (e + 1) else nt t (ma (si σ1 59 (160 * t + G.N) (nI 4)) e) (gN G 4 a 0 pr nm (nI 0)).F (4 + 16 * a)).1 59 (160 * t + G.N) = nI 4 := by
      split <;> simp [ma, nt, si_1]
    have k69 : (if e < len then ma (si σ1 59 (160 * t + G.N) (nI 4)) (e + 1) else nt t (ma (si σ1 59 (160 * t + G.N) (nI 4)) e) (gN G 4 a 0 pr nm (nI 0)).F (4 + 16 * a)).1 69 (160 * t + G.N) = nI 0 := by
      split <;> simp [ma, nt, si_1, c69]
    generalize (if e < len then ma (si σ1 59 (160 * t + G.N) (nI 4)) (e + 1) else nt t (ma (si σ1 59 (160 * t + G.N) (nI 4)) e) (gN G 4 a 0 pr nm (nI 0)).F (4 + 16 * a)) = σ2 at hq m2 f2 k59 k69
    have m3 := MS_w (k := G.N) (c := 62) (v := nI e) m2 (Or.inl ⟨by omega, hop2⟩)
    have m4 := MS_w (k := G.N) (c := 61) (v := nI (if e < len then e + 1 else e)) m3 (Or.inl ⟨by omega, hop2⟩)
    have m5 := MS_ok (k := G.N) (a := if e < len then e + 1 else e) (op2 := op) m4 (fun j hj => hop j hj) (Or.inr ⟨by rw [si_c (by decide), si_c (by decide), k59, gFo_kd]; simp [gN, mkT_N, mkT_F, mkT_fl, mkT_kd, mkT_fr, mkT_en, mkT_pr, mkT_nm, mkT_nu, mkT_K, mkT_lv], by rw [si_c (by decide), si_c (by decide), k69, gFo_nu]; simp [gN, mkT_N, mkT_F, mkT_fl, mkT_kd, mkT_fr, mkT_en, mkT_pr, mkT_nm, mkT_nu, mkT_K, mkT_lv], fun _ => by rw [si_c (by decide), si_1, if_pos ⟨rfl, rfl⟩, gFo_fr]; simp [gN, mkT_N, mkT_F, mkT_fl, mkT_kd, mkT_fr, mkT_en, mkT_pr, mkT_nm, mkT_nu, mkT_K, mkT_lv]; rw [qe_eq q2]⟩) (fun _ => by rw [si_1, if_pos ⟨rfl, rfl⟩])
    refine ⟨_, ?_, m5, MFr_w (MFr_w f2 (by omega) hN2) (by omega) hN2⟩
    intro post hpost
    refine ⟨1, ?_⟩
    simp only [wp_Md_value, wb_Md_value_0]
    refine b1 _ ?_
    simp (disch := omega) only [Md_here_r b2.tt b2.aa hl, litI, n_le, n_lt, n_eq, n_in, n_cl, nI_add, n_b0, n_b1, n_v0, n_v1, n_m1, n_m1', n_m1l, n_m1l', n_m1g, n_m1ge, si_1, si_2, forall_eq, not_true_eq_false, not_false_eq_true, true_imp_iff, false_imp_iff, true_and, and_true, false_and, and_false, implies_true, ite_true, ite_false, if_true, if_false, Classical.not_not, Nat.reduceEqDiff, reduceIte, Nat.add_left_cancel_iff, Nat.add_eq_left, Nat.left_eq_add, and_self, n_sub, pk_mul, eq_false n1, eq_false n2, eq_true q1, eq_true hN]
    refine hq _ ?_
    simp (disch := omega) only [litI, n_le, n_lt, n_eq, n_in, n_cl, nI_add, n_b0, n_b1, n_v0, n_v1, n_m1, n_m1', n_m1l, n_m1l', n_m1g, n_m1ge, si_1, si_2, forall_eq, not_true_eq_false, not_false_eq_true, true_imp_iff, false_imp_iff, true_and, and_true, false_and, and_false, implies_true, ite_true, ite_false, if_true, if_false, Classical.not_not, Nat.reduceEqDiff, reduceIte, Nat.add_left_cancel_iff, Nat.add_eq_left, Nat.left_eq_add, and_self, n_sub, pk_mul, m2.aa, show ¬ (54 = 62) by decide, if_false, false_and]
    exact hpost
  case inr.inl =>
    have q3 := q2.2.1
    have m1 := MS_ma (a' := a') b2
    have hk0 : ¬ tx a = 34 := by omega
    have hc60 : (ma σ1 a').1 60 (160 * t + G.N) = nI a := by simp [ma, si_1, c60]
    have hc69 : (ma σ1 a').1 69 (160 * t + G.N) = nI 0 := by simp [ma, si_1, c69]
    -- behind the kind
    have m2 := fun v => MS_w (k := G.N) (c := 59) (v := v) m1 (Or.inl ⟨by omega, hop2⟩)
    have m3 : MS t (ntO t (si (ma σ1 a') 59 (160 * t + G.N) (nI (lk tx a a'))) G.F (lf tx a a')) len tx (gFo (gN G (lk tx a a') a 0 pr nm (nI 0)) (lf tx a a')) op2 d h sn cm a' := MS_ntO (m2 (nI (lk tx a a')))
    have m4 := MS_w (k := G.N) (c := 61) (v := nI a') m3 (Or.inl ⟨by omega, hop2⟩)
    have m5 := MS_ok (k := G.N) (a := a') (op2 := op) m4 (fun j hj => hop j hj) (Or.inr ⟨by rw [si_c (by decide), ntO_c (by decide) (by decide), si_1, if_pos ⟨rfl, rfl⟩, gFo_kd]; simp [gN, mkT_N, mkT_F, mkT_fl, mkT_kd, mkT_fr, mkT_en, mkT_pr, mkT_nm, mkT_nu, mkT_K, mkT_lv], by rw [si_c (by decide), ntO_c (by decide) (by decide), si_c (by decide), hc69, gFo_nu]; simp [gN, mkT_N, mkT_F, mkT_fl, mkT_kd, mkT_fr, mkT_en, mkT_pr, mkT_nm, mkT_nu, mkT_K, mkT_lv], fun q => by
      exfalso; rw [gFo_kd] at q; simp [gN, mkT_N, mkT_F, mkT_fl, mkT_kd, mkT_fr, mkT_en, mkT_pr, mkT_nm, mkT_nu, mkT_K, mkT_lv] at q; unfold lk at q; split at q <;> (try split at q) <;> omega⟩) (fun _ => by rw [si_1, if_pos ⟨rfl, rfl⟩])
    refine ⟨_, ?_, m5, MFr_w (MFr_ntO (MFr_w (MFr_ma hfr) (by omega) hN2) hF) (by omega) hN2⟩
    intro post hpost
    refine ex_s ?_
    simp only [wp_Md_value, wb_Md_value_0]
    refine ex_i (fun n h => b1 _ h) ?_
    simp (disch := omega) only [Md_here_r b2.tt b2.aa hl, litI, n_le, n_lt, n_eq, n_in, n_cl, nI_add, n_b0, n_b1, n_v0, n_v1, n_m1, n_m1', n_m1l, n_m1l', n_m1g, n_m1ge, si_1, si_2, forall_eq, not_true_eq_false, not_false_eq_true, true_imp_iff, false_imp_iff, true_and, and_true, false_and, and_false, implies_true, ite_true, ite_false, if_true, if_false, Classical.not_not, Nat.reduceEqDiff, reduceIte, Nat.add_left_cancel_iff, Nat.add_eq_left, Nat.left_eq_add, and_self, n_sub, pk_mul, eq_false n1, eq_false n2, eq_false hk0, Md_isLetter_r, bI_0, eq_true q1]
    rw [show σ1 = ma σ1 a from (si_id b2.aa).symm]
    refine Md_letters_l b2.tt hN a q2 ⟨2, ?_⟩
    have hlet : ∀ post' : Int32 → Sg → Prop, post' (nI 0) (ma σ1 a') → (wq_Md_here (ma σ1 a') (fun r1 σ1 => wq_Md_isLetter r1 σ1 post')) := by
      intro post' hq
      by_cases hl' : a' < len
      · have h6 := m.tt.2.2.2.2.2 a' hl'
        rw [Md_here_r m1.tt m1.aa hl', Md_isLetter_r (by omega), bI_f (q2.2.2.2 hl')]; exact hq
      · rw [Md_here_e m1.tt m1.aa (by omega) (by omega), Md_isLetter_m]; exact hq
    rw [wp_Md_value]
    unfold wb_Md_value_2
    refine hlet _ ?_
    simp (disch := omega) only [litI, n_le, n_lt, n_eq, n_in, n_cl, nI_add, n_b0, n_b1, n_v0, n_v1, n_m1, n_m1', n_m1l, n_m1l', n_m1g, n_m1ge, si_1, si_2, forall_eq, not_true_eq_false, not_false_eq_true, true_imp_iff, false_imp_iff, true_and, and_true, false_and, and_false, implies_true, ite_true, ite_false, if_true, if_false, Classical.not_not, Nat.reduceEqDiff, reduceIte, Nat.add_left_cancel_iff, Nat.add_eq_left, Nat.left_eq_add, and_self, n_sub, pk_mul, eq_true hN, hc60, m1.aa]
    refine Md_packed_r m1.tt q2.1 q3 _ ?_
    have w21 : ∀ v, (si (ma σ1 a') 59 (160 * t + G.N) v).2.1 55 21 = lN (pkL wl (ws 22) (we 22 - ws 22)) := fun v => by rw [(m2 v).w]; exact mw_ok 22 (by decide) (by decide)
    have hc60' : ∀ v, (si (ma σ1 a') 59 (160 * t + G.N) v).1 60 (160 * t + G.N) = nI a := fun v => by rw [si_c (by decide)]; exact hc60
    have ha5 : ∀ v, (si (ma σ1 a') 59 (160 * t + G.N) v).1 54 19 = nI a' := fun v => (m2 v).aa
    rw [mw_28, mw_29]
    simp only [cmp_eq, pkR_eq (show 1 ≤ 28 by decide) (show 28 < 30 by decide), pkR_eq (show 1 ≤ 29 by decide) (show 29 < 30 by decide)]
    by_cases w1 : isW tx a a' 28
    · have e1 : lf tx a a' = none := by unfold lf; rw [if_pos w1]
      have e2 : lk tx a a' = 1 := by unfold lk; rw [if_pos w1]
      rw [e1, e2] at hpost
      simp (disch := omega) only [eq_true w1, litI, n_le, n_lt, n_eq, n_in, n_cl, nI_add, n_b0, n_b1, n_v0, n_v1, n_m1, n_m1', n_m1l, n_m1l', n_m1g, n_m1ge, si_1, si_2, forall_eq, not_true_eq_false, not_false_eq_true, true_imp_iff, false_imp_iff, true_and, and_true, false_and, and_false, implies_true, ite_true, ite_false, if_true, if_false, Classical.not_not, Nat.reduceEqDiff, reduceIte, Nat.add_left_cancel_iff, Nat.add_eq_left, Nat.left_eq_add, and_self, n_sub, pk_mul, wp_Md_value, wb_Md_value_4, eq_true hN, show ¬ (1 = 0) by decide, m1.aa]
      exact hpost
    · by_cases w2 : isW tx a a' 29
      · have e1 : lf tx a a' = none := by unfold lf; rw [if_neg w1, if_pos w2]
        have e2 : lk tx a a' = 2 := by unfold lk; rw [if_neg w1, if_pos w2]
        rw [e1, e2] at hpost
        simp (disch := omega) only [eq_false w1, eq_true w2, litI, n_le, n_lt, n_eq, n_in, n_cl, nI_add, n_b0, n_b1, n_v0, n_v1, n_m1, n_m1', n_m1l, n_m1l', n_m1g, n_m1ge, si_1, si_2, forall_eq, not_true_eq_false, not_false_eq_true, true_imp_iff, false_imp_iff, true_and, and_true, false_and, and_false, implies_true, ite_true, ite_false, if_true, if_false, Classical.not_not, Nat.reduceEqDiff, reduceIte, Nat.add_left_cancel_iff, Nat.add_eq_left, Nat.left_eq_add, and_self, n_sub, pk_mul, wp_Md_value, wb_Md_value_4, eq_true hN, show ¬ (2 = 0) by decide, m1.aa]
        exact hpost
      · have e2 : lk tx a a' = 0 := by unfold lk; rw [if_neg w1, if_neg w2]
        by_cases w3 : isW tx a a' 22
        · have e1 : lf tx a a' = none := by unfold lf; rw [if_neg w1, if_neg w2, if_pos w3]
          rw [e1, e2] at hpost
          simp (disch := omega) only [eq_false w1, eq_false w2, litI, n_cl, n_in, wp_Md_value, wb_Md_value_4, eq_true hN, true_imp_iff, forall_eq, true_and, not_true_eq_false, not_false_eq_true, false_imp_iff, and_true, w21, cmp_eq, pkR_eq (show 1 ≤ 22 by decide) (show 22 < 30 by decide), eq_true w3, ha5]
          simp only [si_1, litI, n_le, n_lt, n_eq, n_in, n_cl, nI_add, n_b0, n_b1, n_v0, n_v1, n_m1, n_m1', n_m1l, n_m1l', n_m1g, n_m1ge, si_1, si_2, forall_eq, not_true_eq_false, not_false_eq_true, true_imp_iff, false_imp_iff, true_and, and_true, false_and, and_false, implies_true, ite_true, ite_false, if_true, if_false, Classical.not_not, Nat.reduceEqDiff, reduceIte, Nat.add_left_cancel_iff, Nat.add_eq_left, Nat.left_eq_add, and_self, n_sub, pk_mul]
          exact ⟨by decide, hpost⟩
        · have e1 : lf tx a a' = some (7 + 16 * a) := by unfold lf; rw [if_neg w1, if_neg w2, if_neg w3]
          rw [e1, e2] at hpost
          have hnn := Md_note_r (x := 7) (y := a) (m2 (nI 0)).tt (m2 (nI 0)).i.F (by rw [hfr1]; exact hF)
          have ha6 : ∀ v, (nt t (si (ma σ1 a') 59 (160 * t + G.N) (nI 0)) G.F v).1 54 19 = nI a' := fun v => by simp [nt, si_1, m1.aa]
          simp (disch := omega) only [eq_false w1, eq_false w2, litI, n_cl, n_in, wp_Md_value, wb_Md_value_4, eq_true hN, true_imp_iff, forall_eq, true_and, not_true_eq_false, not_false_eq_true, false_imp_iff, and_true, w21, cmp_eq, pkR_eq (show 1 ≤ 22 by decide) (show 22 < 30 by decide), eq_false w3, ha5, hc60', hnn, hfr1, ha6]
          simp only [si_1, litI, n_le, n_lt, n_eq, n_in, n_cl, nI_add, n_b0, n_b1, n_v0, n_v1, n_m1, n_m1', n_m1l, n_m1l', n_m1g, n_m1ge, si_1, si_2, forall_eq, not_true_eq_false, not_false_eq_true, true_imp_iff, false_imp_iff, true_and, and_true, false_and, and_false, implies_true, ite_true, ite_false, if_true, if_false, Classical.not_not, Nat.reduceEqDiff, reduceIte, Nat.add_left_cancel_iff, Nat.add_eq_left, Nat.left_eq_add, and_self, n_sub, pk_mul]
          exact ⟨by decide, hpost⟩
  case inr.inr =>
    have q3 := q2.2.1
    have hk0 : ¬ tx a = 34 := by omega
    have hk1 : ¬ isLo (tx a) := by omega
    have hq := Md_number_r b2.tt b2.aa hl q2 hN b2.i.F (by rw [hfr1]; exact hF) c60
    have m1 := MS_w (k := G.N) (c := 59) (v := nI 3) b2 (Or.inl ⟨Or.inl rfl, hop2⟩)
    have m2 := MS_w (k := G.N) (c := 69) (v := nv tx a a') (MS_ma (a' := a') m1) (Or.inl ⟨by omega, hop2⟩)
    have m3 := MS_ntO (fo := nf tx a a') m2
    have m4 := MS_w (k := G.N) (c := 61) (v := nI a') m3 (Or.inl ⟨by omega, hop2⟩)
    have m5 := MS_ok (k := G.N) (a := a') (op2 := op) m4 (fun j hj => hop j hj) (Or.inr ⟨by rw [si_c (by decide), ntO_c (by decide) (by decide), si_c (by decide), gFo_kd]; simp [gN, ma, si_1, mkT_N, mkT_F, mkT_fl, mkT_kd, mkT_fr, mkT_en, mkT_pr, mkT_nm, mkT_nu, mkT_K, mkT_lv], by rw [si_c (by decide), ntO_c (by decide) (by decide), si_1, if_pos ⟨rfl, rfl⟩, gFo_nu]; simp [gN, mkT_N, mkT_F, mkT_fl, mkT_kd, mkT_fr, mkT_en, mkT_pr, mkT_nm, mkT_nu, mkT_K, mkT_lv], fun q => by
      exfalso; rw [gFo_kd] at q; simp [gN, mkT_N, mkT_F, mkT_fl, mkT_kd, mkT_fr, mkT_en, mkT_pr, mkT_nm, mkT_nu, mkT_K, mkT_lv] at q⟩) (fun _ => by rw [si_1, if_pos ⟨rfl, rfl⟩])
    refine ⟨_, ?_, m5, MFr_w (MFr_ntO (MFr_w (MFr_ma (MFr_w hfr (by omega) hN2)) (by omega) hN2) hF) (by omega) hN2⟩
    intro post hpost
    refine ⟨1, ?_⟩
    simp only [wp_Md_value, wb_Md_value_0]
    refine b1 _ ?_
    simp (disch := omega) only [Md_here_r b2.tt b2.aa hl, litI, n_le, n_lt, n_eq, n_in, n_cl, nI_add, n_b0, n_b1, n_v0, n_v1, n_m1, n_m1', n_m1l, n_m1l', n_m1g, n_m1ge, si_1, si_2, forall_eq, not_true_eq_false, not_false_eq_true, true_imp_iff, false_imp_iff, true_and, and_true, false_and, and_false, implies_true, ite_true, ite_false, if_true, if_false, Classical.not_not, Nat.reduceEqDiff, reduceIte, Nat.add_left_cancel_iff, Nat.add_eq_left, Nat.left_eq_add, and_self, n_sub, pk_mul, eq_false n1, eq_false n2, eq_false hk0, Md_isLetter_r, bI_0, eq_false hk1, eq_true hN]
    refine hq _ ?_
    rw [m3.aa]
    exact hpost
