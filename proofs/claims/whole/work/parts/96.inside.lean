theorem gC_gN {G : TG} {kd fr e : Nat} {pr nm : Option Nat} {nu : Int32} : gC (gN G kd fr e pr nm nu) G.N e = gN G kd fr e pr nm nu := by
  unfold gC gN
  simp only [mkT_N, mkT_F, mkT_fl, mkT_kd, mkT_fr, mkT_en, mkT_pr, mkT_nm, mkT_nu, mkT_K, mkT_lv]
  congr 1
  funext j
  by_cases h : j = G.N <;> simp [h]
/-- a bracket is opened, the reference's side -/
theorem brk_m {t len a d : Nat} {tx : Nat → Nat} {σ : Sg} {G : TG} {op op1 h sn cm : Nat → Nat} {pr nm : Option Nat} {ne : Int32} (m : MS t σ len tx G op d h sn cm a) (hw : WG len G) (hh : HS G d h) (hl : a < len) (hop : isOp (tx a))
    (hN : 160 * t + G.N < 240) (hN2 : G.N < 160) (hp : ∀ p, pr = some p → p < G.N ∧ 1 ≤ d ∧ h (d - 1) = p) (hp0 : pr = none → d = 0) (hd : d < 8) (hn : ∀ n, nm = some n → ne = nI (qe tx len (n + 1))) (ho : ∀ k, k ≠ G.N → op1 k = op k) (ho1 : op1 G.N = 1) :
    ∃ σ', Rv (wq_Md_value (oI nm) ne σ) σ' ∧ MS t σ' len tx (gN G (kb (tx a)) a 0 pr nm (nI 0)) op1 (d + 1) (fun j => if j = d then G.N else h j) (fun j => if j = d then 0 else sn j) (fun j => if j = d then 0 else cm j) (a + 1) ∧ MFr t σ σ' := by
  have h3 := m.tt.2.2.2.1
  have h5 := m.tt.2.2.2.2.2 a hl
  let op2 : Nat → Nat := fun k => if k = G.N then 2 else op k
  have hop2 : op2 G.N = 2 := by simp [op2]
  obtain ⟨b1, b2⟩ := MS_begin (kd2 := kb (tx a)) (en := 0) (nu := nI 0) (op2 := op2) m hw hh (fun k hk => by simp [op2, show ¬ k = G.N by omega]) hop2 hN hN2 hp hp0 (by omega) hn
  have hfr := MFr_bgO (t := t) (a := a) (d := d) (nm := oI nm) (ne := ne) (pr := pr) (MFr_r (σ := σ)) hN2 (fun p hpp => ⟨(hp p hpp).1, fun c hc => (hw.ch p (hp p hpp).1 c hc).2.1⟩)
  have c69 : (bgO t σ G a (oI nm) ne d pr).1 69 (160 * t + G.N) = nI 0 := by
    cases pr with
    | none => simp [bgO, bgn, si_1]
    | some p => simp only [bgO]; rw [si_c (by decide), si_c (by decide)]; split <;> (rw [si_c (by decide)]; simp [bgn, si_1])
  generalize bgO t σ G a (oI nm) ne d pr = σ1 at b1 b2 hfr c69
  have hk : kb (tx a) = if tx a = 91 then 5 else 6 := by
    unfold kb; rcases hop with q | q
    · rw [if_pos q, if_neg (by omega)]
    · rw [if_neg (by omega), if_pos q, if_pos q]
  have hk4 : kb (tx a) ≠ 4 := by rw [hk]; split <;> omega
  have m1 := MS_w (k := G.N) (c := 59) (v := nI (kb (tx a))) b2 (Or.inl ⟨Or.inl rfl, hop2⟩)
  have m2 := MS_ok (k := G.N) (a := 0) (op2 := op1) m1 (fun j hj => by rw [ho j hj]; simp [op2, hj]) (Or.inr ⟨by rw [si_1, if_pos ⟨rfl, rfl⟩]; simp [gN, mkT_N, mkT_F, mkT_fl, mkT_kd, mkT_fr, mkT_en, mkT_pr, mkT_nm, mkT_nu, mkT_K, mkT_lv], by rw [si_c (by decide), c69]; simp [gN, mkT_N, mkT_F, mkT_fl, mkT_kd, mkT_fr, mkT_en, mkT_pr, mkT_nm, mkT_nu, mkT_K, mkT_lv], fun q => by exfalso; simp [gN, mkT_N, mkT_F, mkT_fl, mkT_kd, mkT_fr, mkT_en, mkT_pr, mkT_nm, mkT_nu, mkT_K, mkT_lv] at q; exact hk4 q⟩) (fun q => by omega)
  rw [gC_gN] at m2
  have s2 := m2.s
  let σ3 := si (si (si (si σ1 59 (160 * t + G.N) (nI (kb (tx a)))) 72 d (nI (160 * t + G.N))) 74 d (nI 0)) 75 d (nI 0)
  have m3 : MS t (si (si (ma (si σ3 54 20 (nI (d + 1))) (a + 1)) 61 (160 * t + G.N) (nI (a + 1))) 54 20 (nI (d + 1))) len tx (gN G (kb (tx a)) a 0 pr nm (nI 0)) op1 (d + 1) (fun j => if j = d then G.N else h j) (fun j => if j = d then 0 else sn j) (fun j => if j = d then 0 else cm j) (a + 1) := by
    refine ⟨?_, ?_, ⟨?_, ?_, ?_, ?_, ?_⟩, ?_, ?_⟩
    · refine TM_si (TM_si (TM_si (TM_si (TM_si (TM_si (TM_si m2.tt ?_ ?_ ?_) ?_ ?_ ?_) ?_ ?_ ?_) ?_ ?_ ?_) ?_ ?_ ?_) ?_ ?_ ?_) ?_ ?_ ?_ <;> omega
    · refine MI_si (MI_w (MI_si (MI_si (MI_si (MI_si (MI_si m2.i (by omega)) (by omega)) (by omega)) (by omega)) (by omega)) (Or.inr ⟨rfl, by omega⟩)) (by omega)
    · simp [si_1]
    · intro j hj
      by_cases e : j = d
      · simp [σ3, ma, si_1, e]
      · simp [σ3, ma, si_1, e]; have := s2.hh j (by omega); simpa [si_1] using this
    · intro j hj c hc
      by_cases e : j = d
      · simp [e, gN, mkT_N, mkT_F, mkT_fl, mkT_kd, mkT_fr, mkT_en, mkT_pr, mkT_nm, mkT_nu, mkT_K, mkT_lv] at hc
      · simp [e] at hc
        simp [σ3, ma, si_1]; have := s2.l j (by omega) c hc; simpa [si_1] using this
    · intro j hj
      by_cases e : j = d
      · simp [σ3, ma, si_1, e]
      · simp [σ3, ma, si_1, e]; have := s2.ss j (by omega); simpa [si_1] using this
    · intro j hj
      by_cases e : j = d
      · simp [σ3, ma, si_1, e]
      · simp [σ3, ma, si_1, e]; have := s2.cc j (by omega); simpa [si_1] using this
    · simp [ma, si_1]
    · exact m2.w
  have f3 : MFr t σ (si (si (ma (si σ3 54 20 (nI (d + 1))) (a + 1)) 61 (160 * t + G.N) (nI (a + 1))) 54 20 (nI (d + 1))) :=
    MFr_si (MFr_w (MFr_ma (MFr_si (MFr_s (MFr_s (MFr_s (MFr_w hfr (by omega) hN2) (by omega)) (by omega)) (by omega)) (Or.inl ⟨rfl, by omega⟩))) (by omega) hN2) (Or.inl ⟨rfl, by omega⟩)
  refine ⟨_, ?_, m3, f3⟩
  intro post hpost
  have hp2 : post (si (ma (si σ3 54 20 (nI (d + 1))) (a + 1)) 61 (160 * t + G.N) (nI (a + 1))) := by
    have e : si (si (ma (si σ3 54 20 (nI (d + 1))) (a + 1)) 61 (160 * t + G.N) (nI (a + 1))) 54 20 (nI (d + 1)) = si (ma (si σ3 54 20 (nI (d + 1))) (a + 1)) 61 (160 * t + G.N) (nI (a + 1)) := si_id (by simp [ma, si_1])
    rw [e] at hpost; exact hpost
  have d20 : σ1.1 54 20 = nI d := b2.s.dd
  have d19 : σ1.1 54 19 = nI a := b2.aa
  have s3 : wp_Md_value post 1 3 0 0 (nI (160 * t + G.N)) 0 0 (si σ1 59 (160 * t + G.N) (nI (kb (tx a)))) := by
    show wb_Md_value_3 (wp_Md_value post 0) post (nI (160 * t + G.N)) (si σ1 59 (160 * t + G.N) (nI (kb (tx a))))
    simp (disch := omega) only [wb_Md_value_3, litI, n_le, n_lt, n_eq, n_in, n_cl, nI_add, n_b0, n_b1, n_v0, n_v1, n_m1, n_m1', n_m1l, n_m1l', n_m1g, n_m1ge, si_1, si_2, forall_eq, not_true_eq_false, not_false_eq_true, true_imp_iff, false_imp_iff, true_and, and_true, false_and, and_false, implies_true, ite_true, ite_false, if_true, if_false, Classical.not_not, Nat.reduceEqDiff, reduceIte, Nat.add_left_cancel_iff, Nat.add_eq_left, Nat.left_eq_add, and_self, n_sub, pk_mul, eq_true (show d < 9 by omega), eq_true hN, d20, d19, show ¬ (54 = 59) by decide, show ¬ (54 = 72) by decide, show ¬ (54 = 74) by decide, show ¬ (54 = 75) by decide, show ¬ (20 = 19) by decide, show ¬ (19 = 20) by decide]
    exact hp2
  refine ⟨3, ?_⟩
  show wb_Md_value_0 (wp_Md_value post 2) post (oI nm) ne σ
  simp only [wb_Md_value_0]
  refine b1 _ ?_
  rcases hop with q | q
  · rw [hk, if_neg (by omega)] at s3
    simp (disch := omega) only [Md_here_r b2.tt b2.aa hl, litI, n_le, n_lt, n_eq, n_in, n_cl, nI_add, n_b0, n_b1, n_v0, n_v1, n_m1, n_m1', n_m1l, n_m1l', n_m1g, n_m1ge, si_1, si_2, forall_eq, not_true_eq_false, not_false_eq_true, true_imp_iff, false_imp_iff, true_and, and_true, false_and, and_false, implies_true, ite_true, ite_false, if_true, if_false, Classical.not_not, Nat.reduceEqDiff, reduceIte, Nat.add_left_cancel_iff, Nat.add_eq_left, Nat.left_eq_add, and_self, n_sub, pk_mul, eq_true q]
    show wb_Md_value_1 (wp_Md_value post 1) post (nI (160 * t + G.N)) (nI (tx a)) σ1
    simp (disch := omega) only [wb_Md_value_1, litI, n_le, n_lt, n_eq, n_in, n_cl, nI_add, n_b0, n_b1, n_v0, n_v1, n_m1, n_m1', n_m1l, n_m1l', n_m1g, n_m1ge, si_1, si_2, forall_eq, not_true_eq_false, not_false_eq_true, true_imp_iff, false_imp_iff, true_and, and_true, false_and, and_false, implies_true, ite_true, ite_false, if_true, if_false, Classical.not_not, Nat.reduceEqDiff, reduceIte, Nat.add_left_cancel_iff, Nat.add_eq_left, Nat.left_eq_add, and_self, n_sub, pk_mul, eq_false (show ¬ tx a = 91 by omega), eq_true hN]
    exact s3
  · rw [hk, if_pos q] at s3
    simp (disch := omega) only [Md_here_r b2.tt b2.aa hl, litI, n_le, n_lt, n_eq, n_in, n_cl, nI_add, n_b0, n_b1, n_v0, n_v1, n_m1, n_m1', n_m1l, n_m1l', n_m1g, n_m1ge, si_1, si_2, forall_eq, not_true_eq_false, not_false_eq_true, true_imp_iff, false_imp_iff, true_and, and_true, false_and, and_false, implies_true, ite_true, ite_false, if_true, if_false, Classical.not_not, Nat.reduceEqDiff, reduceIte, Nat.add_left_cancel_iff, Nat.add_eq_left, Nat.left_eq_add, and_self, n_sub, pk_mul, eq_false (show ¬ tx a = 123 by omega), eq_true q]
    show wb_Md_value_1 (wp_Md_value post 1) post (nI (160 * t + G.N)) (nI (tx a)) σ1
    simp (disch := omega) only [wb_Md_value_1, litI, n_le, n_lt, n_eq, n_in, n_cl, nI_add, n_b0, n_b1, n_v0, n_v1, n_m1, n_m1', n_m1l, n_m1l', n_m1g, n_m1ge, si_1, si_2, forall_eq, not_true_eq_false, not_false_eq_true, true_imp_iff, false_imp_iff, true_and, and_true, false_and, and_false, implies_true, ite_true, ite_false, if_true, if_false, Classical.not_not, Nat.reduceEqDiff, reduceIte, Nat.add_left_cancel_iff, Nat.add_eq_left, Nat.left_eq_add, and_self, n_sub, pk_mul, eq_true q, eq_true hN]
    exact s3
section RI
variable {V : Nat → Int32 → Int32 → Int32 → Sg → (Sg → Prop) → Prop} {b len a a1 d k cm sn r : Nat} {tx : Nat → Nat} {σ : Sg} {G : TG} {op : Nat → Nat} {post : Sg → Prop}
def ob (G : TG) (k : Nat) : Nat := if G.kd k = 6 then 1 else 0
def cz (G : TG) (k : Nat) : Nat := if G.kd k = 6 then 125 else 93
abbrev Cn (b : Nat) (σ : Sg) (len : Nat) (tx : Nat → Nat) (G : TG) (op : Nat → Nat) (d a a1 k cm sn r : Nat) : Prop := (b = 0 ∨ b = 13) ∧ (CI b σ len tx G op) ∧ (σ.1 (b + 12) 4 = nI a) ∧ (Sp (fun c => c = 32) tx len a a1) ∧ (r ≤ len) ∧ (k < G.N) ∧ (G.N ≤ tl b) ∧ (G.F < tf b) ∧ (G.kd k = 5 ∨ G.kd k = 6) ∧ (d ≤ 8) ∧ (cm ≤ 1) ∧ (sn ≤ 1)
theorem Cn.hb {b : Nat} {σ : Sg} {len : Nat} {tx : Nat → Nat} {G : TG} {op : Nat → Nat} {d a a1 k cm sn r : Nat} (hX : Cn b σ len tx G op d a a1 k cm sn r) : b = 0 ∨ b = 13 := hX.1
theorem Cn.h {b : Nat} {σ : Sg} {len : Nat} {tx : Nat → Nat} {G : TG} {op : Nat → Nat} {d a a1 k cm sn r : Nat} (hX : Cn b σ len tx G op d a a1 k cm sn r) : CI b σ len tx G op := hX.2.1
theorem Cn.ha {b : Nat} {σ : Sg} {len : Nat} {tx : Nat → Nat} {G : TG} {op : Nat → Nat} {d a a1 k cm sn r : Nat} (hX : Cn b σ len tx G op d a a1 k cm sn r) : σ.1 (b + 12) 4 = nI a := hX.2.2.1
theorem Cn.hs {b : Nat} {σ : Sg} {len : Nat} {tx : Nat → Nat} {G : TG} {op : Nat → Nat} {d a a1 k cm sn r : Nat} (hX : Cn b σ len tx G op d a a1 k cm sn r) : Sp (fun c => c = 32) tx len a a1 := hX.2.2.2.1
theorem Cn.hr {b : Nat} {σ : Sg} {len : Nat} {tx : Nat → Nat} {G : TG} {op : Nat → Nat} {d a a1 k cm sn r : Nat} (hX : Cn b σ len tx G op d a a1 k cm sn r) : r ≤ len := hX.2.2.2.2.1
theorem Cn.hk {b : Nat} {σ : Sg} {len : Nat} {tx : Nat → Nat} {G : TG} {op : Nat → Nat} {d a a1 k cm sn r : Nat} (hX : Cn b σ len tx G op d a a1 k cm sn r) : k < G.N := hX.2.2.2.2.2.1
theorem Cn.hN {b : Nat} {σ : Sg} {len : Nat} {tx : Nat → Nat} {G : TG} {op : Nat → Nat} {d a a1 k cm sn r : Nat} (hX : Cn b σ len tx G op d a a1 k cm sn r) : G.N ≤ tl b := hX.2.2.2.2.2.2.1
theorem Cn.hF {b : Nat} {σ : Sg} {len : Nat} {tx : Nat → Nat} {G : TG} {op : Nat → Nat} {d a a1 k cm sn r : Nat} (hX : Cn b σ len tx G op d a a1 k cm sn r) : G.F < tf b := hX.2.2.2.2.2.2.2.1
theorem Cn.kd {b : Nat} {σ : Sg} {len : Nat} {tx : Nat → Nat} {G : TG} {op : Nat → Nat} {d a a1 k cm sn r : Nat} (hX : Cn b σ len tx G op d a a1 k cm sn r) : G.kd k = 5 ∨ G.kd k = 6 := hX.2.2.2.2.2.2.2.2.1
theorem Cn.hd {b : Nat} {σ : Sg} {len : Nat} {tx : Nat → Nat} {G : TG} {op : Nat → Nat} {d a a1 k cm sn r : Nat} (hX : Cn b σ len tx G op d a a1 k cm sn r) : d ≤ 8 := hX.2.2.2.2.2.2.2.2.2.1
theorem Cn.c1 {b : Nat} {σ : Sg} {len : Nat} {tx : Nat → Nat} {G : TG} {op : Nat → Nat} {d a a1 k cm sn r : Nat} (hX : Cn b σ len tx G op d a a1 k cm sn r) : cm ≤ 1 := hX.2.2.2.2.2.2.2.2.2.2.1
theorem Cn.s1 {b : Nat} {σ : Sg} {len : Nat} {tx : Nat → Nat} {G : TG} {op : Nat → Nat} {d a a1 k cm sn r : Nat} (hX : Cn b σ len tx G op d a a1 k cm sn r) : sn ≤ 1 := hX.2.2.2.2.2.2.2.2.2.2.2
theorem Rd_in_w (C : Cn b σ len tx G op d a a1 k cm sn r)
    (h1 : len = a1 → ∃ f, (wp_Rd_readInside V b post f 2 (nI k) (nI d) (nI (ob G k)) (nI (cz G k)) (nI cm) (nI sn) (nI r) σ)) (h2 : a1 < len → ∃ f, (wp_Rd_readInside V b post f 2 (nI k) (nI d) (nI (ob G k)) (nI (cz G k)) (nI cm) (nI sn) (nI r) σ)) : ∃ f, wp_Rd_readInside V b post f 2 (nI k) (nI d) (nI (ob G k)) (nI (cz G k)) (nI cm) (nI sn) (nI r) σ := by
  rcases Nat.eq_or_lt_of_le C.hs.2.1 with e | e
  · exact h1 e.symm
  · exact h2 e
theorem Rd_in_a (C : Cn b σ len tx G op d a a1 k cm sn r) (hl : a1 = len) (hp : post (bl b (ca b σ a1) G.F (4 + 16 * G.fr k))) : ∃ f, wp_Rd_readInside V b post f 2 (nI k) (nI d) (nI (ob G k)) (nI (cz G k)) (nI cm) (nI sn) (nI r) σ := by
  have h4 := tl_le b
  have h2 := C.h.t.2.1
  have c1 := CI_ca (a := a1) C.hb C.h
  have q2 : (ca b σ a1).1 (b + 2) k = nI (G.fr k) := c1.fr k C.hk
  have hk := C.hk
  have hN := C.hN
  have hr := C.hr
  refine ⟨1, ?_⟩
  show wb_Rd_readInside_2 V b (wp_Rd_readInside V b post 0) post (nI k) (nI d) (nI (ob G k)) (nI (cz G k)) (nI cm) (nI sn) (nI r) σ
  simp (disch := omega) only [wb_Rd_readInside_2, C.h.t.1, n_lt, eq_false (show ¬ len < r by omega), not_false_eq_true, false_imp_iff, true_imp_iff, true_and]
  refine Rd_passBlanks_r C.h.t C.ha C.hs _ ?_
  have e12 : (ca b σ a1).1 (b + 12) 4 = nI a1 := by simp [ca, si_1]
  have e10 : (ca b σ a1).1 (b + 10) 1 = nI len := c1.t.1
  show ((ca b σ a1).1 (b + 12) 4 < (ca b σ a1).1 (b + 10) 1 → _) ∧ (¬ (ca b σ a1).1 (b + 12) 4 < (ca b σ a1).1 (b + 10) 1 → _ ∧ wq_Tr_blame b 4 ((ca b σ a1).1 (b + 2) _) (ca b σ a1) _)
  simp (disch := omega) only [e12, e10, n_lt, eq_false (show ¬ a1 < len by omega), not_false_eq_true, false_imp_iff, true_imp_iff, true_and, n_in, n_cl, eq_true (show k < tl b by omega), q2, litI, Tr_blame_r c1.F C.hF]
  exact hp
/-- a letter is there -/
theorem Rd_in_l (C : Cn b σ len tx G op d a a1 k cm sn r) (hl : a1 < len) {f : Nat}
    (h1 : tx a1 = cz G k → (cm = 0 → post (ca b (ca b σ a1) (a1 + 1))) ∧ (¬ cm = 0 → (¬ sn = 0 → post (ca b (ca b σ a1) (a1 + 1))) ∧ (sn = 0 → post (ca b (bl b (ca b σ a1) G.F (10 + 16 * a1)) (a1 + 1)))))
    (h2 : ¬ tx a1 = cz G k → tx a1 = 44 → (¬ sn = 0 → wp_Rd_readInside V b post f 4 (nI k) (nI d) (nI (ob G k)) (nI (cz G k)) 0 0 (nI r) (ca b σ a1)) ∧ (sn = 0 → wp_Rd_readInside V b post f 4 (nI k) (nI d) (nI (ob G k)) (nI (cz G k)) 0 0 (nI r) (bl b (ca b σ a1) G.F (8 + 16 * a1))))
    (h3 : ¬ tx a1 = cz G k → ¬ tx a1 = 44 → (if G.kd k = 6 then tx a1 = 34 else stt (tx a1) d) → wp_Rd_readInside V b post f 3 (nI k) (nI d) (nI (ob G k)) (nI (cz G k)) (nI cm) (nI sn) (nI r) (ca b σ a1))
    (h4 : ¬ tx a1 = cz G k → ¬ tx a1 = 44 → ¬ (if G.kd k = 6 then tx a1 = 34 else stt (tx a1) d) → wp_Rd_readInside V b post f 2 (nI k) (nI d) (nI (ob G k)) (nI (cz G k)) (nI cm) (nI sn) (nI (r + 1)) (ca b (bl b (ca b σ a1) G.F ((if 8 ≤ d ∧ isOp (tx a1) then 14 else 3) + 16 * a1)) (a1 + 1))) :
    wp_Rd_readInside V b post (f + 1) 2 (nI k) (nI d) (nI (ob G k)) (nI (cz G k)) (nI cm) (nI sn) (nI r) σ := by
  have t4 := tl_le b
  have t2 := C.h.t.2.1
  have c1 := CI_ca (a := a1) C.hb C.h
  have hk := C.hk
  have hN := C.hN
  have hr := C.hr
  have cc1 := C.c1
  have cs1 := C.s1
  have q5 := c1.t.2.2 a1 hl
  have hw := Rd_passWrong_r c1.t (a := a1) (d := d) (by simp [ca, si_1]) hl C.hd c1.F C.hF
  have hcz : cz G k < 2147483648 := by unfold cz; split <;> omega
  show wb_Rd_readInside_2 V b (wp_Rd_readInside V b post f) post (nI k) (nI d) (nI (ob G k)) (nI (cz G k)) (nI cm) (nI sn) (nI r) σ
  simp (disch := omega) only [wb_Rd_readInside_2, C.h.t.1, n_lt, eq_false (show ¬ len < r by omega), not_false_eq_true, false_imp_iff, true_imp_iff, true_and]
  refine Rd_passBlanks_r C.h.t C.ha C.hs _ ?_
  have hs1 : si σ (b + 12) 4 (nI a1) = ca b σ a1 := rfl
  rw [hs1]
  have e12 : (ca b σ a1).1 (b + 12) 4 = nI a1 := by simp [ca, si_1]
  have e10 : (ca b σ a1).1 (b + 10) 1 = nI len := c1.t.1
  have hB10 := Tr_blame_r (x := 10) (y := a1) c1.F C.hF
  have hB8 := Tr_blame_r (x := 8) (y := a1) c1.F C.hF
  have hq10 : ∀ v, (bl b (ca b σ a1) G.F v).1 (b + 12) 4 = nI a1 := fun v => by rw [bl_c (by omega) (by omega)]; exact e12
  have hca : ∀ X a2, si X (b + 12) 4 (nI a2) = ca b X a2 := fun _ _ => rfl
  generalize hσ1 : ca b σ a1 = σ1 at *
  simp (disch := omega) only [e12, e10, n_lt, n_eq, n_in, n_cl, eq_true (show a1 < len by omega), eq_true (show a1 < tl b by omega), q5.1, litI, not_true_eq_false, false_imp_iff, true_imp_iff, true_and, and_true, nI_add, hB10, hB8, forall_eq, hq10, hca]
  by_cases e1 : tx a1 = cz G k
  · simp only [eq_true e1, not_true_eq_false, false_imp_iff, true_imp_iff, true_and, and_true]
    exact h1 e1
  · simp only [eq_false e1, not_false_eq_true, false_imp_iff, true_imp_iff, true_and, and_true]
    by_cases e2 : tx a1 = 44
    · simp only [eq_true e2, not_true_eq_false, false_imp_iff, true_imp_iff, true_and, and_true]
      exact h2 e1 e2
    · simp only [eq_false e2, not_false_eq_true, false_imp_iff, true_imp_iff, true_and, and_true]
      rcases C.kd with kd | kd
      · have eo : ob G k = 0 := by simp [ob, kd]
        rw [eo] at h3 h4 ⊢
        simp only [kd, show ¬ (5 = 6) by decide, if_false] at h3 h4
        simp (disch := omega) only [litI, n_le, n_lt, n_eq, n_in, n_cl, nI_add, n_b0, n_b1, n_v0, n_v1, n_m1, n_m1', n_m1l, n_m1l', n_m1g, n_m1ge, si_1, si_2, forall_eq, not_true_eq_false, not_false_eq_true, true_imp_iff, false_imp_iff, true_and, and_true, false_and, and_false, implies_true, ite_true, ite_false, if_true, if_false, Classical.not_not, Nat.reduceEqDiff, reduceIte, Nat.add_left_cancel_iff, Nat.add_eq_left, Nat.left_eq_add, and_self, n_sub, pk_mul]
        rw [Rd_valueB c1.t e12 (by omega) C.hd]
        by_cases e3 : stt (tx a1) d
        · rw [if_pos ⟨hl, e3⟩]; exact h3 e1 e2 e3
        · rw [if_neg (fun q => e3 q.2)]; exact hw _ (h4 e1 e2 e3)
      · have eo : ob G k = 1 := by simp [ob, kd]
        rw [eo] at h3 h4 ⊢
        simp only [kd, if_true] at h3 h4
        simp (disch := omega) only [litI, n_le, n_lt, n_eq, n_in, n_cl, nI_add, n_b0, n_b1, n_v0, n_v1, n_m1, n_m1', n_m1l, n_m1l', n_m1g, n_m1ge, si_1, si_2, forall_eq, not_true_eq_false, not_false_eq_true, true_imp_iff, false_imp_iff, true_and, and_true, false_and, and_false, implies_true, ite_true, ite_false, if_true, if_false, Classical.not_not, Nat.reduceEqDiff, reduceIte, Nat.add_left_cancel_iff, Nat.add_eq_left, Nat.left_eq_add, and_self, n_sub, pk_mul, show ¬ (1 = 0) by decide]
        by_cases e3 : tx a1 = 34
        · simp only [eq_true e3, litI, n_le, n_lt, n_eq, n_in, n_cl, nI_add, n_b0, n_b1, n_v0, n_v1, n_m1, n_m1', n_m1l, n_m1l', n_m1g, n_m1ge, si_1, si_2, forall_eq, not_true_eq_false, not_false_eq_true, true_imp_iff, false_imp_iff, true_and, and_true, false_and, and_false, implies_true, ite_true, ite_false, if_true, if_false, Classical.not_not, Nat.reduceEqDiff, reduceIte, Nat.add_left_cancel_iff, Nat.add_eq_left, Nat.left_eq_add, and_self, n_sub, pk_mul]; exact h3 e1 e2 e3
        · simp only [eq_false e3, litI, n_le, n_lt, n_eq, n_in, n_cl, nI_add, n_b0, n_b1, n_v0, n_v1, n_m1, n_m1', n_m1l, n_m1l', n_m1g, n_m1ge, si_1, si_2, forall_eq, not_true_eq_false, not_false_eq_true, true_imp_iff, false_imp_iff, true_and, and_true, false_and, and_false, implies_true, ite_true, ite_false, if_true, if_false, Classical.not_not, Nat.reduceEqDiff, reduceIte, Nat.add_left_cancel_iff, Nat.add_eq_left, Nat.left_eq_add, and_self, n_sub, pk_mul]; exact hw _ (h4 e1 e2 e3)
/-- an item -/
theorem Rd_in_i (C : Cn b σ len tx G op d a a1 k cm sn r) {f : Nat}
    (h : if G.kd k = 6 then wq_Rd_readMember V b (nI k) (nI d) (blO b (ca b σ a1) G.F (if sn = 0 then none else some (9 + 16 * a1))) (fun σ1 => wp_Rd_readInside V b post f 2 (nI k) (nI d) (nI (ob G k)) (nI (cz G k)) (nI cm) (nI 1) (nI (r + 1)) σ1)
      else V b (nI k) (-nI 1) (nI d) (blO b (ca b σ a1) G.F (if sn = 0 then none else some (9 + 16 * a1))) (fun σ1 => wp_Rd_readInside V b post f 2 (nI k) (nI d) (nI (ob G k)) (nI (cz G k)) (nI cm) (nI 1) (nI (r + 1)) σ1)) :
    wp_Rd_readInside V b post (f + 2) 3 (nI k) (nI d) (nI (ob G k)) (nI (cz G k)) (nI cm) (nI sn) (nI r) (ca b σ a1) := by
  have c1 := CI_ca (a := a1) C.hb C.h
  have e12 : (ca b σ a1).1 (b + 12) 4 = nI a1 := by simp [ca, si_1]
  have hB := Tr_blame_r (x := 9) (y := a1) c1.F C.hF
  have cs1 := C.s1
  have s5 : ∀ σ3, (if G.kd k = 6 then wq_Rd_readMember V b (nI k) (nI d) σ3 (fun σ1 => wp_Rd_readInside V b post f 2 (nI k) (nI d) (nI (ob G k)) (nI (cz G k)) (nI cm) (nI 1) (nI (r + 1)) σ1) else V b (nI k) (-nI 1) (nI d) σ3 (fun σ1 => wp_Rd_readInside V b post f 2 (nI k) (nI d) (nI (ob G k)) (nI (cz G k)) (nI cm) (nI 1) (nI (r + 1)) σ1)) →
      wp_Rd_readInside V b post (f + 1) 5 (nI k) (nI d) (nI (ob G k)) (nI (cz G k)) (nI cm) 0 (nI r) σ3 := by
    intro σ3 h
    show wb_Rd_readInside_5 V b (wp_Rd_readInside V b post f) post (nI k) (nI d) (nI (ob G k)) (nI (cz G k)) (nI cm) (nI r) σ3
    rcases C.kd with kd | kd
    · have eo : ob G k = 0 := by simp [ob, kd]
      rw [eo] at h ⊢
      simp only [kd, show ¬ (5 = 6) by decide, if_false] at h
      simp (disch := omega) only [wb_Rd_readInside_5, litI, n_le, n_lt, n_eq, n_in, n_cl, nI_add, n_b0, n_b1, n_v0, n_v1, n_m1, n_m1', n_m1l, n_m1l', n_m1g, n_m1ge, si_1, si_2, forall_eq, not_true_eq_false, not_false_eq_true, true_imp_iff, false_imp_iff, true_and, and_true, false_and, and_false, implies_true, ite_true, ite_false, if_true, if_false, Classical.not_not, Nat.reduceEqDiff, reduceIte, Nat.add_left_cancel_iff, Nat.add_eq_left, Nat.left_eq_add, and_self, n_sub, pk_mul, show (-1 : Int32) = -nI 1 from rfl]
      exact h
    · have eo : ob G k = 1 := by simp [ob, kd]
      rw [eo] at h ⊢
      simp only [kd, if_true] at h
      simp (disch := omega) only [wb_Rd_readInside_5, litI, n_le, n_lt, n_eq, n_in, n_cl, nI_add, n_b0, n_b1, n_v0, n_v1, n_m1, n_m1', n_m1l, n_m1l', n_m1g, n_m1ge, si_1, si_2, forall_eq, not_true_eq_false, not_false_eq_true, true_imp_iff, false_imp_iff, true_and, and_true, false_and, and_false, implies_true, ite_true, ite_false, if_true, if_false, Classical.not_not, Nat.reduceEqDiff, reduceIte, Nat.add_left_cancel_iff, Nat.add_eq_left, Nat.left_eq_add, and_self, n_sub, pk_mul, show ¬ (1 = 0) by decide]
      exact h
  show wb_Rd_readInside_3 V b (wp_Rd_readInside V b post (f + 1)) post (nI k) (nI d) (nI (ob G k)) (nI (cz G k)) (nI cm) (nI sn) (nI r) (ca b σ a1)
  by_cases c2 : sn = 0
  · rw [if_pos c2] at h
    simp (disch := omega) only [wb_Rd_readInside_3, litI, n_le, n_lt, n_eq, n_in, n_cl, nI_add, n_b0, n_b1, n_v0, n_v1, n_m1, n_m1', n_m1l, n_m1l', n_m1g, n_m1ge, si_1, si_2, forall_eq, not_true_eq_false, not_false_eq_true, true_imp_iff, false_imp_iff, true_and, and_true, false_and, and_false, implies_true, ite_true, ite_false, if_true, if_false, Classical.not_not, Nat.reduceEqDiff, reduceIte, Nat.add_left_cancel_iff, Nat.add_eq_left, Nat.left_eq_add, and_self, n_sub, pk_mul, eq_true c2]
    exact s5 _ h
  · rw [if_neg c2] at h
    simp (disch := omega) only [wb_Rd_readInside_3, litI, n_eq, eq_false c2, not_false_eq_true, false_imp_iff, true_imp_iff, true_and, and_true, e12, hB]
    exact s5 _ h
theorem Rd_in_c {f : Nat} {σ3 : Sg} (ha : σ3.1 (b + 12) 4 = nI a1) (h : wp_Rd_readInside V b post f 2 (nI k) (nI d) (nI (ob G k)) (nI (cz G k)) (nI 1) (nI 0) (nI (r + 1)) (ca b σ3 (a1 + 1))) :
    wp_Rd_readInside V b post (f + 1) 4 (nI k) (nI d) (nI (ob G k)) (nI (cz G k)) 0 0 (nI r) σ3 := by
  show wb_Rd_readInside_4 V b (wp_Rd_readInside V b post f) post (nI k) (nI d) (nI (ob G k)) (nI (cz G k)) (nI r) σ3
  simp only [wb_Rd_readInside_4, litI, n_le, n_lt, n_eq, n_in, n_cl, nI_add, n_b0, n_b1, n_v0, n_v1, n_m1, n_m1', n_m1l, n_m1l', n_m1g, n_m1ge, si_1, si_2, forall_eq, not_true_eq_false, not_false_eq_true, true_imp_iff, false_imp_iff, true_and, and_true, false_and, and_false, implies_true, ite_true, ite_false, if_true, if_false, Classical.not_not, Nat.reduceEqDiff, reduceIte, Nat.add_left_cancel_iff, Nat.add_eq_left, Nat.left_eq_add, and_self, n_sub, pk_mul, ha]
  exact h
end RI
