theorem Md_startsB {t len : Nat} {tx : Nat → Nat} {σ : Sg} (hT : TM t σ len tx) {a d : Nat} (ha : σ.1 54 19 = nI a) (hd : σ.1 54 20 = nI d) (hl : a ≤ len) (hd8 : d ≤ 8) (A : Sg → Prop) (B : Sg → Prop) : wq_Md_starts σ (fun r2 σ2 => (r2 = nI 0 → A σ2) ∧ (¬ r2 = nI 0 → B σ2)) ↔ if a < len ∧ stt (tx a) d then B σ else A σ := by
  rw [Md_starts_r hT ha hd hl hd8]
  simp only [bI_0]
  by_cases e : a < len ∧ stt (tx a) d
  · rw [if_pos e]; simp only [eq_true e, litI, n_le, n_lt, n_eq, n_in, n_cl, nI_add, n_b0, n_b1, n_v0, n_v1, n_m1, n_m1', n_m1l, n_m1l', n_m1g, n_m1ge, si_1, si_2, forall_eq, not_true_eq_false, not_false_eq_true, true_imp_iff, false_imp_iff, true_and, and_true, false_and, and_false, implies_true, ite_true, ite_false, if_true, if_false, Classical.not_not, Nat.reduceEqDiff, reduceIte, Nat.add_left_cancel_iff, Nat.add_eq_left, Nat.left_eq_add, and_self, n_sub, pk_mul]
  · rw [if_neg e]; simp only [eq_false e, litI, n_le, n_lt, n_eq, n_in, n_cl, nI_add, n_b0, n_b1, n_v0, n_v1, n_m1, n_m1', n_m1l, n_m1l', n_m1g, n_m1ge, si_1, si_2, forall_eq, not_true_eq_false, not_false_eq_true, true_imp_iff, false_imp_iff, true_and, and_true, false_and, and_false, implies_true, ite_true, ite_false, if_true, if_false, Classical.not_not, Nat.reduceEqDiff, reduceIte, Nat.add_left_cancel_iff, Nat.add_eq_left, Nat.left_eq_add, and_self, n_sub, pk_mul]
theorem mem_m {t len a1 e a2 a3 a4 a5 d k : Nat} {tx : Nat → Nat} {σ : Sg} {G : TG} {op h sn cm : Nat → Nat} (m : MS t σ len tx G op d h sn cm a1) (hw : WG len G) (hl : a1 < len) (hM : Mb tx len a1 e a2 a3 a4 a5)
    (hk : k < G.N) (h6 : G.kd k = 6) (hN : 160 * t + G.N ≤ 240) (hN2 : G.N ≤ 160) (hF : G.F + 3 < 400) (hd : d ≤ 8) :
    ∃ σ5, MS t σ5 len tx (mbG tx len a1 e a3 G k) op d h sn cm a5 ∧ MFr t σ σ5 ∧
      ∀ post, (if a5 < len ∧ stt (tx a5) d then wq_Md_value (nI a1) (nI e) σ5 post else post (nt t σ5 (mbG tx len a1 e a3 G k).F (12 + 16 * a5))) → wq_Md_member (nI (160 * t + k)) σ post := by
  have h2 := m.tt.2.2.2.1
  obtain ⟨m1, m2, m3, m4, m5⟩ := hM
  have e0 := m1.1
  have e1 := m1.2.1
  have e3 := m3.2.1
  have e5 := m5.2.1
  let σ1 : Sg := if e < len then ma σ (e + 1) else nt t (ma σ e) G.F (4 + 16 * a1)
  have c1 : MS t σ1 len tx (gFo G (if e < len then none else some (4 + 16 * a1))) op d h sn cm a2 := by
    simp only [σ1, m2]; split
    · exact MS_ma m
    · exact MS_nt (MS_ma m)
  have f1 : MFr t σ σ1 := by
    simp only [σ1]; split
    · exact MFr_ma MFr_r
    · exact MFr_nt (MFr_ma MFr_r) (by omega)
  have hcn : cnd tx len (gFo G (if e < len then none else some (4 + 16 * a1))) k tx (a1 + 1) e = cnd tx len G k tx (a1 + 1) e := by
    unfold cnd nmE; rw [gFo_kd, gFo_K, gFo_nm]
  have r1 := cn_m (t1 := t) (tx1 := tx) (g := a1 + 1) (e1 := e) c1.i (WG_gFo hw) (TM_X c1.tt) (TM_X c1.tt) (by rw [gFo_N]; exact hk) (by rw [gFo_N]; exact hN) (by rw [gFo_N]; exact hN2) (by rw [gFo_kd]; exact h6) e0 e1
  rw [hcn] at r1
  let G1 := gFo G (if e < len then none else some (4 + 16 * a1))
  let fo2 : Option Nat := if cnd tx len G k tx (a1 + 1) e = none then none else some (13 + 16 * a1)
  have hF1 : G1.F ≤ G.F + 1 := gFo_le
  have hF2 : (gFo G1 fo2).F ≤ G.F + 2 := Nat.le_trans gFo_le (by omega)
  let σ2 := ntO t σ1 G1.F fo2
  have c2 : MS t σ2 len tx (gFo G1 fo2) op d h sn cm a2 := MS_ntO c1
  let σ3 := ma σ2 a3
  have c3 : MS t σ3 len tx (gFo G1 fo2) op d h sn cm a3 := MS_ma c2
  let fo3 : Option Nat := if a3 < len ∧ tx a3 = 58 then none else some (11 + 16 * a3)
  let σ4 := if a3 < len ∧ tx a3 = 58 then ma σ3 (a3 + 1) else nt t σ3 (gFo G1 fo2).F (11 + 16 * a3)
  have c4 : MS t σ4 len tx (mbG tx len a1 e a3 G k) op d h sn cm a4 := by
    show MS t σ4 len tx (gFo (gFo G1 fo2) fo3) op d h sn cm a4
    simp only [σ4, fo3, m4]; split
    · exact MS_ma c3
    · exact MS_nt c3
  have f4 : MFr t σ σ4 := by
    have f3 : MFr t σ σ3 := MFr_ma (MFr_ntO f1 (by omega))
    simp only [σ4]; split
    · exact MFr_ma f3
    · exact MFr_nt f3 (by omega)
  have hF4 : (mbG tx len a1 e a3 G k).F ≤ G.F + 3 := Nat.le_trans (show (gFo (gFo G1 fo2) fo3).F ≤ _ from gFo_le) (by omega)
  refine ⟨ma σ4 a5, MS_ma c4, MFr_ma f4, ?_⟩
  intro post hpost
  have s3 : ∀ f, wp_Md_member post (f + 1) 2 0 (nI a1) (nI e) σ4 := by
    intro f
    show wb_Md_member_2 (wp_Md_member post f) post (nI a1) (nI e) σ4
    simp only [wb_Md_member_2, litI]
    refine Md_blanks_r c4.tt c4.aa m5 _ ?_
    have c5 := MS_ma (a' := a5) c4
    show wq_Md_starts (ma σ4 a5) _
    rw [Md_startsB c5.tt c5.aa c5.s.dd e5 hd]
    by_cases hst : a5 < len ∧ stt (tx a5) d
    · rw [if_pos hst] at hpost ⊢; exact hpost
    · rw [if_neg hst] at hpost ⊢
      rw [c5.aa, Md_note_r c5.tt c5.i.F (by omega)]; exact hpost
  have s2 : ∀ f, wp_Md_member post (f + 2) 1 0 (nI a1) (nI e) σ2 := by
    intro f
    show wb_Md_member_1 (wp_Md_member post (f + 1)) post (nI a1) (nI e) σ2
    unfold wb_Md_member_1
    refine Md_blanks_r c2.tt c2.aa m3 _ ?_
    have hs3 : si σ2 54 19 (nI a3) = σ3 := rfl
    rw [hs3]
    clear_value σ3
    have s3 := s3 f
    by_cases hl3 : a3 < len
    · have q5 := c3.tt.2.2.2.2.2 a3 hl3
      rw [Md_here_r c3.tt c3.aa hl3]
      by_cases h58 : tx a3 = 58
      · have e4 : σ4 = ma σ3 (a3 + 1) := by simp only [σ4, if_pos (⟨hl3, h58⟩ : a3 < len ∧ tx a3 = 58)]
        rw [e4] at s3
        simp (disch := omega) only [litI, n_le, n_lt, n_eq, n_in, n_cl, nI_add, n_b0, n_b1, n_v0, n_v1, n_m1, n_m1', n_m1l, n_m1l', n_m1g, n_m1ge, si_1, si_2, forall_eq, not_true_eq_false, not_false_eq_true, true_imp_iff, false_imp_iff, true_and, and_true, false_and, and_false, implies_true, ite_true, ite_false, if_true, if_false, Classical.not_not, Nat.reduceEqDiff, reduceIte, Nat.add_left_cancel_iff, Nat.add_eq_left, Nat.left_eq_add, and_self, n_sub, pk_mul, eq_true h58, c3.aa]
        exact s3
      · have e4 : σ4 = nt t σ3 (gFo G1 fo2).F (11 + 16 * a3) := by simp only [σ4, if_neg (fun q => h58 q.2 : ¬ (a3 < len ∧ tx a3 = 58))]
        rw [e4] at s3
        simp (disch := omega) only [litI, n_le, n_lt, n_eq, n_in, n_cl, nI_add, n_b0, n_b1, n_v0, n_v1, n_m1, n_m1', n_m1l, n_m1l', n_m1g, n_m1ge, si_1, si_2, forall_eq, not_true_eq_false, not_false_eq_true, true_imp_iff, false_imp_iff, true_and, and_true, false_and, and_false, implies_true, ite_true, ite_false, if_true, if_false, Classical.not_not, Nat.reduceEqDiff, reduceIte, Nat.add_left_cancel_iff, Nat.add_eq_left, Nat.left_eq_add, and_self, n_sub, pk_mul, eq_false h58, c3.aa, Md_note_r c3.tt c3.i.F (show (gFo G1 fo2).F < 400 by omega)]
        exact s3
    · have e4 : σ4 = nt t σ3 (gFo G1 fo2).F (11 + 16 * a3) := by simp only [σ4, if_neg (fun q => hl3 q.1 : ¬ (a3 < len ∧ tx a3 = 58))]
      rw [e4] at s3
      rw [Md_here_e c3.tt c3.aa (by omega) (by omega)]
      simp (disch := omega) only [litI, n_le, n_lt, n_eq, n_in, n_cl, nI_add, n_b0, n_b1, n_v0, n_v1, n_m1, n_m1', n_m1l, n_m1l', n_m1g, n_m1ge, si_1, si_2, forall_eq, not_true_eq_false, not_false_eq_true, true_imp_iff, false_imp_iff, true_and, and_true, false_and, and_false, implies_true, ite_true, ite_false, if_true, if_false, Classical.not_not, Nat.reduceEqDiff, reduceIte, Nat.add_left_cancel_iff, Nat.add_eq_left, Nat.left_eq_add, and_self, n_sub, pk_mul, c3.aa, Md_note_r c3.tt c3.i.F (show (gFo G1 fo2).F < 400 by omega)]
      exact s3
  refine ⟨3, ?_⟩
  show wb_Md_member_0 (wp_Md_member post 2) post (nI (160 * t + k)) σ
  simp only [wb_Md_member_0]
  refine Md_quoted_r m.tt m.aa m1 m.i.F (by omega) _ ?_
  have hs1 : (if e < len then ma σ (e + 1) else nt t (ma σ e) G.F (4 + 16 * a1)) = σ1 := rfl
  rw [hs1]
  have h18 := c1.tt.2.1
  simp only [litI, nI_add, m.aa, h18, pk_mul]
  refine Eq.mp ?_ (r1 (fun r2 σ2 => (r2 < nI 0 → wp_Md_member post 2 1 0 (nI a1) (nI e) σ2) ∧ (¬ r2 < nI 0 → wq_Md_note (nI 13) (nI a1) σ2 fun σ3 => wp_Md_member post 2 1 0 (nI a1) (nI e) σ3)) ?_)
  · rw [show 160 * t + (a1 + 1) = 160 * t + a1 + 1 by omega]; rfl
  have hlt : ∀ c, cnd tx len G k tx (a1 + 1) e = some c → 160 * t + c < 2147483648 := fun c hc => by
    have := (hw.ch k hk c (cnd_lt hc).2.1).2.1; omega
  have s2 := s2 0
  by_cases hc : cnd tx len G k tx (a1 + 1) e = none
  · simp only [oM_lt hlt, eq_true hc, litI, n_le, n_lt, n_eq, n_in, n_cl, nI_add, n_b0, n_b1, n_v0, n_v1, n_m1, n_m1', n_m1l, n_m1l', n_m1g, n_m1ge, si_1, si_2, forall_eq, not_true_eq_false, not_false_eq_true, true_imp_iff, false_imp_iff, true_and, and_true, false_and, and_false, implies_true, ite_true, ite_false, if_true, if_false, Classical.not_not, Nat.reduceEqDiff, reduceIte, Nat.add_left_cancel_iff, Nat.add_eq_left, Nat.left_eq_add, and_self, n_sub, pk_mul]
    have : σ2 = σ1 := by simp only [σ2, fo2, if_pos hc, ntO]
    rw [this] at s2; exact s2
  · simp only [oM_lt hlt, eq_false hc, litI, n_le, n_lt, n_eq, n_in, n_cl, nI_add, n_b0, n_b1, n_v0, n_v1, n_m1, n_m1', n_m1l, n_m1l', n_m1g, n_m1ge, si_1, si_2, forall_eq, not_true_eq_false, not_false_eq_true, true_imp_iff, false_imp_iff, true_and, and_true, false_and, and_false, implies_true, ite_true, ite_false, if_true, if_false, Classical.not_not, Nat.reduceEqDiff, reduceIte, Nat.add_left_cancel_iff, Nat.add_eq_left, Nat.left_eq_add, and_self, n_sub, pk_mul]
    rw [Md_note_r c1.tt c1.i.F (show G1.F < 400 by omega)]
    have : σ2 = nt t σ1 G1.F (13 + 16 * a1) := by simp only [σ2, fo2, if_neg hc, ntO]
    rw [this] at s2; exact s2
/-- the reference's loop runs on -/
def MRun (σ σ' : Sg) : Prop := ∀ Q : Sg → Prop, (∃ n, wp_Md_read Q n 3 0 σ') → ∃ n, wp_Md_read Q n 3 0 σ
theorem MRun_r {σ : Sg} : MRun σ σ := fun _ h => h
theorem MRun_t {σ σ1 σ2 : Sg} (h : MRun σ σ1) (k : MRun σ1 σ2) : MRun σ σ2 := fun Q q => h Q (k Q q)
theorem MRun_g {σ σ' : Sg} {d : Nat} (hd : σ.1 54 20 = nI d) (h1 : 1 ≤ d) (h9 : d ≤ 9) (h : Rv (wq_Md_goOn σ) σ') : MRun σ σ' := by
  rintro Q ⟨n, hn⟩
  refine ⟨n + 1, ?_⟩
  show wb_Md_read_3 (wp_Md_read Q n) Q σ
  unfold wb_Md_read_3
  rw [hd]
  refine ⟨fun q => ?_, fun _ => h _ hn⟩
  exfalso
  rw [show (0 : Int32) = nI 0 from rfl, n_le (by omega) (by omega)] at q; omega
/-- what the top of the stack says -/
abbrev Top (t : Nat) (σ : Sg) (len : Nat) (tx : Nat → Nat) (G : TG) (op : Nat → Nat) (d : Nat) (h sn cm : Nat → Nat) (a a1 k : Nat) : Prop := (MS t σ len tx G op d h sn cm a) ∧ (Sp (fun c => c = 32) tx len a a1) ∧ (h (d - 1) = k) ∧ (1 ≤ d) ∧ (d ≤ 8) ∧ (k < G.N) ∧ (op k < 2) ∧ (G.kd k = 5 ∨ G.kd k = 6) ∧ (160 * t + G.N ≤ 240) ∧ (G.F < 400) ∧ (G.N ≤ 160) ∧ (sn (d - 1) ≤ 1) ∧ (cm (d - 1) ≤ 1)
theorem Top.m {t : Nat} {σ : Sg} {len : Nat} {tx : Nat → Nat} {G : TG} {op : Nat → Nat} {d : Nat} {h sn cm : Nat → Nat} {a a1 k : Nat} (hX : Top t σ len tx G op d h sn cm a a1 k) : MS t σ len tx G op d h sn cm a := hX.1
theorem Top.b {t : Nat} {σ : Sg} {len : Nat} {tx : Nat → Nat} {G : TG} {op : Nat → Nat} {d : Nat} {h sn cm : Nat → Nat} {a a1 k : Nat} (hX : Top t σ len tx G op d h sn cm a a1 k) : Sp (fun c => c = 32) tx len a a1 := hX.2.1
theorem Top.hk {t : Nat} {σ : Sg} {len : Nat} {tx : Nat → Nat} {G : TG} {op : Nat → Nat} {d : Nat} {h sn cm : Nat → Nat} {a a1 k : Nat} (hX : Top t σ len tx G op d h sn cm a a1 k) : h (d - 1) = k := hX.2.2.1
theorem Top.d1 {t : Nat} {σ : Sg} {len : Nat} {tx : Nat → Nat} {G : TG} {op : Nat → Nat} {d : Nat} {h sn cm : Nat → Nat} {a a1 k : Nat} (hX : Top t σ len tx G op d h sn cm a a1 k) : 1 ≤ d := hX.2.2.2.1
theorem Top.d8 {t : Nat} {σ : Sg} {len : Nat} {tx : Nat → Nat} {G : TG} {op : Nat → Nat} {d : Nat} {h sn cm : Nat → Nat} {a a1 k : Nat} (hX : Top t σ len tx G op d h sn cm a a1 k) : d ≤ 8 := hX.2.2.2.2.1
theorem Top.kN {t : Nat} {σ : Sg} {len : Nat} {tx : Nat → Nat} {G : TG} {op : Nat → Nat} {d : Nat} {h sn cm : Nat → Nat} {a a1 k : Nat} (hX : Top t σ len tx G op d h sn cm a a1 k) : k < G.N := hX.2.2.2.2.2.1
theorem Top.o {t : Nat} {σ : Sg} {len : Nat} {tx : Nat → Nat} {G : TG} {op : Nat → Nat} {d : Nat} {h sn cm : Nat → Nat} {a a1 k : Nat} (hX : Top t σ len tx G op d h sn cm a a1 k) : op k < 2 := hX.2.2.2.2.2.2.1
theorem Top.kd {t : Nat} {σ : Sg} {len : Nat} {tx : Nat → Nat} {G : TG} {op : Nat → Nat} {d : Nat} {h sn cm : Nat → Nat} {a a1 k : Nat} (hX : Top t σ len tx G op d h sn cm a a1 k) : G.kd k = 5 ∨ G.kd k = 6 := hX.2.2.2.2.2.2.2.1
theorem Top.N {t : Nat} {σ : Sg} {len : Nat} {tx : Nat → Nat} {G : TG} {op : Nat → Nat} {d : Nat} {h sn cm : Nat → Nat} {a a1 k : Nat} (hX : Top t σ len tx G op d h sn cm a a1 k) : 160 * t + G.N ≤ 240 := hX.2.2.2.2.2.2.2.2.1
theorem Top.F {t : Nat} {σ : Sg} {len : Nat} {tx : Nat → Nat} {G : TG} {op : Nat → Nat} {d : Nat} {h sn cm : Nat → Nat} {a a1 k : Nat} (hX : Top t σ len tx G op d h sn cm a a1 k) : G.F < 400 := hX.2.2.2.2.2.2.2.2.2.1
theorem Top.N2 {t : Nat} {σ : Sg} {len : Nat} {tx : Nat → Nat} {G : TG} {op : Nat → Nat} {d : Nat} {h sn cm : Nat → Nat} {a a1 k : Nat} (hX : Top t σ len tx G op d h sn cm a a1 k) : G.N ≤ 160 := hX.2.2.2.2.2.2.2.2.2.2.1
theorem Top.bs {t : Nat} {σ : Sg} {len : Nat} {tx : Nat → Nat} {G : TG} {op : Nat → Nat} {d : Nat} {h sn cm : Nat → Nat} {a a1 k : Nat} (hX : Top t σ len tx G op d h sn cm a a1 k) : sn (d - 1) ≤ 1 := hX.2.2.2.2.2.2.2.2.2.2.2.1
theorem Top.bc {t : Nat} {σ : Sg} {len : Nat} {tx : Nat → Nat} {G : TG} {op : Nat → Nat} {d : Nat} {h sn cm : Nat → Nat} {a a1 k : Nat} (hX : Top t σ len tx G op d h sn cm a a1 k) : cm (d - 1) ≤ 1 := hX.2.2.2.2.2.2.2.2.2.2.2.2
theorem si_sf (σ : Sg) (c k : Nat) : si σ c k (σ.1 c k) = σ := si_id rfl
theorem Md_goOn_a {t len a a1 d k : Nat} {tx : Nat → Nat} {σ : Sg} {G : TG} {op h sn cm : Nat → Nat} (T : Top t σ len tx G op d h sn cm a a1 k) (hl : a1 = len) :
    Rv (wq_Md_goOn σ) (si (si (nt t (ma σ a1) G.F (4 + 16 * G.fr k)) 61 (160 * t + k) (nI a1)) 54 20 (nI (d - 1))) := by
  obtain ⟨m, b, hk, d1, d8, kN, o, kd, N, F, N2, bs, bc⟩ := T
  have m1 := MS_ma (a' := a1) m
  have h3 := m.tt.2.2.2.1
  have q72 : σ.1 72 (d - 1) = nI (160 * t + k) := by rw [m.s.hh (d - 1) (by omega), hk]
  have q60 : (ma σ a1).1 60 (160 * t + k) = nI (G.fr k) := m1.i.fr k kN
  have hn := Md_note_r (x := 4) (y := G.fr k) m1.tt m1.i.F F
  have q19 : (nt t (ma σ a1) G.F (4 + 16 * G.fr k)).1 54 19 = nI a1 := (MS_nt m1).aa
  have q20 : (nt t (ma σ a1) G.F (4 + 16 * G.fr k)).1 54 20 = nI d := (MS_nt m1).s.dd
  intro post hp
  refine ⟨4, ?_⟩
  show wb_Md_goOn_0 (wp_Md_goOn post 3) post σ
  simp (disch := omega) only [wb_Md_goOn_0, m.s.dd, litI, n_sub, n_in, n_cl, q72, eq_true (show d - 1 < 9 by omega), true_and]
  refine Md_blanks_r m.tt m.aa b _ ?_
  show wq_Md_here (ma σ a1) _
  rw [Md_here_e m1.tt m1.aa (by omega) (by omega)]
  simp only [not_true_eq_false, false_imp_iff, true_imp_iff, and_true]
  show wb_Md_goOn_1 (wp_Md_goOn post 2) post (nI (d - 1)) (nI (160 * t + k)) (-nI 1) (ma σ a1)
  simp (disch := omega) only [wb_Md_goOn_1, litI, n_in, n_cl, not_true_eq_false, false_imp_iff, true_imp_iff, true_and, and_true, eq_true (show 160 * t + k < 240 by omega), show (-1 : Int32) = -nI 1 from rfl, q60, hn]
  show wb_Md_goOn_3 (wp_Md_goOn post 1) post (nI (160 * t + k)) (-nI 1) (nt t (ma σ a1) G.F (4 + 16 * G.fr k))
  simp (disch := omega) only [wb_Md_goOn_3, litI, not_true_eq_false, false_imp_iff, true_imp_iff, true_and, and_true, show (-1 : Int32) = -nI 1 from rfl, forall_eq, si_sf]
  show wb_Md_goOn_6 (wp_Md_goOn post 0) post (nI (160 * t + k)) (nt t (ma σ a1) G.F (4 + 16 * G.fr k))
  simp (disch := omega) only [wb_Md_goOn_6, litI, n_in, n_cl, eq_true (show 160 * t + k < 240 by omega), true_and, forall_eq, q19, si_1, q20, show ¬ (54 = 61) by decide, false_and, if_false, n_sub]
  exact hp
/-- the way of the others: a letter is there -/
theorem Md_goOn_w {t len a a1 d k : Nat} {tx : Nat → Nat} {σ : Sg} {G : TG} {op h sn cm : Nat → Nat} (T : Top t σ len tx G op d h sn cm a a1 k) (hl : a1 < len) (post : Sg → Prop)
    (h1 : tx a1 = (if G.kd k = 6 then 125 else 93) → wb_Md_goOn_1 (wp_Md_goOn post 8) post (nI (d - 1)) (nI (160 * t + k)) (nI (tx a1)) (ma σ a1)) (h2 : ¬ tx a1 = (if G.kd k = 6 then 125 else 93) → wb_Md_goOn_2 (wp_Md_goOn post 8) post (nI (d - 1)) (nI (160 * t + k)) (nI (tx a1)) (ma σ a1)) : wq_Md_goOn σ post := by
  obtain ⟨m, b, hk, d1, d8, kN, o, kd, N, F, N2, bs, bc⟩ := T
  have m1 := MS_ma (a' := a1) m
  have h3 := m.tt.2.2.2.1
  have h5 := m.tt.2.2.2.2.2 a1 hl
  have q72 : σ.1 72 (d - 1) = nI (160 * t + k) := by rw [m.s.hh (d - 1) (by omega), hk]
  have q59 : (ma σ a1).1 59 (160 * t + k) = nI (G.kd k) := m1.i.kd k kN o
  refine ⟨10, ?_⟩
  show wb_Md_goOn_0 (wp_Md_goOn post 9) post σ
  simp (disch := omega) only [wb_Md_goOn_0, m.s.dd, litI, n_sub, n_in, n_cl, q72, eq_true (show d - 1 < 9 by omega), true_and]
  refine Md_blanks_r m.tt m.aa b _ ?_
  show wq_Md_here (ma σ a1) _
  rw [Md_here_r m1.tt m1.aa hl]
  rcases kd with kd | kd
  · rw [kd, if_neg (by decide)] at h1 h2
    simp (disch := omega) only [show (-1 : Int32) = -nI 1 from rfl, n_m1, n_eq, n_in, n_cl, q59, kd, litI, n_le, n_lt, n_eq, n_in, n_cl, nI_add, n_b0, n_b1, n_v0, n_v1, n_m1, n_m1', n_m1l, n_m1l', n_m1g, n_m1ge, si_1, si_2, forall_eq, not_true_eq_false, not_false_eq_true, true_imp_iff, false_imp_iff, true_and, and_true, false_and, and_false, implies_true, ite_true, ite_false, if_true, if_false, Classical.not_not, Nat.reduceEqDiff, reduceIte, Nat.add_left_cancel_iff, Nat.add_eq_left, Nat.left_eq_add, and_self, n_sub, pk_mul, eq_true (show 160 * t + k < 240 by omega)]
    exact ⟨h2, h1⟩
  · rw [kd, if_pos rfl] at h1 h2
    simp (disch := omega) only [show (-1 : Int32) = -nI 1 from rfl, n_m1, n_eq, n_in, n_cl, q59, kd, litI, n_le, n_lt, n_eq, n_in, n_cl, nI_add, n_b0, n_b1, n_v0, n_v1, n_m1, n_m1', n_m1l, n_m1l', n_m1g, n_m1ge, si_1, si_2, forall_eq, not_true_eq_false, not_false_eq_true, true_imp_iff, false_imp_iff, true_and, and_true, false_and, and_false, implies_true, ite_true, ite_false, if_true, if_false, Classical.not_not, Nat.reduceEqDiff, reduceIte, Nat.add_left_cancel_iff, Nat.add_eq_left, Nat.left_eq_add, and_self, n_sub, pk_mul, eq_true (show 160 * t + k < 240 by omega), show ¬ (6 = 5) by decide]
    exact ⟨h2, h1⟩
theorem Md_goOn_b {t len a a1 d k : Nat} {tx : Nat → Nat} {σ : Sg} {G : TG} {op h sn cm : Nat → Nat} (T : Top t σ len tx G op d h sn cm a a1 k) (hl : a1 < len) (hc : tx a1 = (if G.kd k = 6 then 125 else 93)) :
    Rv (wq_Md_goOn σ) (si (si (ma (ntO t (ma σ a1) G.F (if cm (d - 1) = 1 ∧ sn (d - 1) = 0 then some (10 + 16 * a1) else none)) (a1 + 1)) 61 (160 * t + k) (nI (a1 + 1))) 54 20 (nI (d - 1))) := by
  intro post hp
  refine Md_goOn_w T hl post (fun _ => ?_) (fun q => absurd hc q)
  obtain ⟨m, b, hk, d1, d8, kN, o, kd, N, F, N2, bs, bc⟩ := T
  have m1 := MS_ma (a' := a1) m
  have h3 := m.tt.2.2.2.1
  have h5 := m.tt.2.2.2.2.2 a1 hl
  have q74 : (ma σ a1).1 74 (d - 1) = nI (sn (d - 1)) := m1.s.ss (d - 1) (by omega)
  have q75 : (ma σ a1).1 75 (d - 1) = nI (cm (d - 1)) := m1.s.cc (d - 1) (by omega)
  have hn := Md_note_r (x := 10) (y := a1) m1.tt m1.i.F F
  have fin : ∀ σ3, σ3.1 54 19 = nI a1 → σ3.1 54 20 = nI d → post (si (si (ma σ3 (a1 + 1)) 61 (160 * t + k) (nI (a1 + 1))) 54 20 (nI (d - 1))) → wp_Md_goOn post 8 3 0 (nI (160 * t + k)) (nI (tx a1)) σ3 := by
    intro σ3 p1 p2 p3
    show wb_Md_goOn_3 (wp_Md_goOn post 7) post (nI (160 * t + k)) (nI (tx a1)) σ3
    simp (disch := omega) only [wb_Md_goOn_3, litI, show (-1 : Int32) = -nI 1 from rfl, n_m1, p1, litI, n_le, n_lt, n_eq, n_in, n_cl, nI_add, n_b0, n_b1, n_v0, n_v1, n_m1, n_m1', n_m1l, n_m1l', n_m1g, n_m1ge, si_1, si_2, forall_eq, not_true_eq_false, not_false_eq_true, true_imp_iff, false_imp_iff, true_and, and_true, false_and, and_false, implies_true, ite_true, ite_false, if_true, if_false, Classical.not_not, Nat.reduceEqDiff, reduceIte, Nat.add_left_cancel_iff, Nat.add_eq_left, Nat.left_eq_add, and_self, n_sub, pk_mul]
    show wb_Md_goOn_6 (wp_Md_goOn post 6) post (nI (160 * t + k)) (ma σ3 (a1 + 1))
    simp (disch := omega) only [wb_Md_goOn_6, litI, n_in, n_cl, eq_true (show 160 * t + k < 240 by omega), true_and, forall_eq, si_1, ma, p2, show ¬ (54 = 61) by decide, litI, n_le, n_lt, n_eq, n_in, n_cl, nI_add, n_b0, n_b1, n_v0, n_v1, n_m1, n_m1', n_m1l, n_m1l', n_m1g, n_m1ge, si_1, si_2, forall_eq, not_true_eq_false, not_false_eq_true, true_imp_iff, false_imp_iff, true_and, and_true, false_and, and_false, implies_true, ite_true, ite_false, if_true, if_false, Classical.not_not, Nat.reduceEqDiff, reduceIte, Nat.add_left_cancel_iff, Nat.add_eq_left, Nat.left_eq_add, and_self, n_sub, pk_mul]
    exact p3
  simp (disch := omega) only [wb_Md_goOn_1, show (-1 : Int32) = -nI 1 from rfl, n_m1, litI, n_le, n_lt, n_eq, n_in, n_cl, nI_add, n_b0, n_b1, n_v0, n_v1, n_m1, n_m1', n_m1l, n_m1l', n_m1g, n_m1ge, si_1, si_2, forall_eq, not_true_eq_false, not_false_eq_true, true_imp_iff, false_imp_iff, true_and, and_true, false_and, and_false, implies_true, ite_true, ite_false, if_true, if_false, Classical.not_not, Nat.reduceEqDiff, reduceIte, Nat.add_left_cancel_iff, Nat.add_eq_left, Nat.left_eq_add, and_self, n_sub, pk_mul, eq_true (show d - 1 < 9 by omega), q75, q74]
  by_cases c1 : cm (d - 1) = 0
  · rw [if_neg (by omega)] at hp
    simp only [eq_true c1, litI, n_le, n_lt, n_eq, n_in, n_cl, nI_add, n_b0, n_b1, n_v0, n_v1, n_m1, n_m1', n_m1l, n_m1l', n_m1g, n_m1ge, si_1, si_2, forall_eq, not_true_eq_false, not_false_eq_true, true_imp_iff, false_imp_iff, true_and, and_true, false_and, and_false, implies_true, ite_true, ite_false, if_true, if_false, Classical.not_not, Nat.reduceEqDiff, reduceIte, Nat.add_left_cancel_iff, Nat.add_eq_left, Nat.left_eq_add, and_self, n_sub, pk_mul]
    exact fin _ m1.aa m1.s.dd hp
  · by_cases c2 : sn (d - 1) = 0
    · rw [if_pos (by omega)] at hp
      simp only [eq_false c1, eq_true c2, litI, n_le, n_lt, n_eq, n_in, n_cl, nI_add, n_b0, n_b1, n_v0, n_v1, n_m1, n_m1', n_m1l, n_m1l', n_m1g, n_m1ge, si_1, si_2, forall_eq, not_true_eq_false, not_false_eq_true, true_imp_iff, false_imp_iff, true_and, and_true, false_and, and_false, implies_true, ite_true, ite_false, if_true, if_false, Classical.not_not, Nat.reduceEqDiff, reduceIte, Nat.add_left_cancel_iff, Nat.add_eq_left, Nat.left_eq_add, and_self, n_sub, pk_mul, m1.aa, hn]
      exact fin _ (MS_nt m1).aa (MS_nt m1).s.dd hp
    · rw [if_neg (by omega)] at hp
      simp only [eq_false c1, eq_false c2, litI, n_le, n_lt, n_eq, n_in, n_cl, nI_add, n_b0, n_b1, n_v0, n_v1, n_m1, n_m1', n_m1l, n_m1l', n_m1g, n_m1ge, si_1, si_2, forall_eq, not_true_eq_false, not_false_eq_true, true_imp_iff, false_imp_iff, true_and, and_true, false_and, and_false, implies_true, ite_true, ite_false, if_true, if_false, Classical.not_not, Nat.reduceEqDiff, reduceIte, Nat.add_left_cancel_iff, Nat.add_eq_left, Nat.left_eq_add, and_self, n_sub, pk_mul]
      exact fin _ m1.aa m1.s.dd hp
theorem Md_goOn_c {t len a a1 d k : Nat} {tx : Nat → Nat} {σ : Sg} {G : TG} {op h sn cm : Nat → Nat} (T : Top t σ len tx G op d h sn cm a a1 k) (hl : a1 < len) (hc : tx a1 = 44) :
    Rv (wq_Md_goOn σ) (ma (si (si (ntO t (ma σ a1) G.F (if sn (d - 1) = 0 then some (8 + 16 * a1) else none)) 74 (d - 1) (nI 0)) 75 (d - 1) (nI 1)) (a1 + 1)) := by
  intro post hp
  refine Md_goOn_w T hl post (fun q => by split at q <;> omega) (fun _ => ?_)
  obtain ⟨m, b, hk, d1, d8, kN, o, kd, N, F, N2, bs, bc⟩ := T
  have m1 := MS_ma (a' := a1) m
  have q74 : (ma σ a1).1 74 (d - 1) = nI (sn (d - 1)) := m1.s.ss (d - 1) (by omega)
  have hn := Md_note_r (x := 8) (y := a1) m1.tt m1.i.F F
  have fin : ∀ σ3, σ3.1 54 19 = nI a1 → post (ma (si (si σ3 74 (d - 1) (nI 0)) 75 (d - 1) (nI 1)) (a1 + 1)) → wp_Md_goOn post 8 5 (nI (d - 1)) 0 0 σ3 := by
    intro σ3 p1 p3
    show wb_Md_goOn_5 (wp_Md_goOn post 7) post (nI (d - 1)) σ3
    simp (disch := omega) only [wb_Md_goOn_5, litI, n_le, n_lt, n_eq, n_in, n_cl, nI_add, n_b0, n_b1, n_v0, n_v1, n_m1, n_m1', n_m1l, n_m1l', n_m1g, n_m1ge, si_1, si_2, forall_eq, not_true_eq_false, not_false_eq_true, true_imp_iff, false_imp_iff, true_and, and_true, false_and, and_false, implies_true, ite_true, ite_false, if_true, if_false, Classical.not_not, Nat.reduceEqDiff, reduceIte, Nat.add_left_cancel_iff, Nat.add_eq_left, Nat.left_eq_add, and_self, n_sub, pk_mul, eq_true (show d - 1 < 9 by omega), p1, show ¬ (54 = 74) by decide, show ¬ (54 = 75) by decide]
    exact p3
  simp (disch := omega) only [wb_Md_goOn_2, hc, litI, n_le, n_lt, n_eq, n_in, n_cl, nI_add, n_b0, n_b1, n_v0, n_v1, n_m1, n_m1', n_m1l, n_m1l', n_m1g, n_m1ge, si_1, si_2, forall_eq, not_true_eq_false, not_false_eq_true, true_imp_iff, false_imp_iff, true_and, and_true, false_and, and_false, implies_true, ite_true, ite_false, if_true, if_false, Classical.not_not, Nat.reduceEqDiff, reduceIte, Nat.add_left_cancel_iff, Nat.add_eq_left, Nat.left_eq_add, and_self, n_sub, pk_mul, eq_true (show d - 1 < 9 by omega), q74]
  by_cases c2 : sn (d - 1) = 0
  · rw [if_pos c2] at hp
    simp only [eq_true c2, litI, n_le, n_lt, n_eq, n_in, n_cl, nI_add, n_b0, n_b1, n_v0, n_v1, n_m1, n_m1', n_m1l, n_m1l', n_m1g, n_m1ge, si_1, si_2, forall_eq, not_true_eq_false, not_false_eq_true, true_imp_iff, false_imp_iff, true_and, and_true, false_and, and_false, implies_true, ite_true, ite_false, if_true, if_false, Classical.not_not, Nat.reduceEqDiff, reduceIte, Nat.add_left_cancel_iff, Nat.add_eq_left, Nat.left_eq_add, and_self, n_sub, pk_mul, m1.aa, hn]
    exact fin _ (MS_nt m1).aa hp
  · rw [if_neg c2] at hp
    simp only [eq_false c2, litI, n_le, n_lt, n_eq, n_in, n_cl, nI_add, n_b0, n_b1, n_v0, n_v1, n_m1, n_m1', n_m1l, n_m1l', n_m1g, n_m1ge, si_1, si_2, forall_eq, not_true_eq_false, not_false_eq_true, true_imp_iff, false_imp_iff, true_and, and_true, false_and, and_false, implies_true, ite_true, ite_false, if_true, if_false, Classical.not_not, Nat.reduceEqDiff, reduceIte, Nat.add_left_cancel_iff, Nat.add_eq_left, Nat.left_eq_add, and_self, n_sub, pk_mul]
    exact fin _ m1.aa hp
/-- an item begins -/
theorem Md_goOn_d {t len a a1 d k : Nat} {tx : Nat → Nat} {σ : Sg} {G : TG} {op h sn cm : Nat → Nat} (T : Top t σ len tx G op d h sn cm a a1 k) (hl : a1 < len) (hc : if G.kd k = 6 then tx a1 = 34 else stt (tx a1) d) (post : Sg → Prop)
    (hp : if G.kd k = 6 then wq_Md_member (nI (160 * t + k)) (si (ntO t (ma σ a1) G.F (if sn (d - 1) = 0 then none else some (9 + 16 * a1))) 74 (d - 1) (nI 1)) post else wq_Md_value (-nI 1) (-nI 1) (si (ntO t (ma σ a1) G.F (if sn (d - 1) = 0 then none else some (9 + 16 * a1))) 74 (d - 1) (nI 1)) post) : wq_Md_goOn σ post := by
  have hne : ¬ tx a1 = (if G.kd k = 6 then 125 else 93) := by
    split at hc
    · rename_i h6; rw [if_pos h6]; omega
    · rename_i h6; rw [if_neg h6]; omega
  have hn44 : ¬ tx a1 = 44 := by split at hc <;> omega
  refine Md_goOn_w T hl post (fun q => absurd q hne) (fun _ => ?_)
  obtain ⟨m, b, hk, d1, d8, kN, o, kd, N, F, N2, bs, bc⟩ := T
  have m1 := MS_ma (a' := a1) m
  have h3 := m.tt.2.2.2.1
  have h5 := m.tt.2.2.2.2.2 a1 hl
  have q74 : (ma σ a1).1 74 (d - 1) = nI (sn (d - 1)) := m1.s.ss (d - 1) (by omega)
  have q59 : (ma σ a1).1 59 (160 * t + k) = nI (G.kd k) := m1.i.kd k kN o
  have hn := Md_note_r (x := 9) (y := a1) m1.tt m1.i.F F
  have fin : ∀ σ3, σ3.1 59 (160 * t + k) = nI (G.kd k) → (if G.kd k = 6 then wq_Md_member (nI (160 * t + k)) (si σ3 74 (d - 1) (nI 1)) post else wq_Md_value (-nI 1) (-nI 1) (si σ3 74 (d - 1) (nI 1)) post) → wp_Md_goOn post 7 7 (nI (d - 1)) (nI (160 * t + k)) 0 σ3 := by
    intro σ3 p1 p3
    show wb_Md_goOn_7 (wp_Md_goOn post 6) post (nI (d - 1)) (nI (160 * t + k)) σ3
    rcases kd with kd | kd
    · rw [kd, if_neg (by decide)] at p3
      simp (disch := omega) only [wb_Md_goOn_7, litI, n_le, n_lt, n_eq, n_in, n_cl, nI_add, n_b0, n_b1, n_v0, n_v1, n_m1, n_m1', n_m1l, n_m1l', n_m1g, n_m1ge, si_1, si_2, forall_eq, not_true_eq_false, not_false_eq_true, true_imp_iff, false_imp_iff, true_and, and_true, false_and, and_false, implies_true, ite_true, ite_false, if_true, if_false, Classical.not_not, Nat.reduceEqDiff, reduceIte, Nat.add_left_cancel_iff, Nat.add_eq_left, Nat.left_eq_add, and_self, n_sub, pk_mul, eq_true (show d - 1 < 9 by omega), eq_true (show 160 * t + k < 240 by omega), p1, kd, show ¬ (59 = 74) by decide, show (-1 : Int32) = -nI 1 from rfl]
      exact p3
    · rw [kd, if_pos rfl] at p3
      simp (disch := omega) only [wb_Md_goOn_7, litI, n_le, n_lt, n_eq, n_in, n_cl, nI_add, n_b0, n_b1, n_v0, n_v1, n_m1, n_m1', n_m1l, n_m1l', n_m1g, n_m1ge, si_1, si_2, forall_eq, not_true_eq_false, not_false_eq_true, true_imp_iff, false_imp_iff, true_and, and_true, false_and, and_false, implies_true, ite_true, ite_false, if_true, if_false, Classical.not_not, Nat.reduceEqDiff, reduceIte, Nat.add_left_cancel_iff, Nat.add_eq_left, Nat.left_eq_add, and_self, n_sub, pk_mul, eq_true (show d - 1 < 9 by omega), eq_true (show 160 * t + k < 240 by omega), p1, kd, show ¬ (59 = 74) by decide, show ¬ (6 = 5) by decide]
      exact p3
  have s4 : wp_Md_goOn post 8 4 (nI (d - 1)) (nI (160 * t + k)) 0 (ma σ a1) := by
    show wb_Md_goOn_4 (wp_Md_goOn post 7) post (nI (d - 1)) (nI (160 * t + k)) (ma σ a1)
    simp (disch := omega) only [wb_Md_goOn_4, litI, n_le, n_lt, n_eq, n_in, n_cl, nI_add, n_b0, n_b1, n_v0, n_v1, n_m1, n_m1', n_m1l, n_m1l', n_m1g, n_m1ge, si_1, si_2, forall_eq, not_true_eq_false, not_false_eq_true, true_imp_iff, false_imp_iff, true_and, and_true, false_and, and_false, implies_true, ite_true, ite_false, if_true, if_false, Classical.not_not, Nat.reduceEqDiff, reduceIte, Nat.add_left_cancel_iff, Nat.add_eq_left, Nat.left_eq_add, and_self, n_sub, pk_mul, eq_true (show d - 1 < 9 by omega), q74]
    by_cases c2 : sn (d - 1) = 0
    · rw [if_pos c2] at hp
      simp only [eq_true c2, litI, n_le, n_lt, n_eq, n_in, n_cl, nI_add, n_b0, n_b1, n_v0, n_v1, n_m1, n_m1', n_m1l, n_m1l', n_m1g, n_m1ge, si_1, si_2, forall_eq, not_true_eq_false, not_false_eq_true, true_imp_iff, false_imp_iff, true_and, and_true, false_and, and_false, implies_true, ite_true, ite_false, if_true, if_false, Classical.not_not, Nat.reduceEqDiff, reduceIte, Nat.add_left_cancel_iff, Nat.add_eq_left, Nat.left_eq_add, and_self, n_sub, pk_mul]
      exact fin _ q59 hp
    · rw [if_neg c2] at hp
      simp only [eq_false c2, litI, n_le, n_lt, n_eq, n_in, n_cl, nI_add, n_b0, n_b1, n_v0, n_v1, n_m1, n_m1', n_m1l, n_m1l', n_m1g, n_m1ge, si_1, si_2, forall_eq, not_true_eq_false, not_false_eq_true, true_imp_iff, false_imp_iff, true_and, and_true, false_and, and_false, implies_true, ite_true, ite_false, if_true, if_false, Classical.not_not, Nat.reduceEqDiff, reduceIte, Nat.add_left_cancel_iff, Nat.add_eq_left, Nat.left_eq_add, and_self, n_sub, pk_mul, m1.aa, hn]
      exact fin _ (by rw [show (nt t (ma σ a1) G.F (9 + 16 * a1)) = ntO t (ma σ a1) G.F (some (9 + 16 * a1)) from rfl, ntO_c (by decide) (by decide)]; exact q59) hp
  rcases kd with kd | kd
  · rw [kd, if_neg (by decide)] at hc
    simp (disch := omega) only [wb_Md_goOn_2, eq_false hn44, litI, n_le, n_lt, n_eq, n_in, n_cl, nI_add, n_b0, n_b1, n_v0, n_v1, n_m1, n_m1', n_m1l, n_m1l', n_m1g, n_m1ge, si_1, si_2, forall_eq, not_true_eq_false, not_false_eq_true, true_imp_iff, false_imp_iff, true_and, and_true, false_and, and_false, implies_true, ite_true, ite_false, if_true, if_false, Classical.not_not, Nat.reduceEqDiff, reduceIte, Nat.add_left_cancel_iff, Nat.add_eq_left, Nat.left_eq_add, and_self, n_sub, pk_mul, eq_true (show 160 * t + k < 240 by omega), q59, kd]
    rw [Md_startsB m1.tt m1.aa m1.s.dd (by omega) d8, if_pos ⟨hl, hc⟩]
    exact s4
  · rw [kd, if_pos rfl] at hc
    simp (disch := omega) only [wb_Md_goOn_2, hc, litI, n_le, n_lt, n_eq, n_in, n_cl, nI_add, n_b0, n_b1, n_v0, n_v1, n_m1, n_m1', n_m1l, n_m1l', n_m1g, n_m1ge, si_1, si_2, forall_eq, not_true_eq_false, not_false_eq_true, true_imp_iff, false_imp_iff, true_and, and_true, false_and, and_false, implies_true, ite_true, ite_false, if_true, if_false, Classical.not_not, Nat.reduceEqDiff, reduceIte, Nat.add_left_cancel_iff, Nat.add_eq_left, Nat.left_eq_add, and_self, n_sub, pk_mul, eq_true (show 160 * t + k < 240 by omega), q59, kd, show ¬ (6 = 5) by decide, show ¬ (34 = 44) by decide]
    exact s4
theorem Md_goOn_e {t len a a1 d k : Nat} {tx : Nat → Nat} {σ : Sg} {G : TG} {op h sn cm : Nat → Nat} (T : Top t σ len tx G op d h sn cm a a1 k) (hl : a1 < len) (h1 : ¬ tx a1 = (if G.kd k = 6 then 125 else 93)) (h2 : ¬ tx a1 = 44) (hc : if G.kd k = 6 then ¬ tx a1 = 34 else ¬ stt (tx a1) d) :
    Rv (wq_Md_goOn σ) (ma (nt t (ma σ a1) G.F ((if 8 ≤ d ∧ isOp (tx a1) then 14 else 3) + 16 * a1)) (a1 + 1)) := by
  intro post hp
  refine Md_goOn_w T hl post (fun q => absurd q h1) (fun _ => ?_)
  obtain ⟨m, b, hk, d1, d8, kN, o, kd, N, F, N2, bs, bc⟩ := T
  have m1 := MS_ma (a' := a1) m
  have h3 := m.tt.2.2.2.1
  have h5 := m.tt.2.2.2.2.2 a1 hl
  have q59 : (ma σ a1).1 59 (160 * t + k) = nI (G.kd k) := m1.i.kd k kN o
  have hs := Md_stray_r m1.tt m1.aa m1.s.dd hl d8 m1.i.F F
  rcases kd with kd | kd
  · rw [kd, if_neg (by decide)] at hc
    simp (disch := omega) only [wb_Md_goOn_2, eq_false h2, litI, n_le, n_lt, n_eq, n_in, n_cl, nI_add, n_b0, n_b1, n_v0, n_v1, n_m1, n_m1', n_m1l, n_m1l', n_m1g, n_m1ge, si_1, si_2, forall_eq, not_true_eq_false, not_false_eq_true, true_imp_iff, false_imp_iff, true_and, and_true, false_and, and_false, implies_true, ite_true, ite_false, if_true, if_false, Classical.not_not, Nat.reduceEqDiff, reduceIte, Nat.add_left_cancel_iff, Nat.add_eq_left, Nat.left_eq_add, and_self, n_sub, pk_mul, eq_true (show 160 * t + k < 240 by omega), q59, kd]
    rw [Md_startsB m1.tt m1.aa m1.s.dd (by omega) d8, if_neg (fun q => hc q.2)]
    exact hs _ hp
  · rw [kd, if_pos rfl] at hc
    simp (disch := omega) only [wb_Md_goOn_2, eq_false h2, eq_false hc, litI, n_le, n_lt, n_eq, n_in, n_cl, nI_add, n_b0, n_b1, n_v0, n_v1, n_m1, n_m1', n_m1l, n_m1l', n_m1g, n_m1ge, si_1, si_2, forall_eq, not_true_eq_false, not_false_eq_true, true_imp_iff, false_imp_iff, true_and, and_true, false_and, and_false, implies_true, ite_true, ite_false, if_true, if_false, Classical.not_not, Nat.reduceEqDiff, reduceIte, Nat.add_left_cancel_iff, Nat.add_eq_left, Nat.left_eq_add, and_self, n_sub, pk_mul, eq_true (show 160 * t + k < 240 by omega), q59, kd, show ¬ (6 = 5) by decide]
    exact hs _ hp
