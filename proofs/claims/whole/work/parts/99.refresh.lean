/-- what the reference's cells say of a text -/
def TT (t : Nat) (σ : Sg) (len : Nat) (tx : Nat → Nat) : Prop := TX t σ len tx ∧ σ.1 57 t = nI len
def op0 : Nat → Nat := fun _ => 0
/-- the tree is what the reference reads, wherever it begins -/
def MR (t len : Nat) (tx : Nat → Nat) (G : TG) : Prop := ∀ σm : Sg, TT t σm len tx → σm.2.1 55 = mwords → ∃ σm', Rv (wq_Md_read (nI t) σm) σm' ∧ MI t σm' len tx G op0 ∧ σm'.1 54 18 = nI t ∧ MFr t σm σm'
/-- a tree that has been read -/
abbrev TR (t len : Nat) (tx : Nat → Nat) (G : TG) : Prop := (WG len G) ∧ (G.N ≤ len) ∧ (G.F ≤ 2 * len + 11) ∧ (5 * tqG tx len G ≤ len) ∧ (G.F = 0 → 2 * G.N ≤ len + 1 ∧ 0 < G.N) ∧ (QT tx G) ∧ (MR t len tx G)
theorem TR.w {t len : Nat} {tx : Nat → Nat} {G : TG} (hX : TR t len tx G) : WG len G := hX.1
theorem TR.n {t len : Nat} {tx : Nat → Nat} {G : TG} (hX : TR t len tx G) : G.N ≤ len := hX.2.1
theorem TR.f {t len : Nat} {tx : Nat → Nat} {G : TG} (hX : TR t len tx G) : G.F ≤ 2 * len + 11 := hX.2.2.1
theorem TR.q {t len : Nat} {tx : Nat → Nat} {G : TG} (hX : TR t len tx G) : 5 * tqG tx len G ≤ len := hX.2.2.2.1
theorem TR.z {t len : Nat} {tx : Nat → Nat} {G : TG} (hX : TR t len tx G) : G.F = 0 → 2 * G.N ≤ len + 1 ∧ 0 < G.N := hX.2.2.2.2.1
theorem TR.t {t len : Nat} {tx : Nat → Nat} {G : TG} (hX : TR t len tx G) : QT tx G := hX.2.2.2.2.2.1
theorem TR.m {t len : Nat} {tx : Nat → Nat} {G : TG} (hX : TR t len tx G) : MR t len tx G := hX.2.2.2.2.2.2
theorem WG_0 {len : Nat} {G : TG} (h : G.N = 0) : WG len G :=
  ⟨fun k hk => by omega, fun k hk => by omega, fun k hk => by omega, fun k hk => by omega, fun k hk => by omega, fun k hk => by omega, fun k hk => by omega, fun k hk => by omega, fun k hk => by omega⟩
theorem QT_0 {tx : Nat → Nat} {G : TG} (h : G.N = 0) : QT tx G := fun k hk => by omega
theorem tqG_0 {tx : Nat → Nat} {len : Nat} {G : TG} (h : G.N = 0) : tqG tx len G = 0 := by unfold tqG; rw [h]; rfl
theorem rloop {b t len : Nat} {tx : Nat → Nat} (hbt : (b = 0 ∧ t = 0) ∨ (b = 13 ∧ t = 1)) (hlen : len ≤ tl b) :
    ∀ (m : Nat) (σ : Sg) (G : TG) (a r : Nat), len - a ≤ m → CI b σ len tx G op0 → G.N = 0 → G.F ≤ a → σ.1 (b + 12) 4 = nI a → a ≤ len → r ≤ a →
      ∃ σ' G', (∀ post : Sg → Prop, post σ' → ∃ f, wp_Rd_refresh b post f 1 (nI r) σ) ∧ CI b σ' len tx G' op0 ∧ CFr b σ σ' ∧ σ'.1 (b + 12) 1 = σ.1 (b + 12) 1 ∧ WG len G' ∧ G'.N ≤ len ∧ G'.F ≤ 2 * len + 11 ∧ 5 * tqG tx len G' ≤ len ∧ (G'.F = 0 → 2 * G'.N ≤ len + 1 ∧ 0 < G'.N) ∧ QT tx G' ∧
        ∀ (σm : Sg) (h sn cm : Nat → Nat), MS t σm len tx G op0 0 h sn cm a → ∃ σm', (∀ post : Sg → Prop, post σm' → ∃ f, wp_Md_read post f 1 0 σm) ∧ MI t σm' len tx G' op0 ∧ σm'.1 54 18 = nI t ∧ MFr t σm σm' := by
  have hb : b = 0 ∨ b = 13 := by omega
  have h4 := tl_le b
  have htl : 160 * t + tl b ≤ 240 := by rcases hbt with ⟨q1, q2⟩ | ⟨q1, q2⟩ <;> (subst q1; subst q2; decide)
  have htf : 2 * tl b + 17 ≤ tf b ∧ 2 * tl b + 17 < 400 := by rcases hbt with ⟨q1, q2⟩ | ⟨q1, q2⟩ <;> (subst q1; decide)
  have fin : ∀ (σ : Sg) (G : TG) (a r : Nat), CI b σ len tx G op0 → G.N = 0 → G.F ≤ a → σ.1 (b + 12) 4 = nI a → a = len → r ≤ a →
      ∃ σ' G', (∀ post : Sg → Prop, post σ' → ∃ f, wp_Rd_refresh b post f 1 (nI r) σ) ∧ CI b σ' len tx G' op0 ∧ CFr b σ σ' ∧ σ'.1 (b + 12) 1 = σ.1 (b + 12) 1 ∧ WG len G' ∧ G'.N ≤ len ∧ G'.F ≤ 2 * len + 11 ∧ 5 * tqG tx len G' ≤ len ∧ (G'.F = 0 → 2 * G'.N ≤ len + 1 ∧ 0 < G'.N) ∧ QT tx G' ∧
        ∀ (σm : Sg) (h sn cm : Nat → Nat), MS t σm len tx G op0 0 h sn cm a → ∃ σm', (∀ post : Sg → Prop, post σm' → ∃ f, wp_Md_read post f 1 0 σm) ∧ MI t σm' len tx G' op0 ∧ σm'.1 54 18 = nI t ∧ MFr t σm σm' := by
    intro σ G a r hC hN hF ha hal hr
    refine ⟨bl b σ G.F (1 + 16 * a), gF G (1 + 16 * a), fun post hp => ?_, CI_bl hb hC, CFr_bl CFr_r, bl_c (by omega) (by omega), WG_0 hN, by show G.N ≤ _; omega, by show G.F + 1 ≤ _; omega, by show 5 * tqG tx len G ≤ _; rw [tqG_0 hN]; omega, fun q => absurd q (Nat.succ_ne_zero _), QT_0 hN, ?_⟩
    · refine ⟨2, ?_⟩
      show wb_Rd_refresh_1 b (wp_Rd_refresh b post 1) post (nI r) σ
      have s2 : wp_Rd_refresh b post 1 2 0 σ := by
        show wb_Rd_refresh_2 b (wp_Rd_refresh b post 0) post σ
        simp (disch := omega) only [wb_Rd_refresh_2, ha, hC.t.1, n_lt, eq_false (show ¬ a < len by omega), not_false_eq_true, false_imp_iff, true_imp_iff, true_and, litI, Tr_blame_r hC.F (show G.F < tf b by omega)]
        exact hp
      simp (disch := omega) only [wb_Rd_refresh_1, ha, hC.t.1, n_le, eq_true (show len ≤ a by omega), not_true_eq_false, false_imp_iff, true_imp_iff, and_true]
      exact ⟨fun _ => s2, fun _ => s2⟩
    · intro σm h sn cm m
      have h3 := m.tt.2.2.2.1
      refine ⟨nt t σm G.F (1 + 16 * a), fun post hp => ⟨2, ?_⟩, (MS_nt m).i, (MS_nt m).tt.2.1, MFr_nt MFr_r (by omega)⟩
      show wb_Md_read_1 (wp_Md_read post 1) post σm
      have s2 : wp_Md_read post 1 2 0 σm := by
        show wb_Md_read_2 (wp_Md_read post 0) post σm
        unfold wb_Md_read_2
        rw [Md_here_e m.tt m.aa (by omega) (by omega)]
        simp (disch := omega) only [litI, show (nI 0 ≤ -nI 1) = False by decide +kernel, not_false_eq_true, false_imp_iff, true_imp_iff, true_and, m.aa, Md_note_r m.tt m.i.F (show G.F < 400 by omega)]
        exact hp
      unfold wb_Md_read_1
      rw [Md_here_e m.tt m.aa (by omega) (by omega)]
      simp (disch := omega) only [litI, show (-nI 1 < nI 0) = True by decide +kernel, not_true_eq_false, false_imp_iff, true_imp_iff, and_true]
      exact s2
  intro m
  induction m with
  | zero =>
    intro σ G a r hm hC hN hF ha hal hr
    exact fin σ G a r hC hN hF ha (by omega) hr
  | succ m ih =>
    intro σ G a r hm hC hN hF ha hal hr
    rcases Nat.eq_or_lt_of_le hal with e | hl
    · exact fin σ G a r hC hN hF ha e hr
    have h5 := hC.t.2.2 a hl
    by_cases hst : stt (tx a) 0
    · -- the value
      obtain ⟨σ1, G1, a1, v1, v2, v3, v4, v5, v6, v7, v8, v9, v10, v11, v12, v13⟩ := value hbt hlen 10 0 (by omega) (by omega) σ G op0 none none a hC (WG_0 hN) (fun _ _ => rfl) ha hl hst rfl ⟨rfl, hN⟩ (fun p hp => by cases hp) (by omega) (by rw [tqG_0 hN]; unfold nlen; rw [cI_f (by simp)]; omega) (fun _ => by omega) (by omega) (QT_0 hN) (fun n q => by cases q)
      obtain ⟨a2, hs⟩ := Sp_ex (fun c => c = 32) tx len a1 v7
      have hs1 := hs.1
      have hs2 := hs.2.1
      have b1 := v10.nn
      have b2 := v10.qq
      have b3 := v10.zz
      have b4 := v10.ff
      have b5 : G1.F ≤ 2 * len + 11 := by unfold fB at b4; split at b4 <;> omega
      let fo : Option Nat := if a2 < len then some (2 + 16 * a2) else none
      have hFo : (gFo G1 fo).F ≤ 2 * len + 11 := by
        by_cases q : a2 < len
        · have : (gFo G1 fo).F ≤ G1.F + 1 := gFo_le
          unfold fB at b4; rw [if_pos (by omega)] at b4; omega
        · have : fo = none := by simp only [fo]; rw [if_neg q]
          rw [this]; exact b5
      have c2 := CI_ca (a := a2) hb v2
      have e12 : (ca b σ1 a2).1 (b + 12) 4 = nI a2 := by simp [ca, si_1]
      refine ⟨blO b (ca b σ1 a2) G1.F fo, gFo G1 fo, fun post hp => ?_, CI_blO hb c2, CFr_blO (CFr_ca v11), ?_, WG_gFo v3, by rw [gFo_N]; omega, hFo, by rw [tqG_Fo]; omega, fun q => ?_, QT_Fo v10.qt, ?_⟩
      · refine ⟨2, ?_⟩
        show wb_Rd_refresh_1 b (wp_Rd_refresh b post 1) post (nI r) σ
        simp (disch := omega) only [wb_Rd_refresh_1, ha, hC.t.1, n_le, eq_false (show ¬ len ≤ a by omega), eq_false (show ¬ len ≤ r by omega), not_false_eq_true, false_imp_iff, true_imp_iff, true_and, litI]
        rw [Rd_valueBegins_r hC.t ha hal (by omega), bI_t ⟨hl, hst⟩]
        simp (disch := omega) only [litI, n_le, n_lt, n_eq, n_in, n_cl, nI_add, n_b0, n_b1, n_v0, n_v1, n_m1, n_m1', n_m1l, n_m1l', n_m1g, n_m1ge, si_1, si_2, forall_eq, not_true_eq_false, not_false_eq_true, true_imp_iff, false_imp_iff, true_and, and_true, false_and, and_false, implies_true, ite_true, ite_false, if_true, if_false, Classical.not_not, Nat.reduceEqDiff, reduceIte, Nat.add_left_cancel_iff, Nat.add_eq_left, Nat.left_eq_add, and_self, n_sub, pk_mul, show ¬ (1 = 0) by decide]
        show wb_Rd_refresh_2 b (wp_Rd_refresh b post 0) post σ
        simp (disch := omega) only [wb_Rd_refresh_2, ha, hC.t.1, n_lt, eq_true (show a < len by omega), not_true_eq_false, false_imp_iff, true_imp_iff, and_true, litI, show (-1 : Int32) = -nI 1 from rfl]
        refine v1 _ ?_
        refine Rd_passBlanks_r v2.t v5 hs _ ?_
        have es : si σ1 (b + 12) 4 (nI a2) = ca b σ1 a2 := rfl
        rw [es]
        have e10 : (ca b σ1 a2).1 (b + 10) 1 = nI len := c2.t.1
        by_cases q : a2 < len
        · have hfo : fo = some (2 + 16 * a2) := by simp only [fo]; rw [if_pos q]
          rw [hfo] at hp
          have hF1 : G1.F < tf b := by unfold fB at b4; rw [if_pos (by omega)] at b4; omega
          simp (disch := omega) only [e12, e10, n_le, eq_false (show ¬ len ≤ a2 by omega), not_false_eq_true, false_imp_iff, true_imp_iff, true_and, Tr_blame_r c2.F hF1]
          exact hp
        · have hfo : fo = none := by simp only [fo]; rw [if_neg q]
          rw [hfo] at hp
          simp (disch := omega) only [e12, e10, n_le, eq_true (show len ≤ a2 by omega), not_true_eq_false, false_imp_iff, true_imp_iff, and_true]
          exact hp
      · rw [blO_c (by omega) (by omega)]
        have q1 : (ca b σ1 a2).1 (b + 12) 1 = σ1.1 (b + 12) 1 := by simp [ca, si_1]
        rw [q1]
        -- the mark that it is fresh stays
        exact v11.2 _ _ (by unfold Pc; omega)
      · have h0 : G1.F = 0 := by have := (Ex_gFo (G := G1) (fo := fo) (p := none)).F; omega
        have := b3 h0
        rw [gFo_N]; omega
      · intro σm h sn cm mm
        have h3 := mm.tt.2.2.2.1
        obtain ⟨σ3, σ4, w1, w2, w3, w4⟩ := v13 σm h sn cm (-nI 1) mm (fun j hj => by omega) (fun p hp => by cases hp) (fun _ => rfl) (fun n hn => by cases hn)
        have m4 := MS_ma (a' := a2) w3
        have hF1 : a2 < len → G1.F < 400 := fun q => by unfold fB at b4; rw [if_pos (by omega)] at b4; omega
        refine ⟨ntO t (ma σ4 a2) G1.F fo, fun post hp => ?_, (MS_ntO m4).i, (MS_ntO m4).tt.2.1, ?_⟩
        · have s3 : wp_Md_read post 1 3 0 σ4 := by
            show wb_Md_read_3 (wp_Md_read post 0) post σ4
            simp (disch := omega) only [wb_Md_read_3, w3.s.dd, litI, n_le, Nat.le_refl, not_true_eq_false, false_imp_iff, true_imp_iff, and_true]
            refine Md_blanks_r w3.tt w3.aa hs _ ?_
            have es : si σ4 54 19 (nI a2) = ma σ4 a2 := rfl
            rw [es]
            by_cases q : a2 < len
            · have hfo : fo = some (2 + 16 * a2) := by simp only [fo]; rw [if_pos q]
              rw [hfo] at hp
              have q5 := m4.tt.2.2.2.2.2 a2 q
              rw [Md_here_r m4.tt m4.aa q]
              simp (disch := omega) only [n_lt, Nat.not_lt_zero, not_false_eq_true, false_imp_iff, true_imp_iff, true_and, m4.aa, Md_note_r m4.tt m4.i.F (hF1 q)]
              exact hp
            · have hfo : fo = none := by simp only [fo]; rw [if_neg q]
              rw [hfo] at hp
              rw [Md_here_e m4.tt m4.aa (by omega) (by omega)]
              simp (disch := omega) only [show (-nI 1 < nI 0) = True by decide +kernel, not_true_eq_false, false_imp_iff, true_imp_iff, and_true]
              exact hp
          obtain ⟨f, hf⟩ := w2 post ⟨1, s3⟩
          refine ⟨f + 2, ?_⟩
          show wb_Md_read_1 (wp_Md_read post (f + 1)) post σm
          unfold wb_Md_read_1
          rw [Md_here_r mm.tt mm.aa hl]
          simp (disch := omega) only [litI, n_lt, Nat.not_lt_zero, not_false_eq_true, false_imp_iff, true_imp_iff, true_and]
          rw [Md_starts_r mm.tt mm.aa mm.s.dd hal (by omega), bI_t ⟨hl, hst⟩]
          simp (disch := omega) only [litI, n_le, n_lt, n_eq, n_in, n_cl, nI_add, n_b0, n_b1, n_v0, n_v1, n_m1, n_m1', n_m1l, n_m1l', n_m1g, n_m1ge, si_1, si_2, forall_eq, not_true_eq_false, not_false_eq_true, true_imp_iff, false_imp_iff, true_and, and_true, false_and, and_false, implies_true, ite_true, ite_false, if_true, if_false, Classical.not_not, Nat.reduceEqDiff, reduceIte, Nat.add_left_cancel_iff, Nat.add_eq_left, Nat.left_eq_add, and_self, n_sub, pk_mul, show ¬ (1 = 0) by decide]
          show wb_Md_read_2 (wp_Md_read post f) post σm
          unfold wb_Md_read_2
          rw [Md_here_r mm.tt mm.aa hl]
          simp (disch := omega) only [litI, n_le, Nat.zero_le, not_true_eq_false, false_imp_iff, true_imp_iff, and_true, show (-1 : Int32) = -nI 1 from rfl]
          exact w1 _ hf
        · by_cases q : a2 < len
          · exact MFr_ntO (MFr_ma w4) (hF1 q)
          · have hfo : fo = none := by simp only [fo]; rw [if_neg q]
            rw [hfo]; exact MFr_ma w4
    · -- what is wrong
      let v : Nat := (if 8 ≤ 0 ∧ isOp (tx a) then 14 else 3) + 16 * a
      obtain ⟨a2, hs⟩ := Sp_ex (fun c => c = 32) tx len (a + 1) hl
      have hs1 := hs.1
      have hs2 := hs.2.1
      have c1 : CI b (ca b (bl b σ G.F v) (a + 1)) len tx (gF G v) op0 := CI_ca hb (CI_bl hb hC)
      have c2 : CI b (ca b (ca b (bl b σ G.F v) (a + 1)) a2) len tx (gF G v) op0 := CI_ca hb c1
      obtain ⟨σ', G', i1, i2, i3, i4, i5⟩ := ih _ (gF G v) a2 (r + 1) (by omega) c2 hN (by show G.F + 1 ≤ _; omega) (by simp [ca, si_1]) hs2 (by omega)
      refine ⟨σ', G', fun post hp => ?_, i2, CFr_t (CFr_ca (CFr_ca (CFr_bl CFr_r))) i3, ?_, i5.1, i5.2.1, i5.2.2.1, i5.2.2.2.1, i5.2.2.2.2.1, i5.2.2.2.2.2.1, ?_⟩
      · obtain ⟨f, hf⟩ := i1 post hp
        refine ⟨f + 1, ?_⟩
        show wb_Rd_refresh_1 b (wp_Rd_refresh b post f) post (nI r) σ
        simp (disch := omega) only [wb_Rd_refresh_1, ha, hC.t.1, n_le, eq_false (show ¬ len ≤ a by omega), eq_false (show ¬ len ≤ r by omega), not_false_eq_true, false_imp_iff, true_imp_iff, true_and, litI]
        rw [Rd_valueBegins_r hC.t ha hal (by omega), bI_f (fun q => hst q.2)]
        simp (disch := omega) only [litI, n_le, n_lt, n_eq, n_in, n_cl, nI_add, n_b0, n_b1, n_v0, n_v1, n_m1, n_m1', n_m1l, n_m1l', n_m1g, n_m1ge, si_1, si_2, forall_eq, not_true_eq_false, not_false_eq_true, true_imp_iff, false_imp_iff, true_and, and_true, false_and, and_false, implies_true, ite_true, ite_false, if_true, if_false, Classical.not_not, Nat.reduceEqDiff, reduceIte, Nat.add_left_cancel_iff, Nat.add_eq_left, Nat.left_eq_add, and_self, n_sub, pk_mul]
        refine Rd_passWrong_r hC.t ha hl (by omega) hC.F (by omega) _ ?_
        exact Rd_passBlanks_r c1.t (by simp [ca, si_1]) hs _ hf
      · rw [i4]
        have : (ca b (ca b (bl b σ G.F v) (a + 1)) a2).1 (b + 12) 1 = (bl b σ G.F v).1 (b + 12) 1 := by simp [ca, si_1]
        rw [this, bl_c (by omega) (by omega)]
      · intro σm h sn cm mm
        have h3 := mm.tt.2.2.2.1
        have m1 := MS_ma (a' := a + 1) (MS_nt (v := v) mm)
        have h5m := mm.tt.2.2.2.2.2 a hl
        obtain ⟨σm', w1, w2, w2b, w3⟩ := i5.2.2.2.2.2.2 _ h sn cm (MS_ma (a' := a2) m1)
        refine ⟨σm', fun post hp => ?_, w2, w2b, MFr_t (MFr_ma (MFr_ma (MFr_nt MFr_r (by omega)))) w3⟩
        obtain ⟨f, hf⟩ := w1 post hp
        refine ⟨f + 1, ?_⟩
        show wb_Md_read_1 (wp_Md_read post f) post σm
        unfold wb_Md_read_1
        rw [Md_here_r mm.tt mm.aa hl]
        simp (disch := omega) only [litI, n_lt, Nat.not_lt_zero, not_false_eq_true, false_imp_iff, true_imp_iff, true_and]
        rw [Md_starts_r mm.tt mm.aa mm.s.dd hal (by omega), bI_f (fun q => hst q.2)]
        simp (disch := omega) only [litI, n_le, n_lt, n_eq, n_in, n_cl, nI_add, n_b0, n_b1, n_v0, n_v1, n_m1, n_m1', n_m1l, n_m1l', n_m1g, n_m1ge, si_1, si_2, forall_eq, not_true_eq_false, not_false_eq_true, true_imp_iff, false_imp_iff, true_and, and_true, false_and, and_false, implies_true, ite_true, ite_false, if_true, if_false, Classical.not_not, Nat.reduceEqDiff, reduceIte, Nat.add_left_cancel_iff, Nat.add_eq_left, Nat.left_eq_add, and_self, n_sub, pk_mul]
        refine Md_stray_r mm.tt mm.aa mm.s.dd hl (by omega) mm.i.F (by omega) _ ?_
        exact Md_blanks_r m1.tt m1.aa hs _ hf
theorem refresh {b t len : Nat} {tx : Nat → Nat} (hbt : (b = 0 ∧ t = 0) ∨ (b = 13 ∧ t = 1)) {σ : Sg} (hT : Tx b σ len tx) (hW : WB σ) (hf : σ.1 (b + 12) 1 = nI 0) :
    ∃ σ' G, Rv (wq_Rd_refresh b σ) σ' ∧ CI b σ' len tx G op0 ∧ CFr b (si σ (b + 12) 1 (nI 1)) σ' ∧ TR t len tx G := by
  have hb : b = 0 ∨ b = 13 := by omega
  have h4 := tl_le b
  have hlen := hT.2.1
  obtain ⟨a, hs⟩ := Sp_ex (fun c => c = 32) tx len 0 (by omega)
  have hs1 := hs.1
  have hs2 := hs.2.1
  let σ1 := si (si (si σ (b + 12) 1 (nI 1)) b 9 (nI 0)) b 11 (nI 0)
  let σ2 := ca b σ1 0
  have c1 : CI b σ1 len tx TG0 op0 := by
    refine ⟨Tx_si (Tx_si (Tx_si hT (by omega) (by omega)) (by omega) (by omega)) (by omega) (by omega), WB_si (WB_si (WB_si hW (by omega) (by omega)) (by omega) (by omega)) (by omega) (by omega), by simp [σ1, si_1, TG0, mkT_N, mkT_F, mkT_fl, mkT_kd, mkT_fr, mkT_en, mkT_pr, mkT_nm, mkT_nu, mkT_K, mkT_lv], by simp [σ1, si_1, TG0, mkT_N, mkT_F, mkT_fl, mkT_kd, mkT_fr, mkT_en, mkT_pr, mkT_nm, mkT_nu, mkT_K, mkT_lv], fun j hj => by simp [TG0, mkT_N, mkT_F, mkT_fl, mkT_kd, mkT_fr, mkT_en, mkT_pr, mkT_nm, mkT_nu, mkT_K, mkT_lv] at hj, fun k hk => by simp [TG0, mkT_N, mkT_F, mkT_fl, mkT_kd, mkT_fr, mkT_en, mkT_pr, mkT_nm, mkT_nu, mkT_K, mkT_lv] at hk, fun k hk => by simp [TG0, mkT_N, mkT_F, mkT_fl, mkT_kd, mkT_fr, mkT_en, mkT_pr, mkT_nm, mkT_nu, mkT_K, mkT_lv] at hk, fun k hk => by simp [TG0, mkT_N, mkT_F, mkT_fl, mkT_kd, mkT_fr, mkT_en, mkT_pr, mkT_nm, mkT_nu, mkT_K, mkT_lv] at hk, fun k hk => by simp [TG0, mkT_N, mkT_F, mkT_fl, mkT_kd, mkT_fr, mkT_en, mkT_pr, mkT_nm, mkT_nu, mkT_K, mkT_lv] at hk, fun k hk => by simp [TG0, mkT_N, mkT_F, mkT_fl, mkT_kd, mkT_fr, mkT_en, mkT_pr, mkT_nm, mkT_nu, mkT_K, mkT_lv] at hk, fun k hk => by simp [TG0, mkT_N, mkT_F, mkT_fl, mkT_kd, mkT_fr, mkT_en, mkT_pr, mkT_nm, mkT_nu, mkT_K, mkT_lv] at hk, fun k hk => by simp [TG0, mkT_N, mkT_F, mkT_fl, mkT_kd, mkT_fr, mkT_en, mkT_pr, mkT_nm, mkT_nu, mkT_K, mkT_lv] at hk, fun k hk => by simp [TG0, mkT_N, mkT_F, mkT_fl, mkT_kd, mkT_fr, mkT_en, mkT_pr, mkT_nm, mkT_nu, mkT_K, mkT_lv] at hk⟩
  have c2 : CI b σ2 len tx TG0 op0 := CI_ca hb c1
  have c3 : CI b (ca b σ2 a) len tx TG0 op0 := CI_ca hb c2
  obtain ⟨σ', G, r1, r2, r3, r4, r5, r6, r7, r8, r9, r9t, r10⟩ := rloop hbt hlen _ (ca b σ2 a) TG0 a 0 (Nat.le_refl _) c3 rfl (by show 0 ≤ a; omega) (by simp [ca, si_1]) hs2 (by omega)
  refine ⟨σ', G, ?_, r2, CFr_t (CFr_ca (CFr_ca (CFr_si (CFr_si CFr_r (Or.inl (by omega))) (Or.inl (by omega))))) r3, r5, r6, r7, r8, r9, r9t, ?_⟩
  · intro post hp
    obtain ⟨f, hf'⟩ := r1 post hp
    refine ⟨f + 1, ?_⟩
    show wb_Rd_refresh_0 b (wp_Rd_refresh b post f) post σ
    simp (disch := omega) only [wb_Rd_refresh_0, hf, litI, not_true_eq_false, false_imp_iff, true_imp_iff, and_true, n_b1, true_and, forall_eq, wq_Tr_clear]
    refine ⟨by decide +kernel, ?_⟩
    exact Rd_passBlanks_r c2.t (by simp [σ2, ca, si_1]) hs _ hf'
  · intro σm hTT hw
    obtain ⟨⟨x1, x2, x3, x4⟩, x5⟩ := hTT
    let σ3 := si (si (si (si (si σm 54 18 (nI t)) 54 19 (nI 0)) 54 20 (nI 0)) 58 t (nI 0)) 71 t (nI 0)
    have hTM : TM t σ3 len tx := ⟨x1, by simp [σ3, si_1], by simp [σ3, si_1, x5], x2, x3, fun k hk => by simp [σ3, si_1]; exact x4 k hk⟩
    have hMI : MI t σ3 len tx TG0 op0 := ⟨by simp [σ3, si_1, TG0, mkT_N, mkT_F, mkT_fl, mkT_kd, mkT_fr, mkT_en, mkT_pr, mkT_nm, mkT_nu, mkT_K, mkT_lv], by simp [σ3, si_1, TG0, mkT_N, mkT_F, mkT_fl, mkT_kd, mkT_fr, mkT_en, mkT_pr, mkT_nm, mkT_nu, mkT_K, mkT_lv], fun j hj => by simp [TG0, mkT_N, mkT_F, mkT_fl, mkT_kd, mkT_fr, mkT_en, mkT_pr, mkT_nm, mkT_nu, mkT_K, mkT_lv] at hj, fun k hk => by simp [TG0, mkT_N, mkT_F, mkT_fl, mkT_kd, mkT_fr, mkT_en, mkT_pr, mkT_nm, mkT_nu, mkT_K, mkT_lv] at hk, fun k hk => by simp [TG0, mkT_N, mkT_F, mkT_fl, mkT_kd, mkT_fr, mkT_en, mkT_pr, mkT_nm, mkT_nu, mkT_K, mkT_lv] at hk, fun k hk => by simp [TG0, mkT_N, mkT_F, mkT_fl, mkT_kd, mkT_fr, mkT_en, mkT_pr, mkT_nm, mkT_nu, mkT_K, mkT_lv] at hk, fun k hk => by simp [TG0, mkT_N, mkT_F, mkT_fl, mkT_kd, mkT_fr, mkT_en, mkT_pr, mkT_nm, mkT_nu, mkT_K, mkT_lv] at hk, fun k hk => by simp [TG0, mkT_N, mkT_F, mkT_fl, mkT_kd, mkT_fr, mkT_en, mkT_pr, mkT_nm, mkT_nu, mkT_K, mkT_lv] at hk, fun k hk => by simp [TG0, mkT_N, mkT_F, mkT_fl, mkT_kd, mkT_fr, mkT_en, mkT_pr, mkT_nm, mkT_nu, mkT_K, mkT_lv] at hk, fun k hk => by simp [TG0, mkT_N, mkT_F, mkT_fl, mkT_kd, mkT_fr, mkT_en, mkT_pr, mkT_nm, mkT_nu, mkT_K, mkT_lv] at hk, fun k hk => by simp [TG0, mkT_N, mkT_F, mkT_fl, mkT_kd, mkT_fr, mkT_en, mkT_pr, mkT_nm, mkT_nu, mkT_K, mkT_lv] at hk, fun k hk => by simp [TG0, mkT_N, mkT_F, mkT_fl, mkT_kd, mkT_fr, mkT_en, mkT_pr, mkT_nm, mkT_nu, mkT_K, mkT_lv] at hk, fun k hk => by simp [TG0, mkT_N, mkT_F, mkT_fl, mkT_kd, mkT_fr, mkT_en, mkT_pr, mkT_nm, mkT_nu, mkT_K, mkT_lv] at hk⟩
    have hMS : MS t σ3 len tx TG0 op0 0 (fun _ => 0) (fun _ => 0) (fun _ => 0) 0 := ⟨hTM, hMI, ⟨by simp [σ3, si_1], fun j hj => by omega, fun j hj => by omega, fun j hj => by omega, fun j hj => by omega⟩, by simp [σ3, si_1], hw⟩
    obtain ⟨σm', w1, w2, w2b, w3⟩ := r10 (ma σ3 a) _ _ _ (MS_ma (a' := a) hMS)
    refine ⟨σm', ?_, w2, w2b, MFr_t (MFr_ma (MFr_si (MFr_si (MFr_si (MFr_si (MFr_si MFr_r (Or.inl ⟨rfl, by omega⟩)) (Or.inl ⟨rfl, by omega⟩)) (Or.inl ⟨rfl, by omega⟩)) (Or.inr (Or.inl ⟨Or.inl rfl, rfl⟩))) (Or.inr (Or.inl ⟨Or.inr rfl, rfl⟩)))) w3⟩
    intro post hp
    obtain ⟨f, hf'⟩ := w1 post hp
    refine ⟨f + 1, ?_⟩
    show wb_Md_read_0 (wp_Md_read post f) post (nI t) σm
    simp (disch := omega) only [wb_Md_read_0, litI, forall_eq, si_1, n_in, n_cl, eq_true x1, litI, n_le, n_lt, n_eq, n_in, n_cl, nI_add, n_b0, n_b1, n_v0, n_v1, n_m1, n_m1', n_m1l, n_m1l', n_m1g, n_m1ge, si_1, si_2, forall_eq, not_true_eq_false, not_false_eq_true, true_imp_iff, false_imp_iff, true_and, and_true, false_and, and_false, implies_true, ite_true, ite_false, if_true, if_false, Classical.not_not, Nat.reduceEqDiff, reduceIte, Nat.add_left_cancel_iff, Nat.add_eq_left, Nat.left_eq_add, and_self, n_sub, pk_mul, show ¬ (18 = 19) by decide, show ¬ (18 = 20) by decide, show ¬ (54 = 58) by decide]
    exact Md_blanks_r hMS.tt hMS.aa hs _ hf'
theorem refresh_f {b : Nat} {σ : Sg} (hf : σ.1 (b + 12) 1 = nI 1) : Rv (wq_Rd_refresh b σ) σ := by
  intro post hp
  refine ⟨1, ?_⟩
  show wb_Rd_refresh_0 b (wp_Rd_refresh b post 0) post σ
  simp (disch := omega) only [wb_Rd_refresh_0, hf, litI, n_le, n_lt, n_eq, n_in, n_cl, nI_add, n_b0, n_b1, n_v0, n_v1, n_m1, n_m1', n_m1l, n_m1l', n_m1g, n_m1ge, si_1, si_2, forall_eq, not_true_eq_false, not_false_eq_true, true_imp_iff, false_imp_iff, true_and, and_true, false_and, and_false, implies_true, ite_true, ite_false, if_true, if_false, Classical.not_not, Nat.reduceEqDiff, reduceIte, Nat.add_left_cancel_iff, Nat.add_eq_left, Nat.left_eq_add, and_self, n_sub, pk_mul, show ¬ (1 = 0) by decide]
  exact hp
