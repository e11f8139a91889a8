theorem MS_fh {t len a d : Nat} {tx : Nat → Nat} {σ : Sg} {G : TG} {op h sn cm h' sn' cm' : Nat → Nat} (m : MS t σ len tx G op d h sn cm a) (e : ∀ j, j < d → h' j = h j ∧ sn' j = sn j ∧ cm' j = cm j) : MS t σ len tx G op d h' sn' cm' a :=
  ⟨m.tt, m.i, ⟨m.s.dd, fun j hj => by rw [(e j hj).1]; exact m.s.hh j hj, fun j hj => by rw [(e j hj).1]; exact m.s.l j hj, fun j hj => by rw [(e j hj).2.1]; exact m.s.ss j hj, fun j hj => by rw [(e j hj).2.2]; exact m.s.cc j hj⟩, m.aa, m.w⟩
theorem kb_op {c : Nat} (h : isOp c) : kb c = 5 ∨ kb c = 6 := by
  unfold kb; rcases h with q | q
  · right; rw [if_pos q]
  · left; rw [if_neg (by omega), if_pos q]
theorem PR_lt {len : Nat} {G : TG} {pr nm : Option Nat} (h : PR len G pr nm) : ∀ p, pr = some p → p < G.N := fun p e => by subst e; exact h.1
theorem tb_le {tx : Nat → Nat} {len kd : Nat} {nm : Option Nat} : 5 * cI (tb tx len kd nm) ≤ nlen tx len nm + (if kd = 1 then 5 else 0) := by
  unfold nlen
  by_cases h : tb tx len kd nm
  · rw [cI_t h]
    rcases h with h | h
    · rw [if_pos h]; omega
    · rw [cI_t h]; omega
  · rw [cI_f h]; omega
theorem tb_5 {tx : Nat → Nat} {len kd : Nat} {nm : Option Nat} : 5 * cI (tb tx len kd nm) ≤ 5 := by have := cI_1 (P := tb tx len kd nm); omega
theorem QT_gN {tx : Nat → Nat} {G : TG} {kd fr en : Nat} {pr nm : Option Nat} {nu : Int32} (h : QT tx G) (hn : ∀ n, nm = some n → tx n = 34) : QT tx (gN G kd fr en pr nm nu) := by
  intro k hk n e
  have hk : k < G.N + 1 := hk
  by_cases q : k = G.N
  · subst q; exact hn n (by simpa [gN, mkT_N, mkT_F, mkT_fl, mkT_kd, mkT_fr, mkT_en, mkT_pr, mkT_nm, mkT_nu, mkT_K, mkT_lv] using e)
  · exact h k (by omega) n (by simpa [gN, q, mkT_N, mkT_F, mkT_fl, mkT_kd, mkT_fr, mkT_en, mkT_pr, mkT_nm, mkT_nu, mkT_K, mkT_lv] using e)
theorem value_a {b t len n d : Nat} {tx : Nat → Nat} (hbt : (b = 0 ∧ t = 0) ∨ (b = 13 ∧ t = 1)) (hlen : len ≤ tl b) (hd : d ≤ 8) (σ : Sg) (G : TG) (op : Nat → Nat) (pr nm : Option Nat) (a : Nat) (hC : CI b σ len tx G op) (hW : WG len G) (ho : ∀ k, G.N ≤ k → op k = 0) (ha : σ.1 (b + 12) 4 = nI a) (hl : a < len) (hst : stt (tx a) d) (hlv : lvO G pr = d) (hPR : PR len G pr nm)
    (hE : ∀ p, pr = some p → chE (σ.1 (b + 8)) (nI (p + 1)) (G.K p) = nI G.N) (hN : G.N ≤ a) (hq : 5 * tqG tx len G + nlen tx len nm ≤ a) (hz : G.F = 0 → 2 * G.N ≤ a + d) (hF : G.F ≤ 2 * a + 1) (hQ : QT tx G) (hQn : ∀ n, nm = some n → tx n = 34) (hop : ¬ isOp (tx a)) : Vr b t len tx (n + 1) d σ G op pr nm a := by
  have hb : b = 0 ∨ b = 13 := by omega
  have h4 := tl_le b
  have htl : 160 * t + tl b ≤ 240 := by rcases hbt with ⟨q1, q2⟩ | ⟨q1, q2⟩ <;> (subst q1; subst q2; decide)
  have htf : 2 * tl b + 17 ≤ tf b ∧ 2 * tl b + 17 < 400 := by rcases hbt with ⟨q1, q2⟩ | ⟨q1, q2⟩ <;> (subst q1; decide)
  have hlt := PR_lt hPR
  obtain ⟨kd, nu, fo, a', hA⟩ := At_ex hl hst hop
  obtain ⟨o1, o2, o3, o4, o5⟩ := At_ok hl hA
  obtain ⟨σ', r1, r2, r3, r4, r5⟩ := atom_c (n := n) (nm := nm) hb hC hW ha hl hA (by omega) (by omega) (fun p hp => ⟨hlt p hp, hE p hp⟩) (nI d) (d := d)
  have exG : Ex G (gC (gFo (gN G kd a 0 pr nm nu) fo) G.N a') pr := Ex_t Ex_gN (Ex_t Ex_gFo Ex_gC)
  have hW' : WG len (gC (gFo (gN G kd a 0 pr nm nu) fo) G.N a') := WG_gC (WG_gFo (WG_gN hW (by omega) hl hPR (by omega) (by omega)))
  have eN : (gC (gFo (gN G kd a 0 pr nm nu) fo) G.N a').N = G.N + 1 := by show (gFo _ fo).N = _; rw [gFo_N]; rfl
  have eK : ∀ p, pr = some p → (gC (gFo (gN G kd a 0 pr nm nu) fo) G.N a').K p = G.K p ++ [G.N] := fun p hp => by
    show (gFo _ fo).K p = _; rw [gFo_K]; have := hlt p hp; simp [gN, hp, show ¬ p = G.N by omega, mkT_N, mkT_F, mkT_fl, mkT_kd, mkT_fr, mkT_en, mkT_pr, mkT_nm, mkT_nu, mkT_K, mkT_lv]
  refine ⟨σ', _, a', r1, r2, hW', by rw [eN]; exact fun k hk => ho k (by omega), r3, o1, o2, exG, fun p hp => ⟨eK p hp, by rw [eK p hp, eN]; exact r5 p hp⟩, ⟨?_, ?_, ?_, ?_, QT_Fo (QT_gN hQ hQn)⟩, r4, by rw [eN]; omega, ?_⟩
  · rw [eN]; omega
  · show 5 * tqG tx len (gFo (gN G kd a 0 pr nm nu) fo) ≤ a'
    rw [tqG_Fo, tqG_N]
    have := tb_le (tx := tx) (len := len) (kd := kd) (nm := nm)
    rw [Nat.mul_add]
    by_cases e1 : kd = 1
    · have := o4 e1
      have hle := tb_5 (tx := tx) (len := len) (kd := kd) (nm := nm)
      omega
    · rw [if_neg e1] at this; omega
  · intro q
    have q : (gFo (gN G kd a 0 pr nm nu) fo).F = 0 := q
    have h0 : G.F = 0 := by have := (Ex_gFo (G := gN G kd a 0 pr nm nu) (fo := fo) (p := none)).F; have e : (gN G kd a 0 pr nm nu).F = G.F := rfl; omega
    have := hz h0; rw [eN]; omega
  · show (gFo (gN G kd a 0 pr nm nu) fo).F ≤ _
    have : (gFo (gN G kd a 0 pr nm nu) fo).F ≤ G.F + 1 := gFo_le
    omega
  · intro σm h sn cm ne m hh hp hp0 hne
    obtain ⟨σ1, q1, q2, q3⟩ := atom_m (op := op) m hW hh hl hA (by omega) (by omega) (by omega) (fun p hpp => ⟨hlt p hpp, hp p hpp⟩) hp0 (by omega) hne ho
    exact ⟨σ1, σ1, q1, MRun_r, q2, q3⟩
theorem value {b t len : Nat} {tx : Nat → Nat} (hbt : (b = 0 ∧ t = 0) ∨ (b = 13 ∧ t = 1)) (hlen : len ≤ tl b) : ∀ n d, 9 ≤ n + d → d ≤ 8 → Vc b t len tx n d := by
  have hb : b = 0 ∨ b = 13 := by omega
  have h4 := tl_le b
  have htl : 160 * t + tl b ≤ 240 := by rcases hbt with ⟨q1, q2⟩ | ⟨q1, q2⟩ <;> (subst q1; subst q2; decide)
  have htf : 2 * tl b + 17 ≤ tf b ∧ 2 * tl b + 17 < 400 := by rcases hbt with ⟨q1, q2⟩ | ⟨q1, q2⟩ <;> (subst q1; decide)
  intro n
  induction n with
  | zero => intro d h1 h2; omega
  | succ n ihn =>
    intro d h1 hd σ G op pr nm a hC hW ho ha hl hst hlv hPR hE hN hq hz hF hQ hQn
    by_cases hop : isOp (tx a)
    case neg => exact value_a hbt hlen hd σ G op pr nm a hC hW ho ha hl hst hlv hPR hE hN hq hz hF hQ hQn hop
    have hd8 : d < 8 := by omega
    have hlt := PR_lt hPR
    have hk := kb_op hop
    have hk1 : ¬ kb (tx a) = 1 := by omega
    let op1 : Nat → Nat := fun k => if k = G.N then 1 else op k
    have hop1 : op1 G.N = 1 := by simp [op1]
    have hopn : ∀ k, k ≠ G.N → op1 k = op k := fun k hk => by simp [op1, hk]
    let G1 := gN G (kb (tx a)) a 0 pr nm (nI 0)
    have hN1 : G1.N = G.N + 1 := rfl
    let σ1 := opO b σ G (kb (tx a)) a pr nm
    have c1 : CI b σ1 len tx G1 op1 := CI_open hb hC (fun k hk => hopn k (by omega)) (Or.inr ⟨hop1, rfl, rfl⟩) (fun p hp => ⟨hlt p hp, hE p hp⟩)
    have e12 : σ1.1 (b + 12) 4 = nI a := by
      have : σ1.1 (b + 12) = σ.1 (b + 12) := by
        show (opO b σ G (kb (tx a)) a pr nm).1 (b + 12) = _
        cases pr with
        | none => unfold opO opn; repeat rw [si_c (by omega)]
        | some p => unfold opO; rw [si_c (by omega)]; unfold opn; repeat rw [si_c (by omega)]
      rw [this]; exact ha
    have c2 : CI b (ca b σ1 (a + 1)) len tx G1 op1 := CI_ca hb c1
    have hW1 : WG len G1 := WG_gN hW (by omega) hl hPR (by omega) (fun _ => by omega)
    have kd1 : G1.kd G.N = kb (tx a) := by simp [G1, gN, mkT_N, mkT_F, mkT_fl, mkT_kd, mkT_fr, mkT_en, mkT_pr, mkT_nm, mkT_nu, mkT_K, mkT_lv]
    have lv1 : G1.lv G.N = d := by simp [G1, gN, hlv, mkT_N, mkT_F, mkT_fl, mkT_kd, mkT_fr, mkT_en, mkT_pr, mkT_nm, mkT_nu, mkT_K, mkT_lv]
    have K1 : G1.K G.N = [] := by simp [G1, gN, mkT_N, mkT_F, mkT_fl, mkT_kd, mkT_fr, mkT_en, mkT_pr, mkT_nm, mkT_nu, mkT_K, mkT_lv]
    obtain ⟨σ', G', a', i1, i2, i3, i4, i5, i6, i7, i8, i9, i10, i11⟩ := inside hbt (ihn (d + 1) (by omega) (by omega)) (by omega) (by omega) hlen op1 G.N hop1 _ (ca b σ1 (a + 1)) G1 (a + 1) 0 0 0 (Nat.le_refl _) c2 hW1
      (fun j hj => by rw [hopn j (by omega)]; exact ho j (by omega)) (by simp [ca, si_1]) (by omega) (by omega) (by omega) (by rw [kd1]; exact hk) (by rw [K1]; rfl) (by omega) (by omega) (by omega)
      ⟨by omega, by
        show 5 * tqG tx len (gN G (kb (tx a)) a 0 pr nm (nI 0)) ≤ a + 1
        rw [tqG_N]
        have := tb_le (tx := tx) (len := len) (kd := kb (tx a)) (nm := nm)
        rw [if_neg hk1] at this
        omega, fun q => by have := hz q; omega, by show G.F ≤ _; unfold fB; split <;> omega, QT_gN hQ hQn⟩
    have i4N : G.N + 1 ≤ G'.N := i8.N
    have Kold : ∀ j, j < G.N → G'.K j = G1.K j := fun j hj => i8.K j (by omega) (fun q => by injection q with q; omega)
    have hcl : ∀ j, j < G'.N → ∀ c ∈ (G'.K j).dropLast, c ≠ G.N := by
      intro j hj c hc
      rcases Nat.lt_or_ge j G.N with q | q
      · rw [Kold j q] at hc; exact dl_N hW j (by omega) c hc
      · have := (i3.ch j hj c (List.dropLast_subset _ hc)).1; omega
    have c3 := CI_close (a := a') (k := G.N) (op2 := op) hb i2 (fun j hj => (hopn j hj).symm) (Or.inl (by omega)) hcl
    have exG : Ex G (gC G' G.N a') pr := by
      have e1 : Ex G G1 pr := Ex_gN
      refine ⟨Nat.le_trans e1.N i8.N, Nat.le_trans e1.F i8.F, fun j hj => (i8.kd j (by omega)).trans (e1.kd j hj), fun j hj => (i8.fr j (by omega)).trans (e1.fr j hj), fun j hj => (i8.nm j (by omega)).trans (e1.nm j hj), fun j hj => (i8.lv j (by omega)).trans (e1.lv j hj), fun j hj hp => (Kold j hj).trans (e1.K j hj hp)⟩
    have eK : ∀ p, pr = some p → (gC G' G.N a').K p = G.K p ++ [G.N] := fun p hp => by
      have hpN := hlt p hp
      show G'.K p = _; rw [Kold p hpN]; simp [G1, gN, hp, show ¬ p = G.N by omega, mkT_N, mkT_F, mkT_fl, mkT_kd, mkT_fr, mkT_en, mkT_pr, mkT_nm, mkT_nu, mkT_K, mkT_lv]
    have hd1 : d + 1 - 1 = d := by omega
    rw [hd1] at i9 i11
    refine ⟨_, gC G' G.N a', a', ?_, c3, WG_gC i3, fun k hk => ?_, ?_, by omega, i7, exG, fun p hp => ⟨eK p hp, ?_⟩, ⟨i9.nn, i9.qq, i9.zz, i9.ff, i9.qt⟩, ?_, by show G.N < G'.N; omega, ?_⟩
    · intro post hp
      show wqf_Rd_readValue (wd_Rd_readValue n) b (oI pr) (oI nm) (nI d) σ post
      have h5 := hC.t.2.2 a hl
      unfold wqf_Rd_readValue
      simp (disch := omega) only [ha, h5.1, litI, n_le, n_lt, n_eq, n_in, n_cl, nI_add, n_b0, n_b1, n_v0, n_v1, n_m1, n_m1', n_m1l, n_m1l', n_m1g, n_m1ge, si_1, si_2, forall_eq, not_true_eq_false, not_false_eq_true, true_imp_iff, false_imp_iff, true_and, and_true, false_and, and_false, implies_true, ite_true, ite_false, if_true, if_false, Classical.not_not, Nat.reduceEqDiff, reduceIte, Nat.add_left_cancel_iff, Nat.add_eq_left, Nat.left_eq_add, and_self, n_sub, pk_mul, eq_true (show a < tl b by omega), Rd_kind_r]
      rw [Tr_open_o hC (by omega) hlt]
      simp (disch := omega) only [Rd_opens_r, bI_0, eq_true hop, litI, n_le, n_lt, n_eq, n_in, n_cl, nI_add, n_b0, n_b1, n_v0, n_v1, n_m1, n_m1', n_m1l, n_m1l', n_m1g, n_m1ge, si_1, si_2, forall_eq, not_true_eq_false, not_false_eq_true, true_imp_iff, false_imp_iff, true_and, and_true, false_and, and_false, implies_true, ite_true, ite_false, if_true, if_false, Classical.not_not, Nat.reduceEqDiff, reduceIte, Nat.add_left_cancel_iff, Nat.add_eq_left, Nat.left_eq_add, and_self, n_sub, pk_mul]
      have es1 : opO b σ G (kb (tx a)) a pr nm = σ1 := rfl
      rw [es1, e12]
      simp only [nI_add]
      have es2 : si σ1 (b + 12) 4 (nI (a + 1)) = ca b σ1 (a + 1) := rfl
      rw [es2]
      have hpost : wq_Tr_close b (nI G.N) (σ'.1 (b + 12) 4) σ' post := by
        rw [i5, Tr_close_r i2.N (by omega)]; exact hp
      obtain ⟨P5, hP5⟩ : ∃ P5 : Sg → Prop, P5 = fun σ5 => wq_Tr_close b (nI G.N) (σ5.1 (b + 12) 4) σ5 post := ⟨_, rfl⟩
      rw [← hP5]
      obtain ⟨f, hf⟩ := i1 P5 (by rw [hP5]; exact hpost)
      refine ⟨f + 2, ?_⟩
      show wb_Rd_readInside_0 (wd_Rd_readValue n) b (wp_Rd_readInside (wd_Rd_readValue n) b P5 (f + 1)) P5 (nI G.N) (nI (d + 1)) (ca b σ1 (a + 1))
      have q1 : (ca b σ1 (a + 1)).1 (b + 1) G.N = nI (G1.kd G.N) := c2.kd G.N (by omega) (by omega)
      rcases hk with k5 | k6
      · have eo : ob G1 G.N = 0 := by simp [ob, kd1, k5]
        have ec : cz G1 G.N = 93 := by simp [cz, kd1, k5]
        rw [eo, ec] at hf
        simp (disch := omega) only [wb_Rd_readInside_0, q1, kd1, k5, litI, n_le, n_lt, n_eq, n_in, n_cl, nI_add, n_b0, n_b1, n_v0, n_v1, n_m1, n_m1', n_m1l, n_m1l', n_m1g, n_m1ge, si_1, si_2, forall_eq, not_true_eq_false, not_false_eq_true, true_imp_iff, false_imp_iff, true_and, and_true, false_and, and_false, implies_true, ite_true, ite_false, if_true, if_false, Classical.not_not, Nat.reduceEqDiff, reduceIte, Nat.add_left_cancel_iff, Nat.add_eq_left, Nat.left_eq_add, and_self, n_sub, pk_mul, eq_true (show G.N < tl b by omega)]
        show wb_Rd_readInside_1 (wd_Rd_readValue n) b (wp_Rd_readInside (wd_Rd_readValue n) b P5 f) P5 (nI G.N) (nI (d + 1)) (nI 0) (ca b σ1 (a + 1))
        simp (disch := omega) only [wb_Rd_readInside_1, litI, n_le, n_lt, n_eq, n_in, n_cl, nI_add, n_b0, n_b1, n_v0, n_v1, n_m1, n_m1', n_m1l, n_m1l', n_m1g, n_m1ge, si_1, si_2, forall_eq, not_true_eq_false, not_false_eq_true, true_imp_iff, false_imp_iff, true_and, and_true, false_and, and_false, implies_true, ite_true, ite_false, if_true, if_false, Classical.not_not, Nat.reduceEqDiff, reduceIte, Nat.add_left_cancel_iff, Nat.add_eq_left, Nat.left_eq_add, and_self, n_sub, pk_mul]
        exact hf
      · have eo : ob G1 G.N = 1 := by simp [ob, kd1, k6]
        have ec : cz G1 G.N = 125 := by simp [cz, kd1, k6]
        rw [eo, ec] at hf
        simp (disch := omega) only [wb_Rd_readInside_0, q1, kd1, k6, litI, n_le, n_lt, n_eq, n_in, n_cl, nI_add, n_b0, n_b1, n_v0, n_v1, n_m1, n_m1', n_m1l, n_m1l', n_m1g, n_m1ge, si_1, si_2, forall_eq, not_true_eq_false, not_false_eq_true, true_imp_iff, false_imp_iff, true_and, and_true, false_and, and_false, implies_true, ite_true, ite_false, if_true, if_false, Classical.not_not, Nat.reduceEqDiff, reduceIte, Nat.add_left_cancel_iff, Nat.add_eq_left, Nat.left_eq_add, and_self, n_sub, pk_mul, eq_true (show G.N < tl b by omega)]
        show wb_Rd_readInside_1 (wd_Rd_readValue n) b (wp_Rd_readInside (wd_Rd_readValue n) b P5 f) P5 (nI G.N) (nI (d + 1)) (nI 1) (ca b σ1 (a + 1))
        simp (disch := omega) only [wb_Rd_readInside_1, litI, n_le, n_lt, n_eq, n_in, n_cl, nI_add, n_b0, n_b1, n_v0, n_v1, n_m1, n_m1', n_m1l, n_m1l', n_m1g, n_m1ge, si_1, si_2, forall_eq, not_true_eq_false, not_false_eq_true, true_imp_iff, false_imp_iff, true_and, and_true, false_and, and_false, implies_true, ite_true, ite_false, if_true, if_false, Classical.not_not, Nat.reduceEqDiff, reduceIte, Nat.add_left_cancel_iff, Nat.add_eq_left, Nat.left_eq_add, and_self, n_sub, pk_mul, show ¬ (1 = 0) by decide]
        exact hf
    · have hk : G'.N ≤ k := hk
      exact ho k (by omega)
    · rw [si_c (by omega), si_c (by omega)]; exact i5
    · rw [eK p hp, chE_app, si_1, if_pos ⟨rfl, rfl⟩]; rfl
    · exact CFr_si (CFr_si (CFr_t (CFr_ca (CFr_opO CFr_r)) i10) (Or.inl (by omega))) (Or.inl (by omega))
    · intro σm h sn cm ne m hh hp hp0 hne
      obtain ⟨σ2, q1, q2, q3⟩ := brk_m (op1 := op1) m hW hh hl hop (by omega) (by omega) (fun p hpp => ⟨hlt p hpp, hp p hpp⟩) hp0 hd8 hne hopn hop1
      obtain ⟨σ3, w1, w2, w3⟩ := i11 σ2 _ _ _ q2 (fun j hj => by
        by_cases e : j = d
        · subst e; simp; exact ⟨by omega, lv1⟩
        · have := hh j (by omega)
          simp [e]; exact ⟨by omega, by show G1.lv (h j) = j; rw [(Ex_gN (pr := pr)).lv _ this.1]; exact this.2⟩) (by simp) (by simp) (by simp)
      have eop : (fun j => if j = G.N then 0 else op1 j) = op := by
        funext j; by_cases e : j = G.N
        · simp [e]; exact (ho G.N (Nat.le_refl _)).symm
        · simp [e]; exact hopn j e
      rw [eop] at w2
      exact ⟨σ2, σ3, q1, w1, MS_fh w2 (fun j hj => by simp [show ¬ j = d by omega]), MFr_t q3 w3⟩
