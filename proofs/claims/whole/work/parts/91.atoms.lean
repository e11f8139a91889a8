def gFo (G : TG) : Option Nat → TG
  | none => G
  | some v => gF G v
theorem gFo_N {G : TG} {fo : Option Nat} : (gFo G fo).N = G.N := by cases fo <;> rfl
theorem gFo_K {G : TG} {fo : Option Nat} : (gFo G fo).K = G.K := by cases fo <;> rfl
theorem gFo_kd {G : TG} {fo : Option Nat} : (gFo G fo).kd = G.kd := by cases fo <;> rfl
theorem gFo_nu {G : TG} {fo : Option Nat} : (gFo G fo).nu = G.nu := by cases fo <;> rfl
theorem gFo_fr {G : TG} {fo : Option Nat} : (gFo G fo).fr = G.fr := by cases fo <;> rfl
def blO (b : Nat) (σ : Sg) (F : Nat) : Option Nat → Sg
  | none => σ
  | some v => bl b σ F v
def ntO (t : Nat) (σ : Sg) (F : Nat) : Option Nat → Sg
  | none => σ
  | some v => nt t σ F v
theorem CI_blO {b len : Nat} {tx : Nat → Nat} {σ : Sg} {G : TG} {op : Nat → Nat} {fo : Option Nat} (hb : b = 0 ∨ b = 13) (h : CI b σ len tx G op) : CI b (blO b σ G.F fo) len tx (gFo G fo) op := by
  cases fo with
  | none => exact h
  | some v => exact CI_bl hb h
theorem MS_ntO {t len a d : Nat} {tx : Nat → Nat} {σ : Sg} {G : TG} {op h sn cm : Nat → Nat} {fo : Option Nat} (k : MS t σ len tx G op d h sn cm a) : MS t (ntO t σ G.F fo) len tx (gFo G fo) op d h sn cm a := by
  cases fo with
  | none => exact k
  | some v => exact MS_nt k
theorem CFr_blO {b F : Nat} {σ0 σ : Sg} {fo : Option Nat} (h : CFr b σ0 σ) : CFr b σ0 (blO b σ F fo) := by
  cases fo with
  | none => exact h
  | some v => exact CFr_bl h
theorem MFr_ntO {t F : Nat} {σ0 σ : Sg} {fo : Option Nat} (h : MFr t σ0 σ) (hF : F < 400) : MFr t σ0 (ntO t σ F fo) := by
  cases fo with
  | none => exact h
  | some v => exact MFr_nt h hF
theorem bl_c {b F v c k : Nat} {σ : Sg} (h : c ≠ b + 9) (h2 : c ≠ b) : (bl b σ F v).1 c k = σ.1 c k := by unfold bl; rw [si_c h2, si_c h]
theorem blO_c {b F c k : Nat} {σ : Sg} {fo : Option Nat} (h : c ≠ b + 9) (h2 : c ≠ b) : (blO b σ F fo).1 c k = σ.1 c k := by
  cases fo with
  | none => rfl
  | some v => exact bl_c h h2
theorem ntO_c {t F c k : Nat} {σ : Sg} {fo : Option Nat} (h : c ≠ 70) (h2 : c ≠ 71) : (ntO t σ F fo).1 c k = σ.1 c k := by
  cases fo with
  | none => rfl
  | some v => simp only [ntO, nt]; rw [si_c h2, si_c h]
/-- the sign of a number, where its digits begin -/
def ns (tx : Nat → Nat) (a : Nat) : Nat := if tx a = 45 then a + 1 else a
def nv (tx : Nat → Nat) (a a' : Nat) : Int32 := if tx a = 45 then -(dig tx (ns tx a) (min 6 (a' - ns tx a)) (nI 0)) else dig tx (ns tx a) (min 6 (a' - ns tx a)) (nI 0)
def nf (tx : Nat → Nat) (a a' : Nat) : Option Nat := if a' = ns tx a then some (5 + 16 * a) else if 6 < a' - ns tx a then some (6 + 16 * a) else none
theorem Rd_readNumber_r {b len : Nat} {tx : Nat → Nat} {σ : Sg} (hT : Tx b σ len tx) {a a' k F : Nat} (ha : σ.1 (b + 12) 4 = nI a) (hl : a < len) (hs : Sp isDg tx len (ns tx a) a') (hk : k < tl b) (hF : σ.1 b 11 = nI F) (hf : F < tf b) : Rv (wq_Rd_readNumber b (nI k) σ) (si (blO b (ca b σ a') F (nf tx a a')) (b + 7) k (nv tx a a')) := by
  obtain ⟨h1, h2, h3⟩ := hT
  have h4 := tl_le b
  have h5 := h3 a hl
  obtain ⟨s1, s2, s3, s4⟩ := hs
  have hF' : (ca b σ a').1 b 11 = nI F := by simp [ca, si_1, hF]
  intro post hp
  unfold wq_Rd_readNumber
  refine ex_s ?_
  -- the last blocks
  have fin : ∀ x3 : Nat, (x3 = if tx a = 45 then 1 else 0) → ∃ f, wp_Rd_readNumber b post f 3 (nI k) (nI a) (nI x3) (nI (0 + (a' - ns tx a))) (if 0 < 6 then dig tx (ns tx a) (min (6 - 0) (a' - ns tx a)) (nI 0) else nI 0) (si σ (b + 12) 4 (nI a')) := by
    intro x3 hx
    refine ⟨2, ?_⟩
    have e4 : ∀ σ1, post (si σ1 (b + 7) k (nv tx a a')) → wp_Rd_readNumber b post 1 4 (nI k) 0 (nI x3) 0 (dig tx (ns tx a) (min 6 (a' - ns tx a)) (nI 0)) σ1 := by
      intro σ1 hq
      by_cases e : tx a = 45
      · rw [if_pos e] at hx
        subst hx
        simp only [nv, if_pos e] at hq
        simp (disch := omega) only [wp_Rd_readNumber, wb_Rd_readNumber_4, litI, n_le, n_lt, n_eq, n_in, n_cl, nI_add, n_b0, n_b1, n_v0, n_v1, n_m1, n_m1', n_m1l, n_m1l', n_m1g, n_m1ge, si_1, si_2, forall_eq, not_true_eq_false, not_false_eq_true, true_imp_iff, false_imp_iff, true_and, and_true, false_and, and_false, implies_true, ite_true, ite_false, if_true, if_false, Classical.not_not, Nat.reduceEqDiff, reduceIte, Nat.add_left_cancel_iff, Nat.add_eq_left, Nat.left_eq_add, and_self, n_sub, pk_mul, hk, show ¬ (1 = 0) by decide]
        exact hq
      · rw [if_neg e] at hx
        subst hx
        simp only [nv, if_neg e] at hq
        simp (disch := omega) only [wp_Rd_readNumber, wb_Rd_readNumber_4, litI, n_le, n_lt, n_eq, n_in, n_cl, nI_add, n_b0, n_b1, n_v0, n_v1, n_m1, n_m1', n_m1l, n_m1l', n_m1g, n_m1ge, si_1, si_2, forall_eq, not_true_eq_false, not_false_eq_true, true_imp_iff, false_imp_iff, true_and, and_true, false_and, and_false, implies_true, ite_true, ite_false, if_true, if_false, Classical.not_not, Nat.reduceEqDiff, reduceIte, Nat.add_left_cancel_iff, Nat.add_eq_left, Nat.left_eq_add, and_self, n_sub, pk_mul, hk]
        exact hq
    have hc : ca b σ a' = si σ (b + 12) 4 (nI a') := rfl
    simp only [Nat.zero_add, show (0 : Nat) < 6 by decide, if_true, Nat.sub_zero]
    by_cases e0 : a' = ns tx a
    · have : nf tx a a' = some (5 + 16 * a) := by simp [nf, e0]
      rw [this] at hp
      simp (disch := omega) only [wp_Rd_readNumber, wb_Rd_readNumber_3, litI, n_le, n_lt, n_eq, n_in, n_cl, nI_add, n_b0, n_b1, n_v0, n_v1, n_m1, n_m1', n_m1l, n_m1l', n_m1g, n_m1ge, si_1, si_2, forall_eq, not_true_eq_false, not_false_eq_true, true_imp_iff, false_imp_iff, true_and, and_true, false_and, and_false, implies_true, ite_true, ite_false, if_true, if_false, Classical.not_not, Nat.reduceEqDiff, reduceIte, Nat.add_left_cancel_iff, Nat.add_eq_left, Nat.left_eq_add, and_self, n_sub, pk_mul, eq_true (show a' - ns tx a = 0 by omega), Tr_blame_r hF' hf, ← hc]
      exact e4 _ hp
    · by_cases e6 : 6 < a' - ns tx a
      · have : nf tx a a' = some (6 + 16 * a) := by simp [nf, e0, e6]
        rw [this] at hp
        simp (disch := omega) only [wp_Rd_readNumber, wb_Rd_readNumber_3, litI, n_le, n_lt, n_eq, n_in, n_cl, nI_add, n_b0, n_b1, n_v0, n_v1, n_m1, n_m1', n_m1l, n_m1l', n_m1g, n_m1ge, si_1, si_2, forall_eq, not_true_eq_false, not_false_eq_true, true_imp_iff, false_imp_iff, true_and, and_true, false_and, and_false, implies_true, ite_true, ite_false, if_true, if_false, Classical.not_not, Nat.reduceEqDiff, reduceIte, Nat.add_left_cancel_iff, Nat.add_eq_left, Nat.left_eq_add, and_self, n_sub, pk_mul, eq_false (show ¬ a' - ns tx a = 0 by omega), eq_false (show ¬ a' - ns tx a ≤ 6 by omega), Tr_blame_r hF' hf, ← hc]
        exact e4 _ hp
      · have : nf tx a a' = none := by simp [nf, e0, e6]
        rw [this] at hp
        simp (disch := omega) only [wp_Rd_readNumber, wb_Rd_readNumber_3, litI, n_le, n_lt, n_eq, n_in, n_cl, nI_add, n_b0, n_b1, n_v0, n_v1, n_m1, n_m1', n_m1l, n_m1l', n_m1g, n_m1ge, si_1, si_2, forall_eq, not_true_eq_false, not_false_eq_true, true_imp_iff, false_imp_iff, true_and, and_true, false_and, and_false, implies_true, ite_true, ite_false, if_true, if_false, Classical.not_not, Nat.reduceEqDiff, reduceIte, Nat.add_left_cancel_iff, Nat.add_eq_left, Nat.left_eq_add, and_self, n_sub, pk_mul, eq_false (show ¬ a' - ns tx a = 0 by omega), eq_true (show a' - ns tx a ≤ 6 by omega), ← hc]
        exact e4 _ hp
  by_cases e : tx a = 45
  · have f1 := fin 1 (by simp [e])
    have e1 : ns tx a = a + 1 := by simp [ns, e]
    have key := Rd_num_l ⟨h1, h2, h3⟩ s2 (post := post) (x1 := nI k) (x2 := nI a) (x3 := nI 1) s4 _ (ns tx a) 0 (nI 0) rfl s1 (by omega) s3 f1
    refine ex_s ?_
    simp (disch := omega) only [wp_Rd_readNumber, wb_Rd_readNumber_0, wb_Rd_readNumber_1, ha, h5.1, litI, n_le, n_lt, n_eq, n_in, n_cl, nI_add, n_b0, n_b1, n_v0, n_v1, n_m1, n_m1', n_m1l, n_m1l', n_m1g, n_m1ge, si_1, si_2, forall_eq, not_true_eq_false, not_false_eq_true, true_imp_iff, false_imp_iff, true_and, and_true, false_and, and_false, implies_true, ite_true, ite_false, if_true, if_false, Classical.not_not, Nat.reduceEqDiff, reduceIte, Nat.add_left_cancel_iff, Nat.add_eq_left, Nat.left_eq_add, and_self, n_sub, pk_mul, eq_true (show a < tl b by omega), eq_true e, show ¬ (1 = 0) by decide]
    rw [e1] at key
    exact key
  · have f1 := fin 0 (by simp [e])
    have e1 : ns tx a = a := by simp [ns, e]
    have key := Rd_num_l ⟨h1, h2, h3⟩ s2 (post := post) (x1 := nI k) (x2 := nI a) (x3 := nI 0) s4 _ (ns tx a) 0 (nI 0) rfl s1 (by omega) s3 f1
    refine ex_s ?_
    simp (disch := omega) only [wp_Rd_readNumber, wb_Rd_readNumber_0, wb_Rd_readNumber_1, ha, h5.1, litI, n_le, n_lt, n_eq, n_in, n_cl, nI_add, n_b0, n_b1, n_v0, n_v1, n_m1, n_m1', n_m1l, n_m1l', n_m1g, n_m1ge, si_1, si_2, forall_eq, not_true_eq_false, not_false_eq_true, true_imp_iff, false_imp_iff, true_and, and_true, false_and, and_false, implies_true, ite_true, ite_false, if_true, if_false, Classical.not_not, Nat.reduceEqDiff, reduceIte, Nat.add_left_cancel_iff, Nat.add_eq_left, Nat.left_eq_add, and_self, n_sub, pk_mul, eq_true (show a < tl b by omega), eq_false e]
    rw [e1, si_id ha] at key
    exact key
theorem Md_number_r {t len : Nat} {tx : Nat → Nat} {σ : Sg} (hT : TM t σ len tx) {a a' k F : Nat} (ha : σ.1 54 19 = nI a) (hl : a < len) (hs : Sp isDg tx len (ns tx a) a') (hk : 160 * t + k < 240) (hF : σ.1 71 t = nI F) (hf : F < 400) (hfr : σ.1 60 (160 * t + k) = nI a) :
    Rv (wq_Md_number (nI (160 * t + k)) σ) (ntO t (si (ma (si σ 59 (160 * t + k) (nI 3)) a') 69 (160 * t + k) (nv tx a a')) F (nf tx a a')) := by
  have h3 := hT.2.2.2.1
  have h5 := hT.2.2.2.2.2 a hl
  obtain ⟨s1, s2, s3, s4⟩ := hs
  have hT1 : TM t (si σ 59 (160 * t + k) (nI 3)) len tx := TM_si hT (by decide) (by decide) (by omega)
  have ha1 : (si σ 59 (160 * t + k) (nI 3)).1 54 19 = nI a := by rw [si_c (by decide)]; exact ha
  intro post hp
  unfold wq_Md_number
  refine ex_s ?_
  have fin : ∀ x2 : Nat, (x2 = if tx a = 45 then 1 else 0) → ∃ f, wp_Md_number post f 2 (nI (160 * t + k)) (nI x2) (nI (ns tx a)) (if ns tx a - ns tx a < 6 then dig tx (ns tx a) (min (6 - (ns tx a - ns tx a)) (a' - ns tx a)) (nI 0) else nI 0) (si (si σ 59 (160 * t + k) (nI 3)) 54 19 (nI a')) := by
    intro x2 hx
    refine ⟨3, ?_⟩
    simp only [Nat.sub_self, show (0 : Nat) < 6 by decide, if_true, Nat.sub_zero]
    have hT2 : TM t (si (si σ 59 (160 * t + k) (nI 3)) 54 19 (nI a')) len tx := TM_si hT1 (by decide) (by decide) (by decide)
    have ha2 : (si (si σ 59 (160 * t + k) (nI 3)) 54 19 (nI a')).1 54 19 = nI a' := by rw [si_1]; simp
    let σ3 := si (si (si σ 59 (160 * t + k) (nI 3)) 54 19 (nI a')) 69 (160 * t + k) (nv tx a a')
    have hT3 : TM t σ3 len tx := TM_si hT2 (by decide) (by decide) (by omega)
    have ha3 : σ3.1 54 19 = nI a' := by show (si _ 69 _ _).1 54 19 = _; rw [si_c (by decide)]; exact ha2
    have hF3 : σ3.1 71 t = nI F := by simp [σ3, si_1, hF]
    have hfr3 : σ3.1 60 (160 * t + k) = nI a := by simp [σ3, si_1, hfr]
    have e3 : wp_Md_number post 2 3 (nI (160 * t + k)) 0 (nI (ns tx a)) 0 σ3 := by
      have e4 : ∀ σ4, σ4.1 54 19 = nI a' → ¬ 6 < a' - ns tx a → post σ4 → wp_Md_number post 1 4 (nI (160 * t + k)) 0 (nI (ns tx a)) 0 σ4 := by
        intro σ4 q1 q2 q3
        simp (disch := omega) only [wp_Md_number, wb_Md_number_4, q1, litI, n_le, n_lt, n_eq, n_in, n_cl, nI_add, n_b0, n_b1, n_v0, n_v1, n_m1, n_m1', n_m1l, n_m1l', n_m1g, n_m1ge, si_1, si_2, forall_eq, not_true_eq_false, not_false_eq_true, true_imp_iff, false_imp_iff, true_and, and_true, false_and, and_false, implies_true, ite_true, ite_false, if_true, if_false, Classical.not_not, Nat.reduceEqDiff, reduceIte, Nat.add_left_cancel_iff, Nat.add_eq_left, Nat.left_eq_add, and_self, n_sub, pk_mul, eq_true (show a' - ns tx a ≤ 6 by omega)]
        exact q3
      by_cases e0 : a' = ns tx a
      · have : nf tx a a' = some (5 + 16 * a) := by simp [nf, e0]
        rw [this] at hp
        have q := e4 (nt t σ3 F (5 + 16 * a)) (by simp [nt, si_1, ha3]) (by omega) hp
        rw [wp_Md_number]
        simp (disch := omega) only [wb_Md_number_3, litI, n_le, n_lt, n_eq, n_in, n_cl, nI_add, n_b0, n_b1, n_v0, n_v1, n_m1, n_m1', n_m1l, n_m1l', n_m1g, n_m1ge, si_1, si_2, forall_eq, not_true_eq_false, not_false_eq_true, true_imp_iff, false_imp_iff, true_and, and_true, false_and, and_false, implies_true, ite_true, ite_false, if_true, if_false, Classical.not_not, Nat.reduceEqDiff, reduceIte, Nat.add_left_cancel_iff, Nat.add_eq_left, Nat.left_eq_add, and_self, n_sub, pk_mul, ha3, hfr3, eq_true e0, eq_true hk, Md_note_r hT3 hF3 hf]
        exact q
      · by_cases e6 : 6 < a' - ns tx a
        · have : nf tx a a' = some (6 + 16 * a) := by simp [nf, e0, e6]
          rw [this] at hp
          simp (disch := omega) only [wp_Md_number, wb_Md_number_3, wb_Md_number_4, litI, n_le, n_lt, n_eq, n_in, n_cl, nI_add, n_b0, n_b1, n_v0, n_v1, n_m1, n_m1', n_m1l, n_m1l', n_m1g, n_m1ge, si_1, si_2, forall_eq, not_true_eq_false, not_false_eq_true, true_imp_iff, false_imp_iff, true_and, and_true, false_and, and_false, implies_true, ite_true, ite_false, if_true, if_false, Classical.not_not, Nat.reduceEqDiff, reduceIte, Nat.add_left_cancel_iff, Nat.add_eq_left, Nat.left_eq_add, and_self, n_sub, pk_mul, ha3, hfr3, eq_false e0, eq_true hk, eq_false (show ¬ a' - ns tx a ≤ 6 by omega), Md_note_r hT3 hF3 hf]
          exact hp
        · have : nf tx a a' = none := by simp [nf, e0, e6]
          rw [this] at hp
          have q := e4 σ3 ha3 e6 hp
          rw [wp_Md_number]
          simp (disch := omega) only [wb_Md_number_3, litI, n_le, n_lt, n_eq, n_in, n_cl, nI_add, n_b0, n_b1, n_v0, n_v1, n_m1, n_m1', n_m1l, n_m1l', n_m1g, n_m1ge, si_1, si_2, forall_eq, not_true_eq_false, not_false_eq_true, true_imp_iff, false_imp_iff, true_and, and_true, false_and, and_false, implies_true, ite_true, ite_false, if_true, if_false, Classical.not_not, Nat.reduceEqDiff, reduceIte, Nat.add_left_cancel_iff, Nat.add_eq_left, Nat.left_eq_add, and_self, n_sub, pk_mul, ha3, eq_false e0]
          exact q
    have hdig : ∀ post' : Int32 → Sg → Prop, post' (nI 0) (si (si σ 59 (160 * t + k) (nI 3)) 54 19 (nI a')) → (wq_Md_here (si (si σ 59 (160 * t + k) (nI 3)) 54 19 (nI a')) (fun r1 σ1 => wq_Md_isDigit r1 σ1 post')) := by
      intro post' hq
      by_cases hl' : a' < len
      · have h6 := hT.2.2.2.2.2 a' hl'
        rw [Md_here_r hT2 ha2 hl', Md_isDigit_r (by omega), bI_f (s4 hl')]; exact hq
      · rw [Md_here_e hT2 ha2 (by omega) (by omega), Md_isDigit_m]; exact hq
    rw [wp_Md_number]
    unfold wb_Md_number_2
    refine hdig _ ?_
    by_cases e : tx a = 45
    · rw [if_pos e] at hx
      subst hx
      have : nv tx a a' = -(dig tx (ns tx a) (min 6 (a' - ns tx a)) (nI 0)) := by simp [nv, e]
      simp (disch := omega) only [litI, n_le, n_lt, n_eq, n_in, n_cl, nI_add, n_b0, n_b1, n_v0, n_v1, n_m1, n_m1', n_m1l, n_m1l', n_m1g, n_m1ge, si_1, si_2, forall_eq, not_true_eq_false, not_false_eq_true, true_imp_iff, false_imp_iff, true_and, and_true, false_and, and_false, implies_true, ite_true, ite_false, if_true, if_false, Classical.not_not, Nat.reduceEqDiff, reduceIte, Nat.add_left_cancel_iff, Nat.add_eq_left, Nat.left_eq_add, and_self, n_sub, pk_mul, show ¬ (1 = 0) by decide, eq_true hk, ← this]
      exact e3
    · rw [if_neg e] at hx
      subst hx
      have : nv tx a a' = (dig tx (ns tx a) (min 6 (a' - ns tx a)) (nI 0)) := by simp [nv, e]
      simp (disch := omega) only [litI, n_le, n_lt, n_eq, n_in, n_cl, nI_add, n_b0, n_b1, n_v0, n_v1, n_m1, n_m1', n_m1l, n_m1l', n_m1g, n_m1ge, si_1, si_2, forall_eq, not_true_eq_false, not_false_eq_true, true_imp_iff, false_imp_iff, true_and, and_true, false_and, and_false, implies_true, ite_true, ite_false, if_true, if_false, Classical.not_not, Nat.reduceEqDiff, reduceIte, Nat.add_left_cancel_iff, Nat.add_eq_left, Nat.left_eq_add, and_self, n_sub, pk_mul, eq_true hk, ← this]
      exact e3
  by_cases e : tx a = 45
  · have f1 := fin 1 (by simp [e])
    have e1 : ns tx a = a + 1 := by simp [ns, e]
    have key := Md_num_l hT1 s2 (a0 := ns tx a) (post := post) (x1 := nI (160 * t + k)) (x2 := nI 1) s4 _ (ns tx a) (nI 0) rfl (Nat.le_refl _) s1 s3 f1
    refine ex_s ?_
    simp (disch := omega) only [wp_Md_number, wb_Md_number_0, wb_Md_number_1, ha1, Md_here_r hT1 ha1 hl, litI, n_le, n_lt, n_eq, n_in, n_cl, nI_add, n_b0, n_b1, n_v0, n_v1, n_m1, n_m1', n_m1l, n_m1l', n_m1g, n_m1ge, si_1, si_2, forall_eq, not_true_eq_false, not_false_eq_true, true_imp_iff, false_imp_iff, true_and, and_true, false_and, and_false, implies_true, ite_true, ite_false, if_true, if_false, Classical.not_not, Nat.reduceEqDiff, reduceIte, Nat.add_left_cancel_iff, Nat.add_eq_left, Nat.left_eq_add, and_self, n_sub, pk_mul, eq_true hk, eq_true e, show ¬ (1 = 0) by decide]
    rw [e1] at key
    exact key
  · have f1 := fin 0 (by simp [e])
    have e1 : ns tx a = a := by simp [ns, e]
    have key := Md_num_l hT1 s2 (a0 := ns tx a) (post := post) (x1 := nI (160 * t + k)) (x2 := nI 0) s4 _ (ns tx a) (nI 0) rfl (Nat.le_refl _) s1 s3 f1
    refine ex_s ?_
    simp (disch := omega) only [wp_Md_number, wb_Md_number_0, wb_Md_number_1, ha1, Md_here_r hT1 ha1 hl, litI, n_le, n_lt, n_eq, n_in, n_cl, nI_add, n_b0, n_b1, n_v0, n_v1, n_m1, n_m1', n_m1l, n_m1l', n_m1g, n_m1ge, si_1, si_2, forall_eq, not_true_eq_false, not_false_eq_true, true_imp_iff, false_imp_iff, true_and, and_true, false_and, and_false, implies_true, ite_true, ite_false, if_true, if_false, Classical.not_not, Nat.reduceEqDiff, reduceIte, Nat.add_left_cancel_iff, Nat.add_eq_left, Nat.left_eq_add, and_self, n_sub, pk_mul, eq_true hk, eq_false e]
    rw [e1, si_id ha1] at key
    exact key
abbrev isW (tx : Nat → Nat) (a a' w : Nat) : Prop := eqn tx a a' wl (ws w) (we w)
def lk (tx : Nat → Nat) (a a' : Nat) : Nat := if isW tx a a' 28 then 1 else if isW tx a a' 29 then 2 else 0
def lf (tx : Nat → Nat) (a a' : Nat) : Option Nat := if isW tx a a' 28 then none else if isW tx a a' 29 then none else if isW tx a a' 22 then none else some (7 + 16 * a)
theorem Rd_readLetters_r {b len : Nat} {tx : Nat → Nat} {σ : Sg} (hT : Tx b σ len tx) (hW : WB σ) (hb : b = 0 ∨ b = 13) {a a' k F : Nat} (ha : σ.1 (b + 12) 4 = nI a) (hs : Sp isLo tx len a a') (hk : k < tl b) (hF : σ.1 b 11 = nI F) (hf : F < tf b) (h0 : σ.1 (b + 1) k = nI 0) :
    Rv (wq_Rd_readLetters b (nI k) σ) (si (blO b (ca b σ a') F (lf tx a a')) (b + 1) k (nI (lk tx a a'))) := by
  have h4 := tl_le b
  have h2 := hT.2.1
  have s1 := hs.1
  have s2 := hs.2.1
  intro post hp
  unfold wq_Rd_readLetters
  refine ex_s ?_
  simp only [wp_Rd_readLetters, wb_Rd_readLetters_0, ha]
  rw [show σ = si σ (b + 12) 4 (nI a) from (si_id ha).symm]
  refine scan (W := fun n x => wp_Rd_readLetters b post n 1 (nI k) (nI a) (si σ (b + 12) 4 (nI x))) ?_ ?_ a hs
  · intro hn
    have hT' : Tx b (ca b σ a') len tx := Tx_si hT (by omega) (by omega)
    have hW' : WB (ca b σ a') := WB_si hW (by omega) (by omega)
    have ha' : (ca b σ a').1 (b + 12) 4 = nI a' := by simp [ca, si_1]
    have hF' : (ca b σ a').1 b 11 = nI F := by simp [ca, si_1, hF]
    have h0' : (ca b σ a').1 (b + 1) k = nI 0 := by simp [ca, si_1, h0]
    have e2 : wp_Rd_readLetters b post 1 2 (nI k) (nI a) (ca b σ a') := by
      simp (disch := omega) only [wp_Rd_readLetters, wb_Rd_readLetters_2, ha', litI]
      refine Wb_isWord_r hT' hW' (by omega) (by omega) s1 s2 _ ?_
      simp only [bI_0]
      by_cases w1 : isW tx a a' 28
      · have e1 : lf tx a a' = none := by unfold lf; rw [if_pos w1]
        have e2 : lk tx a a' = 1 := by unfold lk; rw [if_pos w1]
        rw [e1, e2] at hp
        simp (disch := omega) only [eq_true w1, litI, n_le, n_lt, n_eq, n_in, n_cl, nI_add, n_b0, n_b1, n_v0, n_v1, n_m1, n_m1', n_m1l, n_m1l', n_m1g, n_m1ge, si_1, si_2, forall_eq, not_true_eq_false, not_false_eq_true, true_imp_iff, false_imp_iff, true_and, and_true, false_and, and_false, implies_true, ite_true, ite_false, if_true, if_false, Classical.not_not, Nat.reduceEqDiff, reduceIte, Nat.add_left_cancel_iff, Nat.add_eq_left, Nat.left_eq_add, and_self, n_sub, pk_mul, eq_true hk]
        exact hp
      · simp (disch := omega) only [eq_false w1, litI, n_le, n_lt, n_eq, n_in, n_cl, nI_add, n_b0, n_b1, n_v0, n_v1, n_m1, n_m1', n_m1l, n_m1l', n_m1g, n_m1ge, si_1, si_2, forall_eq, not_true_eq_false, not_false_eq_true, true_imp_iff, false_imp_iff, true_and, and_true, false_and, and_false, implies_true, ite_true, ite_false, if_true, if_false, Classical.not_not, Nat.reduceEqDiff, reduceIte, Nat.add_left_cancel_iff, Nat.add_eq_left, Nat.left_eq_add, and_self, n_sub, pk_mul, ha']
        refine Wb_isWord_r hT' hW' (by omega) (by omega) s1 s2 _ ?_
        simp only [bI_0]
        by_cases w2 : isW tx a a' 29
        · have e1 : lf tx a a' = none := by unfold lf; rw [if_neg w1, if_pos w2]
          have e2 : lk tx a a' = 2 := by unfold lk; rw [if_neg w1, if_pos w2]
          rw [e1, e2] at hp
          simp (disch := omega) only [eq_true w2, litI, n_le, n_lt, n_eq, n_in, n_cl, nI_add, n_b0, n_b1, n_v0, n_v1, n_m1, n_m1', n_m1l, n_m1l', n_m1g, n_m1ge, si_1, si_2, forall_eq, not_true_eq_false, not_false_eq_true, true_imp_iff, false_imp_iff, true_and, and_true, false_and, and_false, implies_true, ite_true, ite_false, if_true, if_false, Classical.not_not, Nat.reduceEqDiff, reduceIte, Nat.add_left_cancel_iff, Nat.add_eq_left, Nat.left_eq_add, and_self, n_sub, pk_mul, eq_true hk]
          exact hp
        · simp (disch := omega) only [eq_false w2, litI, n_le, n_lt, n_eq, n_in, n_cl, nI_add, n_b0, n_b1, n_v0, n_v1, n_m1, n_m1', n_m1l, n_m1l', n_m1g, n_m1ge, si_1, si_2, forall_eq, not_true_eq_false, not_false_eq_true, true_imp_iff, false_imp_iff, true_and, and_true, false_and, and_false, implies_true, ite_true, ite_false, if_true, if_false, Classical.not_not, Nat.reduceEqDiff, reduceIte, Nat.add_left_cancel_iff, Nat.add_eq_left, Nat.left_eq_add, and_self, n_sub, pk_mul, ha']
          refine Wb_isWord_r hT' hW' (by omega) (by omega) s1 s2 _ ?_
          simp only [bI_0]
          have e2 : lk tx a a' = 0 := by unfold lk; rw [if_neg w1, if_neg w2]
          by_cases w3 : isW tx a a' 22
          · have e1 : lf tx a a' = none := by unfold lf; rw [if_neg w1, if_neg w2, if_pos w3]
            rw [e1, e2] at hp
            simp (disch := omega) only [eq_true w3, litI, n_le, n_lt, n_eq, n_in, n_cl, nI_add, n_b0, n_b1, n_v0, n_v1, n_m1, n_m1', n_m1l, n_m1l', n_m1g, n_m1ge, si_1, si_2, forall_eq, not_true_eq_false, not_false_eq_true, true_imp_iff, false_imp_iff, true_and, and_true, false_and, and_false, implies_true, ite_true, ite_false, if_true, if_false, Classical.not_not, Nat.reduceEqDiff, reduceIte, Nat.add_left_cancel_iff, Nat.add_eq_left, Nat.left_eq_add, and_self, n_sub, pk_mul]
            rw [si_id (by exact h0')] at hp
            exact hp
          · have e1 : lf tx a a' = some (7 + 16 * a) := by unfold lf; rw [if_neg w1, if_neg w2, if_neg w3]
            rw [e1, e2, si_id (by rw [blO_c (by omega) (by omega)]; exact h0')] at hp
            simp (disch := omega) only [eq_false w3, litI, n_le, n_lt, n_eq, n_in, n_cl, nI_add, n_b0, n_b1, n_v0, n_v1, n_m1, n_m1', n_m1l, n_m1l', n_m1g, n_m1ge, si_1, si_2, forall_eq, not_true_eq_false, not_false_eq_true, true_imp_iff, false_imp_iff, true_and, and_true, false_and, and_false, implies_true, ite_true, ite_false, if_true, if_false, Classical.not_not, Nat.reduceEqDiff, reduceIte, Nat.add_left_cancel_iff, Nat.add_eq_left, Nat.left_eq_add, and_self, n_sub, pk_mul, Tr_blame_r hF' hf]
            exact hp
    refine ⟨2, ?_⟩
    by_cases hl : a' < len
    · have h5 := hT.2.2 a' hl
      simp (disch := omega) only [wp_Rd_readLetters, wb_Rd_readLetters_1, hT.1, h5.1, litI, n_le, n_lt, n_eq, n_in, n_cl, nI_add, n_b0, n_b1, n_v0, n_v1, n_m1, n_m1', n_m1l, n_m1l', n_m1g, n_m1ge, si_1, si_2, forall_eq, not_true_eq_false, not_false_eq_true, true_imp_iff, false_imp_iff, true_and, and_true, false_and, and_false, implies_true, ite_true, ite_false, if_true, if_false, Classical.not_not, Nat.reduceEqDiff, reduceIte, Nat.add_left_cancel_iff, Nat.add_eq_left, Nat.left_eq_add, and_self, n_sub, pk_mul, eq_false (show ¬ len ≤ a' by omega), eq_true (show a' < tl b by omega), Rd_isLower_r, bI_0, eq_false (hn hl)]
      exact e2
    · simp (disch := omega) only [wp_Rd_readLetters, wb_Rd_readLetters_1, hT.1, litI, n_le, n_lt, n_eq, n_in, n_cl, nI_add, n_b0, n_b1, n_v0, n_v1, n_m1, n_m1', n_m1l, n_m1l', n_m1g, n_m1ge, si_1, si_2, forall_eq, not_true_eq_false, not_false_eq_true, true_imp_iff, false_imp_iff, true_and, and_true, false_and, and_false, implies_true, ite_true, ite_false, if_true, if_false, Classical.not_not, Nat.reduceEqDiff, reduceIte, Nat.add_left_cancel_iff, Nat.add_eq_left, Nat.left_eq_add, and_self, n_sub, pk_mul, eq_true (show len ≤ a' by omega)]
      exact e2
  · intro x hlt hl hpa ih
    have h5 := hT.2.2 x hl
    refine ex_s ?_
    simp (disch := omega) only [wp_Rd_readLetters, wb_Rd_readLetters_1, hT.1, h5.1, litI, n_le, n_lt, n_eq, n_in, n_cl, nI_add, n_b0, n_b1, n_v0, n_v1, n_m1, n_m1', n_m1l, n_m1l', n_m1g, n_m1ge, si_1, si_2, forall_eq, not_true_eq_false, not_false_eq_true, true_imp_iff, false_imp_iff, true_and, and_true, false_and, and_false, implies_true, ite_true, ite_false, if_true, if_false, Classical.not_not, Nat.reduceEqDiff, reduceIte, Nat.add_left_cancel_iff, Nat.add_eq_left, Nat.left_eq_add, and_self, n_sub, pk_mul, eq_false (show ¬ len ≤ x by omega), eq_true (show x < tl b by omega), Rd_isLower_r, bI_0, eq_true hpa, si_si]
    exact ih
