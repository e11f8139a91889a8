def kb (c : Nat) : Nat := if c = 123 then 6 else if c = 91 then 5 else if c = 34 then 4 else if isLo c then 0 else 3
theorem Rd_kind_r {c : Nat} (hc : c < 2147483648) (σ : Sg) (post : Int32 → Sg → Prop) : wq_Rd_kindBegunBy (nI c) σ post ↔ post (nI (kb c)) σ := by
  unfold kb
  by_cases h1 : c = 123
  · simp (disch := omega) only [wq_Rd_kindBegunBy, litI, n_le, n_lt, n_eq, n_in, n_cl, nI_add, n_b0, n_b1, n_v0, n_v1, n_m1, n_m1', n_m1l, n_m1l', n_m1g, n_m1ge, si_1, si_2, forall_eq, not_true_eq_false, not_false_eq_true, true_imp_iff, false_imp_iff, true_and, and_true, false_and, and_false, implies_true, ite_true, ite_false, if_true, if_false, Classical.not_not, Nat.reduceEqDiff, reduceIte, Nat.add_left_cancel_iff, Nat.add_eq_left, Nat.left_eq_add, and_self, n_sub, pk_mul, eq_true h1]
  · by_cases h2 : c = 91
    · simp (disch := omega) only [wq_Rd_kindBegunBy, litI, n_le, n_lt, n_eq, n_in, n_cl, nI_add, n_b0, n_b1, n_v0, n_v1, n_m1, n_m1', n_m1l, n_m1l', n_m1g, n_m1ge, si_1, si_2, forall_eq, not_true_eq_false, not_false_eq_true, true_imp_iff, false_imp_iff, true_and, and_true, false_and, and_false, implies_true, ite_true, ite_false, if_true, if_false, Classical.not_not, Nat.reduceEqDiff, reduceIte, Nat.add_left_cancel_iff, Nat.add_eq_left, Nat.left_eq_add, and_self, n_sub, pk_mul, eq_false h1, eq_true h2]
    · by_cases h3 : c = 34
      · simp (disch := omega) only [wq_Rd_kindBegunBy, litI, n_le, n_lt, n_eq, n_in, n_cl, nI_add, n_b0, n_b1, n_v0, n_v1, n_m1, n_m1', n_m1l, n_m1l', n_m1g, n_m1ge, si_1, si_2, forall_eq, not_true_eq_false, not_false_eq_true, true_imp_iff, false_imp_iff, true_and, and_true, false_and, and_false, implies_true, ite_true, ite_false, if_true, if_false, Classical.not_not, Nat.reduceEqDiff, reduceIte, Nat.add_left_cancel_iff, Nat.add_eq_left, Nat.left_eq_add, and_self, n_sub, pk_mul, eq_false h1, eq_false h2, eq_true h3]
      · by_cases h4 : isLo c
        · simp (disch := omega) only [wq_Rd_kindBegunBy, litI, n_le, n_lt, n_eq, n_in, n_cl, nI_add, n_b0, n_b1, n_v0, n_v1, n_m1, n_m1', n_m1l, n_m1l', n_m1g, n_m1ge, si_1, si_2, forall_eq, not_true_eq_false, not_false_eq_true, true_imp_iff, false_imp_iff, true_and, and_true, false_and, and_false, implies_true, ite_true, ite_false, if_true, if_false, Classical.not_not, Nat.reduceEqDiff, reduceIte, Nat.add_left_cancel_iff, Nat.add_eq_left, Nat.left_eq_add, and_self, n_sub, pk_mul, eq_false h1, eq_false h2, eq_false h3, eq_true h4, Rd_isLower_r, bI_0]
        · simp (disch := omega) only [wq_Rd_kindBegunBy, litI, n_le, n_lt, n_eq, n_in, n_cl, nI_add, n_b0, n_b1, n_v0, n_v1, n_m1, n_m1', n_m1l, n_m1l', n_m1g, n_m1ge, si_1, si_2, forall_eq, not_true_eq_false, not_false_eq_true, true_imp_iff, false_imp_iff, true_and, and_true, false_and, and_false, implies_true, ite_true, ite_false, if_true, if_false, Classical.not_not, Nat.reduceEqDiff, reduceIte, Nat.add_left_cancel_iff, Nat.add_eq_left, Nat.left_eq_add, and_self, n_sub, pk_mul, eq_false h1, eq_false h2, eq_false h3, eq_false h4, Rd_isLower_r, bI_0]
/-- what a value that is no bracket is -/
def At (tx : Nat → Nat) (len a kd : Nat) (nu : Int32) (fo : Option Nat) (a' : Nat) : Prop :=
  (∃ e, tx a = 34 ∧ Sp (fun c => c ≠ 34) tx len (a + 1) e ∧ kd = 4 ∧ nu = nI 0 ∧ fo = (if e < len then none else some (4 + 16 * a)) ∧ a' = (if e < len then e + 1 else e)) ∨
  (isLo (tx a) ∧ Sp isLo tx len a a' ∧ kd = lk tx a a' ∧ nu = nI 0 ∧ fo = lf tx a a') ∨
  ((tx a = 45 ∨ isDg (tx a)) ∧ Sp isDg tx len (ns tx a) a' ∧ kd = 3 ∧ nu = nv tx a a' ∧ fo = nf tx a a')
theorem At_ex {tx : Nat → Nat} {len a d : Nat} (hl : a < len) (hs : stt (tx a) d) (ho : ¬ isOp (tx a)) : ∃ kd nu fo a', At tx len a kd nu fo a' := by
  by_cases h1 : tx a = 34
  · obtain ⟨e, he⟩ := Sp_ex (fun c => c ≠ 34) tx len (a + 1) (by omega)
    exact ⟨_, _, _, _, Or.inl ⟨e, h1, he, rfl, rfl, rfl, rfl⟩⟩
  · by_cases h2 : isLo (tx a)
    · obtain ⟨e, he⟩ := Sp_ex isLo tx len a (by omega)
      exact ⟨_, _, _, _, Or.inr (Or.inl ⟨h2, he, rfl, rfl, rfl⟩)⟩
    · obtain ⟨e, he⟩ := Sp_ex isDg tx len (ns tx a) (by unfold ns; split <;> omega)
      exact ⟨_, _, _, _, Or.inr (Or.inr ⟨by omega, he, rfl, rfl, rfl⟩)⟩
theorem At_ok {tx : Nat → Nat} {len a kd a' : Nat} {nu : Int32} {fo : Option Nat} (hl : a < len) (h : At tx len a kd nu fo a') : a < a' ∧ a' ≤ len ∧ kd ≤ 4 ∧ (kd = 1 → a + 5 ≤ a') ∧ ¬ isOp (tx a) := by
  have hsp : ∀ p : Nat → Prop, ∀ x, p (tx a) → Sp p tx len a x → a < x := fun p x hp hs => by
    rcases Nat.eq_or_lt_of_le hs.1 with e | e
    · subst e; exact absurd hp (hs.2.2.2 hl)
    · exact e
  rcases h with ⟨e, h1, h2, rfl, rfl, rfl, rfl⟩ | ⟨h1, h2, rfl, rfl, rfl⟩ | ⟨h1, h2, rfl, rfl, rfl⟩
  case inl => have := h2.1; have := h2.2.1; refine ⟨?_, ?_, by omega, by omega, by omega⟩ <;> (split <;> omega)
  case inr.inl =>
    refine ⟨hsp _ _ h1 h2, h2.2.1, ?_, ?_, by omega⟩
    · unfold lk; split <;> (try split) <;> omega
    · intro hk
      unfold lk at hk
      split at hk
      · rename_i hw
        have := hw.1
        have e5 : we 28 - ws 28 = 5 := by decide +kernel
        omega
      · split at hk <;> omega
  case inr.inr =>
    refine ⟨?_, h2.2.1, by omega, by omega, by omega⟩
    rcases h1 with h1 | h1
    · have := h2.1; simp only [ns, h1, if_true] at this; omega
    · have e : ns tx a = a := by unfold ns; rw [if_neg (by omega)]
      rw [e] at h2; exact hsp _ _ h1 h2
theorem dl_N {len kd fr en : Nat} {G : TG} {pr nm : Option Nat} {nu : Int32} (hw : WG len G) : ∀ j, j < G.N + 1 → ∀ c ∈ ((gN G kd fr en pr nm nu).K j).dropLast, c ≠ G.N := by
  intro j hj c hc
  by_cases e : j = G.N
  · simp [gN, e, mkT_N, mkT_F, mkT_fl, mkT_kd, mkT_fr, mkT_en, mkT_pr, mkT_nm, mkT_nu, mkT_K, mkT_lv] at hc
  · simp only [gN, e, if_false, mkT_N, mkT_F, mkT_fl, mkT_kd, mkT_fr, mkT_en, mkT_pr, mkT_nm, mkT_nu, mkT_K, mkT_lv] at hc
    split at hc
    · rw [List.dropLast_concat] at hc
      have := (hw.ch j (by omega) c hc).2.1; omega
    · have := (hw.ch j (by omega) c (List.dropLast_subset _ hc)).2.1; omega
/-- the class's end of a value that is no bracket -/
theorem fin_c {b len a a' kd : Nat} {tx : Nat → Nat} {σ σ2 : Sg} {G : TG} {op op2 : Nat → Nat} {pr nm : Option Nat} {nu : Int32} {fo : Option Nat} (hb : b = 0 ∨ b = 13) (hw : WG len G) (hN : G.N < tl b) (ho2 : ∀ k, k ≠ G.N → op k = op2 k)
    (h2 : CI b σ2 len tx (gFo (gN G kd a 0 pr nm nu) fo) op2) (hk : op2 G.N < 2 ∨ (σ2.1 (b + 1) G.N = nI kd ∧ σ2.1 (b + 7) G.N = nu)) (ha : σ2.1 (b + 12) 4 = nI a') (hf : CFr b σ σ2) :
    ∃ σ', Rv (wq_Tr_close b (nI G.N) (σ2.1 (b + 12) 4) σ2) σ' ∧ CI b σ' len tx (gC (gFo (gN G kd a 0 pr nm nu) fo) G.N a') op ∧ σ'.1 (b + 12) 4 = nI a' ∧ CFr b σ σ' ∧ (∀ p, pr = some p → chE (σ'.1 (b + 8)) (nI (p + 1)) (G.K p ++ [G.N]) = nI (G.N + 1)) := by
  have hN2 : σ2.1 b 9 = nI (G.N + 1) := by rw [h2.N, gFo_N]; rfl
  refine ⟨si (si σ2 (b + 3) G.N (nI a')) (b + 8) G.N (nI (G.N + 1)), ?_, ?_, ?_, ?_, ?_⟩
  · intro post hp; rw [ha, Tr_close_r hN2 hN]; exact hp
  · have := CI_close (a := a') (k := G.N) (op2 := op) hb h2 ho2 (by
      rcases hk with q | q
      · exact Or.inl q
      · right; rw [gFo_kd, gFo_nu]; simp [gN, mkT_N, mkT_F, mkT_fl, mkT_kd, mkT_fr, mkT_en, mkT_pr, mkT_nm, mkT_nu, mkT_K, mkT_lv]; exact q) (by rw [gFo_N, gFo_K]; exact dl_N hw)
    rw [gFo_N] at this
    exact this
  · rw [si_c (by omega), si_c (by omega)]; exact ha
  · exact CFr_si (CFr_si hf (Or.inl (by omega))) (Or.inl (by omega))
  · intro p _; rw [chE_app, si_1, if_pos ⟨rfl, rfl⟩]
theorem atom_c {b len a a' kd d n : Nat} {tx : Nat → Nat} {σ : Sg} {G : TG} {op : Nat → Nat} {pr nm : Option Nat} {nu : Int32} {fo : Option Nat} (hb : b = 0 ∨ b = 13) (h : CI b σ len tx G op) (hw : WG len G) (ha : σ.1 (b + 12) 4 = nI a) (hl : a < len)
    (hA : At tx len a kd nu fo a') (hN : G.N < tl b) (hF : G.F < tf b) (hp : ∀ p, pr = some p → p < G.N ∧ chE (σ.1 (b + 8)) (nI (p + 1)) (G.K p) = nI G.N) (x3 : Int32) :
    ∃ σ', Rv (wd_Rd_readValue (n + 1) b (oI pr) (oI nm) x3 σ) σ' ∧ CI b σ' len tx (gC (gFo (gN G kd a 0 pr nm nu) fo) G.N a') op ∧ σ'.1 (b + 12) 4 = nI a' ∧ CFr b σ σ' ∧ (∀ p, pr = some p → chE (σ'.1 (b + 8)) (nI (p + 1)) (G.K p ++ [G.N]) = nI (G.N + 1)) := by
  have h4 := tl_le b
  have h2 := h.t.2.1
  have h5 := h.t.2.2 a hl
  have hao := At_ok hl hA
  let op2 : Nat → Nat := fun k => if k = G.N then 2 else op k
  have hop : ∀ k, k ≠ G.N → op k = op2 k := fun k hk => by simp [op2, hk]
  have hop2 : op2 G.N = 2 := by simp [op2]
  have h1 : ∀ kd0, CI b (opO b σ G kd0 a pr nm) len tx (gN G kd a 0 pr nm nu) op2 := fun kd0 => CI_open hb h (fun k hk => (hop k (by omega)).symm) (Or.inl hop2) hp
  have e12 : ∀ kd0, (opO b σ G kd0 a pr nm).1 (b + 12) = σ.1 (b + 12) := fun kd0 => by
    cases pr with
    | none => unfold opO opn; repeat rw [si_c (by omega)]
    | some p => unfold opO; rw [si_c (by omega)]; unfold opn; repeat rw [si_c (by omega)]
  have ek : ∀ kd0, (opO b σ G kd0 a pr nm).1 (b + 1) G.N = nI kd0 := fun kd0 => by
    cases pr with
    | none => simp [opO, opn, si_1]
    | some p => simp [opO, opn, si_1]
  have en : ∀ kd0, (opO b σ G kd0 a pr nm).1 (b + 7) G.N = nI 0 := fun kd0 => by
    cases pr with
    | none => simp [opO, opn, si_1]
    | some p => simp [opO, opn, si_1]
  have ha1 : ∀ kd0, (opO b σ G kd0 a pr nm).1 (b + 12) 4 = nI a := fun kd0 => by rw [e12]; exact ha
  have hf1 : ∀ kd0, CFr b σ (opO b σ G kd0 a pr nm) := fun kd0 => CFr_opO CFr_r
  have hF1 : ∀ kd0, (opO b σ G kd0 a pr nm).1 b 11 = nI G.F := fun kd0 => (h1 kd0).F
  -- the way to the branch
  have way : ∀ (σ' : Sg), (∀ post, post σ' → (¬ tx a = 34 → (isLo (tx a) → wq_Rd_readLetters b (nI G.N) (opO b σ G 0 a pr nm) (fun σ5 => wq_Tr_close b (nI G.N) (σ5.1 (b + 12) 4) σ5 post)) ∧ (¬ isLo (tx a) → wq_Rd_readNumber b (nI G.N) (opO b σ G 3 a pr nm) (fun σ5 => wq_Tr_close b (nI G.N) (σ5.1 (b + 12) 4) σ5 post))) ∧
      (tx a = 34 → wq_Rd_passQuoted b (opO b σ G 4 a pr nm) (fun σ5 => wq_Tr_close b (nI G.N) (σ5.1 (b + 12) 4) σ5 post))) → Rv (wd_Rd_readValue (n + 1) b (oI pr) (oI nm) x3 σ) σ' := by
    intro σ' hh post hq
    have hh := hh post hq
    show wqf_Rd_readValue (wd_Rd_readValue n) b (oI pr) (oI nm) x3 σ post
    unfold wqf_Rd_readValue
    simp (disch := omega) only [ha, h5.1, litI, n_le, n_lt, n_eq, n_in, n_cl, nI_add, n_b0, n_b1, n_v0, n_v1, n_m1, n_m1', n_m1l, n_m1l', n_m1g, n_m1ge, si_1, si_2, forall_eq, not_true_eq_false, not_false_eq_true, true_imp_iff, false_imp_iff, true_and, and_true, false_and, and_false, implies_true, ite_true, ite_false, if_true, if_false, Classical.not_not, Nat.reduceEqDiff, reduceIte, Nat.add_left_cancel_iff, Nat.add_eq_left, Nat.left_eq_add, and_self, n_sub, pk_mul, eq_true (show a < tl b by omega), Rd_kind_r]
    rw [Tr_open_o h hN (fun p hpp => (hp p hpp).1)]
    simp (disch := omega) only [Rd_opens_r, bI_0, eq_false hao.2.2.2.2, litI, n_le, n_lt, n_eq, n_in, n_cl, nI_add, n_b0, n_b1, n_v0, n_v1, n_m1, n_m1', n_m1l, n_m1l', n_m1g, n_m1ge, si_1, si_2, forall_eq, not_true_eq_false, not_false_eq_true, true_imp_iff, false_imp_iff, true_and, and_true, false_and, and_false, implies_true, ite_true, ite_false, if_true, if_false, Classical.not_not, Nat.reduceEqDiff, reduceIte, Nat.add_left_cancel_iff, Nat.add_eq_left, Nat.left_eq_add, and_self, n_sub, pk_mul]
    have n1 : ¬ tx a = 123 := fun q => hao.2.2.2.2 (Or.inl q)
    have n2 : ¬ tx a = 91 := fun q => hao.2.2.2.2 (Or.inr q)
    by_cases e1 : tx a = 34
    · have ek : kb (tx a) = 4 := by simp [kb, e1]
      rw [ek]
      simp only [eq_true e1, litI, n_le, n_lt, n_eq, n_in, n_cl, nI_add, n_b0, n_b1, n_v0, n_v1, n_m1, n_m1', n_m1l, n_m1l', n_m1g, n_m1ge, si_1, si_2, forall_eq, not_true_eq_false, not_false_eq_true, true_imp_iff, false_imp_iff, true_and, and_true, false_and, and_false, implies_true, ite_true, ite_false, if_true, if_false, Classical.not_not, Nat.reduceEqDiff, reduceIte, Nat.add_left_cancel_iff, Nat.add_eq_left, Nat.left_eq_add, and_self, n_sub, pk_mul]
      exact hh.2 e1
    · by_cases e2 : isLo (tx a)
      · have ek : kb (tx a) = 0 := by unfold kb; rw [if_neg n1, if_neg n2, if_neg e1, if_pos e2]
        rw [ek]
        simp (disch := omega) only [eq_false e1, litI, n_le, n_lt, n_eq, n_in, n_cl, nI_add, n_b0, n_b1, n_v0, n_v1, n_m1, n_m1', n_m1l, n_m1l', n_m1g, n_m1ge, si_1, si_2, forall_eq, not_true_eq_false, not_false_eq_true, true_imp_iff, false_imp_iff, true_and, and_true, false_and, and_false, implies_true, ite_true, ite_false, if_true, if_false, Classical.not_not, Nat.reduceEqDiff, reduceIte, Nat.add_left_cancel_iff, Nat.add_eq_left, Nat.left_eq_add, and_self, n_sub, pk_mul, Rd_isLower_r, bI_0, eq_true e2]
        exact (hh.1 e1).1 e2
      · have ek : kb (tx a) = 3 := by unfold kb; rw [if_neg n1, if_neg n2, if_neg e1, if_neg e2]
        rw [ek]
        simp (disch := omega) only [eq_false e1, litI, n_le, n_lt, n_eq, n_in, n_cl, nI_add, n_b0, n_b1, n_v0, n_v1, n_m1, n_m1', n_m1l, n_m1l', n_m1g, n_m1ge, si_1, si_2, forall_eq, not_true_eq_false, not_false_eq_true, true_imp_iff, false_imp_iff, true_and, and_true, false_and, and_false, implies_true, ite_true, ite_false, if_true, if_false, Classical.not_not, Nat.reduceEqDiff, reduceIte, Nat.add_left_cancel_iff, Nat.add_eq_left, Nat.left_eq_add, and_self, n_sub, pk_mul, Rd_isLower_r, bI_0, eq_false e2]
        exact (hh.1 e1).2 e2
  rcases hA with ⟨e, q1, q2, rfl, rfl, rfl, rfl⟩ | ⟨q1, q2, rfl, rfl, rfl⟩ | ⟨q1, q2, rfl, rfl, rfl⟩
  case inl =>
    have q3 := q2.2.1
    obtain ⟨σ', r1, r2⟩ := fin_c (σ2 := if e < len then ca b (opO b σ G 4 a pr nm) (e + 1) else ca b (bl b (opO b σ G 4 a pr nm) G.F (4 + 16 * a)) e) (kd := 4) (nu := nI 0) (fo := if e < len then none else some (4 + 16 * a)) (a := a) (a' := if e < len then e + 1 else e) hb hw hN hop
      (by split
          · exact CI_ca hb (h1 4)
          · exact CI_ca hb (CI_bl hb (h1 4)))
      (Or.inr (by split
                  · exact ⟨by unfold ca; rw [si_c (by omega)]; exact ek 4, by unfold ca; rw [si_c (by omega)]; exact en 4⟩
                  · exact ⟨by unfold ca; rw [si_c (by omega), bl_c (by omega) (by omega)]; exact ek 4, by unfold ca; rw [si_c (by omega), bl_c (by omega) (by omega)]; exact en 4⟩))
      (by split <;> simp [ca, si_1])
      (by split
          · exact CFr_ca (hf1 4)
          · exact CFr_ca (CFr_bl (hf1 4)))
    refine ⟨σ', way σ' (fun post hq => ⟨fun hn => absurd q1 hn, fun _ => ?_⟩), r2⟩
    exact Rd_passQuoted_r (h1 4).t (ha1 4) q2 (hF1 4) hF _ (r1 post hq)
  case inr.inl =>
    have q3 := q2.2.1
    have hFe : (ca b (opO b σ G 0 a pr nm) a').1 b 11 = nI G.F := (CI_ca hb (h1 0)).F
    obtain ⟨σ', r1, r2⟩ := fin_c (σ2 := si (blO b (ca b (opO b σ G 0 a pr nm) a') G.F (lf tx a a')) (b + 1) G.N (nI (lk tx a a'))) (kd := lk tx a a') (nu := nI 0) (fo := lf tx a a') (a := a) (a' := a') hb hw hN hop
      (by
        have c0 := CI_blO (fo := lf tx a a') hb (CI_ca (a := a') hb (h1 0))
        refine ⟨Tx_si c0.t (by omega) (by omega), WB_si c0.w (by omega) (by omega), ?_, ?_, ?_, ?_, ?_, ?_, ?_, ?_, ?_, ?_, ?_⟩
        · rw [si_c (by omega)]; exact c0.N
        · rw [si_c (by omega)]; exact c0.F
        · rw [si_c (by omega)]; exact c0.fl
        · intro k hk h2
          by_cases e : k = G.N
          · subst e; omega
          · rw [si_1, if_neg (fun q => e q.2)]; exact c0.kd k hk h2
        · rw [si_c (by omega)]; exact c0.fr
        · rw [si_c (by omega)]; exact c0.en
        · rw [si_c (by omega)]; exact c0.pr
        · rw [si_c (by omega)]; exact c0.mn
        · rw [si_c (by omega)]; exact c0.nm
        · rw [si_c (by omega)]; exact c0.nu
        · rw [si_c (by omega)]; exact c0.ch)
      (Or.inr ⟨by rw [si_1, if_pos ⟨rfl, rfl⟩], by rw [si_c (by omega), blO_c (by omega) (by omega)]; unfold ca; rw [si_c (by omega)]; exact en 0⟩)
      (by rw [si_c (by omega), blO_c (by omega) (by omega)]; simp [ca, si_1])
      (CFr_si (CFr_blO (CFr_ca (hf1 0))) (Or.inl (by omega)))
    refine ⟨σ', way σ' (fun post hq => ⟨fun hn => ⟨fun _ => ?_, fun hn2 => absurd q1 hn2⟩, fun hn => by omega⟩), r2⟩
    exact Rd_readLetters_r (h1 0).t (h1 0).w hb (ha1 0) q2 hN (hF1 0) hF (ek 0) _ (r1 post hq)
  case inr.inr =>
    have q3 := q2.2.1
    obtain ⟨σ', r1, r2⟩ := fin_c (σ2 := si (blO b (ca b (opO b σ G 3 a pr nm) a') G.F (nf tx a a')) (b + 7) G.N (nv tx a a')) (kd := 3) (nu := nv tx a a') (fo := nf tx a a') (a := a) (a' := a') hb hw hN hop
      (by
        have c0 := CI_blO (fo := nf tx a a') hb (CI_ca (a := a') hb (h1 3))
        refine ⟨Tx_si c0.t (by omega) (by omega), WB_si c0.w (by omega) (by omega), ?_, ?_, ?_, ?_, ?_, ?_, ?_, ?_, ?_, ?_, ?_⟩
        · rw [si_c (by omega)]; exact c0.N
        · rw [si_c (by omega)]; exact c0.F
        · rw [si_c (by omega)]; exact c0.fl
        · rw [si_c (by omega)]; exact c0.kd
        · rw [si_c (by omega)]; exact c0.fr
        · rw [si_c (by omega)]; exact c0.en
        · rw [si_c (by omega)]; exact c0.pr
        · rw [si_c (by omega)]; exact c0.mn
        · rw [si_c (by omega)]; exact c0.nm
        · intro k hk h2
          by_cases e : k = G.N
          · subst e; omega
          · rw [si_1, if_neg (fun q => e q.2)]; exact c0.nu k hk h2
        · rw [si_c (by omega)]; exact c0.ch)
      (Or.inr ⟨by rw [si_c (by omega), blO_c (by omega) (by omega)]; unfold ca; rw [si_c (by omega)]; exact ek 3, by rw [si_1, if_pos ⟨rfl, rfl⟩]⟩)
      (by rw [si_c (by omega), blO_c (by omega) (by omega)]; simp [ca, si_1])
      (CFr_si (CFr_blO (CFr_ca (hf1 3))) (Or.inl (by omega)))
    refine ⟨σ', way σ' (fun post hq => ⟨fun hn => ⟨fun hn2 => by omega, fun _ => ?_⟩, fun hn => by omega⟩), r2⟩
    exact Rd_readNumber_r (h1 3).t (ha1 3) hl q2 hN (hF1 3) hF _ (r1 post hq)
