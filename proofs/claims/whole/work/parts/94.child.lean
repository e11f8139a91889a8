/-- the child's name is what stands from f1 to e1 in tx1 -/
noncomputable def nmE (tx : Nat → Nat) (len : Nat) (G : TG) (tx1 : Nat → Nat) (f1 e1 c : Nat) : Bool := match G.nm c with
  | some n => decide (eqn tx (n + 1) (qe tx len (n + 1)) tx1 f1 e1)
  | none => false
/-- the first child of that name -/
noncomputable def cnd (tx : Nat → Nat) (len : Nat) (G : TG) (k : Nat) (tx1 : Nat → Nat) (f1 e1 : Nat) : Option Nat := if G.kd k = 6 then (G.K k).find? (nmE tx len G tx1 f1 e1) else none
theorem cnd_lt {tx : Nat → Nat} {len : Nat} {G : TG} {k : Nat} {tx1 : Nat → Nat} {f1 e1 c : Nat} (h : cnd tx len G k tx1 f1 e1 = some c) : G.kd k = 6 ∧ c ∈ G.K k ∧ nmE tx len G tx1 f1 e1 c = true := by
  unfold cnd at h
  split at h
  · rename_i h6; exact ⟨h6, List.mem_of_find?_eq_some h, List.find?_some h⟩
  · cases h
theorem len_K {len : Nat} {G : TG} (hw : WG len G) {k : Nat} (hk : k < G.N) : (G.K k).length ≤ G.N := by
  have hs := (hw.so k hk).imp (fun h => Nat.ne_of_lt h)
  have hsub : G.K k ⊆ List.range G.N := fun c hc => List.mem_range.mpr (hw.ch k hk c hc).2.1
  have := List.Nodup.length_le_of_subset hs hsub
  simpa using this
theorem cn_c {b b1 len len1 : Nat} {tx tx1 : Nat → Nat} {σ : Sg} {G : TG} {op : Nat → Nat} (h : CI b σ len tx G op) (hw : WG len G) (hT1 : Tx b1 σ len1 tx1) {k g e1 : Nat} (hk : k < G.N) (hop : op k < 2) (hN : G.N ≤ tl b) (hs1 : Sp (fun c => c ≠ 34) tx1 len1 g e1) :
    Ri (wq_Tr_childNamed b b1 (nI k) (nI g) σ) (oI (cnd tx len G k tx1 g e1)) σ := by
  have h4 := tl_le b
  unfold cnd
  by_cases h6 : G.kd k = 6
  · rw [if_pos h6]
    have hl := len_K hw hk
    refine Tr_childNamed_r h.t hT1 (by omega) (by rw [h.kd k hk hop, h6]) (h.mn k hk) (by omega) (h.ch k hk) hs1 _ (fun c hc => ?_)
    have hc1 := hw.ch k hk c hc
    obtain ⟨n, hn1, hn2⟩ := (hw.nm c hc1.2.1 k hc1.2.2.1).1 h6
    refine ⟨by omega, n, qe tx len (n + 1), by rw [h.nm c hc1.2.1, hn1]; rfl, qe_sp (by omega), ?_⟩
    unfold nmE; rw [hn1]; simp
  · rw [if_neg h6]
    exact Tr_childNamed_n (by omega) (h.kd k hk hop) h6 (by have := hw.kd k hk; omega)
/-- the letters of the reference's text t -/
def TX (t : Nat) (σ : Sg) (len : Nat) (tx : Nat → Nat) : Prop := t < 2 ∧ len ≤ 160 ∧ 160 * t + len ≤ 240 ∧ ∀ k, k < len → σ.1 56 (160 * t + k) = nI (tx k) ∧ 32 ≤ tx k ∧ tx k ≤ 126
theorem TM_X {t len : Nat} {tx : Nat → Nat} {σ : Sg} (h : TM t σ len tx) : TX t σ len tx := ⟨h.1, h.2.2.2.1, h.2.2.2.2.1, h.2.2.2.2.2⟩
theorem cn_m {t len len1 t1 : Nat} {tx tx1 : Nat → Nat} {σ : Sg} {G : TG} {op : Nat → Nat} (h : MI t σ len tx G op) (hw : WG len G) (hX : TX t σ len tx) (hX1 : TX t1 σ len1 tx1) {k g e1 : Nat} (hk : k < G.N) (hN : 160 * t + G.N ≤ 240) (hN2 : G.N ≤ 160) (h6 : G.kd k = 6) (hg : g ≤ e1) (he : e1 ≤ len1) :
    Ri (wq_Md_childNamed (nI (160 * t + k)) (nI (160 * t1 + g)) (nI (160 * t1 + e1)) σ) (oM t (cnd tx len G k tx1 g e1)) σ := by
  unfold cnd
  rw [if_pos h6]
  obtain ⟨x1, x2, x3, x4⟩ := hX
  obtain ⟨y1, y2, y3, y4⟩ := hX1
  refine Md_childNamed_r x1 (by omega) (by omega) (h.ch k hk) (by omega) (by omega) (v := fun j => tx1 (g + j)) (fun j hj => ?_) _ (fun c hc => ?_)
  · have := y4 (g + j) (by omega)
    exact ⟨by rw [show 160 * t1 + g + j = 160 * t1 + (g + j) by omega]; exact this.1, this.2.2⟩
  · have hc1 := hw.ch k hk c hc
    obtain ⟨n, hn1, hn2⟩ := (hw.nm c hc1.2.1 k hc1.2.2.1).1 h6
    have hq := qe_sp (tx := tx) (len := len) (x := n + 1) (by omega)
    have hq1 := hq.1
    have hq2 := hq.2.1
    refine ⟨by omega, n, qe tx len (n + 1), hq1, by omega, by rw [h.nm c hc1.2.1, hn1]; rfl, h.ne c hc1.2.1 n hn1, fun j => tx (n + 1 + j), fun j hj => ?_, ?_⟩
    · have := x4 (n + 1 + j) (by omega)
      exact ⟨by rw [show 160 * t + n + 1 + j = 160 * t + (n + 1 + j) by omega]; exact this.1, this.2.2⟩
    · unfold nmE; rw [hn1]; simp [show 160 * t1 + e1 - (160 * t1 + g) = e1 - g by omega]
theorem oI_m1 {o : Option Nat} (h : ∀ c, o = some c → c < 2147483648) : (oI o = -nI 1) ↔ o = none := by
  cases o with
  | none => simp [oI]
  | some c => simp [oI, n_m1 (h c rfl)]
theorem oM_lt {t : Nat} {o : Option Nat} (h : ∀ c, o = some c → 160 * t + c < 2147483648) : (oM t o < nI 0) ↔ o = none := by
  cases o with
  | none => simp [oM]; decide +kernel
  | some c => simp [oM, n_lt (h c rfl) (show 0 < 2147483648 by decide)]
/-- a member up to its value: the places and the tree -/
abbrev Mb (tx : Nat → Nat) (len a1 e a2 a3 a4 a5 : Nat) : Prop := (Sp (fun c => c ≠ 34) tx len (a1 + 1) e) ∧ (a2 = if e < len then e + 1 else e) ∧ (Sp (fun c => c = 32) tx len a2 a3) ∧ (a4 = if a3 < len ∧ tx a3 = 58 then a3 + 1 else a3) ∧ (Sp (fun c => c = 32) tx len a4 a5)
theorem Mb.s1 {tx : Nat → Nat} {len a1 e a2 a3 a4 a5 : Nat} (hX : Mb tx len a1 e a2 a3 a4 a5) : Sp (fun c => c ≠ 34) tx len (a1 + 1) e := hX.1
theorem Mb.s2 {tx : Nat → Nat} {len a1 e a2 a3 a4 a5 : Nat} (hX : Mb tx len a1 e a2 a3 a4 a5) : a2 = if e < len then e + 1 else e := hX.2.1
theorem Mb.s3 {tx : Nat → Nat} {len a1 e a2 a3 a4 a5 : Nat} (hX : Mb tx len a1 e a2 a3 a4 a5) : Sp (fun c => c = 32) tx len a2 a3 := hX.2.2.1
theorem Mb.s4 {tx : Nat → Nat} {len a1 e a2 a3 a4 a5 : Nat} (hX : Mb tx len a1 e a2 a3 a4 a5) : a4 = if a3 < len ∧ tx a3 = 58 then a3 + 1 else a3 := hX.2.2.2.1
theorem Mb.s5 {tx : Nat → Nat} {len a1 e a2 a3 a4 a5 : Nat} (hX : Mb tx len a1 e a2 a3 a4 a5) : Sp (fun c => c = 32) tx len a4 a5 := hX.2.2.2.2
noncomputable def mbG (tx : Nat → Nat) (len a1 e a3 : Nat) (G : TG) (k : Nat) : TG :=
  gFo (gFo (gFo G (if e < len then none else some (4 + 16 * a1))) (if cnd tx len G k tx (a1 + 1) e = none then none else some (13 + 16 * a1))) (if a3 < len ∧ tx a3 = 58 then none else some (11 + 16 * a3))
theorem Mb_ex {tx : Nat → Nat} {len a1 : Nat} (h : a1 < len) : ∃ e a2 a3 a4 a5, Mb tx len a1 e a2 a3 a4 a5 := by
  obtain ⟨e, he⟩ := Sp_ex (fun c => c ≠ 34) tx len (a1 + 1) (by omega)
  have := he.2.1
  obtain ⟨a3, h3⟩ := Sp_ex (fun c => c = 32) tx len (if e < len then e + 1 else e) (by split <;> omega)
  have := h3.2.1
  obtain ⟨a5, h5⟩ := Sp_ex (fun c => c = 32) tx len (if a3 < len ∧ tx a3 = 58 then a3 + 1 else a3) (by split <;> omega)
  exact ⟨e, _, a3, _, a5, he, rfl, h3, rfl, h5⟩
theorem mbG_N {tx : Nat → Nat} {len a1 e a3 : Nat} {G : TG} {k : Nat} : (mbG tx len a1 e a3 G k).N = G.N := by unfold mbG; rw [gFo_N, gFo_N, gFo_N]
theorem gFo_nm {G : TG} {fo : Option Nat} : (gFo G fo).nm = G.nm := by cases fo <;> rfl
theorem gFo_lv {G : TG} {fo : Option Nat} : (gFo G fo).lv = G.lv := by cases fo <;> rfl
theorem gFo_pr {G : TG} {fo : Option Nat} : (gFo G fo).pr = G.pr := by cases fo <;> rfl
theorem WG_gFo {len : Nat} {G : TG} {fo : Option Nat} (h : WG len G) : WG len (gFo G fo) := by
  cases fo with
  | none => exact h
  | some v => exact WG_gF h
theorem Ex_gFo {G : TG} {fo p : Option Nat} : Ex G (gFo G fo) p := by
  cases fo with
  | none => exact Ex_r
  | some v => exact Ex_gF
theorem gFo_F {G : TG} {fo : Option Nat} : (gFo G fo).F = G.F + (if fo = none then 0 else 1) := by cases fo <;> rfl
theorem gFo_le {G : TG} {fo : Option Nat} : (gFo G fo).F ≤ G.F + 1 := by cases fo <;> simp [gFo, gF, mkT_N, mkT_F, mkT_fl, mkT_kd, mkT_fr, mkT_en, mkT_pr, mkT_nm, mkT_nu, mkT_K, mkT_lv]
theorem Rd_valueB {b len : Nat} {tx : Nat → Nat} {σ : Sg} (hT : Tx b σ len tx) {a d : Nat} (ha : σ.1 (b + 12) 4 = nI a) (hl : a ≤ len) (hd : d ≤ 8) (A : Sg → Prop) (B : Sg → Prop) : wq_Rd_valueBegins b (nI d) σ (fun r2 σ2 => (r2 = nI 0 → A σ2) ∧ (¬ r2 = nI 0 → B σ2)) ↔ if a < len ∧ stt (tx a) d then B σ else A σ := by
  rw [Rd_valueBegins_r hT ha hl hd]
  simp only [bI_0]
  by_cases e : a < len ∧ stt (tx a) d
  · rw [if_pos e]; simp only [eq_true e, litI, n_le, n_lt, n_eq, n_in, n_cl, nI_add, n_b0, n_b1, n_v0, n_v1, n_m1, n_m1', n_m1l, n_m1l', n_m1g, n_m1ge, si_1, si_2, forall_eq, not_true_eq_false, not_false_eq_true, true_imp_iff, false_imp_iff, true_and, and_true, false_and, and_false, implies_true, ite_true, ite_false, if_true, if_false, Classical.not_not, Nat.reduceEqDiff, reduceIte, Nat.add_left_cancel_iff, Nat.add_eq_left, Nat.left_eq_add, and_self, n_sub, pk_mul]
  · rw [if_neg e]; simp only [eq_false e, litI, n_le, n_lt, n_eq, n_in, n_cl, nI_add, n_b0, n_b1, n_v0, n_v1, n_m1, n_m1', n_m1l, n_m1l', n_m1g, n_m1ge, si_1, si_2, forall_eq, not_true_eq_false, not_false_eq_true, true_imp_iff, false_imp_iff, true_and, and_true, false_and, and_false, implies_true, ite_true, ite_false, if_true, if_false, Classical.not_not, Nat.reduceEqDiff, reduceIte, Nat.add_left_cancel_iff, Nat.add_eq_left, Nat.left_eq_add, and_self, n_sub, pk_mul]
theorem mem_c {b len a1 e a2 a3 a4 a5 d k : Nat} {tx : Nat → Nat} {σ : Sg} {G : TG} {op : Nat → Nat} {V : Nat → Int32 → Int32 → Int32 → Sg → (Sg → Prop) → Prop} (hb : b = 0 ∨ b = 13) (h : CI b σ len tx G op) (hw : WG len G) (ha : σ.1 (b + 12) 4 = nI a1) (hl : a1 < len) (hM : Mb tx len a1 e a2 a3 a4 a5)
    (hk : k < G.N) (hop : op k < 2) (h6 : G.kd k = 6) (hN : G.N ≤ tl b) (hF : G.F + 3 < tf b) (hd : d ≤ 8) :
    ∃ σ5, CI b σ5 len tx (mbG tx len a1 e a3 G k) op ∧ σ5.1 (b + 12) 4 = nI a5 ∧ CFr b σ σ5 ∧ σ5.1 (b + 8) = σ.1 (b + 8) ∧
      ∀ post, (if a5 < len ∧ stt (tx a5) d then V b (nI k) (nI a1) (nI d) σ5 post else post (bl b σ5 (mbG tx len a1 e a3 G k).F (12 + 16 * a5))) → wq_Rd_readMember V b (nI k) (nI d) σ post := by
  have h4 := tl_le b
  have h2 := h.t.2.1
  obtain ⟨m1, m2, m3, m4, m5⟩ := hM
  have e1 := m1.2.1
  have e3 := m3.2.1
  have e5 := m5.2.1
  -- behind the name
  let σ1 : Sg := if e < len then ca b σ (e + 1) else ca b (bl b σ G.F (4 + 16 * a1)) e
  have c1 : CI b σ1 len tx (gFo G (if e < len then none else some (4 + 16 * a1))) op := by
    simp only [σ1]; split
    · exact CI_ca hb h
    · exact CI_ca hb (CI_bl hb h)
  have a1' : σ1.1 (b + 12) 4 = nI a2 := by simp only [σ1, m2]; split <;> simp [ca, si_1]
  have f1 : CFr b σ σ1 := by
    simp only [σ1]; split
    · exact CFr_ca CFr_r
    · exact CFr_ca (CFr_bl CFr_r)
  have g1 : σ1.1 (b + 8) = σ.1 (b + 8) := by
    simp only [σ1]; split
    · unfold ca; rw [si_c (by omega)]
    · unfold ca bl; rw [si_c (by omega), si_c (by omega), si_c (by omega)]
  have hcn : cnd tx len (gFo G (if e < len then none else some (4 + 16 * a1))) k tx (a1 + 1) e = cnd tx len G k tx (a1 + 1) e := by
    unfold cnd nmE; rw [gFo_kd, gFo_K, gFo_nm]
  have r1 := cn_c (b1 := b) (tx1 := tx) (g := a1 + 1) (e1 := e) c1 (WG_gFo hw) c1.t (by rw [gFo_N]; exact hk) hop (by rw [gFo_N]; exact hN) m1
  rw [hcn] at r1
  let G1 := gFo G (if e < len then none else some (4 + 16 * a1))
  let fo2 : Option Nat := if cnd tx len G k tx (a1 + 1) e = none then none else some (13 + 16 * a1)
  let σ2 := blO b σ1 G1.F fo2
  have c2 : CI b σ2 len tx (gFo G1 fo2) op := CI_blO hb c1
  have a2' : σ2.1 (b + 12) 4 = nI a2 := by simp only [σ2]; rw [blO_c (by omega) (by omega)]; exact a1'
  let σ3 := ca b σ2 a3
  have c3 : CI b σ3 len tx (gFo G1 fo2) op := CI_ca hb c2
  have a3' : σ3.1 (b + 12) 4 = nI a3 := by simp [σ3, ca, si_1]
  let fo3 : Option Nat := if a3 < len ∧ tx a3 = 58 then none else some (11 + 16 * a3)
  let σ4 := if a3 < len ∧ tx a3 = 58 then ca b σ3 (a3 + 1) else bl b σ3 (gFo G1 fo2).F (11 + 16 * a3)
  have c4 : CI b σ4 len tx (mbG tx len a1 e a3 G k) op := by
    show CI b σ4 len tx (gFo (gFo G1 fo2) fo3) op
    simp only [σ4, fo3]; split
    · exact CI_ca hb c3
    · exact CI_bl hb c3
  have a4' : σ4.1 (b + 12) 4 = nI a4 := by
    simp only [σ4, m4]; split
    · simp [ca, si_1]
    · rw [bl_c (by omega) (by omega)]; exact a3'
  have f4 : CFr b σ σ4 := by
    have f3 : CFr b σ σ3 := CFr_ca (CFr_blO f1)
    simp only [σ4]; split
    · exact CFr_ca f3
    · exact CFr_bl f3
  have g4 : σ4.1 (b + 8) = σ.1 (b + 8) := by
    have g3 : σ3.1 (b + 8) = σ.1 (b + 8) := by
      funext j
      simp only [σ3, ca]; rw [si_c (by omega)]; simp only [σ2]; rw [blO_c (by omega) (by omega), g1]
    simp only [σ4]; split
    · unfold ca; rw [si_c (by omega)]; exact g3
    · unfold bl; rw [si_c (by omega), si_c (by omega)]; exact g3
  refine ⟨ca b σ4 a5, CI_ca hb c4, by simp [ca, si_1], CFr_ca f4, by unfold ca; rw [si_c (by omega)]; exact g4, ?_⟩
  have hF1 : G1.F ≤ G.F + 1 := gFo_le
  have hF2 : (gFo G1 fo2).F ≤ G.F + 2 := Nat.le_trans gFo_le (by omega)
  have hF4 : (mbG tx len a1 e a3 G k).F ≤ G.F + 3 := Nat.le_trans (show (gFo (gFo G1 fo2) fo3).F ≤ _ from gFo_le) (by omega)
  intro post hpost
  have s3 : ∀ f, wp_Rd_readMember V b post (f + 1) 3 (nI k) (nI d) (nI a1) σ4 := by
    intro f
    show wb_Rd_readMember_3 V b (wp_Rd_readMember V b post f) post (nI k) (nI d) (nI a1) σ4
    simp only [wb_Rd_readMember_3, litI]
    refine Rd_passBlanks_r c4.t a4' m5 _ ?_
    have c5 := CI_ca (a := a5) hb c4
    show wq_Rd_valueBegins b (nI d) (ca b σ4 a5) _
    rw [Rd_valueB c5.t (a := a5) (by simp [ca, si_1]) e5 hd]
    by_cases hst : a5 < len ∧ stt (tx a5) d
    · rw [if_pos hst] at hpost ⊢; exact hpost
    · rw [if_neg hst] at hpost ⊢
      rw [show (ca b σ4 a5).1 (b + 12) 4 = nI a5 by simp [ca, si_1], Tr_blame_r c5.F (by omega)]; exact hpost
  have s2 : ∀ f, wp_Rd_readMember V b post (f + 3) 1 (nI k) (nI d) (nI a1) σ2 := by
    intro f
    show wb_Rd_readMember_1 V b (wp_Rd_readMember V b post (f + 2)) post (nI k) (nI d) (nI a1) σ2
    unfold wb_Rd_readMember_1
    refine Rd_passBlanks_r c2.t a2' m3 _ ?_
    have hs3 : si σ2 (b + 12) 4 (nI a3) = σ3 := rfl
    rw [hs3]
    clear_value σ3
    simp only [c3.t.1, a3']
    by_cases h58 : a3 < len ∧ tx a3 = 58
    · have q5 := c3.t.2.2 a3 h58.1
      have e4 : σ4 = ca b σ3 (a3 + 1) := by simp only [σ4, if_pos h58]
      have s3 := s3 (f + 1)
      rw [e4] at s3
      simp (disch := omega) only [litI, n_le, n_lt, n_eq, n_in, n_cl, nI_add, n_b0, n_b1, n_v0, n_v1, n_m1, n_m1', n_m1l, n_m1l', n_m1g, n_m1ge, si_1, si_2, forall_eq, not_true_eq_false, not_false_eq_true, true_imp_iff, false_imp_iff, true_and, and_true, false_and, and_false, implies_true, ite_true, ite_false, if_true, if_false, Classical.not_not, Nat.reduceEqDiff, reduceIte, Nat.add_left_cancel_iff, Nat.add_eq_left, Nat.left_eq_add, and_self, n_sub, pk_mul, eq_false (show ¬ len ≤ a3 by omega), eq_true (show a3 < tl b by omega), show σ3.1 (b + 11) a3 = nI (tx a3) from q5.1, eq_true h58.2, a3']
      exact s3
    · have e4 : σ4 = bl b σ3 (gFo G1 fo2).F (11 + 16 * a3) := by simp only [σ4, if_neg h58]
      have s3 := s3 f
      rw [e4] at s3
      have s2' : wp_Rd_readMember V b post (f + 2) 2 (nI k) (nI d) (nI a1) σ3 := by
        show wb_Rd_readMember_2 V b (wp_Rd_readMember V b post (f + 1)) post (nI k) (nI d) (nI a1) σ3
        simp (disch := omega) only [wb_Rd_readMember_2, litI, a3', Tr_blame_r c3.F (show (gFo G1 fo2).F < tf b by omega)]
        exact s3
      by_cases hl3 : a3 < len
      · have q5 := c3.t.2.2 a3 hl3
        simp (disch := omega) only [litI, n_le, n_lt, n_eq, n_in, n_cl, nI_add, n_b0, n_b1, n_v0, n_v1, n_m1, n_m1', n_m1l, n_m1l', n_m1g, n_m1ge, si_1, si_2, forall_eq, not_true_eq_false, not_false_eq_true, true_imp_iff, false_imp_iff, true_and, and_true, false_and, and_false, implies_true, ite_true, ite_false, if_true, if_false, Classical.not_not, Nat.reduceEqDiff, reduceIte, Nat.add_left_cancel_iff, Nat.add_eq_left, Nat.left_eq_add, and_self, n_sub, pk_mul, eq_false (show ¬ len ≤ a3 by omega), eq_true (show a3 < tl b by omega), show σ3.1 (b + 11) a3 = nI (tx a3) from q5.1, eq_false (show ¬ tx a3 = 58 from fun q => h58 ⟨hl3, q⟩)]
        exact s2'
      · simp (disch := omega) only [litI, n_le, n_lt, n_eq, n_in, n_cl, nI_add, n_b0, n_b1, n_v0, n_v1, n_m1, n_m1', n_m1l, n_m1l', n_m1g, n_m1ge, si_1, si_2, forall_eq, not_true_eq_false, not_false_eq_true, true_imp_iff, false_imp_iff, true_and, and_true, false_and, and_false, implies_true, ite_true, ite_false, if_true, if_false, Classical.not_not, Nat.reduceEqDiff, reduceIte, Nat.add_left_cancel_iff, Nat.add_eq_left, Nat.left_eq_add, and_self, n_sub, pk_mul, eq_true (show len ≤ a3 by omega)]
        exact s2'
  refine ⟨4, ?_⟩
  show wb_Rd_readMember_0 V b (wp_Rd_readMember V b post 3) post (nI k) (nI d) σ
  simp only [wb_Rd_readMember_0]
  refine Rd_passQuoted_r h.t ha m1 h.F (by omega) _ ?_
  rw [ha]
  simp only [litI, nI_add]
  refine r1 _ ?_
  have hlt : ∀ c, cnd tx len G k tx (a1 + 1) e = some c → c < 2147483648 := fun c hc => by
    have := (hw.ch k hk c (cnd_lt hc).2.1).2.1; omega
  have s2 := s2 0
  by_cases hc : cnd tx len G k tx (a1 + 1) e = none
  · simp only [oI_m1 hlt, eq_true hc, litI, n_le, n_lt, n_eq, n_in, n_cl, nI_add, n_b0, n_b1, n_v0, n_v1, n_m1, n_m1', n_m1l, n_m1l', n_m1g, n_m1ge, si_1, si_2, forall_eq, not_true_eq_false, not_false_eq_true, true_imp_iff, false_imp_iff, true_and, and_true, false_and, and_false, implies_true, ite_true, ite_false, if_true, if_false, Classical.not_not, Nat.reduceEqDiff, reduceIte, Nat.add_left_cancel_iff, Nat.add_eq_left, Nat.left_eq_add, and_self, n_sub, pk_mul]
    have : σ2 = σ1 := by simp only [σ2, fo2, if_pos hc, blO]
    rw [this] at s2; exact s2
  · simp only [oI_m1 hlt, eq_false hc, litI, n_le, n_lt, n_eq, n_in, n_cl, nI_add, n_b0, n_b1, n_v0, n_v1, n_m1, n_m1', n_m1l, n_m1l', n_m1g, n_m1ge, si_1, si_2, forall_eq, not_true_eq_false, not_false_eq_true, true_imp_iff, false_imp_iff, true_and, and_true, false_and, and_false, implies_true, ite_true, ite_false, if_true, if_false, Classical.not_not, Nat.reduceEqDiff, reduceIte, Nat.add_left_cancel_iff, Nat.add_eq_left, Nat.left_eq_add, and_self, n_sub, pk_mul]
    rw [Tr_blame_r c1.F (show G1.F < tf b by omega)]
    have : σ2 = bl b σ1 G1.F (13 + 16 * a1) := by simp only [σ2, fo2, if_neg hc, blO]
    rw [this] at s2; exact s2
