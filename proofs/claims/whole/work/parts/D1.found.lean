section FO
variable {tS : Nat → Nat} {lS : Nat} {S : TG} {tD : Nat → Nat} {lD : Nat} {D : TG} {σ : Sg}
/-- places of names, in order -/
abbrev OkF (tS : Nat → Nat) (lS : Nat) (F : List Nat) : Prop := (F.Pairwise (fun a b => slt (sf tS lS a) (sf tS lS b) = true)) ∧ (∀ f ∈ F, 1 ≤ f ∧ f ≤ lS ∧ tS (f - 1) = 34)
theorem OkF.s {tS : Nat → Nat} {lS : Nat} {F : List Nat} (hX : OkF tS lS F) : F.Pairwise (fun a b => slt (sf tS lS a) (sf tS lS b) = true) := hX.1
theorem OkF.o {tS : Nat → Nat} {lS : Nat} {F : List Nat} (hX : OkF tS lS F) : ∀ f ∈ F, 1 ≤ f ∧ f ≤ lS ∧ tS (f - 1) = 34 := hX.2
theorem slt_ne {x y : List Nat} (h : slt x y = true) : x ≠ y := fun e => by rw [e, slt_i] at h; cases h
noncomputable def fsz (tS : Nat → Nat) (lS : Nat) (F : List Nat) : Nat := (F.map (fun f => (sf tS lS f).length)).sum
theorem fsz_c {f : Nat} {F : List Nat} : fsz tS lS (f :: F) = (sf tS lS f).length + fsz tS lS F := by unfold fsz; simp
/-- names do not overlap -/
theorem names_le {F : List Nat} (hn : F.Nodup) (ho : ∀ f ∈ F, 1 ≤ f ∧ f ≤ lS ∧ tS (f - 1) = 34) : fsz tS lS F + F.length ≤ lS := by
  have hsub : F.flatMap (fun f => (List.range (qe tS lS f - f + 1)).map (fun j => f - 1 + j)) ⊆ List.range lS := by
    intro x hx
    obtain ⟨f, hf, hx⟩ := List.mem_flatMap.mp hx
    obtain ⟨j, hj, rfl⟩ := List.mem_map.mp hx
    have hj := List.mem_range.mp hj
    obtain ⟨h1, h2, h3⟩ := ho f hf
    have hq := qe_sp (tx := tS) h2
    have := hq.1; have := hq.2.1
    exact List.mem_range.mpr (by omega)
  have hnd : (F.flatMap (fun f => (List.range (qe tS lS f - f + 1)).map (fun j => f - 1 + j))).Nodup := by
    rw [List.nodup_iff_pairwise_ne, List.pairwise_flatMap]
    refine ⟨fun f hf => ?_, ?_⟩
    · rw [List.pairwise_map]
      exact (List.nodup_iff_pairwise_ne.mp List.nodup_range).imp (fun h e => h (by omega))
    · have hn2 := List.nodup_iff_pairwise_ne.mp hn
      refine hn2.imp_of_mem (fun {a b} ha hb hab x hx y hy e => ?_)
      obtain ⟨j, hj, hx⟩ := List.mem_map.mp hx
      obtain ⟨k, hk, hy⟩ := List.mem_map.mp hy
      have hj := List.mem_range.mp hj
      have hk := List.mem_range.mp hk
      obtain ⟨a1, a2, a3⟩ := ho a ha
      obtain ⟨b1, b2, b3⟩ := ho b hb
      have qa := qe_sp (tx := tS) a2
      have qb := qe_sp (tx := tS) b2
      rcases Nat.lt_or_gt_of_ne hab with z | z
      · -- a first: its word ends at b's quote at the latest
        have : qe tS lS a ≤ b - 1 := by
          rcases Nat.lt_or_ge (b - 1) (qe tS lS a) with q | q
          · exact absurd b3 (qa.2.2.1 (b - 1) (by omega) q)
          · exact q
        have := qa.1
        omega
      · have : qe tS lS b ≤ a - 1 := by
          rcases Nat.lt_or_ge (a - 1) (qe tS lS b) with q | q
          · exact absurd a3 (qb.2.2.1 (a - 1) (by omega) q)
          · exact q
        have := qb.1
        omega
  have h1 := List.Nodup.length_le_of_subset hnd hsub
  have h2 : ∀ F : List Nat, (F.flatMap (fun f => (List.range (qe tS lS f - f + 1)).map (fun j => f - 1 + j))).length = fsz tS lS F + F.length := by
    intro F
    induction F with
    | nil => rfl
    | cons f F ih =>
      rw [List.flatMap_cons, List.length_append, ih, fsz_c]
      have : (sf tS lS f).length = qe tS lS f - f := strn_l _ _ _
      simp [this]; omega
  rw [h2] at h1
  simpa using h1
theorem OkF_nd {F : List Nat} (h : OkF tS lS F) : F.Nodup := by
  rw [List.nodup_iff_pairwise_ne]
  exact h.s.imp (fun {a b} h e => slt_ne h (congrArg (sf tS lS) e))
theorem OkF_len {F : List Nat} (hl : lS ≤ 160) (h : OkF tS lS F) : F.length ≤ 80 ∧ fsz tS lS F ≤ 160 := by
  have h1 := names_le (OkF_nd h) h.o
  -- only the first may be empty
  have h2 : F.length ≤ fsz tS lS F + 1 := by
    cases F with
    | nil => exact Nat.zero_le _
    | cons f F =>
      have hp := List.pairwise_cons.mp h.s
      have h3 : ∀ F : List Nat, (∀ g ∈ F, slt (sf tS lS f) (sf tS lS g) = true) → F.length ≤ fsz tS lS F := by
        intro F
        induction F with
        | nil => intro _; exact Nat.zero_le _
        | cons g F ih =>
          intro hg
          rw [fsz_c]
          have h4 := ih (fun x hx => hg x (List.mem_cons_of_mem _ hx))
          have h5 := hg g (List.mem_cons_self ..)
          have h6 : 1 ≤ (sf tS lS g).length := by
            cases e : sf tS lS g with
            | nil => rw [e] at h5; cases h7 : sf tS lS f <;> (rw [h7] at h5; cases h5)
            | cons x y => simp
          show F.length + 1 ≤ _
          omega
      have := h3 F hp.1
      rw [fsz_c]
      show F.length + 1 ≤ _
      omega
  omega
/-- what has been found -/
abbrev FW (σ : Sg) (F : List Nat) : Prop := (σ.1 45 4 = nI F.length) ∧ (∀ j, j < F.length → σ.1 48 j = nI (F.getD j 0))
theorem FW.n {σ : Sg} {F : List Nat} (hX : FW σ F) : σ.1 45 4 = nI F.length := hX.1
theorem FW.r {σ : Sg} {F : List Nat} (hX : FW σ F) : ∀ j, j < F.length → σ.1 48 j = nI (F.getD j 0) := hX.2
def Pn (c k : Nat) : Prop := (c = 45 ∧ k = 4) ∨ c = 48
theorem splitw : ∀ (F : List Nat) (w : List Nat), F.Pairwise (fun a b => slt (sf tS lS a) (sf tS lS b) = true) → ∃ A B, F = A ++ B ∧ (∀ a ∈ A, slt (sf tS lS a) w = true) ∧ (∀ b ∈ B, slt (sf tS lS b) w = false)
  | [], _, _ => ⟨[], [], rfl, fun a h => by simp at h, fun a h => by simp at h⟩
  | x :: F, w, hp => by
    have hx := List.pairwise_cons.mp hp
    by_cases e : slt (sf tS lS x) w = true
    · obtain ⟨A, B, h1, h2, h3⟩ := splitw F w hx.2
      refine ⟨x :: A, B, by rw [h1]; rfl, fun a ha => ?_, h3⟩
      rcases List.mem_cons.mp ha with z | z
      · rw [z]; exact e
      · exact h2 a z
    · have e : slt (sf tS lS x) w = false := by simpa using e
      refine ⟨[], x :: F, rfl, fun a h => by simp at h, fun b hb => ?_⟩
      rcases List.mem_cons.mp hb with z | z
      · rw [z]; exact e
      · cases q : slt (sf tS lS b) w with
        | false => rfl
        | true => have := slt_t _ _ _ (hx.1 b z) q; rw [e] at this; cases this
/-- a new word between smaller and greater ones -/
theorem OkF_ins {A B : List Nat} {f : Nat} (h : OkF tS lS (A ++ B)) (hf : 1 ≤ f ∧ f ≤ lS ∧ tS (f - 1) = 34) (hA : ∀ a ∈ A, slt (sf tS lS a) (sf tS lS f) = true) (hB : ∀ b ∈ B, slt (sf tS lS b) (sf tS lS f) = false) (hne : ∀ b ∈ B, sf tS lS b ≠ sf tS lS f) : OkF tS lS (A ++ f :: B) := by
  have hs := List.pairwise_append.mp h.s
  refine ⟨List.pairwise_append.mpr ⟨hs.1, List.pairwise_cons.mpr ⟨fun b hb => ?_, hs.2.1⟩, fun a ha b hb => ?_⟩, fun x hx => ?_⟩
  · cases q : slt (sf tS lS f) (sf tS lS b) with
    | true => rfl
    | false => exact absurd (slt_3 _ _ (hB b hb) q) (hne b hb)
  · rcases List.mem_cons.mp hb with z | z
    · rw [z]; exact hA a ha
    · exact hs.2.2 a ha b z
  · rcases List.mem_append.mp hx with z | z
    · exact h.o x (List.mem_append.mpr (Or.inl z))
    · rcases List.mem_cons.mp z with y | y
      · rw [y]; exact hf
      · exact h.o x (List.mem_append.mpr (Or.inr y))
theorem getD_A {A B : List Nat} {j : Nat} (h : j < A.length) : (A ++ B).getD j 0 = A.getD j 0 := by rw [List.getD_eq_getElem?_getD, List.getD_eq_getElem?_getD, List.getElem?_append_left h]
theorem getD_B {A B : List Nat} {j : Nat} (h : A.length ≤ j) : (A ++ B).getD j 0 = B.getD (j - A.length) 0 := by rw [List.getD_eq_getElem?_getD, List.getD_eq_getElem?_getD, List.getElem?_append_right h]
theorem getD_m {A : List Nat} {j : Nat} (h : j < A.length) : A.getD j 0 ∈ A := by rw [List.getD_eq_getElem?_getD, List.getElem?_eq_getElem h]; exact List.getElem_mem h
theorem addFound_c (hT : Tx 0 σ lS tS) {F : List Nat} (h : FW σ F) (hF : OkF tS lS F) {f : Nat} (hf : 1 ≤ f ∧ f ≤ lS ∧ tS (f - 1) = 34) :
    ∃ σ' F', Rv (wq_Pr_addFound (nI f) σ) σ' ∧ Fr Pn σ σ' ∧ FW σ' F' ∧ OkF tS lS F' ∧ (∀ w, (∃ g ∈ F', w = sf tS lS g) ↔ (∃ g ∈ F, w = sf tS lS g) ∨ w = sf tS lS f) := by
  have hlS : lS ≤ 160 := by have := hT.2.1; have := tl_le 0; omega
  have hFl := (OkF_len hlS hF).1
  obtain ⟨A, B, hAB, hA, hB⟩ := splitw (lS := lS) F (sf tS lS f) hF.s
  have hlen : F.length = A.length + B.length := by rw [hAB, List.length_append]
  have fb : ∀ g ∈ F, 1 ≤ g ∧ g ≤ lS := fun g hg => ⟨(hF.o g hg).1, (hF.o g hg).2.1⟩
  -- the search
  have seek : ∀ (post : Sg → Prop) m k, A.length - k = m → k ≤ A.length → (∃ n, wp_Pr_addFound post n 2 (nI f) (nI A.length) 0 σ) → ∃ n, wp_Pr_addFound post n 1 (nI f) (nI k) 0 σ := by
    intro post m
    induction m with
    | zero =>
      intro k hm hk ⟨n, hn⟩
      have : k = A.length := by omega
      subst this
      refine ⟨n + 1, ?_⟩
      show wb_Pr_addFound_1 (wp_Pr_addFound post n) post (nI f) (nI A.length) σ
      unfold wb_Pr_addFound_1
      rw [h.n, n_in (by omega), n_cl (by omega)]
      refine ⟨fun _ => hn, fun z => ⟨by omega, ?_⟩⟩
      have hl : A.length < F.length := by rw [n_le (by omega) (by omega)] at z; omega
      have hg : F.getD A.length 0 ∈ B := by rw [hAB, getD_B (Nat.le_refl _)]; exact getD_m (by omega)
      have hgF := fb _ (getD_m hl)
      rw [h.r A.length hl]
      refine comes_r hT hgF.2 hf.2.1 _ ?_
      rw [hB _ hg]
      exact ⟨fun _ => hn, fun z => absurd rfl z⟩
    | succ m ih =>
      intro k hm hk hn
      obtain ⟨n, hn⟩ := ih (k + 1) (by omega) (by omega) hn
      refine ⟨n + 1, ?_⟩
      show wb_Pr_addFound_1 (wp_Pr_addFound post n) post (nI f) (nI k) σ
      unfold wb_Pr_addFound_1
      have hl : k < F.length := by omega
      have hg : F.getD k 0 ∈ A := by rw [hAB, getD_A (by omega)]; exact getD_m (by omega)
      have hgF := fb _ (getD_m hl)
      rw [h.n, n_in (by omega), n_cl (by omega), h.r k hl]
      refine ⟨fun z => absurd ((n_le (by omega) (by omega)).mp z) (by omega), fun _ => ⟨by omega, comes_r hT hgF.2 hf.2.1 _ ?_⟩⟩
      rw [hA _ hg, show (1 : Int32) = nI 1 from rfl, nI_add]
      exact ⟨fun z => absurd z (by decide +kernel), fun _ => hn⟩
  have start : ∀ (post : Sg → Prop), (∃ n, wp_Pr_addFound post n 2 (nI f) (nI A.length) 0 σ) → wq_Pr_addFound (nI f) σ post := fun post hn => by
    obtain ⟨n, hn⟩ := seek post _ 0 rfl (Nat.zero_le _) hn
    exact ⟨n + 1, hn⟩
  -- is it there
  by_cases hsame : ∃ g, B.head? = some g ∧ sf tS lS g = sf tS lS f
  · obtain ⟨g, hg, he⟩ := hsame
    obtain ⟨B1, hB1⟩ : ∃ B1, B = g :: B1 := by
      cases B with
      | nil => simp at hg
      | cons x B => simp at hg; exact ⟨B, by rw [hg]⟩
    have hl : A.length < F.length := by rw [hlen, hB1]; simp
    have hgd : F.getD A.length 0 = g := by rw [hAB, getD_B (Nat.le_refl _), hB1]; simp
    have hgF : g ∈ F := by rw [hAB, hB1]; simp
    have hgb := fb g hgF
    refine ⟨σ, F, fun post hp => start post ⟨1, ?_⟩, Fr_r, h, hF, fun w => ⟨Or.inl, fun z => z.elim id (fun z => ⟨g, hgF, by rw [z, he]⟩)⟩⟩
    show wb_Pr_addFound_2 (wp_Pr_addFound post 0) post (nI f) (nI A.length) σ
    unfold wb_Pr_addFound_2
    rw [h.n, n_in (by omega), n_cl (by omega), h.r _ hl, hgd]
    refine ⟨fun z => absurd ((n_le (by omega) (by omega)).mp z) (by omega), fun _ => ⟨by omega, Tx_sameQuoted_r hT hT (qe_sp hgb.2) (qe_sp hf.2.1) _ ?_⟩⟩
    rw [bI_t (sf_e.mp he)]
    exact ⟨fun z => absurd z (by decide +kernel), fun _ => hp⟩
  · have hne : ∀ b ∈ B, sf tS lS b ≠ sf tS lS f := by
      intro b hb e
      cases hBc : B with
      | nil => rw [hBc] at hb; simp at hb
      | cons x B1 =>
        rw [hBc] at hb
        rcases List.mem_cons.mp hb with z | z
        · exact hsame ⟨x, by rw [hBc]; rfl, by rw [← z]; exact e⟩
        · have hs := hF.s
          rw [hAB, hBc] at hs
          have := (List.pairwise_cons.mp (List.pairwise_append.mp hs).2.1).1 b z
          rw [e] at this
          rw [hB x (by rw [hBc]; simp)] at this; cases this
    have hok : OkF tS lS (A ++ f :: B) := OkF_ins (by rw [← hAB]; exact hF) hf hA hB hne
    have hl2 := (OkF_len hlS hok).1
    rw [List.length_append, List.length_cons] at hl2
    obtain ⟨R, hR⟩ : ∃ R : Sg → Prop, R = fun σ' => Fr Pn σ σ' ∧ FW σ' (A ++ f :: B) := ⟨_, rfl⟩
    have mv : ∀ m (σ1 : Sg), A.length + m ≤ F.length → Fr Pn σ σ1 → σ1.1 45 4 = nI F.length → (∀ j, j < A.length + m → σ1.1 48 j = nI (F.getD j 0)) → (∀ j, A.length + m < j → j ≤ F.length → σ1.1 48 j = nI (F.getD (j - 1) 0)) → Ex0 (fun post n => wp_Pr_addFound post n 3 (nI f) (nI A.length) (nI (A.length + m)) σ1) R := by
      intro m
      induction m with
      | zero =>
        intro σ1 hm fr n40 lo up
        refine ⟨si (si σ1 48 A.length (nI f)) 45 4 ((si σ1 48 A.length (nI f)).1 45 4 + nI 1), ?_, fun post hp => ⟨1, ?_⟩⟩
        · rw [hR]
          have e40 : (si σ1 48 A.length (nI f)).1 45 4 = nI F.length := by rw [si_c (by omega)]; exact n40
          refine ⟨Fr_si (Fr_si fr (Or.inr rfl)) (Or.inl ⟨rfl, rfl⟩), ?_, fun j hj => ?_⟩
          · rw [si_1, if_pos ⟨rfl, rfl⟩, e40, nI_add]; congr 1; simp; omega
          · have hj : j < A.length + (B.length + 1) := by simpa using hj
            rw [si_c (by omega), si_1]
            by_cases e1 : j = A.length
            · subst e1; rw [if_pos ⟨rfl, rfl⟩]; simp
            · rw [if_neg (fun q => e1 q.2)]
              by_cases e2 : j < A.length
              · rw [lo j (by omega), hAB, getD_A e2, getD_A e2]
              · rw [up j (by omega) (by omega), hAB, getD_B (by omega), getD_B (by omega)]
                obtain ⟨k, rfl⟩ : ∃ k, j = A.length + k + 1 := ⟨j - A.length - 1, by omega⟩
                rw [show A.length + k + 1 - A.length = k + 1 by omega, show A.length + k + 1 - 1 - A.length = k by omega]; rfl
        · show wb_Pr_addFound_3 (wp_Pr_addFound post 0) post (nI f) (nI A.length) (nI (A.length + 0)) σ1
          simp (disch := omega) only [wb_Pr_addFound_3, litI, n_le, Nat.add_zero, Nat.le_refl, n_in, n_cl, eq_true (show A.length < 160 by omega), not_true_eq_false, false_imp_iff, true_imp_iff, true_and, and_true, forall_eq]
          exact hp
      | succ m ih =>
        intro σ1 hm fr n40 lo up
        have e3 : nI (A.length + (m + 1)) - nI 1 = nI (A.length + m) := by rw [n_sub (by omega)]; rfl
        have e4 : nI (A.length + (m + 1)) + (-1) = nI (A.length + m) := by rw [← e3, Int32.sub_eq_add_neg]; rfl
        refine Ex0_s (ih (si σ1 48 (A.length + (m + 1)) (nI (F.getD (A.length + m) 0))) (by omega) (Fr_si fr (Or.inr rfl)) (by rw [si_c (by omega)]; exact n40) (fun j hj => by rw [si_1, if_neg (by omega)]; exact lo j (by omega)) (fun j hj hj2 => ?_)) (fun post n hn1 => ⟨n + 1, ?_⟩)
        · rw [si_1]
          by_cases e : j = A.length + (m + 1)
          · subst e; rw [if_pos ⟨rfl, rfl⟩]; congr 2
          · rw [if_neg (fun q => e q.2)]; exact up j (by omega) hj2
        · show wb_Pr_addFound_3 (wp_Pr_addFound post n) post (nI f) (nI A.length) (nI (A.length + (m + 1))) σ1
          have hlo := lo (A.length + m) (by omega)
          unfold wb_Pr_addFound_3
          rw [e4]
          simp (disch := omega) only [litI, n_le, e3, n_in, n_cl, eq_false (show ¬ A.length + (m + 1) ≤ A.length by omega), eq_true (show A.length + m < 160 by omega), eq_true (show A.length + (m + 1) < 160 by omega), hlo, not_false_eq_true, false_imp_iff, true_imp_iff, true_and, forall_eq]
          exact hn1
    obtain ⟨σ', q1, q2⟩ := mv B.length σ (by omega) Fr_r h.n (fun j hj => h.r j (by omega)) (fun j h1 h2 => by omega)
    rw [hR] at q1
    refine ⟨σ', A ++ f :: B, fun post hp => start post ?_, q1.1, q1.2, hok, fun w => ?_⟩
    · obtain ⟨n, hn⟩ := q2 post hp
      refine ⟨n + 1, ?_⟩
      show wb_Pr_addFound_2 (wp_Pr_addFound post n) post (nI f) (nI A.length) σ
      unfold wb_Pr_addFound_2
      rw [← hlen] at hn
      rw [h.n, n_in (by omega), n_cl (by omega)]
      refine ⟨fun _ => hn, fun z => ⟨by omega, ?_⟩⟩
      have hl : A.length < F.length := by rw [n_le (by omega) (by omega)] at z; omega
      have hgF := fb _ (getD_m hl)
      have hg : F.getD A.length 0 ∈ B := by rw [hAB, getD_B (Nat.le_refl _)]; exact getD_m (by omega)
      rw [h.r _ hl]
      refine Tx_sameQuoted_r hT hT (qe_sp hgF.2) (qe_sp hf.2.1) _ ?_
      rw [bI_f (fun q => hne _ hg (sf_e.mpr q)), h.n]
      exact ⟨fun _ => hn, fun z => absurd rfl z⟩
    · rw [hAB]
      simp only [List.mem_append, List.mem_cons]
      constructor
      · rintro ⟨g, z | z | z, e⟩
        · exact Or.inl ⟨g, Or.inl z, e⟩
        · exact Or.inr (by rw [e, z])
        · exact Or.inl ⟨g, Or.inr z, e⟩
      · rintro (⟨g, z | z, e⟩ | e)
        · exact ⟨g, Or.inl z, e⟩
        · exact ⟨g, Or.inr (Or.inr z), e⟩
        · exact ⟨f, Or.inr (Or.inl rfl), e⟩
end FO
