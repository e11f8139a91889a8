section MD
variable {tx : Nat → Nat} {len : Nat} {G : TG}
noncomputable def awb (tx : Nat → Nat) (len : Nat) (G : TG) (rd : Nat → Bool) (s w : Nat) : Bool := match rul tx len G s w with
  | some v => if G.kd v = 5 then (G.K v).all rd else true
  | none => true
noncomputable def nnb (tx : Nat → Nat) (len : Nat) (G : TG) (rd : Nat → Bool) (s : Nat) : Bool := awb tx len G rd s 15 && awb tx len G rd s 16 && awb tx len G rd s 17 && (match rul tx len G s 18 with
  | some v => rd v
  | none => true) && (match rul tx len G s 19 with
  | some v => (match mtg tx len G v with
    | some x => rd x
    | none => true)
  | none => true)
theorem nnb_Dp {rd : Nat → Bool} {s : Nat} : nnb tx len G rd s = true ↔ ∀ x, Dp tx len G s x → rd x = true := by
  unfold nnb
  simp only [Bool.and_eq_true]
  have ha : ∀ w, awb tx len G rd s w = true ↔ ∀ v x, rul tx len G s w = some v → G.kd v = 5 → x ∈ G.K v → rd x = true := by
    intro w
    unfold awb
    cases h : rul tx len G s w with
    | none => simp
    | some v =>
      by_cases h5 : G.kd v = 5
      · simp only [h5, if_true, List.all_eq_true]
        exact ⟨fun q v' x e _ hx => by injection e with e; subst e; exact q x hx, fun q x hx => q v x rfl h5 hx⟩
      · simp only [h5, if_false, true_iff]
        intro v' x e k5; injection e with e; subst e; exact absurd k5 h5
  rw [ha, ha, ha]
  constructor
  · rintro ⟨⟨⟨⟨h1, h2⟩, h3⟩, h4⟩, h5⟩ x (⟨w, v, w1, w2, hr, hk, hx⟩ | hr | ⟨v, hr, ht⟩)
    · have : w = 15 ∨ w = 16 ∨ w = 17 := by omega
      rcases this with e | e | e
      · subst e; exact h1 v x hr hk hx
      · subst e; exact h2 v x hr hk hx
      · subst e; exact h3 v x hr hk hx
    · rw [hr] at h4; exact h4
    · rw [hr] at h5; simp only [ht] at h5; exact h5
  · intro h
    refine ⟨⟨⟨⟨fun v x hr hk hx => h x (Or.inl ⟨15, v, by omega, by omega, hr, hk, hx⟩), fun v x hr hk hx => h x (Or.inl ⟨16, v, by omega, by omega, hr, hk, hx⟩)⟩, fun v x hr hk hx => h x (Or.inl ⟨17, v, by omega, by omega, hr, hk, hx⟩)⟩, ?_⟩, ?_⟩
    · cases hr : rul tx len G s 18 with
      | none => rfl
      | some v => exact h v (Or.inr (Or.inl hr))
    · cases hr : rul tx len G s 19 with
      | none => rfl
      | some v =>
        cases ht : mtg tx len G v with
        | none => simp [ht]
        | some x => simp only [ht]; exact h x (Or.inr (Or.inr ⟨v, hr, ht⟩))
theorem hm0 : ((-nI 1 : Int32) < nI 0) = True := by decide +kernel
theorem hm0' : (nI 0 ≤ (-nI 1 : Int32)) = False := by decide +kernel
theorem MI0 {σ : Sg} {op : Nat → Nat} (h : MI 0 σ len tx G op) : (∀ k, k < G.N → op k < 2 → σ.1 59 k = nI (G.kd k)) ∧ (∀ k, k < G.N → chM 0 (σ.1 66) (σ.1 65 k) (G.K k)) ∧ (∀ k, k < G.N → σ.1 63 k = oI (G.pr k)) := by
  refine ⟨fun k hk ho => ?_, fun k hk => ?_, fun k hk => ?_⟩
  · have := h.kd k hk ho; rw [show 160 * 0 + k = k by omega] at this; exact this
  · have := h.ch k hk; rw [show 160 * 0 + k = k by omega] at this; exact this
  · have := h.pr k hk; rw [show 160 * 0 + k = k by omega, oM_0] at this; exact this
theorem Md_needsNothing_r {σ : Sg} {rd : Nat → Bool} (hS : SM tx len G σ) (hW : WG len G) (hR : RU tx len G σ) {s : Nat} (hs : s < G.N) (hN : G.N ≤ 160) (h79 : ∀ x, x < G.N → σ.1 79 x = nB (rd x)) : Ri (wq_Md_needsNothing (nI s) σ) (nB (nnb tx len G rd s)) σ := by
  obtain ⟨z59, z65, -⟩ := MI0 hS.i
  intro post hp
  -- the last two blocks
  have b4 : ∀ (x : Option Nat), (∀ y, x = some y → y < G.N) → post (nB (match x with | some y => rd y | none => true)) σ → wp_Md_needsNothing post 1 4 0 0 0 (oI x) 0 σ := by
    intro x hx hp
    show wb_Md_needsNothing_4 (wp_Md_needsNothing post 0) post (oI x) σ
    cases x with
    | none =>
      simp (disch := omega) only [wb_Md_needsNothing_4, oI, litI, n_le, n_lt, n_eq, n_in, n_cl, nI_add, n_b0, n_b1, n_v0, n_v1, n_m1, n_m1', n_m1l, n_m1l', n_m1g, n_m1ge, si_1, si_2, forall_eq, not_true_eq_false, not_false_eq_true, true_imp_iff, false_imp_iff, true_and, and_true, false_and, and_false, implies_true, ite_true, ite_false, if_true, if_false, Classical.not_not, Nat.reduceEqDiff, reduceIte, Nat.add_left_cancel_iff, Nat.add_eq_left, Nat.left_eq_add, and_self, n_sub, pk_mul, hm0]
      exact hp
    | some y =>
      have hy := hx y rfl
      simp (disch := omega) only [wb_Md_needsNothing_4, oI, litI, n_le, n_lt, n_eq, n_in, n_cl, nI_add, n_b0, n_b1, n_v0, n_v1, n_m1, n_m1', n_m1l, n_m1l', n_m1g, n_m1ge, si_1, si_2, forall_eq, not_true_eq_false, not_false_eq_true, true_imp_iff, false_imp_iff, true_and, and_true, false_and, and_false, implies_true, ite_true, ite_false, if_true, if_false, Classical.not_not, Nat.reduceEqDiff, reduceIte, Nat.add_left_cancel_iff, Nat.add_eq_left, Nat.left_eq_add, and_self, n_sub, pk_mul, eq_false (show ¬ y < 0 by omega), eq_true (show y < 160 by omega), h79 y hy, nB_0]
      cases hq : rd y with
      | false => simp only [hq] at hp; exact ⟨fun _ => hp, fun r => absurd rfl r⟩
      | true => simp only [hq] at hp; exact ⟨fun r => (by cases r), fun _ => hp⟩
  have b2 : ∀ (a : Bool) (x : Option Nat) (y : Option Nat), (∀ z, x = some z → z < G.N) → (∀ z, y = some z → z < G.N) → post (nB (a && (match x with | some y => rd y | none => true) && (match y with | some y => rd y | none => true))) σ → wp_Md_needsNothing post 2 2 0 (nB a) (oI x) (oI y) 0 σ := by
    intro a x y hx hy hp
    show wb_Md_needsNothing_2 (wp_Md_needsNothing post 1) post (nB a) (oI x) (oI y) σ
    cases a with
    | false =>
      simp (disch := omega) only [wb_Md_needsNothing_2, litI, nB_0, litI, n_le, n_lt, n_eq, n_in, n_cl, nI_add, n_b0, n_b1, n_v0, n_v1, n_m1, n_m1', n_m1l, n_m1l', n_m1g, n_m1ge, si_1, si_2, forall_eq, not_true_eq_false, not_false_eq_true, true_imp_iff, false_imp_iff, true_and, and_true, false_and, and_false, implies_true, ite_true, ite_false, if_true, if_false, Classical.not_not, Nat.reduceEqDiff, reduceIte, Nat.add_left_cancel_iff, Nat.add_eq_left, Nat.left_eq_add, and_self, n_sub, pk_mul]
      exact hp
    | true =>
      cases x with
      | none =>
        simp (disch := omega) only [wb_Md_needsNothing_2, litI, nB_0, oI, hm0, litI, n_le, n_lt, n_eq, n_in, n_cl, nI_add, n_b0, n_b1, n_v0, n_v1, n_m1, n_m1', n_m1l, n_m1l', n_m1g, n_m1ge, si_1, si_2, forall_eq, not_true_eq_false, not_false_eq_true, true_imp_iff, false_imp_iff, true_and, and_true, false_and, and_false, implies_true, ite_true, ite_false, if_true, if_false, Classical.not_not, Nat.reduceEqDiff, reduceIte, Nat.add_left_cancel_iff, Nat.add_eq_left, Nat.left_eq_add, and_self, n_sub, pk_mul, Bool.true_eq_false]
        exact b4 y hy (by simpa using hp)
      | some z =>
        have hz := hx z rfl
        simp (disch := omega) only [wb_Md_needsNothing_2, litI, nB_0, oI, litI, n_le, n_lt, n_eq, n_in, n_cl, nI_add, n_b0, n_b1, n_v0, n_v1, n_m1, n_m1', n_m1l, n_m1l', n_m1g, n_m1ge, si_1, si_2, forall_eq, not_true_eq_false, not_false_eq_true, true_imp_iff, false_imp_iff, true_and, and_true, false_and, and_false, implies_true, ite_true, ite_false, if_true, if_false, Classical.not_not, Nat.reduceEqDiff, reduceIte, Nat.add_left_cancel_iff, Nat.add_eq_left, Nat.left_eq_add, and_self, n_sub, pk_mul, Bool.true_eq_false, eq_false (show ¬ z < 0 by omega), eq_true (show z < 160 by omega), h79 z hz]
        cases hq : rd z with
        | false => simp only [hq] at hp; exact ⟨fun _ => hp, fun r => absurd rfl r⟩
        | true => simp only [hq] at hp; exact ⟨fun r => (by cases r), fun _ => b4 y hy (by simpa using hp)⟩
  -- the end of the first block
  have b1e : ∀ (a : Bool), post (nB (a && (match rul tx len G s 18 with | some v => rd v | none => true) && (match rul tx len G s 19 with | some v => (match mtg tx len G v with | some x => rd x | none => true) | none => true))) σ → wp_Md_needsNothing post 3 1 (nI s) (nB a) (nI 18) 0 0 σ := by
    intro a hp
    show wb_Md_needsNothing_1 (wp_Md_needsNothing post 2) post (nI s) (nB a) (nI 18) σ
    have r18 : σ.1 76 (22 * s + 18) = oI (rul tx len G s 18) := hR.r s 18 hs (by omega) (by omega)
    have r19 : σ.1 76 (22 * s + 19) = oI (rul tx len G s 19) := hR.r s 19 hs (by omega) (by omega)
    simp (disch := omega) only [wb_Md_needsNothing_1, litI, n_lt, eq_true (show 17 < 18 by omega), litI, n_le, n_lt, n_eq, n_in, n_cl, nI_add, n_b0, n_b1, n_v0, n_v1, n_m1, n_m1', n_m1l, n_m1l', n_m1g, n_m1ge, si_1, si_2, forall_eq, not_true_eq_false, not_false_eq_true, true_imp_iff, false_imp_iff, true_and, and_true, false_and, and_false, implies_true, ite_true, ite_false, if_true, if_false, Classical.not_not, Nat.reduceEqDiff, reduceIte, Nat.add_left_cancel_iff, Nat.add_eq_left, Nat.left_eq_add, and_self, n_sub, pk_mul, eq_true (show 22 * s + 18 < 3520 by omega), eq_true (show 22 * s + 19 < 3520 by omega), r18, r19]
    cases hr : rul tx len G s 19 with
    | none =>
      rw [hr] at hp
      simp only [oI, hm0', not_false_eq_true, false_imp_iff, true_imp_iff, true_and, show (-1 : Int32) = -nI 1 from rfl]
      exact b2 a _ none (fun z hz => rul_lt hW hs hz) (fun z hz => by cases hz) (by simpa using hp)
    | some v =>
      have hv := rul_lt hW hs hr
      rw [hr] at hp
      simp (disch := omega) only [oI, n_le, Nat.zero_le, n_in, n_cl, eq_true (show v < 160 by omega), hR.t v hv, litI, n_le, n_lt, n_eq, n_in, n_cl, nI_add, n_b0, n_b1, n_v0, n_v1, n_m1, n_m1', n_m1l, n_m1l', n_m1g, n_m1ge, si_1, si_2, forall_eq, not_true_eq_false, not_false_eq_true, true_imp_iff, false_imp_iff, true_and, and_true, false_and, and_false, implies_true, ite_true, ite_false, if_true, if_false, Classical.not_not, Nat.reduceEqDiff, reduceIte, Nat.add_left_cancel_iff, Nat.add_eq_left, Nat.left_eq_add, and_self, n_sub, pk_mul]
      exact b2 a _ (mtg tx len G v) (fun z hz => rul_lt hW hs hz) (fun z hz => mtg_lt hW hv hz) hp
  -- the loops
  have b1 : ∀ m w (a : Bool), w + m = 18 → 15 ≤ w → (∀ a', (a' = true ↔ (a = true ∧ ∀ u, w ≤ u → u < 18 → awb tx len G rd s u = true)) → ∃ f, wp_Md_needsNothing post f 1 (nI s) (nB a') (nI 18) 0 0 σ) → ∃ f, wp_Md_needsNothing post f 1 (nI s) (nB a) (nI w) 0 0 σ := by
    intro m
    induction m with
    | zero =>
      intro w a hw _ h
      have : w = 18 := by omega
      subst this
      exact h a ⟨fun q => ⟨q, fun u h1 h2 => by omega⟩, fun q => q.1⟩
    | succ m ih =>
      intro w a hw hw15 h
      have rw_ : σ.1 76 (22 * s + w) = oI (rul tx len G s w) := hR.r s w hs (by omega) (by omega)
      have next : ∀ a1 : Bool, (a1 = true ↔ (a = true ∧ awb tx len G rd s w = true)) → ∃ f, wp_Md_needsNothing post f 1 (nI s) (nB a1) (nI (w + 1)) 0 0 σ := fun a1 ha1 => by
        refine ih (w + 1) a1 (by omega) (by omega) (fun a' ha' => h a' ?_)
        rw [ha', ha1]
        constructor
        · rintro ⟨⟨q1, q2⟩, q3⟩
          exact ⟨q1, fun u h1 h2 => by
            rcases Nat.eq_or_lt_of_le h1 with e | e
            · subst e; exact q2
            · exact q3 u e h2⟩
        · rintro ⟨q1, q2⟩; exact ⟨⟨q1, q2 w (Nat.le_refl _) (by omega)⟩, fun u h1 h2 => q2 u (by omega) h2⟩
      cases hr : rul tx len G s w with
      | none =>
        obtain ⟨f, hf⟩ := next a (by unfold awb; rw [hr]; simp)
        refine ⟨f + 1, ?_⟩
        show wb_Md_needsNothing_1 (wp_Md_needsNothing post f) post (nI s) (nB a) (nI w) σ
        simp (disch := omega) only [wb_Md_needsNothing_1, litI, n_lt, eq_false (show ¬ 17 < w by omega), litI, n_le, n_lt, n_eq, n_in, n_cl, nI_add, n_b0, n_b1, n_v0, n_v1, n_m1, n_m1', n_m1l, n_m1l', n_m1g, n_m1ge, si_1, si_2, forall_eq, not_true_eq_false, not_false_eq_true, true_imp_iff, false_imp_iff, true_and, and_true, false_and, and_false, implies_true, ite_true, ite_false, if_true, if_false, Classical.not_not, Nat.reduceEqDiff, reduceIte, Nat.add_left_cancel_iff, Nat.add_eq_left, Nat.left_eq_add, and_self, n_sub, pk_mul, eq_true (show 22 * s + w < 3520 by omega), rw_, hr, oI, hm0]
        exact hf
      | some v =>
        have hv := rul_lt hW hs hr
        have hvk := hW.kd v hv
        have h59 := z59 v hv (by show 0 < 2; omega)
        by_cases h5 : G.kd v = 5
        · have h65 := z65 v hv
          -- the array's loop
          have arr : ∃ f, wp_Md_needsNothing post f 3 (nI s) (nB a) (nI w) 0 (σ.1 65 v) σ := by
            have gen : ∀ suf x (a1 : Bool), (∀ c ∈ suf, c < G.N) → chM 0 (σ.1 66) x suf → (∀ a2 : Bool, (a2 = true ↔ (a1 = true ∧ suf.all rd = true)) → ∃ f, wp_Md_needsNothing post f 1 (nI s) (nB a2) (nI (w + 1)) 0 0 σ) → ∃ f, wp_Md_needsNothing post f 3 (nI s) (nB a1) (nI w) 0 x σ := by
              intro suf
              induction suf with
              | nil =>
                intro x a1 _ hx h2
                have hx : x = -nI 1 := hx
                subst hx
                obtain ⟨f, hf⟩ := h2 a1 (by simp)
                refine ⟨f + 1, ?_⟩
                show wb_Md_needsNothing_3 (wp_Md_needsNothing post f) post (nI s) (nB a1) (nI w) (-nI 1) σ
                simp (disch := omega) only [wb_Md_needsNothing_3, litI, hm0, litI, n_le, n_lt, n_eq, n_in, n_cl, nI_add, n_b0, n_b1, n_v0, n_v1, n_m1, n_m1', n_m1l, n_m1l', n_m1g, n_m1ge, si_1, si_2, forall_eq, not_true_eq_false, not_false_eq_true, true_imp_iff, false_imp_iff, true_and, and_true, false_and, and_false, implies_true, ite_true, ite_false, if_true, if_false, Classical.not_not, Nat.reduceEqDiff, reduceIte, Nat.add_left_cancel_iff, Nat.add_eq_left, Nat.left_eq_add, and_self, n_sub, pk_mul]
                exact hf
              | cons c suf ih2 =>
                intro x a1 hlt hx h2
                obtain ⟨hx, hx2⟩ := hx
                have hcN := hlt c (List.mem_cons_self ..)
                rw [show 160 * 0 + c = c by omega] at hx hx2
                subst hx
                obtain ⟨f, hf⟩ := ih2 (σ.1 66 c) (a1 && rd c) (fun d hd => hlt d (List.mem_cons_of_mem _ hd)) hx2 (fun a2 ha2 => h2 a2 (by rw [ha2]; simp [Bool.and_eq_true, and_assoc]))
                refine ⟨f + 1, ?_⟩
                show wb_Md_needsNothing_3 (wp_Md_needsNothing post f) post (nI s) (nB a1) (nI w) (nI c) σ
                simp (disch := omega) only [wb_Md_needsNothing_3, litI, nB_0, n_lt, n_in, n_cl, eq_false (show ¬ c < 0 by omega), eq_true (show c < 240 by omega), eq_true (show c < 160 by omega), h79 c hcN, litI, n_le, n_lt, n_eq, n_in, n_cl, nI_add, n_b0, n_b1, n_v0, n_v1, n_m1, n_m1', n_m1l, n_m1l', n_m1g, n_m1ge, si_1, si_2, forall_eq, not_true_eq_false, not_false_eq_true, true_imp_iff, false_imp_iff, true_and, and_true, false_and, and_false, implies_true, ite_true, ite_false, if_true, if_false, Classical.not_not, Nat.reduceEqDiff, reduceIte, Nat.add_left_cancel_iff, Nat.add_eq_left, Nat.left_eq_add, and_self, n_sub, pk_mul]
                cases a1 with
                | false => exact ⟨fun _ => hf, fun r => absurd rfl r⟩
                | true =>
                  refine ⟨fun r => (by cases r), fun _ => ?_⟩
                  cases hq : rd c with
                  | false => rw [hq] at hf; exact ⟨fun _ => hf, fun r => absurd rfl r⟩
                  | true => rw [hq] at hf; exact ⟨fun r => (by cases r), fun _ => hf⟩
            refine gen (G.K v) _ a (fun c hc => (hW.ch v hv c hc).2.1) h65 (fun a2 ha2 => next a2 (by rw [ha2]; unfold awb; rw [hr]; simp [h5]))
          obtain ⟨f, hf⟩ := arr
          refine ⟨f + 1, ?_⟩
          show wb_Md_needsNothing_1 (wp_Md_needsNothing post f) post (nI s) (nB a) (nI w) σ
          simp (disch := omega) only [wb_Md_needsNothing_1, litI, n_lt, eq_false (show ¬ 17 < w by omega), litI, n_le, n_lt, n_eq, n_in, n_cl, nI_add, n_b0, n_b1, n_v0, n_v1, n_m1, n_m1', n_m1l, n_m1l', n_m1g, n_m1ge, si_1, si_2, forall_eq, not_true_eq_false, not_false_eq_true, true_imp_iff, false_imp_iff, true_and, and_true, false_and, and_false, implies_true, ite_true, ite_false, if_true, if_false, Classical.not_not, Nat.reduceEqDiff, reduceIte, Nat.add_left_cancel_iff, Nat.add_eq_left, Nat.left_eq_add, and_self, n_sub, pk_mul, eq_true (show 22 * s + w < 3520 by omega), rw_, hr, oI, eq_false (show ¬ v < 0 by omega), eq_true (show v < 240 by omega), h59, eq_true h5]
          exact hf
        · obtain ⟨f, hf⟩ := next a (by unfold awb; rw [hr]; simp [h5])
          refine ⟨f + 1, ?_⟩
          show wb_Md_needsNothing_1 (wp_Md_needsNothing post f) post (nI s) (nB a) (nI w) σ
          simp (disch := omega) only [wb_Md_needsNothing_1, litI, n_lt, eq_false (show ¬ 17 < w by omega), litI, n_le, n_lt, n_eq, n_in, n_cl, nI_add, n_b0, n_b1, n_v0, n_v1, n_m1, n_m1', n_m1l, n_m1l', n_m1g, n_m1ge, si_1, si_2, forall_eq, not_true_eq_false, not_false_eq_true, true_imp_iff, false_imp_iff, true_and, and_true, false_and, and_false, implies_true, ite_true, ite_false, if_true, if_false, Classical.not_not, Nat.reduceEqDiff, reduceIte, Nat.add_left_cancel_iff, Nat.add_eq_left, Nat.left_eq_add, and_self, n_sub, pk_mul, eq_true (show 22 * s + w < 3520 by omega), rw_, hr, oI, eq_false (show ¬ v < 0 by omega), eq_true (show v < 240 by omega), h59, eq_false h5]
          exact hf
  obtain ⟨f, hf⟩ := b1 3 15 true (by omega) (by omega) (fun a' ha' => ⟨3, b1e a' (by
    have e : a' = (awb tx len G rd s 15 && awb tx len G rd s 16 && awb tx len G rd s 17) := by
      rw [Bool.eq_iff_iff, ha']
      simp only [Bool.and_eq_true, true_and]
      constructor
      · intro q; exact ⟨⟨q 15 (by omega) (by omega), q 16 (by omega) (by omega)⟩, q 17 (by omega) (by omega)⟩
      · rintro ⟨⟨q1, q2⟩, q3⟩ u h1 h2
        have : u = 15 ∨ u = 16 ∨ u = 17 := by omega
        rcases this with e | e | e <;> (subst e; assumption)
    rw [e]; exact hp)⟩)
  refine ⟨f + 1, ?_⟩
  show wb_Md_needsNothing_0 (wp_Md_needsNothing post f) post (nI s) σ
  simp only [wb_Md_needsNothing_0, litI]
  exact hf
end MD
