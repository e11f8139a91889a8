theorem bP {post : Int32 → Sg → Prop} {σ : Sg} {b : Bool} (hp : post (nB b) σ) : (nB b = nI 0 → post (nI 0) σ) ∧ (¬ nB b = nI 0 → post (nI 1) σ) := by
  cases b with
  | false => exact ⟨fun _ => hp, fun q => absurd rfl q⟩
  | true => exact ⟨fun q => absurd q (by decide +kernel), fun _ => hp⟩
theorem bQ {b : Bool} {A B : Prop} (h0 : b = false → A) (h1 : b = true → B) : (nB b = nI 0 → A) ∧ (¬ nB b = nI 0 → B) := by
  rw [nB_0]
  cases b with
  | false => exact ⟨fun _ => h0 rfl, fun q => absurd rfl q⟩
  | true => exact ⟨fun q => (by cases q), fun _ => h1 rfl⟩
theorem bQ' {b : Bool} {A B : Prop} (h0 : b = false → A) (h1 : b = true → B) : (¬ nB b = nI 0 → B) ∧ (nB b = nI 0 → A) := ⟨(bQ h0 h1).2, (bQ h0 h1).1⟩
theorem bP' {post : Int32 → Sg → Prop} {σ : Sg} {b : Bool} (hp : post (nB b) σ) : (¬ nB b = nI 0 → post (nI 1) σ) ∧ (nB b = nI 0 → post (nI 0) σ) := ⟨(bP hp).2, (bP hp).1⟩
theorem dP {post : Int32 → Sg → Prop} {σ : Sg} {p : Prop} [Decidable p] (hp : post (nB (decide (¬ p))) σ) : (p → post (nI 0) σ) ∧ (¬ p → post (nI 1) σ) := by
  by_cases h : p
  · rw [decide_eq_false (fun q => q h)] at hp; exact ⟨fun _ => hp, fun q => absurd h q⟩
  · rw [decide_eq_true h] at hp; exact ⟨fun q => absurd q h, fun _ => hp⟩
theorem dP' {post : Int32 → Sg → Prop} {σ : Sg} {p : Prop} [Decidable p] (hp : post (nB (decide p)) σ) : (¬ p → post (nI 0) σ) ∧ (p → post (nI 1) σ) := by
  by_cases h : p
  · rw [decide_eq_true h] at hp; exact ⟨fun q => absurd h q, fun _ => hp⟩
  · rw [decide_eq_false h] at hp; exact ⟨fun _ => hp, fun q => absurd q h⟩
theorem Vd_isNumberSo_r {w : Nat} (h1 : 4 ≤ w) (h2 : w ≤ 10) (has said : Int32) (σ : Sg) (post : Int32 → Sg → Prop) (hp : post (nB (numb w has said)) σ) : wq_Vd_isNumberSo (nI w) has said σ post := by
  have hle : (said ≤ (0 : Int32)) = (said ≤ nI 0) := rfl
  have hi : w = 4 ∨ w = 5 ∨ w = 6 ∨ w = 7 ∨ w = 8 ∨ w = 9 ∨ w = 10 := by omega
  unfold numb at hp
  rcases hi with e | e | e | e | e | e | e <;> subst e
  · have hp : post (nB (decide (¬ has < said))) σ := hp
    simp (disch := omega) only [wq_Vd_isNumberSo, litI, n_le, n_lt, n_eq, n_in, n_cl, nI_add, n_b0, n_b1, n_v0, n_v1, n_m1, n_m1', n_m1l, n_m1l', n_m1g, n_m1ge, si_1, si_2, forall_eq, not_true_eq_false, not_false_eq_true, true_imp_iff, false_imp_iff, true_and, and_true, false_and, and_false, implies_true, ite_true, ite_false, if_true, if_false, Classical.not_not, Nat.reduceEqDiff, reduceIte, Nat.add_left_cancel_iff, Nat.add_eq_left, Nat.left_eq_add, and_self, n_sub, pk_mul, show ¬ (4 = 5) by decide, show ¬ (4 = 6) by decide, show ¬ (4 = 7) by decide, show ¬ (4 = 8) by decide, show ¬ (4 = 9) by decide]
    exact dP hp
  · have hp : post (nB (decide (¬ said < has))) σ := hp
    simp (disch := omega) only [wq_Vd_isNumberSo, litI, n_le, n_lt, n_eq, n_in, n_cl, nI_add, n_b0, n_b1, n_v0, n_v1, n_m1, n_m1', n_m1l, n_m1l', n_m1g, n_m1ge, si_1, si_2, forall_eq, not_true_eq_false, not_false_eq_true, true_imp_iff, false_imp_iff, true_and, and_true, false_and, and_false, implies_true, ite_true, ite_false, if_true, if_false, Classical.not_not, Nat.reduceEqDiff, reduceIte, Nat.add_left_cancel_iff, Nat.add_eq_left, Nat.left_eq_add, and_self, n_sub, pk_mul, show ¬ (5 = 4) by decide, show ¬ (5 = 6) by decide, show ¬ (5 = 7) by decide, show ¬ (5 = 8) by decide, show ¬ (5 = 9) by decide]
    exact dP hp
  · have hp : post (nB (decide (said ≤ 0) || decide (has - has / said * said = 0))) σ := hp
    simp (disch := omega) only [wq_Vd_isNumberSo, litI, n_le, n_lt, n_eq, n_in, n_cl, nI_add, n_b0, n_b1, n_v0, n_v1, n_m1, n_m1', n_m1l, n_m1l', n_m1g, n_m1ge, si_1, si_2, forall_eq, not_true_eq_false, not_false_eq_true, true_imp_iff, false_imp_iff, true_and, and_true, false_and, and_false, implies_true, ite_true, ite_false, if_true, if_false, Classical.not_not, Nat.reduceEqDiff, reduceIte, Nat.add_left_cancel_iff, Nat.add_eq_left, Nat.left_eq_add, and_self, n_sub, pk_mul, show ¬ (6 = 4) by decide, show ¬ (6 = 5) by decide, show ¬ (6 = 7) by decide, show ¬ (6 = 8) by decide, show ¬ (6 = 9) by decide]
    by_cases q : said ≤ nI 0
    · rw [decide_eq_true (show said ≤ 0 from q), Bool.true_or] at hp
      exact ⟨fun _ => hp, fun z => absurd q z⟩
    · rw [decide_eq_false (show ¬ said ≤ 0 from q), Bool.false_or] at hp
      refine ⟨fun z => absurd z q, fun _ => ⟨fun z => q (by rw [z]; exact Int32.le_refl _), ?_⟩⟩
      exact dP' hp
  · have hp : post (nB (decide (¬ has < said))) σ := hp
    simp (disch := omega) only [wq_Vd_isNumberSo, litI, n_le, n_lt, n_eq, n_in, n_cl, nI_add, n_b0, n_b1, n_v0, n_v1, n_m1, n_m1', n_m1l, n_m1l', n_m1g, n_m1ge, si_1, si_2, forall_eq, not_true_eq_false, not_false_eq_true, true_imp_iff, false_imp_iff, true_and, and_true, false_and, and_false, implies_true, ite_true, ite_false, if_true, if_false, Classical.not_not, Nat.reduceEqDiff, reduceIte, Nat.add_left_cancel_iff, Nat.add_eq_left, Nat.left_eq_add, and_self, n_sub, pk_mul, show ¬ (7 = 4) by decide, show ¬ (7 = 5) by decide, show ¬ (7 = 6) by decide, show ¬ (7 = 8) by decide, show ¬ (7 = 9) by decide]
    exact dP hp
  · have hp : post (nB (decide (¬ said < has))) σ := hp
    simp (disch := omega) only [wq_Vd_isNumberSo, litI, n_le, n_lt, n_eq, n_in, n_cl, nI_add, n_b0, n_b1, n_v0, n_v1, n_m1, n_m1', n_m1l, n_m1l', n_m1g, n_m1ge, si_1, si_2, forall_eq, not_true_eq_false, not_false_eq_true, true_imp_iff, false_imp_iff, true_and, and_true, false_and, and_false, implies_true, ite_true, ite_false, if_true, if_false, Classical.not_not, Nat.reduceEqDiff, reduceIte, Nat.add_left_cancel_iff, Nat.add_eq_left, Nat.left_eq_add, and_self, n_sub, pk_mul, show ¬ (8 = 4) by decide, show ¬ (8 = 5) by decide, show ¬ (8 = 6) by decide, show ¬ (8 = 7) by decide, show ¬ (8 = 9) by decide]
    exact dP hp
  · have hp : post (nB (decide (¬ has < said))) σ := hp
    simp (disch := omega) only [wq_Vd_isNumberSo, litI, n_le, n_lt, n_eq, n_in, n_cl, nI_add, n_b0, n_b1, n_v0, n_v1, n_m1, n_m1', n_m1l, n_m1l', n_m1g, n_m1ge, si_1, si_2, forall_eq, not_true_eq_false, not_false_eq_true, true_imp_iff, false_imp_iff, true_and, and_true, false_and, and_false, implies_true, ite_true, ite_false, if_true, if_false, Classical.not_not, Nat.reduceEqDiff, reduceIte, Nat.add_left_cancel_iff, Nat.add_eq_left, Nat.left_eq_add, and_self, n_sub, pk_mul, show ¬ (9 = 4) by decide, show ¬ (9 = 5) by decide, show ¬ (9 = 6) by decide, show ¬ (9 = 7) by decide, show ¬ (9 = 8) by decide]
    exact dP hp
  · have hp : post (nB (decide (¬ said < has))) σ := hp
    simp (disch := omega) only [wq_Vd_isNumberSo, litI, n_le, n_lt, n_eq, n_in, n_cl, nI_add, n_b0, n_b1, n_v0, n_v1, n_m1, n_m1', n_m1l, n_m1l', n_m1g, n_m1ge, si_1, si_2, forall_eq, not_true_eq_false, not_false_eq_true, true_imp_iff, false_imp_iff, true_and, and_true, false_and, and_false, implies_true, ite_true, ite_false, if_true, if_false, Classical.not_not, Nat.reduceEqDiff, reduceIte, Nat.add_left_cancel_iff, Nat.add_eq_left, Nat.left_eq_add, and_self, n_sub, pk_mul, show ¬ (10 = 4) by decide, show ¬ (10 = 5) by decide, show ¬ (10 = 6) by decide, show ¬ (10 = 7) by decide, show ¬ (10 = 8) by decide, show ¬ (10 = 9) by decide]
    exact dP hp
def hCf (S : TG) (σ : Sg) (s i : Nat) : Bool := if S.kd s = 6 then hb σ 36 s i else decide (S.kd s ≠ 1)
def eCf (σ : Sg) (s c : Nat) : Bool := hb σ 38 s c
section SO
variable {tS : Nat → Nat} {lS : Nat} {S : TG} {tD : Nat → Nat} {lD : Nat} {D : TG} {σ : Sg}
/-- both trees and the plan, in the class -/
abbrev CV (tS : Nat → Nat) (lS : Nat) (S : TG) (tD : Nat → Nat) (lD : Nat) (D : TG) (σ : Sg) : Prop := (CC tS lS S tD lD D σ) ∧ (PC tS lS S σ)
theorem CV.c {tS : Nat → Nat} {lS : Nat} {S : TG} {tD : Nat → Nat} {lD : Nat} {D : TG} {σ : Sg} (hX : CV tS lS S tD lD D σ) : CC tS lS S tD lD D σ := hX.1
theorem CV.p {tS : Nat → Nat} {lS : Nat} {S : TG} {tD : Nat → Nat} {lD : Nat} {D : TG} {σ : Sg} (hX : CV tS lS S tD lD D σ) : PC tS lS S σ := hX.2
/-- the cells -/
abbrev CT (S D : TG) (σ : Sg) : Prop := (∀ k, k < S.N → σ.1 1 k = nI (S.kd k)) ∧ (∀ k, k < D.N → σ.1 14 k = nI (D.kd k)) ∧ (∀ k, k < S.N → σ.1 7 k = S.nu k) ∧ (∀ k, k < D.N → σ.1 20 k = D.nu k) ∧ (∀ k, k < S.N → σ.1 2 k = nI (S.fr k)) ∧ (∀ k, k < D.N → σ.1 15 k = nI (D.fr k)) ∧ (∀ k, k < S.N → σ.1 5 k = nI (S.K k).length) ∧ (∀ k, k < D.N → σ.1 18 k = nI (D.K k).length) ∧ (∀ k, k < S.N → chB (σ.1 8) (nI (k + 1)) (S.K k)) ∧ (∀ k, k < D.N → chB (σ.1 21) (nI (k + 1)) (D.K k)) ∧ (∀ k, k < S.N → σ.1 6 k = oI (S.nm k)) ∧ (∀ k, k < D.N → σ.1 19 k = oI (D.nm k))
theorem CT.kS {S D : TG} {σ : Sg} (hX : CT S D σ) : ∀ k, k < S.N → σ.1 1 k = nI (S.kd k) := hX.1
theorem CT.kD {S D : TG} {σ : Sg} (hX : CT S D σ) : ∀ k, k < D.N → σ.1 14 k = nI (D.kd k) := hX.2.1
theorem CT.uS {S D : TG} {σ : Sg} (hX : CT S D σ) : ∀ k, k < S.N → σ.1 7 k = S.nu k := hX.2.2.1
theorem CT.uD {S D : TG} {σ : Sg} (hX : CT S D σ) : ∀ k, k < D.N → σ.1 20 k = D.nu k := hX.2.2.2.1
theorem CT.fS {S D : TG} {σ : Sg} (hX : CT S D σ) : ∀ k, k < S.N → σ.1 2 k = nI (S.fr k) := hX.2.2.2.2.1
theorem CT.fD {S D : TG} {σ : Sg} (hX : CT S D σ) : ∀ k, k < D.N → σ.1 15 k = nI (D.fr k) := hX.2.2.2.2.2.1
theorem CT.mS {S D : TG} {σ : Sg} (hX : CT S D σ) : ∀ k, k < S.N → σ.1 5 k = nI (S.K k).length := hX.2.2.2.2.2.2.1
theorem CT.mD {S D : TG} {σ : Sg} (hX : CT S D σ) : ∀ k, k < D.N → σ.1 18 k = nI (D.K k).length := hX.2.2.2.2.2.2.2.1
theorem CT.cS {S D : TG} {σ : Sg} (hX : CT S D σ) : ∀ k, k < S.N → chB (σ.1 8) (nI (k + 1)) (S.K k) := hX.2.2.2.2.2.2.2.2.1
theorem CT.cD {S D : TG} {σ : Sg} (hX : CT S D σ) : ∀ k, k < D.N → chB (σ.1 21) (nI (k + 1)) (D.K k) := hX.2.2.2.2.2.2.2.2.2.1
theorem CT.aS {S D : TG} {σ : Sg} (hX : CT S D σ) : ∀ k, k < S.N → σ.1 6 k = oI (S.nm k) := hX.2.2.2.2.2.2.2.2.2.2.1
theorem CT.aD {S D : TG} {σ : Sg} (hX : CT S D σ) : ∀ k, k < D.N → σ.1 19 k = oI (D.nm k) := hX.2.2.2.2.2.2.2.2.2.2.2
theorem CC_T (C : CC tS lS S tD lD D σ) : CT S D σ :=
  ⟨fun k hk => C.s.kd k hk (by show 0 < 2; omega), fun k hk => C.d.kd k hk (by show 0 < 2; omega), fun k hk => C.s.nu k hk (by show 0 < 2; omega), fun k hk => C.d.nu k hk (by show 0 < 2; omega), fun k hk => C.s.fr k hk, fun k hk => C.d.fr k hk, fun k hk => C.s.mn k hk, fun k hk => C.d.mn k hk, fun k hk => C.s.ch k hk, fun k hk => C.d.ch k hk, fun k hk => C.s.nm k hk, fun k hk => C.d.nm k hk⟩
theorem isHeld_r (C : CV tS lS S tD lD D σ) {s i : Nat} (hs : s < S.N) (hi : i < D.N) : Ri (wq_Vd_isHeld (nI s) (nI i) σ) (nB (hCf S σ s i)) σ := by
  have T := CC_T C.c
  have hn := C.c.ns
  have hd := C.c.nd
  have hk := C.c.ws.kd s hs
  intro post hp
  unfold hCf at hp
  by_cases h6 : S.kd s = 6
  · rw [if_pos h6] at hp
    simp (disch := omega) only [wq_Vd_isHeld, T.kS s hs, litI, n_le, n_lt, n_eq, n_in, n_cl, nI_add, n_b0, n_b1, n_v0, n_v1, n_m1, n_m1', n_m1l, n_m1l', n_m1g, n_m1ge, si_1, si_2, forall_eq, not_true_eq_false, not_false_eq_true, true_imp_iff, false_imp_iff, true_and, and_true, false_and, and_false, implies_true, ite_true, ite_false, if_true, if_false, Classical.not_not, Nat.reduceEqDiff, reduceIte, Nat.add_left_cancel_iff, Nat.add_eq_left, Nat.left_eq_add, and_self, n_sub, pk_mul, eq_true (show s < 160 by omega), eq_true h6, Mk_has_r (show s < 160 by omega) (show i < 128 by omega), nB_n]
    exact hp
  · rw [if_neg h6] at hp
    simp (disch := omega) only [wq_Vd_isHeld, T.kS s hs, litI, n_le, n_lt, n_eq, n_in, n_cl, nI_add, n_b0, n_b1, n_v0, n_v1, n_m1, n_m1', n_m1l, n_m1l', n_m1g, n_m1ge, si_1, si_2, forall_eq, not_true_eq_false, not_false_eq_true, true_imp_iff, false_imp_iff, true_and, and_true, false_and, and_false, implies_true, ite_true, ite_false, if_true, if_false, Classical.not_not, Nat.reduceEqDiff, reduceIte, Nat.add_left_cancel_iff, Nat.add_eq_left, Nat.left_eq_add, and_self, n_sub, pk_mul, eq_true (show s < 160 by omega), eq_false h6]
    exact dP (p := S.kd s = 1) hp
theorem nodeFor_r (C : CV tS lS S tD lD D σ) {s v i c : Nat} (hs : s < S.N) (hv : v < S.N) (hi : i < D.N) (hc : c ∈ D.K i) : Ri (wq_Vd_nodeFor (nI s) (nI v) (nI i) (nI c) σ) (oI (nfr tS lS S tD lD D (eCf σ) s (wrd tS lS S v) v i c)) σ := by
  have T := CC_T C.c
  have hn := C.c.ns
  have hd := C.c.nd
  have hk := C.c.wd.kd i hi
  have hwl := wrd_le (tx := tS) (len := lS) (G := S) (c := v)
  have hcN := (C.c.wd.ch i hi c hc).2.1
  have hm1 : (-1 : Int32) = -nI 1 := rfl
  have h30 := C.p.w v hv
  have h32 := C.p.p s hs
  intro post hp
  unfold nfr at hp
  by_cases k5 : D.kd i = 5
  · rw [if_pos k5] at hp
    refine ⟨1, ?_⟩
    show wb_Vd_nodeFor_0 (wp_Vd_nodeFor post 0) post (nI s) (nI v) (nI i) (nI c) σ
    by_cases w14 : wrd tS lS S v = 14
    · rw [if_pos w14] at hp
      simp (disch := omega) only [wb_Vd_nodeFor_0, T.kD i hi, h30, litI, n_le, n_lt, n_eq, n_in, n_cl, nI_add, n_b0, n_b1, n_v0, n_v1, n_m1, n_m1', n_m1l, n_m1l', n_m1g, n_m1ge, si_1, si_2, forall_eq, not_true_eq_false, not_false_eq_true, true_imp_iff, false_imp_iff, true_and, and_true, false_and, and_false, implies_true, ite_true, ite_false, if_true, if_false, Classical.not_not, Nat.reduceEqDiff, reduceIte, Nat.add_left_cancel_iff, Nat.add_eq_left, Nat.left_eq_add, and_self, n_sub, pk_mul, eq_true (show v < 160 by omega), eq_true (show i < 80 by omega), eq_true k5, eq_true w14]
      exact hp
    · rw [if_neg w14] at hp
      simp (disch := omega) only [wb_Vd_nodeFor_0, T.kD i hi, h30, litI, n_le, n_lt, n_eq, n_in, n_cl, nI_add, n_b0, n_b1, n_v0, n_v1, n_m1, n_m1', n_m1l, n_m1l', n_m1g, n_m1ge, si_1, si_2, forall_eq, not_true_eq_false, not_false_eq_true, true_imp_iff, false_imp_iff, true_and, and_true, false_and, and_false, implies_true, ite_true, ite_false, if_true, if_false, Classical.not_not, Nat.reduceEqDiff, reduceIte, Nat.add_left_cancel_iff, Nat.add_eq_left, Nat.left_eq_add, and_self, n_sub, pk_mul, eq_true (show v < 160 by omega), eq_true (show i < 80 by omega), eq_true k5, eq_false w14, hm1]
      exact hp
  rw [if_neg k5] at hp
  by_cases k6 : D.kd i = 6
  case neg =>
    rw [if_neg k6] at hp
    refine ⟨1, ?_⟩
    show wb_Vd_nodeFor_0 (wp_Vd_nodeFor post 0) post (nI s) (nI v) (nI i) (nI c) σ
    simp (disch := omega) only [wb_Vd_nodeFor_0, T.kD i hi, h30, litI, n_le, n_lt, n_eq, n_in, n_cl, nI_add, n_b0, n_b1, n_v0, n_v1, n_m1, n_m1', n_m1l, n_m1l', n_m1g, n_m1ge, si_1, si_2, forall_eq, not_true_eq_false, not_false_eq_true, true_imp_iff, false_imp_iff, true_and, and_true, false_and, and_false, implies_true, ite_true, ite_false, if_true, if_false, Classical.not_not, Nat.reduceEqDiff, reduceIte, Nat.add_left_cancel_iff, Nat.add_eq_left, Nat.left_eq_add, and_self, n_sub, pk_mul, eq_true (show v < 160 by omega), eq_true (show i < 80 by omega), eq_false k5, eq_false k6, hm1]
    exact hp
  rw [if_pos k6] at hp
  by_cases w20 : wrd tS lS S v = 20
  · rw [if_pos w20] at hp
    refine ⟨1, ?_⟩
    show wb_Vd_nodeFor_0 (wp_Vd_nodeFor post 0) post (nI s) (nI v) (nI i) (nI c) σ
    simp (disch := omega) only [wb_Vd_nodeFor_0, T.kD i hi, h30, litI, n_le, n_lt, n_eq, n_in, n_cl, nI_add, n_b0, n_b1, n_v0, n_v1, n_m1, n_m1', n_m1l, n_m1l', n_m1g, n_m1ge, si_1, si_2, forall_eq, not_true_eq_false, not_false_eq_true, true_imp_iff, false_imp_iff, true_and, and_true, false_and, and_false, implies_true, ite_true, ite_false, if_true, if_false, Classical.not_not, Nat.reduceEqDiff, reduceIte, Nat.add_left_cancel_iff, Nat.add_eq_left, Nat.left_eq_add, and_self, n_sub, pk_mul, eq_true (show v < 160 by omega), eq_true (show i < 80 by omega), eq_false k5, eq_true k6, eq_true w20, hm1, Mk_has_r (show s < 160 by omega) (show c < 128 by omega)]
    refine bQ (fun q => ?_) (fun q => ?_)
    · rw [if_neg (by show ¬ hb σ 38 s c = true; rw [q]; decide)] at hp; exact hp
    · rw [if_pos (show eCf σ s c = true from q)] at hp; exact hp
  rw [if_neg w20] at hp
  by_cases w1213 : wrd tS lS S v = 12 ∨ wrd tS lS S v = 13
  case neg =>
    rw [if_neg (by omega), if_neg (by omega)] at hp
    refine ⟨1, ?_⟩
    show wb_Vd_nodeFor_0 (wp_Vd_nodeFor post 0) post (nI s) (nI v) (nI i) (nI c) σ
    simp (disch := omega) only [wb_Vd_nodeFor_0, T.kD i hi, h30, litI, n_le, n_lt, n_eq, n_in, n_cl, nI_add, n_b0, n_b1, n_v0, n_v1, n_m1, n_m1', n_m1l, n_m1l', n_m1g, n_m1ge, si_1, si_2, forall_eq, not_true_eq_false, not_false_eq_true, true_imp_iff, false_imp_iff, true_and, and_true, false_and, and_false, implies_true, ite_true, ite_false, if_true, if_false, Classical.not_not, Nat.reduceEqDiff, reduceIte, Nat.add_left_cancel_iff, Nat.add_eq_left, Nat.left_eq_add, and_self, n_sub, pk_mul, eq_true (show v < 160 by omega), eq_true (show i < 80 by omega), eq_false k5, eq_true k6, eq_false w20, hm1, eq_false (show ¬ wrd tS lS S v = 12 by omega), eq_false (show ¬ wrd tS lS S v = 13 by omega)]
    exact hp
  have s2 : ∀ f, wp_Vd_nodeFor post (f + 1) 2 0 (nI v) 0 0 (nI (wrd tS lS S v)) (oI (prf tS lS S tD lD D s c)) σ := by
    intro f
    show wb_Vd_nodeFor_2 (wp_Vd_nodeFor post f) post (nI v) (nI (wrd tS lS S v)) (oI (prf tS lS S tD lD D s c)) σ
    have hlt : ∀ x, prf tS lS S tD lD D s c = some x → x < 2147483648 := fun x hx => by have := prf_lt C.c.ws hs hx; omega
    rcases w1213 with w | w
    · rw [if_pos w] at hp
      simp (disch := omega) only [wb_Vd_nodeFor_2, litI, n_le, n_lt, n_eq, n_in, n_cl, nI_add, n_b0, n_b1, n_v0, n_v1, n_m1, n_m1', n_m1l, n_m1l', n_m1g, n_m1ge, si_1, si_2, forall_eq, not_true_eq_false, not_false_eq_true, true_imp_iff, false_imp_iff, true_and, and_true, false_and, and_false, implies_true, ite_true, ite_false, if_true, if_false, Classical.not_not, Nat.reduceEqDiff, reduceIte, Nat.add_left_cancel_iff, Nat.add_eq_left, Nat.left_eq_add, and_self, n_sub, pk_mul, eq_true w]
      exact hp
    · rw [if_neg (by omega), if_pos w] at hp
      simp (disch := omega) only [wb_Vd_nodeFor_2, hm1, oI_m1 hlt, litI, n_le, n_lt, n_eq, n_in, n_cl, nI_add, n_b0, n_b1, n_v0, n_v1, n_m1, n_m1', n_m1l, n_m1l', n_m1g, n_m1ge, si_1, si_2, forall_eq, not_true_eq_false, not_false_eq_true, true_imp_iff, false_imp_iff, true_and, and_true, false_and, and_false, implies_true, ite_true, ite_false, if_true, if_false, Classical.not_not, Nat.reduceEqDiff, reduceIte, Nat.add_left_cancel_iff, Nat.add_eq_left, Nat.left_eq_add, and_self, n_sub, pk_mul, eq_false (show ¬ wrd tS lS S v = 12 by omega)]
      by_cases q : prf tS lS S tD lD D s c = none
      · rw [if_pos q] at hp; exact ⟨fun z => absurd q z, fun _ => hp⟩
      · rw [if_neg q] at hp; exact ⟨fun _ => hp, fun z => absurd z q⟩
  have s1 : ∀ f, wp_Vd_nodeFor post (f + 2) 1 (nI s) (nI v) 0 (nI c) (nI (wrd tS lS S v)) 0 σ := by
    intro f
    show wb_Vd_nodeFor_1 (wp_Vd_nodeFor post (f + 1)) post (nI s) (nI v) (nI c) (nI (wrd tS lS S v)) σ
    have s2 := s2 f
    unfold prf at s2
    cases hpp : prp tS lS S s with
    | none =>
      rw [hpp] at s2 h32
      simp (disch := omega) only [wb_Vd_nodeFor_1, h32, oI, hm1, litI, n_le, n_lt, n_eq, n_in, n_cl, nI_add, n_b0, n_b1, n_v0, n_v1, n_m1, n_m1', n_m1l, n_m1l', n_m1g, n_m1ge, si_1, si_2, forall_eq, not_true_eq_false, not_false_eq_true, true_imp_iff, false_imp_iff, true_and, and_true, false_and, and_false, implies_true, ite_true, ite_false, if_true, if_false, Classical.not_not, Nat.reduceEqDiff, reduceIte, Nat.add_left_cancel_iff, Nat.add_eq_left, Nat.left_eq_add, and_self, n_sub, pk_mul, eq_true (show s < 160 by omega)]
      exact s2
    | some p =>
      rw [hpp] at s2 h32
      have hpN := prp_lt C.c.ws hs hpp
      have hnx := nm_o C.c.wd hi k6 hc
      have h19 : σ.1 19 c = nI (nmo D c) := by have := T.aD c hcN; rw [hnx.1] at this; exact this
      have hcn := cn_c (b1 := 13) (tx1 := tD) (g := nmo D c + 1) (e1 := qe tD lD (nmo D c + 1)) C.c.s C.c.ws C.c.d.t hpN.1 (by show 0 < 2; omega) (by show S.N ≤ 160; exact hn) (qe_sp (by omega))
      simp (disch := omega) only [wb_Vd_nodeFor_1, h32, oI, hm1, litI, n_le, n_lt, n_eq, n_in, n_cl, nI_add, n_b0, n_b1, n_v0, n_v1, n_m1, n_m1', n_m1l, n_m1l', n_m1g, n_m1ge, si_1, si_2, forall_eq, not_true_eq_false, not_false_eq_true, true_imp_iff, false_imp_iff, true_and, and_true, false_and, and_false, implies_true, ite_true, ite_false, if_true, if_false, Classical.not_not, Nat.reduceEqDiff, reduceIte, Nat.add_left_cancel_iff, Nat.add_eq_left, Nat.left_eq_add, and_self, n_sub, pk_mul, eq_true (show s < 160 by omega), eq_true (show c < 80 by omega), h19]
      exact hcn _ s2
  refine ⟨3, ?_⟩
  show wb_Vd_nodeFor_0 (wp_Vd_nodeFor post 2) post (nI s) (nI v) (nI i) (nI c) σ
  have s1 := s1 0
  rcases w1213 with w | w
  · simp (disch := omega) only [wb_Vd_nodeFor_0, T.kD i hi, h30, litI, n_le, n_lt, n_eq, n_in, n_cl, nI_add, n_b0, n_b1, n_v0, n_v1, n_m1, n_m1', n_m1l, n_m1l', n_m1g, n_m1ge, si_1, si_2, forall_eq, not_true_eq_false, not_false_eq_true, true_imp_iff, false_imp_iff, true_and, and_true, false_and, and_false, implies_true, ite_true, ite_false, if_true, if_false, Classical.not_not, Nat.reduceEqDiff, reduceIte, Nat.add_left_cancel_iff, Nat.add_eq_left, Nat.left_eq_add, and_self, n_sub, pk_mul, eq_true (show v < 160 by omega), eq_true (show i < 80 by omega), eq_false k5, eq_true k6, eq_false w20, hm1, eq_true w]
    exact s1
  · simp (disch := omega) only [wb_Vd_nodeFor_0, T.kD i hi, h30, litI, n_le, n_lt, n_eq, n_in, n_cl, nI_add, n_b0, n_b1, n_v0, n_v1, n_m1, n_m1', n_m1l, n_m1l', n_m1g, n_m1ge, si_1, si_2, forall_eq, not_true_eq_false, not_false_eq_true, true_imp_iff, false_imp_iff, true_and, and_true, false_and, and_false, implies_true, ite_true, ite_false, if_true, if_false, Classical.not_not, Nat.reduceEqDiff, reduceIte, Nat.add_left_cancel_iff, Nat.add_eq_left, Nat.left_eq_add, and_self, n_sub, pk_mul, eq_true (show v < 160 by omega), eq_true (show i < 80 by omega), eq_false k5, eq_true k6, eq_false w20, hm1, eq_false (show ¬ wrd tS lS S v = 12 by omega), eq_true w]
    exact s1
theorem kwd_n {k : Nat} (h : k ≤ 6) : kwd k = nI (kwn k) := by
  have : k = 0 ∨ k = 1 ∨ k = 2 ∨ k = 3 ∨ k = 4 ∨ k = 5 ∨ k = 6 := by omega
  rcases this with e | e | e | e | e | e | e <;> subst e <;> rfl
theorem kwn_b {k : Nat} (h : k ≤ 6) : 22 ≤ kwn k ∧ kwn k ≤ 27 := by unfold kwn; split <;> (try split) <;> omega
theorem saysKind_r (C : CC tS lS S tD lD D σ) {v i : Nat} (hv : v < S.N) (hi : i < D.N) : Ri (wq_Vd_saysKindOf (nI v) (nI i) σ) (nB (ikb tS lS S D v i)) σ := by
  have T := CC_T C
  have hn := C.ns
  have hd := C.nd
  have hk := C.wd.kd i hi
  have hf := C.ws.fr v hv
  have hkw := kwn_b hk
  have hq := qe_sp (tx := tS) (len := lS) (x := S.fr v + 1) (by omega)
  intro post hp
  unfold wq_Vd_saysKindOf
  simp (disch := omega) only [T.fS v hv, T.kD i hi, litI, n_le, n_lt, n_eq, n_in, n_cl, nI_add, n_b0, n_b1, n_v0, n_v1, n_m1, n_m1', n_m1l, n_m1l', n_m1g, n_m1ge, si_1, si_2, forall_eq, not_true_eq_false, not_false_eq_true, true_imp_iff, false_imp_iff, true_and, and_true, false_and, and_false, implies_true, ite_true, ite_false, if_true, if_false, Classical.not_not, Nat.reduceEqDiff, reduceIte, Nat.add_left_cancel_iff, Nat.add_eq_left, Nat.left_eq_add, and_self, n_sub, pk_mul, eq_true (show v < 160 by omega)]
  refine Tx_quotedEnd_r C.s.t hq _ ?_
  simp (disch := omega) only [T.kD i hi, litI, n_le, n_lt, n_eq, n_in, n_cl, nI_add, n_b0, n_b1, n_v0, n_v1, n_m1, n_m1', n_m1l, n_m1l', n_m1g, n_m1ge, si_1, si_2, forall_eq, not_true_eq_false, not_false_eq_true, true_imp_iff, false_imp_iff, true_and, and_true, false_and, and_false, implies_true, ite_true, ite_false, if_true, if_false, Classical.not_not, Nat.reduceEqDiff, reduceIte, Nat.add_left_cancel_iff, Nat.add_eq_left, Nat.left_eq_add, and_self, n_sub, pk_mul, eq_true (show i < 80 by omega), eq_true (show D.kd i < 7 by omega), kwd_n hk]
  refine Wb_isWord_r C.s.t C.s.w (by omega) (by omega) hq.1 hq.2.1 _ ?_
  rw [bI_B, nB_n]
  exact ⟨trivial, hp⟩
theorem any_spl {P : Nat → Bool} {l pre suf : List Nat} {c : Nat} (h : l = pre ++ c :: suf) (hc : P c = true) : l.any P = true := by rw [h]; simp [hc]
theorem typeSo_r (C : CC tS lS S tD lD D σ) {v i : Nat} (hv : v < S.N) (hi : i < D.N) : Ri (wq_Vd_isTypeSo (nI v) (nI i) σ) (nB (typb tS lS S D v i)) σ := by
  have T := CC_T C
  have hn := C.ns
  have hd := C.nd
  have hk := C.ws.kd v hv
  have hl := len_K C.ws hv
  intro post hp
  unfold wq_Vd_isTypeSo
  refine ex_s ?_
  show ∃ n, wb_Vd_isTypeSo_0 (wp_Vd_isTypeSo post n) post (nI v) (nI i) σ
  unfold typb at hp
  by_cases k4 : S.kd v = 4
  · rw [if_pos k4] at hp
    refine ⟨0, ?_⟩
    simp (disch := omega) only [wb_Vd_isTypeSo_0, T.kS v hv, litI, n_le, n_lt, n_eq, n_in, n_cl, nI_add, n_b0, n_b1, n_v0, n_v1, n_m1, n_m1', n_m1l, n_m1l', n_m1g, n_m1ge, si_1, si_2, forall_eq, not_true_eq_false, not_false_eq_true, true_imp_iff, false_imp_iff, true_and, and_true, false_and, and_false, implies_true, ite_true, ite_false, if_true, if_false, Classical.not_not, Nat.reduceEqDiff, reduceIte, Nat.add_left_cancel_iff, Nat.add_eq_left, Nat.left_eq_add, and_self, n_sub, pk_mul, eq_true (show v < 160 by omega), eq_true k4]
    refine saysKind_r C hv hi _ ?_
    rw [nB_n]; exact ⟨trivial, hp⟩
  rw [if_neg k4] at hp
  by_cases k5 : S.kd v = 5
  case neg =>
    rw [if_neg k5] at hp
    refine ⟨0, ?_⟩
    simp (disch := omega) only [wb_Vd_isTypeSo_0, T.kS v hv, litI, n_le, n_lt, n_eq, n_in, n_cl, nI_add, n_b0, n_b1, n_v0, n_v1, n_m1, n_m1', n_m1l, n_m1l', n_m1g, n_m1ge, si_1, si_2, forall_eq, not_true_eq_false, not_false_eq_true, true_imp_iff, false_imp_iff, true_and, and_true, false_and, and_false, implies_true, ite_true, ite_false, if_true, if_false, Classical.not_not, Nat.reduceEqDiff, reduceIte, Nat.add_left_cancel_iff, Nat.add_eq_left, Nat.left_eq_add, and_self, n_sub, pk_mul, eq_true (show v < 160 by omega), eq_false k4, eq_false k5]
    exact hp
  rw [if_pos k5] at hp
  simp (disch := omega) only [wb_Vd_isTypeSo_0, T.kS v hv, litI, n_le, n_lt, n_eq, n_in, n_cl, nI_add, n_b0, n_b1, n_v0, n_v1, n_m1, n_m1', n_m1l, n_m1l', n_m1g, n_m1ge, si_1, si_2, forall_eq, not_true_eq_false, not_false_eq_true, true_imp_iff, false_imp_iff, true_and, and_true, false_and, and_false, implies_true, ite_true, ite_false, if_true, if_false, Classical.not_not, Nat.reduceEqDiff, reduceIte, Nat.add_left_cancel_iff, Nat.add_eq_left, Nat.left_eq_add, and_self, n_sub, pk_mul, eq_true (show v < 160 by omega), eq_false k4, eq_true k5]
  refine loopC0 (S.K v) (fun n j x => wp_Vd_isTypeSo post n 1 (nI v) (nI i) (nI j) x σ) (fun pre => pre.any (fun a => decide (S.kd a = 4) && ikb tS lS S D a i) = false) (T.cS v hv) (by simp) ?_ ?_
  · intro x hI
    rw [hI] at hp
    refine ⟨1, ?_⟩
    show wb_Vd_isTypeSo_1 (wp_Vd_isTypeSo post 0) post (nI v) (nI i) (nI (S.K v).length) x σ
    simp (disch := omega) only [wb_Vd_isTypeSo_1, litI, n_le, n_lt, n_eq, n_in, n_cl, nI_add, n_b0, n_b1, n_v0, n_v1, n_m1, n_m1', n_m1l, n_m1l', n_m1g, n_m1ge, si_1, si_2, forall_eq, not_true_eq_false, not_false_eq_true, true_imp_iff, false_imp_iff, true_and, and_true, false_and, and_false, implies_true, ite_true, ite_false, if_true, if_false, Classical.not_not, Nat.reduceEqDiff, reduceIte, Nat.add_left_cancel_iff, Nat.add_eq_left, Nat.left_eq_add, and_self, n_sub, pk_mul, T.mS v hv, eq_true (show v < 160 by omega), Nat.le_refl]
    exact hp
  · intro pre a suf hK hI ih
    have ha := C.ws.ch v hv a (by rw [hK]; simp)
    have hka := C.ws.kd a ha.2.1
    have hln : (S.K v).length = pre.length + suf.length + 1 := by rw [hK]; simp; omega
    by_cases ka : S.kd a = 4
    · have hsk := saysKind_r C ha.2.1 hi
      cases hq : ikb tS lS S D a i with
      | true =>
        rw [any_spl hK (by simp [ka, hq])] at hp
        rw [hq] at hsk
        refine ⟨1, ?_⟩
        show wb_Vd_isTypeSo_1 (wp_Vd_isTypeSo post 0) post (nI v) (nI i) (nI pre.length) (nI a) σ
        simp (disch := omega) only [wb_Vd_isTypeSo_1, litI, n_le, n_lt, n_eq, n_in, n_cl, nI_add, n_b0, n_b1, n_v0, n_v1, n_m1, n_m1', n_m1l, n_m1l', n_m1g, n_m1ge, si_1, si_2, forall_eq, not_true_eq_false, not_false_eq_true, true_imp_iff, false_imp_iff, true_and, and_true, false_and, and_false, implies_true, ite_true, ite_false, if_true, if_false, Classical.not_not, Nat.reduceEqDiff, reduceIte, Nat.add_left_cancel_iff, Nat.add_eq_left, Nat.left_eq_add, and_self, n_sub, pk_mul, T.mS v hv, T.kS a ha.2.1, eq_true (show v < 160 by omega), eq_true (show a < 160 by omega), eq_false (show ¬ (S.K v).length ≤ pre.length by omega), eq_true ka]
        refine hsk _ ?_
        simp only [nB_0, litI, n_le, n_lt, n_eq, n_in, n_cl, nI_add, n_b0, n_b1, n_v0, n_v1, n_m1, n_m1', n_m1l, n_m1l', n_m1g, n_m1ge, si_1, si_2, forall_eq, not_true_eq_false, not_false_eq_true, true_imp_iff, false_imp_iff, true_and, and_true, false_and, and_false, implies_true, ite_true, ite_false, if_true, if_false, Classical.not_not, Nat.reduceEqDiff, reduceIte, Nat.add_left_cancel_iff, Nat.add_eq_left, Nat.left_eq_add, and_self, n_sub, pk_mul, Bool.true_eq_false]
        exact hp
      | false =>
        rw [hq] at hsk
        obtain ⟨n, hn⟩ := ih (by rw [List.any_append, hI]; simp [hq])
        refine ⟨n + 1, ?_⟩
        show wb_Vd_isTypeSo_1 (wp_Vd_isTypeSo post n) post (nI v) (nI i) (nI pre.length) (nI a) σ
        simp (disch := omega) only [wb_Vd_isTypeSo_1, litI, n_le, n_lt, n_eq, n_in, n_cl, nI_add, n_b0, n_b1, n_v0, n_v1, n_m1, n_m1', n_m1l, n_m1l', n_m1g, n_m1ge, si_1, si_2, forall_eq, not_true_eq_false, not_false_eq_true, true_imp_iff, false_imp_iff, true_and, and_true, false_and, and_false, implies_true, ite_true, ite_false, if_true, if_false, Classical.not_not, Nat.reduceEqDiff, reduceIte, Nat.add_left_cancel_iff, Nat.add_eq_left, Nat.left_eq_add, and_self, n_sub, pk_mul, T.mS v hv, T.kS a ha.2.1, eq_true (show v < 160 by omega), eq_true (show a < 160 by omega), eq_false (show ¬ (S.K v).length ≤ pre.length by omega), eq_true ka]
        refine hsk _ ?_
        simp (disch := omega) only [nB_0, litI, n_le, n_lt, n_eq, n_in, n_cl, nI_add, n_b0, n_b1, n_v0, n_v1, n_m1, n_m1', n_m1l, n_m1l', n_m1g, n_m1ge, si_1, si_2, forall_eq, not_true_eq_false, not_false_eq_true, true_imp_iff, false_imp_iff, true_and, and_true, false_and, and_false, implies_true, ite_true, ite_false, if_true, if_false, Classical.not_not, Nat.reduceEqDiff, reduceIte, Nat.add_left_cancel_iff, Nat.add_eq_left, Nat.left_eq_add, and_self, n_sub, pk_mul, eq_true (show a < 160 by omega)]
        exact hn
    · obtain ⟨n, hn⟩ := ih (by rw [List.any_append, hI]; simp [ka])
      refine ⟨n + 1, ?_⟩
      show wb_Vd_isTypeSo_1 (wp_Vd_isTypeSo post n) post (nI v) (nI i) (nI pre.length) (nI a) σ
      simp (disch := omega) only [wb_Vd_isTypeSo_1, litI, n_le, n_lt, n_eq, n_in, n_cl, nI_add, n_b0, n_b1, n_v0, n_v1, n_m1, n_m1', n_m1l, n_m1l', n_m1g, n_m1ge, si_1, si_2, forall_eq, not_true_eq_false, not_false_eq_true, true_imp_iff, false_imp_iff, true_and, and_true, false_and, and_false, implies_true, ite_true, ite_false, if_true, if_false, Classical.not_not, Nat.reduceEqDiff, reduceIte, Nat.add_left_cancel_iff, Nat.add_eq_left, Nat.left_eq_add, and_self, n_sub, pk_mul, T.mS v hv, T.kS a ha.2.1, eq_true (show v < 160 by omega), eq_true (show a < 160 by omega), eq_false (show ¬ (S.K v).length ≤ pre.length by omega), eq_false ka]
      exact hn
theorem hasSame_r (C : CC tS lS S tD lD D σ) {v i : Nat} (hv : v < S.N) (hi : i < D.N) : Ri (wq_Vd_hasSame (nI v) (nI i) σ) (nB ((S.K v).any (fun a => EQ tS lS S tD lD D a i))) σ := by
  have T := CC_T C
  have hn := C.ns
  have hl := len_K C.ws hv
  intro post hp
  unfold wq_Vd_hasSame
  refine ex_s ?_
  simp only [wp_Vd_hasSame, wb_Vd_hasSame_0, litI, n_le, n_lt, n_eq, n_in, n_cl, nI_add, n_b0, n_b1, n_v0, n_v1, n_m1, n_m1', n_m1l, n_m1l', n_m1g, n_m1ge, si_1, si_2, forall_eq, not_true_eq_false, not_false_eq_true, true_imp_iff, false_imp_iff, true_and, and_true, false_and, and_false, implies_true, ite_true, ite_false, if_true, if_false, Classical.not_not, Nat.reduceEqDiff, reduceIte, Nat.add_left_cancel_iff, Nat.add_eq_left, Nat.left_eq_add, and_self, n_sub, pk_mul]
  refine loopC0 (S.K v) (fun n j x => wp_Vd_hasSame post n 1 (nI v) (nI i) (nI j) x σ) (fun pre => pre.any (fun a => EQ tS lS S tD lD D a i) = false) (T.cS v hv) (by simp) ?_ ?_
  · intro x hI
    rw [hI] at hp
    refine ⟨1, ?_⟩
    show wb_Vd_hasSame_1 (wp_Vd_hasSame post 0) post (nI v) (nI i) (nI (S.K v).length) x σ
    simp (disch := omega) only [wb_Vd_hasSame_1, litI, n_le, n_lt, n_eq, n_in, n_cl, nI_add, n_b0, n_b1, n_v0, n_v1, n_m1, n_m1', n_m1l, n_m1l', n_m1g, n_m1ge, si_1, si_2, forall_eq, not_true_eq_false, not_false_eq_true, true_imp_iff, false_imp_iff, true_and, and_true, false_and, and_false, implies_true, ite_true, ite_false, if_true, if_false, Classical.not_not, Nat.reduceEqDiff, reduceIte, Nat.add_left_cancel_iff, Nat.add_eq_left, Nat.left_eq_add, and_self, n_sub, pk_mul, T.mS v hv, eq_true (show v < 160 by omega), Nat.le_refl]
    exact hp
  · intro pre a suf hK hI ih
    have ha := C.ws.ch v hv a (by rw [hK]; simp)
    have hln : (S.K v).length = pre.length + suf.length + 1 := by rw [hK]; simp; omega
    have hsm := isSame_c C 11 0 a i (by omega) (by omega) ha.2.1 hi
    cases hq : EQ tS lS S tD lD D a i with
    | true =>
      rw [any_spl hK hq] at hp
      rw [show eqF tS lS S tD lD D (9 - 0) a i = true from hq] at hsm
      refine ⟨1, ?_⟩
      show wb_Vd_hasSame_1 (wp_Vd_hasSame post 0) post (nI v) (nI i) (nI pre.length) (nI a) σ
      simp (disch := omega) only [wb_Vd_hasSame_1, litI, n_le, n_lt, n_eq, n_in, n_cl, nI_add, n_b0, n_b1, n_v0, n_v1, n_m1, n_m1', n_m1l, n_m1l', n_m1g, n_m1ge, si_1, si_2, forall_eq, not_true_eq_false, not_false_eq_true, true_imp_iff, false_imp_iff, true_and, and_true, false_and, and_false, implies_true, ite_true, ite_false, if_true, if_false, Classical.not_not, Nat.reduceEqDiff, reduceIte, Nat.add_left_cancel_iff, Nat.add_eq_left, Nat.left_eq_add, and_self, n_sub, pk_mul, T.mS v hv, eq_true (show v < 160 by omega), eq_false (show ¬ (S.K v).length ≤ pre.length by omega)]
      refine hsm _ ?_
      simp only [nB_0, litI, n_le, n_lt, n_eq, n_in, n_cl, nI_add, n_b0, n_b1, n_v0, n_v1, n_m1, n_m1', n_m1l, n_m1l', n_m1g, n_m1ge, si_1, si_2, forall_eq, not_true_eq_false, not_false_eq_true, true_imp_iff, false_imp_iff, true_and, and_true, false_and, and_false, implies_true, ite_true, ite_false, if_true, if_false, Classical.not_not, Nat.reduceEqDiff, reduceIte, Nat.add_left_cancel_iff, Nat.add_eq_left, Nat.left_eq_add, and_self, n_sub, pk_mul, Bool.true_eq_false]
      exact hp
    | false =>
      rw [show eqF tS lS S tD lD D (9 - 0) a i = false from hq] at hsm
      obtain ⟨n, hn⟩ := ih (by rw [List.any_append, hI]; simp [hq])
      refine ⟨n + 1, ?_⟩
      show wb_Vd_hasSame_1 (wp_Vd_hasSame post n) post (nI v) (nI i) (nI pre.length) (nI a) σ
      simp (disch := omega) only [wb_Vd_hasSame_1, litI, n_le, n_lt, n_eq, n_in, n_cl, nI_add, n_b0, n_b1, n_v0, n_v1, n_m1, n_m1', n_m1l, n_m1l', n_m1g, n_m1ge, si_1, si_2, forall_eq, not_true_eq_false, not_false_eq_true, true_imp_iff, false_imp_iff, true_and, and_true, false_and, and_false, implies_true, ite_true, ite_false, if_true, if_false, Classical.not_not, Nat.reduceEqDiff, reduceIte, Nat.add_left_cancel_iff, Nat.add_eq_left, Nat.left_eq_add, and_self, n_sub, pk_mul, T.mS v hv, eq_true (show v < 160 by omega), eq_false (show ¬ (S.K v).length ≤ pre.length by omega)]
      refine hsm _ ?_
      simp (disch := omega) only [nB_0, litI, n_le, n_lt, n_eq, n_in, n_cl, nI_add, n_b0, n_b1, n_v0, n_v1, n_m1, n_m1', n_m1l, n_m1l', n_m1g, n_m1ge, si_1, si_2, forall_eq, not_true_eq_false, not_false_eq_true, true_imp_iff, false_imp_iff, true_and, and_true, false_and, and_false, implies_true, ite_true, ite_false, if_true, if_false, Classical.not_not, Nat.reduceEqDiff, reduceIte, Nat.add_left_cancel_iff, Nat.add_eq_left, Nat.left_eq_add, and_self, n_sub, pk_mul, eq_true (show a < 160 by omega)]
      exact hn
theorem allNames_r (C : CC tS lS S tD lD D σ) {v i : Nat} (hv : v < S.N) (hi : i < D.N) : Ri (wq_Vd_hasAllNames (nI v) (nI i) σ) (nB ((S.K v).all (fun a => decide (S.kd a ≠ 4) || (cnd tD lD D i tS (S.fr a + 1) (qe tS lS (S.fr a + 1))).isSome))) σ := by
  have T := CC_T C
  have hn := C.ns
  have hd := C.nd
  have hl := len_K C.ws hv
  have hm1 : (-1 : Int32) = -nI 1 := rfl
  intro post hp
  unfold wq_Vd_hasAllNames
  refine ex_s ?_
  simp only [wp_Vd_hasAllNames, wb_Vd_hasAllNames_0, litI, n_le, n_lt, n_eq, n_in, n_cl, nI_add, n_b0, n_b1, n_v0, n_v1, n_m1, n_m1', n_m1l, n_m1l', n_m1g, n_m1ge, si_1, si_2, forall_eq, not_true_eq_false, not_false_eq_true, true_imp_iff, false_imp_iff, true_and, and_true, false_and, and_false, implies_true, ite_true, ite_false, if_true, if_false, Classical.not_not, Nat.reduceEqDiff, reduceIte, Nat.add_left_cancel_iff, Nat.add_eq_left, Nat.left_eq_add, and_self, n_sub, pk_mul]
  refine loopC0 (S.K v) (fun n j x => wp_Vd_hasAllNames post n 1 (nI v) (nI i) (nI j) x σ) (fun pre => pre.all (fun a => decide (S.kd a ≠ 4) || (cnd tD lD D i tS (S.fr a + 1) (qe tS lS (S.fr a + 1))).isSome) = true) (T.cS v hv) (by simp) ?_ ?_
  · intro x hI
    rw [hI] at hp
    refine ⟨1, ?_⟩
    show wb_Vd_hasAllNames_1 (wp_Vd_hasAllNames post 0) post (nI v) (nI i) (nI (S.K v).length) x σ
    simp (disch := omega) only [wb_Vd_hasAllNames_1, litI, n_le, n_lt, n_eq, n_in, n_cl, nI_add, n_b0, n_b1, n_v0, n_v1, n_m1, n_m1', n_m1l, n_m1l', n_m1g, n_m1ge, si_1, si_2, forall_eq, not_true_eq_false, not_false_eq_true, true_imp_iff, false_imp_iff, true_and, and_true, false_and, and_false, implies_true, ite_true, ite_false, if_true, if_false, Classical.not_not, Nat.reduceEqDiff, reduceIte, Nat.add_left_cancel_iff, Nat.add_eq_left, Nat.left_eq_add, and_self, n_sub, pk_mul, T.mS v hv, eq_true (show v < 160 by omega), Nat.le_refl]
    exact hp
  · intro pre a suf hK hI ih
    have ha := C.ws.ch v hv a (by rw [hK]; simp)
    have hka := C.ws.kd a ha.2.1
    have hfa := C.ws.fr a ha.2.1
    have hln : (S.K v).length = pre.length + suf.length + 1 := by rw [hK]; simp; omega
    by_cases ka : S.kd a = 4
    · have hcn := cn_c (b1 := 0) (tx1 := tS) (g := S.fr a + 1) (e1 := qe tS lS (S.fr a + 1)) C.d C.wd C.s.t hi (by show 0 < 2; omega) (by show D.N ≤ 80; exact hd) (qe_sp (by omega))
      have hlt : ∀ x, cnd tD lD D i tS (S.fr a + 1) (qe tS lS (S.fr a + 1)) = some x → x < 2147483648 := fun x hx => by have := cnd_lt2 C.wd hi hx; omega
      cases hq : cnd tD lD D i tS (S.fr a + 1) (qe tS lS (S.fr a + 1)) with
      | none =>
        rw [all_spl hK (by simp [ka, hq])] at hp
        refine ⟨1, ?_⟩
        show wb_Vd_hasAllNames_1 (wp_Vd_hasAllNames post 0) post (nI v) (nI i) (nI pre.length) (nI a) σ
        simp (disch := omega) only [wb_Vd_hasAllNames_1, litI, n_le, n_lt, n_eq, n_in, n_cl, nI_add, n_b0, n_b1, n_v0, n_v1, n_m1, n_m1', n_m1l, n_m1l', n_m1g, n_m1ge, si_1, si_2, forall_eq, not_true_eq_false, not_false_eq_true, true_imp_iff, false_imp_iff, true_and, and_true, false_and, and_false, implies_true, ite_true, ite_false, if_true, if_false, Classical.not_not, Nat.reduceEqDiff, reduceIte, Nat.add_left_cancel_iff, Nat.add_eq_left, Nat.left_eq_add, and_self, n_sub, pk_mul, T.mS v hv, T.kS a ha.2.1, T.fS a ha.2.1, eq_true (show v < 160 by omega), eq_true (show a < 160 by omega), eq_false (show ¬ (S.K v).length ≤ pre.length by omega), eq_true ka]
        refine hcn _ ?_
        simp only [hm1, hq, oI, litI, n_le, n_lt, n_eq, n_in, n_cl, nI_add, n_b0, n_b1, n_v0, n_v1, n_m1, n_m1', n_m1l, n_m1l', n_m1g, n_m1ge, si_1, si_2, forall_eq, not_true_eq_false, not_false_eq_true, true_imp_iff, false_imp_iff, true_and, and_true, false_and, and_false, implies_true, ite_true, ite_false, if_true, if_false, Classical.not_not, Nat.reduceEqDiff, reduceIte, Nat.add_left_cancel_iff, Nat.add_eq_left, Nat.left_eq_add, and_self, n_sub, pk_mul]
        exact hp
      | some y =>
        obtain ⟨n, hn⟩ := ih (by rw [List.all_append, hI]; simp [hq])
        refine ⟨n + 1, ?_⟩
        show wb_Vd_hasAllNames_1 (wp_Vd_hasAllNames post n) post (nI v) (nI i) (nI pre.length) (nI a) σ
        simp (disch := omega) only [wb_Vd_hasAllNames_1, litI, n_le, n_lt, n_eq, n_in, n_cl, nI_add, n_b0, n_b1, n_v0, n_v1, n_m1, n_m1', n_m1l, n_m1l', n_m1g, n_m1ge, si_1, si_2, forall_eq, not_true_eq_false, not_false_eq_true, true_imp_iff, false_imp_iff, true_and, and_true, false_and, and_false, implies_true, ite_true, ite_false, if_true, if_false, Classical.not_not, Nat.reduceEqDiff, reduceIte, Nat.add_left_cancel_iff, Nat.add_eq_left, Nat.left_eq_add, and_self, n_sub, pk_mul, T.mS v hv, T.kS a ha.2.1, T.fS a ha.2.1, eq_true (show v < 160 by omega), eq_true (show a < 160 by omega), eq_false (show ¬ (S.K v).length ≤ pre.length by omega), eq_true ka]
        refine hcn _ ?_
        have hy := hlt y hq
        simp (disch := omega) only [hm1, hq, oI, litI, n_le, n_lt, n_eq, n_in, n_cl, nI_add, n_b0, n_b1, n_v0, n_v1, n_m1, n_m1', n_m1l, n_m1l', n_m1g, n_m1ge, si_1, si_2, forall_eq, not_true_eq_false, not_false_eq_true, true_imp_iff, false_imp_iff, true_and, and_true, false_and, and_false, implies_true, ite_true, ite_false, if_true, if_false, Classical.not_not, Nat.reduceEqDiff, reduceIte, Nat.add_left_cancel_iff, Nat.add_eq_left, Nat.left_eq_add, and_self, n_sub, pk_mul, eq_true (show a < 160 by omega)]
        exact hn
    · obtain ⟨n, hn⟩ := ih (by rw [List.all_append, hI]; simp [ka])
      refine ⟨n + 1, ?_⟩
      show wb_Vd_hasAllNames_1 (wp_Vd_hasAllNames post n) post (nI v) (nI i) (nI pre.length) (nI a) σ
      simp (disch := omega) only [wb_Vd_hasAllNames_1, litI, n_le, n_lt, n_eq, n_in, n_cl, nI_add, n_b0, n_b1, n_v0, n_v1, n_m1, n_m1', n_m1l, n_m1l', n_m1g, n_m1ge, si_1, si_2, forall_eq, not_true_eq_false, not_false_eq_true, true_imp_iff, false_imp_iff, true_and, and_true, false_and, and_false, implies_true, ite_true, ite_false, if_true, if_false, Classical.not_not, Nat.reduceEqDiff, reduceIte, Nat.add_left_cancel_iff, Nat.add_eq_left, Nat.left_eq_add, and_self, n_sub, pk_mul, T.mS v hv, T.kS a ha.2.1, eq_true (show v < 160 by omega), eq_true (show a < 160 by omega), eq_false (show ¬ (S.K v).length ≤ pre.length by omega), eq_false ka]
      exact hn
end SO
