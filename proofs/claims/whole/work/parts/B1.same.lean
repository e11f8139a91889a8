def all2 (P : Nat → Nat → Bool) : List Nat → List Nat → Bool
  | [], _ => true
  | x :: l, y :: m => P x y && all2 P l m
  | _ :: _, [] => false
theorem all2_cg {P Q : Nat → Nat → Bool} : ∀ (l m : List Nat), (∀ x ∈ l, ∀ y, P x y = Q x y) → all2 P l m = all2 Q l m
  | [], _, _ => by cases ‹List Nat› <;> rfl
  | x :: l, y :: m, h => by unfold all2; rw [h x (List.mem_cons_self ..), all2_cg l m (fun a ha => h a (List.mem_cons_of_mem _ ha))]
  | _ :: _, [], _ => rfl
section SD
variable (tS : Nat → Nat) (lS : Nat) (S : TG) (tD : Nat → Nat) (lD : Nat) (D : TG)
/-- the name's place -/
def nmo (G : TG) (x : Nat) : Nat := (G.nm x).getD 0
/-- the child of i in the document with the name of x in the schema -/
noncomputable def dch (i x : Nat) : Option Nat := cnd tD lD D i tS (nmo S x + 1) (qe tS lS (nmo S x + 1))
noncomputable def eqB (E : Nat → Nat → Bool) (v i : Nat) : Bool :=
  if S.kd v = D.kd i then (if S.kd v = 3 then decide (S.nu v = D.nu i) else if S.kd v = 4 then decide (eqn tS (S.fr v + 1) (qe tS lS (S.fr v + 1)) tD (D.fr i + 1) (qe tD lD (D.fr i + 1))) else if (S.K v).length = (D.K i).length then (if S.kd v = 6 then (S.K v).all (fun x => match dch tS lS S tD lD D i x with
    | some y => E x y
    | none => false) else all2 E (S.K v) (D.K i)) else false) else false
noncomputable def eqF : Nat → Nat → Nat → Bool
  | 0, _, _ => false
  | f + 1, v, i => eqB tS lS S tD lD D (eqF f) v i
end SD
section SE
variable {tS : Nat → Nat} {lS : Nat} {S : TG} {tD : Nat → Nat} {lD : Nat} {D : TG}
theorem eqB_cg {E E' : Nat → Nat → Bool} {v i : Nat} (h : ∀ x ∈ S.K v, ∀ y, E x y = E' x y) : eqB tS lS S tD lD D E v i = eqB tS lS S tD lD D E' v i := by
  have h1 : (S.K v).all (fun x => match dch tS lS S tD lD D i x with | some y => E x y | none => false) = (S.K v).all (fun x => match dch tS lS S tD lD D i x with | some y => E' x y | none => false) := by
    rw [Bool.eq_iff_iff, List.all_eq_true, List.all_eq_true]
    constructor
    · intro q x hx; have := q x hx; cases hd : dch tS lS S tD lD D i x with
      | none => rw [hd] at this; exact this
      | some y => rw [hd] at this; simp only at this ⊢; rw [← h x hx]; exact this
    · intro q x hx; have := q x hx; cases hd : dch tS lS S tD lD D i x with
      | none => rw [hd] at this; exact this
      | some y => rw [hd] at this; simp only at this ⊢; rw [h x hx]; exact this
  unfold eqB
  rw [h1, all2_cg _ _ h]
theorem eqF_st (hW : WG lS S) : ∀ f g v i, v < S.N → 9 ≤ f + S.lv v → 9 ≤ g + S.lv v → eqF tS lS S tD lD D f v i = eqF tS lS S tD lD D g v i := by
  intro f
  induction f with
  | zero => intro g v i hv h1 _; have := (hW.lv v hv).1; omega
  | succ f ih =>
    intro g v i hv h1 h2
    cases g with
    | zero => have := (hW.lv v hv).1; omega
    | succ g =>
      show eqB tS lS S tD lD D (eqF tS lS S tD lD D f) v i = eqB tS lS S tD lD D (eqF tS lS S tD lD D g) v i
      exact eqB_cg (fun x hx y => by
        have hc := hW.ch v hv x hx
        exact ih g x y hc.2.1 (by omega) (by omega))
noncomputable def EQ (tS : Nat → Nat) (lS : Nat) (S : TG) (tD : Nat → Nat) (lD : Nat) (D : TG) : Nat → Nat → Bool := eqF tS lS S tD lD D 9
theorem EQ_u (hW : WG lS S) {v i : Nat} (hv : v < S.N) : EQ tS lS S tD lD D v i = eqB tS lS S tD lD D (EQ tS lS S tD lD D) v i := by
  show eqB tS lS S tD lD D (eqF tS lS S tD lD D 8) v i = _
  exact eqB_cg (fun x hx y => by
    have hc := hW.ch v hv x hx
    exact eqF_st hW 8 9 x y hc.2.1 (by omega) (by omega))
/-- both trees in the class -/
abbrev CC (tS : Nat → Nat) (lS : Nat) (S : TG) (tD : Nat → Nat) (lD : Nat) (D : TG) (σ : Sg) : Prop := (CI 0 σ lS tS S op0) ∧ (CI 13 σ lD tD D op0) ∧ (WG lS S) ∧ (WG lD D) ∧ (S.N ≤ 160) ∧ (D.N ≤ 80)
theorem CC.s {tS : Nat → Nat} {lS : Nat} {S : TG} {tD : Nat → Nat} {lD : Nat} {D : TG} {σ : Sg} (hX : CC tS lS S tD lD D σ) : CI 0 σ lS tS S op0 := hX.1
theorem CC.d {tS : Nat → Nat} {lS : Nat} {S : TG} {tD : Nat → Nat} {lD : Nat} {D : TG} {σ : Sg} (hX : CC tS lS S tD lD D σ) : CI 13 σ lD tD D op0 := hX.2.1
theorem CC.ws {tS : Nat → Nat} {lS : Nat} {S : TG} {tD : Nat → Nat} {lD : Nat} {D : TG} {σ : Sg} (hX : CC tS lS S tD lD D σ) : WG lS S := hX.2.2.1
theorem CC.wd {tS : Nat → Nat} {lS : Nat} {S : TG} {tD : Nat → Nat} {lD : Nat} {D : TG} {σ : Sg} (hX : CC tS lS S tD lD D σ) : WG lD D := hX.2.2.2.1
theorem CC.ns {tS : Nat → Nat} {lS : Nat} {S : TG} {tD : Nat → Nat} {lD : Nat} {D : TG} {σ : Sg} (hX : CC tS lS S tD lD D σ) : S.N ≤ 160 := hX.2.2.2.2.1
theorem CC.nd {tS : Nat → Nat} {lS : Nat} {S : TG} {tD : Nat → Nat} {lD : Nat} {D : TG} {σ : Sg} (hX : CC tS lS S tD lD D σ) : D.N ≤ 80 := hX.2.2.2.2.2
theorem nB_e (b : Bool) : (nB b = nI 1) ↔ b = true := by cases b <;> decide +kernel
theorem bI_B (p : Prop) [Decidable p] : nI (bI p) = nB (decide p) := by by_cases h : p <;> simp [bI, h, nB]
theorem nm_o {len : Nat} {G : TG} (hW : WG len G) {p x : Nat} (hp : p < G.N) (h6 : G.kd p = 6) (hx : x ∈ G.K p) : G.nm x = some (nmo G x) ∧ nmo G x < len := by
  have hc := hW.ch p hp x hx
  obtain ⟨n, h1, h2⟩ := (hW.nm x hc.2.1 p hc.2.2.1).1 h6
  unfold nmo; rw [h1]; exact ⟨rfl, h2⟩
theorem isSame_c {σ : Sg} (C : CC tS lS S tD lD D σ) : ∀ n d v i, 10 ≤ n + d → d ≤ 9 → v < S.N → i < D.N → Ri (wd_Vd_isSame n (nI v) (nI i) (nI d) σ) (nB (eqF tS lS S tD lD D (9 - d) v i)) σ := by
  obtain ⟨hS, hD, hWS, hWD, hNS, hND⟩ := C
  have kS : ∀ k, k < S.N → σ.1 1 k = nI (S.kd k) := fun k hk => hS.kd k hk (by show 0 < 2; omega)
  have kD : ∀ k, k < D.N → σ.1 14 k = nI (D.kd k) := fun k hk => hD.kd k hk (by show 0 < 2; omega)
  have nS : ∀ k, k < S.N → σ.1 7 k = S.nu k := fun k hk => hS.nu k hk (by show 0 < 2; omega)
  have nD : ∀ k, k < D.N → σ.1 20 k = D.nu k := fun k hk => hD.nu k hk (by show 0 < 2; omega)
  have fS : ∀ k, k < S.N → σ.1 2 k = nI (S.fr k) := fun k hk => hS.fr k hk
  have fD : ∀ k, k < D.N → σ.1 15 k = nI (D.fr k) := fun k hk => hD.fr k hk
  have mS : ∀ k, k < S.N → σ.1 5 k = nI (S.K k).length := fun k hk => hS.mn k hk
  have mD : ∀ k, k < D.N → σ.1 18 k = nI (D.K k).length := fun k hk => hD.mn k hk
  intro n
  induction n with
  | zero => intro d v i h1 h2; omega
  | succ n ih =>
    intro d v i h1 h2 hv hi post hp
    have kv := hWS.kd v hv
    have ki := hWD.kd i hi
    have lv := len_K hWS hv
    have li := len_K hWD hi
    show wqf_Vd_isSame (wd_Vd_isSame n) (nI v) (nI i) (nI d) σ post
    unfold wqf_Vd_isSame
    refine ex_s ?_
    show ∃ m, wb_Vd_isSame_0 (wd_Vd_isSame n) (wp_Vd_isSame (wd_Vd_isSame n) post m) post (nI v) (nI i) (nI d) σ
    simp (disch := omega) only [wb_Vd_isSame_0, kS v hv, kD i hi, nS v hv, nD i hi, fS v hv, fD i hi, mS v hv, mD i hi, litI, n_le, n_lt, n_eq, n_in, n_cl, nI_add, n_b0, n_b1, n_v0, n_v1, n_m1, n_m1', n_m1l, n_m1l', n_m1g, n_m1ge, si_1, si_2, forall_eq, not_true_eq_false, not_false_eq_true, true_imp_iff, false_imp_iff, true_and, and_true, false_and, and_false, implies_true, ite_true, ite_false, if_true, if_false, Classical.not_not, Nat.reduceEqDiff, reduceIte, Nat.add_left_cancel_iff, Nat.add_eq_left, Nat.left_eq_add, and_self, n_sub, pk_mul, eq_true (show v < 160 by omega), eq_true (show i < 80 by omega)]
    by_cases e1 : S.kd v = D.kd i
    case neg =>
      have : eqF tS lS S tD lD D (9 - d) v i = false := by
        cases h : 9 - d with
        | zero => rfl
        | succ f => show eqB _ _ _ _ _ _ _ _ _ = _; unfold eqB; rw [if_neg e1]
      rw [this] at hp
      simp only [eq_false e1, litI, n_le, n_lt, n_eq, n_in, n_cl, nI_add, n_b0, n_b1, n_v0, n_v1, n_m1, n_m1', n_m1l, n_m1l', n_m1g, n_m1ge, si_1, si_2, forall_eq, not_true_eq_false, not_false_eq_true, true_imp_iff, false_imp_iff, true_and, and_true, false_and, and_false, implies_true, ite_true, ite_false, if_true, if_false, Classical.not_not, Nat.reduceEqDiff, reduceIte, Nat.add_left_cancel_iff, Nat.add_eq_left, Nat.left_eq_add, and_self, n_sub, pk_mul]
      exact ⟨0, hp⟩
    simp only [eq_true e1, litI, n_le, n_lt, n_eq, n_in, n_cl, nI_add, n_b0, n_b1, n_v0, n_v1, n_m1, n_m1', n_m1l, n_m1l', n_m1g, n_m1ge, si_1, si_2, forall_eq, not_true_eq_false, not_false_eq_true, true_imp_iff, false_imp_iff, true_and, and_true, false_and, and_false, implies_true, ite_true, ite_false, if_true, if_false, Classical.not_not, Nat.reduceEqDiff, reduceIte, Nat.add_left_cancel_iff, Nat.add_eq_left, Nat.left_eq_add, and_self, n_sub, pk_mul]
    rcases Nat.eq_or_lt_of_le h2 with e9 | e9
    · subst e9
      exact ⟨0, fun h => absurd h (by omega), fun _ => hp⟩
    have e8 : d ≤ 8 := by omega
    obtain ⟨f, hf⟩ : ∃ f, 9 - d = f + 1 := ⟨8 - d, by omega⟩
    have hf2 : f = 9 - (d + 1) := by omega
    rw [hf] at hp
    have hp : post (nB (eqB tS lS S tD lD D (eqF tS lS S tD lD D f) v i)) σ := hp
    unfold eqB at hp
    rw [if_pos e1] at hp
    suffices hgoal : ∃ m, (¬ S.kd v = 3 → ((¬ S.kd v = 4 → (((S.K v).length = (D.K i).length → wp_Vd_isSame (wd_Vd_isSame n) post m 1 (nI v) (nI i) (nI d) (nI (S.kd v)) (nI (i + 1)) (nI 0) (nI (v + 1)) (nI 0) σ) ∧ (¬ (S.K v).length = (D.K i).length → post (nI 0) σ))) ∧ (S.kd v = 4 → wq_Tx_sameQuoted 0 13 (nI (S.fr v + 1)) (nI (D.fr i + 1)) σ fun r1 σ1 => narrow FieldType.boolean (Value.int r1) = Value.int r1 ∧ post r1 σ1))) ∧ (S.kd v = 3 → (¬ S.nu v = D.nu i → post (nI 0) σ) ∧ (S.nu v = D.nu i → post (nI 1) σ)) by
      obtain ⟨m, hm⟩ := hgoal
      exact ⟨m, fun _ => hm, fun h => absurd e8 h⟩
    by_cases e3 : S.kd v = 3
    · rw [if_pos e3] at hp
      simp only [eq_true e3, litI, n_le, n_lt, n_eq, n_in, n_cl, nI_add, n_b0, n_b1, n_v0, n_v1, n_m1, n_m1', n_m1l, n_m1l', n_m1g, n_m1ge, si_1, si_2, forall_eq, not_true_eq_false, not_false_eq_true, true_imp_iff, false_imp_iff, true_and, and_true, false_and, and_false, implies_true, ite_true, ite_false, if_true, if_false, Classical.not_not, Nat.reduceEqDiff, reduceIte, Nat.add_left_cancel_iff, Nat.add_eq_left, Nat.left_eq_add, and_self, n_sub, pk_mul]
      by_cases en : S.nu v = D.nu i
      · rw [decide_eq_true en] at hp
        simp only [eq_true en, litI, n_le, n_lt, n_eq, n_in, n_cl, nI_add, n_b0, n_b1, n_v0, n_v1, n_m1, n_m1', n_m1l, n_m1l', n_m1g, n_m1ge, si_1, si_2, forall_eq, not_true_eq_false, not_false_eq_true, true_imp_iff, false_imp_iff, true_and, and_true, false_and, and_false, implies_true, ite_true, ite_false, if_true, if_false, Classical.not_not, Nat.reduceEqDiff, reduceIte, Nat.add_left_cancel_iff, Nat.add_eq_left, Nat.left_eq_add, and_self, n_sub, pk_mul]
        exact ⟨0, hp⟩
      · rw [decide_eq_false en] at hp
        simp only [eq_false en, litI, n_le, n_lt, n_eq, n_in, n_cl, nI_add, n_b0, n_b1, n_v0, n_v1, n_m1, n_m1', n_m1l, n_m1l', n_m1g, n_m1ge, si_1, si_2, forall_eq, not_true_eq_false, not_false_eq_true, true_imp_iff, false_imp_iff, true_and, and_true, false_and, and_false, implies_true, ite_true, ite_false, if_true, if_false, Classical.not_not, Nat.reduceEqDiff, reduceIte, Nat.add_left_cancel_iff, Nat.add_eq_left, Nat.left_eq_add, and_self, n_sub, pk_mul]
        exact ⟨0, hp⟩
    rw [if_neg e3] at hp
    simp only [eq_false e3, litI, n_le, n_lt, n_eq, n_in, n_cl, nI_add, n_b0, n_b1, n_v0, n_v1, n_m1, n_m1', n_m1l, n_m1l', n_m1g, n_m1ge, si_1, si_2, forall_eq, not_true_eq_false, not_false_eq_true, true_imp_iff, false_imp_iff, true_and, and_true, false_and, and_false, implies_true, ite_true, ite_false, if_true, if_false, Classical.not_not, Nat.reduceEqDiff, reduceIte, Nat.add_left_cancel_iff, Nat.add_eq_left, Nat.left_eq_add, and_self, n_sub, pk_mul]
    by_cases e4 : S.kd v = 4
    · rw [if_pos e4] at hp
      simp only [eq_true e4, litI, n_le, n_lt, n_eq, n_in, n_cl, nI_add, n_b0, n_b1, n_v0, n_v1, n_m1, n_m1', n_m1l, n_m1l', n_m1g, n_m1ge, si_1, si_2, forall_eq, not_true_eq_false, not_false_eq_true, true_imp_iff, false_imp_iff, true_and, and_true, false_and, and_false, implies_true, ite_true, ite_false, if_true, if_false, Classical.not_not, Nat.reduceEqDiff, reduceIte, Nat.add_left_cancel_iff, Nat.add_eq_left, Nat.left_eq_add, and_self, n_sub, pk_mul]
      refine ⟨0, ?_⟩
      have q1 := hWS.fr v hv
      have q2 := hWD.fr i hi
      refine Tx_sameQuoted_r hS.t hD.t (qe_sp (by omega)) (qe_sp (by omega)) _ ?_
      rw [bI_B, nB_n]
      exact ⟨trivial, hp⟩
    rw [if_neg e4] at hp
    simp only [eq_false e4, litI, n_le, n_lt, n_eq, n_in, n_cl, nI_add, n_b0, n_b1, n_v0, n_v1, n_m1, n_m1', n_m1l, n_m1l', n_m1g, n_m1ge, si_1, si_2, forall_eq, not_true_eq_false, not_false_eq_true, true_imp_iff, false_imp_iff, true_and, and_true, false_and, and_false, implies_true, ite_true, ite_false, if_true, if_false, Classical.not_not, Nat.reduceEqDiff, reduceIte, Nat.add_left_cancel_iff, Nat.add_eq_left, Nat.left_eq_add, and_self, n_sub, pk_mul]
    by_cases el : (S.K v).length = (D.K i).length
    case neg =>
      rw [if_neg el] at hp
      simp only [eq_false el, litI, n_le, n_lt, n_eq, n_in, n_cl, nI_add, n_b0, n_b1, n_v0, n_v1, n_m1, n_m1', n_m1l, n_m1l', n_m1g, n_m1ge, si_1, si_2, forall_eq, not_true_eq_false, not_false_eq_true, true_imp_iff, false_imp_iff, true_and, and_true, false_and, and_false, implies_true, ite_true, ite_false, if_true, if_false, Classical.not_not, Nat.reduceEqDiff, reduceIte, Nat.add_left_cancel_iff, Nat.add_eq_left, Nat.left_eq_add, and_self, n_sub, pk_mul]
      exact ⟨0, hp⟩
    rw [if_pos el] at hp
    simp only [eq_true el, litI, n_le, n_lt, n_eq, n_in, n_cl, nI_add, n_b0, n_b1, n_v0, n_v1, n_m1, n_m1', n_m1l, n_m1l', n_m1g, n_m1ge, si_1, si_2, forall_eq, not_true_eq_false, not_false_eq_true, true_imp_iff, false_imp_iff, true_and, and_true, false_and, and_false, implies_true, ite_true, ite_false, if_true, if_false, Classical.not_not, Nat.reduceEqDiff, reduceIte, Nat.add_left_cancel_iff, Nat.add_eq_left, Nat.left_eq_add, and_self, n_sub, pk_mul]
    -- the loop
    have key : ∀ (ls ms : List Nat) (x5 x7 : Int32) (k : Nat), k + ls.length = (S.K v).length → ls.length = ms.length → (∀ x ∈ ls, x ∈ S.K v) → (∀ y ∈ ms, y ∈ D.K i) → chB (σ.1 8) x7 ls → chB (σ.1 21) x5 ms →
        post (nB (if S.kd v = 6 then ls.all (fun x => match dch tS lS S tD lD D i x with | some y => eqF tS lS S tD lD D f x y | none => false) else all2 (eqF tS lS S tD lD D f) ls ms)) σ → ∃ m, wp_Vd_isSame (wd_Vd_isSame n) post m 1 (nI v) (nI i) (nI d) (nI (S.kd v)) x5 (nI k) x7 0 σ := by
      intro ls
      induction ls with
      | nil =>
        intro ms x5 x7 k hk _ _ _ _ _ hp
        have hp : post (nB true) σ := by
          have e : (if S.kd v = 6 then ([] : List Nat).all (fun x => match dch tS lS S tD lD D i x with | some y => eqF tS lS S tD lD D f x y | none => false) else all2 (eqF tS lS S tD lD D f) [] ms) = true := by
            split
            · rfl
            · cases ms <;> rfl
          rw [e] at hp; exact hp
        refine ⟨1, ?_⟩
        show wb_Vd_isSame_1 (wd_Vd_isSame n) (wp_Vd_isSame (wd_Vd_isSame n) post 0) post (nI v) (nI i) (nI d) (nI (S.kd v)) x5 (nI k) x7 σ
        simp at hk
        simp (disch := omega) only [wb_Vd_isSame_1, litI, n_le, n_lt, n_eq, n_in, n_cl, nI_add, n_b0, n_b1, n_v0, n_v1, n_m1, n_m1', n_m1l, n_m1l', n_m1g, n_m1ge, si_1, si_2, forall_eq, not_true_eq_false, not_false_eq_true, true_imp_iff, false_imp_iff, true_and, and_true, false_and, and_false, implies_true, ite_true, ite_false, if_true, if_false, Classical.not_not, Nat.reduceEqDiff, reduceIte, Nat.add_left_cancel_iff, Nat.add_eq_left, Nat.left_eq_add, and_self, n_sub, pk_mul, eq_true (show v < 160 by omega), mS v hv, hk, Nat.le_refl]
        exact hp
      | cons x ls ihl =>
        intro ms x5 x7 k hk hlm hx hy hB hB2 hp
        cases ms with
        | nil => simp at hlm
        | cons y ms =>
          obtain ⟨b1, b2⟩ := hB
          obtain ⟨c1, c2⟩ := hB2
          subst b1; subst c1
          have hxK := hx x (List.mem_cons_self ..)
          have hyK := hy y (List.mem_cons_self ..)
          have hx1 := hWS.ch v hv x hxK
          have hy1 := hWD.ch i hi y hyK
          simp at hk hlm
          -- what the second block asks, given the child
          have blk2 : ∀ (o : Option Nat), (∀ z, o = some z → z < D.N) → (∀ (r : Bool), r = (match o with | some z => eqF tS lS S tD lD D f x z | none => false) → (r = false → post (nB false) σ) ∧ (r = true → ∃ m, wp_Vd_isSame (wd_Vd_isSame n) post m 1 (nI v) (nI i) (nI d) (nI (S.kd v)) (σ.1 21 y) (nI (k + 1)) (σ.1 8 x) 0 σ)) →
              ∃ m, wp_Vd_isSame (wd_Vd_isSame n) post m 2 (nI v) (nI i) (nI d) (nI (S.kd v)) (nI y) (nI k) (nI x) (oI o) σ := by
            intro o ho hr
            cases o with
            | none =>
              refine ⟨1, ?_⟩
              show wb_Vd_isSame_2 (wd_Vd_isSame n) (wp_Vd_isSame (wd_Vd_isSame n) post 0) post (nI v) (nI i) (nI d) (nI (S.kd v)) (nI y) (nI k) (nI x) (-nI 1) σ
              simp (disch := omega) only [wb_Vd_isSame_2, show (-1 : Int32) = -nI 1 from rfl, litI, n_le, n_lt, n_eq, n_in, n_cl, nI_add, n_b0, n_b1, n_v0, n_v1, n_m1, n_m1', n_m1l, n_m1l', n_m1g, n_m1ge, si_1, si_2, forall_eq, not_true_eq_false, not_false_eq_true, true_imp_iff, false_imp_iff, true_and, and_true, false_and, and_false, implies_true, ite_true, ite_false, if_true, if_false, Classical.not_not, Nat.reduceEqDiff, reduceIte, Nat.add_left_cancel_iff, Nat.add_eq_left, Nat.left_eq_add, and_self, n_sub, pk_mul]
              exact (hr false rfl).1 rfl
            | some z =>
              have hz := ho z rfl
              have hrec := ih (d + 1) x z (by omega) (by omega) hx1.2.1 hz
              rw [← hf2] at hrec
              cases hq : eqF tS lS S tD lD D f x z with
              | false =>
                rw [hq] at hrec
                refine ⟨1, ?_⟩
                show wb_Vd_isSame_2 (wd_Vd_isSame n) (wp_Vd_isSame (wd_Vd_isSame n) post 0) post (nI v) (nI i) (nI d) (nI (S.kd v)) (nI y) (nI k) (nI x) (nI z) σ
                simp (disch := omega) only [wb_Vd_isSame_2, show (-1 : Int32) = -nI 1 from rfl, litI, n_le, n_lt, n_eq, n_in, n_cl, nI_add, n_b0, n_b1, n_v0, n_v1, n_m1, n_m1', n_m1l, n_m1l', n_m1g, n_m1ge, si_1, si_2, forall_eq, not_true_eq_false, not_false_eq_true, true_imp_iff, false_imp_iff, true_and, and_true, false_and, and_false, implies_true, ite_true, ite_false, if_true, if_false, Classical.not_not, Nat.reduceEqDiff, reduceIte, Nat.add_left_cancel_iff, Nat.add_eq_left, Nat.left_eq_add, and_self, n_sub, pk_mul]
                refine hrec _ ?_
                simp only [nB_0, litI, n_le, n_lt, n_eq, n_in, n_cl, nI_add, n_b0, n_b1, n_v0, n_v1, n_m1, n_m1', n_m1l, n_m1l', n_m1g, n_m1ge, si_1, si_2, forall_eq, not_true_eq_false, not_false_eq_true, true_imp_iff, false_imp_iff, true_and, and_true, false_and, and_false, implies_true, ite_true, ite_false, if_true, if_false, Classical.not_not, Nat.reduceEqDiff, reduceIte, Nat.add_left_cancel_iff, Nat.add_eq_left, Nat.left_eq_add, and_self, n_sub, pk_mul]
                exact (hr false hq.symm).1 rfl
              | true =>
                rw [hq] at hrec
                obtain ⟨m, hm⟩ := (hr true hq.symm).2 rfl
                refine ⟨m + 1, ?_⟩
                show wb_Vd_isSame_2 (wd_Vd_isSame n) (wp_Vd_isSame (wd_Vd_isSame n) post m) post (nI v) (nI i) (nI d) (nI (S.kd v)) (nI y) (nI k) (nI x) (nI z) σ
                simp (disch := omega) only [wb_Vd_isSame_2, show (-1 : Int32) = -nI 1 from rfl, litI, n_le, n_lt, n_eq, n_in, n_cl, nI_add, n_b0, n_b1, n_v0, n_v1, n_m1, n_m1', n_m1l, n_m1l', n_m1g, n_m1ge, si_1, si_2, forall_eq, not_true_eq_false, not_false_eq_true, true_imp_iff, false_imp_iff, true_and, and_true, false_and, and_false, implies_true, ite_true, ite_false, if_true, if_false, Classical.not_not, Nat.reduceEqDiff, reduceIte, Nat.add_left_cancel_iff, Nat.add_eq_left, Nat.left_eq_add, and_self, n_sub, pk_mul]
                refine hrec _ ?_
                simp (disch := omega) only [nB_0, litI, n_le, n_lt, n_eq, n_in, n_cl, nI_add, n_b0, n_b1, n_v0, n_v1, n_m1, n_m1', n_m1l, n_m1l', n_m1g, n_m1ge, si_1, si_2, forall_eq, not_true_eq_false, not_false_eq_true, true_imp_iff, false_imp_iff, true_and, and_true, false_and, and_false, implies_true, ite_true, ite_false, if_true, if_false, Classical.not_not, Nat.reduceEqDiff, reduceIte, Nat.add_left_cancel_iff, Nat.add_eq_left, Nat.left_eq_add, and_self, n_sub, pk_mul, Bool.true_eq_false, eq_true (show y < 80 by omega), eq_true (show x < 160 by omega)]
                exact hm
          by_cases e6 : S.kd v = 6
          · rw [if_pos e6] at hp
            have hnx := nm_o hWS hv e6 hxK
            have h6 : σ.1 6 x = nI (nmo S x) := by have := hS.nm x hx1.2.1; rw [hnx.1] at this; exact this
            have hcn := cn_c (b1 := 0) (tx1 := tS) (g := nmo S x + 1) (e1 := qe tS lS (nmo S x + 1)) hD hWD hS.t hi (by show 0 < 2; omega) (by show D.N ≤ 80; exact hND) (qe_sp (by omega))
            obtain ⟨m, hm⟩ := blk2 (dch tS lS S tD lD D i x) (fun z hz => cnd_lt2 hWD hi hz) (fun r hr => by
              refine ⟨fun q => ?_, fun q => ?_⟩
              · rw [List.all_cons, ← hr, q] at hp; exact hp
              · rw [List.all_cons, ← hr, q] at hp
                exact ihl ms _ _ (k + 1) (by omega) hlm (fun a ha => hx a (List.mem_cons_of_mem _ ha)) (fun a ha => hy a (List.mem_cons_of_mem _ ha)) b2 c2 (by rw [if_pos e6]; exact hp))
            refine ⟨m + 1, ?_⟩
            show wb_Vd_isSame_1 (wd_Vd_isSame n) (wp_Vd_isSame (wd_Vd_isSame n) post m) post (nI v) (nI i) (nI d) (nI (S.kd v)) (nI y) (nI k) (nI x) σ
            simp (disch := omega) only [wb_Vd_isSame_1, litI, n_le, n_lt, n_eq, n_in, n_cl, nI_add, n_b0, n_b1, n_v0, n_v1, n_m1, n_m1', n_m1l, n_m1l', n_m1g, n_m1ge, si_1, si_2, forall_eq, not_true_eq_false, not_false_eq_true, true_imp_iff, false_imp_iff, true_and, and_true, false_and, and_false, implies_true, ite_true, ite_false, if_true, if_false, Classical.not_not, Nat.reduceEqDiff, reduceIte, Nat.add_left_cancel_iff, Nat.add_eq_left, Nat.left_eq_add, and_self, n_sub, pk_mul, eq_true (show v < 160 by omega), mS v hv, eq_false (show ¬ (S.K v).length ≤ k by omega), eq_true e6, eq_true (show x < 160 by omega), h6]
            exact hcn _ hm
          · rw [if_neg e6] at hp
            obtain ⟨m, hm⟩ := blk2 (some y) (fun z hz => by injection hz with hz; subst hz; exact hy1.2.1) (fun r hr => by
              have hr : r = eqF tS lS S tD lD D f x y := hr
              unfold all2 at hp
              refine ⟨fun q => ?_, fun q => ?_⟩
              · rw [← hr, q] at hp; exact hp
              · rw [← hr, q] at hp
                exact ihl ms _ _ (k + 1) (by omega) hlm (fun a ha => hx a (List.mem_cons_of_mem _ ha)) (fun a ha => hy a (List.mem_cons_of_mem _ ha)) b2 c2 (by rw [if_neg e6]; exact hp))
            refine ⟨m + 1, ?_⟩
            show wb_Vd_isSame_1 (wd_Vd_isSame n) (wp_Vd_isSame (wd_Vd_isSame n) post m) post (nI v) (nI i) (nI d) (nI (S.kd v)) (nI y) (nI k) (nI x) σ
            simp (disch := omega) only [wb_Vd_isSame_1, litI, n_le, n_lt, n_eq, n_in, n_cl, nI_add, n_b0, n_b1, n_v0, n_v1, n_m1, n_m1', n_m1l, n_m1l', n_m1g, n_m1ge, si_1, si_2, forall_eq, not_true_eq_false, not_false_eq_true, true_imp_iff, false_imp_iff, true_and, and_true, false_and, and_false, implies_true, ite_true, ite_false, if_true, if_false, Classical.not_not, Nat.reduceEqDiff, reduceIte, Nat.add_left_cancel_iff, Nat.add_eq_left, Nat.left_eq_add, and_self, n_sub, pk_mul, eq_true (show v < 160 by omega), mS v hv, eq_false (show ¬ (S.K v).length ≤ k by omega), eq_false e6]
            exact hm
    exact key (S.K v) (D.K i) _ _ 0 (by omega) el (fun x h => h) (fun y h => h) (hS.ch v hv) (hD.ch i hi) hp
end SE
