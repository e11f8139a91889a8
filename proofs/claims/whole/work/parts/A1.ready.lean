def nB (b : Bool) : Int32 := nI b.toNat
theorem nB_0 (b : Bool) : nB b = nI 0 ↔ b = false := by cases b <;> decide +kernel
theorem nB_n (b : Bool) : (narrow .boolean (.int (nB b)) = .int (nB b)) ↔ True := ⟨fun _ => trivial, fun _ => by cases b <;> decide +kernel⟩
theorem all_app {P : Nat → Bool} {l : List Nat} {c : Nat} : (l ++ [c]).all P = (l.all P && P c) := by simp
theorem all_spl {P : Nat → Bool} {l pre suf : List Nat} {c : Nat} (h : l = pre ++ c :: suf) (hc : P c = false) : l.all P = false := by
  rw [h]; simp [hc]
section RD
variable {tx : Nat → Nat} {len : Nat} {G : TG}
/-- v leads only to what is placed -/
noncomputable def LPb (tx : Nat → Nat) (len : Nat) (G : TG) (pl : Nat → Bool) (v : Nat) : Bool :=
  if wrd tx len G v = 15 ∨ wrd tx len G v = 16 ∨ wrd tx len G v = 17 then (if G.kd v = 5 then (G.K v).all pl else true) else if wrd tx len G v = 18 then pl v else if wrd tx len G v = 19 then (match tgt tx len G v with
    | none => true
    | some x => pl x) else true
theorem LPb_Dp (hW : WG len G) {pl : Nat → Bool} {s : Nat} (hs : s < G.N) (h6 : G.kd s = 6) : (G.K s).all (LPb tx len G pl) = true ↔ ∀ x, Dp tx len G s x → pl x = true := by
  rw [List.all_eq_true]
  constructor
  · rintro h x (⟨w, v, w1, w2, hr, hk, hx⟩ | hr | ⟨v, hr, ht⟩)
    · have hv := (rul_mem hr).2
      have e := (rul_wrd hW hs h6 hv (by omega)).mpr hr
      have := h v hv
      unfold LPb at this
      rw [if_pos (by omega), if_pos hk, List.all_eq_true] at this
      exact this x hx
    · have hv := (rul_mem hr).2
      have e := (rul_wrd hW hs h6 hv (by omega)).mpr hr
      have := h x hv
      unfold LPb at this
      rw [if_neg (by omega), if_pos e] at this
      exact this
    · have hv := (rul_mem hr).2
      have e := (rul_wrd hW hs h6 hv (by omega)).mpr hr
      have := h v hv
      unfold LPb at this
      rw [if_neg (by omega), if_neg (by omega), if_pos e] at this
      have e2 : tgt tx len G v = some x := by unfold tgt; rw [if_pos e]; exact ht
      rw [e2] at this; exact this
  · intro h v hv
    unfold LPb
    split
    · rename_i hw
      split
      · rename_i h5
        rw [List.all_eq_true]
        intro x hx
        refine h x (Or.inl ⟨wrd tx len G v, v, by omega, by omega, (rul_wrd hW hs h6 hv (by omega)).mp rfl, h5, hx⟩)
      · rfl
    · split
      · rename_i hw
        exact h v (Or.inr (Or.inl ((rul_wrd hW hs h6 hv (by omega)).mp hw)))
      · split
        · rename_i hw
          cases ht : tgt tx len G v with
          | none => rfl
          | some x =>
            refine h x (Or.inr (Or.inr ⟨v, (rul_wrd hW hs h6 hv (by omega)).mp hw, ?_⟩))
            unfold tgt at ht; rw [if_pos hw] at ht; exact ht
        · rfl
theorem Pl_areAllPlaced_r {σ : Sg} {pl : Nat → Bool} (hC : CI 0 σ len tx G op0) (hW : WG len G) {s : Nat} (hs : s < G.N) (hN : G.N ≤ 160) (h34 : ∀ x, x < G.N → σ.1 34 x = nB (pl x)) : Ri (wq_Pl_areAllPlaced (nI s) σ) (nB ((G.K s).all pl)) σ := by
  intro post hp
  have hl := len_K hW hs
  have h5 : σ.1 5 s = nI (G.K s).length := hC.mn s hs
  unfold wq_Pl_areAllPlaced
  refine ex_s ?_
  simp only [wp_Pl_areAllPlaced, wb_Pl_areAllPlaced_0, litI, n_le, n_lt, n_eq, n_in, n_cl, nI_add, n_b0, n_b1, n_v0, n_v1, n_m1, n_m1', n_m1l, n_m1l', n_m1g, n_m1ge, si_1, si_2, forall_eq, not_true_eq_false, not_false_eq_true, true_imp_iff, false_imp_iff, true_and, and_true, false_and, and_false, implies_true, ite_true, ite_false, if_true, if_false, Classical.not_not, Nat.reduceEqDiff, reduceIte, Nat.add_left_cancel_iff, Nat.add_eq_left, Nat.left_eq_add, and_self, n_sub, pk_mul]
  refine loopC0 (G.K s) (fun n i x => wp_Pl_areAllPlaced post n 1 (nI s) (nI i) x σ) (fun pre => pre.all pl = true) (hC.ch s hs) (by simp) ?_ ?_
  · intro x hi
    rw [hi] at hp
    refine ⟨1, ?_⟩
    simp (disch := omega) only [wp_Pl_areAllPlaced, wb_Pl_areAllPlaced_1, litI, n_le, n_lt, n_eq, n_in, n_cl, nI_add, n_b0, n_b1, n_v0, n_v1, n_m1, n_m1', n_m1l, n_m1l', n_m1g, n_m1ge, si_1, si_2, forall_eq, not_true_eq_false, not_false_eq_true, true_imp_iff, false_imp_iff, true_and, and_true, false_and, and_false, implies_true, ite_true, ite_false, if_true, if_false, Classical.not_not, Nat.reduceEqDiff, reduceIte, Nat.add_left_cancel_iff, Nat.add_eq_left, Nat.left_eq_add, and_self, n_sub, pk_mul, h5, eq_true (show s < 160 by omega), Nat.le_refl]
    exact hp
  · intro pre c suf hK hi ih
    have hc : c ∈ G.K s := by rw [hK]; simp
    have hcN := (hW.ch s hs c hc).2.1
    have hln : (G.K s).length = pre.length + suf.length + 1 := by rw [hK]; simp; omega
    cases q : pl c with
    | false =>
      rw [all_spl hK q] at hp
      refine ⟨1, ?_⟩
      simp (disch := omega) only [wp_Pl_areAllPlaced, wb_Pl_areAllPlaced_1, litI, n_le, n_lt, n_eq, n_in, n_cl, nI_add, n_b0, n_b1, n_v0, n_v1, n_m1, n_m1', n_m1l, n_m1l', n_m1g, n_m1ge, si_1, si_2, forall_eq, not_true_eq_false, not_false_eq_true, true_imp_iff, false_imp_iff, true_and, and_true, false_and, and_false, implies_true, ite_true, ite_false, if_true, if_false, Classical.not_not, Nat.reduceEqDiff, reduceIte, Nat.add_left_cancel_iff, Nat.add_eq_left, Nat.left_eq_add, and_self, n_sub, pk_mul, h5, eq_true (show s < 160 by omega), eq_true (show c < 160 by omega), eq_false (show ¬ (G.K s).length ≤ pre.length by omega), h34 c hcN, nB_0, q]
      exact hp
    | true =>
      obtain ⟨n, hn⟩ := ih (by rw [all_app, hi, q]; rfl)
      refine ⟨n + 1, ?_⟩
      show wb_Pl_areAllPlaced_1 (wp_Pl_areAllPlaced post n) post (nI s) (nI pre.length) (nI c) σ
      simp (disch := omega) only [wb_Pl_areAllPlaced_1, litI, n_le, n_lt, n_eq, n_in, n_cl, nI_add, n_b0, n_b1, n_v0, n_v1, n_m1, n_m1', n_m1l, n_m1l', n_m1g, n_m1ge, si_1, si_2, forall_eq, not_true_eq_false, not_false_eq_true, true_imp_iff, false_imp_iff, true_and, and_true, false_and, and_false, implies_true, ite_true, ite_false, if_true, if_false, Classical.not_not, Nat.reduceEqDiff, reduceIte, Nat.add_left_cancel_iff, Nat.add_eq_left, Nat.left_eq_add, and_self, n_sub, pk_mul, h5, eq_true (show s < 160 by omega), eq_true (show c < 160 by omega), eq_false (show ¬ (G.K s).length ≤ pre.length by omega), h34 c hcN, nB_0, q, Bool.true_eq_false]
      exact hn
/-- the class's plan but for the order -/
abbrev PC (tx : Nat → Nat) (len : Nat) (G : TG) (σ : Sg) : Prop := (∀ k, k < G.N → σ.1 30 k = nI (wrd tx len G k)) ∧ (∀ k, k < G.N → σ.1 31 k = oI (tgt tx len G k)) ∧ (∀ k, k < G.N → σ.1 32 k = oI (prp tx len G k))
theorem PC.w {tx : Nat → Nat} {len : Nat} {G : TG} {σ : Sg} (hX : PC tx len G σ) : ∀ k, k < G.N → σ.1 30 k = nI (wrd tx len G k) := hX.1
theorem PC.t {tx : Nat → Nat} {len : Nat} {G : TG} {σ : Sg} (hX : PC tx len G σ) : ∀ k, k < G.N → σ.1 31 k = oI (tgt tx len G k) := hX.2.1
theorem PC.p {tx : Nat → Nat} {len : Nat} {G : TG} {σ : Sg} (hX : PC tx len G σ) : ∀ k, k < G.N → σ.1 32 k = oI (prp tx len G k) := hX.2.2
theorem tgt_lt (hW : WG len G) {k x : Nat} (hk : k < G.N) (h : tgt tx len G k = some x) : x < G.N := by
  unfold tgt at h; split at h
  · exact mtg_lt hW hk h
  · cases h
theorem Pl_leadsToPlaced_r {σ : Sg} {pl : Nat → Bool} (hC : CI 0 σ len tx G op0) (hW : WG len G) (hP : PC tx len G σ) {v : Nat} (hv : v < G.N) (hN : G.N ≤ 160) (h34 : ∀ x, x < G.N → σ.1 34 x = nB (pl x)) : Ri (wq_Pl_leadsToPlaced (nI v) σ) (nB (LPb tx len G pl v)) σ := by
  intro post hp
  have hwl := wrd_le (tx := tx) (len := len) (G := G) (c := v)
  have hkd := hW.kd v hv
  have h1 : σ.1 1 v = nI (G.kd v) := hC.kd v hv (by show 0 < 2; omega)
  have haa := Pl_areAllPlaced_r hC hW hv hN h34
  have arr : (wrd tx len G v = 15 ∨ wrd tx len G v = 16 ∨ wrd tx len G v = 17) → ((¬ G.kd v = 5 → post (nI 1) σ) ∧ (G.kd v = 5 → wq_Pl_areAllPlaced (nI v) σ (fun r1 σ1 => (r1 = nI 0 → post (nI 0) σ1) ∧ (¬ r1 = nI 0 → post (nI 1) σ1)))) := by
    intro hw
    unfold LPb at hp
    rw [if_pos hw] at hp
    refine ⟨fun q => ?_, fun q => ?_⟩
    · rw [if_neg q] at hp; exact hp
    · rw [if_pos q] at hp
      refine haa _ ?_
      simp only [nB_0]
      cases hq : (G.K v).all pl with
      | false => rw [hq] at hp; exact ⟨fun _ => hp, fun r => absurd rfl r⟩
      | true => rw [hq] at hp; exact ⟨fun r => (by cases r), fun _ => hp⟩
  unfold wq_Pl_leadsToPlaced
  simp (disch := omega) only [litI, n_le, n_lt, n_eq, n_in, n_cl, nI_add, n_b0, n_b1, n_v0, n_v1, n_m1, n_m1', n_m1l, n_m1l', n_m1g, n_m1ge, si_1, si_2, forall_eq, not_true_eq_false, not_false_eq_true, true_imp_iff, false_imp_iff, true_and, and_true, false_and, and_false, implies_true, ite_true, ite_false, if_true, if_false, Classical.not_not, Nat.reduceEqDiff, reduceIte, Nat.add_left_cancel_iff, Nat.add_eq_left, Nat.left_eq_add, and_self, n_sub, pk_mul, hP.w v hv, h1, eq_true (show v < 160 by omega), h34 v hv, nB_n]
  refine ⟨fun q => ?_, fun q => ?_, fun q => ?_, fun q => ?_, fun q => ?_, fun q => ?_⟩
  · exact arr (by omega)
  · exact arr (by omega)
  · exact arr (by omega)
  · unfold LPb at hp; rw [if_neg (by omega), if_pos q] at hp; exact hp
  · unfold LPb at hp
    rw [if_neg (by omega), if_neg (by omega), if_pos q] at hp
    cases ht : tgt tx len G v with
    | none =>
      rw [ht] at hp
      simp (disch := omega) only [hP.t v hv, ht, oI, show (-1 : Int32) = -nI 1 from rfl, litI, n_le, n_lt, n_eq, n_in, n_cl, nI_add, n_b0, n_b1, n_v0, n_v1, n_m1, n_m1', n_m1l, n_m1l', n_m1g, n_m1ge, si_1, si_2, forall_eq, not_true_eq_false, not_false_eq_true, true_imp_iff, false_imp_iff, true_and, and_true, false_and, and_false, implies_true, ite_true, ite_false, if_true, if_false, Classical.not_not, Nat.reduceEqDiff, reduceIte, Nat.add_left_cancel_iff, Nat.add_eq_left, Nat.left_eq_add, and_self, n_sub, pk_mul]
      exact hp
    | some x =>
      have hx := tgt_lt hW hv ht
      rw [ht] at hp
      simp (disch := omega) only [hP.t v hv, ht, oI, show (-1 : Int32) = -nI 1 from rfl, litI, n_le, n_lt, n_eq, n_in, n_cl, nI_add, n_b0, n_b1, n_v0, n_v1, n_m1, n_m1', n_m1l, n_m1l', n_m1g, n_m1ge, si_1, si_2, forall_eq, not_true_eq_false, not_false_eq_true, true_imp_iff, false_imp_iff, true_and, and_true, false_and, and_false, implies_true, ite_true, ite_false, if_true, if_false, Classical.not_not, Nat.reduceEqDiff, reduceIte, Nat.add_left_cancel_iff, Nat.add_eq_left, Nat.left_eq_add, and_self, n_sub, pk_mul, eq_true (show x < 160 by omega), h34 x hx, nB_0]
      cases hq : pl x with
      | false => simp only [hq] at hp; exact ⟨fun _ => hp, fun r => absurd rfl r⟩
      | true => simp only [hq] at hp; exact ⟨fun r => (by cases r), fun _ => hp⟩
  · unfold LPb at hp; rw [if_neg (by omega), if_neg (by omega), if_neg (by omega)] at hp; exact hp
theorem Pl_isReady_r {σ : Sg} {pl : Nat → Bool} (hC : CI 0 σ len tx G op0) (hW : WG len G) (hP : PC tx len G σ) {s : Nat} (hs : s < G.N) (hN : G.N ≤ 160) (h34 : ∀ x, x < G.N → σ.1 34 x = nB (pl x)) : Ri (wq_Pl_isReady (nI s) σ) (nB ((G.K s).all (LPb tx len G pl))) σ := by
  intro post hp
  have hl := len_K hW hs
  have h5 : σ.1 5 s = nI (G.K s).length := hC.mn s hs
  unfold wq_Pl_isReady
  refine ex_s ?_
  simp only [wp_Pl_isReady, wb_Pl_isReady_0, litI, n_le, n_lt, n_eq, n_in, n_cl, nI_add, n_b0, n_b1, n_v0, n_v1, n_m1, n_m1', n_m1l, n_m1l', n_m1g, n_m1ge, si_1, si_2, forall_eq, not_true_eq_false, not_false_eq_true, true_imp_iff, false_imp_iff, true_and, and_true, false_and, and_false, implies_true, ite_true, ite_false, if_true, if_false, Classical.not_not, Nat.reduceEqDiff, reduceIte, Nat.add_left_cancel_iff, Nat.add_eq_left, Nat.left_eq_add, and_self, n_sub, pk_mul]
  refine loopC0 (G.K s) (fun n i x => wp_Pl_isReady post n 1 (nI s) (nI i) x σ) (fun pre => pre.all (LPb tx len G pl) = true) (hC.ch s hs) (by simp) ?_ ?_
  · intro x hi
    rw [hi] at hp
    refine ⟨1, ?_⟩
    simp (disch := omega) only [wp_Pl_isReady, wb_Pl_isReady_1, litI, n_le, n_lt, n_eq, n_in, n_cl, nI_add, n_b0, n_b1, n_v0, n_v1, n_m1, n_m1', n_m1l, n_m1l', n_m1g, n_m1ge, si_1, si_2, forall_eq, not_true_eq_false, not_false_eq_true, true_imp_iff, false_imp_iff, true_and, and_true, false_and, and_false, implies_true, ite_true, ite_false, if_true, if_false, Classical.not_not, Nat.reduceEqDiff, reduceIte, Nat.add_left_cancel_iff, Nat.add_eq_left, Nat.left_eq_add, and_self, n_sub, pk_mul, h5, eq_true (show s < 160 by omega), Nat.le_refl]
    exact hp
  · intro pre c suf hK hi ih
    have hc : c ∈ G.K s := by rw [hK]; simp
    have hcN := (hW.ch s hs c hc).2.1
    have hln : (G.K s).length = pre.length + suf.length + 1 := by rw [hK]; simp; omega
    have hld := Pl_leadsToPlaced_r hC hW hP hcN hN h34
    cases q : LPb tx len G pl c with
    | false =>
      rw [all_spl hK q] at hp
      rw [q] at hld
      refine ⟨1, ?_⟩
      simp (disch := omega) only [wp_Pl_isReady, wb_Pl_isReady_1, litI, n_le, n_lt, n_eq, n_in, n_cl, nI_add, n_b0, n_b1, n_v0, n_v1, n_m1, n_m1', n_m1l, n_m1l', n_m1g, n_m1ge, si_1, si_2, forall_eq, not_true_eq_false, not_false_eq_true, true_imp_iff, false_imp_iff, true_and, and_true, false_and, and_false, implies_true, ite_true, ite_false, if_true, if_false, Classical.not_not, Nat.reduceEqDiff, reduceIte, Nat.add_left_cancel_iff, Nat.add_eq_left, Nat.left_eq_add, and_self, n_sub, pk_mul, h5, eq_true (show s < 160 by omega), eq_false (show ¬ (G.K s).length ≤ pre.length by omega)]
      refine hld _ ?_
      simp only [nB_0, litI, n_le, n_lt, n_eq, n_in, n_cl, nI_add, n_b0, n_b1, n_v0, n_v1, n_m1, n_m1', n_m1l, n_m1l', n_m1g, n_m1ge, si_1, si_2, forall_eq, not_true_eq_false, not_false_eq_true, true_imp_iff, false_imp_iff, true_and, and_true, false_and, and_false, implies_true, ite_true, ite_false, if_true, if_false, Classical.not_not, Nat.reduceEqDiff, reduceIte, Nat.add_left_cancel_iff, Nat.add_eq_left, Nat.left_eq_add, and_self, n_sub, pk_mul]
      exact hp
    | true =>
      obtain ⟨n, hn⟩ := ih (by rw [all_app, hi, q]; rfl)
      rw [q] at hld
      refine ⟨n + 1, ?_⟩
      show wb_Pl_isReady_1 (wp_Pl_isReady post n) post (nI s) (nI pre.length) (nI c) σ
      simp (disch := omega) only [wb_Pl_isReady_1, litI, n_le, n_lt, n_eq, n_in, n_cl, nI_add, n_b0, n_b1, n_v0, n_v1, n_m1, n_m1', n_m1l, n_m1l', n_m1g, n_m1ge, si_1, si_2, forall_eq, not_true_eq_false, not_false_eq_true, true_imp_iff, false_imp_iff, true_and, and_true, false_and, and_false, implies_true, ite_true, ite_false, if_true, if_false, Classical.not_not, Nat.reduceEqDiff, reduceIte, Nat.add_left_cancel_iff, Nat.add_eq_left, Nat.left_eq_add, and_self, n_sub, pk_mul, h5, eq_true (show s < 160 by omega), eq_false (show ¬ (G.K s).length ≤ pre.length by omega)]
      refine hld _ ?_
      simp (disch := omega) only [nB_0, litI, n_le, n_lt, n_eq, n_in, n_cl, nI_add, n_b0, n_b1, n_v0, n_v1, n_m1, n_m1', n_m1l, n_m1l', n_m1g, n_m1ge, si_1, si_2, forall_eq, not_true_eq_false, not_false_eq_true, true_imp_iff, false_imp_iff, true_and, and_true, false_and, and_false, implies_true, ite_true, ite_false, if_true, if_false, Classical.not_not, Nat.reduceEqDiff, reduceIte, Nat.add_left_cancel_iff, Nat.add_eq_left, Nat.left_eq_add, and_self, n_sub, pk_mul, Bool.true_eq_false, eq_true (show c < 160 by omega)]
      exact hn
/-- lists in which each is behind what it needs -/
abbrev OL (dp : Nat → Nat → Prop) (N : Nat) (o q : Nat → Prop) (L : List Nat) : Prop := (L.Nodup) ∧ (∀ s ∈ L, s < N ∧ o s) ∧ (∀ A s B, L = A ++ s :: B → ∀ x, dp s x → q x ∨ x ∈ A)
theorem OL.nd {dp : Nat → Nat → Prop} {N : Nat} {o q : Nat → Prop} {L : List Nat} (hX : OL dp N o q L) : L.Nodup := hX.1
theorem OL.lt {dp : Nat → Nat → Prop} {N : Nat} {o q : Nat → Prop} {L : List Nat} (hX : OL dp N o q L) : ∀ s ∈ L, s < N ∧ o s := hX.2.1
theorem OL.tp {dp : Nat → Nat → Prop} {N : Nat} {o q : Nat → Prop} {L : List Nat} (hX : OL dp N o q L) : ∀ A s B, L = A ++ s :: B → ∀ x, dp s x → q x ∨ x ∈ A := hX.2.2
def Mx (dp : Nat → Nat → Prop) (N : Nat) (o q : Nat → Prop) (L : List Nat) : Prop := ∀ s, s < N → o s → s ∉ L → ¬ ∀ x, dp s x → q x ∨ x ∈ L
theorem OL_add {dp : Nat → Nat → Prop} {N : Nat} {o q : Nat → Prop} {L : List Nat} {s : Nat} (h : OL dp N o q L) (hs : s < N) (ho : o s) (hn : s ∉ L) (hr : ∀ x, dp s x → q x ∨ x ∈ L) : OL dp N o q (L ++ [s]) := by
  refine ⟨List.nodup_append.mpr ⟨h.nd, by simp, fun a ha b hb => by simp at hb; subst hb; exact fun e => hn (e ▸ ha)⟩, fun x hx => ?_, fun A y B he x hx => ?_⟩
  · rcases List.mem_append.mp hx with r | r
    · exact h.lt x r
    · simp at r; subst r; exact ⟨hs, ho⟩
  · rcases List.append_eq_append_iff.mp he with ⟨M, h1, h2⟩ | ⟨M, h1, h2⟩
    · cases M with
      | nil => simp at h1 h2; subst h1; obtain ⟨h2, _⟩ := h2; subst h2; exact hr x hx
      | cons m M =>
        exfalso
        have := congrArg List.length h2; simp at this
    · cases M with
      | nil => simp at h1 h2; subst h1; obtain ⟨h2, _⟩ := h2; subst h2; exact hr x hx
      | cons m M =>
        simp at h2
        obtain ⟨h2, h3⟩ := h2
        subst h2
        exact h.tp A y M (by rw [h1]) x hx
theorem OL_len {dp : Nat → Nat → Prop} {N : Nat} {o q : Nat → Prop} {L : List Nat} (h : OL dp N o q L) : L.length ≤ N := by
  have hsub : L ⊆ List.range N := fun c hc => List.mem_range.mpr (h.lt c hc).1
  simpa using List.Nodup.length_le_of_subset h.nd hsub
end RD
