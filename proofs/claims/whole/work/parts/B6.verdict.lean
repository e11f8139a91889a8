theorem dd {p q : Prop} [Decidable p] [Decidable q] (h : p ↔ q) : decide p = decide q := decide_eq_decide.mpr h
/-- a loop over the children, with its end -/
theorem loopX {f : Nat → Int32} {W : (Sg → Prop) → Nat → Nat → Int32 → Prop} {I : List Nat → Prop} {R : Sg → Prop} {l : List Nat} (he : ∀ x, I l → Ex0 (fun post n => W post n l.length x) R)
    (hs : ∀ pre c suf, l = pre ++ c :: suf → I pre → (I (pre ++ [c]) → Ex0 (fun post n => W post n (pre.length + 1) (f c)) R) → Ex0 (fun post n => W post n pre.length (nI c)) R) : ∀ suf pre x, l = pre ++ suf → chB f x suf → I pre → Ex0 (fun post n => W post n pre.length x) R := by
  intro suf
  induction suf with
  | nil => intro pre x hl _ hi; rw [List.append_nil] at hl; subst hl; exact he x hi
  | cons c suf ih =>
    intro pre x hl hB hi
    obtain ⟨hx, hB⟩ := hB
    subst hx
    refine hs pre c suf hl hi (fun hi2 => ?_)
    have := ih (pre ++ [c]) (f c) (by rw [hl]; simp) hB hi2
    simpa using this
theorem loopX0 {f : Nat → Int32} (l : List Nat) (W : (Sg → Prop) → Nat → Nat → Int32 → Prop) (I : List Nat → Prop) {R : Sg → Prop} {x : Int32} (hB : chB f x l) (h0 : I []) (he : ∀ x, I l → Ex0 (fun post n => W post n l.length x) R)
    (hs : ∀ pre c suf, l = pre ++ c :: suf → I pre → (I (pre ++ [c]) → Ex0 (fun post n => W post n (pre.length + 1) (f c)) R) → Ex0 (fun post n => W post n pre.length (nI c)) R) : Ex0 (fun post n => W post n 0 x) R := loopX he hs l [] x rfl hB h0
section VC
variable {tS : Nat → Nat} {lS : Nat} {S : TG} {tD : Nat → Nat} {lD : Nat} {D : TG} {σ : Sg}
theorem CV_1 {σ' : Sg} (h : CV tS lS S tD lD D σ) (e : σ'.1 = σ.1) : CV tS lS S tD lD D σ' := by
  obtain ⟨⟨s, d, ws, wd, ns, nd⟩, p⟩ := h
  exact ⟨⟨CI_cg s (fun c _ => by rw [e]), CI_cg d (fun c _ => by rw [e]), ws, wd, ns, nd⟩, ⟨by rw [e]; exact p.w, by rw [e]; exact p.t, by rw [e]; exact p.p⟩⟩
theorem evb_any (hW : WG lS S) {h e : Nat → Nat → Bool} {s i c : Nat} (hs : s < S.N) (h6 : S.kd s = 6) (k6 : D.kd i = 6) : evb tS lS S tD lD D h e s i c = (S.K s).any (evv tS lS S tD lD D h e s i c) := by
  have hrw : ∀ v ∈ S.K s, ∀ w, 1 ≤ w → (wrd tS lS S v = w ↔ rul tS lS S s w = some v) := fun v hv w hw => rul_wrd hW hs h6 hv hw
  have hnf : ∀ w v, (w = 12 → nfr tS lS S tD lD D e s w v i c = prf tS lS S tD lD D s c) ∧ (w = 13 → nfr tS lS S tD lD D e s w v i c = if prf tS lS S tD lD D s c = none then some v else none) := fun w v => by
    unfold nfr; rw [if_neg (by omega), if_pos k6]
    exact ⟨fun q => by rw [if_neg (by omega), if_pos q], fun q => by rw [if_neg (by omega), if_neg (by omega), if_pos q]⟩
  have hpr : (prf tS lS S tD lD D s c).isSome = true → ∃ v, rul tS lS S s 12 = some v := fun q => by
    unfold prf prp at q
    cases hr : rul tS lS S s 12 with
    | none => rw [hr] at q; simp at q
    | some v => exact ⟨v, rfl⟩
  rw [Bool.eq_iff_iff, List.any_eq_true]
  unfold evb
  simp only [Bool.or_eq_true]
  constructor
  · rintro (((((q | q) | q) | q) | q) | q)
    · obtain ⟨v, hr⟩ := hpr q
      have hv := (rul_mem hr).2
      have hw := (hrw v hv 12 (by omega)).mpr hr
      exact ⟨v, hv, by unfold evv; rw [if_pos (Or.inl hw), hw, (hnf 12 v).1 rfl]; exact q⟩
    · by_cases q2 : (prf tS lS S tD lD D s c).isSome = true
      · obtain ⟨v, hr⟩ := hpr q2
        have hv := (rul_mem hr).2
        have hw := (hrw v hv 12 (by omega)).mpr hr
        exact ⟨v, hv, by unfold evv; rw [if_pos (Or.inl hw), hw, (hnf 12 v).1 rfl]; exact q2⟩
      · cases hr : rul tS lS S s 13 with
        | none => rw [hr] at q; cases q
        | some v =>
          have hv := (rul_mem hr).2
          have hw := (hrw v hv 13 (by omega)).mpr hr
          have hnone : prf tS lS S tD lD D s c = none := by simpa using q2
          exact ⟨v, hv, by unfold evv; rw [if_pos (Or.inr hw), hw, (hnf 13 v).2 rfl, if_pos hnone]; rfl⟩
    · unfold inb at q
      cases hr : rul tS lS S s 15 with
      | none => rw [hr] at q; cases q
      | some v =>
        have hv := (rul_mem hr).2
        have hw := (hrw v hv 15 (by omega)).mpr hr
        rw [hr] at q
        exact ⟨v, hv, by unfold evv; rw [if_neg (by omega), if_pos (by omega)]; exact q⟩
    · unfold inb at q
      cases hr : rul tS lS S s 16 with
      | none => rw [hr] at q; cases q
      | some v =>
        have hv := (rul_mem hr).2
        have hw := (hrw v hv 16 (by omega)).mpr hr
        rw [hr] at q
        exact ⟨v, hv, by unfold evv; rw [if_neg (by omega), if_pos (by omega)]; exact q⟩
    · unfold inb at q
      cases hr : rul tS lS S s 17 with
      | none => rw [hr] at q; cases q
      | some v =>
        have hv := (rul_mem hr).2
        have hw := (hrw v hv 17 (by omega)).mpr hr
        rw [hr] at q
        exact ⟨v, hv, by unfold evv; rw [if_neg (by omega), if_pos (by omega)]; exact q⟩
    · unfold rfb at q
      cases hr : rul tS lS S s 19 with
      | none => rw [hr] at q; cases q
      | some v =>
        have hv := (rul_mem hr).2
        have hw := (hrw v hv 19 (by omega)).mpr hr
        rw [hr] at q
        exact ⟨v, hv, by unfold evv; rw [if_neg (by omega), if_neg (by omega), if_pos hw]; exact q⟩
  · rintro ⟨v, hv, q⟩
    unfold evv at q
    split at q
    · rename_i hw
      rcases hw with hw | hw
      · rw [hw, (hnf 12 v).1 rfl] at q
        exact Or.inl (Or.inl (Or.inl (Or.inl (Or.inl q))))
      · have hr := (hrw v hv 13 (by omega)).mp hw
        exact Or.inl (Or.inl (Or.inl (Or.inl (Or.inr (by rw [hr]; rfl)))))
    · split at q
      · rename_i _ hw
        rcases hw with hw | hw | hw
        · have hr := (hrw v hv 15 (by omega)).mp hw
          exact Or.inl (Or.inl (Or.inl (Or.inr (by unfold inb; rw [hr]; exact q))))
        · have hr := (hrw v hv 16 (by omega)).mp hw
          exact Or.inl (Or.inl (Or.inr (by unfold inb; rw [hr]; exact q)))
        · have hr := (hrw v hv 17 (by omega)).mp hw
          exact Or.inl (Or.inr (by unfold inb; rw [hr]; exact q))
      · split at q
        · rename_i _ _ hw
          have hr := (hrw v hv 19 (by omega)).mp hw
          exact Or.inr (by unfold rfb; rw [hr]; exact q)
        · cases q
theorem evv_cg (hW : WG lS S) {h e h' e' : Nat → Nat → Bool} {s i c v : Nat} (hs : s < S.N) (h6 : S.kd s = 6) (hv : v ∈ S.K s) (hx : ∀ x, Dp tS lS S s x → S.kd x = 6 → h x i = h' x i ∧ e x c = e' x c) : evv tS lS S tD lD D h e s i c v = evv tS lS S tD lD D h' e' s i c v := by
  have hep : ∀ x, Dp tS lS S s x → epb tS lS S h e i c x = epb tS lS S h' e' i c x := fun x hd => by
    unfold epb
    by_cases h6 : S.kd x = 6
    · rw [(hx x hd h6).1, (hx x hd h6).2]
    · rw [decide_eq_false h6]; rfl
  unfold evv
  split
  · rename_i hw
    have : nfr tS lS S tD lD D e s (wrd tS lS S v) v i c = nfr tS lS S tD lD D e' s (wrd tS lS S v) v i c := by
      unfold nfr; rw [if_neg (show ¬ wrd tS lS S v = 20 by omega), if_neg (show ¬ wrd tS lS S v = 20 by omega)]
    rw [this]
  · split
    · rename_i _ hw
      split
      · rename_i k5
        exact any_cg (fun x hxv => hep x (Or.inl ⟨wrd tS lS S v, v, by omega, by omega, (rul_wrd hW hs h6 hv (by omega)).mp rfl, k5, hxv⟩))
      · rfl
    · split
      · rename_i _ _ hw
        cases hm : mtg tS lS S v with
        | none => rfl
        | some x => exact hep x (Or.inr (Or.inr ⟨v, (rul_wrd hW hs h6 hv (by omega)).mp hw, hm⟩))
      · rfl
def P38 (c _k : Nat) : Prop := c = 39
theorem FL_put {P : Nat → Nat → Prop} {σ0 σ : Sg} {b s i : Nat} (h : FL P σ0 σ) (hp : ∀ k, P (b + 1) k) : FL P σ0 (mput b σ s i) := FL_sl h (hp _)
theorem hb_o {b s i : Nat} {σ σ' : Sg} (h : ∀ k, σ'.2.1 (b + 1) k = σ.2.1 (b + 1) k) : hb σ' b s i = hb σ b s i := by unfold hb; rw [h]
theorem markEv_r (C : CV tS lS S tD lD D σ) {s i : Nat} (hs : s < S.N) (hi : i < D.N) (h6 : S.kd s = 6) (X : Nat → Nat → Bool) (hns : ¬ Dp tS lS S s s) (hX : ∀ v ∈ S.K s, ∀ c ∈ D.K i, evv tS lS S tD lD D (hCf S σ) (eCf σ) s i c v = X v c) :
    ∃ σ', Rv (wq_Vd_markEvaluated (nI s) (nI i) σ) σ' ∧ FL P38 σ σ' ∧ (∀ s' c', c' < 80 → hb σ' 38 s' c' = (hb σ 38 s' c' || (decide (s' = s ∧ c' ∈ D.K i) && (S.K s).any (fun v => X v c')))) := by
  obtain ⟨R, hR⟩ : ∃ R : Sg → Prop, R = fun σ' => FL P38 σ σ' ∧ (∀ s' c', c' < 80 → hb σ' 38 s' c' = (hb σ 38 s' c' || (decide (s' = s ∧ c' ∈ D.K i) && (S.K s).any (fun v => X v c')))) := ⟨_, rfl⟩
  have T := CC_T C.c
  have hn := C.c.ns
  have hd := C.c.nd
  have hls := len_K C.c.ws hs
  have hli := len_K C.c.wd hi
  -- state on the way
  let Y : List Nat → List Nat → Nat → Nat → Nat → Bool := fun pv pc v s' c' => decide (s' = s) && ((decide (c' ∈ D.K i) && pv.any (fun u => X u c')) || (decide (c' ∈ pc) && X v c'))
  have hC1 : ∀ σ1, FL P38 σ σ1 → CV tS lS S tD lD D σ1 := fun σ1 f => CV_1 C f.1
  have hH : ∀ σ1, FL P38 σ σ1 → ∀ a j, hCf S σ1 a j = hCf S σ a j := fun σ1 f a j => by
    unfold hCf; rw [hb_o (fun k => f.2.2 37 k (by unfold P38; omega))]
  have outer : ∀ suf pre x σ1, S.K s = pre ++ suf → chB (σ.1 8) x suf → FL P38 σ σ1 → (∀ s' c', c' < 80 → hb σ1 38 s' c' = (hb σ 38 s' c' || (decide (s' = s ∧ c' ∈ D.K i) && pre.any (fun v => X v c')))) → Ex0 (fun post n => wp_Vd_markEvaluated post n 1 (nI s) (nI i) (nI pre.length) x 0 0 σ1) R := by
    intro suf
    induction suf with
    | nil =>
      intro pre x σ1 hK _ f1 hm
      rw [List.append_nil] at hK
      refine ⟨σ1, by rw [hR]; exact ⟨f1, by rw [hK]; exact hm⟩, fun post hp => ⟨1, ?_⟩⟩
      show wb_Vd_markEvaluated_1 (wp_Vd_markEvaluated post 0) post (nI s) (nI i) (nI pre.length) x σ1
      have h5 : σ1.1 5 s = nI pre.length := by rw [f1.1, T.mS s hs, hK]
      rw [hK] at hls
      simp (disch := omega) only [wb_Vd_markEvaluated_1, litI, n_le, n_lt, n_eq, n_in, n_cl, nI_add, n_b0, n_b1, n_v0, n_v1, n_m1, n_m1', n_m1l, n_m1l', n_m1g, n_m1ge, si_1, si_2, forall_eq, not_true_eq_false, not_false_eq_true, true_imp_iff, false_imp_iff, true_and, and_true, false_and, and_false, implies_true, ite_true, ite_false, if_true, if_false, Classical.not_not, Nat.reduceEqDiff, reduceIte, Nat.add_left_cancel_iff, Nat.add_eq_left, Nat.left_eq_add, and_self, n_sub, pk_mul, h5, eq_true (show s < 160 by omega), Nat.le_refl]
      exact hp
    | cons v suf ih =>
      intro pre x σ1 hK hB f1 hm
      obtain ⟨hx, hB⟩ := hB
      subst hx
      have hvK : v ∈ S.K s := by rw [hK]; simp
      have hv := C.c.ws.ch s hs v hvK
      have hln : (S.K s).length = pre.length + suf.length + 1 := by rw [hK]; simp; omega
      -- the children of i
      have inner : ∀ sc pc y σ2, D.K i = pc ++ sc → chB (σ.1 21) y sc → FL P38 σ σ2 → (∀ s' c', c' < 80 → hb σ2 38 s' c' = (hb σ 38 s' c' || Y pre pc v s' c')) → Ex0 (fun post n => wp_Vd_markEvaluated post n 2 (nI s) (nI i) (nI pre.length) (nI v) (nI pc.length) y σ2) R := by
        intro sc
        induction sc with
        | nil =>
          intro pc y σ2 hK2 _ f2 hm2
          rw [List.append_nil] at hK2
          refine Ex0_s (ih (pre ++ [v]) (σ.1 8 v) σ2 (by rw [hK]; simp) hB f2 (fun s' c' hc' => by
            rw [hm2 s' c' hc', List.any_append]
            congr 1
            show (decide (s' = s) && ((decide (c' ∈ D.K i) && pre.any (fun u => X u c')) || (decide (c' ∈ pc) && X v c'))) = _
            rw [← hK2]
            by_cases e1 : s' = s <;> by_cases e2 : c' ∈ D.K i <;> simp [e1, e2])) (fun post n hn => ⟨n + 1, ?_⟩)
          rw [List.length_append] at hn
          show wb_Vd_markEvaluated_2 (wp_Vd_markEvaluated post n) post (nI s) (nI i) (nI pre.length) (nI v) (nI pc.length) y σ2
          have h18 : σ2.1 18 i = nI pc.length := by rw [f2.1, T.mD i hi, hK2]
          have h8 : σ2.1 8 v = σ.1 8 v := by rw [f2.1]
          rw [hK2] at hli
          simp (disch := omega) only [wb_Vd_markEvaluated_2, litI, n_le, n_lt, n_eq, n_in, n_cl, nI_add, n_b0, n_b1, n_v0, n_v1, n_m1, n_m1', n_m1l, n_m1l', n_m1g, n_m1ge, si_1, si_2, forall_eq, not_true_eq_false, not_false_eq_true, true_imp_iff, false_imp_iff, true_and, and_true, false_and, and_false, implies_true, ite_true, ite_false, if_true, if_false, Classical.not_not, Nat.reduceEqDiff, reduceIte, Nat.add_left_cancel_iff, Nat.add_eq_left, Nat.left_eq_add, and_self, n_sub, pk_mul, h18, h8, eq_true (show i < 80 by omega), eq_true (show v < 160 by omega), Nat.le_refl]
          exact hn
        | cons c sc ihc =>
          intro pc y σ2 hK2 hB2 f2 hm2
          obtain ⟨hy, hB2⟩ := hB2
          subst hy
          have hcK : c ∈ D.K i := by rw [hK2]; simp
          have hc := C.c.wd.ch i hi c hcK
          have hln2 : (D.K i).length = pc.length + sc.length + 1 := by rw [hK2]; simp; omega
          have hev := evaluatesBy_r (hC1 σ2 f2) hs hv.2.1 hi hcK
          have hval : evv tS lS S tD lD D (hCf S σ2) (eCf σ2) s i c v = X v c := by
            rw [← hX v hvK c hcK]
            refine evv_cg C.c.ws hs h6 hvK (fun x hdx _ => ⟨hH σ2 f2 x i, ?_⟩)
            show hb σ2 38 x c = hb σ 38 x c
            rw [hm2 x c (by omega)]
            have hxs : x ≠ s := fun q => by subst q; exact hns hdx
            show (hb σ 38 x c || (decide (x = s) && _)) = _
            rw [decide_eq_false hxs]; simp
          rw [hval] at hev
          have hnp : c ∉ pc := fun q => by
            have := K_nodup C.c.wd hi
            rw [hK2] at this
            exact (List.nodup_append.mp this).2.2 c q c (List.mem_cons_self ..) rfl
          have step : ∀ σ3, FL P38 σ σ3 → (∀ s' c', c' < 80 → hb σ3 38 s' c' = (hb σ 38 s' c' || Y pre (pc ++ [c]) v s' c')) → Ex0 (fun post n => wp_Vd_markEvaluated post n 2 (nI s) (nI i) (nI pre.length) (nI v) (nI (pc.length + 1)) (σ.1 21 c) σ3) R := fun σ3 f3 hm3 => by
            have := ihc (pc ++ [c]) (σ.1 21 c) σ3 (by rw [hK2]; simp) hB2 f3 hm3
            rw [List.length_append] at this
            exact this
          have h18 : σ2.1 18 i = nI (D.K i).length := by rw [f2.1, T.mD i hi]
          cases hq : X v c with
          | false =>
            rw [hq] at hev
            refine Ex0_s (step σ2 f2 (fun s' c' hc' => by
              rw [hm2 s' c' hc']
              congr 1
              show (decide (s' = s) && ((decide (c' ∈ D.K i) && pre.any (fun u => X u c')) || (decide (c' ∈ pc) && X v c'))) = (decide (s' = s) && ((decide (c' ∈ D.K i) && pre.any (fun u => X u c')) || (decide (c' ∈ pc ++ [c]) && X v c')))
              by_cases e : c' = c
              · subst e; rw [hq]; simp
              · have : (c' ∈ pc ++ [c]) ↔ c' ∈ pc := by simp [e]
                rw [decide_eq_decide.mpr this])) (fun post n hn => ⟨n + 1, ?_⟩)
            show wb_Vd_markEvaluated_2 (wp_Vd_markEvaluated post n) post (nI s) (nI i) (nI pre.length) (nI v) (nI pc.length) (nI c) σ2
            simp (disch := omega) only [wb_Vd_markEvaluated_2, litI, n_le, n_lt, n_eq, n_in, n_cl, nI_add, n_b0, n_b1, n_v0, n_v1, n_m1, n_m1', n_m1l, n_m1l', n_m1g, n_m1ge, si_1, si_2, forall_eq, not_true_eq_false, not_false_eq_true, true_imp_iff, false_imp_iff, true_and, and_true, false_and, and_false, implies_true, ite_true, ite_false, if_true, if_false, Classical.not_not, Nat.reduceEqDiff, reduceIte, Nat.add_left_cancel_iff, Nat.add_eq_left, Nat.left_eq_add, and_self, n_sub, pk_mul, h18, eq_true (show i < 80 by omega), eq_false (show ¬ (D.K i).length ≤ pc.length by omega)]
            refine hev _ ?_
            simp (disch := omega) only [nB_0, litI, n_le, n_lt, n_eq, n_in, n_cl, nI_add, n_b0, n_b1, n_v0, n_v1, n_m1, n_m1', n_m1l, n_m1l', n_m1g, n_m1ge, si_1, si_2, forall_eq, not_true_eq_false, not_false_eq_true, true_imp_iff, false_imp_iff, true_and, and_true, false_and, and_false, implies_true, ite_true, ite_false, if_true, if_false, Classical.not_not, Nat.reduceEqDiff, reduceIte, Nat.add_left_cancel_iff, Nat.add_eq_left, Nat.left_eq_add, and_self, n_sub, pk_mul, eq_true (show c < 80 by omega)]
            rw [f2.1]; exact hn
          | true =>
            rw [hq] at hev
            refine Ex0_s (step (mput 38 σ2 s c) (FL_put f2 (fun k => rfl)) (fun s' c' hc' => by
              rw [hb_put (by omega) (by omega), hm2 s' c' hc']
              show ((hb σ 38 s' c' || (decide (s' = s) && ((decide (c' ∈ D.K i) && pre.any (fun u => X u c')) || (decide (c' ∈ pc) && X v c')))) || decide (38 = 38 ∧ s' = s ∧ c' = c)) = (hb σ 38 s' c' || (decide (s' = s) && ((decide (c' ∈ D.K i) && pre.any (fun u => X u c')) || (decide (c' ∈ pc ++ [c]) && X v c'))))
              by_cases e1 : s' = s
              · by_cases e : c' = c
                · subst e; simp [e1, hq]
                · simp [e1, e]
              · simp [e1])) (fun post n hn => ⟨n + 1, ?_⟩)
            show wb_Vd_markEvaluated_2 (wp_Vd_markEvaluated post n) post (nI s) (nI i) (nI pre.length) (nI v) (nI pc.length) (nI c) σ2
            simp (disch := omega) only [wb_Vd_markEvaluated_2, litI, n_le, n_lt, n_eq, n_in, n_cl, nI_add, n_b0, n_b1, n_v0, n_v1, n_m1, n_m1', n_m1l, n_m1l', n_m1g, n_m1ge, si_1, si_2, forall_eq, not_true_eq_false, not_false_eq_true, true_imp_iff, false_imp_iff, true_and, and_true, false_and, and_false, implies_true, ite_true, ite_false, if_true, if_false, Classical.not_not, Nat.reduceEqDiff, reduceIte, Nat.add_left_cancel_iff, Nat.add_eq_left, Nat.left_eq_add, and_self, n_sub, pk_mul, h18, eq_true (show i < 80 by omega), eq_false (show ¬ (D.K i).length ≤ pc.length by omega)]
            refine hev _ ?_
            simp (disch := omega) only [nB_0, litI, n_le, n_lt, n_eq, n_in, n_cl, nI_add, n_b0, n_b1, n_v0, n_v1, n_m1, n_m1', n_m1l, n_m1l', n_m1g, n_m1ge, si_1, si_2, forall_eq, not_true_eq_false, not_false_eq_true, true_imp_iff, false_imp_iff, true_and, and_true, false_and, and_false, implies_true, ite_true, ite_false, if_true, if_false, Classical.not_not, Nat.reduceEqDiff, reduceIte, Nat.add_left_cancel_iff, Nat.add_eq_left, Nat.left_eq_add, and_self, n_sub, pk_mul, Bool.true_eq_false, eq_true (show c < 80 by omega), Mk_put_r (show s < 160 by omega) (show c < 128 by omega)]
            rw [show (mput 38 σ2 s c).1 = σ.1 from f2.1]; exact hn
      refine Ex0_s (inner (D.K i) [] _ σ1 rfl (T.cD i hi) f1 (fun s' c' hc' => by
        rw [hm s' c' hc']
        congr 1
        show (decide (s' = s ∧ c' ∈ D.K i) && pre.any (fun v => X v c')) = (decide (s' = s) && ((decide (c' ∈ D.K i) && pre.any (fun u => X u c')) || (decide (c' ∈ ([] : List Nat)) && X v c')))
        by_cases e1 : s' = s <;> by_cases e2 : c' ∈ D.K i <;> simp [e1, e2])) (fun post n hn => ⟨n + 1, ?_⟩)
      show wb_Vd_markEvaluated_1 (wp_Vd_markEvaluated post n) post (nI s) (nI i) (nI pre.length) (nI v) σ1
      have h5 : σ1.1 5 s = nI (S.K s).length := by rw [f1.1, T.mS s hs]
      simp (disch := omega) only [wb_Vd_markEvaluated_1, litI, n_le, n_lt, n_eq, n_in, n_cl, nI_add, n_b0, n_b1, n_v0, n_v1, n_m1, n_m1', n_m1l, n_m1l', n_m1g, n_m1ge, si_1, si_2, forall_eq, not_true_eq_false, not_false_eq_true, true_imp_iff, false_imp_iff, true_and, and_true, false_and, and_false, implies_true, ite_true, ite_false, if_true, if_false, Classical.not_not, Nat.reduceEqDiff, reduceIte, Nat.add_left_cancel_iff, Nat.add_eq_left, Nat.left_eq_add, and_self, n_sub, pk_mul, h5, eq_true (show s < 160 by omega), eq_false (show ¬ (S.K s).length ≤ pre.length by omega)]
      exact hn
  obtain ⟨σ', q1, q2⟩ := outer (S.K s) [] _ σ rfl (T.cS s hs) FL_r (fun s' c' _ => by simp)
  rw [hR] at q1
  refine ⟨σ', fun post hp => ?_, q1⟩
  obtain ⟨n, hn⟩ := q2 post hp
  refine ⟨n + 1, ?_⟩
  show wb_Vd_markEvaluated_0 (wp_Vd_markEvaluated post n) post (nI s) (nI i) σ
  simp only [wb_Vd_markEvaluated_0, litI, n_le, n_lt, n_eq, n_in, n_cl, nI_add, n_b0, n_b1, n_v0, n_v1, n_m1, n_m1', n_m1l, n_m1l', n_m1g, n_m1ge, si_1, si_2, forall_eq, not_true_eq_false, not_false_eq_true, true_imp_iff, false_imp_iff, true_and, and_true, false_and, and_false, implies_true, ite_true, ite_false, if_true, if_false, Classical.not_not, Nat.reduceEqDiff, reduceIte, Nat.add_left_cancel_iff, Nat.add_eq_left, Nat.left_eq_add, and_self, n_sub, pk_mul]
  exact hn
/-- the verdicts that stand: those of i beyond, and at i those of A -/
abbrev VI (tS : Nat → Nat) (lS : Nat) (S : TG) (tD : Nat → Nat) (lD : Nat) (D : TG) (σ : Sg) (j : Nat) (A : List Nat) : Prop := (∀ s i, s < S.N → S.kd s = 6 → i < D.N → hb σ 36 s i = (decide (j < i ∨ (i = j ∧ s ∈ A)) && HH tS lS S tD lD D s i)) ∧ (∀ s i c, s < S.N → S.kd s = 6 → i < D.N → c ∈ D.K i → hb σ 38 s c = (decide (D.kd i = 6 ∧ (j < i ∨ (i = j ∧ s ∈ A))) && EE tS lS S tD lD D s c))
theorem VI.h {tS : Nat → Nat} {lS : Nat} {S : TG} {tD : Nat → Nat} {lD : Nat} {D : TG} {σ : Sg} {j : Nat} {A : List Nat} (hX : VI tS lS S tD lD D σ j A) : ∀ s i, s < S.N → S.kd s = 6 → i < D.N → hb σ 36 s i = (decide (j < i ∨ (i = j ∧ s ∈ A)) && HH tS lS S tD lD D s i) := hX.1
theorem VI.e {tS : Nat → Nat} {lS : Nat} {S : TG} {tD : Nat → Nat} {lD : Nat} {D : TG} {σ : Sg} {j : Nat} {A : List Nat} (hX : VI tS lS S tD lD D σ j A) : ∀ s i c, s < S.N → S.kd s = 6 → i < D.N → c ∈ D.K i → hb σ 38 s c = (decide (D.kd i = 6 ∧ (j < i ∨ (i = j ∧ s ∈ A))) && EE tS lS S tD lD D s c) := hX.2
def P36 (c _k : Nat) : Prop := c = 37 ∨ c = 39
theorem weigh_r (C : CV tS lS S tD lD D σ) {Lm : List Nat} (hlm : OLm tS lS S Lm) (hall : ∀ s, s < S.N → s ∈ Lm) {s i : Nat} {A : List Nat} (hs : s < S.N) (hi : i < D.N) (h6 : S.kd s = 6) (V : VI tS lS S tD lD D σ i A) (hnA : s ∉ A) (hdp : ∀ x, Dp tS lS S s x → S.kd x ≠ 6 ∨ x ∈ A) :
    ∃ σ', Rv (wq_Vd_weigh (nI s) (nI i) σ) σ' ∧ FL P36 σ σ' ∧ VI tS lS S tD lD D σ' i (A ++ [s]) := by
  obtain ⟨R, hR⟩ : ∃ R : Sg → Prop, R = fun σ' => FL P36 σ σ' ∧ VI tS lS S tD lD D σ' i (A ++ [s]) := ⟨_, rfl⟩
  have T := CC_T C.c
  have hn := C.c.ns
  have hd := C.c.nd
  have hls := len_K C.c.ws hs
  have hki := C.c.wd.kd i hi
  have hWS := C.c.ws
  have hWD := C.c.wd
  have hns : ¬ Dp tS lS S s s := fun q => by
    rcases hdp s q with z | z
    · exact z h6
    · exact hnA z
  -- what is known of what is asked
  have hxH : ∀ x, Dp tS lS S s x → hCf S σ x i = HH tS lS S tD lD D x i := fun x hx => by
    have hxN := Dp_lt hWS hs hx
    unfold hCf
    by_cases k6 : S.kd x = 6
    · rw [if_pos k6, V.h x i hxN k6 hi]
      have : x ∈ A := by rcases hdp x hx with z | z
                         · exact absurd k6 z
                         · exact z
      rw [decide_eq_true (Or.inr ⟨rfl, this⟩), Bool.true_and]
    · rw [if_neg k6, HH_e hWS hWD hlm hall hxN hi]; unfold hStep; rw [if_neg k6]
  have hcH : ∀ (σ1 : Sg), (∀ k, σ1.2.1 37 k = σ.2.1 37 k) → ∀ c ∈ D.K i, ∀ x, x < S.N → hCf S σ1 x c = HH tS lS S tD lD D x c := fun σ1 e1 c hc x hxN => by
    have hc1 := hWD.ch i hi c hc
    unfold hCf
    by_cases k6 : S.kd x = 6
    · rw [if_pos k6, hb_o e1, V.h x c hxN k6 hc1.2.1, decide_eq_true (Or.inl hc1.1), Bool.true_and]
    · rw [if_neg k6, HH_e hWS hWD hlm hall hxN hc1.2.1]; unfold hStep; rw [if_neg k6]
  -- the second part, given that s's evaluated children stand
  have second : ∀ σ1, FL P38 σ σ1 → (∀ s' c', c' < 80 → hb σ1 38 s' c' = (hb σ 38 s' c' || (decide (s' = s ∧ c' ∈ D.K i ∧ D.kd i = 6) && EE tS lS S tD lD D s c'))) → Ex0 (fun post n => wp_Vd_weigh post n 1 (nI s) (nI i) (nI 0) (nI (s + 1)) σ1) R := by
    intro σ1 f1 hm
    have C1 := CV_1 C f1.1
    have e37 : ∀ k, σ1.2.1 37 k = σ.2.1 37 k := fun k => f1.2.2 37 k (by unfold P38; omega)
    have heE : ∀ c ∈ D.K i, D.kd i = 6 → eCf σ1 s c = EE tS lS S tD lD D s c := fun c hc k6 => by
      have hc1 := hWD.ch i hi c hc
      show hb σ1 38 s c = _
      rw [hm s c (by omega), V.e s i c hs h6 hi hc, decide_eq_false (fun q => by rcases q.2 with z | z
                                                                                 · omega
                                                                                 · exact hnA z.2), decide_eq_true ⟨rfl, hc, k6⟩]; simp
    have hsob : ∀ v ∈ S.K s, sob tS lS S tD lD D (hCf S σ1) (eCf σ1) s (wrd tS lS S v) v i = sob tS lS S tD lD D (HH tS lS S tD lD D) (EE tS lS S tD lD D) s (wrd tS lS S v) v i := fun v hv =>
      sob_cg hWS hWD hs hi hv rfl h6 (fun x hx => by rw [← hxH x hx]; unfold hCf; rw [hb_o e37]) (fun c hc x hx => hcH σ1 e37 c hc x hx) heE
    have hHs : HH tS lS S tD lD D s i = (S.K s).all (fun v => sob tS lS S tD lD D (HH tS lS S tD lD D) (EE tS lS S tD lD D) s (wrd tS lS S v) v i) := by
      rw [HH_e hWS hWD hlm hall hs hi]; unfold hStep; rw [if_pos h6]
    have f36 : FL P36 σ σ1 := FL_m f1 (fun c k h => Or.inr h)
    -- the verdicts behind it
    have fin : ∀ σ2, FL P36 σ σ2 → (∀ k, σ2.2.1 39 k = σ1.2.1 39 k) → (∀ s' i', s' < S.N → i' < D.N → hb σ2 36 s' i' = (hb σ 36 s' i' || (decide (s' = s ∧ i' = i) && HH tS lS S tD lD D s i))) → R σ2 := fun σ2 f2 e39 hh => by
      rw [hR]
      refine ⟨f2, fun s' i' hs' k6 hi' => ?_, fun s' i' c' hs' k6 hi' hc' => ?_⟩
      · rw [hh s' i' hs' hi', V.h s' i' hs' k6 hi']
        by_cases e1 : s' = s ∧ i' = i
        · obtain ⟨e1, e2⟩ := e1
          subst e1; subst e2
          rw [decide_eq_false (fun q => by rcases q with z | z
                                           · omega
                                           · exact hnA z.2), decide_eq_true (⟨rfl, rfl⟩ : s' = s' ∧ i' = i'), decide_eq_true (Or.inr ⟨rfl, by simp⟩ : i' < i' ∨ i' = i' ∧ s' ∈ A ++ [s'])]; simp
        · rw [decide_eq_false e1]
          have : (i < i' ∨ (i' = i ∧ s' ∈ A)) ↔ (i < i' ∨ (i' = i ∧ s' ∈ A ++ [s])) := by
            simp only [List.mem_append, List.mem_singleton]
            constructor
            · rintro (z | z)
              · exact Or.inl z
              · exact Or.inr ⟨z.1, Or.inl z.2⟩
            · rintro (z | ⟨z, z2 | z2⟩)
              · exact Or.inl z
              · exact Or.inr ⟨z, z2⟩
              · exact absurd ⟨z2, z⟩ e1
          have hdd := dd this
          rw [hdd]; simp
      · have hc1 := hWD.ch i' hi' c' hc'
        rw [hb_o e39, hm s' c' (by omega), V.e s' i' c' hs' k6 hi' hc']
        by_cases e1 : s' = s ∧ i' = i
        · obtain ⟨e1, e2⟩ := e1
          subst e1; subst e2
          rw [decide_eq_false (fun q => by rcases q.2 with z | z
                                           · omega
                                           · exact hnA z.2)]
          by_cases k : D.kd i' = 6
          · rw [decide_eq_true (⟨rfl, hc', k⟩ : s' = s' ∧ c' ∈ D.K i' ∧ D.kd i' = 6), decide_eq_true (⟨k, Or.inr ⟨rfl, by simp⟩⟩ : D.kd i' = 6 ∧ (i' < i' ∨ i' = i' ∧ s' ∈ A ++ [s']))]; simp
          · rw [decide_eq_false (fun q => k q.2.2), decide_eq_false (fun q => k q.1)]; simp
        · have hne : ¬ (s' = s ∧ c' ∈ D.K i ∧ D.kd i = 6) := fun q => e1 ⟨q.1, by
            have := (hWD.ch i hi c' q.2.1).2.2.1
            rw [hc1.2.2.1] at this; injection this⟩
          rw [decide_eq_false hne]
          have : (D.kd i' = 6 ∧ (i < i' ∨ (i' = i ∧ s' ∈ A))) ↔ (D.kd i' = 6 ∧ (i < i' ∨ (i' = i ∧ s' ∈ A ++ [s]))) := by
            simp only [List.mem_append, List.mem_singleton]
            constructor
            · rintro ⟨k, z | z⟩
              · exact ⟨k, Or.inl z⟩
              · exact ⟨k, Or.inr ⟨z.1, Or.inl z.2⟩⟩
            · rintro ⟨k, z | ⟨z, z2 | z2⟩⟩
              · exact ⟨k, Or.inl z⟩
              · exact ⟨k, Or.inr ⟨z, z2⟩⟩
              · exact absurd ⟨z2, z⟩ e1
          have hdd := dd this
          rw [hdd]; simp
    refine loopX0 (S.K s) (fun post n j x => wp_Vd_weigh post n 1 (nI s) (nI i) (nI j) x σ1) (fun pre => pre.all (fun v => sob tS lS S tD lD D (HH tS lS S tD lD D) (EE tS lS S tD lD D) s (wrd tS lS S v) v i) = true) (f := σ1.1 8) (by rw [f1.1]; exact T.cS s hs) (by simp) ?_ ?_
    · intro x hI
      rw [← hHs] at hI
      refine ⟨mput 36 σ1 s i, ?_, fun post hp => ⟨1, ?_⟩⟩
      · refine fin _ (FL_put f36 (fun k => Or.inl rfl)) (fun k => mput_o (by omega)) (fun s' i' hs' hi' => ?_)
        rw [hb_put (by omega) (by omega), hb_o e37, hI, Bool.and_true]
        congr 1
        by_cases e1 : s' = s ∧ i' = i
        · rw [decide_eq_true e1, decide_eq_true ⟨rfl, e1⟩]
        · rw [decide_eq_false e1, decide_eq_false (fun q => e1 q.2)]
      · show wb_Vd_weigh_1 (wp_Vd_weigh post 0) post (nI s) (nI i) (nI (S.K s).length) x σ1
        have h5 : σ1.1 5 s = nI (S.K s).length := by rw [f1.1, T.mS s hs]
        simp (disch := omega) only [wb_Vd_weigh_1, litI, n_le, n_lt, n_eq, n_in, n_cl, nI_add, n_b0, n_b1, n_v0, n_v1, n_m1, n_m1', n_m1l, n_m1l', n_m1g, n_m1ge, si_1, si_2, forall_eq, not_true_eq_false, not_false_eq_true, true_imp_iff, false_imp_iff, true_and, and_true, false_and, and_false, implies_true, ite_true, ite_false, if_true, if_false, Classical.not_not, Nat.reduceEqDiff, reduceIte, Nat.add_left_cancel_iff, Nat.add_eq_left, Nat.left_eq_add, and_self, n_sub, pk_mul, h5, eq_true (show s < 160 by omega), Nat.le_refl, Mk_put_r (show s < 160 by omega) (show i < 128 by omega)]
        exact hp
    · intro pre v suf hK hI ih
      have hvK : v ∈ S.K s := by rw [hK]; simp
      have hv := hWS.ch s hs v hvK
      have hln : (S.K s).length = pre.length + suf.length + 1 := by rw [hK]; simp; omega
      have hso := isSo_r C1 hs hv.2.1 hi
      rw [hsob v hvK] at hso
      have h5 : σ1.1 5 s = nI (S.K s).length := by rw [f1.1, T.mS s hs]
      cases hq : sob tS lS S tD lD D (HH tS lS S tD lD D) (EE tS lS S tD lD D) s (wrd tS lS S v) v i with
      | false =>
        rw [hq] at hso
        have hF : HH tS lS S tD lD D s i = false := by rw [hHs]; exact all_spl hK hq
        refine ⟨σ1, fin σ1 f36 (fun _ => rfl) (fun s' i' hs' hi' => by rw [hF, hb_o e37]; simp), fun post hp => ⟨1, ?_⟩⟩
        show wb_Vd_weigh_1 (wp_Vd_weigh post 0) post (nI s) (nI i) (nI pre.length) (nI v) σ1
        simp (disch := omega) only [wb_Vd_weigh_1, litI, n_le, n_lt, n_eq, n_in, n_cl, nI_add, n_b0, n_b1, n_v0, n_v1, n_m1, n_m1', n_m1l, n_m1l', n_m1g, n_m1ge, si_1, si_2, forall_eq, not_true_eq_false, not_false_eq_true, true_imp_iff, false_imp_iff, true_and, and_true, false_and, and_false, implies_true, ite_true, ite_false, if_true, if_false, Classical.not_not, Nat.reduceEqDiff, reduceIte, Nat.add_left_cancel_iff, Nat.add_eq_left, Nat.left_eq_add, and_self, n_sub, pk_mul, h5, eq_true (show s < 160 by omega), eq_false (show ¬ (S.K s).length ≤ pre.length by omega)]
        refine hso _ ?_
        simp only [nB_0, litI, n_le, n_lt, n_eq, n_in, n_cl, nI_add, n_b0, n_b1, n_v0, n_v1, n_m1, n_m1', n_m1l, n_m1l', n_m1g, n_m1ge, si_1, si_2, forall_eq, not_true_eq_false, not_false_eq_true, true_imp_iff, false_imp_iff, true_and, and_true, false_and, and_false, implies_true, ite_true, ite_false, if_true, if_false, Classical.not_not, Nat.reduceEqDiff, reduceIte, Nat.add_left_cancel_iff, Nat.add_eq_left, Nat.left_eq_add, and_self, n_sub, pk_mul]
        exact hp
      | true =>
        rw [hq] at hso
        refine Ex0_s (ih (by rw [all_app, hI, hq]; rfl)) (fun post n hn => ⟨n + 1, ?_⟩)
        show wb_Vd_weigh_1 (wp_Vd_weigh post n) post (nI s) (nI i) (nI pre.length) (nI v) σ1
        simp (disch := omega) only [wb_Vd_weigh_1, litI, n_le, n_lt, n_eq, n_in, n_cl, nI_add, n_b0, n_b1, n_v0, n_v1, n_m1, n_m1', n_m1l, n_m1l', n_m1g, n_m1ge, si_1, si_2, forall_eq, not_true_eq_false, not_false_eq_true, true_imp_iff, false_imp_iff, true_and, and_true, false_and, and_false, implies_true, ite_true, ite_false, if_true, if_false, Classical.not_not, Nat.reduceEqDiff, reduceIte, Nat.add_left_cancel_iff, Nat.add_eq_left, Nat.left_eq_add, and_self, n_sub, pk_mul, h5, eq_true (show s < 160 by omega), eq_false (show ¬ (S.K s).length ≤ pre.length by omega)]
        refine hso _ ?_
        simp (disch := omega) only [nB_0, litI, n_le, n_lt, n_eq, n_in, n_cl, nI_add, n_b0, n_b1, n_v0, n_v1, n_m1, n_m1', n_m1l, n_m1l', n_m1g, n_m1ge, si_1, si_2, forall_eq, not_true_eq_false, not_false_eq_true, true_imp_iff, false_imp_iff, true_and, and_true, false_and, and_false, implies_true, ite_true, ite_false, if_true, if_false, Classical.not_not, Nat.reduceEqDiff, reduceIte, Nat.add_left_cancel_iff, Nat.add_eq_left, Nat.left_eq_add, and_self, n_sub, pk_mul, Bool.true_eq_false, eq_true (show v < 160 by omega)]
        exact hn
  by_cases k6 : D.kd i = 6
  · -- marks first
    have hX : ∀ v ∈ S.K s, ∀ c ∈ D.K i, evv tS lS S tD lD D (hCf S σ) (eCf σ) s i c v = evv tS lS S tD lD D (HH tS lS S tD lD D) (EE tS lS S tD lD D) s i c v := fun v hv c hc =>
      evv_cg hWS hs h6 hv (fun x hx kx => ⟨hxH x hx, by
        show hb σ 38 x c = _
        have : x ∈ A := by rcases hdp x hx with z | z
                           · exact absurd kx z
                           · exact z
        rw [V.e x i c (Dp_lt hWS hs hx) kx hi hc, decide_eq_true ⟨k6, Or.inr ⟨rfl, this⟩⟩, Bool.true_and]⟩)
    obtain ⟨σ1, m1, f1, hm⟩ := markEv_r C hs hi h6 _ hns hX
    obtain ⟨σ', q1, q2⟩ := second σ1 f1 (fun s' c' hc' => by
      rw [hm s' c' hc']
      congr 1
      by_cases e1 : s' = s ∧ c' ∈ D.K i
      · rw [decide_eq_true e1, decide_eq_true ⟨e1.1, e1.2, k6⟩, EE_e hWS hWD hlm hall hs hi e1.2, evb_any hWS hs h6 k6]
      · rw [decide_eq_false e1, decide_eq_false (fun q => e1 ⟨q.1, q.2.1⟩)]; simp)
    rw [hR] at q1
    refine ⟨σ', fun post hp => ?_, q1⟩
    obtain ⟨n, hn⟩ := q2 post hp
    refine ⟨n + 1, ?_⟩
    show wb_Vd_weigh_0 (wp_Vd_weigh post n) post (nI s) (nI i) σ
    simp (disch := omega) only [wb_Vd_weigh_0, litI, n_le, n_lt, n_eq, n_in, n_cl, nI_add, n_b0, n_b1, n_v0, n_v1, n_m1, n_m1', n_m1l, n_m1l', n_m1g, n_m1ge, si_1, si_2, forall_eq, not_true_eq_false, not_false_eq_true, true_imp_iff, false_imp_iff, true_and, and_true, false_and, and_false, implies_true, ite_true, ite_false, if_true, if_false, Classical.not_not, Nat.reduceEqDiff, reduceIte, Nat.add_left_cancel_iff, Nat.add_eq_left, Nat.left_eq_add, and_self, n_sub, pk_mul, T.kD i hi, eq_true (show i < 80 by omega), eq_true k6]
    exact m1 _ hn
  · obtain ⟨σ', q1, q2⟩ := second σ FL_r (fun s' c' hc' => by rw [decide_eq_false (fun q => k6 q.2.2)]; simp)
    rw [hR] at q1
    refine ⟨σ', fun post hp => ?_, q1⟩
    obtain ⟨n, hn⟩ := q2 post hp
    refine ⟨n + 1, ?_⟩
    show wb_Vd_weigh_0 (wp_Vd_weigh post n) post (nI s) (nI i) σ
    simp (disch := omega) only [wb_Vd_weigh_0, litI, n_le, n_lt, n_eq, n_in, n_cl, nI_add, n_b0, n_b1, n_v0, n_v1, n_m1, n_m1', n_m1l, n_m1l', n_m1g, n_m1ge, si_1, si_2, forall_eq, not_true_eq_false, not_false_eq_true, true_imp_iff, false_imp_iff, true_and, and_true, false_and, and_false, implies_true, ite_true, ite_false, if_true, if_false, Classical.not_not, Nat.reduceEqDiff, reduceIte, Nat.add_left_cancel_iff, Nat.add_eq_left, Nat.left_eq_add, and_self, n_sub, pk_mul, T.kD i hi, eq_true (show i < 80 by omega), eq_false k6]
    exact hn
/-- the verdicts stand -/
abbrev VD (tS : Nat → Nat) (lS : Nat) (S : TG) (tD : Nat → Nat) (lD : Nat) (D : TG) (σ : Sg) : Prop := (∀ s i, s < S.N → i < D.N → hCf S σ s i = HH tS lS S tD lD D s i) ∧ (∀ s i c, s < S.N → S.kd s = 6 → i < D.N → D.kd i = 6 → c ∈ D.K i → eCf σ s c = EE tS lS S tD lD D s c)
theorem VD.h {tS : Nat → Nat} {lS : Nat} {S : TG} {tD : Nat → Nat} {lD : Nat} {D : TG} {σ : Sg} (hX : VD tS lS S tD lD D σ) : ∀ s i, s < S.N → i < D.N → hCf S σ s i = HH tS lS S tD lD D s i := hX.1
theorem VD.e {tS : Nat → Nat} {lS : Nat} {S : TG} {tD : Nat → Nat} {lD : Nat} {D : TG} {σ : Sg} (hX : VD tS lS S tD lD D σ) : ∀ s i c, s < S.N → S.kd s = 6 → i < D.N → D.kd i = 6 → c ∈ D.K i → eCf σ s c = EE tS lS S tD lD D s c := hX.2
theorem verdict_f (hf : σ.1 35 3 = nI 1) : Rv (wq_Vd_refresh σ) σ := by
  intro post hp
  refine ⟨1, ?_⟩
  show wb_Vd_refresh_0 (wp_Vd_refresh post 0) post σ
  simp (disch := omega) only [wb_Vd_refresh_0, hf, litI, n_le, n_lt, n_eq, n_in, n_cl, nI_add, n_b0, n_b1, n_v0, n_v1, n_m1, n_m1', n_m1l, n_m1l', n_m1g, n_m1ge, si_1, si_2, forall_eq, not_true_eq_false, not_false_eq_true, true_imp_iff, false_imp_iff, true_and, and_true, false_and, and_false, implies_true, ite_true, ite_false, if_true, if_false, Classical.not_not, Nat.reduceEqDiff, reduceIte, Nat.add_left_cancel_iff, Nat.add_eq_left, Nat.left_eq_add, and_self, n_sub, pk_mul, show ¬ (1 = 0) by decide]
  exact hp
theorem verdict_r (C : CV tS lS S tD lD D σ) {Lm Lc : List Nat} (hlm : OLm tS lS S Lm) (hall : ∀ s, s < S.N → s ∈ Lm) (P : PF tS lS S σ Lc) (hc : allC S Lc = true) (hf : σ.1 35 3 = nI 0) :
    ∃ σ', Rv (wq_Vd_refresh σ) σ' ∧ σ'.1 = (si σ 35 3 (nI 1)).1 ∧ σ'.2.2 = σ.2.2 ∧ (∀ c k, c ≠ 37 → c ≠ 39 → σ'.2.1 c k = σ.2.1 c k) ∧ VD tS lS S tD lD D σ' := by
  have hn := C.c.ns
  have hd := C.c.nd
  have hWS := C.c.ws
  have hWD := C.c.wd
  have hin : ∀ s, s < S.N → S.kd s = 6 → s ∈ Lc := fun s hs h6 => by
    rcases of_decide_eq_true (List.all_eq_true.mp hc s (List.mem_range.mpr hs)) with z | z
    · exact absurd h6 z
    · exact z
  have hll := OL_len P.l
  obtain ⟨σa, a1, a2, a3, a4, a5⟩ := Mk_clear_r 36 (si σ 35 3 (nI 1))
  obtain ⟨σb, b1, b2, b3, b4, b5⟩ := Mk_clear_r 38 σa
  have e1 : σb.1 = (si σ 35 3 (nI 1)).1 := b2.trans a2
  have hba : ∀ s i, s < 160 → i < 128 → hb σb 36 s i = false := fun s i h1 h2 => by rw [hb_o (fun k => b4 37 k (by omega))]; exact a5 s i h1 h2
  have cell : ∀ σ1 : Sg, σ1.1 = (si σ 35 3 (nI 1)).1 → ∀ c k, c ≠ 35 → σ1.1 c k = σ.1 c k := fun σ1 e c k h => by rw [e, si_c h]
  have CV1 : ∀ σ1 : Sg, σ1.1 = (si σ 35 3 (nI 1)).1 → CV tS lS S tD lD D σ1 := fun σ1 e => by
    obtain ⟨⟨s, d, ws, wd, ns, nd⟩, p⟩ := C
    have ee : ∀ c, c ≠ 35 → σ1.1 c = σ.1 c := fun c h => funext fun k => cell σ1 e c k h
    exact ⟨⟨CI_cg s (fun c hc => ee c (by omega)), CI_cg d (fun c hc => ee c (by omega)), ws, wd, ns, nd⟩, ⟨by rw [ee 30 (by omega)]; exact p.w, by rw [ee 31 (by omega)]; exact p.t, by rw [ee 32 (by omega)]; exact p.p⟩⟩
  obtain ⟨R, hR⟩ : ∃ R : Sg → Prop, R = fun σ' => FL P36 σb σ' ∧ VD tS lS S tD lD D σ' := ⟨_, rfl⟩
  have e2 : ∀ m, nI m + (-1) = nI m - nI 1 := fun m => by rw [Int32.sub_eq_add_neg]; rfl
  -- rounds over the document
  have outer : ∀ m (σ1 : Sg), m ≤ D.N → FL P36 σb σ1 → (∀ s i, s < S.N → S.kd s = 6 → i < D.N → hb σ1 36 s i = (decide (m ≤ i) && HH tS lS S tD lD D s i)) → (∀ s i c, s < S.N → S.kd s = 6 → i < D.N → c ∈ D.K i → hb σ1 38 s c = (decide (D.kd i = 6 ∧ m ≤ i) && EE tS lS S tD lD D s c)) → Ex0 (fun post n => wp_Vd_refresh post n 1 (nI m - nI 1) 0 σ1) R := by
    intro m
    induction m with
    | zero =>
      intro σ1 _ f1 hh he
      refine ⟨σ1, ?_, fun post hp => ⟨1, ?_⟩⟩
      · rw [hR]
        refine ⟨f1, ⟨fun s i hs hi => ?_, fun s i c hs h6 hi k6 hcK => ?_⟩⟩
        · unfold hCf
          by_cases h6 : S.kd s = 6
          · rw [if_pos h6, hh s i hs h6 hi]; simp
          · rw [if_neg h6, HH_e hWS hWD hlm hall hs hi]; unfold hStep; rw [if_neg h6]
        · show hb σ1 38 s c = _
          rw [he s i c hs h6 hi hcK]; simp [k6]
      · show wb_Vd_refresh_1 (wp_Vd_refresh post 0) post (nI 0 - nI 1) σ1
        rw [m1n]
        simp only [wb_Vd_refresh_1, litI, hm0, litI, n_le, n_lt, n_eq, n_in, n_cl, nI_add, n_b0, n_b1, n_v0, n_v1, n_m1, n_m1', n_m1l, n_m1l', n_m1g, n_m1ge, si_1, si_2, forall_eq, not_true_eq_false, not_false_eq_true, true_imp_iff, false_imp_iff, true_and, and_true, false_and, and_false, implies_true, ite_true, ite_false, if_true, if_false, Classical.not_not, Nat.reduceEqDiff, reduceIte, Nat.add_left_cancel_iff, Nat.add_eq_left, Nat.left_eq_add, and_self, n_sub, pk_mul]
        exact hp
    | succ i ih =>
      intro σ1 hm f1 hh he
      have e3 : nI (i + 1) - nI 1 = nI i := by rw [n_sub (by omega)]; rfl
      rw [e3]
      -- rounds over the order
      have inner : ∀ B A (σ2 : Sg), Lc = A ++ B → FL P36 σb σ2 → VI tS lS S tD lD D σ2 i A → Ex0 (fun post n => wp_Vd_refresh post n 2 (nI i) (nI A.length) σ2) R := by
        intro B
        induction B with
        | nil =>
          intro A σ2 hL f2 V
          rw [List.append_nil] at hL
          have h6' : σ2.1 29 6 = nI A.length := by rw [cell σ2 (f2.1.trans e1) 29 6 (by omega), P.n, hL]
          rw [hL] at hll
          refine Ex0_s (ih σ2 (by omega) f2 (fun s i' hs h6 hi' => ?_) (fun s i' c hs h6 hi' hcK => ?_)) (fun post n hn => ⟨n + 1, ?_⟩)
          · rw [V.h s i' hs h6 hi']
            have hA : s ∈ A := by rw [← hL]; exact hin s hs h6
            have hdd := dd (show (i < i' ∨ (i' = i ∧ s ∈ A)) ↔ i ≤ i' from ⟨fun q => by omega, fun q => by
              rcases Nat.eq_or_lt_of_le q with z | z
              · exact Or.inr ⟨z.symm, hA⟩
              · exact Or.inl z⟩)
            rw [hdd]
          · rw [V.e s i' c hs h6 hi' hcK]
            have hA : s ∈ A := by rw [← hL]; exact hin s hs h6
            have hdd := dd (show (D.kd i' = 6 ∧ (i < i' ∨ (i' = i ∧ s ∈ A))) ↔ (D.kd i' = 6 ∧ i ≤ i') from ⟨fun q => ⟨q.1, by omega⟩, fun q => ⟨q.1, by
              rcases Nat.eq_or_lt_of_le q.2 with z | z
              · exact Or.inr ⟨z.symm, hA⟩
              · exact Or.inl z⟩⟩)
            rw [hdd]
          · show wb_Vd_refresh_2 (wp_Vd_refresh post n) post (nI i) (nI A.length) σ2
            rw [← e2] at hn
            simp (disch := omega) only [wb_Vd_refresh_2, h6', n_le, Nat.le_refl, not_true_eq_false, false_imp_iff, true_imp_iff, and_true]
            exact hn
        | cons s B ihB =>
          intro A σ2 hL f2 V
          have hs := P.l.lt s (by rw [hL]; simp)
          have hnd := P.l.nd
          rw [hL] at hnd
          have hnA : s ∉ A := fun q => (List.nodup_append.mp hnd).2.2 s q s (List.mem_cons_self ..) rfl
          have hlen : Lc.length = A.length + B.length + 1 := by rw [hL]; simp; omega
          obtain ⟨σ3, w1, w2, w3⟩ := weigh_r (CV1 σ2 (f2.1.trans e1)) hlm hall hs.1 (show i < D.N by omega) hs.2 V hnA (P.l.tp A s B hL)
          refine Ex0_s (ihB (A ++ [s]) σ3 (by rw [hL]; simp) (FL_t f2 w2) w3) (fun post n hn => ⟨n + 1, ?_⟩)
          rw [List.length_append] at hn
          show wb_Vd_refresh_2 (wp_Vd_refresh post n) post (nI i) (nI A.length) σ2
          have h6' : σ2.1 29 6 = nI Lc.length := by rw [cell σ2 (f2.1.trans e1) 29 6 (by omega), P.n]
          have h33 : σ2.1 33 A.length = nI s := by
            rw [cell σ2 (f2.1.trans e1) 33 _ (by omega), P.o _ (by omega), hL]; simp
          simp (disch := omega) only [wb_Vd_refresh_2, h6', n_le, eq_false (show ¬ Lc.length ≤ A.length by omega), not_false_eq_true, false_imp_iff, true_imp_iff, true_and, n_in, n_cl, eq_true (show A.length < 160 by omega), h33, litI, nI_add]
          exact w1 _ hn
      refine Ex0_s (inner Lc [] σ1 rfl f1 ⟨fun s i' hs h6 hi' => ?_, fun s i' c hs h6 hi' hcK => ?_⟩) (fun post n hn => ⟨n + 1, ?_⟩)
      · rw [hh s i' hs h6 hi']
        have hdd := dd (show (i + 1 ≤ i') ↔ (i < i' ∨ (i' = i ∧ s ∈ ([] : List Nat))) from ⟨fun q => Or.inl q, fun q => q.elim (fun z => z) (fun z => absurd z.2 (by simp))⟩)
        rw [hdd]
      · rw [he s i' c hs h6 hi' hcK]
        have hdd := dd (show (D.kd i' = 6 ∧ i + 1 ≤ i') ↔ (D.kd i' = 6 ∧ (i < i' ∨ (i' = i ∧ s ∈ ([] : List Nat)))) from ⟨fun q => ⟨q.1, Or.inl q.2⟩, fun q => ⟨q.1, q.2.elim (fun z => z) (fun z => absurd z.2 (by simp))⟩⟩)
        rw [hdd]
      · show wb_Vd_refresh_1 (wp_Vd_refresh post n) post (nI i) σ1
        simp (disch := omega) only [wb_Vd_refresh_1, litI, n_lt, eq_false (show ¬ i < 0 by omega), not_false_eq_true, false_imp_iff, true_imp_iff, true_and]
        exact hn
  obtain ⟨σ', q1, q2⟩ := outer D.N σb (Nat.le_refl _) FL_r (fun s i hs h6 hi => by rw [hba s i (by omega) (by omega), decide_eq_false (by omega)]; rfl) (fun s i c hs h6 hi hcK => by
    have := hWD.ch i hi c hcK
    rw [b5 s c (by omega) (by omega), decide_eq_false (by omega)]; rfl)
  rw [hR] at q1
  refine ⟨σ', fun post hp => ?_, q1.1.1.trans e1, q1.1.2.1.trans (b3.trans a3), fun c k h1 h2 => ?_, q1.2⟩
  · obtain ⟨n, hn⟩ := q2 post hp
    refine ⟨n + 1, ?_⟩
    show wb_Vd_refresh_0 (wp_Vd_refresh post n) post σ
    have h9 : σb.1 13 9 = nI D.N := by rw [cell σb e1 13 9 (by omega)]; exact C.c.d.N
    simp (disch := omega) only [wb_Vd_refresh_0, hf, litI, n_le, n_lt, n_eq, n_in, n_cl, nI_add, n_b0, n_b1, n_v0, n_v1, n_m1, n_m1', n_m1l, n_m1l', n_m1g, n_m1ge, si_1, si_2, forall_eq, not_true_eq_false, not_false_eq_true, true_imp_iff, false_imp_iff, true_and, and_true, false_and, and_false, implies_true, ite_true, ite_false, if_true, if_false, Classical.not_not, Nat.reduceEqDiff, reduceIte, Nat.add_left_cancel_iff, Nat.add_eq_left, Nat.left_eq_add, and_self, n_sub, pk_mul]
    refine ⟨by decide +kernel, a1 _ (b1 _ ?_)⟩
    rw [h9]
    exact hn
  · rw [q1.1.2.2 c k (by unfold P36; omega), b4 c k (by omega), a4 c k (by omega)]; rfl
end VC
