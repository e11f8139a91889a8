section JU
variable {tS : Nat → Nat} {lS : Nat} {S : TG} {tD : Nat → Nat} {lD : Nat} {D : TG} {L : List Nat} {σ : Sg}
noncomputable def EP (tS : Nat → Nat) (lS : Nat) (S : TG) (tD : Nat → Nat) (lD : Nat) (D : TG) (s i c : Nat) : Bool := decide (S.kd s = 6 ∧ D.kd i = 6 ∧ c ∈ D.K i) && (EE tS lS S tD lD D s c || (rul tS lS S s 20).isSome)
noncomputable def urf (tS : Nat → Nat) (lS : Nat) (S : TG) (σ : Sg) (s i c : Nat) : Bool := match rul tS lS S s 19 with
  | some v => (match mtg tS lS S v with
    | some x => hMf σ x i && bt σ 86 x c
    | none => false)
  | none => false
theorem evm_EE (hW : WG lS S) (hWD : WG lD D) (hl : OLm tS lS S L) (hall : ∀ s, s < S.N → s ∈ L) {s i c : Nat} (hs : s < S.N) (hi : i < D.N) (hx : ∀ x, Dp tS lS S s x → hMf σ x i = HH tS lS S tD lD D x i ∧ bt σ 86 x c = EP tS lS S tD lD D x i c) :
    evm tS lS S tD lD D σ s i c = (decide (D.kd i = 6 ∧ c ∈ D.K i) && EE tS lS S tD lD D s c) := by
  have hep : ∀ x, Dp tS lS S s x → (hMf σ x i && bt σ 86 x c) = (decide (D.kd i = 6 ∧ c ∈ D.K i) && epb tS lS S (HH tS lS S tD lD D) (EE tS lS S tD lD D) i c x) := fun x hd => by
    rw [(hx x hd).1, (hx x hd).2]
    unfold EP epb
    by_cases k6 : D.kd i = 6 ∧ c ∈ D.K i
    · rw [decide_eq_true k6]
      by_cases kx : S.kd x = 6
      · rw [decide_eq_true kx, decide_eq_true ⟨kx, k6⟩]; simp
      · rw [decide_eq_false kx, decide_eq_false (fun q => kx q.1)]; simp
    · rw [decide_eq_false k6, decide_eq_false (fun q => k6 q.2)]; simp
  have hin : ∀ w, 15 ≤ w → w ≤ 17 → uni tS lS S σ s i c w = (decide (D.kd i = 6 ∧ c ∈ D.K i) && inb tS lS S (HH tS lS S tD lD D) (EE tS lS S tD lD D) s i c w) := fun w w1 w2 => by
    unfold inb uni
    cases hr : rul tS lS S s w with
    | none => simp
    | some v =>
      by_cases k5 : S.kd v = 5
      · simp only [k5, if_true]
        rw [any_cg (fun x hxv => hep x (Or.inl ⟨w, v, w1, w2, hr, k5, hxv⟩))]
        by_cases k6 : D.kd i = 6 ∧ c ∈ D.K i
        · rw [decide_eq_true k6]; simp
        · rw [decide_eq_false k6]; simp
      · simp only [k5, if_false, Bool.and_false]
  have hrf : urf tS lS S σ s i c = (decide (D.kd i = 6 ∧ c ∈ D.K i) && rfb tS lS S (HH tS lS S tD lD D) (EE tS lS S tD lD D) s i c) := by
    unfold rfb urf
    cases hr : rul tS lS S s 19 with
    | none => simp
    | some v =>
      cases hm : mtg tS lS S v with
      | none => simp [hm]
      | some x => simp only [hm]; exact hep x (Or.inr (Or.inr ⟨v, hr, hm⟩))
  show ((decide (D.kd i = 6 ∧ c ∈ D.K i) && ((prf tS lS S tD lD D s c).isSome || (rul tS lS S s 13).isSome)) || uni tS lS S σ s i c 15 || uni tS lS S σ s i c 16 || uni tS lS S σ s i c 17 || urf tS lS S σ s i c) = _
  rw [hin 15 (by omega) (by omega), hin 16 (by omega) (by omega), hin 17 (by omega) (by omega), hrf]
  by_cases k6 : D.kd i = 6 ∧ c ∈ D.K i
  · rw [decide_eq_true k6, EE_e hW hWD hl hall hs hi k6.2]
    unfold evb
    simp only [Bool.true_and]
  · rw [decide_eq_false k6]; simp
theorem sob_0 {h e : Nat → Nat → Bool} {s w v i : Nat} (hw : w = 0 ∨ 21 ≤ w) : sob tS lS S tD lD D h e s w v i = true := by
  unfold sob
  rw [if_neg (by omega), if_neg (by omega), if_neg (by omega), if_neg (by omega), if_neg (by omega), if_neg (by omega), if_neg (by omega), if_neg (by omega), if_neg (by omega), if_neg (by omega), if_neg (by omega)]
theorem all_w (hW : WG lS S) {h e : Nat → Nat → Bool} {s i : Nat} (hs : s < S.N) (h6 : S.kd s = 6) : (S.K s).all (fun v => sob tS lS S tD lD D h e s (wrd tS lS S v) v i) = true ↔ ∀ w, 1 ≤ w → w ≤ 20 → ∀ v, rul tS lS S s w = some v → sob tS lS S tD lD D h e s w v i = true := by
  rw [List.all_eq_true]
  constructor
  · intro q w w1 w2 v hr
    have hv := (rul_mem hr).2
    have e := (rul_wrd hW hs h6 hv w1).mpr hr
    have := q v hv
    rw [e] at this; exact this
  · intro q v hv
    by_cases hw : wrd tS lS S v = 0 ∨ 21 ≤ wrd tS lS S v
    · exact sob_0 hw
    · exact q _ (by omega) (by omega) v ((rul_wrd hW hs h6 hv (by omega)).mp rfl)
def Pf (c k : Nat) : Prop := (c = 54 ∧ (k = 38 ∨ k = 39)) ∨ (82 ≤ c ∧ c ≤ 83) ∨ (86 ≤ c ∧ c ≤ 87)
theorem fill_m (M : MC tS lS S tD lD D L σ) (hE : ∀ a j, a < S.N → j < D.N → bt σ 80 a j = EQ tS lS S tD lD D a j) (hall : ∀ s, s < S.N → s ∈ L) {i : Nat} (hi : i < D.N) (hc : ∀ s, s < S.N → ∀ c ∈ D.K i, bt σ 82 s c = HH tS lS S tD lD D s c) (ho : ∀ s, s < S.N → bt σ 82 s i = true → HH tS lS S tD lD D s i = true) :
    ∃ σ', Rv (wq_Md_fill (nI (160 + i)) σ) σ' ∧ FL Pf σ σ' ∧ (∀ s, s < S.N → bt σ' 82 s i = HH tS lS S tD lD D s i) ∧ (∀ s i', i' < 80 → i' ≠ i → bt σ' 82 s i' = bt σ 82 s i') ∧ (∀ s, s < S.N → ∀ c, c < 80 → bt σ' 86 s c = EP tS lS S tD lD D s i c) := by
  have T := MC_T M
  have hns := M.ns
  have hnd := M.nd
  have hki := M.wd.kd i hi
  have hWS := M.ws
  have hWD := M.wd
  have hl := M.p.l
  have hPf : ∀ k, ¬ Pf 55 k := fun k => by unfold Pf; omega
  obtain ⟨R, hR⟩ : ∃ R : Sg → Prop, R = fun σ' => FL Pf σ σ' ∧ (∀ s, s < S.N → bt σ' 82 s i = HH tS lS S tD lD D s i) ∧ (∀ s i', i' < 80 → i' ≠ i → bt σ' 82 s i' = bt σ 82 s i') ∧ (∀ s, s < S.N → ∀ c, c < 80 → bt σ' 86 s c = EP tS lS S tD lD D s i c) := ⟨_, rfl⟩
  have loop : ∀ B A (σ1 : Sg), L = A ++ B → FL Pf σ σ1 → (∀ s ∈ A, bt σ1 82 s i = HH tS lS S tD lD D s i ∧ ∀ c, c < 80 → bt σ1 86 s c = EP tS lS S tD lD D s i c) → (∀ s, s ∉ A → bt σ1 82 s i = bt σ 82 s i) → (∀ s i', i' < 80 → i' ≠ i → bt σ1 82 s i' = bt σ 82 s i') → Ex0 (fun post n => wp_Md_fill post n 1 (nI (160 + i)) (nI A.length) 0 0 0 σ1) R := by
    intro B
    induction B with
    | nil =>
      intro A σ1 hL f1 hA hnA hoth
      rw [List.append_nil] at hL
      have h28 : σ1.1 54 28 = nI A.length := by rw [f1.1, M.p.n, hL]
      have hll := OL_len hl
      rw [hL] at hll
      refine ⟨σ1, by rw [hR]; exact ⟨f1, fun s hs => (hA s (by rw [← hL]; exact hall s hs)).1, hoth, fun s hs => (hA s (by rw [← hL]; exact hall s hs)).2⟩, fun post hp => ⟨1, ?_⟩⟩
      show wb_Md_fill_1 (wp_Md_fill post 0) post (nI (160 + i)) (nI A.length) σ1
      simp (disch := omega) only [wb_Md_fill_1, h28, n_le, Nat.le_refl, not_true_eq_false, false_imp_iff, true_imp_iff, and_true]
      exact hp
    | cons s B ih =>
      intro A σ1 hL f1 hA hnA hoth
      have hs := (hl.lt s (by rw [hL]; simp)).1
      have hks := hWS.kd s hs
      have hnd' := hl.nd
      rw [hL] at hnd'
      have hsA : s ∉ A := fun q => (List.nodup_append.mp hnd').2.2 s q s (List.mem_cons_self ..) rfl
      have hdp : ∀ x, Dp tS lS S s x → x ∈ A := fun x hx => by
        rcases hl.tp A s B hL x hx with z | z
        · exact z.elim
        · exact z
      have hlen : L.length = A.length + B.length + 1 := by rw [hL]; simp; omega
      have hll := OL_len hl
      have h28 : ∀ σ2, FL Pf σ σ2 → σ2.1 54 28 = nI L.length := fun σ2 f => by rw [f.1, M.p.n]
      have h78 : σ1.1 78 A.length = nI s := by rw [f1.1, M.p.o _ (by omega), hL]; simp
      have h59 : ∀ σ2, FL Pf σ σ2 → σ2.1 59 s = nI (S.kd s) := fun σ2 f => by rw [f.1]; exact T.kS s hs
      -- the end of the round: the set is what s evaluates, yes its verdict
      have fin : ∀ (σ2 : Sg), FL Pf σ σ2 → (∀ c k, c ≠ 54 → σ2.2.1 c k = σ1.2.1 c k) → (∀ c, c < 80 → st σ2 c = EP tS lS S tD lD D s i c) → Ex0 (fun post n => wp_Md_fill post n 3 (nI (160 + i)) (nI A.length) (nI s) (nB (HH tS lS S tD lD D s i)) 0 σ2) R := by
        intro σ2 f2 o2 hst
        let σ3 := sl (sl σ2 86 s (σ2.2.1 54 38)) 87 s ((sl σ2 86 s (σ2.2.1 54 38)).2.1 54 39)
        let σ4 := sl (sl σ3 54 38 (σ3.2.1 82 s)) 54 39 ((sl σ3 54 38 (σ3.2.1 82 s)).2.1 83 s)
        let σ5 := if HH tS lS S tD lD D s i then madd σ4 i else σ4
        let σ6 := sl (sl σ5 82 s (σ5.2.1 54 38)) 83 s ((sl σ5 82 s (σ5.2.1 54 38)).2.1 54 39)
        have f3 : FL Pf σ σ3 := FL_sl (FL_sl f2 (Or.inr (Or.inr (by omega)))) (Or.inr (Or.inr (by omega)))
        have f4 : FL Pf σ σ4 := FL_sl (FL_sl f3 (Or.inl ⟨rfl, by omega⟩)) (Or.inl ⟨rfl, by omega⟩)
        have f5 : FL Pf σ σ5 := by
          simp only [σ5]; split
          · exact FL_add f4 (Or.inl ⟨rfl, by omega⟩) (Or.inl ⟨rfl, by omega⟩)
          · exact f4
        have f6 : FL Pf σ σ6 := FL_sl (FL_sl f5 (Or.inr (Or.inl (by omega)))) (Or.inr (Or.inl (by omega)))
        have o5 : ∀ c k, c ≠ 54 → c ≠ 86 → c ≠ 87 → σ5.2.1 c k = σ1.2.1 c k := fun c k h1 h2 h3 => by
          have e4 : σ4.2.1 c k = σ1.2.1 c k := by
            simp only [σ4, σ3]; rw [sl_2, if_neg (fun q => h1 q.1), sl_2, if_neg (fun q => h1 q.1), sl_2, if_neg (fun q => h3 q.1), sl_2, if_neg (fun q => h2 q.1)]; exact o2 c k h1
          simp only [σ5]; split
          · rw [madd_o h1]; exact e4
          · exact e4
        have o86 : ∀ k, (σ6.2.1 86 k = σ3.2.1 86 k) ∧ (σ6.2.1 87 k = σ3.2.1 87 k) := fun k => by
          have e4 : ∀ c, c = 86 ∨ c = 87 → σ5.2.1 c k = σ3.2.1 c k := fun c hc => by
            have e4 : σ4.2.1 c k = σ3.2.1 c k := by simp only [σ4]; rw [sl_2, if_neg (by omega), sl_2, if_neg (by omega)]
            simp only [σ5]; split
            · rw [madd_o (by omega)]; exact e4
            · exact e4
          simp only [σ6]
          exact ⟨by rw [sl_2, if_neg (by omega), sl_2, if_neg (by omega)]; exact e4 86 (by omega), by rw [sl_2, if_neg (by omega), sl_2, if_neg (by omega)]; exact e4 87 (by omega)⟩
        have st4 : ∀ k, k < 80 → st σ4 k = bt σ1 82 s k := fun k hk => by
          have e82 : σ3.2.1 82 s = σ1.2.1 82 s := by simp only [σ3]; rw [sl_2, if_neg (by omega), sl_2, if_neg (by omega)]; exact o2 82 s (by omega)
          have e83 : σ3.2.1 83 s = σ1.2.1 83 s := by simp only [σ3]; rw [sl_2, if_neg (by omega), sl_2, if_neg (by omega)]; exact o2 83 s (by omega)
          unfold st bt; by_cases hk2 : k < 64 <;> simp [hk2, σ4, sl_2, e82, e83]
        have b6 : ∀ k, k < 80 → bt σ6 82 s k = (bt σ1 82 s k || (HH tS lS S tD lD D s i && decide (k = i))) := fun k hk => by
          simp only [σ6]; rw [bt_st (by omega) (by omega)]
          simp only [σ5]
          cases hq : HH tS lS S tD lD D s i with
          | true => simp only [if_true]; rw [st_add (by omega) (by omega), st4 k hk]; simp
          | false => simp only [Bool.false_eq_true, if_false]; rw [st4 k hk]; simp
        have b6o : ∀ s' k, s' ≠ s → bt σ6 82 s' k = bt σ1 82 s' k := fun s' k hne => by
          refine bt_o ?_ ?_
          · simp only [σ6]; rw [sl_2, if_neg (fun q => by omega), sl_2, if_neg (fun q => hne q.2)]; exact o5 82 s' (by omega) (by omega) (by omega)
          · simp only [σ6]; rw [sl_2, if_neg (fun q => hne q.2), sl_2, if_neg (fun q => by omega)]; exact o5 83 s' (by omega) (by omega) (by omega)
        have e6s : ∀ c, c < 80 → bt σ6 86 s c = EP tS lS S tD lD D s i c := fun c hc => by
          rw [← hst c hc, bt_o (σ := σ3) (o86 s).1 (o86 s).2]
          simp only [σ3]; rw [bt_st (by omega) (by omega)]
        have e6o : ∀ s' c, s' ≠ s → bt σ6 86 s' c = bt σ1 86 s' c := fun s' c hne => by
          refine bt_o ?_ ?_
          · rw [(o86 s').1]; simp only [σ3]; rw [sl_2, if_neg (fun q => by omega), sl_2, if_neg (fun q => hne q.2)]; exact o2 86 s' (by omega)
          · rw [(o86 s').2]; simp only [σ3]; rw [sl_2, if_neg (fun q => hne q.2), sl_2, if_neg (fun q => by omega)]; exact o2 87 s' (by omega)
        refine Ex0_s (ih (A ++ [s]) σ6 (by rw [hL]; simp) f6 (fun s' hs' => ?_) (fun s' hs' => ?_) (fun s' i' hi' hne => ?_)) (fun post n hn => ⟨n + 2, ?_⟩)
        · rcases List.mem_append.mp hs' with q | q
          · have hne : s' ≠ s := fun e => hsA (e ▸ q)
            exact ⟨by rw [b6o s' i hne]; exact (hA s' q).1, fun c hc => by rw [e6o s' c hne]; exact (hA s' q).2 c hc⟩
          · simp at q; subst q
            refine ⟨?_, e6s⟩
            rw [b6 i (by omega), hnA s' hsA, decide_eq_true rfl, Bool.and_true]
            cases hq : bt σ 82 s' i with
            | false => simp
            | true => rw [ho s' hs hq]; rfl
        · have h1 : s' ∉ A := fun q => hs' (List.mem_append.mpr (Or.inl q))
          have h2 : s' ≠ s := fun e => hs' (by rw [e]; simp)
          rw [b6o s' i h2]; exact hnA s' h1
        · by_cases e : s' = s
          · subst e; rw [b6 i' hi', decide_eq_false hne, Bool.and_false, Bool.or_false]; exact hoth s' i' hi' hne
          · rw [b6o s' i' e]; exact hoth s' i' hi' hne
        · rw [List.length_append] at hn
          show wb_Md_fill_3 (wp_Md_fill post (n + 1)) post (nI (160 + i)) (nI A.length) (nI s) (nB (HH tS lS S tD lD D s i)) σ2
          have s6 : wp_Md_fill post (n + 1) 6 (nI (160 + i)) (nI A.length) (nI s) 0 0 σ5 := by
            show wb_Md_fill_6 (wp_Md_fill post n) post (nI (160 + i)) (nI A.length) (nI s) σ5
            simp (disch := omega) only [wb_Md_fill_6, n_in, n_cl, eq_true (show s < 160 by omega), true_and, forall_eq, litI, nI_add]
            exact hn
          simp (disch := omega) only [wb_Md_fill_3, n_in, n_cl, eq_true (show s < 160 by omega), true_and, forall_eq, litI, n_sub, show 160 + i - 160 = i by omega, Md_add_r (show i < 128 by omega)]
          refine bQ (fun q => ?_) (fun q => ?_)
          · have e5 : σ5 = σ4 := by simp only [σ5, q]; rfl
            rw [e5] at s6; exact s6
          · have e5 : σ5 = madd σ4 i := by simp only [σ5, q]; rfl
            rw [e5] at s6; exact s6
      have f0 : FL Pf σ (sl (sl σ1 54 38 0) 54 39 0) := FL_sl (FL_sl f1 (Or.inl ⟨rfl, by omega⟩)) (Or.inl ⟨rfl, by omega⟩)
      have h0 : ∀ c, st (sl (sl σ1 54 38 0) 54 39 0) c = false := fun c => by unfold st; by_cases hk : c < 64 <;> simp [hk, sl_2, gb_0]
      have o0 : ∀ c k, c ≠ 54 → (sl (sl σ1 54 38 0) 54 39 0).2.1 c k = σ1.2.1 c k := fun c k h1 => by rw [sl_2, if_neg (fun q => h1 q.1), sl_2, if_neg (fun q => h1 q.1)]
      by_cases h6 : S.kd s = 6
      · -- an object
        have M0 := MC_FL M f0 hPf
        obtain ⟨σ3, v1, v2, v3⟩ := evaluate_m M0 hs hi
        have f3 : FL Pf σ σ3 := FL_t f0 (FL_m v2 (fun c k h => Or.inl h))
        have o3 : ∀ c k, c ≠ 54 → σ3.2.1 c k = σ1.2.1 c k := fun c k h1 => by rw [v2.2.2 c k (fun q => h1 q.1)]; exact o0 c k h1
        have hh3 : ∀ x j, hMf σ3 x j = bt σ1 82 x j := fun x j => bt_o (o3 82 x (by omega)) (o3 83 x (by omega))
        have hst3 : ∀ c, c < 80 → st σ3 c = (decide (D.kd i = 6 ∧ c ∈ D.K i) && EE tS lS S tD lD D s c) := fun c hc => by
          rw [v3 c hc]
          refine evm_EE hWS hWD hl hall hs hi (fun x hx => ?_)
          have hxA := hA x (hdp x hx)
          exact ⟨by rw [← hxA.1]; exact bt_o (o0 82 x (by omega)) (o0 83 x (by omega)), by rw [← hxA.2 c hc]; exact bt_o (o0 86 x (by omega)) (o0 87 x (by omega))⟩
        have M3 := MC_FL M f3 hPf
        have hE3 : ∀ a j, a < S.N → j < D.N → bt σ3 80 a j = EQ tS lS S tD lD D a j := fun a j ha hj => by
          rw [← hE a j ha hj]; exact bt_o (f3.2.2 80 a (by unfold Pf; omega)) (f3.2.2 81 a (by unfold Pf; omega))
        have hcN : ∀ c ∈ D.K i, i < c ∧ c < D.N := fun c hcK => ⟨(hWD.ch i hi c hcK).1, (hWD.ch i hi c hcK).2.1⟩
        have hsob : ∀ w v, 1 ≤ w → rul tS lS S s w = some v → sob tS lS S tD lD D (hMf σ3) (eMf σ3) s w v i = sob tS lS S tD lD D (HH tS lS S tD lD D) (EE tS lS S tD lD D) s w v i := fun w v w1 hr => by
          have hv := (rul_mem hr).2
          refine sob_cg hWS hWD hs hi hv ((rul_wrd hWS hs h6 hv w1).mpr hr) h6 (fun x hx => by rw [hh3]; exact (hA x (hdp x hx)).1) (fun c hcK x hx => ?_) (fun c hcK k6 => ?_)
          · have := hcN c hcK
            rw [hh3, hoth x c (by omega) (by omega)]; exact hc x hx c hcK
          · have := hcN c hcK
            show st σ3 c = _
            rw [hst3 c (by omega), decide_eq_true ⟨k6, hcK⟩, Bool.true_and]
        have hHs : HH tS lS S tD lD D s i = (S.K s).all (fun v => sob tS lS S tD lD D (HH tS lS S tD lD D) (EE tS lS S tD lD D) s (wrd tS lS S v) v i) := by
          rw [HH_e hWS hWD hl hall hs hi]; unfold hStep; rw [if_pos h6]
        -- children that unevaluated speaks of
        have kids : ∀ suf pre x (σ4 : Sg), D.K i = pre ++ suf → chM 1 (σ.1 66) x suf → FL Pf σ σ4 → (∀ c k, c ≠ 54 → σ4.2.1 c k = σ1.2.1 c k) → (∀ c, c < 80 → st σ4 c = (st σ3 c || decide (c ∈ pre))) → D.kd i = 6 → (rul tS lS S s 20).isSome = true → Ex0 (fun post n => wp_Md_fill post n 5 (nI (160 + i)) (nI A.length) (nI s) (nB (HH tS lS S tD lD D s i)) x σ4) R := by
          intro suf
          induction suf with
          | nil =>
            intro pre x σ4 hK hx f4 o4 h4 k6 h20
            have hx : x = -nI 1 := hx
            subst hx
            rw [List.append_nil] at hK
            refine Ex0_s (fin σ4 f4 o4 (fun c hc => ?_)) (fun post n hn => ⟨n + 1, ?_⟩)
            · rw [h4 c hc, hst3 c hc]
              unfold EP
              rw [h20, Bool.or_true, Bool.and_true]
              by_cases q : c ∈ D.K i
              · rw [decide_eq_true (⟨h6, k6, q⟩ : S.kd s = 6 ∧ D.kd i = 6 ∧ c ∈ D.K i), decide_eq_true (show c ∈ pre by rw [← hK]; exact q)]; simp
              · rw [decide_eq_false (fun z => q z.2.2 : ¬ (S.kd s = 6 ∧ D.kd i = 6 ∧ c ∈ D.K i)), decide_eq_false (fun z => q z.2 : ¬ (D.kd i = 6 ∧ c ∈ D.K i)), decide_eq_false (show ¬ c ∈ pre by rw [← hK]; exact q)]; simp
            · show wb_Md_fill_5 (wp_Md_fill post n) post (nI (160 + i)) (nI A.length) (nI s) (nB (HH tS lS S tD lD D s i)) (-nI 1) σ4
              simp (disch := omega) only [wb_Md_fill_5, litI, hm0, litI, n_le, n_lt, n_eq, n_in, n_cl, nI_add, n_b0, n_b1, n_v0, n_v1, n_m1, n_m1', n_m1l, n_m1l', n_m1g, n_m1ge, si_1, si_2, forall_eq, not_true_eq_false, not_false_eq_true, true_imp_iff, false_imp_iff, true_and, and_true, false_and, and_false, implies_true, ite_true, ite_false, if_true, if_false, Classical.not_not, Nat.reduceEqDiff, reduceIte, Nat.add_left_cancel_iff, Nat.add_eq_left, Nat.left_eq_add, and_self, n_sub, pk_mul]
              exact hn
          | cons c suf ihk =>
            intro pre x σ4 hK hx f4 o4 h4 k6 h20
            obtain ⟨hx, hx2⟩ := hx
            rw [show 160 * 1 + c = 160 + c by omega] at hx hx2
            subst hx
            have hcK : c ∈ D.K i := by rw [hK]; simp
            have hc1 := hcN c hcK
            have f5 : FL Pf σ (madd σ4 c) := FL_add f4 (Or.inl ⟨rfl, by omega⟩) (Or.inl ⟨rfl, by omega⟩)
            refine Ex0_s (ihk (pre ++ [c]) _ (madd σ4 c) (by rw [hK]; simp) hx2 f5 (fun c' k' h1 => by rw [madd_o h1]; exact o4 c' k' h1) (fun c' hc' => by
              rw [st_add (by omega) (by omega), h4 c' hc', Bool.or_assoc]
              congr 1
              by_cases e : c' = c <;> by_cases e2 : c' ∈ pre <;> simp [e, e2]) k6 h20) (fun post n hn => ⟨n + 1, ?_⟩)
            show wb_Md_fill_5 (wp_Md_fill post n) post (nI (160 + i)) (nI A.length) (nI s) (nB (HH tS lS S tD lD D s i)) (nI (160 + c)) σ4
            have e66 : (madd σ4 c).1 66 (160 + c) = σ.1 66 (160 + c) := by rw [f5.1]
            simp (disch := omega) only [wb_Md_fill_5, litI, n_lt, eq_false (show ¬ 160 + c < 0 by omega), not_false_eq_true, false_imp_iff, true_imp_iff, true_and, n_sub, show 160 + c - 160 = c by omega, Md_add_r (show c < 128 by omega), n_in, n_cl, eq_true (show 160 + c < 240 by omega), e66]
            exact hn
        -- all words
        have words : ∀ m w (a : Bool), w + m = 21 → 1 ≤ w → (a = true ↔ ∀ w', 1 ≤ w' → w' < w → ∀ v, rul tS lS S s w' = some v → sob tS lS S tD lD D (HH tS lS S tD lD D) (EE tS lS S tD lD D) s w' v i = true) → Ex0 (fun post n => wp_Md_fill post n 4 (nI (160 + i)) (nI A.length) (nI s) (nB a) (nI w) σ3) R := by
          intro m
          induction m with
          | zero =>
            intro w a hw _ ha
            have e21 : w = 21 := by omega
            subst e21
            have ea : a = HH tS lS S tD lD D s i := by
              rw [Bool.eq_iff_iff, ha, hHs, all_w hWS hs h6]
              exact ⟨fun q w' h1 h2 => q w' h1 (by omega), fun q w' h1 h2 => q w' h1 (by omega)⟩
            subst ea
            have r20 : σ3.1 76 (22 * s + 20) = oI (rul tS lS S s 20) := M3.p.r.r s 20 hs (by omega) (by omega)
            have h59i : σ3.1 59 (160 + i) = nI (D.kd i) := (MC_T M3).kD i hi
            have none5 : ((rul tS lS S s 20).isSome = false ∨ ¬ D.kd i = 6) → Ex0 (fun post n => wp_Md_fill post n 5 (nI (160 + i)) (nI A.length) (nI s) (nB (HH tS lS S tD lD D s i)) (-nI 1) σ3) R := fun hno => by
              refine Ex0_s (fin σ3 f3 o3 (fun c hc => ?_)) (fun post n hn => ⟨n + 1, ?_⟩)
              · rw [hst3 c hc]
                unfold EP
                rcases hno with q | q
                · rw [q, Bool.or_false]
                  by_cases z : D.kd i = 6 ∧ c ∈ D.K i
                  · rw [decide_eq_true z, decide_eq_true (⟨h6, z⟩ : S.kd s = 6 ∧ D.kd i = 6 ∧ c ∈ D.K i)]
                  · rw [decide_eq_false z, decide_eq_false (fun y => z y.2 : ¬ (S.kd s = 6 ∧ D.kd i = 6 ∧ c ∈ D.K i))]
                · rw [decide_eq_false (fun z => q z.1), decide_eq_false (fun z => q z.2.1)]; simp
              · show wb_Md_fill_5 (wp_Md_fill post n) post (nI (160 + i)) (nI A.length) (nI s) (nB (HH tS lS S tD lD D s i)) (-nI 1) σ3
                simp (disch := omega) only [wb_Md_fill_5, litI, hm0, litI, n_le, n_lt, n_eq, n_in, n_cl, nI_add, n_b0, n_b1, n_v0, n_v1, n_m1, n_m1', n_m1l, n_m1l', n_m1g, n_m1ge, si_1, si_2, forall_eq, not_true_eq_false, not_false_eq_true, true_imp_iff, false_imp_iff, true_and, and_true, false_and, and_false, implies_true, ite_true, ite_false, if_true, if_false, Classical.not_not, Nat.reduceEqDiff, reduceIte, Nat.add_left_cancel_iff, Nat.add_eq_left, Nat.left_eq_add, and_self, n_sub, pk_mul]
                exact hn
            by_cases k6 : D.kd i = 6
            · cases hr : rul tS lS S s 20 with
              | none =>
                rw [hr] at r20
                refine Ex0_s (none5 (Or.inl (by rw [hr]; rfl))) (fun post n hn => ⟨n + 1, ?_⟩)
                show wb_Md_fill_4 (wp_Md_fill post n) post (nI (160 + i)) (nI A.length) (nI s) (nB (HH tS lS S tD lD D s i)) (nI 21) σ3
                simp (disch := omega) only [wb_Md_fill_4, litI, n_lt, eq_true (show 20 < 21 by omega), litI, n_le, n_lt, n_eq, n_in, n_cl, nI_add, n_b0, n_b1, n_v0, n_v1, n_m1, n_m1', n_m1l, n_m1l', n_m1g, n_m1ge, si_1, si_2, forall_eq, not_true_eq_false, not_false_eq_true, true_imp_iff, false_imp_iff, true_and, and_true, false_and, and_false, implies_true, ite_true, ite_false, if_true, if_false, Classical.not_not, Nat.reduceEqDiff, reduceIte, Nat.add_left_cancel_iff, Nat.add_eq_left, Nat.left_eq_add, and_self, n_sub, pk_mul, eq_true (show 160 + i < 240 by omega), h59i, eq_true k6, eq_true (show 22 * s + 20 < 3520 by omega), r20, oI, hm0, show (-1 : Int32) = -nI 1 from rfl]
                exact hn
              | some v =>
                have hv := rul_lt hWS hs hr
                rw [hr] at r20
                have h65 : σ3.1 65 (160 + i) = σ.1 65 (160 + i) := by rw [f3.1]
                refine Ex0_s (kids (D.K i) [] _ σ3 rfl (T.cD i hi) f3 o3 (fun c hc => by simp) k6 (by rw [hr]; rfl)) (fun post n hn => ⟨n + 1, ?_⟩)
                show wb_Md_fill_4 (wp_Md_fill post n) post (nI (160 + i)) (nI A.length) (nI s) (nB (HH tS lS S tD lD D s i)) (nI 21) σ3
                simp (disch := omega) only [wb_Md_fill_4, litI, n_lt, eq_true (show 20 < 21 by omega), litI, n_le, n_lt, n_eq, n_in, n_cl, nI_add, n_b0, n_b1, n_v0, n_v1, n_m1, n_m1', n_m1l, n_m1l', n_m1g, n_m1ge, si_1, si_2, forall_eq, not_true_eq_false, not_false_eq_true, true_imp_iff, false_imp_iff, true_and, and_true, false_and, and_false, implies_true, ite_true, ite_false, if_true, if_false, Classical.not_not, Nat.reduceEqDiff, reduceIte, Nat.add_left_cancel_iff, Nat.add_eq_left, Nat.left_eq_add, and_self, n_sub, pk_mul, eq_true (show 160 + i < 240 by omega), h59i, eq_true k6, eq_true (show 22 * s + 20 < 3520 by omega), r20, oI, eq_false (show ¬ v < 0 by omega), h65]
                exact hn
            · refine Ex0_s (none5 (Or.inr k6)) (fun post n hn => ⟨n + 1, ?_⟩)
              show wb_Md_fill_4 (wp_Md_fill post n) post (nI (160 + i)) (nI A.length) (nI s) (nB (HH tS lS S tD lD D s i)) (nI 21) σ3
              simp (disch := omega) only [wb_Md_fill_4, litI, n_lt, eq_true (show 20 < 21 by omega), litI, n_le, n_lt, n_eq, n_in, n_cl, nI_add, n_b0, n_b1, n_v0, n_v1, n_m1, n_m1', n_m1l, n_m1l', n_m1g, n_m1ge, si_1, si_2, forall_eq, not_true_eq_false, not_false_eq_true, true_imp_iff, false_imp_iff, true_and, and_true, false_and, and_false, implies_true, ite_true, ite_false, if_true, if_false, Classical.not_not, Nat.reduceEqDiff, reduceIte, Nat.add_left_cancel_iff, Nat.add_eq_left, Nat.left_eq_add, and_self, n_sub, pk_mul, eq_true (show 160 + i < 240 by omega), h59i, eq_false k6, show (-1 : Int32) = -nI 1 from rfl]
              exact hn
          | succ m ihw =>
            intro w a hw w1 ha
            have rw_ : σ3.1 76 (22 * s + w) = oI (rul tS lS S s w) := M3.p.r.r s w hs w1 (by omega)
            have next : ∀ a' : Bool, (a' = true ↔ (a = true ∧ ∀ v, rul tS lS S s w = some v → sob tS lS S tD lD D (HH tS lS S tD lD D) (EE tS lS S tD lD D) s w v i = true)) → Ex0 (fun post n => wp_Md_fill post n 4 (nI (160 + i)) (nI A.length) (nI s) (nB a') (nI (w + 1)) σ3) R := fun a' ha' => by
              refine ihw (w + 1) a' (by omega) (by omega) ?_
              rw [ha', ha]
              constructor
              · rintro ⟨q1, q2⟩ w' h1 h2
                rcases Nat.eq_or_lt_of_le (Nat.lt_succ_iff.mp h2) with e | e
                · subst e; exact q2
                · exact q1 w' h1 e
              · intro q; exact ⟨fun w' h1 h2 => q w' h1 (by omega), q w w1 (by omega)⟩
            cases a with
            | false =>
              refine Ex0_s (next false (by simp)) (fun post n hn => ⟨n + 1, ?_⟩)
              show wb_Md_fill_4 (wp_Md_fill post n) post (nI (160 + i)) (nI A.length) (nI s) (nB false) (nI w) σ3
              simp (disch := omega) only [wb_Md_fill_4, litI, n_lt, eq_false (show ¬ 20 < w by omega), litI, n_le, n_lt, n_eq, n_in, n_cl, nI_add, n_b0, n_b1, n_v0, n_v1, n_m1, n_m1', n_m1l, n_m1l', n_m1g, n_m1ge, si_1, si_2, forall_eq, not_true_eq_false, not_false_eq_true, true_imp_iff, false_imp_iff, true_and, and_true, false_and, and_false, implies_true, ite_true, ite_false, if_true, if_false, Classical.not_not, Nat.reduceEqDiff, reduceIte, Nat.add_left_cancel_iff, Nat.add_eq_left, Nat.left_eq_add, and_self, n_sub, pk_mul, eq_true (show 22 * s + w < 3520 by omega), nB_0]
              exact hn
            | true =>
              cases hr : rul tS lS S s w with
              | none =>
                rw [hr] at rw_
                refine Ex0_s (next true (by rw [hr]; simp)) (fun post n hn => ⟨n + 1, ?_⟩)
                show wb_Md_fill_4 (wp_Md_fill post n) post (nI (160 + i)) (nI A.length) (nI s) (nB true) (nI w) σ3
                simp (disch := omega) only [wb_Md_fill_4, litI, n_lt, eq_false (show ¬ 20 < w by omega), litI, n_le, n_lt, n_eq, n_in, n_cl, nI_add, n_b0, n_b1, n_v0, n_v1, n_m1, n_m1', n_m1l, n_m1l', n_m1g, n_m1ge, si_1, si_2, forall_eq, not_true_eq_false, not_false_eq_true, true_imp_iff, false_imp_iff, true_and, and_true, false_and, and_false, implies_true, ite_true, ite_false, if_true, if_false, Classical.not_not, Nat.reduceEqDiff, reduceIte, Nat.add_left_cancel_iff, Nat.add_eq_left, Nat.left_eq_add, and_self, n_sub, pk_mul, eq_true (show 22 * s + w < 3520 by omega), nB_0, Bool.true_eq_false, rw_, oI, hm0]
                exact hn
              | some v =>
                have hv := rul_lt hWS hs hr
                rw [hr] at rw_
                have hsy := says_m M3 hE3 hs hi hr w1 (by omega)
                rw [hsob w v w1 hr] at hsy
                refine Ex0_s (next (sob tS lS S tD lD D (HH tS lS S tD lD D) (EE tS lS S tD lD D) s w v i) (by rw [hr]; simp)) (fun post n hn => ⟨n + 1, ?_⟩)
                show wb_Md_fill_4 (wp_Md_fill post n) post (nI (160 + i)) (nI A.length) (nI s) (nB true) (nI w) σ3
                simp (disch := omega) only [wb_Md_fill_4, litI, n_lt, eq_false (show ¬ 20 < w by omega), nB_0, Bool.true_eq_false, n_in, n_cl, nI_add, pk_mul, eq_true (show 22 * s + w < 3520 by omega), rw_, oI, eq_false (show ¬ v < 0 by omega), not_false_eq_true, false_imp_iff, true_imp_iff, true_and]
                refine hsy _ ?_
                exact bQ (fun q => by rw [q] at hn; exact hn) (fun q => by rw [q] at hn; exact hn)
        refine Ex0_s (words 20 1 true (by omega) (by omega) ⟨fun _ w' h1 h2 => by omega, fun _ => rfl⟩) (fun post n hn => ⟨n + 2, ?_⟩)
        show wb_Md_fill_1 (wp_Md_fill post (n + 1)) post (nI (160 + i)) (nI A.length) σ1
        simp (disch := omega) only [wb_Md_fill_1, h28 σ1 f1, n_le, eq_false (show ¬ L.length ≤ A.length by omega), not_false_eq_true, false_imp_iff, true_imp_iff, true_and, n_in, n_cl, eq_true (show A.length < 160 by omega), h78, eq_true (show s < 240 by omega), h59 σ1 f1, litI, n_eq, eq_false (show ¬ S.kd s = 1 by omega)]
        show wb_Md_fill_2 (wp_Md_fill post n) post (nI (160 + i)) (nI A.length) (nI s) (nI 1) σ1
        simp (disch := omega) only [wb_Md_fill_2, forall_eq, n_in, n_cl, eq_true (show s < 240 by omega), true_and, h59 _ f0, litI, n_eq, eq_true h6, not_true_eq_false, false_imp_iff, true_imp_iff]
        exact v1 _ hn
      · -- no object
        have hHs : HH tS lS S tD lD D s i = decide (S.kd s ≠ 1) := by rw [HH_e hWS hWD hl hall hs hi]; unfold hStep; rw [if_neg h6]
        refine Ex0_s (fin _ f0 o0 (fun c hc => by rw [h0]; unfold EP; rw [decide_eq_false (fun q => h6 q.1)]; rfl)) (fun post n hn => ⟨n + 2, ?_⟩)
        show wb_Md_fill_1 (wp_Md_fill post (n + 1)) post (nI (160 + i)) (nI A.length) σ1
        simp (disch := omega) only [wb_Md_fill_1, h28 σ1 f1, n_le, eq_false (show ¬ L.length ≤ A.length by omega), not_false_eq_true, false_imp_iff, true_imp_iff, true_and, n_in, n_cl, eq_true (show A.length < 160 by omega), h78, eq_true (show s < 240 by omega), h59 σ1 f1, litI, n_eq]
        have s2 : ∀ x, x = (decide (S.kd s ≠ 1)).toNat → wp_Md_fill post (n + 1) 2 (nI (160 + i)) (nI A.length) (nI s) (nI x) 0 σ1 := fun x hx => by
          show wb_Md_fill_2 (wp_Md_fill post n) post (nI (160 + i)) (nI A.length) (nI s) (nI x) σ1
          simp (disch := omega) only [wb_Md_fill_2, forall_eq, n_in, n_cl, eq_true (show s < 240 by omega), true_and, h59 _ f0, litI, n_eq, eq_false h6, not_false_eq_true, false_imp_iff, true_imp_iff, and_true]
          rw [hHs] at hn
          rw [hx]; exact hn
        exact ⟨fun q => s2 0 (by simp [q]), fun q => s2 1 (by simp [q])⟩
  obtain ⟨σ', q1, q2⟩ := loop L [] σ rfl FL_r (by simp) (fun _ _ => rfl) (fun _ _ _ _ => rfl)
  rw [hR] at q1
  refine ⟨σ', fun post hp => ?_, q1⟩
  obtain ⟨n, hn⟩ := q2 post hp
  exact ⟨n + 1, hn⟩
end JU
