section LO
variable {tS : Nat → Nat} {lS : Nat} {S : TG} {tD : Nat → Nat} {lD : Nat} {D : TG} {σ : Sg}
def off (W : List (List Nat)) (j : Nat) : Nat := ((W.take j).map List.length).sum
theorem off_0 {W : List (List Nat)} : off W 0 = 0 := rfl
theorem off_s {W : List (List Nat)} {j : Nat} (h : j < W.length) : off W (j + 1) = off W j + (W.getD j []).length := by
  unfold off
  rw [List.take_succ_eq_append_getElem h, List.map_append, List.sum_append]
  simp only [List.map_cons, List.map_nil, List.sum_cons, List.sum_nil, Nat.add_zero]
  rw [List.getD_eq_getElem?_getD, List.getElem?_eq_getElem h]; rfl
theorem off_m {W : List (List Nat)} : ∀ {k j : Nat}, j ≤ k → k ≤ W.length → off W j ≤ off W k
  | 0, j, h, _ => by have : j = 0 := by omega
                     subst this; exact Nat.le_refl _
  | k + 1, j, h, hk => by
    rcases Nat.eq_or_lt_of_le h with e | e
    · subst e; exact Nat.le_refl _
    · have := off_m (W := W) (k := k) (j := j) (by omega) (by omega)
      rw [off_s (by omega)]; omega
theorem off_f {F : List Nat} : off (F.map (sf tS lS)) (F.map (sf tS lS)).length = fsz tS lS F := by
  unfold off fsz; rw [List.take_length, List.map_map]; rfl
/-- the names that were proposed -/
abbrev PNa (a k s l : Nat) (σ : Sg) (W : List (List Nat)) : Prop := (σ.1 a k = nI W.length) ∧ (∀ j, j ≤ W.length → σ.1 s j = nI (off W j)) ∧ (∀ j, j < W.length → ∀ m, m < (W.getD j []).length → σ.1 l (off W j + m) = nI ((W.getD j []).getD m 0))
theorem PNa.n {a k s l : Nat} {σ : Sg} {W : List (List Nat)} (hX : PNa a k s l σ W) : σ.1 a k = nI W.length := hX.1
theorem PNa.s {a k s l : Nat} {σ : Sg} {W : List (List Nat)} (hX : PNa a k s l σ W) : ∀ j, j ≤ W.length → σ.1 s j = nI (off W j) := hX.2.1
theorem PNa.l {a k s l : Nat} {σ : Sg} {W : List (List Nat)} (hX : PNa a k s l σ W) : ∀ j, j < W.length → ∀ m, m < (W.getD j []).length → σ.1 l (off W j + m) = nI ((W.getD j []).getD m 0) := hX.2.2
def Pkp (c k : Nat) : Prop := (c = 45 ∧ k = 0) ∨ c = 46 ∨ (c = 47 ∧ 1 ≤ k)
theorem keep_c (hT : Tx 0 σ lS tS) {F : List Nat} (h : FW σ F) (hF : OkF tS lS F) (h47 : σ.1 47 0 = nI 0) : ∃ σ', Rv (wq_Pr_keepFound σ) σ' ∧ Fr Pkp σ σ' ∧ PNa 45 0 47 46 σ' (F.map (sf tS lS)) := by
  have hlS : lS ≤ 160 := by have := hT.2.1; have := tl_le 0; omega
  have hFl := (OkF_len hlS hF).1
  have hFz := (OkF_len hlS hF).2
  obtain ⟨W, hW⟩ : ∃ W, W = F.map (sf tS lS) := ⟨_, rfl⟩
  have hWl : W.length = F.length := by rw [hW, List.length_map]
  have hWz : off W W.length ≤ 160 := by rw [hW, off_f]; exact hFz
  have hWg : ∀ j, j < F.length → W.getD j [] = sf tS lS (F.getD j 0) := fun j hj => by
    rw [hW, List.getD_eq_getElem?_getD, List.getElem?_map, List.getD_eq_getElem?_getD, List.getElem?_eq_getElem hj]; rfl
  obtain ⟨R, hR⟩ : ∃ R : Sg → Prop, R = fun σ' => Fr Pkp σ σ' ∧ PNa 45 0 47 46 σ' W := ⟨_, rfl⟩
  have loop : ∀ m k (σ1 : Sg), k + m = F.length → Fr Pkp σ σ1 → σ1.1 45 0 = nI W.length → (∀ j, j ≤ k → σ1.1 47 j = nI (off W j)) → (∀ j, j < k → ∀ m, m < (W.getD j []).length → σ1.1 46 (off W j + m) = nI ((W.getD j []).getD m 0)) → Ex0 (fun post n => wp_Pr_keepFound post n 1 (nI k) σ1) R := by
    intro m
    induction m with
    | zero =>
      intro k σ1 hk f h0 hs hl
      have : k = W.length := by omega
      subst this
      refine ⟨σ1, by rw [hR]; exact ⟨f, h0, hs, hl⟩, fun post hp => ⟨1, ?_⟩⟩
      show wb_Pr_keepFound_1 (wp_Pr_keepFound post 0) post (nI W.length) σ1
      unfold wb_Pr_keepFound_1
      rw [h0]
      exact ⟨fun _ => hp, fun z => absurd ((n_le (by omega) (by omega)).mpr (Nat.le_refl _)) z⟩
    | succ m ih =>
      intro k σ1 hk f h0 hs hl
      have hkF : k < F.length := by omega
      obtain ⟨g, hg⟩ : ∃ g, g = F.getD k 0 := ⟨_, rfl⟩
      have hgm : g ∈ F := by rw [hg]; exact getD_m hkF
      have hgo := hF.o g hgm
      have hqs := qe_sp (tx := tS) hgo.2.1
      have q1 := hqs.1
      have q2 := hqs.2.1
      have hsl : (W.getD k []).length = qe tS lS g - g := by rw [hWg k hkF, ← hg]; exact strn_l _ _ _
      have hT1 : Tx 0 σ1 lS tS := ⟨by rw [f.2 10 1 (by unfold Pkp; omega)]; exact hT.1, hT.2.1, fun j hj => by rw [f.2 11 j (by unfold Pkp; omega)]; exact hT.2.2 j hj⟩
      have h48 : σ1.1 48 k = nI g := by rw [f.2 48 k (by unfold Pkp; omega), h.r k hkF, hg]
      have h47k : σ1.1 47 k = nI (off W k) := hs k (Nat.le_refl _)
      have hos := off_s (W := W) (j := k) (by omega)
      have hom := off_m (W := W) (k := W.length) (j := k + 1) (by omega) (Nat.le_refl _)
      let σ2 := sw σ1 46 (va_cpy (σ1.1 11) (σ1.1 46) g (off W k) (qe tS lS g - g))
      let σ3 := si σ2 47 (k + 1) (nI (off W k) + nI (qe tS lS g - g))
      have f2 : Fr Pkp σ σ2 := Fr_t f ⟨rfl, fun c k hp => by show (sw _ _ _).1 c k = _; rw [sw_1, if_neg (fun q => hp (Or.inr (Or.inl q)))]⟩
      have f3 : Fr Pkp σ σ3 := Fr_si f2 (Or.inr (Or.inr ⟨rfl, by omega⟩))
      have e46 : ∀ x, σ3.1 46 x = va_cpy (σ1.1 11) (σ1.1 46) g (off W k) (qe tS lS g - g) x := fun x => by
        show (si σ2 47 _ _).1 46 x = _; rw [si_c (by omega)]; show (sw _ _ _).1 46 x = _; rw [sw_1, if_pos rfl]
      refine Ex0_s (ih (k + 1) σ3 (by omega) f3 (by show (si σ2 47 _ _).1 45 0 = _; rw [si_c (by omega)]; show (sw _ _ _).1 45 0 = _; rw [sw_1, if_neg (by omega)]; exact h0) (fun j hj => ?_) (fun j hj m hm => ?_)) (fun post n hn1 => ⟨n + 1, ?_⟩)
      · show (si σ2 47 _ _).1 47 j = _
        rw [si_1]
        by_cases e : j = k + 1
        · rw [if_pos ⟨rfl, e⟩, nI_add, e, hos, hsl]
        · rw [if_neg (fun q => e q.2)]; show (sw _ _ _).1 47 j = _; rw [sw_1, if_neg (by omega)]; exact hs j (by omega)
      · rw [e46]
        by_cases e : j = k
        · subst e
          rw [hsl] at hm
          rw [pk_cpy_in (by omega) (by omega), show g + (off W j + m - off W j) = g + m by omega, (hT1.2.2 (g + m) (by omega)).1, hWg j hkF, ← hg]
          unfold sf; rw [strn_g _ _ _ _ hm]
        · have ho2 := off_s (W := W) (j := j) (by omega)
          have ho3 := off_m (W := W) (k := k) (j := j + 1) (by omega) (by omega)
          rw [pk_cpy_out (by omega)]
          exact hl j (by omega) m hm
      · show wb_Pr_keepFound_1 (wp_Pr_keepFound post n) post (nI k) σ1
        unfold wb_Pr_keepFound_1
        have hsub : nI (qe tS lS g) - nI g = nI (qe tS lS g - g) := pk_sub q1
        rw [h0, n_in (a := k) (by omega), n_cl (a := k) (by omega), h48]
        refine ⟨fun z => absurd ((n_le (by omega) (by omega)).mp z) (by omega), fun _ => ⟨by omega, Tx_quotedEnd_r hT1 hqs _ ?_⟩⟩
        rw [h48, hsub, h47k, n_in (a := k) (by omega), n_cl (a := g) (by omega), n_cl (a := off W k) (by omega), n_cl (a := qe tS lS g - g) (by omega), show (1 : Int32) = nI 1 from rfl, nI_add, n_in (a := k + 1) (by omega), n_cl (a := k + 1) (by omega)]
        refine ⟨by omega, by omega, by omega, fun z => absurd ((n_lt (b := 0) (by omega) (by omega)).mp z) (by omega), fun z => absurd ((n_lt (b := 0) (by omega) (by omega)).mp z) (by omega), fun z => absurd ((n_lt (b := 0) (by omega) (by omega)).mp z) (by omega), by omega, by omega, fun x hx => ?_, fun σa ha => ⟨by omega, by omega, fun σb hb => ?_⟩⟩
        · have := hT1.2.2 (g + x) (by omega)
          rw [this.1]; exact fits_c (by omega)
        · have e47 : σa.1 47 k = nI (off W k) := by rw [ha, sw_1, if_neg (by omega)]; exact h47k
          rw [hb, e47, ha]; exact hn1
  obtain ⟨σ', r1, r2⟩ := loop F.length 0 (si σ 45 0 (nI W.length)) (by omega) (Fr_si Fr_r (Or.inl ⟨rfl, rfl⟩)) (by rw [si_1, if_pos ⟨rfl, rfl⟩]) (fun j hj => by rw [si_c (by omega), show j = 0 by omega]; exact h47) (fun j hj => by omega)
  rw [hR] at r1
  rw [← hW]
  refine ⟨σ', fun post hp => ?_, r1⟩
  obtain ⟨n, hn1⟩ := r2 post hp
  refine ⟨n + 1, ?_⟩
  show wb_Pr_keepFound_0 (wp_Pr_keepFound post n) post σ
  unfold wb_Pr_keepFound_0
  intro σ1 q
  rw [q, h.n, ← hWl]; exact hn1
theorem CV_Fr {P : Nat → Nat → Prop} {σ' : Sg} (h : CV tS lS S tD lD D σ) (f : Fr P σ σ') (hP : ∀ c k, P c k → 40 ≤ c) : CV tS lS S tD lD D σ' := by
  obtain ⟨⟨s, d, ws, wd, ns, nd⟩, p⟩ := h
  have ee : ∀ c, c < 40 → σ'.1 c = σ.1 c := fun c h => funext fun k => f.2 c k (fun q => by have := hP c k q; omega)
  exact ⟨⟨CI_cg s (fun c hc => ee c (by omega)), CI_cg d (fun c hc => ee c (by omega)), ws, wd, ns, nd⟩, ⟨by rw [ee 30 (by omega)]; exact p.w, by rw [ee 31 (by omega)]; exact p.t, by rw [ee 32 (by omega)]; exact p.p⟩⟩
/-- a name of q's members that i has not -/
def Nw (tS : Nat → Nat) (lS : Nat) (S : TG) (tD : Nat → Nat) (lD : Nat) (D : TG) (q i : Nat) (w : List Nat) : Prop := ∃ p ∈ S.K q, cnd tD lD D i tS (nmo S p + 1) (qe tS lS (nmo S p + 1)) = none ∧ w = sf tS lS (nmo S p + 1)
theorem find_c (C : CV tS lS S tD lD D σ) (hQ : QT tS S) {F : List Nat} (h : FW σ F) (hF : OkF tS lS F) {q i : Nat} (hq : q < S.N) (h6 : S.kd q = 6) (hi : i < D.N) :
    ∃ σ' F', Rv (wq_Pr_findNames (nI q) (nI i) σ) σ' ∧ Fr Pn σ σ' ∧ FW σ' F' ∧ OkF tS lS F' ∧ (∀ w, (∃ g ∈ F', w = sf tS lS g) ↔ (∃ g ∈ F, w = sf tS lS g) ∨ Nw tS lS S tD lD D q i w) := by
  have T := CC_T C.c
  have hn := C.c.ns
  have hd := C.c.nd
  have hl := len_K C.c.ws hq
  have hPn : ∀ c k, Pn c k → 40 ≤ c := fun c k h => by unfold Pn at h; omega
  obtain ⟨R, hR⟩ : ∃ R : Sg → Prop, R = fun σ' => ∃ F', Fr Pn σ σ' ∧ FW σ' F' ∧ OkF tS lS F' ∧ (∀ w, (∃ g ∈ F', w = sf tS lS g) ↔ (∃ g ∈ F, w = sf tS lS g) ∨ Nw tS lS S tD lD D q i w) := ⟨_, rfl⟩
  have key : ∀ suf pre y (σ1 : Sg) (F1 : List Nat), S.K q = pre ++ suf → chB (σ.1 8) y suf → Fr Pn σ σ1 → FW σ1 F1 → OkF tS lS F1 → (∀ w, (∃ g ∈ F1, w = sf tS lS g) ↔ (∃ g ∈ F, w = sf tS lS g) ∨ ∃ p ∈ pre, cnd tD lD D i tS (nmo S p + 1) (qe tS lS (nmo S p + 1)) = none ∧ w = sf tS lS (nmo S p + 1)) → Ex0 (fun post n => wp_Pr_findNames post n 1 0 (nI i) (nI (S.K q).length) (nI pre.length) y σ1) R := by
    intro suf
    induction suf with
    | nil =>
      intro pre y σ1 F1 hK _ f1 w1 o1 hm
      rw [List.append_nil] at hK
      refine ⟨σ1, by rw [hR]; exact ⟨F1, f1, w1, o1, fun w => by rw [hm w]; unfold Nw; rw [hK]⟩, fun post hp => ⟨1, ?_⟩⟩
      show wb_Pr_findNames_1 (wp_Pr_findNames post 0) post (nI i) (nI (S.K q).length) (nI pre.length) y σ1
      unfold wb_Pr_findNames_1
      rw [hK]
      rw [hK] at hl
      exact ⟨fun _ => hp, fun z => absurd ((n_le (by omega) (by omega)).mpr (Nat.le_refl _)) z⟩
    | cons p suf ih =>
      intro pre y σ1 F1 hK hB f1 w1 o1 hm
      obtain ⟨hy, hB⟩ := hB
      subst hy
      have hpK : p ∈ S.K q := by rw [hK]; simp
      have hp1 := C.c.ws.ch q hq p hpK
      have hpN := hp1.2.1
      have hnm := nm_o C.c.ws hq h6 hpK
      have hln : (S.K q).length = pre.length + suf.length + 1 := by rw [hK]; simp; omega
      have C1 := CV_Fr C f1 hPn
      have h6p : σ1.1 6 p = nI (nmo S p) := by rw [f1.2 6 p (by unfold Pn; omega), T.aS p hpN, hnm.1]; rfl
      have e8 : ∀ σ2, Fr Pn σ σ2 → σ2.1 8 p = σ.1 8 p := fun σ2 f => f.2 8 p (by unfold Pn; omega)
      have hnl : lS ≤ 160 := by have := C.c.s.t.2.1; have := tl_le 0; omega
      have hcn := cn_c (b1 := 0) C1.c.d C1.c.wd C1.c.s.t hi (by show 0 < 2; omega) (by show D.N ≤ 80; exact hd) (qe_sp (tx := tS) (show nmo S p + 1 ≤ lS by omega))
      have go : ∀ (post : Sg → Prop) n, (cnd tD lD D i tS (nmo S p + 1) (qe tS lS (nmo S p + 1)) ≠ none → wp_Pr_findNames post n 1 0 (nI i) (nI (S.K q).length) (nI (pre.length + 1)) (σ.1 8 p) σ1) → (cnd tD lD D i tS (nmo S p + 1) (qe tS lS (nmo S p + 1)) = none → wq_Pr_addFound (nI (nmo S p + 1)) σ1 (fun σ2 => vp_in (nI p) 160 ∧ wp_Pr_findNames post n 1 0 (nI i) (nI (S.K q).length) (nI (pre.length + 1)) (σ2.1 8 p) σ2)) → wp_Pr_findNames post (n + 1) 1 0 (nI i) (nI (S.K q).length) (nI pre.length) (nI p) σ1 := by
        intro post n y1 y2
        show wb_Pr_findNames_1 (wp_Pr_findNames post n) post (nI i) (nI (S.K q).length) (nI pre.length) (nI p) σ1
        unfold wb_Pr_findNames_1
        rw [n_cl (a := p) (by omega), h6p, show (1 : Int32) = nI 1 from rfl, nI_add, nI_add]
        refine ⟨fun z => absurd ((n_le (by omega) (by omega)).mp z) (by omega), fun _ => ⟨(n_in (by omega)).mpr (by omega), hcn _ ?_⟩⟩
        rw [e8 σ1 f1]
        cases hc : cnd tD lD D i tS (nmo S p + 1) (qe tS lS (nmo S p + 1)) with
        | none => exact ⟨fun z => absurd rfl z, fun _ => y2 hc⟩
        | some c =>
          have hc1 := (C.c.wd.ch i hi c (cnd_lt hc).2.1).2.1
          exact ⟨fun _ => ⟨(n_in (by omega)).mpr (by omega), y1 (by rw [hc]; exact fun z => by cases z)⟩, fun z => absurd ((n_m1 (by omega)).mp z) id⟩
      by_cases hc : cnd tD lD D i tS (nmo S p + 1) (qe tS lS (nmo S p + 1)) = none
      · obtain ⟨σ2, F2, r1, r2, r3, r4, r5⟩ := addFound_c C1.c.s.t w1 o1 (f := nmo S p + 1) ⟨by omega, by omega, by rw [Nat.add_sub_cancel]; exact hQ p hpN _ hnm.1⟩
        have f2 := Fr_t f1 r2
        refine Ex0_s (ih (pre ++ [p]) _ σ2 F2 (by rw [hK]; simp) hB f2 r3 r4 (fun w => ?_)) (fun post n hn1 => ⟨n + 1, go post n (fun z => absurd hc z) (fun _ => r1 _ ?_)⟩)
        · rw [r5 w, hm w]
          simp only [List.mem_append, List.mem_singleton]
          constructor
          · rintro ((z | ⟨u, z1, z2⟩) | z)
            · exact Or.inl z
            · exact Or.inr ⟨u, Or.inl z1, z2⟩
            · exact Or.inr ⟨p, Or.inr rfl, hc, z⟩
          · rintro (z | ⟨u, z1 | z1, z2⟩)
            · exact Or.inl (Or.inl z)
            · exact Or.inl (Or.inr ⟨u, z1, z2⟩)
            · subst z1; exact Or.inr z2.2
        · rw [List.length_append] at hn1
          refine ⟨(n_in (by omega)).mpr (by omega), ?_⟩
          rw [e8 σ2 f2]; exact hn1
      · refine Ex0_s (ih (pre ++ [p]) _ σ1 F1 (by rw [hK]; simp) hB f1 w1 o1 (fun w => ?_)) (fun post n hn1 => ⟨n + 1, go post n (fun _ => by rw [List.length_append] at hn1; exact hn1) (fun z => absurd z hc)⟩)
        rw [hm w]
        simp only [List.mem_append, List.mem_singleton]
        constructor
        · rintro (z | ⟨u, z1, z2⟩)
          · exact Or.inl z
          · exact Or.inr ⟨u, Or.inl z1, z2⟩
        · rintro (z | ⟨u, z1 | z1, z2⟩)
          · exact Or.inl z
          · exact Or.inr ⟨u, z1, z2⟩
          · subst z1; exact absurd z2.1 hc
  obtain ⟨σ', q1, q2⟩ := key (S.K q) [] _ σ F rfl (T.cS q hq) Fr_r h hF (fun w => by simp)
  rw [hR] at q1
  obtain ⟨F', p1⟩ := q1
  refine ⟨σ', F', fun post hp => ?_, p1⟩
  obtain ⟨n, hn1⟩ := q2 post hp
  refine ⟨n + 1, ?_⟩
  show wb_Pr_findNames_0 (wp_Pr_findNames post n) post (nI q) (nI i) σ
  unfold wb_Pr_findNames_0
  rw [n_in (by omega), n_cl (by omega), T.mS q hq, show (1 : Int32) = nI 1 from rfl, nI_add]
  exact ⟨by omega, hn1⟩
/-- the names that could stand in i -/
def Ns (tS : Nat → Nat) (lS : Nat) (S : TG) (tD : Nat → Nat) (lD : Nat) (D : TG) (i : Nat) (w : List Nat) : Prop := ∃ s q, s < S.N ∧ S.kd s = 6 ∧ Re tS lS S tD lD D s i ∧ prp tS lS S s = some q ∧ Nw tS lS S tD lD D q i w
def Pl5 (c k : Nat) : Prop := (c = 45 ∧ (k = 0 ∨ k = 4)) ∨ c = 46 ∨ (c = 47 ∧ 1 ≤ k) ∨ c = 48
theorem look_c (C : CV tS lS S tD lD D σ) (hQ : QT tS S) {Lc : List Nat} (P : PF tS lS S σ Lc) (hc : allC S Lc = true) (h0 : 0 < S.N) {i : Nat} (hi : i < D.N) (h47 : σ.1 47 0 = nI 0) :
    ∃ σ' F, Rv (wq_Pr_lookFor (nI i) σ) σ' ∧ (∀ c k, ¬ Pl5 c k → σ'.1 c k = σ.1 c k) ∧ (∀ c k, ¬ P5 c k → σ'.2.1 c k = σ.2.1 c k) ∧ σ'.2.2 = σ.2.2 ∧ OkF tS lS F ∧ PNa 45 0 47 46 σ' (F.map (sf tS lS)) ∧ (∀ w, (∃ g ∈ F, w = sf tS lS g) ↔ Ns tS lS S tD lD D i w) := by
  have hn := C.c.ns
  have hd := C.c.nd
  have hW := C.c.ws
  have hll := OL_len P.l
  have hin : ∀ s, s < S.N → S.kd s = 6 → s ∈ Lc := fun s hs h6 => by
    rcases of_decide_eq_true (List.all_eq_true.mp hc s (List.mem_range.mpr hs)) with z | z
    · exact absurd h6 z
    · exact z
  obtain ⟨σa, a1, a2, a3⟩ := reAll_c C P hc h0 hi
  have Ca := CV_P5 C a2
  have hPn : ∀ c k, Pn c k → 40 ≤ c := fun c k h => by unfold Pn at h; omega
  obtain ⟨σb, hσb⟩ : ∃ σb, σb = si σa 45 4 (nI 0) := ⟨_, rfl⟩
  have fb : Fr Pn σa σb := by rw [hσb]; exact Fr_si Fr_r (Or.inl ⟨rfl, rfl⟩)
  obtain ⟨R, hR⟩ : ∃ R : Sg → Prop, R = fun σ' => ∃ F, (∀ c k, ¬ Pl5 c k → σ'.1 c k = σ.1 c k) ∧ (∀ c k, ¬ P5 c k → σ'.2.1 c k = σ.2.1 c k) ∧ σ'.2.2 = σ.2.2 ∧ OkF tS lS F ∧ PNa 45 0 47 46 σ' (F.map (sf tS lS)) ∧ (∀ w, (∃ g ∈ F, w = sf tS lS g) ↔ Ns tS lS S tD lD D i w) := ⟨_, rfl⟩
  have loop : ∀ B A (σ1 : Sg) (F1 : List Nat), Lc = A ++ B → Fr Pn σa σ1 → FW σ1 F1 → OkF tS lS F1 → (∀ w, (∃ g ∈ F1, w = sf tS lS g) ↔ ∃ s q, s ∈ A ∧ Re tS lS S tD lD D s i ∧ prp tS lS S s = some q ∧ Nw tS lS S tD lD D q i w) → Ex0 (fun post n => wp_Pr_lookFor post n 1 (nI i) (nI A.length) σ1) R := by
    intro B
    induction B with
    | nil =>
      intro A σ1 F1 hL f1 w1 o1 hm
      rw [List.append_nil] at hL
      have C1 := CV_Fr Ca f1 hPn
      obtain ⟨σ2, r1, r2, r3⟩ := keep_c C1.c.s.t w1 o1 (by rw [f1.2 47 0 (by unfold Pn; omega), a2.1]; exact h47)
      refine ⟨σ2, by
        rw [hR]
        refine ⟨F1, fun c k hp => ?_, fun c k hp => ?_, ?_, o1, r3, fun w => ?_⟩
        · rw [r2.2 c k (fun q => hp (by unfold Pkp at q; unfold Pl5; omega)), f1.2 c k (fun q => hp (by unfold Pn at q; unfold Pl5; omega)), a2.1]
        · rw [r2.1, f1.1]; exact a2.2.2 c k hp
        · rw [r2.1, f1.1]; exact a2.2.1
        · rw [hm w]
          exact ⟨fun ⟨s, q, z1, z2⟩ => ⟨s, q, (P.l.lt s (by rw [hL]; exact z1)).1, (P.l.lt s (by rw [hL]; exact z1)).2, z2⟩, fun ⟨s, q, z1, z2, z3⟩ => ⟨s, q, by rw [← hL]; exact hin s z1 z2, z3⟩⟩, fun post hp => ⟨1, ?_⟩⟩
      show wb_Pr_lookFor_1 (wp_Pr_lookFor post 0) post (nI i) (nI A.length) σ1
      unfold wb_Pr_lookFor_1
      have h29 : σ1.1 29 6 = nI A.length := by rw [f1.2 29 6 (by unfold Pn; omega), a2.1, P.n, hL]
      rw [h29]
      rw [hL] at hll
      exact ⟨fun _ => r1 _ hp, fun z => absurd ((n_le (by omega) (by omega)).mpr (Nat.le_refl _)) z⟩
    | cons s B ih =>
      intro A σ1 F1 hL f1 w1 o1 hm
      have C1 := CV_Fr Ca f1 hPn
      have hsL : s ∈ Lc := by rw [hL]; simp
      have hsN := (P.l.lt s hsL).1
      have hlen : Lc.length = A.length + B.length + 1 := by rw [hL]; simp; omega
      have h29 : σ1.1 29 6 = nI Lc.length := by rw [f1.2 29 6 (by unfold Pn; omega), a2.1, P.n]
      have h33 : σ1.1 33 A.length = nI s := by rw [f1.2 33 _ (by unfold Pn; omega), a2.1, P.o _ (by omega), hL]; simp
      have h32 : σ1.1 32 s = oI (prp tS lS S s) := C1.p.p s hsN
      have hhb : hb σ1 49 s i = hb σa 49 s i := by unfold hb; rw [f1.1]
      have go : ∀ (post : Sg → Prop) n, ((hb σa 49 s i = false ∨ prp tS lS S s = none) → wp_Pr_lookFor post n 1 (nI i) (nI (A.length + 1)) σ1) → (∀ q, hb σa 49 s i = true → prp tS lS S s = some q → wq_Pr_findNames (nI q) (nI i) σ1 (fun σ2 => wp_Pr_lookFor post n 1 (nI i) (nI (A.length + 1)) σ2)) → wp_Pr_lookFor post (n + 1) 1 (nI i) (nI A.length) σ1 := by
        intro post n y1 y2
        show wb_Pr_lookFor_1 (wp_Pr_lookFor post n) post (nI i) (nI A.length) σ1
        unfold wb_Pr_lookFor_1
        rw [h29, n_in (a := A.length) (by omega), n_cl (a := A.length) (by omega), h33, Mk_has_r (by omega) (by omega), hhb, n_in (a := s) (by omega), n_cl (a := s) (by omega), h32, show (1 : Int32) = nI 1 from rfl, nI_add]
        refine ⟨fun z => absurd ((n_le (by omega) (by omega)).mp z) (by omega), fun _ => ⟨by omega, ?_⟩⟩
        cases hh : hb σa 49 s i with
        | false => exact ⟨fun _ => y1 (Or.inl hh), fun z => absurd rfl z⟩
        | true =>
          refine ⟨fun z => absurd z (by decide +kernel), fun _ => ⟨by omega, ?_⟩⟩
          cases hp : prp tS lS S s with
          | none => exact ⟨fun _ => y1 (Or.inr hp), fun z => absurd rfl z⟩
          | some q =>
            have hq := prp_lt hW hsN hp
            refine ⟨fun z => absurd ((n_m1 (by omega)).mp z) id, fun _ => ⟨by omega, y2 q hh hp⟩⟩
      by_cases hc2 : hb σa 49 s i = true ∧ ∃ q, prp tS lS S s = some q
      · obtain ⟨hh, q, hq⟩ := hc2
        have hqN := prp_lt hW hsN hq
        obtain ⟨σ2, F2, r1, r2, r3, r4, r5⟩ := find_c C1 hQ w1 o1 hqN.1 hqN.2 hi
        refine Ex0_s (ih (A ++ [s]) σ2 F2 (by rw [hL]; simp) (Fr_t f1 r2) r3 r4 (fun w => ?_)) (fun post n hn1 => ⟨n + 1, go post n (fun z => by rw [hh, hq] at z; rcases z with z | z <;> cases z) (fun q' _ z => by rw [hq] at z; injection z with z; subst z; rw [List.length_append] at hn1; exact r1 _ hn1)⟩)
        rw [r5 w, hm w]
        simp only [List.mem_append, List.mem_singleton]
        constructor
        · rintro (⟨s', q', z1, z2⟩ | z)
          · exact ⟨s', q', Or.inl z1, z2⟩
          · exact ⟨s, q, Or.inr rfl, (a3 s hsN).mp hh, hq, z⟩
        · rintro ⟨s', q', z1 | z1, z2, z3, z4⟩
          · exact Or.inl ⟨s', q', z1, z2, z3, z4⟩
          · subst z1; rw [hq] at z3; injection z3 with z3; subst z3; exact Or.inr z4
      · have hc3 : hb σa 49 s i = false ∨ prp tS lS S s = none := by
          cases h1 : hb σa 49 s i with
          | false => exact Or.inl rfl
          | true =>
            cases h2 : prp tS lS S s with
            | none => exact Or.inr rfl
            | some q => exact absurd ⟨h1, q, h2⟩ hc2
        refine Ex0_s (ih (A ++ [s]) σ1 F1 (by rw [hL]; simp) f1 w1 o1 (fun w => ?_)) (fun post n hn1 => ⟨n + 1, go post n (fun _ => by rw [List.length_append] at hn1; exact hn1) (fun q z1 z2 => absurd ⟨z1, q, z2⟩ hc2)⟩)
        rw [hm w]
        simp only [List.mem_append, List.mem_singleton]
        constructor
        · rintro ⟨s', q', z1, z2⟩
          exact ⟨s', q', Or.inl z1, z2⟩
        · rintro ⟨s', q', z1 | z1, z2, z3, z4⟩
          · exact ⟨s', q', z1, z2, z3, z4⟩
          · subst z1; exact absurd ⟨(a3 s' hsN).mpr z2, q', z3⟩ hc2
  obtain ⟨σ', q1, q2⟩ := loop Lc [] σb [] rfl fb ⟨by rw [hσb, si_1, if_pos ⟨rfl, rfl⟩]; rfl, fun j hj => by simp at hj⟩ ⟨List.Pairwise.nil, fun f hf => by simp at hf⟩ (fun w => by simp)
  rw [hR] at q1
  obtain ⟨F, p1⟩ := q1
  refine ⟨σ', F, fun post hp => ?_, p1⟩
  obtain ⟨n, hn1⟩ := q2 post hp
  refine ⟨n + 1, ?_⟩
  show wb_Pr_lookFor_0 (wp_Pr_lookFor post n) post (nI i) σ
  unfold wb_Pr_lookFor_0
  refine a1 _ (fun σ2 z => ?_)
  rw [z]; rw [hσb] at hn1; exact hn1
end LO
