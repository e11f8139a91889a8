section PP
variable {Q : Sg → Prop} {σ : Sg} {l : Nat → Nat} {x : Nat → Nat → Nat} {S D : TG} {Lc T : List Nat} {W : List (List Nat)}
theorem sf_ch {tx : Nat → Nat} {len f : Nat} (hf : f ≤ len) (h : ∀ k, k < len → tx k ≤ 126) : ∀ c ∈ sf tx len f, c < 65536 := by
  have hq := qe_sp (tx := tx) hf
  have h1 := hq.1
  have h2 := hq.2.1
  have key : ∀ n g, g + n ≤ len → ∀ c ∈ strn tx n g, c < 65536 := by
    intro n
    induction n with
    | zero => intro g _ c hc; simp [strn] at hc
    | succ n ih =>
      intro g hg c hc
      rcases List.mem_cons.mp hc with e | e
      · rw [e]; have := h g (by omega); omega
      · exact ih (g + 1) (by omega) c e
  exact key _ _ (by omega)
/-- the names, as both have them -/
theorem PN_eq {P F : List Nat} {tS : Nat → Nat} {lS : Nat} {tD : Nat → Nat} {lD : Nat} {i : Nat} (hF : OkF tS lS F) (hP : OkF tS lS (P.map (fun p => nmo S p + 1))) (mF : ∀ w, (∃ g ∈ F, w = sf tS lS g) ↔ Ns tS lS S tD lD D i w) (mP : ∀ w, (∃ p ∈ P, w = pw tS lS S p) ↔ Ns tS lS S tD lD D i w) : F.map (sf tS lS) = P.map (pw tS lS S) := by
  have eP : P.map (pw tS lS S) = (P.map (fun p => nmo S p + 1)).map (sf tS lS) := by rw [List.map_map]; rfl
  rw [eP]
  refine words_eq _ _ (OkF_w hF) (OkF_w hP) (fun w => ?_)
  rw [← eP, List.mem_map, List.mem_map]
  constructor
  · rintro ⟨g, h1, h2⟩
    obtain ⟨p, q1, q2⟩ := (mP w).mpr ((mF w).mp ⟨g, h1, h2.symm⟩)
    exact ⟨p, q1, q2.symm⟩
  · rintro ⟨p, h1, h2⟩
    obtain ⟨g, q1, q2⟩ := (mF w).mpr ((mP w).mp ⟨p, h1, h2.symm⟩)
    exact ⟨g, q1, q2.symm⟩
/-- the reference's propose, up to its reading -/
theorem propM (h3 : MO (l 0) (x 0) (l 1) (x 1) T W σ) (hl : l 0 ≤ 160 ∧ l 1 ≤ 80) (hS : TR 0 (l 0) (x 0) S) (hD : TR 1 (l 1) (x 1) D) (h0 : 0 < S.N) (o1 : OLc (x 0) (l 0) S Lc) (o2 : Mxc (x 0) (l 0) S Lc) (hall : allC S Lc = true) {i : Nat} (hi : i < D.N) (k6 : D.kd i = 6) :
    ∃ (σ' : Sg) (P : List Nat), Ri (wq_Md_propose (nI i) σ) (nI P.length) σ' ∧ MO (l 0) (x 0) (l 1) (x 1) T (P.map (pw (x 0) (l 0) S)) σ' ∧ MSt σ σ' ∧ σ'.1 54 1 = 0 ∧ OkF (x 0) (l 0) (P.map (fun p => nmo S p + 1)) ∧ (∀ w, (∃ p ∈ P, w = pw (x 0) (l 0) S p) ↔ Ns (x 0) (l 0) S (x 1) (l 1) D i w) := by
  have nS := hS.n
  have nD := hD.n
  obtain ⟨σ2, L, p1, p2, p3, p4, p5⟩ := prepM (MO_54 (k := 0) h3) hl hS hD
  have hLl : decide (L.length = S.N) = true := by rw [← p5 Lc o1 o2]; exact hall
  have hLall := full_l p3.p.l (of_decide_eq_true hLl)
  obtain ⟨r, σ6, ⟨σ5, P, f5, t0, t1, t2, t3, t4⟩, run⟩ := reAll_m (R := fun r σ' => ∃ (σ5 : Sg) (P : List Nat), FL Pk σ2 σ5 ∧ r = nI P.length ∧ Fr Pw9 σ5 σ' ∧ PNa 54 42 90 89 σ' (P.map (pw (x 0) (l 0) S)) ∧ OkF (x 0) (l 0) (P.map (fun p => nmo S p + 1)) ∧ (∀ w, (∃ p ∈ P, w = pw (x 0) (l 0) S p) ↔ Ns (x 0) (l 0) S (x 1) (l 1) D i w)) p3 hLall h0 hi (fun σ5 f5 h84 => by
    obtain ⟨r, σ', ⟨P, q⟩, run⟩ := prop_m (MC_FL p3 f5 hP55) hS.t hi k6 h84
    exact ⟨r, σ', ⟨σ5, P, f5, q⟩, run⟩)
  have eI : ∀ c k, c < 89 ∨ 91 < c → ¬ (c = 54 ∧ k = 42) → σ6.1 c k = σ2.1 c k := fun c k h1 h2 => by rw [t1.2 c k (by unfold Pw9; omega), f5.1]
  have eL : ∀ c k, c < 54 ∨ c = 55 → σ6.2.1 c k = σ2.2.1 c k := fun c k hc => by rw [t1.1]; exact f5.2.2 c k (by unfold Pk; omega)
  have e3 : σ6.2.2 = σ2.2.2 := by rw [t1.1]; exact f5.2.1
  have eM : MSt σ2 σ6 := ⟨fun c hc => funext fun k => eI c k (by omega) (by omega), fun c hc => funext fun k => eL c k (Or.inl hc), e3⟩
  have e2 : MSt σ σ2 := ⟨fun c hc => funext fun k => by rw [p2.2 c k (fun z => by have := Qr_ok z; unfold MOf at this; omega), si_c (by omega)], fun c hc => by rw [p2.1]; rfl, by rw [p2.1]; rfl⟩
  have i0 : (0 : Int32).toNatClampNeg = 0 := rfl
  have i1 : (1 : Int32).toNatClampNeg = 1 := rfl
  refine ⟨σ6, P, fun post hp => ?_, ⟨TT_e p4.a (funext fun k => eI 56 k (by omega) (by omega)) (funext fun k => eI 57 k (by omega) (by omega)), TT_e p4.b (funext fun k => eI 56 k (by omega) (by omega)) (funext fun k => eI 57 k (by omega) (by omega)), by rw [show σ6.2.1 55 = σ2.2.1 55 from funext fun k => eL 55 k (Or.inr rfl)]; exact p4.w, by rw [eI 54 40 (by omega) (by omega)]; exact p4.t, by rw [show σ6.1 88 = σ2.1 88 from funext fun k => eI 88 k (by omega) (by omega)]; exact p4.r, t2⟩, MSt_t e2 eM, ?_, t3, t4⟩
  · obtain ⟨n, hn⟩ := run post (by rw [t0]; exact hp)
    refine ⟨n + 1, ?_⟩
    show wb_Md_propose_0 (wp_Md_propose post n) post (nI i) σ
    intro σa ha
    rw [ha]
    have n0 : σ2.1 58 0 = nI S.N := (MC_T p3).nS
    have n1 : σ2.1 58 1 = nI D.N := (MC_T p3).nD
    have k59 : σ2.1 59 (160 + i) = nI 6 := by rw [(MC_T p3).kD i hi, k6]
    refine p1 _ ⟨fun z => absurd ((n_lt (b := 0) (by omega) (by omega)).mp z) (by omega), fun _ => ⟨(n_in (a := 1) (by omega)).mpr (by omega), ?_⟩⟩
    rw [i0, i1, n0, n1, show (160 : Int32) = nI 160 from rfl, nI_add, n_cl (a := 160 + i) (by omega), k59, hLl]
    exact ⟨fun z => absurd ((n_le (by omega) (by omega)).mp z) (by omega), fun _ => ⟨(n_in (by omega)).mpr (by omega), fun z => absurd rfl z, fun _ => ⟨(n_in (a := 0) (by omega)).mpr (by omega), fun _ => ⟨fun _ => hn, fun z => absurd z (by decide +kernel)⟩, fun z => absurd ((n_eq (b := 0) (by omega) (by omega)).mp z) (by omega)⟩⟩⟩
  · rw [eI 54 1 (by omega) (by omega), p2.2 54 1 (by unfold Qr Pm Qp; omega), si_1, if_pos ⟨rfl, rfl⟩]
/-- propose -/
theorem t_propose (hJ : J σ) (hQ : ∀ σ', J σ' → Q σ') (x1 : Int32) {post : Int32 → Sg → Prop} (hp : ∀ r1 σ1, wq_Md_propose x1 σ1 (fun r2 σ2 => Cm Q r1 r2 σ2) → post r1 σ1) : wq_Lw_propose x1 σ post := by
  obtain ⟨l, x, S, D, Lc, T, W, h1, h2, h3, h4⟩ := J_o hJ
  have hl := KC_l h1
  obtain ⟨σ1, D, r1, r2, r3, r4, r5, r6⟩ := read1 h1
  have k1 := KO_cr h2 (Fr_1 r6)
  have m1 := MO_cr h3 (Fr_1 r6)
  obtain ⟨σ2, S, a1, a2, a3, a4, a5, a6⟩ := read0 r2
  have k2 := KO_cr k1 (Fr_0 a6)
  have m2 := MO_cr m1 (Fr_0 a6)
  have J2 := J_i a2 k2 m2 h4
  have hSN := a5.n
  have hDN := r5.n
  have i0 : (0 : Int32).toNatClampNeg = 0 := rfl
  have i1 : (1 : Int32).toNatClampNeg = 1 := rfl
  have hD2 : CI 13 σ2 (l 1) (x 1) D op0 := CI_cg r4 (fun c hc => funext fun k => a6.2 c k (by unfold Q0; omega))
  -- the reference refuses
  have ref : ∀ (σ0 : Sg) (r : Int32), ¬ r = 0 → J σ0 → MO (l 0) (x 0) (l 1) (x 1) T W σ0 → ((r = 1 ∧ ((x1 < 0 ∨ nI D.N ≤ x1) ∨ ∃ i, i < D.N ∧ x1 = nI i ∧ (D.kd i ≠ 6 ∨ S.N = 0))) ∨ (r = 2 ∧ (∃ i, i < D.N ∧ x1 = nI i ∧ D.kd i = 6) ∧ 0 < S.N ∧ ∃ L, OLc (x 0) (l 0) S L ∧ Mxc (x 0) (l 0) S L ∧ allC S L = false)) → post r σ0 := by
    intro σ0 r hr j0 mo hbad
    obtain ⟨σ3, L, q1, q2, q3, q4, q5⟩ := prepM (MO_54 (k := 0) mo) hl a5 r5
    obtain ⟨PO, hPO⟩ : ∃ PO : Int32 → Sg → Prop, PO = (fun r2 σ2 => Cm Q r r2 σ2) := ⟨_, rfl⟩
    refine hp r σ0 (by
      rw [← hPO]
      refine ⟨1, ?_⟩
      show wb_Md_propose_0 (wp_Md_propose PO 0) PO x1 σ0
      intro σa ha
      rw [ha]
      have n0 : σ3.1 58 0 = nI S.N := (MC_T q3).nS
      have n1 : σ3.1 58 1 = nI D.N := (MC_T q3).nD
      have hf : wq_Md_fails r σ3 (fun r3 σ3 => PO r3 σ3) := by rw [hPO]; exact fails_n hr (hQ _ (J_thr (J_Qr (J_thr j0) q2)))
      rcases hbad with ⟨e, hb | ⟨i, hi, e1, hb⟩⟩ | ⟨e, ⟨i, hi, e1, k6⟩, h0, L', o1, o2, o3⟩
      · subst e
        refine q1 _ ⟨fun _ => hf, fun y => ⟨(n_in (a := 1) (by omega)).mpr (by omega), ?_⟩⟩
        rw [i1, n1]
        exact ⟨fun _ => hf, fun z => hb.elim (fun q => absurd q y) (fun q => absurd q z)⟩
      · subst e; subst e1
        have hkd := q3.wd.kd i hi
        have k59 : σ3.1 59 (160 + i) = nI (D.kd i) := (MC_T q3).kD i hi
        refine q1 _ ⟨fun _ => hf, fun y => ⟨(n_in (a := 1) (by omega)).mpr (by omega), ?_⟩⟩
        rw [i0, i1, n0, n1, show (160 : Int32) = nI 160 from rfl, nI_add, n_cl (a := 160 + i) (by omega), k59]
        refine ⟨fun _ => hf, fun _ => ⟨(n_in (by omega)).mpr (by omega), fun _ => hf, fun z => ⟨(n_in (a := 0) (by omega)).mpr (by omega), fun w => ?_, fun _ => hf⟩⟩⟩
        exfalso
        have e6 := (n_eq (b := 6) (by omega) (by omega)).mp z
        rcases hb with q | q
        · exact q e6
        · exact w (by rw [q]; rfl)
      · subst e; subst e1
        have k59 : σ3.1 59 (160 + i) = nI 6 := by rw [(MC_T q3).kD i hi, k6]
        have hLl : decide (L.length = S.N) = false := by rw [← q5 L' o1 o2]; exact o3
        refine q1 _ ⟨fun z => absurd ((n_lt (b := 0) (by omega) (by omega)).mp z) (by omega), fun _ => ⟨(n_in (a := 1) (by omega)).mpr (by omega), ?_⟩⟩
        rw [i0, i1, n0, n1, show (160 : Int32) = nI 160 from rfl, nI_add, n_cl (a := 160 + i) (by omega), k59, hLl]
        exact ⟨fun z => absurd ((n_le (by omega) (by omega)).mp z) (by omega), fun _ => ⟨(n_in (by omega)).mpr (by omega), fun z => absurd rfl z, fun _ => ⟨(n_in (a := 0) (by omega)).mpr (by omega), fun _ => ⟨fun z => absurd rfl z, fun _ => hf⟩, fun z => absurd ((n_eq (b := 0) (by omega) (by omega)).mp z) (by omega)⟩⟩⟩)
  unfold wq_Lw_propose
  rcases nd_x x1 (N := D.N) (by omega) with ⟨i, hi, rfl⟩ | hx1
  · have hkd := r5.w.kd i hi
    have k14 : σ2.1 14 i = nI (D.kd i) := hD2.kd i hi (by show 0 < 2; omega)
    have icl : (nI i).toNatClampNeg = i := n_cl (by omega)
    have vin : vp_in (nI i) 80 := (n_in (by omega)).mpr (by omega)
    have c9 : σ2.1 0 9 = nI S.N := a4.N
    by_cases hbad : D.kd i ≠ 6 ∨ S.N = 0
    · have hno := ref σ2 1 i1_0 J2 m2 (Or.inl ⟨rfl, Or.inr ⟨i, hi, rfl, hbad⟩⟩)
      refine Or.inr (Or.inl (rd1 r1 ⟨Or.inr rfl, rd0 a1 ⟨Or.inl rfl, has_y (b := 13) hD2.N hi (by omega) ⟨fun z => absurd z i1_0, fun _ => ⟨vin, ?_⟩⟩⟩⟩))
      rw [icl, k14, c9]
      refine ⟨fun _ => hno, fun z => ⟨fun w => ?_, fun _ => hno⟩⟩
      have e6 := (n_eq (b := 6) (by omega) (by omega)).mp z
      rcases hbad with q | q
      · exact q e6
      · exact w (by rw [q]; rfl)
    · have k6 : D.kd i = 6 := Classical.byContradiction (fun q => hbad (Or.inl q))
      have h0 : 0 < S.N := Nat.pos_of_ne_zero (fun q => hbad (Or.inr q))
      obtain ⟨σ3, L3, b1, b2, b3, b4, b5⟩ := planK a2 a3
      obtain ⟨k3, m3, J3⟩ := J_pl k2 m2 h4 b2 b5
      have hb := b4.b
      have ne0 : ¬ nI S.N = 0 := fun z => absurd ((n_eq (b := 0) (by omega) (by omega)).mp z) (by omega)
      cases hall : allC S L3 with
      | true =>
        rw [hall] at hb
        have hD3 : CI 13 σ3 (l 1) (x 1) D op0 := CI_cg hD2 (fun c hc => funext fun k => b5.2 c k (by unfold Pp; omega))
        have hS3 : CI 0 σ3 (l 0) (x 0) S op0 := CI_cg a4 (fun c hc => funext fun k => b5.2 c k (by unfold Pp; omega))
        have C3 : CV (x 0) (l 0) S (x 1) (l 1) D σ3 := ⟨⟨hS3, hD3, a5.w, r5.w, by omega, by omega⟩, b4.c⟩
        obtain ⟨σ4, F, g1, g2, g3, g4, g5, g6, g7⟩ := look_c C3 a5.t b4 hall h0 hi (by have := k3.n.s 0 (Nat.zero_le _); exact this)
        refine Or.inl (rd1 r1 ⟨Or.inr rfl, rd0 a1 ⟨Or.inl rfl, has_y (b := 13) hD2.N hi (by omega) ⟨fun z => absurd z i1_0, fun _ => ⟨vin, ?_⟩⟩⟩⟩)
        rw [icl, k14, c9, k6]
        refine ⟨fun z => absurd rfl z, fun _ => ⟨fun _ => b1 _ ?_, fun z => absurd z ne0⟩⟩
        rw [hb]
        refine ⟨fun _ => g1 _ ?_, fun z => absurd rfl z⟩
        rw [g6.n]
        refine lay (hp 0 _ ?_)
        obtain ⟨v, hv⟩ : ∃ v : Int64, v = (nI (F.map (sf (x 0) (l 0))).length).toInt64 := ⟨_, rfl⟩
        rw [← hv]
        have cs : CSt σ3 (sl σ4 53 0 v) := ⟨fun c hc => funext fun k => g2 c k (by unfold Pl5; omega), fun c hc => funext fun k => by rw [sl_2, if_neg (fun q => by omega)]; exact g3 c k (by unfold P5; omega)⟩
        have m4 := MO_C m3 cs
        obtain ⟨σ5, P, t1, t2, t3, t4, t5, t6⟩ := propM m4 hl a5 r5 h0 b4.l b4.m hall hi k6
        have eW := PN_eq (P := P) g5 t5 g7 t6
        refine t1 _ (Cm_0 t4 ?_ (hQ _ ?_))
        · rw [t3.2.1 53 (by omega), sl_2, if_pos ⟨rfl, rfl⟩, hv, eW, List.length_map]
        · have kc4 : KC (l 0) (x 0) (l 1) (x 1) S D L3 (sl σ4 53 0 v) := KC_f b2 (fun c hc => funext fun k => g2 c k (by unfold Pl5; omega)) (fun c hc => funext fun k => by rw [sl_2, if_neg (fun q => by omega)]; exact g3 c k (by unfold P5; omega))
          have ko4 : KO T (F.map (sf (x 0) (l 0))) (sl σ4 53 0 v) := ⟨⟨by show σ4.1 40 0 = _; rw [g2 40 0 (by unfold Pl5; omega)]; exact k3.t.n, fun j hj => by show σ4.1 52 j = _; rw [g2 52 j (by unfold Pl5; omega)]; exact k3.t.r j hj, by show _ ≤ σ4.2.2.2; rw [g4]; exact k3.t.l, by show ∃ j, j ≤ 5 ∧ σ4.2.2.2 = _; rw [g4]; exact k3.t.p⟩, ⟨g6.n, g6.s, g6.l⟩⟩
          have hFl := OkF_len hl.1 g5
          rw [← eW] at t2
          refine J_i (KC_M kc4 t3) (KO_M ko4 t3) t2 ⟨h4.t, h4.e, by rw [List.length_map]; exact hFl.1, by rw [off_f]; exact hFl.2, fun w hw => ?_⟩
          obtain ⟨g, hg, rfl⟩ := List.mem_map.mp hw
          exact sf_ch (g5.o g hg).2.1 (fun k hk => (h1.a.2.2 k hk).2.2)
      | false =>
        rw [hall] at hb
        refine Or.inr (Or.inr (rd1 r1 ⟨Or.inr rfl, rd0 a1 ⟨Or.inl rfl, has_y (b := 13) hD2.N hi (by omega) ⟨fun z => absurd z i1_0, fun _ => ⟨vin, ?_⟩⟩⟩⟩))
        rw [icl, k14, c9, k6]
        refine ⟨fun z => absurd rfl z, fun _ => ⟨fun _ => b1 _ ?_, fun z => absurd z ne0⟩⟩
        rw [hb]
        exact ⟨fun z => absurd z (by decide +kernel), fun _ => ref σ3 2 (by decide +kernel) J3 m3 (Or.inr ⟨rfl, ⟨i, hi, rfl, k6⟩, h0, L3, b4.l, b4.m, hall⟩)⟩
  · exact Or.inr (Or.inl (rd1 r1 ⟨Or.inr rfl, rd0 a1 ⟨Or.inl rfl, has_n (b := 13) hD2.N hx1 ⟨fun _ => ref σ2 1 i1_0 J2 m2 (Or.inl ⟨rfl, Or.inl hx1⟩), fun z => absurd rfl z⟩⟩⟩))
/-- proposal -/
theorem t_proposal (hJ : J σ) (hQ : ∀ σ', J σ' → Q σ') (x1 x2 : Int32) {post : Int32 → Sg → Prop} (hp : ∀ r1 σ1, wq_Md_proposal x1 x2 σ1 (fun r2 σ2 => Cm Q r1 r2 σ2) → post r1 σ1) : wq_Lw_proposal x1 x2 σ post := by
  obtain ⟨l, x, S, D, Lc, T, W, h1, h2, h3, h4⟩ := J_o hJ
  have hw := h4.w
  have ho := h4.o
  unfold wq_Lw_proposal
  by_cases hgood : ∃ k, k < W.length ∧ x1 = nI k ∧ ¬ x2 < 0
  · obtain ⟨k, hk, rfl, hx2⟩ := hgood
    obtain ⟨j, hj, rfl⟩ := nI_of hx2
    have hos := off_s hk
    have hom := off_m (W := W) (k := W.length) (j := k + 1) (by omega) (Nat.le_refl _)
    have k0 : ¬ nI k < 0 := fun z => absurd ((n_lt (b := 0) (by omega) (by omega)).mp z) (by omega)
    have kW : ¬ nI W.length ≤ nI k := fun z => absurd ((n_le (by omega) (by omega)).mp z) (by omega)
    have j0 : (0 : Int32) ≤ nI j := (n_le (a := 0) (by omega) hj).mpr (by omega)
    have e1 : nI k + 1 = nI (k + 1) := by rw [show (1 : Int32) = nI 1 from rfl, nI_add]
    have kcl : (nI k).toNatClampNeg = k := n_cl (by omega)
    have kcl1 : (nI (k + 1)).toNatClampNeg = k + 1 := n_cl (by omega)
    have esub : nI (off W (k + 1)) - nI (off W k) = nI (W.getD k []).length := by rw [pk_sub (by omega), hos, Nat.add_sub_cancel_left]
    obtain ⟨v, hv⟩ : ∃ v : Int32, v = (if (W.getD k []).length ≤ j then -1 else nI ((W.getD k []).getD j 0)) := ⟨_, rfl⟩
    have mod : post 0 (sl σ 53 0 v.toInt64) := by
      obtain ⟨PO, hPO⟩ : ∃ PO : Int32 → Sg → Prop, PO = (fun r2 σ2 => Cm Q 0 r2 σ2) := ⟨_, rfl⟩
      refine hp 0 _ (by
        rw [← hPO]
        refine ⟨2, ?_⟩
        show wb_Md_proposal_0 (wp_Md_proposal PO 1) PO (nI k) (nI j) (sl σ 53 0 v.toInt64)
        have c42 : (sl σ 53 0 v.toInt64).1 54 42 = nI W.length := h3.n.n
        unfold wb_Md_proposal_0
        rw [c42]
        refine ⟨fun z => absurd z k0, fun _ => ⟨fun z => absurd z kW, fun _ => ⟨fun _ σa ha => ?_, fun z => absurd j0 z⟩⟩⟩
        rw [ha]
        show wb_Md_proposal_1 (wp_Md_proposal PO 0) PO (nI k) (nI j) (si (sl σ 53 0 v.toInt64) 54 1 0)
        have cm : ∀ u, u = v → PO u (si (sl σ 53 0 v.toInt64) 54 1 0) := fun u hu => by rw [hPO, hu]; exact Cm_0 (by rw [si_1, if_pos ⟨rfl, rfl⟩]) (by rw [si_2, sl_2, if_pos ⟨rfl, rfl⟩]) (hQ _ (J_thr (J_53 hJ)))
        have s0 : (si (sl σ 53 0 v.toInt64) 54 1 0).1 90 k = nI (off W k) := by rw [si_c (by omega)]; exact h3.n.s k (by omega)
        have s1 : (si (sl σ 53 0 v.toInt64) 54 1 0).1 90 (k + 1) = nI (off W (k + 1)) := by rw [si_c (by omega)]; exact h3.n.s (k + 1) (by omega)
        refine ⟨fun _ => ?_, fun z => absurd (by rw [si_1, if_pos ⟨rfl, rfl⟩]) z⟩
        rw [e1, kcl, kcl1, s0, s1, esub, n_le (by omega) hj]
        refine ⟨(n_in (by omega)).mpr (by omega), (n_in (by omega)).mpr (by omega), fun z => cm _ (by rw [hv, if_pos z]), fun z => ?_⟩
        have hl2 : j < (W.getD k []).length := by omega
        have s2 : (si (sl σ 53 0 v.toInt64) 54 1 0).1 89 (off W k + j) = nI ((W.getD k []).getD j 0) := by rw [si_c (by omega)]; exact h3.n.l k hk j hl2
        rw [nI_add, n_cl (a := off W k + j) (by omega), s2]
        exact ⟨(n_in (by omega)).mpr (by omega), (n_in (by omega)).mpr (by omega), cm _ (by rw [hv, if_neg z])⟩)
    refine Or.inl ⟨fun z => absurd z k0, fun _ => ?_⟩
    rw [h2.n.n]
    refine ⟨fun z => absurd z kW, fun _ => ⟨fun _ => ?_, fun z => absurd j0 z⟩⟩
    unfold wq_Pr_characterOf
    rw [e1, kcl, kcl1, h2.n.s k (by omega), h2.n.s (k + 1) (by omega), esub, n_le (by omega) hj]
    refine ⟨(n_in (by omega)).mpr (by omega), (n_in (by omega)).mpr (by omega), fun z => ?_, fun z => ?_⟩
    · rw [if_pos z] at hv; rw [hv] at mod; exact lay mod
    · have hl2 : j < (W.getD k []).length := by omega
      rw [nI_add, n_cl (a := off W k + j) (by omega), h2.n.l k hk j hl2]
      rw [if_neg z] at hv; rw [hv] at mod
      exact ⟨(n_in (by omega)).mpr (by omega), (n_in (by omega)).mpr (by omega), lay mod⟩
  · have hb : x1 < 0 ∨ nI W.length ≤ x1 ∨ ¬ 0 ≤ x2 := by
      rcases nd_x x1 (N := W.length) (by omega) with ⟨k, hk, rfl⟩ | q | q
      · refine Or.inr (Or.inr (fun z => hgood ⟨k, hk, rfl, Int32.not_lt.mpr z⟩))
      · exact Or.inl q
      · exact Or.inr (Or.inl q)
    have hno : post 1 σ := by
      obtain ⟨PO, hPO⟩ : ∃ PO : Int32 → Sg → Prop, PO = (fun r2 σ2 => Cm Q 1 r2 σ2) := ⟨_, rfl⟩
      refine hp 1 σ (by
        rw [← hPO]
        refine ⟨2, ?_⟩
        show wb_Md_proposal_0 (wp_Md_proposal PO 1) PO x1 x2 σ
        have one : wp_Md_proposal PO 1 1 x1 x2 (si σ 54 1 1) := by
          show wb_Md_proposal_1 (wp_Md_proposal PO 0) PO x1 x2 (si σ 54 1 1)
          refine ⟨fun z => absurd (by rw [si_1, if_pos ⟨rfl, rfl⟩] at z; exact z) i1_0, fun _ => ?_⟩
          rw [hPO]; exact Cm_n i1_0 (by rw [si_1, if_pos ⟨rfl, rfl⟩]) (hQ _ (J_thr hJ))
        unfold wb_Md_proposal_0
        rw [h3.n.n]
        refine ⟨fun _ σa ha => by rw [ha]; exact one, fun y1 => ⟨fun _ σa ha => by rw [ha]; exact one, fun y2 => ⟨fun y3 => ?_, fun _ σa ha => by rw [ha]; exact one⟩⟩⟩
        exfalso
        rcases hb with q | q | q
        · exact y1 q
        · exact y2 q
        · exact q y3)
    refine Or.inr ?_
    unfold wq_Sd_proposal_ns
    rw [h2.n.n]
    refine ⟨fun _ => hno, fun y1 => ⟨fun _ => hno, fun y2 => ⟨fun y3 => ?_, fun _ => hno⟩⟩⟩
    rcases hb with q | q | q
    · exact y1 q
    · exact y2 q
    · exact q y3
end PP
