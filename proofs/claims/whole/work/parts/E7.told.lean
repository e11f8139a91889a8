section JT
variable {Q : Sg → Prop} {σ : Sg} {l : Nat → Nat} {x : Nat → Nat → Nat} {S D : TG} {Lc T : List Nat} {W : List (List Nat)}
theorem Tl_in {tS : Nat → Nat} {lS : Nat} (hn : S.N ≤ 160) (hd : D.N ≤ 80) {T : List Nat} {σ' : Sg} (h : TD tS lS S D σ' T) : ∀ e ∈ T, ∃ c v i, e = c + 32 * (v + 256 * i) ∧ c < 32 ∧ v < 160 ∧ i < 80 := fun e he => by
  obtain ⟨c, v, i, q1, q2, q3, q4, _⟩ := h.k e he
  exact ⟨c, v, i, q1, q2, by omega, by omega⟩
/-- the reference judges -/
theorem judgeM (h3 : MO (l 0) (x 0) (l 1) (x 1) T W σ) (hl : l 0 ≤ 160 ∧ l 1 ≤ 80) (hS : TR 0 (l 0) (x 0) S) (hD : TR 1 (l 1) (x 1) D) (f0 : S.F = 0) (f1 : D.F = 0) (o1 : OLc (x 0) (l 0) S Lc) (o2 : Mxc (x 0) (l 0) S Lc) (hall : allC S Lc = true) :
    ∃ σ', Ri (wq_Md_judge σ) (nI (Tl (x 0) (l 0) S (x 1) (l 1) D).length) σ' ∧ MO (l 0) (x 0) (l 1) (x 1) (Tl (x 0) (l 0) S (x 1) (l 1) D) W σ' ∧ MSt σ σ' ∧ σ'.1 54 1 = 0 ∧ (Tl (x 0) (l 0) S (x 1) (l 1) D).length < 1300 ∧ (∀ e ∈ Tl (x 0) (l 0) S (x 1) (l 1) D, ∃ c v i, e = c + 32 * (v + 256 * i) ∧ c < 32 ∧ v < 160 ∧ i < 80) := by
  have zS := hS.z f0
  have zD := hD.z f1
  have nS := hS.n
  have nD := hD.n
  have hq5 := hS.q
  have hW := hS.w
  have hWD := hD.w
  have hq : D.N * tq (x 0) (l 0) S.kd S.nm S.N < 1300 := by
    have q1 : tq (x 0) (l 0) S.kd S.nm S.N ≤ 32 := by have : 5 * tq (x 0) (l 0) S.kd S.nm S.N ≤ l 0 := hq5; omega
    have q2 : D.N ≤ 40 := by omega
    have := Nat.mul_le_mul q2 q1
    omega
  obtain ⟨σ2, L, p1, p2, p3, p4, p5⟩ := prepM (MO_54 (k := 0) h3) hl hS hD
  have hLl : decide (L.length = S.N) = true := by rw [← p5 Lc o1 o2]; exact hall
  have hLall := full_l p3.p.l (of_decide_eq_true hLl)
  obtain ⟨σ3, j1, j2, j3, j4, j5⟩ := judgeAll_m p3 hLall
  have hPj : ∀ k, ¬ Pj 55 k := fun k => by unfold Pj; omega
  obtain ⟨σ4, hσ4⟩ : ∃ σ4, σ4 = si σ3 54 40 (nI 0) := ⟨_, rfl⟩
  have M4 : MC (x 0) (l 0) S (x 1) (l 1) D L σ4 := MC_i (MC_FL p3 j2 hPj) (fun c h1 _ _ _ _ => by rw [hσ4]; exact si_c h1) (fun k hk => by rw [hσ4, si_1, if_neg (by omega)]) (by rw [hσ4]; rfl)
  have b4 : ∀ c s i, bt σ4 c s i = bt σ3 c s i := fun c s i => by rw [hσ4]; rfl
  -- the root is marked if it does not hold
  obtain ⟨σ5, f5, h84, st⟩ : ∃ σ5, FL Pk σ4 σ5 ∧ (∀ a c, a < S.N → c < D.N → (bt σ5 84 a c = true ↔ (a = 0 ∧ c = 0 ∧ HH (x 0) (l 0) S (x 1) (l 1) D 0 0 = false))) ∧ ∀ (post : Int32 → Sg → Prop) n, wp_Md_judge post n 1 160 0 σ5 → wq_Md_isSo (0 : Int32) (160 : Int32) σ4 (fun r5 σ5 => ((¬ r5 = 0 → wp_Md_judge post n 1 (160 : Int32) 0 σ5) ∧ (r5 = 0 → (wq_Md_mark (0 : Int32) (160 : Int32) σ5 (fun σ6 => wp_Md_judge post n 1 (160 : Int32) 0 σ6))))) := by
    have hso := Md_isSo_r (s := 0) (i := 0) (by omega) (by omega) σ4
    cases hh : HH (x 0) (l 0) S (x 1) (l 1) D 0 0 with
    | true =>
      refine ⟨σ4, FL_r, fun a c ha hc => ?_, fun post n hn => (hso _).mpr ?_⟩
      · rw [b4, j5 a c ha (by omega)]; exact ⟨fun z => (by cases z), fun z => (by cases z.2.2)⟩
      · rw [b4, j4 0 0 zS.2 zD.2, hh]
        exact ⟨fun _ => hn, fun z => absurd z (by decide +kernel)⟩
    | false =>
      obtain ⟨σ5, m1, m2, m3⟩ := mark_m (σ := σ4) (s := 0) (i := 0) (by omega) (by omega)
      refine ⟨σ5, m2, fun a c ha hc => ?_, fun post n hn => (hso _).mpr ?_⟩
      · rw [m3 a c (by omega), b4, j5 a c ha (by omega), Bool.false_or, decide_eq_true_iff]
        exact ⟨fun z => ⟨z.1, z.2, rfl⟩, fun z => ⟨z.1, z.2.1⟩⟩
      · rw [b4, j4 0 0 zS.2 zD.2, hh]
        exact ⟨fun z => absurd rfl z, fun _ => m1 _ hn⟩
  have M5 := MC_FL M4 f5 hP55
  have o5 : ∀ c, c = 80 ∨ c = 82 → ∀ s i, bt σ5 c s i = bt σ3 c s i := fun c hc s i => by
    rw [← b4]; exact bt_o (f5.2.2 c s (by unfold Pk; omega)) (f5.2.2 (c + 1) s (by unfold Pk; omega))
  obtain ⟨r, σ6, ⟨T', t1, t2, t3, t4⟩, run⟩ := told_m hLall hq zS.2 zD.2 M5 (fun a j ha hj => by rw [o5 80 (by omega)]; exact j3 a j ha hj) (fun s j hs hj => by rw [o5 82 (by omega)]; exact j4 s j hs hj) h84 (by rw [f5.1, hσ4, si_1, if_pos ⟨rfl, rfl⟩])
  have hT := Tl_eq hW hWD (by omega) zS.2 zD.2 t2.s t4
  have hlen := TD_len (by omega) hq t2
  rw [hT]
  -- frames
  have c4 : ∀ c, c ≠ 54 → σ4.1 c = σ3.1 c := fun c h => by rw [hσ4]; exact si_c h
  have eI : ∀ c k, c ≠ 88 → ¬ (c = 54 ∧ k = 40) → σ6.1 c k = σ2.1 c k := fun c k h1 h2 => by
    by_cases h54 : c = 54
    · subst h54
      rw [t1.b k (fun q => h2 ⟨rfl, q⟩), f5.1, hσ4, si_1, if_neg (fun q => h2 ⟨rfl, q.2⟩), j2.1]
    · rw [t1.a c h54 h1, f5.1, c4 c h54, j2.1]
  have eL : ∀ c k, c < 54 ∨ c = 55 → σ6.2.1 c k = σ2.2.1 c k := fun c k hc => by
    rw [t1.d c k (by unfold Pg Pk Pf; omega), f5.2.2 c k (by unfold Pk; omega), hσ4]
    exact j2.2.2 c k (by unfold Pj; omega)
  have e3 : σ6.2.2 = σ2.2.2 := by rw [t1.c, f5.2.1, hσ4]; exact j2.2.1
  have eM : MSt σ2 σ6 := ⟨fun c hc => funext fun k => eI c k (by omega) (by omega), fun c hc => funext fun k => eL c k (Or.inl hc), e3⟩
  have e2 : MSt σ σ2 := ⟨fun c hc => funext fun k => by rw [p2.2 c k (fun z => by have := Qr_ok z; unfold MOf at this; omega), si_c (by omega)], fun c hc => by rw [p2.1]; rfl, by rw [p2.1]; rfl⟩
  have i0 : (0 : Int32).toNatClampNeg = 0 := rfl
  have i1 : (1 : Int32).toNatClampNeg = 1 := rfl
  refine ⟨σ6, fun post hp => ?_, ⟨TT_e p4.a (funext fun k => eI 56 k (by omega) (by omega)) (funext fun k => eI 57 k (by omega) (by omega)), TT_e p4.b (funext fun k => eI 56 k (by omega) (by omega)) (funext fun k => eI 57 k (by omega) (by omega)), by rw [show σ6.2.1 55 = σ2.2.1 55 from funext fun k => eL 55 k (Or.inr rfl)]; exact p4.w, t2.n, t2.r, PNa_e p4.n (eI 54 42 (by omega) (by omega)) (funext fun k => eI 90 k (by omega) (by omega)) (funext fun k => eI 89 k (by omega) (by omega))⟩, MSt_t e2 eM, ?_, hlen, Tl_in (by omega) (by omega) t2⟩
  · obtain ⟨n, hn⟩ := run post (by rw [t3]; exact hp)
    refine ⟨n + 1, ?_⟩
    show wb_Md_judge_0 (wp_Md_judge post n) post σ
    intro σa ha
    rw [ha]
    refine p1 _ ⟨(n_in (a := 0) (by omega)).mpr (by omega), ?_⟩
    have F0 : σ2.1 71 0 = nI 0 := by have := p3.p.s.i.F; rw [f0] at this; exact this
    have F1 : σ2.1 71 1 = nI 0 := by have := p3.d.F; rw [f1] at this; exact this
    rw [i0, i1, F0, F1, hLl]
    refine ⟨fun z => absurd z (by decide +kernel), fun _ => ⟨(n_in (a := 1) (by omega)).mpr (by omega), fun _ => ⟨fun _ => j1 _ (fun σb hb => ?_), fun z => absurd z (by decide +kernel)⟩, fun z => absurd (by decide +kernel) z⟩⟩
    rw [hb]
    have := st post n hn
    rw [hσ4] at this
    exact this
  · rw [eI 54 1 (by omega) (by omega), p2.2 54 1 (by unfold Qr Pm Qp; omega), si_1, if_pos ⟨rfl, rfl⟩]
/-- judge -/
theorem t_judge (hJ : J σ) (hQ : ∀ σ', J σ' → Q σ') {post : Int32 → Sg → Prop} (hp : ∀ r1 σ1, wq_Md_judge σ1 (fun r2 σ2 => Cm Q r1 r2 σ2) → post r1 σ1) : wq_Lw_judge σ post := by
  obtain ⟨l, x, S, D, Lc, T, W, h1, h2, h3, h4⟩ := J_o hJ
  have hl := KC_l h1
  obtain ⟨σ1, S, r1, r2, r3, r4, r5, r6⟩ := read0 h1
  have J1 := J_cr h2 h3 h4 r2 (Fr_0 r6)
  have k1 := KO_cr h2 (Fr_0 r6)
  have m1 := MO_cr h3 (Fr_0 r6)
  have hSF := r5.f
  have i0 : (0 : Int32).toNatClampNeg = 0 := rfl
  have i1 : (1 : Int32).toNatClampNeg = 1 := rfl
  -- the reference refuses
  have ref : ∀ (σ0 : Sg) (r : Int32), ¬ r = 0 → J σ0 → MO (l 0) (x 0) (l 1) (x 1) T W σ0 → ∀ D, TR 1 (l 1) (x 1) D → ((r = 1 ∧ (0 < S.F ∨ 0 < D.F)) ∨ (r = 2 ∧ S.F = 0 ∧ D.F = 0 ∧ ∃ L, OLc (x 0) (l 0) S L ∧ Mxc (x 0) (l 0) S L ∧ allC S L = false)) → post r σ0 := by
    intro σ0 r hr j0 mo D hD hbad
    have hDF := hD.f
    obtain ⟨σ2, L, q1, q2, q3, q4, q5⟩ := prepM (MO_54 (k := 0) mo) hl r5 hD
    obtain ⟨PO, hPO⟩ : ∃ PO : Int32 → Sg → Prop, PO = (fun r2 σ2 => Cm Q r r2 σ2) := ⟨_, rfl⟩
    refine hp r σ0 (by
      rw [← hPO]
      refine ⟨1, ?_⟩
      show wb_Md_judge_0 (wp_Md_judge PO 0) PO σ0
      intro σa ha
      rw [ha]
      refine q1 _ ⟨(n_in (a := 0) (by omega)).mpr (by omega), ?_⟩
      have F0 : σ2.1 71 0 = nI S.F := q3.p.s.i.F
      have F1 : σ2.1 71 1 = nI D.F := q3.d.F
      rw [i0, i1, F0, F1]
      have hf : wq_Md_fails r σ2 (fun r3 σ3 => PO r3 σ3) := by rw [hPO]; exact fails_n hr (hQ _ (J_thr (J_Qr (J_thr j0) q2)))
      rcases hbad with ⟨e, hb⟩ | ⟨e, z0, z1, L', o1, o2, o3⟩
      · subst e
        refine ⟨fun _ => hf, fun y => ⟨(n_in (a := 1) (by omega)).mpr (by omega), fun z => ?_, fun _ => hf⟩⟩
        exfalso
        rcases hb with q | q
        · exact y ((n_lt (a := 0) (by omega) (by omega)).mpr q)
        · have := (n_le (b := 0) (by omega) (by omega)).mp z; omega
      · subst e
        rw [z0, z1]
        have hLl : decide (L.length = S.N) = false := by rw [← q5 L' o1 o2]; exact o3
        rw [hLl]
        exact ⟨fun z => absurd z (by decide +kernel), fun _ => ⟨(n_in (a := 1) (by omega)).mpr (by omega), fun _ => ⟨fun z => absurd rfl z, fun _ => hf⟩, fun z => absurd (by decide +kernel) z⟩⟩)
  unfold wq_Lw_judge
  by_cases f0 : S.F = 0
  · obtain ⟨σ2, D, a1, a2, a3, a4, a5, a6⟩ := read1 r2
    have J2 := J_cr k1 m1 h4 a2 (Fr_1 a6)
    have k2 := KO_cr k1 (Fr_1 a6)
    have m2 := MO_cr m1 (Fr_1 a6)
    have hDF := a5.f
    have e12 : σ2.1 12 1 = nI 1 := by rw [a6.2 12 1 (by unfold Q1; omega)]; exact r3
    have F0 : ¬ 0 < σ1.1 0 11 := by rw [r4.F, f0]; decide +kernel
    by_cases f1 : D.F = 0
    · have F1 : σ2.1 13 11 ≤ 0 := by rw [a4.F, f1]; decide +kernel
      obtain ⟨σ3, L3, b1, b2, b3, b4, b5⟩ := planK a2 e12
      obtain ⟨k3, m3, J3⟩ := J_pl k2 m2 h4 b2 b5
      have e12' : σ3.1 12 1 = nI 1 := by rw [b5.2 12 1 (by unfold Pp; omega)]; exact e12
      have e25' : σ3.1 25 1 = nI 1 := by rw [b5.2 25 1 (by unfold Pp; omega)]; exact a3
      have hb := b4.b
      cases hall : allC S L3 with
      | true =>
        rw [hall] at hb
        obtain ⟨σ4, c1, c2, c3, c4, c5, c6, c7⟩ := verdK b2 m3 e12' e25' b3 hall
        have k4 : KO T W σ4 := KO_f k3 (fun c h1 h2 _ _ _ k _ => c5 c k (by omega)) (by rw [c7])
        have m4 : MO (l 0) (x 0) (l 1) (x 1) T W σ4 := MO_f m3 (fun c hc => funext fun k => c5 c k (by omega)) (fun k _ => c5 54 k (by omega)) (funext fun k => c6 55 k (by omega) (by omega))
        obtain ⟨_, _, _, _, _, g5, _⟩ := judgeM m4 hl r5 a5 f0 f1 b4.l b4.m hall
        refine Or.inl (rd0 r1 ⟨Or.inl rfl, fun z => absurd z F0, fun _ => rd1 a1 ⟨Or.inr rfl, fun _ => b1 _ ?_, fun z => absurd F1 z⟩⟩)
        rw [hb]
        refine ⟨fun _ => c1 _ ⟨by omega, by omega, write_c c3 c4 hall (r5.z f0).2 (a5.z f1).2 (by omega) k4.t.p (fun σ5 w1 w2 w3 w4 => ?_)⟩, fun z => absurd rfl z⟩
        rw [w1.n]
        refine lay (hp 0 _ ?_)
        -- what stands after the class's writing
        have cs : CSt σ4 (sl σ5 53 0 (nI (Tl (x 0) (l 0) S (x 1) (l 1) D).length).toInt64) := ⟨fun c hc => w2 c (by omega) (by omega), fun c hc => funext fun k => by rw [sl_2, if_neg (fun q => by omega)]; exact w4 c k (by unfold P4; omega)⟩
        have m5 := MO_C m4 cs
        obtain ⟨σ6, g1, g2, g3, g4, g5, g6⟩ := judgeM m5 hl r5 a5 f0 f1 b4.l b4.m hall
        refine g1 _ (Cm_0 g4 ?_ (hQ _ ?_))
        · rw [g3.2.1 53 (by omega), sl_2, if_pos ⟨rfl, rfl⟩]
        · have kc5 : KC (l 0) (x 0) (l 1) (x 1) S D L3 (sl σ5 53 0 (nI (Tl (x 0) (l 0) S (x 1) (l 1) D).length).toInt64) := KC_f c2 (fun c hc => w2 c (by omega) (by omega)) (fun c hc => funext fun k => by rw [sl_2, if_neg (fun q => by omega)]; exact w4 c k (by unfold P4; omega))
          have ko5 : KO (Tl (x 0) (l 0) S (x 1) (l 1) D) W (sl σ5 53 0 (nI (Tl (x 0) (l 0) S (x 1) (l 1) D).length).toInt64) := ⟨⟨w1.n, w1.r, w1.l, w1.p⟩, PNa_e k4.n (congrFun (w2 45 (by omega) (by omega)) 0) (w2 47 (by omega) (by omega)) (w2 46 (by omega) (by omega))⟩
          exact J_i (KC_M kc5 g3) (KO_M ko5 g3) g2 ⟨g5, g6, h4.w, h4.o, h4.l⟩
      | false =>
        rw [hall] at hb
        refine Or.inr (Or.inr (rd0 r1 ⟨Or.inl rfl, fun z => absurd z F0, fun _ => rd1 a1 ⟨Or.inr rfl, fun _ => b1 _ ?_, fun z => absurd F1 z⟩⟩))
        rw [hb]
        exact ⟨fun z => absurd z (by decide +kernel), fun _ => ref σ3 2 (by decide +kernel) J3 m3 D a5 (Or.inr ⟨rfl, f0, f1, L3, b4.l, b4.m, hall⟩)⟩
    · refine Or.inr (Or.inl (rd0 r1 ⟨Or.inl rfl, fun z => absurd z F0, fun _ => rd1 a1 ⟨Or.inr rfl, fun z => ?_, fun _ => ref σ2 1 i1_0 J2 m2 D a5 (Or.inl ⟨rfl, Or.inr (by omega)⟩)⟩⟩))
      rw [a4.F] at z
      exact absurd ((n_le (b := 0) (by omega) (by omega)).mp z) (by omega)
  · obtain ⟨D', hD', _⟩ := tree1 r2
    refine Or.inr (Or.inl (rd0 r1 ⟨Or.inl rfl, fun _ => ref σ1 1 i1_0 J1 m1 D' hD' (Or.inl ⟨rfl, Or.inl (by omega)⟩), fun z => absurd ?_ z⟩))
    rw [r4.F]
    exact (n_lt (a := 0) (by omega) (by omega)).mpr (by omega)
theorem row_s {c v i : Nat} (hc : c < 32) (hv : v < 160) (hi : i < 80) : (nI (65536 * i + 256 * v + c) &&& (255 : Int32)) = nI c ∧ nI (65536 * i + 256 * v + c) >>> ((16 : Int32) &&& 31) = nI i ∧ ((nI (65536 * i + 256 * v + c) >>> ((8 : Int32) &&& 31)) &&& (255 : Int32)) = nI v := by
  refine ⟨?_, ?_, ?_⟩
  · rw [pk_andN (by omega) 8 (by decide +kernel)]; congr 1; omega
  · rw [pk_shrN (by omega) _ 16 (by decide +kernel)]; congr 1; omega
  · rw [pk_shrN (by omega) _ 8 (by decide +kernel), pk_andN (by omega) 8 (by decide +kernel)]; congr 1; omega
theorem ent_s {c v i : Nat} (hc : c < 32) (hv : v < 160) (hi : i < 80) : (nI (c + 32 * (v + 256 * i)) &&& (31 : Int32)) = nI c ∧ nI (c + 32 * (v + 256 * i)) >>> ((13 : Int32) &&& 31) = nI i ∧ ((nI (c + 32 * (v + 256 * i)) >>> ((5 : Int32) &&& 31)) &&& (255 : Int32)) = nI v := by
  refine ⟨?_, ?_, ?_⟩
  · rw [pk_andN (by omega) 5 (by decide +kernel)]; congr 1; omega
  · rw [pk_shrN (by omega) _ 13 (by decide +kernel)]; congr 1; omega
  · rw [pk_shrN (by omega) _ 5 (by decide +kernel), pk_andN (by omega) 8 (by decide +kernel)]; congr 1; omega
theorem two_x (x2 : Int32) : (x2 = nI 0 ∨ x2 = nI 1 ∨ x2 = nI 2) ∨ (x2 < 0 ∨ ¬ x2 ≤ 2) := by
  by_cases h0 : x2 < 0
  · exact Or.inr (Or.inl h0)
  · by_cases h1 : x2 ≤ 2
    · obtain ⟨j, hj, rfl⟩ := nI_of h0
      have : j ≤ 2 := (n_le (b := 2) (by omega) (by omega)).mp h1
      refine Or.inl ?_
      rcases (show j = 0 ∨ j = 1 ∨ j = 2 by omega) with e | e | e
      · exact Or.inl (by rw [e])
      · exact Or.inr (Or.inl (by rw [e]))
      · exact Or.inr (Or.inr (by rw [e]))
    · exact Or.inr (Or.inr h1)
/-- diagnostic -/
theorem t_diagnostic (hJ : J σ) (hQ : ∀ σ', J σ' → Q σ') (x1 x2 : Int32) {post : Int32 → Sg → Prop} (hp : ∀ r1 σ1, wq_Md_diagnostic x1 x2 σ1 (fun r2 σ2 => Cm Q r1 r2 σ2) → post r1 σ1) : wq_Lw_diagnostic x1 x2 σ post := by
  obtain ⟨l, x, S, D, Lc, T, W, h1, h2, h3, h4⟩ := J_o hJ
  have hT := h4.t
  unfold wq_Lw_diagnostic
  rcases two_x x2 with h012 | hx2
  · have x20 : ¬ x2 < 0 := by rcases h012 with e | e | e <;> (rw [e]; decide +kernel)
    have x22 : x2 ≤ 2 := by rcases h012 with e | e | e <;> (rw [e]; decide +kernel)
    rcases nd_x x1 (N := T.length) (by omega) with ⟨k, hk, rfl⟩ | hx1
    · have hk0 : ¬ nI k < 0 := fun z => absurd ((n_lt (b := 0) (by omega) (by omega)).mp z) (by omega)
      have hkT : nI k < nI T.length := (n_lt (by omega) (by omega)).mpr hk
      obtain ⟨c, v, i, e1, e2, e3, e4⟩ := h4.e (T.getD k 0) (getD_m hk)
      have r1 : σ.1 52 k = nI (65536 * i + 256 * v + c) := by rw [h2.t.r k hk, e1, rowE_e (by omega) (by omega) e2]
      have r2 : ∀ w : Int64, (si (sl σ 53 0 w) 54 1 0).1 88 k = nI (c + 32 * (v + 256 * i)) := fun w => by rw [si_c (by omega)]; show σ.1 88 k = _; rw [h3.r k hk, e1]
      have r3 : ∀ w : Int64, (si (sl σ 53 0 w) 54 1 0).1 54 40 = nI T.length := fun w => by rw [si_1, if_neg (by omega)]; exact h3.t
      obtain ⟨a1, a2, a3⟩ := row_s e2 e3 e4
      obtain ⟨b1, b2, b3⟩ := ent_s e2 e3 e4
      have vin : vp_in (nI k) σ.2.2.2 := (n_in (by omega)).mpr (by have := h2.t.l; omega)
      have vin2 : vp_in (nI k) 1300 := (n_in (by omega)).mpr (by omega)
      have kcl : (nI k).toNatClampNeg = k := n_cl (by omega)
      have cm : ∀ u : Int32, Cm Q 0 u (si (sl σ 53 0 u.toInt64) 54 1 0) := fun u => Cm_0 (by rw [si_1, if_pos ⟨rfl, rfl⟩]) (by rw [si_2, sl_2, if_pos ⟨rfl, rfl⟩]) (hQ _ (J_thr (J_53 hJ)))
      have mod : ∀ u : Int32, (u = (if x2 = 0 then nI c else if x2 = 1 then nI i else nI v)) → post 0 (sl σ 53 0 u.toInt64) := by
        intro u hu
        refine hp 0 _ (fun σa ha => ?_)
        rw [ha, r3, kcl, r2, b1, b2, b3]
        refine ⟨fun z => absurd z x20, fun _ => ⟨fun _ => ⟨fun z => absurd z hk0, fun _ => ⟨fun _ => ⟨fun z => ⟨fun y => ⟨vin2, ?_⟩, fun y => ⟨vin2, ?_⟩⟩, fun z => ⟨vin2, ?_⟩⟩, fun z => absurd hkT z⟩⟩, fun z => absurd x22 z⟩⟩
        · rw [if_neg z, if_neg y] at hu; rw [← hu]; exact cm u
        · rw [if_neg z, if_pos y] at hu; rw [← hu]; exact cm u
        · rw [if_pos z] at hu; rw [← hu]; exact cm u
      refine Or.inl ⟨fun z => absurd z x20, fun _ => ⟨fun _ => ⟨fun z => absurd z hk0, fun _ => ?_⟩, fun z => absurd x22 z⟩⟩
      rw [h2.t.n]
      refine ⟨fun _ => ⟨fun z => ⟨vin, ?_⟩, fun z => ⟨vin, ?_⟩, fun z => ⟨vin, ?_⟩⟩, fun z => absurd hkT z⟩
      · rw [kcl, r1, a1]; exact lay (mod _ (by rw [if_pos z]))
      · rw [kcl, r1, a2]; exact lay (mod _ (by rw [z, if_neg i1_0, if_pos rfl]))
      · rw [kcl, r1, a3]; exact lay (mod _ (by rw [if_neg z.1, if_neg z.2]))
    · have hno : post 2 σ := by
        refine hp 2 σ (fun σa ha => ?_)
        rw [ha]
        have hf := fails_n (Q := Q) (σ := si σ 54 1 0) (r := 2) (by decide +kernel) (hQ _ (J_thr (J_thr hJ)))
        have r3 : (si σ 54 1 0).1 54 40 = nI T.length := by rw [si_1, if_neg (by omega)]; exact h3.t
        rw [r3]
        exact ⟨fun z => absurd z x20, fun _ => ⟨fun _ => ⟨fun _ => hf, fun y => ⟨fun z => hx1.elim (fun q => absurd q y) (fun q => absurd z (not_lt_le q)), fun _ => hf⟩⟩, fun z => absurd x22 z⟩⟩
      refine Or.inr (Or.inr ⟨fun z => absurd z x20, fun _ => ⟨fun _ => ⟨fun _ => hno, fun y => ?_⟩, fun z => absurd x22 z⟩⟩)
      rw [h2.t.n]
      exact ⟨fun z => hx1.elim (fun q => absurd q y) (fun q => absurd z (not_lt_le q)), fun _ => hno⟩
  · have hno : post 1 σ := by
      refine hp 1 σ (fun σa ha => ?_)
      rw [ha]
      have hf := fails_n (Q := Q) (σ := si σ 54 1 0) (r := 1) i1_0 (hQ _ (J_thr (J_thr hJ)))
      exact ⟨fun _ => hf, fun y => ⟨fun z => hx2.elim (fun q => absurd q y) (fun q => absurd z q), fun _ => hf⟩⟩
    exact Or.inr (Or.inl ⟨fun _ => hno, fun y => ⟨fun z => hx2.elim (fun q => absurd q y) (fun q => absurd z q), fun _ => hno⟩⟩)
end JT
