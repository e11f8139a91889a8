section JD
variable {Q : Sg → Prop} {σ : Sg} {l : Nat → Nat} {x : Nat → Nat → Nat} {S D : TG} {Lc T : List Nat} {W : List (List Nat)}
theorem Qr_ok {c k : Nat} (h : Qr c k) : MOf c k := by unfold Qr Pm Qp at h; unfold MOf; omega
theorem prepM (h3 : MO (l 0) (x 0) (l 1) (x 1) T W σ) (hl : l 0 ≤ 160 ∧ l 1 ≤ 80) (hS : TR 0 (l 0) (x 0) S) (hD : TR 1 (l 1) (x 1) D) : ∃ σ' L, Ri (wq_Md_prepared σ) (nB (decide (L.length = S.N))) σ' ∧ Fr Qr σ σ' ∧ MC (x 0) (l 0) S (x 1) (l 1) D L σ' ∧ MO (l 0) (x 0) (l 1) (x 1) T W σ' ∧ (∀ Lc, OLc (x 0) (l 0) S Lc → Mxc (x 0) (l 0) S Lc → allC S Lc = decide (L.length = S.N)) := by
  obtain ⟨σ', L, q1, q2, q3, q4⟩ := prepared_r h3.a h3.b h3.w hS hD
  have e : ∀ c, c = 56 ∨ c = 57 ∨ c = 88 ∨ c = 89 ∨ c = 90 → σ'.1 c = σ.1 c := fun c hc => funext fun k => q2.2 c k (fun z => by have := Qr_ok z; unfold MOf at this; omega)
  have m' : MO (l 0) (x 0) (l 1) (x 1) T W σ' := MO_f h3 e (fun k hk => q2.2 54 k (fun z => by have := Qr_ok z; unfold MOf at this; omega)) (by rw [q2.1])
  refine ⟨σ', L, q1, q2, ⟨q3, q4, m'.b.1, hS.w, hD.w, by have := hS.n; omega, by have := hD.n; omega⟩, m', fun Lc o1 o2 => good_iff hS.w o1 o2 q3.l q3.m⟩
theorem J_Qr {σ' : Sg} (h : J σ) (f : Fr Qr σ σ') : J σ' := J_m h (fun c k q => f.2 c k (fun z => q (Qr_ok z))) (fun c k _ => by rw [f.1]) (by rw [f.1])
theorem J_pl {S' D' : TG} {L' : List Nat} {σ' : Sg} (h2 : KO T W σ) (h3 : MO (l 0) (x 0) (l 1) (x 1) T W σ) (h4 : BO T W) (k : KC (l 0) (x 0) (l 1) (x 1) S' D' L' σ') (f : Fr Pp σ σ') : KO T W σ' ∧ MO (l 0) (x 0) (l 1) (x 1) T W σ' ∧ J σ' := by
  have a := KO_25 h2 f (fun c k q => by unfold Pp at q; omega)
  have b := MO_C h3 (CSt_Fr f (fun c k q => by unfold Pp at q; omega))
  exact ⟨a, b, J_i k a b h4⟩
theorem KO_cr {σ' : Sg} (h2 : KO T W σ) (f : Fr Qt σ σ') : KO T W σ' := KO_25 h2 f (fun c k q => by have := Qt_25 q; omega)
theorem Fr_0 {σ' : Sg} (f : Fr Q0 σ σ') : Fr Qt σ σ' := ⟨f.1, fun c k z => f.2 c k (fun y => z (Or.inl y))⟩
theorem Fr_1 {σ' : Sg} (f : Fr Q1 σ σ') : Fr Qt σ σ' := ⟨f.1, fun c k z => f.2 c k (fun y => z (Or.inr y))⟩
theorem rd0 {σ' : Sg} {post : Nat → Sg → Prop} (h : Rv (wq_Rd_refresh 0 σ) σ') (hp : post 0 σ') : wq_Sd_readTree (0 : Int32) σ post := readT (t := 0) (by omega) h hp
theorem rd1 {σ' : Sg} {post : Nat → Sg → Prop} (h : Rv (wq_Rd_refresh 13 σ) σ') (hp : post 13 σ') : wq_Sd_readTree (1 : Int32) σ post := readT (t := 1) (by omega) h hp
/-- the law's comparing of a verdict -/
def CmH (Q : Sg → Prop) (r1 r2 : Int32) (σ2 : Sg) : Prop := wq_Md_thrown σ2 (fun r3 σ3 => ((r3 = r1 → ((¬ r1 = 0 → Q σ3) ∧ (r1 = 0 → (vp_in (0 : Int32) 1 ∧ ((r2 = 0 → (((lg_cmp (σ3.2.1 53 ((0 : Int32) : Int32).toNatClampNeg) (0 : Int64)) = 0 → Q σ3) ∧ (¬ (lg_cmp (σ3.2.1 53 ((0 : Int32) : Int32).toNatClampNeg) (0 : Int64)) = 0 → False))) ∧ (¬ r2 = 0 → (((lg_cmp (σ3.2.1 53 ((0 : Int32) : Int32).toNatClampNeg) (1 : Int64)) = 0 → Q σ3) ∧ (¬ (lg_cmp (σ3.2.1 53 ((0 : Int32) : Int32).toNatClampNeg) (1 : Int64)) = 0 → False)))))))) ∧ (¬ r3 = r1 → False)))
theorem CmH_0 {b : Bool} (h1 : σ.1 54 1 = 0) (h2 : σ.2.1 53 0 = (nB b).toInt64) (hq : Q σ) : CmH Q 0 (nB b) σ := by
  refine ⟨fun _ => ⟨fun z => absurd rfl z, fun _ => ⟨vin0, fun z => ?_, fun z => ?_⟩⟩, fun z => absurd h1 z⟩
  · refine ⟨fun _ => hq, fun y => y ?_⟩
    cases b with
    | false => rw [lg_cmp_eq]; exact h2
    | true => exact absurd z (by decide +kernel)
  · refine ⟨fun _ => hq, fun y => y ?_⟩
    cases b with
    | false => exact absurd rfl z
    | true => rw [lg_cmp_eq]; exact h2
theorem CmH_n {r2 r : Int32} (h0 : ¬ r = 0) (h1 : σ.1 54 1 = r) (hq : Q σ) : CmH Q r r2 σ := ⟨fun _ => ⟨fun _ => hq, fun z => absurd z h0⟩, fun z => absurd h1 z⟩
theorem nbB (b : Bool) : narrow .boolean (.int (nB b)) = .int (nB b) := by cases b <;> decide +kernel
theorem J_ja {σ' : Sg} {P : Nat → Nat → Prop} (h : J σ) (f : FL P σ σ') (hP : ∀ c k, P c k → 54 ≤ c ∧ c ≠ 55) : J σ' := J_m h (fun c k _ => by rw [f.1]) (fun c k hc => f.2.2 c k (fun z => by have := hP c k z; omega)) f.2.1
theorem layH {b : Bool} {post : Int32 → Sg → Prop} (h : post 0 (sl σ 53 0 (nB b).toInt64)) : (nB b = 0 → (vp_in (0 : Int32) 1 ∧ (∀ σ2, σ2 = sl σ 53 ((0 : Int32) : Int32).toNatClampNeg (0 : Int64) → post (0 : Int32) σ2))) ∧ (¬ nB b = 0 → (vp_in (0 : Int32) 1 ∧ (∀ σ2, σ2 = sl σ 53 ((0 : Int32) : Int32).toNatClampNeg (1 : Int64) → post (0 : Int32) σ2))) := by
  cases b with
  | false => exact ⟨fun _ => ⟨vin0, fun σ2 q => by rw [q]; exact h⟩, fun z => absurd rfl z⟩
  | true => exact ⟨fun z => absurd z (by decide +kernel), fun _ => ⟨vin0, fun σ2 q => by rw [q]; exact h⟩⟩
/-- holds -/
theorem t_holds (hJ : J σ) (hQ : ∀ σ', J σ' → Q σ') (x1 x2 : Int32) {post : Int32 → Sg → Prop} (hp : ∀ r1 σ1, wq_Md_holds x1 x2 σ1 (fun r2 σ2 => CmH Q r1 r2 σ2) → post r1 σ1) : wq_Lw_holds x1 x2 σ post := by
  obtain ⟨l, x, S, D, Lc, T, W, h1, h2, h3, h4⟩ := J_o hJ
  have hl := KC_l h1
  obtain ⟨σ1, S, r1, r2, r3, r4, r5, r6⟩ := read0 h1
  have J1 := J_cr h2 h3 h4 r2 (Fr_0 r6)
  have k1 := KO_cr h2 (Fr_0 r6)
  have m1 := MO_cr h3 (Fr_0 r6)
  have hSN := r5.n
  -- the reference refuses
  have ref1 : ∀ (σ0 : Sg), J σ0 → MO (l 0) (x 0) (l 1) (x 1) T W σ0 → ∀ D, TR 1 (l 1) (x 1) D → ((x1 < 0 ∨ nI S.N ≤ x1) ∨ (x2 < 0 ∨ nI D.N ≤ x2)) → post 1 σ0 := by
    intro σ0 j0 mo D hD hbad
    obtain ⟨PO, hPO⟩ : ∃ PO : Int32 → Sg → Prop, PO = (fun r2 σ2 => CmH Q 1 r2 σ2) := ⟨_, rfl⟩
    obtain ⟨σ2, L, q1, q2, q3, q4, q5⟩ := prepM (MO_54 (k := 0) mo) hl r5 hD
    refine hp 1 σ0 (by
      rw [← hPO]
      refine ⟨3, ?_⟩
      show wb_Md_holds_0 (wp_Md_holds PO 2) PO x1 x2 σ0
      intro σa ha
      rw [ha]
      have one : wp_Md_holds PO 2 1 x1 x2 σ2 := by
        show wb_Md_holds_1 (wp_Md_holds PO 1) PO x1 x2 σ2
        intro σb hb
        rw [hb]
        show wb_Md_holds_2 (wp_Md_holds PO 0) PO x1 x2 (si σ2 54 1 1)
        refine ⟨fun z => absurd (by rw [si_1, if_pos ⟨rfl, rfl⟩] at z; exact z) i1_0, fun _ => ⟨nb0, ?_⟩⟩
        rw [hPO]; exact CmH_n i1_0 (by rw [si_1, if_pos ⟨rfl, rfl⟩]) (hQ _ (J_thr (J_Qr (J_thr j0) q2)))
      refine q1 _ ⟨fun _ => one, fun y1 => ⟨(n_in (a := 0) (by omega)).mpr (by omega), ?_⟩⟩
      have n0 : σ2.1 58 0 = nI S.N := (MC_T q3).nS
      have n1 : σ2.1 58 1 = nI D.N := (MC_T q3).nD
      have c0 : (0 : Int32).toNatClampNeg = 0 := rfl
      have c1 : (1 : Int32).toNatClampNeg = 1 := rfl
      rw [c0, c1, n0, n1]
      refine ⟨fun _ => one, fun y2 => ⟨fun _ => one, fun y3 => ⟨(n_in (a := 1) (by omega)).mpr (by omega), fun y4 => ?_, fun _ => one⟩⟩⟩
      exfalso
      rcases hbad with (q | q) | (q | q)
      · exact y1 q
      · exact y2 q
      · exact y3 q
      · exact not_lt_le q y4)
  unfold wq_Lw_holds
  rcases nd_x x1 (N := S.N) (by omega) with ⟨s, hs, rfl⟩ | hx1
  · obtain ⟨σ2, D, a1, a2, a3, a4, a5, a6⟩ := read1 r2
    have J2 := J_cr k1 m1 h4 a2 (Fr_1 a6)
    have k2 := KO_cr k1 (Fr_1 a6)
    have m2 := MO_cr m1 (Fr_1 a6)
    have hDN := a5.n
    have e12 : σ2.1 12 1 = nI 1 := by rw [a6.2 12 1 (by unfold Q1; omega)]; exact r3
    rcases nd_x x2 (N := D.N) (by omega) with ⟨i, hi, rfl⟩ | hx2
    · obtain ⟨σ3, L3, b1, b2, b3, b4, b5⟩ := planK a2 e12
      obtain ⟨k3, m3, J3⟩ := J_pl k2 m2 h4 b2 b5
      have e12' : σ3.1 12 1 = nI 1 := by rw [b5.2 12 1 (by unfold Pp; omega)]; exact e12
      have e25' : σ3.1 25 1 = nI 1 := by rw [b5.2 25 1 (by unfold Pp; omega)]; exact a3
      have hb := b4.b
      cases hall : allC S L3 with
      | true =>
        rw [hall] at hb
        obtain ⟨σ4, c1, c2, c3, c4, c5, c6, c7⟩ := verdK b2 m3 e12' e25' b3 hall
        have k4 : KO T W σ4 := KO_f k3 (fun c h1 h2 _ _ _ k _ => c5 c k (by omega)) (by rw [c7])
        have m4 : MO (l 0) (x 0) (l 1) (x 1) T W σ4 := MO_f m3 (fun c hc => funext fun k => c5 c k (by omega)) (fun k _ => c5 54 k (by omega)) (funext fun k => c6 55 k (by omega) (by omega))
        have J4 := J_i c2 k4 m4 h4
        refine Or.inl (rd0 r1 ⟨Or.inl rfl, has_y (b := 0) r4.N hs (by omega) ⟨fun z => absurd z i1_0, fun _ => rd1 a1 ⟨Or.inr rfl, has_y (b := 13) a4.N hi (by omega) ⟨fun _ => b1 _ ?_, fun z => absurd z i1_0⟩⟩⟩⟩)
        rw [hb]
        refine ⟨fun _ => c1 _ (isHeld_r c3.v hs hi _ ⟨nbB _, layH (hp 0 _ ?_)⟩), fun z => absurd rfl z⟩
        rw [c3.d.h s i hs hi]
        obtain ⟨σ5, L, q1, q2, q3, q4, q5⟩ := prepM (MO_54 (k := 0) (MO_53 (v := (nB (HH (x 0) (l 0) S (x 1) (l 1) D s i)).toInt64) m4)) hl r5 a5
        have hLl : decide (L.length = S.N) = true := by rw [← q5 L3 b4.l b4.m]; exact hall
        have hLall := full_l q3.p.l (of_decide_eq_true hLl)
        obtain ⟨σ6, j1, j2, j3, j4, j5⟩ := judgeAll_m q3 hLall
        obtain ⟨PO, hPO⟩ : ∃ PO : Int32 → Sg → Prop, PO = (fun r2 σ2 => CmH Q 0 r2 σ2) := ⟨_, rfl⟩
        rw [← hPO]
        refine ⟨2, ?_⟩
        show wb_Md_holds_0 (wp_Md_holds PO 1) PO (nI s) (nI i) (sl σ4 53 0 (nB (HH (x 0) (l 0) S (x 1) (l 1) D s i)).toInt64)
        intro σa ha
        rw [ha]
        have n0 : σ5.1 58 0 = nI S.N := (MC_T q3).nS
        have n1 : σ5.1 58 1 = nI D.N := (MC_T q3).nD
        have z0 : (0 : Int32).toNatClampNeg = 0 := rfl
        have z1 : (1 : Int32).toNatClampNeg = 1 := rfl
        have e54 : σ5.1 54 1 = 0 := by rw [q2.2 54 1 (by unfold Qr Pm Qp; omega), si_1, if_pos ⟨rfl, rfl⟩]
        have two : wp_Md_holds PO 1 2 (nI s) (nI i) σ5 := by
          show wb_Md_holds_2 (wp_Md_holds PO 0) PO (nI s) (nI i) σ5
          refine ⟨fun _ => j1 _ ?_, fun z => absurd e54 z⟩
          rw [show (160 : Int32) = nI 160 from rfl, nI_add, Md_isSo_r (by omega) (by omega), j4 s i hs hi, hPO]
          refine ⟨nbB _, CmH_0 (by rw [j2.1]; exact e54) ?_ (hQ _ (J_ja (J_Qr (J_thr (J_53 J4)) q2) j2 (fun c k q => by unfold Pj at q; omega)))⟩
          rw [j2.2.2 53 0 (by unfold Pj; omega), q2.1, si_2, sl_2, if_pos ⟨rfl, rfl⟩]
        refine q1 _ ⟨fun z => absurd ((n_lt (b := 0) (by omega) (by omega)).mp z) (by omega), fun _ => ⟨(n_in (a := 0) (by omega)).mpr (by omega), ?_⟩⟩
        rw [z0, z1, n0, n1, hLl]
        exact ⟨fun z => absurd ((n_le (by omega) (by omega)).mp z) (by omega), fun _ => ⟨fun z => absurd ((n_lt (b := 0) (by omega) (by omega)).mp z) (by omega), fun _ => ⟨(n_in (a := 1) (by omega)).mpr (by omega), fun _ => ⟨fun _ => two, fun z => absurd z (by decide +kernel)⟩, fun z => absurd ((n_lt (by omega) (by omega)).mpr hi) z⟩⟩⟩
      | false =>
        rw [hall] at hb
        refine Or.inr (Or.inr (rd0 r1 ⟨Or.inl rfl, has_y (b := 0) r4.N hs (by omega) ⟨fun z => absurd z i1_0, fun _ => rd1 a1 ⟨Or.inr rfl, has_y (b := 13) a4.N hi (by omega) ⟨fun _ => b1 _ ?_, fun z => absurd z i1_0⟩⟩⟩⟩))
        rw [hb]
        refine ⟨fun z => absurd z (by decide +kernel), fun _ => hp 2 σ3 ?_⟩
        obtain ⟨σ5, L, q1, q2, q3, q4, q5⟩ := prepM (MO_54 (k := 0) m3) hl r5 a5
        have hLl : decide (L.length = S.N) = false := by rw [← q5 L3 b4.l b4.m]; exact hall
        obtain ⟨PO, hPO⟩ : ∃ PO : Int32 → Sg → Prop, PO = (fun r2 σ2 => CmH Q 2 r2 σ2) := ⟨_, rfl⟩
        rw [← hPO]
        refine ⟨2, ?_⟩
        show wb_Md_holds_0 (wp_Md_holds PO 1) PO (nI s) (nI i) σ3
        intro σa ha
        rw [ha]
        have n0 : σ5.1 58 0 = nI S.N := (MC_T q3).nS
        have n1 : σ5.1 58 1 = nI D.N := (MC_T q3).nD
        have z0 : (0 : Int32).toNatClampNeg = 0 := rfl
        have z1 : (1 : Int32).toNatClampNeg = 1 := rfl
        refine q1 _ ⟨fun z => absurd ((n_lt (b := 0) (by omega) (by omega)).mp z) (by omega), fun _ => ⟨(n_in (a := 0) (by omega)).mpr (by omega), ?_⟩⟩
        rw [z0, z1, n0, n1, hLl]
        refine ⟨fun z => absurd ((n_le (by omega) (by omega)).mp z) (by omega), fun _ => ⟨fun z => absurd ((n_lt (b := 0) (by omega) (by omega)).mp z) (by omega), fun _ => ⟨(n_in (a := 1) (by omega)).mpr (by omega), fun _ => ⟨fun z => absurd rfl z, fun _ σb hb => ?_⟩, fun z => absurd ((n_lt (by omega) (by omega)).mpr hi) z⟩⟩⟩
        rw [hb]
        show wb_Md_holds_2 (wp_Md_holds PO 0) PO (nI s) (nI i) (si σ5 54 1 2)
        have i20 : ¬ ((2 : Int32) = 0) := by decide +kernel
        refine ⟨fun z => absurd (by rw [si_1, if_pos ⟨rfl, rfl⟩] at z; exact z) i20, fun _ => ⟨nb0, ?_⟩⟩
        rw [hPO]; exact CmH_n i20 (by rw [si_1, if_pos ⟨rfl, rfl⟩]) (hQ _ (J_thr (J_Qr (J_thr J3) q2)))
    · refine Or.inr (Or.inl (rd0 r1 ⟨Or.inl rfl, has_y (b := 0) r4.N hs (by omega) ⟨fun z => absurd z i1_0, fun _ => rd1 a1 ⟨Or.inr rfl, has_n (b := 13) a4.N hx2 ⟨fun z => absurd rfl z, fun _ => ref1 σ2 J2 m2 D a5 (Or.inr hx2)⟩⟩⟩⟩))
  · obtain ⟨D', hD', _⟩ := tree1 r2
    exact Or.inr (Or.inl (rd0 r1 ⟨Or.inl rfl, has_n (b := 0) r4.N hx1 ⟨fun _ => ref1 σ1 J1 m1 D' hD' (Or.inl hx1), fun z => absurd rfl z⟩⟩))
end JD
