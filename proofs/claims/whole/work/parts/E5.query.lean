section QU
variable {Q : Sg → Prop} {σ : Sg} {l : Nat → Nat} {x : Nat → Nat → Nat} {S D : TG} {Lc T : List Nat} {W : List (List Nat)}
def MOf (c k : Nat) : Prop := 54 ≤ c ∧ c ≠ 56 ∧ c ≠ 57 ∧ c ≠ 88 ∧ c ≠ 89 ∧ c ≠ 90 ∧ ¬ (c = 54 ∧ (k = 40 ∨ k = 42))
theorem J_m {σ' : Sg} (h : J σ) (e1 : ∀ c k, ¬ MOf c k → σ'.1 c k = σ.1 c k) (e2 : ∀ c k, c < 54 ∨ c = 55 → σ'.2.1 c k = σ.2.1 c k) (e3 : σ'.2.2 = σ.2.2) : J σ' := by
  obtain ⟨l, x, S, D, Lc, T, W, h1, h2, h3, h4⟩ := J_o h
  have m : MSt σ σ' := ⟨fun c hc => funext fun k => e1 c k (by unfold MOf; omega), fun c hc => funext fun k => e2 c k (Or.inl hc), e3⟩
  exact J_i (KC_M h1 m) (KO_M h2 m) (MO_f h3 (fun c hc => funext fun k => e1 c k (by unfold MOf; omega)) (fun k hk => e1 54 k (by unfold MOf; omega)) (funext fun k => e2 55 k (Or.inr rfl))) h4
theorem J_rd {t : Nat} {σ' : Sg} (h : J σ) (f : MFr t σ σ') : J σ' := J_m h (fun c k q => f.2 c k (fun z => q (by unfold Pm at z; unfold MOf; omega))) (fun c k _ => by rw [f.1]) (by rw [f.1])
def Qt (c k : Nat) : Prop := Q0 c k ∨ Q1 c k
theorem readK {t : Nat} (ht : t < 2) (h : KC (l 0) (x 0) (l 1) (x 1) S D Lc σ) : ∃ σ' S' D' G, Rv (wq_Rd_refresh (bk t) σ) σ' ∧ KC (l 0) (x 0) (l 1) (x 1) S' D' Lc σ' ∧ CI (bk t) σ' (l t) (x t) G op0 ∧ TR t (l t) (x t) G ∧ Fr Qt σ σ' := by
  rcases (show t = 0 ∨ t = 1 by omega) with e | e
  · subst e
    obtain ⟨σ', S', q1, q2, q3, q4, q5, q6⟩ := read0 h
    exact ⟨σ', S', D, S', q1, q2, q4, q5, q6.1, fun c k z => q6.2 c k (fun y => z (Or.inl y))⟩
  · subst e
    obtain ⟨σ', D', q1, q2, q3, q4, q5, q6⟩ := read1 h
    exact ⟨σ', S, D', D', q1, q2, q4, q5, q6.1, fun c k z => q6.2 c k (fun y => z (Or.inr y))⟩
theorem Qt_25 {c k : Nat} (h : Qt c k) : c ≤ 25 := by unfold Qt Q0 Q1 at h; omega
theorem KO_25 {P : Nat → Nat → Prop} {σ' : Sg} (h : KO T W σ) (f : Fr P σ σ') (hP : ∀ c k, P c k → c < 40) : KO T W σ' := KO_f h (fun c h1 h2 _ _ _ k _ => f.2 c k (fun q => by have := hP c k q; omega)) (by rw [f.1])
theorem readT {t : Nat} (ht : t < 2) {σ' : Sg} {post : Nat → Sg → Prop} (h : Rv (wq_Rd_refresh (bk t) σ) σ') (hp : post (bk t) σ') : wq_Sd_readTree (nI t) σ post := by
  unfold wq_Sd_readTree
  rcases (show t = 0 ∨ t = 1 by omega) with e | e
  · subst e; exact ⟨fun z => absurd rfl z, fun _ => h _ hp⟩
  · subst e; exact ⟨fun _ => h _ hp, fun z => absurd z i10⟩
/-- after the class's reading, all stands -/
theorem J_cr {S' D' : TG} {σ' : Sg} (h2 : KO T W σ) (h3 : MO (l 0) (x 0) (l 1) (x 1) T W σ) (h4 : BO T W) (k : KC (l 0) (x 0) (l 1) (x 1) S' D' Lc σ') (f : Fr Qt σ σ') : J σ' :=
  J_i k (KO_25 h2 f (fun c k q => by have := Qt_25 q; omega)) (MO_C h3 (CSt_Fr f (fun c k q => by have := Qt_25 q; omega))) h4
theorem MO_cr {σ' : Sg} (h3 : MO (l 0) (x 0) (l 1) (x 1) T W σ) (f : Fr Qt σ σ') : MO (l 0) (x 0) (l 1) (x 1) T W σ' := MO_C h3 (CSt_Fr f (fun c k q => by have := Qt_25 q; omega))
/-- the reference reads the same -/
theorem readM {t : Nat} {G : TG} (ht : t < 2) (h3 : MO (l 0) (x 0) (l 1) (x 1) T W σ) (hG : TR t (l t) (x t) G) : ∃ σ', Rv (wq_Md_read (nI t) σ) σ' ∧ MI t σ' (l t) (x t) G op0 ∧ MFr t σ σ' := by
  obtain ⟨σ', q1, q2, q3, q4⟩ := hG.m σ (MO_t ht h3) h3.w
  exact ⟨σ', q1, q2, q4⟩
theorem MO_54 {k : Int32} (h3 : MO (l 0) (x 0) (l 1) (x 1) T W σ) : MO (l 0) (x 0) (l 1) (x 1) T W (si σ 54 1 k) := MO_f h3 (fun c hc => si_c (by omega)) (fun k hk => by rw [si_1, if_neg (by omega)]) rfl
theorem MO_53 {v : Int64} (h3 : MO (l 0) (x 0) (l 1) (x 1) T W σ) : MO (l 0) (x 0) (l 1) (x 1) T W (sl σ 53 0 v) := MO_f h3 (fun c hc => rfl) (fun k hk => rfl) (funext fun k => by rw [sl_2, if_neg (fun q => absurd q.1 (by decide))])
theorem fr54 {t : Nat} {σ' : Sg} (f : MFr t σ σ') : σ'.1 54 1 = σ.1 54 1 := f.2 54 1 (by unfold Pm; omega)
theorem fr53 {t : Nat} {σ' : Sg} (f : MFr t σ σ') : σ'.2.1 53 0 = σ.2.1 53 0 := by rw [f.1]
/-- nodes -/
theorem t_nodes (hJ : J σ) (hQ : ∀ σ', J σ' → Q σ') (x1 : Int32) {post : Int32 → Sg → Prop} (hp : ∀ r1 σ1, wq_Md_nodes x1 σ1 (fun r2 σ2 => Cm Q r1 r2 σ2) → post r1 σ1) : wq_Lw_nodes x1 σ post := by
  obtain ⟨l, x, S, D, Lc, T, W, h1, h2, h3, h4⟩ := J_o hJ
  unfold wq_Lw_nodes
  rcases txt_x x1 with ⟨t, ht, rfl⟩ | ⟨n0, n1⟩
  · obtain ⟨σ1, S', D', G, r1, r2, r3, r4, r5⟩ := readK ht h1
    have hJ1 := J_cr h2 h3 h4 r2 r5
    refine Or.inl (isT_y ht ⟨fun _ => readT ht r1 ⟨bk_ok ht, ?_⟩, fun z => absurd z i1_0⟩)
    rw [r3.N]
    refine lay (hp 0 _ ⟨2, ?_⟩)
    show wb_Md_nodes_0 (wp_Md_nodes (fun r2 σ2 => Cm Q 0 r2 σ2) 1) (fun r2 σ2 => Cm Q 0 r2 σ2) (nI t) (sl σ1 53 0 (nI G.N).toInt64)
    refine mT_y ht ⟨fun z => absurd z i1_0, fun _ σa ha => ?_⟩
    rw [ha]
    obtain ⟨σ2, m1, m2, m3⟩ := readM ht (MO_54 (k := 0) (MO_53 (v := (nI G.N).toInt64) (MO_cr h3 r5))) r4
    refine ⟨fun _ => m1 _ ⟨(n_in (by omega)).mpr ht, ?_⟩, fun z => absurd (by rw [si_1, if_pos ⟨rfl, rfl⟩]) z⟩
    rw [n_cl (by omega), m2.N]
    exact Cm_0 (by rw [fr54 m3, si_1, if_pos ⟨rfl, rfl⟩]) (by rw [fr53 m3, si_2, sl_2, if_pos ⟨rfl, rfl⟩]) (hQ _ (J_rd (J_thr (J_53 hJ1)) m3))
  · refine Or.inr (isT_n n0 n1 ⟨fun z => absurd rfl z, fun _ => hp 1 σ ⟨2, ?_⟩⟩)
    show wb_Md_nodes_0 (wp_Md_nodes (fun r2 σ2 => Cm Q 1 r2 σ2) 1) (fun r2 σ2 => Cm Q 1 r2 σ2) x1 σ
    refine mT_n n0 n1 ⟨fun _ σa ha => ?_, fun z => absurd rfl z⟩
    rw [ha]
    exact ⟨fun z => absurd (by rw [si_1, if_pos ⟨rfl, rfl⟩] at z; exact z) i1_0, fun _ => Cm_n i1_0 (by rw [si_1, if_pos ⟨rfl, rfl⟩]) (hQ _ (J_thr hJ))⟩
/-- faults -/
theorem t_faults (hJ : J σ) (hQ : ∀ σ', J σ' → Q σ') (x1 : Int32) {post : Int32 → Sg → Prop} (hp : ∀ r1 σ1, wq_Md_faults x1 σ1 (fun r2 σ2 => Cm Q r1 r2 σ2) → post r1 σ1) : wq_Lw_faults x1 σ post := by
  obtain ⟨l, x, S, D, Lc, T, W, h1, h2, h3, h4⟩ := J_o hJ
  unfold wq_Lw_faults
  rcases txt_x x1 with ⟨t, ht, rfl⟩ | ⟨n0, n1⟩
  · obtain ⟨σ1, S', D', G, r1, r2, r3, r4, r5⟩ := readK ht h1
    have hJ1 := J_cr h2 h3 h4 r2 r5
    refine Or.inl (isT_y ht ⟨fun _ => readT ht r1 ⟨bk_ok ht, ?_⟩, fun z => absurd z i1_0⟩)
    rw [r3.F]
    refine lay (hp 0 _ ⟨2, ?_⟩)
    show wb_Md_faults_0 (wp_Md_faults (fun r2 σ2 => Cm Q 0 r2 σ2) 1) (fun r2 σ2 => Cm Q 0 r2 σ2) (nI t) (sl σ1 53 0 (nI G.F).toInt64)
    refine mT_y ht ⟨fun z => absurd z i1_0, fun _ σa ha => ?_⟩
    rw [ha]
    obtain ⟨σ2, m1, m2, m3⟩ := readM ht (MO_54 (k := 0) (MO_53 (v := (nI G.F).toInt64) (MO_cr h3 r5))) r4
    refine ⟨fun _ => m1 _ ⟨(n_in (by omega)).mpr ht, ?_⟩, fun z => absurd (by rw [si_1, if_pos ⟨rfl, rfl⟩]) z⟩
    rw [n_cl (by omega), m2.F]
    exact Cm_0 (by rw [fr54 m3, si_1, if_pos ⟨rfl, rfl⟩]) (by rw [fr53 m3, si_2, sl_2, if_pos ⟨rfl, rfl⟩]) (hQ _ (J_rd (J_thr (J_53 hJ1)) m3))
  · refine Or.inr (isT_n n0 n1 ⟨fun z => absurd rfl z, fun _ => hp 1 σ ⟨2, ?_⟩⟩)
    show wb_Md_faults_0 (wp_Md_faults (fun r2 σ2 => Cm Q 1 r2 σ2) 1) (fun r2 σ2 => Cm Q 1 r2 σ2) x1 σ
    refine mT_n n0 n1 ⟨fun _ σa ha => ?_, fun z => absurd rfl z⟩
    rw [ha]
    exact ⟨fun z => absurd (by rw [si_1, if_pos ⟨rfl, rfl⟩] at z; exact z) i1_0, fun _ => Cm_n i1_0 (by rw [si_1, if_pos ⟨rfl, rfl⟩]) (hQ _ (J_thr hJ))⟩
theorem fails_n {r : Int32} (h0 : ¬ r = 0) (hQ : Q (si σ 54 1 r)) : wq_Md_fails r σ (fun r2 σ2 => Cm Q r r2 σ2) := fun σ1 q => by rw [q]; exact Cm_n h0 (by rw [si_1, if_pos ⟨rfl, rfl⟩]) hQ
/-- fault -/
theorem t_fault (hJ : J σ) (hQ : ∀ σ', J σ' → Q σ') (x1 x2 : Int32) {post : Int32 → Sg → Prop} (hp : ∀ r1 σ1, wq_Md_fault x1 x2 σ1 (fun r2 σ2 => Cm Q r1 r2 σ2) → post r1 σ1) : wq_Lw_fault x1 x2 σ post := by
  obtain ⟨l, x, S, D, Lc, T, W, h1, h2, h3, h4⟩ := J_o hJ
  unfold wq_Lw_fault
  rcases txt_x x1 with ⟨t, ht, rfl⟩ | ⟨n0, n1⟩
  · obtain ⟨σ1, S', D', G, r1, r2, r3, r4, r5⟩ := readK ht h1
    have hJ1 := J_cr h2 h3 h4 r2 r5
    have hl := KC_lt ht h1
    have hF := r4.f
    by_cases hx : x2 < 0 ∨ ¬ x2 < nI G.F
    · refine Or.inr (Or.inr (isT_y ht ⟨fun _ => readT ht r1 ⟨bk_ok ht, ?_⟩, fun z => absurd z i1_0⟩))
      have hno : post 2 σ1 := by
        refine hp 2 σ1 (fun σa ha => ?_)
        rw [ha]
        obtain ⟨σ2, m1, m2, m3⟩ := readM ht (MO_54 (k := 0) (MO_cr h3 r5)) r4
        refine mT_y ht ⟨fun _ => m1 _ ?_, fun z => absurd z i1_0⟩
        have hf := fails_n (Q := Q) (σ := σ2) (r := 2) (by decide +kernel) (hQ _ (J_thr (J_rd (J_thr hJ1) m3)))
        refine ⟨fun _ => hf, fun y => ⟨(n_in (by omega)).mpr ht, ?_⟩⟩
        rw [n_cl (by omega), m2.F]
        exact ⟨fun z => hx.elim (fun q => absurd q y) (fun q => absurd z q), fun _ => hf⟩
      rw [r3.F]
      exact ⟨fun _ => hno, fun y => ⟨fun z => hx.elim (fun q => absurd q y) (fun q => absurd z q), fun _ => hno⟩⟩
    · have hx0 : ¬ x2 < 0 := fun q => hx (Or.inl q)
      have hx1 : x2 < nI G.F := Classical.byContradiction (fun q => hx (Or.inr q))
      have hr := rm_le ht
      obtain ⟨k, hk, rfl⟩ := nI_of hx0
      have hkF : k < G.F := (n_lt hk (by omega)).mp hx1
      have htf : G.F ≤ tf (bk t) ∧ G.F ≤ 400 := by
        rcases rm_v ht with ⟨e, q⟩ | ⟨e, q⟩
        · subst e; show G.F ≤ 480 ∧ _; omega
        · subst e; show G.F ≤ 240 ∧ _; omega
      refine Or.inl (isT_y ht ⟨fun _ => readT ht r1 ⟨bk_ok ht, fun z => absurd z hx0, fun _ => ?_⟩, fun z => absurd z i1_0⟩)
      rw [r3.F, n_cl hk, r3.fl k hkF]
      refine ⟨fun _ => ⟨(n_in hk).mpr (by omega), lay (hp 0 _ (fun σa ha => ?_))⟩, fun z => absurd hx1 z⟩
      rw [ha]
      obtain ⟨σ2, m1, m2, m3⟩ := readM ht (MO_54 (k := 0) (MO_53 (v := (nI (G.fl k)).toInt64) (MO_cr h3 r5))) r4
      refine mT_y ht ⟨fun _ => m1 _ ⟨fun z => absurd z hx0, fun _ => ⟨(n_in (by omega)).mpr ht, ?_⟩⟩, fun z => absurd z i1_0⟩
      rw [n_cl (by omega), m2.F, show (400 : Int32) = nI 400 from rfl, pk_mul, nI_add, n_cl (a := 400 * t + k) (by omega), m2.fl k hkF]
      exact ⟨fun _ => ⟨(n_in (by omega)).mpr (by omega), Cm_0 (by rw [fr54 m3, si_1, if_pos ⟨rfl, rfl⟩]) (by rw [fr53 m3, si_2, sl_2, if_pos ⟨rfl, rfl⟩]) (hQ _ (J_rd (J_thr (J_53 hJ1)) m3))⟩, fun z => absurd hx1 z⟩
  · refine Or.inr (Or.inl (isT_n n0 n1 ⟨fun z => absurd rfl z, fun _ => hp 1 σ (fun σa ha => ?_)⟩))
    rw [ha]
    exact mT_n n0 n1 ⟨fun z => absurd rfl z, fun _ => fails_n i1_0 (hQ _ (J_thr (J_thr hJ)))⟩
theorem has_y {b N k : Nat} {post : Int32 → Sg → Prop} (h9 : σ.1 b 9 = nI N) (hk : k < N) (hN : N < 2147483648) (hp : post 1 σ) : wq_Tr_has b (nI k) σ post := by
  unfold wq_Tr_has
  rw [h9]
  exact ⟨fun z => absurd ((n_lt (b := 0) (by omega) (by omega)).mp z) (by omega), fun _ => ⟨fun z => absurd ((n_le (by omega) (by omega)).mp z) (by omega), fun _ => ⟨nb1, hp⟩⟩⟩
theorem has_n {b N : Nat} {x1 : Int32} {post : Int32 → Sg → Prop} (h9 : σ.1 b 9 = nI N) (hx : x1 < 0 ∨ nI N ≤ x1) (hp : post 0 σ) : wq_Tr_has b x1 σ post := by
  unfold wq_Tr_has
  rw [h9]
  exact ⟨fun _ => ⟨nb0, hp⟩, fun y => ⟨fun _ => ⟨nb0, hp⟩, fun z => hx.elim (fun q => absurd q y) (fun q => absurd q z)⟩⟩
theorem nd_x (x1 : Int32) {N : Nat} (hN : N < 2147483648) : (∃ k, k < N ∧ x1 = nI k) ∨ (x1 < 0 ∨ nI N ≤ x1) := by
  rcases pk_ix x1 (n := N) hN with z | z | z
  · exact Or.inr (Or.inl z)
  · exact Or.inr (Or.inr z)
  · exact Or.inl z
theorem not_lt_le {x1 : Int32} {N : Nat} (h : nI N ≤ x1) : ¬ x1 < nI N := Int32.not_lt.mpr h
theorem six_x (x3 : Int32) : (∃ m, m ≤ 6 ∧ x3 = nI m) ∨ (x3 < 0 ∨ ¬ x3 ≤ 6) := by
  by_cases h0 : x3 < 0
  · exact Or.inr (Or.inl h0)
  · by_cases h1 : x3 ≤ 6
    · obtain ⟨j, hj, rfl⟩ := nI_of h0
      exact Or.inl ⟨j, (n_le (b := 6) (by omega) (by omega)).mp h1, rfl⟩
    · exact Or.inr (Or.inr h1)
/-- what a node answers -/
def nvl (G : TG) (k m : Nat) : Int32 := if m = 0 then nI (G.kd k) else if m = 1 then nI (G.fr k) else if m = 2 then nI (G.en k) else if m = 3 then oI (G.pr k) else if m = 4 then nI (G.K k).length else if m = 5 then oI (G.nm k) else G.nu k
/-- node -/
theorem t_node (hJ : J σ) (hQ : ∀ σ', J σ' → Q σ') (x1 x2 x3 : Int32) {post : Int32 → Sg → Prop} (hp : ∀ r1 σ1, wq_Md_node x1 x2 x3 σ1 (fun r2 σ2 => Cm Q r1 r2 σ2) → post r1 σ1) : wq_Lw_node x1 x2 x3 σ post := by
  obtain ⟨l, x, S, D, Lc, T, W, h1, h2, h3, h4⟩ := J_o hJ
  unfold wq_Lw_node
  rcases txt_x x1 with ⟨t, ht, rfl⟩ | ⟨n0, n1⟩
  · rcases six_x x3 with ⟨m, hm, rfl⟩ | h6
    · obtain ⟨σ1, S', D', G, r1, r2, r3, r4, r5⟩ := readK ht h1
      have hJ1 := J_cr h2 h3 h4 r2 r5
      have hl := KC_lt ht h1
      have hr := rm_le ht
      have hN := r4.n
      have hm0 : ¬ nI m < 0 := fun z => absurd ((n_lt (b := 0) (by omega) (by omega)).mp z) (by omega)
      have hm6 : nI m ≤ 6 := (n_le (b := 6) (by omega) (by omega)).mpr hm
      rcases nd_x x2 (N := G.N) (by omega) with ⟨k, hk, rfl⟩ | hx
      · refine Or.inl (isT_y ht ⟨fun z => absurd z i1_0, fun _ => ⟨fun z => absurd z hm0, fun _ => ⟨fun _ => readT ht r1 ⟨bk_ok ht, has_y r3.N hk (by omega) ⟨fun _ => ?_, fun z => absurd z i1_0⟩⟩, fun z => absurd hm6 z⟩⟩⟩)
        -- the answer of both
        have ans : vp_in (nI k) (tl (bk t)) := (n_in (by omega)).mpr (by rw [tl_rm ht]; omega)
        have fin : ∀ v, v = nvl G k m → (vp_in (0 : Int32) 1 ∧ (∀ σ2, σ2 = sl σ1 53 ((0 : Int32) : Int32).toNatClampNeg (v.toInt64) → post (0 : Int32) σ2)) := by
          intro v hv
          refine lay (hp 0 _ (fun σa ha => ?_))
          rw [ha]
          obtain ⟨σ2, m1, m2, m3⟩ := readM ht (MO_54 (k := 0) (MO_53 (v := v.toInt64) (MO_cr h3 r5))) r4
          refine mT_y ht ⟨fun z => absurd z i1_0, fun _ => ⟨fun z => absurd z hm0, fun _ => ⟨fun _ => m1 _ ⟨fun z => absurd ((n_lt (b := 0) (by omega) (by omega)).mp z) (by omega), fun _ => ⟨(n_in (by omega)).mpr ht, ?_⟩⟩, fun z => absurd hm6 z⟩⟩⟩
          have e160 : (160 : Int32) * nI t + nI k = nI (160 * t + k) := by rw [show (160 : Int32) = nI 160 from rfl, pk_mul, nI_add]
          have vin : vp_in (nI (160 * t + k)) 240 := (n_in (by omega)).mpr (by omega)
          rw [n_cl (a := t) (by omega), m2.N, e160, n_cl (a := 160 * t + k) (by omega)]
          have cm : ∀ u, u = nvl G k m → Cm Q 0 u σ2 := fun u hu => Cm_0 (by rw [fr54 m3, si_1, if_pos ⟨rfl, rfl⟩]) (by rw [fr53 m3, si_2, sl_2, if_pos ⟨rfl, rfl⟩, hu, hv]) (hQ _ (J_rd (J_thr (J_53 hJ1)) m3))
          have ev : ∀ j, j < 100 → (nI m = nI j ↔ m = j) := fun j hj => n_eq (by omega) (by omega)
          refine ⟨fun _ => ⟨fun z3 => ⟨fun z => ⟨fun y => ⟨fun w => ⟨vin, cm _ ?_⟩, fun w => ⟨vin, cm _ ?_⟩⟩, fun y => ⟨vin, cm _ ?_⟩⟩, fun z => ⟨vin, ?_⟩⟩, fun z3 => ⟨fun z => ⟨fun y => ⟨vin, cm _ ?_⟩, fun y => ⟨vin, cm _ ?_⟩⟩, fun z => ⟨vin, cm _ ?_⟩⟩⟩, fun z => absurd ((n_lt (by omega) (by omega)).mpr hk) z⟩
          · have a3 := (n_le (a := 3) (by omega) (by omega)).mp z3
            have b1 : m ≠ 3 := fun q => z ((ev 3 (by omega)).mpr q)
            have b2 : m ≠ 4 := fun q => y ((ev 4 (by omega)).mpr q)
            have b3 : m ≠ 5 := fun q => w ((ev 5 (by omega)).mpr q)
            have : m = 6 := by omega
            subst this
            rw [m2.nu k hk (by show 0 < 2; omega)]; rfl
          · have := (ev 5 (by omega)).mp w; subst this
            rw [m2.nm k hk]; rfl
          · have := (ev 4 (by omega)).mp y; subst this
            rw [m2.mn k hk]; rfl
          · have := (ev 3 (by omega)).mp z; subst this
            rw [m2.pr k hk]
            cases hpr : G.pr k with
            | none => exact ⟨fun z => absurd z (by show ¬ (0 : Int32) ≤ -nI 1; decide +kernel), fun _ => cm _ (by show (-1 : Int32) = oI (G.pr k); rw [hpr]; rfl)⟩
            | some q =>
              have hq : q < G.N := by
                rcases r4.w.up k hk with y | ⟨q', y1, y2, y3⟩
                · rw [y.2] at hpr; cases hpr
                · rw [hpr] at y1; injection y1 with y1; omega
              refine ⟨fun _ => ⟨vin, cm _ ?_⟩, fun z => absurd ((n_le (a := 0) (by omega) (by omega)).mpr (by omega)) z⟩
              show nI (160 * t + q) - 160 * nI t = oI (G.pr k)
              rw [show (160 : Int32) = nI 160 from rfl, pk_mul, pk_sub (by omega), Nat.add_sub_cancel_left, hpr]; rfl
          · have a3 : ¬ 3 ≤ m := fun q => z3 ((n_le (a := 3) (by omega) (by omega)).mpr q)
            have b1 : m ≠ 0 := fun q => z ((ev 0 (by omega)).mpr q)
            have b2 : m ≠ 1 := fun q => y ((ev 1 (by omega)).mpr q)
            have : m = 2 := by omega
            subst this
            rw [m2.en k hk rfl]; rfl
          · have := (ev 1 (by omega)).mp y; subst this
            rw [m2.fr k hk]; rfl
          · have := (ev 0 (by omega)).mp z; subst this
            rw [m2.kd k hk (by show 0 < 2; omega)]; rfl
        have ev : ∀ j, j < 100 → (nI m = nI j ↔ m = j) := fun j hj => n_eq (by omega) (by omega)
        have kcl : (nI k).toNatClampNeg = k := n_cl (by omega)
        rw [kcl]
        refine ⟨fun z => ⟨ans, fin _ ?_⟩, fun z => ⟨ans, fin _ ?_⟩, fun z => ⟨ans, fin _ ?_⟩, fun z => ⟨ans, fin _ ?_⟩, fun z => ⟨ans, fin _ ?_⟩, fun z => ⟨ans, fin _ ?_⟩, fun z => ⟨ans, fin _ ?_⟩⟩
        · have := (ev 0 (by omega)).mp z; subst this
          rw [r3.kd k hk (by show 0 < 2; omega)]; rfl
        · have := (ev 1 (by omega)).mp z; subst this
          rw [r3.fr k hk]; rfl
        · have := (ev 2 (by omega)).mp z; subst this
          rw [r3.en k hk rfl]; rfl
        · have := (ev 3 (by omega)).mp z; subst this
          rw [r3.pr k hk]; rfl
        · have := (ev 4 (by omega)).mp z; subst this
          rw [r3.mn k hk]; rfl
        · have := (ev 5 (by omega)).mp z; subst this
          rw [r3.nm k hk]; rfl
        · have b0 : m ≠ 0 := fun q => z.1 ((ev 0 (by omega)).mpr q)
          have b1 : m ≠ 1 := fun q => z.2.1 ((ev 1 (by omega)).mpr q)
          have b2 : m ≠ 2 := fun q => z.2.2.1 ((ev 2 (by omega)).mpr q)
          have b3 : m ≠ 3 := fun q => z.2.2.2.1 ((ev 3 (by omega)).mpr q)
          have b4 : m ≠ 4 := fun q => z.2.2.2.2.1 ((ev 4 (by omega)).mpr q)
          have b5 : m ≠ 5 := fun q => z.2.2.2.2.2 ((ev 5 (by omega)).mpr q)
          have : m = 6 := by omega
          subst this
          rw [r3.nu k hk (by show 0 < 2; omega)]; rfl
      · refine Or.inr (Or.inr (isT_y ht ⟨fun z => absurd z i1_0, fun _ => ⟨fun z => absurd z hm0, fun _ => ⟨fun _ => readT ht r1 ⟨bk_ok ht, has_n r3.N hx ⟨fun z => absurd rfl z, fun _ => ?_⟩⟩, fun z => absurd hm6 z⟩⟩⟩))
        refine hp 2 σ1 (fun σa ha => ?_)
        rw [ha]
        obtain ⟨σ2, m1, m2, m3⟩ := readM ht (MO_54 (k := 0) (MO_cr h3 r5)) r4
        have hf := fails_n (Q := Q) (σ := σ2) (r := 2) (by decide +kernel) (hQ _ (J_thr (J_rd (J_thr hJ1) m3)))
        refine mT_y ht ⟨fun z => absurd z i1_0, fun _ => ⟨fun z => absurd z hm0, fun _ => ⟨fun _ => m1 _ ⟨fun _ => hf, fun y => ⟨(n_in (by omega)).mpr ht, ?_⟩⟩, fun z => absurd hm6 z⟩⟩⟩
        rw [n_cl (by omega), m2.N]
        exact ⟨fun z => hx.elim (fun q => absurd q y) (fun q => absurd z (not_lt_le q)), fun _ => hf⟩
    · have hno : post 1 σ := by
        refine hp 1 σ (fun σa ha => ?_)
        rw [ha]
        have hf := fails_n (Q := Q) (σ := si σ 54 1 0) (r := 1) i1_0 (hQ _ (J_thr (J_thr hJ)))
        exact mT_y ht ⟨fun z => absurd z i1_0, fun _ => ⟨fun _ => hf, fun y => ⟨fun z => h6.elim (fun q => absurd q y) (fun q => absurd z q), fun _ => hf⟩⟩⟩
      exact Or.inr (Or.inl (isT_y ht ⟨fun z => absurd z i1_0, fun _ => ⟨fun _ => hno, fun y => ⟨fun z => h6.elim (fun q => absurd q y) (fun q => absurd z q), fun _ => hno⟩⟩⟩))
  · refine Or.inr (Or.inl (isT_n n0 n1 ⟨fun _ => hp 1 σ (fun σa ha => ?_), fun z => absurd rfl z⟩))
    rw [ha]
    exact mT_n n0 n1 ⟨fun _ => fails_n i1_0 (hQ _ (J_thr (J_thr hJ))), fun z => absurd rfl z⟩
end QU
