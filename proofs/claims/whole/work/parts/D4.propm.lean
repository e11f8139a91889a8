section PM
variable {tS : Nat → Nat} {lS : Nat} {S : TG} {tD : Nat → Nat} {lD : Nat} {D : TG} {L : List Nat} {σ : Sg}
def Pq9 (c k : Nat) : Prop := (c = 54 ∧ k = 42) ∨ c = 91
def Pw9 (c k : Nat) : Prop := (c = 54 ∧ k = 42) ∨ c = 91 ∨ c = 89 ∨ c = 90
theorem Pq9_ok (c k : Nat) (h : Pq9 c k) : (88 ≤ c ∧ c ≤ 91) ∨ (c = 54 ∧ k ≠ 18 ∧ k ≠ 28) := by unfold Pq9 at h; omega
theorem Pw9_ok (c k : Nat) (h : Pw9 c k) : (88 ≤ c ∧ c ≤ 91) ∨ (c = 54 ∧ k ≠ 18 ∧ k ≠ 28) := by unfold Pw9 at h; omega
/-- the offered names are kept -/
theorem kept_m (M : MC tS lS S tD lD D L σ) {P : List Nat} (h : FM tS lS S σ P) (hn42 : σ.1 54 42 = nI P.length) : Ex1 (fun post n => wp_Md_propose post n 5 0 0 0 0 0 (si σ 90 0 (nI 0))) (fun r σ' => r = nI P.length ∧ Fr Pw9 σ σ' ∧ PNa 54 42 90 89 σ' (P.map (pw tS lS S))) := by
  have hn := M.ns
  have hT := M.p.s.t
  have hlS : lS ≤ 160 := hT.2.2.2.1
  have hPl := (OkF_len hlS h.o).1
  have hPz := (OkF_len hlS h.o).2
  rw [List.length_map] at hPl
  have tx : ∀ k, k < lS → σ.1 56 k = nI (tS k) ∧ tS k ≤ 126 := fun k hk => by
    have := hT.2.2.2.2.2 k hk; rw [show 160 * 0 + k = k by omega] at this; exact ⟨this.1, this.2.2⟩
  have a1 : ∀ p, Nd S p → σ.1 67 p = nI (nmo S p) := fun p h => by rw [(MC_T M).aS p h.1, h.2]; rfl
  have a2 : ∀ p, Nd S p → σ.1 68 p = nI (qe tS lS (nmo S p + 1)) := fun p h => by have := M.p.s.i.ne p h.1 _ h.2; rw [show 160 * 0 + p = p by omega] at this; exact this
  obtain ⟨W, hW⟩ : ∃ W, W = P.map (pw tS lS S) := ⟨_, rfl⟩
  have hWl : W.length = P.length := by rw [hW, List.length_map]
  have hWz : off W W.length ≤ 160 := by
    have e : W = (P.map (fun p => nmo S p + 1)).map (sf tS lS) := by rw [hW, List.map_map]; rfl
    rw [e, off_f]; exact hPz
  have hWg : ∀ j, j < P.length → W.getD j [] = pw tS lS S (P.getD j 0) := fun j hj => by
    rw [hW, List.getD_eq_getElem?_getD, List.getElem?_map, List.getD_eq_getElem?_getD, List.getElem?_eq_getElem hj]; rfl
  rw [← hW]
  obtain ⟨R, hR⟩ : ∃ R : Int32 → Sg → Prop, R = fun r σ' => r = nI P.length ∧ Fr Pw9 σ σ' ∧ PNa 54 42 90 89 σ' W := ⟨_, rfl⟩
  rw [← hR]
  let P89 := fun (c _k : Nat) => c = 89 ∨ c = 90
  have hP : ∀ c k, P89 c k → Pw9 c k := fun c k q => by unfold Pw9; have : c = 89 ∨ c = 90 := q; omega
  have Fr_w : ∀ σ', Fr P89 σ σ' → Fr Pw9 σ σ' := fun σ' f => ⟨f.1, fun c k q => f.2 c k (fun z => q (hP c k z))⟩
  have loop : ∀ m k (σ1 : Sg), k + m = P.length → Fr P89 σ σ1 → (∀ j, j ≤ k → σ1.1 90 j = nI (off W j)) → (∀ j, j < k → ∀ m, m < (W.getD j []).length → σ1.1 89 (off W j + m) = nI ((W.getD j []).getD m 0)) → Ex1 (fun post n => wp_Md_propose post n 5 0 (nI k) 0 0 0 σ1) R := by
    intro m
    induction m with
    | zero =>
      intro k σ1 hk f hs hl
      have : k = P.length := by omega
      subst this
      have e42 : σ1.1 54 42 = nI P.length := by rw [f.2 54 42 (by show ¬ (54 = 89 ∨ 54 = 90); omega)]; exact hn42
      refine ⟨nI P.length, σ1, by rw [hR]; exact ⟨rfl, Fr_w σ1 f, by rw [e42, hWl], by rw [hWl]; exact hs, by rw [hWl]; exact hl⟩, fun post hp => ⟨1, ?_⟩⟩
      show wb_Md_propose_5 (wp_Md_propose post 0) post (nI P.length) σ1
      unfold wb_Md_propose_5
      rw [e42]
      exact ⟨fun _ => hp, fun z => absurd ((n_le (by omega) (by omega)).mpr (Nat.le_refl _)) z⟩
    | succ m ih =>
      intro k σ1 hk f hs hl
      have hkP : k < P.length := by omega
      obtain ⟨p, hp0⟩ : ∃ p, p = P.getD k 0 := ⟨_, rfl⟩
      have hpP : p ∈ P := by rw [hp0]; exact getD_m hkP
      have hd := h.d p hpP
      have hpN := hd.1.1
      obtain ⟨g, hg⟩ : ∃ g, g = nmo S p + 1 := ⟨_, rfl⟩
      have hqs := qe_sp (tx := tS) (len := lS) (x := g) (by omega)
      have q1 := hqs.1
      have q2 := hqs.2.1
      have hsl : (W.getD k []).length = qe tS lS g - g := by rw [hWg k hkP, ← hp0, hg]; exact strn_l _ _ _
      have hos := off_s (W := W) (j := k) (by omega)
      have hom := off_m (W := W) (k := W.length) (j := k + 1) (by omega) (Nat.le_refl _)
      have inner : ∀ d x (σ2 : Sg), x + d = qe tS lS g - g → Fr P89 σ σ2 → (∀ j, j ≤ k → σ2.1 90 j = nI (off W j)) → (∀ j, j < k → ∀ m, m < (W.getD j []).length → σ2.1 89 (off W j + m) = nI ((W.getD j []).getD m 0)) → (∀ m, m < x → σ2.1 89 (off W k + m) = nI ((W.getD k []).getD m 0)) → Ex1 (fun post n => wp_Md_propose post n 9 0 (nI k) (nI p) (nI (qe tS lS g - g)) (nI x) σ2) R := by
        intro d
        induction d with
        | zero =>
          intro x σ2 hx f2 hs2 hl2 hc2
          have : x = qe tS lS g - g := by omega
          subst this
          refine Ex1_s (ih (k + 1) (si σ2 90 (k + 1) (nI (off W (k + 1)))) (by omega) (Fr_si f2 (Or.inr rfl)) (fun j hj => ?_) (fun j hj m hm => ?_)) (fun post n hn1 => ⟨n + 1, ?_⟩)
          · rw [si_1]
            by_cases e : j = k + 1
            · rw [if_pos ⟨rfl, e⟩, e]
            · rw [if_neg (fun q => e q.2)]; exact hs2 j (by omega)
          · rw [si_c (by omega)]
            by_cases e : j = k
            · subst e; rw [hsl] at hm; exact hc2 m hm
            · exact hl2 j (by omega) m hm
          · show wb_Md_propose_9 (wp_Md_propose post n) post (nI k) (nI p) (nI (qe tS lS g - g)) (nI (qe tS lS g - g)) σ2
            unfold wb_Md_propose_9
            rw [n_in (a := k) (by omega), n_cl (a := k) (by omega), hs2 k (Nat.le_refl _), show (1 : Int32) = nI 1 from rfl, nI_add, n_in (a := k + 1) (by omega), n_cl (a := k + 1) (by omega), nI_add]
            rw [hos, hsl] at hn1
            exact ⟨fun _ => ⟨by omega, by omega, fun σ3 q => by rw [q]; exact hn1⟩, fun z => absurd ((n_le (by omega) (by omega)).mpr (Nat.le_refl _)) z⟩
        | succ d ihd =>
          intro x σ2 hx f2 hs2 hl2 hc2
          have hxl : x < qe tS lS g - g := by omega
          have t1 := tx (g + x) (by omega)
          refine Ex1_s (ihd (x + 1) (si σ2 89 (off W k + x) (nI (tS (g + x)))) (by omega) (Fr_si f2 (Or.inl rfl)) (fun j hj => by rw [si_c (by omega)]; exact hs2 j hj) (fun j hj m hm => ?_) (fun m hm => ?_)) (fun post n hn1 => ⟨n + 1, ?_⟩)
          · have ho2 := off_s (W := W) (j := j) (by omega)
            have ho3 := off_m (W := W) (k := k) (j := j + 1) (by omega) (by omega)
            rw [si_1, if_neg (by omega)]; exact hl2 j hj m hm
          · rw [si_1]
            by_cases e : m = x
            · subst e
              rw [if_pos ⟨rfl, rfl⟩, hWg k hkP, ← hp0]
              unfold pw sf; rw [← hg, strn_g _ _ _ _ hxl]
            · rw [if_neg (by omega)]; exact hc2 m (by omega)
          · show wb_Md_propose_9 (wp_Md_propose post n) post (nI k) (nI p) (nI (qe tS lS g - g)) (nI x) σ2
            unfold wb_Md_propose_9
            have e67 : σ2.1 67 p = nI (nmo S p) := by rw [f2.2 67 p (by show ¬ (67 = 89 ∨ 67 = 90); omega)]; exact a1 p hd.1
            have e56 : σ2.1 56 (g + x) = nI (tS (g + x)) := by rw [f2.2 56 _ (by show ¬ (56 = 89 ∨ 56 = 90); omega)]; exact t1.1
            have e7 : nI (nmo S p) + 1 = nI g := by rw [show (1 : Int32) = nI 1 from rfl, nI_add, hg]
            rw [n_in (a := k) (by omega), n_cl (a := k) (by omega), hs2 k (Nat.le_refl _), n_in (a := p) (by omega), n_cl (a := p) (by omega), e67, e7, nI_add (a := g) (b := x), nI_add (a := off W k) (b := x), n_in (a := g + x) (by omega), n_cl (a := g + x) (by omega), e56, n_in (a := off W k + x) (by omega), n_cl (a := off W k + x) (by omega), show (1 : Int32) = nI 1 from rfl, nI_add x 1]
            exact ⟨fun z => absurd ((n_le (by omega) (by omega)).mp z) (by omega), fun _ => ⟨by omega, by omega, by omega, by omega, fun σ3 q => by rw [q]; exact hn1⟩⟩
      refine Ex1_s (inner (qe tS lS g - g) 0 σ1 (by omega) f hs hl (fun m hm => by omega)) (fun post n hn1 => ⟨n + 1, ?_⟩)
      show wb_Md_propose_5 (wp_Md_propose post n) post (nI k) σ1
      unfold wb_Md_propose_5
      have e42 : σ1.1 54 42 = nI P.length := by rw [f.2 54 42 (by show ¬ (54 = 89 ∨ 54 = 90); omega)]; exact hn42
      have e91 : σ1.1 91 k = nI p := by rw [f.2 91 k (by show ¬ (91 = 89 ∨ 91 = 90); omega), h.r k hkP, hp0]
      have e67 : σ1.1 67 p = nI (nmo S p) := by rw [f.2 67 p (by show ¬ (67 = 89 ∨ 67 = 90); omega)]; exact a1 p hd.1
      have e68 : σ1.1 68 p = nI (qe tS lS g) := by rw [f.2 68 p (by show ¬ (68 = 89 ∨ 68 = 90); omega), hg]; exact a2 p hd.1
      have e5 : nI (qe tS lS g) - nI (nmo S p) - (1 : Int32) = nI (qe tS lS g - g) := by rw [pk_sub (by omega), show (1 : Int32) = nI 1 from rfl, pk_sub (by omega)]; congr 1; omega
      rw [e42, n_in (a := k) (by omega), n_cl (a := k) (by omega), e91, n_in (a := p) (by omega), n_cl (a := p) (by omega), e67, e68, e5]
      exact ⟨fun z => absurd ((n_le (by omega) (by omega)).mp z) (by omega), fun _ => ⟨by omega, by omega, by omega, hn1⟩⟩
  exact loop P.length 0 (si σ 90 0 (nI 0)) (by omega) (Fr_si Fr_r (Or.inr rfl)) (fun j hj => by rw [show j = 0 by omega, si_1, if_pos ⟨rfl, rfl⟩]; rfl) (fun j hj => by omega)
theorem prop_m (M : MC tS lS S tD lD D L σ) (hQ : QT tS S) {i : Nat} (hi : i < D.N) (k6 : D.kd i = 6) (h84 : ∀ s, s < S.N → (bt σ 84 s i = true ↔ Re tS lS S tD lD D s i)) :
    Ex1 (fun post n => wp_Md_propose post n 2 (nI i) (nI (160 + (i + 1))) 0 0 0 σ) (fun r σ' => ∃ P : List Nat, r = nI P.length ∧ Fr Pw9 σ σ' ∧ PNa 54 42 90 89 σ' (P.map (pw tS lS S)) ∧ OkF tS lS (P.map (fun p => nmo S p + 1)) ∧ (∀ w, (∃ p ∈ P, w = pw tS lS S p) ↔ Ns tS lS S tD lD D i w)) := by
  have hn := M.ns
  have hd := M.nd
  have hW := M.ws
  have hT := MC_T M
  have hlS : lS ≤ 160 := M.p.s.t.2.2.2.1
  have m1z : (-1 : Int32) < 0 := by decide +kernel
  obtain ⟨R, hR⟩ : ∃ R : Int32 → Sg → Prop, R = fun r σ' => ∃ P : List Nat, r = nI P.length ∧ Fr Pw9 σ σ' ∧ PNa 54 42 90 89 σ' (P.map (pw tS lS S)) ∧ OkF tS lS (P.map (fun p => nmo S p + 1)) ∧ (∀ w, (∃ p ∈ P, w = pw tS lS S p) ↔ Ns tS lS S tD lD D i w) := ⟨_, rfl⟩
  rw [← hR]
  have z0 : (0 : Int32).toNatClampNeg = 0 := rfl
  have loop : ∀ m s (σ1 : Sg) (P : List Nat), s + m = S.N → Fr Pq9 σ σ1 → FM tS lS S σ1 P → σ1.1 54 42 = nI P.length → (∀ w, (∃ p ∈ P, w = pw tS lS S p) ↔ ∃ s' q, s' < s ∧ S.kd s' = 6 ∧ Re tS lS S tD lD D s' i ∧ prp tS lS S s' = some q ∧ Nw tS lS S tD lD D q i w) → Ex1 (fun post n => wp_Md_propose post n 3 (nI i) (nI s) 0 0 0 σ1) R := by
    intro m
    induction m with
    | zero =>
      intro s σ1 P hs f h42 hc hm
      have : s = S.N := by omega
      subst this
      have M1 := MC_Fr M f Pq9_ok
      obtain ⟨r, σ', q1, q2⟩ := kept_m M1 h42 hc
      have n0 : σ1.1 58 0 = nI S.N := (MC_T M1).nS
      refine ⟨r, σ', by
        rw [hR]
        refine ⟨P, q1.1, Fr_t ⟨f.1, fun c k z => f.2 c k (fun y => z (by unfold Pq9 at y; unfold Pw9; omega))⟩ q1.2.1, q1.2.2, h42.o, fun w => ?_⟩
        rw [hm w]
        exact Iff.rfl, fun post hp => ?_⟩
      obtain ⟨n, hn1⟩ := q2 post hp
      refine ⟨n + 1, ?_⟩
      show wb_Md_propose_3 (wp_Md_propose post n) post (nI i) (nI S.N) σ1
      unfold wb_Md_propose_3
      rw [z0, n0]
      exact ⟨(n_in (a := 0) (by omega)).mpr (by omega), fun _ => ⟨(n_in (a := 0) (by omega)).mpr (by omega), fun σ2 q => by rw [q]; exact hn1⟩, fun z => absurd ((n_le (by omega) (by omega)).mpr (Nat.le_refl _)) z⟩
    | succ m ih =>
      intro s σ1 P hs f h42 hc hm
      have hsN : s < S.N := by omega
      have hks := hW.kd s hsN
      have M1 := MC_Fr M f Pq9_ok
      have n0 : σ1.1 58 0 = nI S.N := (MC_T M1).nS
      have k59 : σ1.1 59 s = nI (S.kd s) := (MC_T M1).kS s hsN
      have hbt : bt σ1 84 s i = bt σ 84 s i := by unfold bt; rw [f.1]
      have e1 : nI s + 1 = nI (s + 1) := by rw [show (1 : Int32) = nI 1 from rfl, nI_add]
      have e160 : (160 : Int32) + nI i = nI (160 + i) := by rw [show (160 : Int32) = nI 160 from rfl, nI_add]
      -- nothing new
      have none8 : (∀ q, ¬ (S.kd s = 6 ∧ Re tS lS S tD lD D s i ∧ prp tS lS S s = some q)) → Ex1 (fun post n => wp_Md_propose post n 8 (nI i) (nI s) 0 (-1) 0 σ1) R := by
        intro hno
        refine Ex1_s (ih (s + 1) σ1 P (by omega) f h42 hc (fun w => ?_)) (fun post n hn1 => ⟨n + 1, ?_⟩)
        · rw [hm w]
          refine ⟨fun ⟨s', q, z1, z2⟩ => ⟨s', q, by omega, z2⟩, fun ⟨s', q, z1, z2, z3, z4, z5⟩ => ⟨s', q, ?_, z2, z3, z4, z5⟩⟩
          rcases Nat.eq_or_lt_of_le (Nat.lt_succ_iff.mp z1) with y | y
          · subst y; exact absurd ⟨z2, z3, z4⟩ (hno q)
          · exact y
        · show wb_Md_propose_8 (wp_Md_propose post n) post (nI i) (nI s) (-1) σ1
          unfold wb_Md_propose_8
          rw [e1]
          exact ⟨fun _ => hn1, fun z => absurd m1z z⟩
      -- the members
      have kids : ∀ q, S.kd s = 6 → Re tS lS S tD lD D s i → prp tS lS S s = some q → ∀ suf pre y (σ2 : Sg) (P2 : List Nat), S.K q = pre ++ suf → chM 0 (σ.1 66) y suf → Fr Pq9 σ σ2 → FM tS lS S σ2 P2 → σ2.1 54 42 = nI P2.length → (∀ w, (∃ p ∈ P2, w = pw tS lS S p) ↔ (∃ p ∈ P, w = pw tS lS S p) ∨ ∃ p ∈ pre, cnd tD lD D i tS (nmo S p + 1) (qe tS lS (nmo S p + 1)) = none ∧ w = pw tS lS S p) → Ex1 (fun post n => wp_Md_propose post n 8 (nI i) (nI s) 0 y 0 σ2) R := by
        intro q h6 hre hq suf
        have hqN := prp_lt hW hsN hq
        induction suf with
        | nil =>
          intro pre y σ2 P2 hK hB f2 fm2 hc2 hm2
          have hB : y = -nI 1 := hB
          subst hB
          rw [List.append_nil] at hK
          refine Ex1_s (ih (s + 1) σ2 P2 (by omega) f2 fm2 hc2 (fun w => ?_)) (fun post n hn1 => ⟨n + 1, ?_⟩)
          · rw [hm2 w, hm w]
            constructor
            · rintro (⟨s', q', z1, z2⟩ | ⟨p, z1, z2, z3⟩)
              · exact ⟨s', q', by omega, z2⟩
              · exact ⟨s, q, by omega, h6, hre, hq, p, by rw [hK]; exact z1, z2, z3⟩
            · rintro ⟨s', q', z1, z2, z3, z4, z5⟩
              rcases Nat.eq_or_lt_of_le (Nat.lt_succ_iff.mp z1) with y | y
              · subst y
                rw [hq] at z4; injection z4 with z4; subst z4
                obtain ⟨p, y1, y2, y3⟩ := z5
                exact Or.inr ⟨p, by rw [← hK]; exact y1, y2, y3⟩
              · exact Or.inl ⟨s', q', y, z2, z3, z4, z5⟩
          · show wb_Md_propose_8 (wp_Md_propose post n) post (nI i) (nI s) (-nI 1) σ2
            unfold wb_Md_propose_8
            rw [e1]
            exact ⟨fun _ => hn1, fun z => absurd m1z z⟩
        | cons p suf ihs =>
          intro pre y σ2 P2 hK hB f2 fm2 hc2 hm2
          obtain ⟨hx, hB⟩ := hB
          rw [show 160 * 0 + p = p by omega] at hx hB
          subst hx
          have hpK : p ∈ S.K q := by rw [hK]; simp
          have hpN := (hW.ch q hqN.1 p hpK).2.1
          have hnm := nm_o hW hqN.1 hqN.2 hpK
          have hNd : Nd S p := ⟨hpN, hnm.1⟩
          have M2 := MC_Fr M f2 Pq9_ok
          have hqs := qe_sp (tx := tS) (len := lS) (x := nmo S p + 1) (by omega)
          have hcn := cn_d M2 hi k6 hqs.1 hqs.2.1
          have e67 : σ2.1 67 p = nI (nmo S p) := by rw [(MC_T M2).aS p hpN, hnm.1]; rfl
          have e68 : σ2.1 68 p = nI (qe tS lS (nmo S p + 1)) := by have := M2.p.s.i.ne p hpN _ hnm.1; rw [show 160 * 0 + p = p by omega] at this; exact this
          have e66 : ∀ σ3, Fr Pq9 σ σ3 → σ3.1 66 p = σ.1 66 p := fun σ3 f3 => f3.2 66 p (by unfold Pq9; omega)
          have go : ∀ (post : Int32 → Sg → Prop) n, ((cnd tD lD D i tS (nmo S p + 1) (qe tS lS (nmo S p + 1)) ≠ none ∨ ∃ p' ∈ P2, pw tS lS S p' = pw tS lS S p) → wp_Md_propose post n 8 (nI i) (nI s) 0 (σ.1 66 p) 0 σ2) → (cnd tD lD D i tS (nmo S p + 1) (qe tS lS (nmo S p + 1)) = none → (¬ ∃ p' ∈ P2, pw tS lS S p' = pw tS lS S p) → wq_Md_offer (nI p) (nI P2.length) σ2 (fun σ3 => ∀ σ4, σ4 = si σ3 54 42 (σ3.1 54 42 + 1) → vp_in (nI p) 240 ∧ wp_Md_propose post n 8 (nI i) (nI s) 0 (σ4.1 66 p) 0 σ4)) → wp_Md_propose post (n + 1) 8 (nI i) (nI s) 0 (nI p) 0 σ2 := by
            intro post n y1 y2
            show wb_Md_propose_8 (wp_Md_propose post n) post (nI i) (nI s) (nI p) σ2
            unfold wb_Md_propose_8
            have vin : vp_in (nI p) 240 := (n_in (by omega)).mpr (by omega)
            rw [n_cl (a := p) (by omega), e67, e68, e160]
            have e7 : nI (nmo S p) + 1 = nI (nmo S p + 1) := by rw [show (1 : Int32) = nI 1 from rfl, nI_add]
            rw [e7]
            refine ⟨fun z => absurd ((n_lt (b := 0) (by omega) (by omega)).mp z) (by omega), fun _ => ⟨vin, vin, hcn _ ?_⟩⟩
            rw [e66 σ2 f2]
            cases hcd : cnd tD lD D i tS (nmo S p + 1) (qe tS lS (nmo S p + 1)) with
            | some c =>
              have hcN := (M.wd.ch i hi c (cnd_lt hcd).2.1).2.1
              refine ⟨fun _ => ⟨vin, y1 (Or.inl (by rw [hcd]; exact fun z => by cases z))⟩, fun z => absurd ?_ z⟩
              show (0 : Int32) ≤ nI (160 * 1 + c)
              exact (n_le (a := 0) (by omega) (by omega)).mpr (by omega)
            | none =>
              refine ⟨fun z => absurd z (by show ¬ (0 : Int32) ≤ -nI 1; decide +kernel), fun _ => ?_⟩
              rw [hc2]
              refine isOff_m M2 fm2 hNd hnm.2 _ ?_
              by_cases hof : ∃ p' ∈ P2, pw tS lS S p' = pw tS lS S p
              · rw [cB_t.mpr hof, e66 σ2 f2]
                exact ⟨fun _ => ⟨vin, y1 (Or.inr hof)⟩, fun z => absurd z (by decide +kernel)⟩
              · have : cB (∃ p' ∈ P2, pw tS lS S p' = pw tS lS S p) = false := by
                  cases hb : cB (∃ p' ∈ P2, pw tS lS S p' = pw tS lS S p) with
                  | false => rfl
                  | true => exact absurd (cB_t.mp hb) hof
                rw [this, hc2]
                exact ⟨fun z => absurd rfl z, fun _ => y2 hcd hof⟩
          by_cases hnew : cnd tD lD D i tS (nmo S p + 1) (qe tS lS (nmo S p + 1)) = none ∧ ¬ ∃ p' ∈ P2, pw tS lS S p' = pw tS lS S p
          · obtain ⟨σ3, P3, r1, r2, r3, r4, r5⟩ := offer_m M2 fm2 hNd hnm.2 (hQ p hpN _ hnm.1) (fun p' hp' e => hnew.2 ⟨p', hp', e⟩)
            have e42 : σ3.1 54 42 = nI P2.length := by rw [r2.2 54 42 (by unfold P91; omega)]; exact hc2
            obtain ⟨σ4, hσ4⟩ : ∃ σ4, σ4 = si σ3 54 42 (nI P3.length) := ⟨_, rfl⟩
            have f4 : Fr Pq9 σ σ4 := by rw [hσ4]; exact Fr_si (Fr_t f2 ⟨r2.1, fun c k z => r2.2 c k (fun y => z (Or.inr y))⟩) (Or.inl ⟨rfl, rfl⟩)
            refine Ex1_s (ihs (pre ++ [p]) _ σ4 P3 (by rw [hK]; simp) hB f4 ⟨fun j hj => by rw [hσ4, si_c (by omega)]; exact r3.r j hj, r3.d, r3.o⟩ (by rw [hσ4, si_1, if_pos ⟨rfl, rfl⟩]) (fun w => ?_)) (fun post n hn1 => ⟨n + 1, go post n (fun z => z.elim (fun z => absurd hnew.1 z) (fun z => absurd z hnew.2)) (fun _ _ => r1 _ (fun σ5 h5 => ?_))⟩)
            · rw [r5 w, hm2 w]
              simp only [List.mem_append, List.mem_singleton]
              constructor
              · rintro ((z | ⟨u, z1, z2⟩) | z)
                · exact Or.inl z
                · exact Or.inr ⟨u, Or.inl z1, z2⟩
                · exact Or.inr ⟨p, Or.inr rfl, hnew.1, z⟩
              · rintro (z | ⟨u, z1 | z1, z2⟩)
                · exact Or.inl (Or.inl z)
                · exact Or.inl (Or.inr ⟨u, z1, z2⟩)
                · subst z1; exact Or.inr z2.2
            · have e5 : σ5 = σ4 := by rw [h5, hσ4, e42, r4, show (1 : Int32) = nI 1 from rfl, nI_add]
              rw [e5, e66 σ4 f4]
              exact ⟨(n_in (by omega)).mpr (by omega), hn1⟩
          · have hold : cnd tD lD D i tS (nmo S p + 1) (qe tS lS (nmo S p + 1)) ≠ none ∨ ∃ p' ∈ P2, pw tS lS S p' = pw tS lS S p := by
              by_cases h1 : cnd tD lD D i tS (nmo S p + 1) (qe tS lS (nmo S p + 1)) = none
              · by_cases h2 : ∃ p' ∈ P2, pw tS lS S p' = pw tS lS S p
                · exact Or.inr h2
                · exact absurd ⟨h1, h2⟩ hnew
              · exact Or.inl h1
            refine Ex1_s (ihs (pre ++ [p]) _ σ2 P2 (by rw [hK]; simp) hB f2 fm2 hc2 (fun w => ?_)) (fun post n hn1 => ⟨n + 1, go post n (fun _ => hn1) (fun z1 z2 => absurd ⟨z1, z2⟩ hnew)⟩)
            constructor
            · intro z
              rcases (hm2 w).mp z with z | ⟨u, z1, z2⟩
              · exact Or.inl z
              · exact Or.inr ⟨u, List.mem_append.mpr (Or.inl z1), z2⟩
            · rintro (z | ⟨u, z1, z2⟩)
              · exact (hm2 w).mpr (Or.inl z)
              · rcases List.mem_append.mp z1 with y | y
                · exact (hm2 w).mpr (Or.inr ⟨u, y, z2⟩)
                · have : u = p := by simpa using y
                  subst this
                  rcases hold with x | ⟨p', x1, x2⟩
                  · exact absurd z2.1 x
                  · exact ⟨p', x1, by rw [z2.2, x2]⟩
      -- the beginning of the round
      have go3 : ∀ (post : Int32 → Sg → Prop) n, ((bt σ 84 s i = false ∨ S.kd s ≠ 6) → wp_Md_propose post n 6 (nI i) (nI s) 0 0 0 σ1) → (bt σ 84 s i = true → S.kd s = 6 → wp_Md_propose post n 7 (nI i) (nI s) (oI (rul tS lS S s 12)) 0 0 σ1) → wp_Md_propose post (n + 1) 3 (nI i) (nI s) 0 0 0 σ1 := by
        intro post n y1 y2
        show wb_Md_propose_3 (wp_Md_propose post n) post (nI i) (nI s) σ1
        unfold wb_Md_propose_3
        have e22 : (22 : Int32) * nI s + (12 : Int32) = nI (22 * s + 12) := by rw [show (22 : Int32) = nI 22 from rfl, show (12 : Int32) = nI 12 from rfl, pk_mul, nI_add]
        have h76 : σ1.1 76 (22 * s + 12) = oI (rul tS lS S s 12) := M1.p.r.r s 12 hsN (by omega) (by omega)
        rw [z0, n0, e160, Md_isMarked_r (by omega) (by omega), hbt, n_cl (a := s) (by omega), k59, e22, n_cl (a := 22 * s + 12) (by omega), h76]
        refine ⟨(n_in (a := 0) (by omega)).mpr (by omega), fun z => absurd ((n_le (by omega) (by omega)).mp z) (by omega), fun _ => ?_⟩
        cases hb : bt σ 84 s i with
        | false => exact ⟨fun _ => y1 (Or.inl hb), fun z => absurd rfl z⟩
        | true =>
          refine ⟨fun z => absurd z (by decide +kernel), fun _ => ⟨(n_in (by omega)).mpr (by omega), fun z => y1 (Or.inr (fun q => z (by rw [q]; rfl))), fun z => ⟨(n_in (by omega)).mpr (by omega), y2 hb ((n_eq (b := 6) (by omega) (by omega)).mp z)⟩⟩⟩
      by_cases hmk : bt σ 84 s i = true ∧ S.kd s = 6
      · have hre := (h84 s hsN).mp hmk.1
        have no : ∀ {X : Prop}, (bt σ 84 s i = false ∨ S.kd s ≠ 6) → X := fun z => by
          rcases z with z | z
          · rw [hmk.1] at z; cases z
          · exact absurd hmk.2 z
        cases hr : rul tS lS S s 12 with
        | none =>
          have hpn : prp tS lS S s = none := by unfold prp; rw [hr]
          refine Ex1_s (none8 (fun q z => by rw [hpn] at z; cases z.2.2)) (fun post n hn1 => ⟨n + 2, go3 post (n + 1) (fun z => no z) (fun _ _ => ?_)⟩)
          rw [hr]
          show wb_Md_propose_7 (wp_Md_propose post n) post (nI i) (nI s) (oI none) σ1
          exact ⟨fun _ => hn1, fun z => absurd m1z z⟩
        | some q =>
          have hqN := rul_lt hW hsN hr
          have hkq := hW.kd q hqN
          have k59q : σ1.1 59 q = nI (S.kd q) := (MC_T M1).kS q hqN
          by_cases kq : S.kd q = 6
          · have hpq : prp tS lS S s = some q := by unfold prp; rw [hr]; simp [kq]
            refine Ex1_s (kids q hmk.2 hre hpq (S.K q) [] _ σ1 P rfl (hT.cS q hqN) f h42 hc (fun w => by simp)) (fun post n hn1 => ⟨n + 2, go3 post (n + 1) (fun z => no z) (fun _ _ => ?_)⟩)
            rw [hr]
            show wb_Md_propose_7 (wp_Md_propose post n) post (nI i) (nI s) (nI q) σ1
            unfold wb_Md_propose_7
            have e65 : σ1.1 65 q = σ.1 65 q := f.2 65 q (by unfold Pq9; omega)
            rw [n_in (by omega), n_cl (by omega), k59q, kq, e65]
            exact ⟨fun z => absurd ((n_lt (b := 0) (by omega) (by omega)).mp z) (by omega), fun _ => ⟨by omega, fun z => absurd rfl z, fun _ => ⟨by omega, hn1⟩⟩⟩
          · have hpn : prp tS lS S s = none := by unfold prp; rw [hr]; simp [kq]
            refine Ex1_s (none8 (fun q z => by rw [hpn] at z; cases z.2.2)) (fun post n hn1 => ⟨n + 2, go3 post (n + 1) (fun z => no z) (fun _ _ => ?_)⟩)
            rw [hr]
            show wb_Md_propose_7 (wp_Md_propose post n) post (nI i) (nI s) (nI q) σ1
            unfold wb_Md_propose_7
            rw [n_in (by omega), n_cl (by omega), k59q]
            exact ⟨fun z => absurd ((n_lt (b := 0) (by omega) (by omega)).mp z) (by omega), fun _ => ⟨by omega, fun _ => hn1, fun z => absurd ((n_eq (b := 6) (by omega) (by omega)).mp z) kq⟩⟩
      · refine Ex1_s (none8 (fun q z => hmk ⟨(h84 s hsN).mpr z.2.1, z.1⟩)) (fun post n hn1 => ⟨n + 3, go3 post (n + 2) (fun _ => ?_) (fun z1 z2 => absurd ⟨z1, z2⟩ hmk)⟩)
        show wb_Md_propose_6 (wp_Md_propose post (n + 1)) post (nI i) (nI s) σ1
        show wb_Md_propose_7 (wp_Md_propose post n) post (nI i) (nI s) (-1) σ1
        exact ⟨fun _ => hn1, fun z => absurd m1z z⟩
  refine Ex1_s (loop S.N 0 (si σ 54 42 (nI 0)) [] (by omega) (Fr_si Fr_r (Or.inl ⟨rfl, rfl⟩)) ⟨fun j hj => by simp at hj, fun p hp => by simp at hp, ⟨List.Pairwise.nil, fun f hf => by simp at hf⟩⟩ (by rw [si_1, if_pos ⟨rfl, rfl⟩]; rfl) (fun w => by simp)) (fun post n hn1 => ⟨n + 1, ?_⟩)
  show wb_Md_propose_2 (wp_Md_propose post n) post (nI i) (nI (160 + (i + 1))) σ
  unfold wb_Md_propose_2
  rw [show (160 : Int32) = nI 160 from rfl, nI_add]
  exact ⟨fun _ σ1 q => by rw [q]; exact hn1, fun z => absurd ((n_lt (by omega) (by omega)).mpr (by omega)) z⟩
/-- sorted words with the same members are the same -/
theorem words_eq : ∀ (A B : List (List Nat)), A.Pairwise (fun a b => slt a b = true) → B.Pairwise (fun a b => slt a b = true) → (∀ e, e ∈ A ↔ e ∈ B) → A = B
  | [], [], _, _, _ => rfl
  | [], b :: B, _, _, h => absurd ((h b).mpr (List.mem_cons_self ..)) (by simp)
  | a :: A, [], _, _, h => absurd ((h a).mp (List.mem_cons_self ..)) (by simp)
  | a :: A, b :: B, hA, hB, h => by
    have h1 := List.pairwise_cons.mp hA
    have h2 := List.pairwise_cons.mp hB
    have e : a = b := by
      rcases List.mem_cons.mp ((h a).mp (List.mem_cons_self ..)) with z | z
      · exact z
      · rcases List.mem_cons.mp ((h b).mpr (List.mem_cons_self ..)) with y | y
        · exact y.symm
        · have := slt_t _ _ _ (h2.1 a z) (h1.1 b y); rw [slt_i] at this; cases this
    subst e
    rw [words_eq A B h1.2 h2.2 (fun x => ?_)]
    constructor
    · intro hx
      rcases List.mem_cons.mp ((h x).mp (List.mem_cons_of_mem _ hx)) with z | z
      · subst z; have := h1.1 x hx; rw [slt_i] at this; cases this
      · exact z
    · intro hx
      rcases List.mem_cons.mp ((h x).mpr (List.mem_cons_of_mem _ hx)) with z | z
      · subst z; have := h2.1 x hx; rw [slt_i] at this; cases this
      · exact z
theorem OkF_w {F : List Nat} (h : OkF tS lS F) : (F.map (sf tS lS)).Pairwise (fun a b => slt a b = true) := by rw [List.pairwise_map]; exact h.s
end PM
