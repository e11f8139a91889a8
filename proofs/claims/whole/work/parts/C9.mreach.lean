section MRE
variable {tS : Nat → Nat} {lS : Nat} {S : TG} {tD : Nat → Nat} {lD : Nat} {D : TG} {L : List Nat} {σ : Sg}
theorem reach_m (M : MC tS lS S tD lD D L σ) {s i : Nat} (hs : s < S.N) (hi : i < D.N) : ∃ σ', Rv (wq_Md_reach (nI s) (nI (160 + i)) σ) σ' ∧ FL Pk σ σ' ∧ (∀ x c, c < 80 → (bt σ' 84 x c = true ↔ bt σ 84 x c = true ∨ Ra tS lS S tD lD D s i x c)) := by
  have T := MC_T M
  have hn := M.ns
  have hd := M.nd
  have hW := M.ws
  have hks := hW.kd s hs
  by_cases h6 : S.kd s = 6
  case neg =>
    refine ⟨σ, fun post hp => ⟨1, ?_⟩, FL_r, fun x c _ => ⟨Or.inl, fun q => q.elim id (fun q => absurd q.1 h6)⟩⟩
    show wb_Md_reach_0 (wp_Md_reach post 0) post (nI s) (nI (160 + i)) σ
    unfold wb_Md_reach_0
    rw [n_in (by omega), n_cl (by omega), T.kS s hs]
    exact ⟨by omega, fun z => absurd ((n_eq (b := 6) (by omega) (by omega)).mp z) h6, fun _ => hp⟩
  obtain ⟨R, hR⟩ : ∃ R : Sg → Prop, R = fun σ' => FL Pk σ σ' ∧ (∀ x c, c < 80 → (bt σ' 84 x c = true ↔ bt σ 84 x c = true ∨ Ra tS lS S tD lD D s i x c)) := ⟨_, rfl⟩
  let A1 := fun c w x => ∃ v, rul tS lS S s w = some v ∧ nfr tS lS S tD lD D e0 s w v i c = some x
  let B1 := fun w x => ∃ v, rul tS lS S s w = some v ∧ S.kd v = 5 ∧ x ∈ S.K v
  have c76 : ∀ σ1 : Sg, FL Pk σ σ1 → ∀ w, 1 ≤ w → w < 22 → σ1.1 76 (22 * s + w) = oI (rul tS lS S s w) := fun σ1 f w w1 w2 => by rw [f.1]; exact M.p.r.r s w hs w1 w2
  have e22 : ∀ w, (22 : Int32) * nI s + nI w = nI (22 * s + w) := fun w => by rw [show (22 : Int32) = nI 22 from rfl, pk_mul, nI_add]
  have m1z : (-1 : Int32) < 0 := by decide +kernel
  -- the reference
  have last : ∀ (σ1 : Sg), FL Pk σ σ1 → (∀ x c, c < 80 → (bt σ1 84 x c = true ↔ bt σ 84 x c = true ∨ (∃ w, (w = 12 ∨ w = 13 ∨ w = 14) ∧ c ∈ D.K i ∧ A1 c w x) ∨ ∃ w, 15 ≤ w ∧ w < 18 ∧ B1 w x ∧ c = i)) → Ex0 (fun post n => wp_Md_reach post n 2 (nI s) (nI (160 + i)) (nI 18) 0 0 σ1) R := by
    intro σ1 f hm
    have h19 := c76 σ1 f 19 (by omega) (by omega)
    -- what it leads to
    obtain ⟨σ2, f2, g2, st⟩ : ∃ σ2, FL Pk σ1 σ2 ∧ (∀ x c, c < 80 → (bt σ2 84 x c = true ↔ bt σ1 84 x c = true ∨ (∃ v, rul tS lS S s 19 = some v ∧ mtg tS lS S v = some x ∧ c = i))) ∧ ∀ post : Sg → Prop, post σ2 → wp_Md_reach post 1 2 (nI s) (nI (160 + i)) (nI 18) 0 0 σ1 := by
      have go : ∀ post : Sg → Prop, ((rul tS lS S s 19 = none → post σ1) ∧ (∀ v, rul tS lS S s 19 = some v → (mtg tS lS S v = none → post σ1) ∧ ∀ x, mtg tS lS S v = some x → wq_Md_mark (nI x) (nI (160 + i)) σ1 post)) → wp_Md_reach post 1 2 (nI s) (nI (160 + i)) (nI 18) 0 0 σ1 := by
        intro post ⟨h1, h2⟩
        show wb_Md_reach_2 (wp_Md_reach post 0) post (nI s) (nI (160 + i)) (nI 18) σ1
        unfold wb_Md_reach_2
        rw [show (19 : Int32) = nI 19 from rfl, e22 19, n_in (by omega), n_cl (by omega), h19]
        refine ⟨fun _ => ⟨by omega, ?_⟩, fun z => absurd (by decide +kernel) z⟩
        cases hr : rul tS lS S s 19 with
        | none => exact ⟨fun _ => h1 hr, fun z => absurd m1z z⟩
        | some v =>
          have hv := rul_lt hW hs hr
          have h77 : σ1.1 77 v = oI (mtg tS lS S v) := by rw [f.1]; exact M.p.r.t v hv
          show (nI v < 0 → _) ∧ (¬ nI v < 0 → vp_in (nI v) 160 ∧ _)
          refine ⟨fun z => absurd ((n_lt (b := 0) (by omega) (by omega)).mp z) (by omega), fun _ => ⟨(n_in (by omega)).mpr (by omega), ?_⟩⟩
          have e77 : σ1.1 77 (oI (some v)).toNatClampNeg = oI (mtg tS lS S v) := by show σ1.1 77 (nI v).toNatClampNeg = _; rw [n_cl (by omega)]; exact h77
          rw [e77]
          cases hx : mtg tS lS S v with
          | none => exact ⟨fun _ => (h2 v hr).1 hx, fun z => absurd m1z z⟩
          | some x =>
            have hxN := mtg_lt hW hv hx
            refine ⟨fun z => absurd ((n_lt (b := 0) (by omega) (by omega)).mp z) (by omega), fun _ => ⟨(n_in (by omega)).mpr (by omega), ?_⟩⟩
            exact (h2 v hr).2 x hx
      by_cases hx : ∃ v x, rul tS lS S s 19 = some v ∧ mtg tS lS S v = some x
      · obtain ⟨v, x0, hr, hx⟩ := hx
        have hxN := mtg_lt hW (rul_lt hW hs hr) hx
        obtain ⟨σ2, r1, r2, r3⟩ := mark_m (σ := σ1) (s := x0) (i := i) (by omega) (by omega)
        refine ⟨σ2, r2, fun x c hc => ?_, fun post hp => go post ⟨fun z => (by rw [hr] at z; cases z), fun u hu => ?_⟩⟩
        · rw [r3 x c hc, Bool.or_eq_true, decide_eq_true_iff]
          refine ⟨fun q => q.imp_right (fun q => ⟨v, hr, by rw [q.1]; exact hx, q.2⟩), fun q => q.imp_right (fun ⟨u, q1, q2, q3⟩ => ?_)⟩
          rw [hr] at q1; injection q1 with q1; subst q1
          rw [hx] at q2; injection q2 with q2; exact ⟨q2.symm, q3⟩
        · rw [hr] at hu; injection hu with hu; subst hu
          refine ⟨fun z => (by rw [hx] at z; cases z), fun x z => ?_⟩
          rw [hx] at z; injection z with z; subst z
          exact r1 _ hp
      · refine ⟨σ1, FL_r, fun x c hc => ⟨Or.inl, fun q => q.elim id (fun ⟨u, q1, q2, q3⟩ => absurd ⟨u, x, q1, q2⟩ hx)⟩, fun post hp => go post ⟨fun _ => hp, fun u hu => ⟨fun _ => hp, fun x z => absurd ⟨u, x, hu, z⟩ hx⟩⟩⟩
    refine ⟨σ2, by
      rw [hR]
      refine ⟨FL_t f f2, fun x c hc => ?_⟩
      rw [g2 x c hc, hm x c hc]
      constructor
      · rintro ((q | ⟨w, q1, q2, v, q3, q4⟩ | ⟨w, q1, q2, ⟨v, q3, q4, q5⟩, q6⟩) | q)
        · exact Or.inl q
        · exact Or.inr ⟨h6, Or.inl ⟨w, v, q1, q3, q2, q4⟩⟩
        · exact Or.inr ⟨h6, Or.inr (Or.inl ⟨w, v, by omega, q3, q4, q5, q6⟩)⟩
        · exact Or.inr ⟨h6, Or.inr (Or.inr q)⟩
      · rintro (q | ⟨_, ⟨w, v, q1, q3, q2, q4⟩ | ⟨w, v, q1, q3, q4, q5, q6⟩ | q⟩)
        · exact Or.inl (Or.inl q)
        · exact Or.inl (Or.inr (Or.inl ⟨w, q1, q2, v, q3, q4⟩))
        · exact Or.inl (Or.inr (Or.inr ⟨w, by omega, by omega, ⟨v, q3, q4, q5⟩, q6⟩))
        · exact Or.inr q, fun post hp => ⟨1, st post hp⟩⟩
  -- the lists
  have lists : ∀ m w (σ1 : Sg), w + m = 18 → 15 ≤ w → FL Pk σ σ1 → (∀ x c, c < 80 → (bt σ1 84 x c = true ↔ bt σ 84 x c = true ∨ (∃ w, (w = 12 ∨ w = 13 ∨ w = 14) ∧ c ∈ D.K i ∧ A1 c w x) ∨ ∃ w', 15 ≤ w' ∧ w' < w ∧ B1 w' x ∧ c = i)) → Ex0 (fun post n => wp_Md_reach post n 2 (nI s) (nI (160 + i)) (nI w) 0 0 σ1) R := by
    intro m
    induction m with
    | zero =>
      intro w σ1 hw w1 f hm
      have : w = 18 := by omega
      subst this
      exact last σ1 f hm
    | succ m ih =>
      intro w σ1 hw w1 f hm
      have h76 := c76 σ1 f w (by omega) (by omega)
      have inner : ∀ v, rul tS lS S s w = some v → ∀ suf pre y (σ2 : Sg), S.K v = pre ++ suf → chM 0 (σ.1 66) y suf → S.kd v = 5 → FL Pk σ σ2 → (∀ x c, c < 80 → (bt σ2 84 x c = true ↔ bt σ1 84 x c = true ∨ (x ∈ pre ∧ c = i))) → Ex0 (fun post n => wp_Md_reach post n 4 (nI s) (nI (160 + i)) (nI w) 0 y σ2) R := by
        intro v hr suf
        have hv := rul_lt hW hs hr
        induction suf with
        | nil =>
          intro pre y σ2 hK hB k5 f2 hm2
          have hB : y = -nI 1 := hB
          subst hB
          rw [List.append_nil] at hK
          refine Ex0_s (ih (w + 1) σ2 (by omega) (by omega) f2 (fun x c hc => ?_)) (fun post n hn1 => ⟨n + 1, ?_⟩)
          · rw [hm2 x c hc, hm x c hc]
            constructor
            · rintro ((q | q | ⟨w', q1, q2, q3⟩) | ⟨q1, q2⟩)
              · exact Or.inl q
              · exact Or.inr (Or.inl q)
              · exact Or.inr (Or.inr ⟨w', q1, by omega, q3⟩)
              · exact Or.inr (Or.inr ⟨w, by omega, by omega, ⟨v, hr, k5, by rw [hK]; exact q1⟩, q2⟩)
            · rintro (q | q | ⟨w', q1, q2, q3, q4⟩)
              · exact Or.inl (Or.inl q)
              · exact Or.inl (Or.inr (Or.inl q))
              · rcases Nat.eq_or_lt_of_le (Nat.lt_succ_iff.mp q2) with z | z
                · subst z
                  obtain ⟨u, u1, u2, u3⟩ := q3
                  rw [hr] at u1; injection u1 with u1; subst u1
                  exact Or.inr ⟨by rw [← hK]; exact u3, q4⟩
                · exact Or.inl (Or.inr (Or.inr ⟨w', q1, z, q3, q4⟩))
          · show wb_Md_reach_4 (wp_Md_reach post n) post (nI s) (nI (160 + i)) (nI w) (-nI 1) σ2
            unfold wb_Md_reach_4
            rw [show (1 : Int32) = nI 1 from rfl, nI_add]
            exact ⟨fun _ => hn1, fun z => absurd m1z z⟩
        | cons a suf ihs =>
          intro pre y σ2 hK hB k5 f2 hm2
          obtain ⟨hx, hB⟩ := hB
          rw [show 160 * 0 + a = a by omega] at hx hB
          subst hx
          have haN := (hW.ch v hv a (by rw [hK]; simp)).2.1
          obtain ⟨σ3, r1, r2, r3⟩ := mark_m (σ := σ2) (s := a) (i := i) (by omega) (by omega)
          refine Ex0_s (ihs (pre ++ [a]) _ σ3 (by rw [hK]; simp) hB k5 (FL_t f2 r2) (fun x c hc => ?_)) (fun post n hn1 => ⟨n + 1, ?_⟩)
          · rw [r3 x c hc, Bool.or_eq_true, hm2 x c hc, decide_eq_true_iff]
            simp only [List.mem_append, List.mem_singleton]
            constructor
            · rintro ((q | ⟨q, q2⟩) | ⟨q, q2⟩)
              · exact Or.inl q
              · exact Or.inr ⟨Or.inl q, q2⟩
              · exact Or.inr ⟨Or.inr q, q2⟩
            · rintro (q | ⟨q | q, q2⟩)
              · exact Or.inl (Or.inl q)
              · exact Or.inl (Or.inr ⟨q, q2⟩)
              · exact Or.inr ⟨q, q2⟩
          · show wb_Md_reach_4 (wp_Md_reach post n) post (nI s) (nI (160 + i)) (nI w) (nI a) σ2
            unfold wb_Md_reach_4
            refine ⟨fun z => absurd ((n_lt (b := 0) (by omega) (by omega)).mp z) (by omega), fun _ => r1 _ ?_⟩
            rw [n_in (by omega), n_cl (by omega), (FL_t f2 r2).1]
            exact ⟨by omega, hn1⟩
      have skip : (∀ x, ¬ B1 w x) → Ex0 (fun post n => wp_Md_reach post n 4 (nI s) (nI (160 + i)) (nI w) 0 (-1) σ1) R := by
        intro hno
        refine Ex0_s (ih (w + 1) σ1 (by omega) (by omega) f (fun x c hc => ?_)) (fun post n hn1 => ⟨n + 1, ?_⟩)
        · rw [hm x c hc]
          refine ⟨fun q => q.imp_right (fun q => q.imp_right (fun ⟨w', q1, q2, q3⟩ => ⟨w', q1, by omega, q3⟩)), fun q => q.imp_right (fun q => q.imp_right (fun ⟨w', q1, q2, q3⟩ => ⟨w', q1, ?_, q3⟩))⟩
          rcases Nat.eq_or_lt_of_le (Nat.lt_succ_iff.mp q2) with z | z
          · subst z; exact absurd q3.1 (hno x)
          · exact z
        · show wb_Md_reach_4 (wp_Md_reach post n) post (nI s) (nI (160 + i)) (nI w) (-1) σ1
          unfold wb_Md_reach_4
          rw [show (1 : Int32) = nI 1 from rfl, nI_add]
          exact ⟨fun _ => hn1, fun z => absurd m1z z⟩
      cases hr : rul tS lS S s w with
      | none =>
        refine Ex0_s (skip (fun x ⟨v, h, _⟩ => by rw [hr] at h; cases h)) (fun post n hn1 => ⟨n + 1, ?_⟩)
        show wb_Md_reach_2 (wp_Md_reach post n) post (nI s) (nI (160 + i)) (nI w) σ1
        unfold wb_Md_reach_2
        rw [e22 w, n_in (a := 22 * s + w) (by omega), n_cl (a := 22 * s + w) (by omega), h76, hr]
        exact ⟨fun z => absurd ((n_lt (a := 17) (by omega) (by omega)).mp z) (by omega), fun _ => ⟨by omega, fun _ => hn1, fun z => absurd m1z z⟩⟩
      | some v =>
        have hv := rul_lt hW hs hr
        have hkv := hW.kd v hv
        have k59 : σ1.1 59 v = nI (S.kd v) := by rw [f.1]; exact T.kS v hv
        by_cases k5 : S.kd v = 5
        · refine Ex0_s (inner v hr (S.K v) [] _ σ1 rfl (T.cS v hv) k5 f (fun x c hc => by simp)) (fun post n hn1 => ⟨n + 1, ?_⟩)
          show wb_Md_reach_2 (wp_Md_reach post n) post (nI s) (nI (160 + i)) (nI w) σ1
          unfold wb_Md_reach_2
          rw [e22 w, n_in (a := 22 * s + w) (by omega), n_cl (a := 22 * s + w) (by omega), h76, hr]
          refine ⟨fun z => absurd ((n_lt (a := 17) (by omega) (by omega)).mp z) (by omega), fun _ => ⟨by omega, fun z => absurd ((n_lt (a := v) (b := 0) (by omega) (by omega)).mp z) (by omega), fun _ => ?_⟩⟩
          show vp_in (nI v) 240 ∧ (¬ σ1.1 59 (nI v).toNatClampNeg = 5 → _) ∧ (σ1.1 59 (nI v).toNatClampNeg = 5 → vp_in (nI v) 240 ∧ wp_Md_reach post n 4 (nI s) (nI (160 + i)) (nI w) 0 (σ1.1 65 (nI v).toNatClampNeg) σ1)
          rw [n_in (by omega), n_cl (by omega), k59, k5, f.1]
          exact ⟨by omega, fun z => absurd rfl z, fun _ => ⟨by omega, hn1⟩⟩
        · refine Ex0_s (skip (fun x ⟨u, h, h2, _⟩ => by rw [hr] at h; injection h with h; subst h; exact k5 h2)) (fun post n hn1 => ⟨n + 1, ?_⟩)
          show wb_Md_reach_2 (wp_Md_reach post n) post (nI s) (nI (160 + i)) (nI w) σ1
          unfold wb_Md_reach_2
          rw [e22 w, n_in (a := 22 * s + w) (by omega), n_cl (a := 22 * s + w) (by omega), h76, hr]
          refine ⟨fun z => absurd ((n_lt (a := 17) (by omega) (by omega)).mp z) (by omega), fun _ => ⟨by omega, fun z => absurd ((n_lt (a := v) (b := 0) (by omega) (by omega)).mp z) (by omega), fun _ => ?_⟩⟩
          show vp_in (nI v) 240 ∧ (¬ σ1.1 59 (nI v).toNatClampNeg = 5 → _) ∧ (σ1.1 59 (nI v).toNatClampNeg = 5 → _)
          rw [n_in (by omega), n_cl (by omega), k59]
          exact ⟨by omega, fun _ => hn1, fun z => absurd ((n_eq (b := 5) (by omega) (by omega)).mp z) k5⟩
  -- the children
  have kids : ∀ suf pre y (σ1 : Sg), D.K i = pre ++ suf → chM 1 (σ.1 66) y suf → FL Pk σ σ1 → (∀ x c, c < 80 → (bt σ1 84 x c = true ↔ bt σ 84 x c = true ∨ (∃ w, (w = 12 ∨ w = 13 ∨ w = 14) ∧ c ∈ pre ∧ A1 c w x))) → Ex0 (fun post n => wp_Md_reach post n 1 (nI s) (nI (160 + i)) y 0 0 σ1) R := by
    intro suf
    induction suf with
    | nil =>
      intro pre y σ1 hK hB f hm
      have hB : y = -nI 1 := hB
      subst hB
      rw [List.append_nil] at hK
      refine Ex0_s (lists 3 15 σ1 (by omega) (by omega) f (fun x c hc => ?_)) (fun post n hn1 => ⟨n + 1, ?_⟩)
      · rw [hm x c hc, hK]
        exact ⟨fun q => q.imp_right Or.inl, fun q => q.imp_right (fun q => q.elim id (fun ⟨w, q1, q2, _⟩ => by omega))⟩
      · show wb_Md_reach_1 (wp_Md_reach post n) post (nI s) (nI (160 + i)) (-nI 1) σ1
        exact ⟨fun _ => hn1, fun z => absurd m1z z⟩
    | cons c0 suf ih =>
      intro pre y σ1 hK hB f hm
      obtain ⟨hx, hB⟩ := hB
      rw [show 160 * 1 + c0 = 160 + c0 by omega] at hx hB
      subst hx
      have hcK : c0 ∈ D.K i := by rw [hK]; simp
      have hcN := (M.wd.ch i hi c0 hcK).2.1
      have words : ∀ m w (σ2 : Sg), w + m = 15 → 12 ≤ w → FL Pk σ σ2 → (∀ x c, c < 80 → (bt σ2 84 x c = true ↔ bt σ1 84 x c = true ∨ (∃ w', (w' = 12 ∨ w' = 13 ∨ w' = 14) ∧ w' < w ∧ c = c0 ∧ A1 c w' x))) → Ex0 (fun post n => wp_Md_reach post n 3 (nI s) (nI (160 + i)) (nI (160 + c0)) (nI w) 0 σ2) R := by
        intro m
        induction m with
        | zero =>
          intro w σ2 hw w1 f2 hm2
          have : w = 15 := by omega
          subst this
          refine Ex0_s (ih (pre ++ [c0]) _ σ2 (by rw [hK]; simp) hB f2 (fun x c hc => ?_)) (fun post n hn1 => ⟨n + 1, ?_⟩)
          · rw [hm2 x c hc, hm x c hc]
            simp only [List.mem_append, List.mem_singleton]
            constructor
            · rintro ((q | ⟨w, q1, q2, q3⟩) | ⟨w, q1, q2, q3, q4⟩)
              · exact Or.inl q
              · exact Or.inr ⟨w, q1, Or.inl q2, q3⟩
              · exact Or.inr ⟨w, q1, Or.inr q3, q4⟩
            · rintro (q | ⟨w, q1, q2 | q2, q3⟩)
              · exact Or.inl (Or.inl q)
              · exact Or.inl (Or.inr ⟨w, q1, q2, q3⟩)
              · exact Or.inr ⟨w, q1, by omega, q2, q3⟩
          · show wb_Md_reach_3 (wp_Md_reach post n) post (nI s) (nI (160 + i)) (nI (160 + c0)) (nI 15) σ2
            unfold wb_Md_reach_3
            rw [n_in (by omega), n_cl (by omega), f2.1]
            exact ⟨fun _ => ⟨by omega, hn1⟩, fun z => absurd (by decide +kernel) z⟩
        | succ m ihm =>
          intro w σ2 hw w1 f2 hm2
          have M2 := MC_FL M f2 hP55
          have same : (∀ x, ¬ A1 c0 w x) → Ex0 (fun post n => wp_Md_reach post n 3 (nI s) (nI (160 + i)) (nI (160 + c0)) (nI w + 1) 0 σ2) R := by
            intro hno
            rw [show (1 : Int32) = nI 1 from rfl, nI_add]
            refine ihm (w + 1) σ2 (by omega) (by omega) f2 (fun x c hc => ?_)
            rw [hm2 x c hc]
            refine ⟨fun q => q.imp_right (fun ⟨w', q1, q2, q3⟩ => ⟨w', q1, by omega, q3⟩), fun q => q.imp_right (fun ⟨w', q1, q2, q3, q4⟩ => ⟨w', q1, ?_, q3, q4⟩)⟩
            rcases Nat.eq_or_lt_of_le (Nat.lt_succ_iff.mp q2) with z | z
            · subst z; subst q3; exact absurd q4 (hno x)
            · exact z
          cases hr : rul tS lS S s w with
          | none =>
            refine Ex0_s (same (fun x ⟨v, h, _⟩ => by rw [hr] at h; cases h)) (fun post n hn1 => ⟨n + 1, ?_⟩)
            show wb_Md_reach_3 (wp_Md_reach post n) post (nI s) (nI (160 + i)) (nI (160 + c0)) (nI w) σ2
            unfold wb_Md_reach_3
            refine ⟨fun z => absurd ((n_lt (a := 14) (by omega) (by omega)).mp z) (by omega), fun _ => spoken_n M2 hs (by omega) (by omega) hr _ _ _ ?_⟩
            exact ⟨fun _ => hn1, fun z => absurd m1z z⟩
          | some v =>
            have hv := rul_lt hW hs hr
            have hsp := spoken_r M2 hs hi hcK hr (by omega)
            rw [nfr_e (by omega)] at hsp
            cases hq : nfr tS lS S tD lD D e0 s w v i c0 with
            | none =>
              rw [hq] at hsp
              refine Ex0_s (same (fun x ⟨u, h, h2⟩ => by rw [hr] at h; injection h with h; subst h; rw [hq] at h2; cases h2)) (fun post n hn1 => ⟨n + 1, ?_⟩)
              show wb_Md_reach_3 (wp_Md_reach post n) post (nI s) (nI (160 + i)) (nI (160 + c0)) (nI w) σ2
              unfold wb_Md_reach_3
              refine ⟨fun z => absurd ((n_lt (a := 14) (by omega) (by omega)).mp z) (by omega), fun _ => hsp _ ?_⟩
              exact ⟨fun _ => hn1, fun z => absurd m1z z⟩
            | some x0 =>
              rw [hq] at hsp
              have hx0 := nfr_lt hW hs hv hq
              obtain ⟨σ3, r1, r2, r3⟩ := mark_m (σ := σ2) (s := x0) (i := c0) (by omega) (by omega)
              refine Ex0_s (ihm (w + 1) σ3 (by omega) (by omega) (FL_t f2 r2) (fun x c hc => ?_)) (fun post n hn1 => ⟨n + 1, ?_⟩)
              · rw [r3 x c hc, Bool.or_eq_true, hm2 x c hc, decide_eq_true_iff]
                constructor
                · rintro ((q | ⟨w', q1, q2, q3⟩) | ⟨q1, q2⟩)
                  · exact Or.inl q
                  · exact Or.inr ⟨w', q1, by omega, q3⟩
                  · subst q1; subst q2; exact Or.inr ⟨w, by omega, by omega, rfl, v, hr, hq⟩
                · rintro (q | ⟨w', q1, q2, q3, q4⟩)
                  · exact Or.inl (Or.inl q)
                  · rcases Nat.eq_or_lt_of_le (Nat.lt_succ_iff.mp q2) with z | z
                    · subst z; subst q3
                      obtain ⟨u, u1, u2⟩ := q4
                      rw [hr] at u1; injection u1 with u1; subst u1
                      rw [hq] at u2; injection u2 with u2
                      exact Or.inr ⟨u2.symm, rfl⟩
                    · exact Or.inl (Or.inr ⟨w', q1, z, q3, q4⟩)
              · show wb_Md_reach_3 (wp_Md_reach post n) post (nI s) (nI (160 + i)) (nI (160 + c0)) (nI w) σ2
                unfold wb_Md_reach_3
                refine ⟨fun z => absurd ((n_lt (a := 14) (by omega) (by omega)).mp z) (by omega), fun _ => hsp _ ?_⟩
                refine ⟨fun z => absurd ((n_lt (a := x0) (b := 0) (by omega) (by omega)).mp z) (by omega), fun _ => r1 _ ?_⟩
                rw [show (1 : Int32) = nI 1 from rfl, nI_add]
                exact hn1
      refine Ex0_s (words 3 12 σ1 (by omega) (by omega) f (fun x c hc => ⟨Or.inl, fun q => q.elim id (fun ⟨w', q1, q2, _⟩ => by omega)⟩)) (fun post n hn1 => ⟨n + 1, ?_⟩)
      show wb_Md_reach_1 (wp_Md_reach post n) post (nI s) (nI (160 + i)) (nI (160 + c0)) σ1
      exact ⟨fun z => absurd ((n_lt (b := 0) (by omega) (by omega)).mp z) (by omega), fun _ => hn1⟩
  obtain ⟨σ', q1, q2⟩ := kids (D.K i) [] _ σ rfl (T.cD i hi) FL_r (fun x c hc => by simp)
  rw [hR] at q1
  refine ⟨σ', fun post hp => ?_, q1⟩
  obtain ⟨n, hn1⟩ := q2 post hp
  refine ⟨n + 1, ?_⟩
  show wb_Md_reach_0 (wp_Md_reach post n) post (nI s) (nI (160 + i)) σ
  unfold wb_Md_reach_0
  rw [n_in (by omega), n_cl (by omega), T.kS s hs, h6, n_in (by omega), n_cl (by omega)]
  exact ⟨by omega, fun _ => ⟨by omega, hn1⟩, fun z => absurd rfl z⟩
/-- all that is reached, up to the row, in the reference -/
theorem reAll_m {R : Int32 → Sg → Prop} (M : MC tS lS S tD lD D L σ) (hall : ∀ s, s < S.N → s ∈ L) (h0 : 0 < S.N) {last : Nat} (hl : last < D.N)
    (hgo : ∀ σ1 : Sg, FL Pk σ σ1 → (∀ s, s < S.N → (bt σ1 84 s last = true ↔ Re tS lS S tD lD D s last)) → Ex1 (fun post n => wp_Md_propose post n 2 (nI last) (nI (160 + (last + 1))) 0 0 0 σ1) R) :
    Ex1 (fun post n => wp_Md_propose post n 1 (nI last) 0 0 0 0 σ) R := by
  have hn := M.ns
  have hd := M.nd
  have hW := M.ws
  have hWD := M.wd
  have hll := OL_len M.p.l
  let I := fun (Pz : Nat → Nat → Prop) (σ1 : Sg) => FL Pk σ σ1 ∧ (∀ x c, x < S.N → c < D.N → bt σ1 84 x c = true → Re tS lS S tD lD D x c) ∧ bt σ1 84 0 0 = true ∧ (∀ s j, s < S.N → j < D.N → Pz s j → bt σ1 84 s j = true → ∀ x c, Ra tS lS S tD lD D s j x c → bt σ1 84 x c = true)
  have loop : ∀ d i (σ1 : Sg), i + d = last + 1 → I (fun s j => j < i) σ1 → Ex1 (fun post n => wp_Md_propose post n 2 (nI last) (nI (160 + i)) 0 0 0 σ1) R := by
    intro d
    induction d with
    | zero =>
      intro i σ1 hi q
      obtain ⟨qf, qa, qb, qc⟩ := q
      have m1 : ∀ s i, Re tS lS S tD lD D s i → s < S.N ∧ i < D.N ∧ (i ≤ last → bt σ1 84 s i = true) := fun s i hr => by
        refine hr (fun s i => s < S.N ∧ i < D.N ∧ (i ≤ last → bt σ1 84 s i = true)) ⟨h0, by omega, fun _ => qb⟩ (fun s i x c hp hl2 => ?_)
        have hk := Ra_ok hW hWD hp.1 hp.2.1 hl2
        exact ⟨hk.1, hk.2.1, fun hcl => qc s i hp.1 hp.2.1 (by show i < _; omega) (hp.2.2 (by omega)) x c hl2⟩
      have : i = last + 1 := by omega
      subst this
      exact hgo σ1 qf (fun s hs => ⟨qa s last hs hl, fun z => (m1 s last z).2.2 (Nat.le_refl _)⟩)
    | succ d ih =>
      intro i σ1 hi q
      have inner : ∀ m (σ1 : Sg), m ≤ L.length → I (fun s j => j < i ∨ (j = i ∧ s ∈ L.drop m)) σ1 → Ex1 (fun post n => wp_Md_propose post n 4 (nI last) (nI (160 + i)) (nI m - nI 1) 0 0 σ1) R := by
        intro m
        induction m with
        | zero =>
          intro σ1 hm q
          obtain ⟨qf, qa, qb, qc⟩ := q
          refine Ex1_s (ih (i + 1) σ1 (by omega) ⟨qf, qa, qb, fun s j hs hj hp => qc s j hs hj (by
            rcases Nat.eq_or_lt_of_le (Nat.lt_succ_iff.mp hp) with e | e
            · exact Or.inr ⟨e, hall s hs⟩
            · exact Or.inl e)⟩) (fun post n hn1 => ⟨n + 1, ?_⟩)
          show wb_Md_propose_4 (wp_Md_propose post n) post (nI last) (nI (160 + i)) (nI 0 - nI 1) σ1
          unfold wb_Md_propose_4
          refine ⟨fun _ => ?_, fun z => absurd (by decide +kernel) z⟩
          rw [show (1 : Int32) = nI 1 from rfl, nI_add]
          exact hn1
        | succ m ihm =>
          intro σ1 hm q
          obtain ⟨qf, qa, qb, qc⟩ := q
          have M1 := MC_FL M qf hP55
          have hsp : L = L.take m ++ L.getD m 0 :: L.drop (m + 1) := by
            rw [List.getD_eq_getElem?_getD, List.getElem?_eq_getElem hm]
            simp
          obtain ⟨s0, hs0⟩ : ∃ s, s = L.getD m 0 := ⟨_, rfl⟩
          rw [← hs0] at hsp
          have hmem : s0 ∈ L := by rw [hsp]; simp
          have hsN := (M.p.l.lt s0 hmem).1
          have hiN : i < D.N := by omega
          have hdr : L.drop m = s0 :: L.drop (m + 1) := by
            rw [hs0, List.getD_eq_getElem?_getD, List.getElem?_eq_getElem hm]
            exact List.drop_eq_getElem_cons hm
          have hnd : ∀ x, x ∈ L.take m → x ∉ L.drop m := by
            have := M.p.l.nd
            rw [hsp] at this
            have := List.nodup_append.mp this
            intro x hx hy
            rw [hdr] at hy
            exact this.2.2 x hx x hy rfl
          have ee : nI (m + 1) - nI 1 = nI m := by rw [pk_sub (by omega)]; rfl
          have e2 : ∀ m, nI m + (-1) = nI m - nI 1 := fun m => by rw [Int32.sub_eq_add_neg]; rfl
          have pz : ∀ s j, (j < i ∨ (j = i ∧ s ∈ L.drop m)) → ((j < i ∨ (j = i ∧ s ∈ L.drop (m + 1))) ∨ (s = s0 ∧ j = i)) := fun s j => by
            rw [hdr, List.mem_cons]
            rintro (z | ⟨z, y | y⟩)
            · exact Or.inl (Or.inl z)
            · exact Or.inr ⟨y, z⟩
            · exact Or.inl (Or.inr ⟨z, y⟩)
          have h78 : σ1.1 78 m = nI s0 := by rw [qf.1, M.p.o m hm, hs0]
          rw [ee]
          cases hk : bt σ1 84 s0 i with
          | false =>
            refine Ex1_s (ihm σ1 (by omega) ⟨qf, qa, qb, fun s j hs hj hp z => ?_⟩) (fun post n hn1 => ⟨n + 1, ?_⟩)
            · rcases pz s j hp with y | ⟨y1, y2⟩
              · exact qc s j hs hj y z
              · rw [y1, y2, hk] at z; cases z
            · show wb_Md_propose_4 (wp_Md_propose post n) post (nI last) (nI (160 + i)) (nI m) σ1
              unfold wb_Md_propose_4
              refine ⟨fun z => absurd ((n_lt (b := 0) (by omega) (by omega)).mp z) (by omega), fun _ => ⟨(n_in (by omega)).mpr (by omega), ?_⟩⟩
              rw [n_cl (by omega), h78, Md_isMarked_r (by omega) (by omega), e2, hk]
              exact ⟨fun _ => hn1, fun z => absurd rfl z⟩
          | true =>
            obtain ⟨σ2, r1, r2, r3⟩ := reach_m M1 hsN hiN
            refine Ex1_s (ihm σ2 (by omega) ⟨FL_t qf r2, fun x c hx hc2 z => ?_, (r3 0 0 (by omega)).mpr (Or.inl qb), fun s j hs hj hp z x c hl2 => ?_⟩) (fun post n hn1 => ⟨n + 1, ?_⟩)
            · rcases (r3 x c (by omega)).mp z with y | y
              · exact qa x c hx hc2 y
              · exact Re_s (qa s0 i hsN hiN hk) y
            · have hok := Ra_ok hW hWD hs hj hl2
              rcases (r3 s j (by omega)).mp z with y | y
              · rcases pz s j hp with hp | hp
                · exact (r3 x c (by omega)).mpr (Or.inl (qc s j hs hj hp y x c hl2))
                · rw [hp.1, hp.2] at hl2
                  exact (r3 x c (by omega)).mpr (Or.inr hl2)
              · exfalso
                rcases (Ra_ok hW hWD hsN hiN y).2.2 with u | ⟨u, u2⟩
                · omega
                · rcases M.p.l.tp (L.take m) s0 (L.drop (m + 1)) hsp s u2 with t | t
                  · exact t
                  · rcases hp with hp | ⟨_, hp⟩
                    · omega
                    · exact hnd s t hp
            · show wb_Md_propose_4 (wp_Md_propose post n) post (nI last) (nI (160 + i)) (nI m) σ1
              unfold wb_Md_propose_4
              refine ⟨fun z => absurd ((n_lt (b := 0) (by omega) (by omega)).mp z) (by omega), fun _ => ⟨(n_in (by omega)).mpr (by omega), ?_⟩⟩
              rw [n_cl (by omega), h78, Md_isMarked_r (by omega) (by omega), e2, hk]
              refine ⟨fun z => absurd z (by decide +kernel), fun _ => ⟨(n_in (by omega)).mpr (by omega), ?_⟩⟩
              rw [h78]
              exact r1 _ hn1
      refine Ex1_s (inner L.length σ1 (Nat.le_refl _) (by
        obtain ⟨qf, qa, qb, qc⟩ := q
        refine ⟨qf, qa, qb, fun s j hs hj hp => qc s j hs hj ?_⟩
        rw [List.drop_length] at hp; simpa using hp)) (fun post n hn1 => ⟨n + 1, ?_⟩)
      show wb_Md_propose_2 (wp_Md_propose post n) post (nI last) (nI (160 + i)) σ1
      unfold wb_Md_propose_2
      rw [q.1.1, M.p.n, show (160 : Int32) = nI 160 from rfl, nI_add]
      exact ⟨fun z => absurd ((n_lt (by omega) (by omega)).mp z) (by omega), fun _ => hn1⟩
  -- the marks are cleared
  have clr : ∀ m k (σ1 : Sg), k + m = S.N → FL Pk σ σ1 → (∀ s j, s < k → j < 80 → bt σ1 84 s j = false) → Ex1 (fun post n => wp_Md_propose post n 1 (nI last) (nI k) 0 0 0 σ1) R := by
    intro m
    induction m with
    | zero =>
      intro k σ1 hk f hz
      have : k = S.N := by omega
      subst this
      have n0 : σ1.1 58 0 = nI S.N := by rw [f.1]; exact (MC_T M).nS
      obtain ⟨σ2, r1, r2, r3⟩ := mark_m (σ := σ1) (s := 0) (i := 0) (by omega) (by omega)
      refine Ex1_s (loop (last + 1) 0 σ2 (by omega) ⟨FL_t f r2, fun x c hx hc z => ?_, by rw [r3 0 0 (by omega)]; simp, fun s j _ _ hp => absurd hp (by show ¬ j < 0; omega)⟩) (fun post n hn1 => ⟨n + 1, ?_⟩)
      · rw [r3 x c (by omega), hz x c hx (by omega), Bool.false_or, decide_eq_true_iff] at z
        rw [z.1, z.2]; exact Re_0
      · show wb_Md_propose_1 (wp_Md_propose post n) post (nI last) (nI S.N) σ1
        unfold wb_Md_propose_1
        have z0 : (0 : Int32).toNatClampNeg = 0 := rfl
        rw [z0, n0]
        refine ⟨(n_in (a := 0) (by omega)).mpr (by omega), fun _ => r1 _ hn1, fun z => absurd ((n_le (by omega) (by omega)).mpr (Nat.le_refl _)) z⟩
    | succ m ih =>
      intro k σ1 hk f hz
      have n0 : σ1.1 58 0 = nI S.N := by rw [f.1]; exact (MC_T M).nS
      refine Ex1_s (ih (k + 1) (sl (sl σ1 84 k 0) 85 k 0) (by omega) (FL_sl (FL_sl f (Or.inr (by omega))) (Or.inr (by omega))) (fun s j hs hj => ?_)) (fun post n hn1 => ⟨n + 1, ?_⟩)
      · by_cases e2 : s = k
        · subst e2; unfold bt; by_cases hk2 : j < 64 <;> simp [hk2, sl_2, gb_0]
        · have ho : ∀ c, (sl (sl σ1 84 k 0) 85 k 0).2.1 c s = σ1.2.1 c s := fun c => by rw [sl_2, if_neg (fun q => e2 q.2), sl_2, if_neg (fun q => e2 q.2)]
          rw [bt_o (ho 84) (ho 85)]; exact hz s j (by omega) hj
      · show wb_Md_propose_1 (wp_Md_propose post n) post (nI last) (nI k) σ1
        unfold wb_Md_propose_1
        have z0 : (0 : Int32).toNatClampNeg = 0 := rfl
        rw [z0, n0, n_in (a := k) (by omega), n_cl (a := k) (by omega), show (1 : Int32) = nI 1 from rfl, nI_add]
        refine ⟨(n_in (a := 0) (by omega)).mpr (by omega), fun z => absurd ((n_le (by omega) (by omega)).mp z) (by omega), fun _ => ⟨by omega, fun σa ha => ⟨by omega, fun σb hb => ?_⟩⟩⟩
        rw [hb, ha]; exact hn1
  exact clr S.N 0 σ (by omega) FL_r (fun s j hs => by omega)
end MRE
