section RT
variable {tS : Nat → Nat} {lS : Nat} {S : TG} {tD : Nat → Nat} {lD : Nat} {D : TG} {L : List Nat} {σ : Sg}
def Ld1 (tS : Nat → Nat) (lS : Nat) (S : TG) (tD : Nat → Nat) (lD : Nat) (D : TG) (s w i x c : Nat) : Prop := ∃ v, Bad tS lS S tD lD D s w v i ∧ HH tS lS S tD lD D x c = false ∧ (((w = 12 ∨ w = 13 ∨ w = 14 ∨ w = 20) ∧ c ∈ D.K i ∧ nfr tS lS S tD lD D (EE tS lS S tD lD D) s w v i c = some x) ∨ (w = 15 ∧ x ∈ S.K v ∧ c = i) ∨ (w = 19 ∧ mtg tS lS S v = some x ∧ c = i))
def Wr1 (tS : Nat → Nat) (lS : Nat) (S : TG) (tD : Nat → Nat) (lD : Nat) (D : TG) (s w v i : Nat) : Prop := Bad tS lS S tD lD D s w v i ∧ ¬ (w = 12 ∨ w = 13 ∨ w = 14 ∨ w = 15 ∨ w = 20) ∧ (w = 19 → mtg tS lS S v = none)
theorem path6 {post : Sg → Prop} {x1 x2 x4 x5 : Int32} {w n : Nat} (w1 : 1 ≤ w) (w2 : w ≤ 20) (σ : Sg) (h : wp_Md_report post n 6 x1 x2 (nI w) x4 x5 (nI (if w = 12 ∨ w = 13 ∨ w = 14 ∨ w = 20 then 1 else 0)) σ) : ∃ n, wp_Md_report post n 3 x1 x2 (nI w) x4 x5 0 σ := by
  by_cases a : w < 12
  · rw [if_neg (by omega)] at h
    refine ⟨n + 2, ?_⟩
    show wb_Md_report_3 (wp_Md_report post (n + 1)) post x1 x2 (nI w) x4 x5 σ
    unfold wb_Md_report_3
    refine ⟨fun _ => ?_, fun z => absurd ((n_lt (b := 12) (by omega) (by omega)).mpr a) z⟩
    show wb_Md_report_4 (wp_Md_report post n) post x1 x2 (nI w) x4 x5 σ
    exact ⟨fun _ => h, fun z => absurd ((n_eq (b := 20) (by omega) (by omega)).mp z) (by omega)⟩
  · by_cases b : w ≤ 14
    · rw [if_pos (by omega)] at h
      refine ⟨n + 2, ?_⟩
      show wb_Md_report_3 (wp_Md_report post (n + 1)) post x1 x2 (nI w) x4 x5 σ
      unfold wb_Md_report_3
      refine ⟨fun z => absurd ((n_lt (b := 12) (by omega) (by omega)).mp z) a, fun _ => ⟨fun _ => h, fun z => absurd ((n_le (b := 14) (by omega) (by omega)).mpr b) z⟩⟩
    · by_cases c : w = 20
      · rw [if_pos (by omega)] at h
        refine ⟨n + 3, ?_⟩
        show wb_Md_report_3 (wp_Md_report post (n + 2)) post x1 x2 (nI w) x4 x5 σ
        unfold wb_Md_report_3
        refine ⟨fun z => absurd ((n_lt (b := 12) (by omega) (by omega)).mp z) a, fun _ => ⟨fun z => absurd ((n_le (b := 14) (by omega) (by omega)).mp z) b, fun _ => ?_⟩⟩
        show wb_Md_report_4 (wp_Md_report post (n + 1)) post x1 x2 (nI w) x4 x5 σ
        exact ⟨fun z => absurd ((n_eq (b := 20) (by omega) (by omega)).mpr c) z, fun _ => h⟩
      · rw [if_neg (by omega)] at h
        refine ⟨n + 2, ?_⟩
        show wb_Md_report_3 (wp_Md_report post (n + 1)) post x1 x2 (nI w) x4 x5 σ
        unfold wb_Md_report_3
        refine ⟨fun z => absurd ((n_lt (b := 12) (by omega) (by omega)).mp z) a, fun _ => ⟨fun z => absurd ((n_le (b := 14) (by omega) (by omega)).mp z) b, fun _ => ?_⟩⟩
        show wb_Md_report_4 (wp_Md_report post n) post x1 x2 (nI w) x4 x5 σ
        exact ⟨fun _ => h, fun z => absurd ((n_eq (b := 20) (by omega) (by omega)).mp z) c⟩
theorem path0 {post : Sg → Prop} {x1 x2 x4 : Int32} {w n : Nat} (w1 : 1 ≤ w) (w2 : w ≤ 20) (σ : Sg) (h : wp_Md_report post n 1 x1 x2 (nI (w + 1)) 0 0 0 σ) : ∃ n, wp_Md_report post n 3 x1 x2 (nI w) x4 0 0 σ := by
  refine path6 (n := n + 3) w1 w2 σ ?_
  show wb_Md_report_6 (wp_Md_report post (n + 2)) post x1 x2 (nI w) x4 0 _ σ
  refine ⟨fun _ => ?_, fun z => absurd rfl z⟩
  show wb_Md_report_7 (wp_Md_report post (n + 1)) post x1 x2 (nI w) x4 0 σ
  refine ⟨fun _ => ?_, fun z => absurd rfl z⟩
  show wb_Md_report_8 (wp_Md_report post n) post x1 x2 (nI w) x4 0 σ
  refine ⟨fun _ => ⟨fun _ => ?_, fun z => absurd rfl z⟩, fun z => absurd rfl z⟩
  rw [show (1 : Int32) = nI 1 from rfl, nI_add]
  exact h
theorem i1_0 : ¬ ((1 : Int32) = 0) := by decide +kernel
/-- reports of children of the document -/
theorem pathC {post : Sg → Prop} {x1 x2 x4 : Int32} {w n : Nat} (w1 : 1 ≤ w) (w2 : w ≤ 20) (hw : w = 12 ∨ w = 13 ∨ w = 14 ∨ w = 20) (σ : Sg) (h : wq_Md_reportChildren x1 (nI w) x2 σ (fun σ1 => wp_Md_report post n 1 x1 x2 (nI (w + 1)) 0 0 0 σ1)) : ∃ n, wp_Md_report post n 3 x1 x2 (nI w) x4 1 0 σ := by
  refine path6 (n := n + 1) w1 w2 σ ?_
  rw [if_pos hw]
  show wb_Md_report_6 (wp_Md_report post n) post x1 x2 (nI w) x4 1 (nI 1) σ
  refine ⟨fun z => absurd z i1_0, fun _ => ⟨fun z => absurd z i1_0, fun _ => ?_⟩⟩
  rw [show (1 : Int32) = nI 1 from rfl, nI_add]
  exact h
theorem pathA {post : Sg → Prop} {x1 x2 x4 : Int32} {n : Nat} (σ : Sg) (h : wq_Md_reportAll x4 x2 σ (fun σ1 => wp_Md_report post n 1 x1 x2 (nI (15 + 1)) 0 0 0 σ1)) : ∃ n, wp_Md_report post n 3 x1 x2 (nI 15) x4 1 0 σ := by
  refine path6 (n := n + 2) (by omega) (by omega) σ ?_
  rw [if_neg (by omega)]
  show wb_Md_report_6 (wp_Md_report post (n + 1)) post x1 x2 (nI 15) x4 1 (nI 0) σ
  refine ⟨fun z => absurd z i1_0, fun _ => ⟨fun _ => ?_, fun z => absurd rfl z⟩⟩
  show wb_Md_report_7 (wp_Md_report post n) post x1 x2 (nI 15) x4 1 σ
  refine ⟨fun z => absurd z i1_0, fun _ => ⟨fun z => absurd rfl z, fun _ => ?_⟩⟩
  rw [show (1 : Int32) = nI 1 from rfl, nI_add]
  exact h
theorem path8 {post : Sg → Prop} {x1 x2 x4 : Int32} {w n : Nat} (w1 : 1 ≤ w) (w2 : w ≤ 20) (hw : ¬ (w = 12 ∨ w = 13 ∨ w = 14 ∨ w = 15 ∨ w = 20)) (σ : Sg) (h : wb_Md_report_8 (wp_Md_report post n) post x1 x2 (nI w) x4 1 σ) : ∃ n, wp_Md_report post n 3 x1 x2 (nI w) x4 1 0 σ := by
  refine path6 (n := n + 3) w1 w2 σ ?_
  rw [if_neg (by omega)]
  show wb_Md_report_6 (wp_Md_report post (n + 2)) post x1 x2 (nI w) x4 1 (nI 0) σ
  refine ⟨fun z => absurd z i1_0, fun _ => ⟨fun _ => ?_, fun z => absurd rfl z⟩⟩
  show wb_Md_report_7 (wp_Md_report post (n + 1)) post x1 x2 (nI w) x4 1 σ
  exact ⟨fun z => absurd z i1_0, fun _ => ⟨fun _ => h, fun z => absurd ((n_eq (b := 15) (by omega) (by omega)).mp z) (by omega)⟩⟩
theorem report_m (hall : ∀ s, s < S.N → s ∈ L) (hq : D.N * tq tS lS S.kd S.nm S.N < 1300) {s i : Nat} (V : MVd tS lS S tD lD D L σ i) {T : List Nat} (hT : TD tS lS S D σ T) (hs : s < S.N) (hi : i < D.N)
    (hn1 : S.kd s = 1 → ∀ e ∈ T, e / 32 ≠ s + 256 * i) (hnw : ∀ w v, Wr1 tS lS S tD lD D s w v i → ∀ e ∈ T, e / 32 ≠ v + 256 * i) :
    ∃ σ' T', Rv (wq_Md_report (nI s) (nI (160 + i)) σ) σ' ∧ FJ Pk σ σ' ∧ TD tS lS S D σ' T' ∧ (∀ x c, c < 80 → (bt σ' 84 x c = true ↔ bt σ 84 x c = true ∨ ∃ w, Ld1 tS lS S tD lD D s w i x c)) ∧ (∀ e, e ∈ T' ↔ e ∈ T ∨ (S.kd s = 1 ∧ e = 0 + 32 * (s + 256 * i)) ∨ ∃ w v, Wr1 tS lS S tD lD D s w v i ∧ e = w + 32 * (v + 256 * i)) := by
  have hn := V.m.ns
  have hd := V.m.nd
  have hW := V.m.ws
  have hWD := V.m.wd
  have hks := hW.kd s hs
  have cells : ∀ σ1, FJ Pk σ σ1 → σ1.1 59 s = nI (S.kd s) ∧ (∀ w, 1 ≤ w → w ≤ 20 → σ1.1 76 (22 * s + w) = oI (rul tS lS S s w)) ∧ ∀ v, v < S.N → σ1.1 77 v = oI (mtg tS lS S v) := fun σ1 f =>
    ⟨by rw [f.a 59 (by omega) (by omega)]; exact (MC_T V.m).kS s hs, fun w w1 w2 => by rw [f.a 76 (by omega) (by omega)]; exact V.m.p.r.r s w hs w1 (by omega), fun v hv => by rw [f.a 77 (by omega) (by omega)]; exact V.m.p.r.t v hv⟩
  by_cases h6 : S.kd s = 6
  · obtain ⟨R, hR⟩ : ∃ R : Sg → Prop, R = fun σ' => ∃ T', FJ Pk σ σ' ∧ TD tS lS S D σ' T' ∧ (∀ x c, c < 80 → (bt σ' 84 x c = true ↔ bt σ 84 x c = true ∨ ∃ w, Ld1 tS lS S tD lD D s w i x c)) ∧ (∀ e, e ∈ T' ↔ e ∈ T ∨ ∃ w v, Wr1 tS lS S tD lD D s w v i ∧ e = w + 32 * (v + 256 * i)) := ⟨_, rfl⟩
    have loop : ∀ m w (σ1 : Sg) (T1 : List Nat), w + m = 21 → 1 ≤ w → FJ Pk σ σ1 → TD tS lS S D σ1 T1 → (∀ x c, c < 80 → (bt σ1 84 x c = true ↔ bt σ 84 x c = true ∨ ∃ w', w' < w ∧ Ld1 tS lS S tD lD D s w' i x c)) → (∀ e, e ∈ T1 ↔ e ∈ T ∨ ∃ w' v, w' < w ∧ Wr1 tS lS S tD lD D s w' v i ∧ e = w' + 32 * (v + 256 * i)) → Ex0 (fun post n => wp_Md_report post n 1 (nI s) (nI (160 + i)) (nI w) 0 0 0 σ1) R := by
      intro m
      induction m with
      | zero =>
        intro w σ1 T1 hw w1 f t1 hm ht
        have : w = 21 := by omega
        subst this
        refine ⟨σ1, by
          rw [hR]
          refine ⟨T1, f, t1, fun x c hc => by rw [hm x c hc]; exact ⟨fun q => q.imp_right (fun ⟨w, _, h⟩ => ⟨w, h⟩), fun q => q.imp_right (fun ⟨w, h⟩ => ⟨w, by obtain ⟨v, hb, _⟩ := h; have := hb.2.2.1; omega, h⟩)⟩, fun e => by rw [ht e]; exact ⟨fun q => q.imp_right (fun ⟨w, v, _, h⟩ => ⟨w, v, h⟩), fun q => q.imp_right (fun ⟨w, v, h, h2⟩ => ⟨w, v, by have := h.1.2.2.1; omega, h, h2⟩)⟩⟩, fun post hp => ⟨1, ?_⟩⟩
        show wb_Md_report_1 (wp_Md_report post 0) post (nI s) (nI (160 + i)) (nI 21) σ1
        exact ⟨fun _ => hp, fun z => absurd (by decide +kernel) z⟩
      | succ m ih =>
        intro w σ1 T1 hw w1 f t1 hm ht
        have V1 := MVd_J V f (fun c k h => h)
        obtain ⟨σ2, v1, v2, v3⟩ := ev_m hall V1 hs hi
        have fv : FL Pk σ1 σ2 := FL_m v2 (fun c k => Ps_Pk)
        have f2 : FJ Pk σ σ2 := FJ_t f (FJ_L fv)
        have V2 := MVd_J V f2 (fun c k h => h)
        have t2 : TD tS lS S D σ2 T1 := TD_FL t1 v2
        have hm2 : ∀ x c, c < 80 → (bt σ2 84 x c = true ↔ bt σ 84 x c = true ∨ ∃ w', w' < w ∧ Ld1 tS lS S tD lD D s w' i x c) := fun x c hc => by
          rw [bt_o (v2.2.2 84 x (by unfold Ps; omega)) (v2.2.2 85 x (by unfold Ps; omega))]; exact hm x c hc
        obtain ⟨c59, c76, c77⟩ := cells σ1 f
        -- the beginning of the round
        have go : ∀ (post : Sg → Prop) (n : Nat), (rul tS lS S s w = none → wp_Md_report post n 2 (nI s) (nI (160 + i)) (nI w) (oI (rul tS lS S s w)) 0 0 σ2) → (∀ v, rul tS lS S s w = some v → wq_Md_says (nI s) (nI w) (nI v) (nI (160 + i)) σ2 (fun r2 σ3 => ((¬ r2 = 0 → wp_Md_report post n 2 (nI s) (nI (160 + i)) (nI w) (nI v) 0 0 σ3) ∧ (r2 = 0 → wp_Md_report post n 3 (nI s) (nI (160 + i)) (nI w) (nI v) 1 0 σ3)))) → ∃ n, wp_Md_report post n 1 (nI s) (nI (160 + i)) (nI w) 0 0 0 σ1 := by
          intro post n h1 h2
          refine ⟨n + 1, ?_⟩
          show wb_Md_report_1 (wp_Md_report post n) post (nI s) (nI (160 + i)) (nI w) σ1
          unfold wb_Md_report_1
          rw [n_in (by omega), n_cl (by omega), c59, h6, show (22 : Int32) = nI 22 from rfl, pk_mul, nI_add, n_in (by omega), n_cl (by omega), c76 w w1 (by omega)]
          refine ⟨fun z => absurd ((n_lt (a := 20) (by omega) (by omega)).mp z) (by omega), fun _ => ⟨by omega, fun z => absurd rfl z, fun _ => ⟨by omega, v1 _ ?_⟩⟩⟩
          cases hr : rul tS lS S s w with
          | none =>
            refine ⟨fun _ => by have := h1 hr; rw [hr] at this; exact this, fun z => absurd ?_ z⟩
            show (-nI 1 : Int32) < 0
            decide +kernel
          | some v =>
            have hv := rul_lt hW hs hr
            refine ⟨fun z => absurd ((n_lt (b := 0) (by omega) (by omega)).mp z) (by omega), fun _ => h2 v hr⟩
        -- nothing new
        have stay : (∀ x c, ¬ Ld1 tS lS S tD lD D s w i x c) → (∀ v, ¬ Wr1 tS lS S tD lD D s w v i) → Ex0 (fun post n => wp_Md_report post n 1 (nI s) (nI (160 + i)) (nI (w + 1)) 0 0 0 σ2) R := by
          intro hl hwr
          refine ih (w + 1) σ2 T1 (by omega) (by omega) f2 t2 (fun x c hc => ?_) (fun e => ?_)
          · rw [hm2 x c hc]
            refine ⟨fun q => q.imp_right (fun ⟨w', h1, h2⟩ => ⟨w', by omega, h2⟩), fun q => q.imp_right (fun ⟨w', h1, h2⟩ => ⟨w', ?_, h2⟩)⟩
            rcases Nat.eq_or_lt_of_le (Nat.lt_succ_iff.mp h1) with z | z
            · subst z; exact absurd h2 (hl x c)
            · exact z
          · rw [ht e]
            refine ⟨fun q => q.imp_right (fun ⟨w', v, h1, h2⟩ => ⟨w', v, by omega, h2⟩), fun q => q.imp_right (fun ⟨w', v, h1, h2⟩ => ⟨w', v, ?_, h2⟩)⟩
            rcases Nat.eq_or_lt_of_le (Nat.lt_succ_iff.mp h1) with z | z
            · subst z; exact absurd h2.1 (hwr v)
            · exact z
        -- new marks
        have marks : ∀ (σ3 : Sg), FL Pk σ2 σ3 → (∀ v, ¬ Wr1 tS lS S tD lD D s w v i) → (∀ x c, c < 80 → (bt σ3 84 x c = true ↔ bt σ2 84 x c = true ∨ Ld1 tS lS S tD lD D s w i x c)) → Ex0 (fun post n => wp_Md_report post n 1 (nI s) (nI (160 + i)) (nI (w + 1)) 0 0 0 σ3) R := by
          intro σ3 f3 hwr h3
          refine ih (w + 1) σ3 T1 (by omega) (by omega) (FJ_t f2 (FJ_L f3)) (TD_FL t2 f3) (fun x c hc => ?_) (fun e => ?_)
          · rw [h3 x c hc, hm2 x c hc]
            constructor
            · rintro ((q | ⟨w', q, q2⟩) | q)
              · exact Or.inl q
              · exact Or.inr ⟨w', by omega, q2⟩
              · exact Or.inr ⟨w, by omega, q⟩
            · rintro (q | ⟨w', q, q2⟩)
              · exact Or.inl (Or.inl q)
              · rcases Nat.eq_or_lt_of_le (Nat.lt_succ_iff.mp q) with z | z
                · subst z; exact Or.inr q2
                · exact Or.inl (Or.inr ⟨w', z, q2⟩)
          · rw [ht e]
            refine ⟨fun q => q.imp_right (fun ⟨w', v, h1, h2⟩ => ⟨w', v, by omega, h2⟩), fun q => q.imp_right (fun ⟨w', v, h1, h2⟩ => ⟨w', v, ?_, h2⟩)⟩
            rcases Nat.eq_or_lt_of_le (Nat.lt_succ_iff.mp h1) with z | z
            · subst z; exact absurd h2.1 (hwr v)
            · exact z
        cases hr : rul tS lS S s w with
        | none =>
          refine Ex0_s (stay (fun x c ⟨v, hb, _⟩ => by have := hb.2.2.2.1; rw [hr] at this; cases this) (fun v hb => by have := hb.1.2.2.2.1; rw [hr] at this; cases this)) (fun post n hn2 => ?_)
          obtain ⟨n2, hn2⟩ := path0 (x4 := oI (rul tS lS S s w)) w1 (by omega) σ2 hn2
          exact go post (n2 + 1) (fun _ => hn2) (fun v hv => by rw [hr] at hv; cases hv)
        | some v =>
          have hv := rul_lt hW hs hr
          have hvK := (rul_mem hr).2
          have hwv : wrd tS lS S v = w := (rul_wrd hW hs h6 hvK w1).mpr hr
          have hsay := says_m V2.m V2.e hs hi hr w1 (by omega)
          have esob : sob tS lS S tD lD D (hMf σ2) (eMf σ2) s w v i = sob tS lS S tD lD D (HH tS lS S tD lD D) (EE tS lS S tD lD D) s w v i := sob_cg hW hWD hs hi hvK hwv h6 (fun x hx => V2.h x i (Dp_lt hW hs hx) hi) (fun c hc x hx => V2.h x c hx (hWD.ch i hi c hc).2.1) (fun c hc k6 => v3 c hc k6)
          rw [esob] at hsay
          cases hsob : sob tS lS S tD lD D (HH tS lS S tD lD D) (EE tS lS S tD lD D) s w v i with
          | true =>
            have nb : ∀ u, ¬ Bad tS lS S tD lD D s w u i := fun u hb => by
              have e := hb.2.2.2.1; rw [hr] at e; injection e with e; subst e
              have := hb.2.2.2.2; rw [hsob] at this; cases this
            refine Ex0_s (stay (fun x c ⟨v, hb, _⟩ => nb v hb) (fun v hb => nb v hb.1)) (fun post n hn2 => ?_)
            obtain ⟨n2, hn2⟩ := path0 (x4 := nI v) w1 (by omega) σ2 hn2
            refine go post (n2 + 1) (fun h => by rw [hr] at h; cases h) (fun u hu => ?_)
            rw [hr] at hu; injection hu with hu; subst hu
            rw [hsob] at hsay
            exact hsay _ ⟨fun _ => hn2, fun z => absurd z (by decide +kernel)⟩
          | false =>
            have hbad : Bad tS lS S tD lD D s w v i := ⟨h6, w1, by omega, hr, hsob⟩
            have only : ∀ u, Bad tS lS S tD lD D s w u i → u = v := fun u hb => by have e := hb.2.2.2.1; rw [hr] at e; injection e with e; exact e.symm
            rw [hsob] at hsay
            -- from block 3
            have go3 : ∀ (post : Sg → Prop) (n : Nat), wp_Md_report post n 3 (nI s) (nI (160 + i)) (nI w) (nI v) 1 0 σ2 → ∃ n, wp_Md_report post n 1 (nI s) (nI (160 + i)) (nI w) 0 0 0 σ1 := fun post n h => by
              refine go post n (fun h => by rw [hr] at h; cases h) (fun u hu => ?_)
              rw [hr] at hu; injection hu with hu; subst hu
              exact hsay _ ⟨fun z => absurd rfl z, fun _ => h⟩
            by_cases hc : w = 12 ∨ w = 13 ∨ w = 14 ∨ w = 20
            · obtain ⟨σ3, r1, r2, r3⟩ := repCh_m hall V2 hs hi hr hc
              refine Ex0_s (marks σ3 r2 (fun u hu => hu.2.1 (by omega)) (fun x c hc80 => ?_)) (fun post n hn2 => ?_)
              · rw [r3 x c hc80]
                refine ⟨fun q => q.imp_right (fun q => ⟨v, hbad, q.2.2, Or.inl ⟨hc, q.1, q.2.1⟩⟩), fun q => q.imp_right (fun ⟨u, hb, hf, q⟩ => ?_)⟩
                have := only u hb; subst this
                rcases q with ⟨_, q1, q2⟩ | q | q
                · exact ⟨q1, q2, hf⟩
                · omega
                · omega
              · obtain ⟨n3, hn3⟩ := pathC (x4 := nI v) w1 (by omega) hc σ2 (r1 _ hn2)
                exact go3 post n3 hn3
            · by_cases h15 : w = 15
              · subst h15
                obtain ⟨σ3, r1, r2, r3⟩ := repAll_m V2 hv hi
                refine Ex0_s (marks σ3 r2 (fun u hu => hu.2.1 (by omega)) (fun x c hc80 => ?_)) (fun post n hn2 => ?_)
                · rw [r3 x c hc80]
                  refine ⟨fun q => q.imp_right (fun q => ⟨v, hbad, by rw [q.2.1]; exact q.2.2, Or.inr (Or.inl ⟨rfl, q.1, q.2.1⟩)⟩), fun q => q.imp_right (fun ⟨u, hb, hf, q⟩ => ?_)⟩
                  have := only u hb; subst this
                  rcases q with ⟨q, _⟩ | q | q
                  · omega
                  · exact ⟨q.2.1, q.2.2, by rw [← q.2.2]; exact hf⟩
                  · omega
                · obtain ⟨n3, hn3⟩ := pathA (x4 := nI v) σ2 (r1 _ hn2)
                  exact go3 post n3 hn3
              · have hc5 : ¬ (w = 12 ∨ w = 13 ∨ w = 14 ∨ w = 15 ∨ w = 20) := by omega
                have c77b := (cells σ2 f2).2.2 v hv
                by_cases hm9 : w = 19 ∧ ∃ x, mtg tS lS S v = some x
                · obtain ⟨h19, x0, hx0⟩ := hm9
                  subst h19
                  have hx0N := mtg_lt hW hv hx0
                  -- the target does not hold
                  have hf0 : HH tS lS S tD lD D x0 i = false := by
                    unfold sob at hsob; simp [hx0] at hsob; exact hsob.2
                  obtain ⟨σ3, r1, r2, r3⟩ := mark_m (σ := σ2) (s := x0) (i := i) (by omega) (by omega)
                  refine Ex0_s (marks σ3 r2 (fun u hu => by have := only u hu.1; subst this; have := hu.2.2 rfl; rw [hx0] at this; cases this) (fun x c hc80 => ?_)) (fun post n hn2 => ?_)
                  · rw [r3 x c hc80, Bool.or_eq_true, decide_eq_true_iff]
                    refine ⟨fun q => q.imp_right (fun q => ⟨v, hbad, by rw [q.1, q.2]; exact hf0, Or.inr (Or.inr ⟨rfl, by rw [q.1]; exact hx0, q.2⟩)⟩), fun q => q.imp_right (fun ⟨u, hb, hf, q⟩ => ?_)⟩
                    have := only u hb; subst this
                    rcases q with ⟨q, _⟩ | q | q
                    · omega
                    · omega
                    · have e := q.2.1; rw [hx0] at e; injection e with e; exact ⟨e.symm, q.2.2⟩
                  · obtain ⟨n3, hn3⟩ := path8 (x1 := nI s) (x2 := nI (160 + i)) (x4 := nI v) (post := post) (n := n) w1 (by omega) hc5 σ2 (by
                      unfold wb_Md_report_8
                      rw [n_in (by omega), n_cl (by omega), c77b, hx0]
                      refine ⟨fun z => absurd z i1_0, fun _ => ⟨fun z => absurd rfl z, fun _ => ⟨by omega, fun z => absurd ((n_lt (b := 0) (by omega) (by omega)).mp z) (by omega), fun _ => ⟨by omega, r1 _ ?_⟩⟩⟩⟩
                      rw [show (1 : Int32) = nI 1 from rfl, nI_add]
                      exact hn2)
                    exact go3 post n3 hn3
                · -- told
                  have hwr : Wr1 tS lS S tD lD D s w v i := ⟨hbad, hc5, fun h => by
                    cases hx : mtg tS lS S v with
                    | none => rfl
                    | some x => exact absurd ⟨h, x, hx⟩ hm9⟩
                  obtain ⟨σ3, T3, r1, r2, r3, r4⟩ := tell_m hn hd hq t2 (c := w) (by omega) hv hi (rul_tb hW hs w1 (by omega) hr) (fun e he => by
                    rcases (ht e).mp he with q | ⟨w', u, q1, q2, q3⟩
                    · exact hnw w v hwr e q
                    · have hu := rul_lt hW hs q2.1.2.2.2.1
                      intro q
                      have : u = v := by omega
                      subst this
                      have := (rul_wrd hW hs h6 (rul_mem q2.1.2.2.2.1).2 q2.1.2.1).mpr q2.1.2.2.2.1
                      omega)
                  have b3 : ∀ x c, bt σ3 84 x c = bt σ2 84 x c := fun x c => bt_o (r2.d 84 x (fun q => q)) (r2.d 85 x (fun q => q))
                  have r2 : FJ Pk σ2 σ3 := FJ_m r2 (fun _ _ q => q.elim)
                  refine Ex0_s (ih (w + 1) σ3 T3 (by omega) (by omega) (FJ_t f2 r2) r3 (fun x c hc80 => ?_) (fun e => ?_)) (fun post n hn2 => ?_)
                  · rw [b3, hm2 x c hc80]
                    refine ⟨fun q => q.imp_right (fun ⟨w', h1, h2⟩ => ⟨w', by omega, h2⟩), fun q => q.imp_right (fun ⟨w', h1, h2⟩ => ⟨w', ?_, h2⟩)⟩
                    rcases Nat.eq_or_lt_of_le (Nat.lt_succ_iff.mp h1) with z | z
                    · subst z
                      obtain ⟨u, hb, hf, q⟩ := h2
                      have := only u hb; subst this
                      rcases q with ⟨q, _⟩ | q | q
                      · omega
                      · omega
                      · exact absurd ⟨q.1, x, q.2.1⟩ hm9
                    · exact z
                  · rw [r4 e, ht e]
                    constructor
                    · rintro ((q | ⟨w', u, q, q2⟩) | q)
                      · exact Or.inl q
                      · exact Or.inr ⟨w', u, by omega, q2⟩
                      · exact Or.inr ⟨w, v, by omega, hwr, q⟩
                    · rintro (q | ⟨w', u, q, q2⟩)
                      · exact Or.inl (Or.inl q)
                      · rcases Nat.eq_or_lt_of_le (Nat.lt_succ_iff.mp q) with z | z
                        · subst z
                          have := only u q2.1.1; subst this
                          exact Or.inr q2.2
                        · exact Or.inl (Or.inr ⟨w', u, z, q2⟩)
                  · have tellp : wq_Md_tell (nI w) (nI (160 + i)) (nI v) σ2 (fun σ1 => wp_Md_report post n 1 (nI s) (nI (160 + i)) (nI w + 1) 0 0 0 σ1) := r1 _ (by
                      rw [show (1 : Int32) = nI 1 from rfl, nI_add]
                      exact hn2)
                    obtain ⟨n3, hn3⟩ := path8 (x1 := nI s) (x2 := nI (160 + i)) (x4 := nI v) (post := post) (n := n) w1 (by omega) hc5 σ2 (by
                      unfold wb_Md_report_8
                      rw [n_in (by omega), n_cl (by omega), c77b]
                      refine ⟨fun z => absurd z i1_0, fun _ => ⟨fun _ => ⟨fun z => absurd z i1_0, fun _ => tellp⟩, fun z => ⟨by omega, fun _ => ⟨fun z => absurd z i1_0, fun _ => tellp⟩, fun y => ?_⟩⟩⟩
                      have h19 : w = 19 := (n_eq (b := 19) (by omega) (by omega)).mp z
                      have := hwr.2.2 h19
                      rw [this] at y
                      exact absurd (by decide +kernel) y)
                    exact go3 post n3 hn3
    obtain ⟨σ', q1, q2⟩ := loop 20 1 σ T (by omega) (by omega) FJ_r hT (fun x c hc => ⟨Or.inl, fun q => q.elim id (fun ⟨w', h1, v, h2, _⟩ => by have := h2.2.1; omega)⟩) (fun e => ⟨Or.inl, fun q => q.elim id (fun ⟨w', v, h1, h2, _⟩ => by have := h2.1.2.1; omega)⟩)
    rw [hR] at q1
    obtain ⟨T', p1, p2, p3, p4⟩ := q1
    refine ⟨σ', T', fun post hp => ?_, p1, p2, p3, fun e => ?_⟩
    · obtain ⟨n, hn2⟩ := q2 post hp
      refine ⟨n + 1, ?_⟩
      show wb_Md_report_0 (wp_Md_report post n) post (nI s) (nI (160 + i)) σ
      unfold wb_Md_report_0
      rw [n_in (by omega), n_cl (by omega), (cells σ FJ_r).1, h6]
      exact ⟨by omega, fun _ => hn2, fun z => absurd z (by decide +kernel)⟩
    · rw [p4 e]
      exact ⟨fun q => q.imp_right Or.inr, fun q => q.imp_right (fun q => q.elim (fun q => by omega) id)⟩
  · have nb : ∀ w v, ¬ Bad tS lS S tD lD D s w v i := fun w v hb => h6 hb.1
    -- the loop ends at once
    have stop : ∀ (σ1 : Sg) (post : Sg → Prop), FJ Pk σ σ1 → post σ1 → wp_Md_report post 1 1 (nI s) (nI (160 + i)) 1 0 0 0 σ1 := fun σ1 post f hp => by
      show wb_Md_report_1 (wp_Md_report post 0) post (nI s) (nI (160 + i)) 1 σ1
      unfold wb_Md_report_1
      rw [n_in (by omega), n_cl (by omega), (cells σ1 f).1]
      exact ⟨fun _ => hp, fun _ => ⟨by omega, fun _ => hp, fun z => absurd ((n_eq (b := 6) (by omega) (by omega)).mp z) h6⟩⟩
    by_cases k1 : S.kd s = 1
    · obtain ⟨σ3, T3, r1, r2, r3, r4⟩ := tell_m hn hd hq hT (c := 0) (by omega) hs hi (Or.inl k1) (hn1 k1)
      have b3 : ∀ x c, bt σ3 84 x c = bt σ 84 x c := fun x c => bt_o (r2.d 84 x (fun q => q)) (r2.d 85 x (fun q => q))
      have r2 : FJ Pk σ σ3 := FJ_m r2 (fun _ _ q => q.elim)
      refine ⟨σ3, T3, fun post hp => ⟨2, ?_⟩, r2, r3, fun x c hc => by rw [b3]; exact ⟨Or.inl, fun q => q.elim id (fun ⟨w, v, hb, _⟩ => absurd hb (nb w v))⟩, fun e => by rw [r4 e]; exact ⟨fun q => q.imp_right (fun q => Or.inl ⟨k1, q⟩), fun q => q.imp_right (fun q => q.elim (fun q => q.2) (fun ⟨w, v, hb, _⟩ => absurd hb.1 (nb w v)))⟩⟩
      show wb_Md_report_0 (wp_Md_report post 1) post (nI s) (nI (160 + i)) σ
      unfold wb_Md_report_0
      rw [n_in (by omega), n_cl (by omega), (cells σ FJ_r).1, k1]
      exact ⟨by omega, fun z => absurd rfl z, fun _ => r1 _ (stop σ3 post r2 hp)⟩
    · refine ⟨σ, T, fun post hp => ⟨2, ?_⟩, FJ_r, hT, fun x c hc => ⟨Or.inl, fun q => q.elim id (fun ⟨w, v, hb, _⟩ => absurd hb (nb w v))⟩, fun e => ⟨Or.inl, fun q => q.elim id (fun q => q.elim (fun q => absurd q.1 k1) (fun ⟨w, v, hb, _⟩ => absurd hb.1 (nb w v)))⟩⟩
      show wb_Md_report_0 (wp_Md_report post 1) post (nI s) (nI (160 + i)) σ
      unfold wb_Md_report_0
      rw [n_in (by omega), n_cl (by omega), (cells σ FJ_r).1]
      exact ⟨by omega, fun _ => stop σ post FJ_r hp, fun z => absurd ((n_eq (b := 1) (by omega) (by omega)).mp z) k1⟩
end RT
