section TO
variable {tS : Nat → Nat} {lS : Nat} {S : TG} {tD : Nat → Nat} {lD : Nat} {D : TG} {L : List Nat} {σ : Sg}
theorem Ld_1 {s i x c : Nat} : Ld tS lS S tD lD D s i x c ↔ ∃ w, Ld1 tS lS S tD lD D s w i x c := Iff.rfl
/-- what (s, j) tells -/
def Te (tS : Nat → Nat) (lS : Nat) (S : TG) (tD : Nat → Nat) (lD : Nat) (D : TG) (s j e : Nat) : Prop := (S.kd s = 1 ∧ e = 0 + 32 * (s + 256 * j)) ∨ ∃ w v, Wr1 tS lS S tD lD D s w v j ∧ e = w + 32 * (v + 256 * j)
def Pg (c k : Nat) : Prop := Pk c k ∨ Pf c k
theorem Pf_Pg {c k : Nat} (h : Pf c k) : Pg c k := Or.inr h
theorem Pk_Pg {c k : Nat} (h : Pk c k) : Pg c k := Or.inl h
theorem told_m (hall : ∀ s, s < S.N → s ∈ L) (hq : D.N * tq tS lS S.kd S.nm S.N < 1300) (h0 : 0 < S.N) (h1 : 0 < D.N) (M : MC tS lS S tD lD D L σ)
    (hE : ∀ a j, a < S.N → j < D.N → bt σ 80 a j = EQ tS lS S tD lD D a j) (hH : ∀ s j, s < S.N → j < D.N → bt σ 82 s j = HH tS lS S tD lD D s j)
    (h84 : ∀ x c, x < S.N → c < D.N → (bt σ 84 x c = true ↔ (x = 0 ∧ c = 0 ∧ HH tS lS S tD lD D 0 0 = false))) (h40 : σ.1 54 40 = nI 0) :
    Ex1 (fun post n => wp_Md_judge post n 1 160 0 σ) (fun r σ' => ∃ T, FJ Pg σ σ' ∧ TD tS lS S D σ' T ∧ r = nI T.length ∧ (∀ e, e ∈ T ↔ ∃ s j, Rp tS lS S tD lD D s j ∧ Te tS lS S tD lD D s j e)) := by
  have hn := M.ns
  have hd := M.nd
  have hW := M.ws
  have hWD := M.wd
  have hll := OL_len M.p.l
  have hP55 : ∀ k, ¬ Pg 55 k := fun k => by unfold Pg Pk Pf; omega
  obtain ⟨R, hR⟩ : ∃ R : Int32 → Sg → Prop, R = fun r σ' => ∃ T, FJ Pg σ σ' ∧ TD tS lS S D σ' T ∧ r = nI T.length ∧ (∀ e, e ∈ T ↔ ∃ s j, Rp tS lS S tD lD D s j ∧ Te tS lS S tD lD D s j e) := ⟨_, rfl⟩
  rw [← hR]
  -- the rounds
  let I := fun (Pz : Nat → Nat → Prop) (σ1 : Sg) (T : List Nat) => FJ Pg σ σ1 ∧ TD tS lS S D σ1 T ∧ (∀ x c, x < S.N → c < D.N → bt σ1 84 x c = true → Rp tS lS S tD lD D x c) ∧ (HH tS lS S tD lD D 0 0 = false → bt σ1 84 0 0 = true) ∧ (∀ s j, s < S.N → j < D.N → Pz s j → bt σ1 84 s j = true → ∀ x c, Ld tS lS S tD lD D s j x c → bt σ1 84 x c = true) ∧ (∀ e, e ∈ T ↔ ∃ s j, s < S.N ∧ j < D.N ∧ Pz s j ∧ bt σ1 84 s j = true ∧ Te tS lS S tD lD D s j e)
  let VH := fun (σ1 : Sg) => (∀ a j, a < S.N → j < D.N → bt σ1 80 a j = EQ tS lS S tD lD D a j) ∧ (∀ s j, s < S.N → j < D.N → bt σ1 82 s j = HH tS lS S tD lD D s j)
  have loop : ∀ d i (σ1 : Sg) (T : List Nat) (x3 : Int32), i + d = D.N → VH σ1 → I (fun s j => j < i) σ1 T → Ex1 (fun post n => wp_Md_judge post n 1 (nI (160 + i)) x3 σ1) R := by
    intro d
    induction d with
    | zero =>
      intro i σ1 T x3 hi _ q
      obtain ⟨qf, qt, qa, qb, qc, qd⟩ := q
      have : i = D.N := by omega
      subst this
      have m1 : ∀ s i, Rp tS lS S tD lD D s i → s < S.N ∧ i < D.N ∧ bt σ1 84 s i = true := fun s i hr => by
        refine hr (fun s i => s < S.N ∧ i < D.N ∧ bt σ1 84 s i = true) (fun z => ⟨h0, h1, qb z⟩) (fun s i x c hp hl => ?_)
        have hk := Ld_ok hW hWD hp.1 hp.2.1 hl
        exact ⟨hk.1, hk.2.1, qc s i hp.1 hp.2.1 hp.2.1 hp.2.2 x c hl⟩
      refine ⟨nI T.length, σ1, by
        rw [hR]
        refine ⟨T, qf, qt, rfl, fun e => ?_⟩
        rw [qd e]
        exact ⟨fun ⟨s, j, z1, z2, z3, z4, z5⟩ => ⟨s, j, qa s j z1 z2 z4, z5⟩, fun ⟨s, j, z1, z2⟩ => ⟨s, j, (m1 s j z1).1, (m1 s j z1).2.1, (m1 s j z1).2.1, (m1 s j z1).2.2, z2⟩⟩, fun post hp => ⟨1, ?_⟩⟩
      show wb_Md_judge_1 (wp_Md_judge post 0) post (nI (160 + D.N)) σ1
      have n1 : σ1.1 58 1 = nI D.N := by rw [qf.a 58 (by omega) (by omega)]; exact (MC_T M).nD
      simp (disch := omega) only [wb_Md_judge_1, litI, n_in, n_cl, n1, n_le, nI_add, Nat.le_refl, eq_true (show 1 < 2 by decide), not_true_eq_false, false_imp_iff, true_imp_iff, true_and, and_true]
      rw [qt.n]; exact hp
    | succ d ih =>
      intro i σ1 T x3 hi vh q
      have inner : ∀ m (σ1 : Sg) (T : List Nat), m ≤ L.length → MVd tS lS S tD lD D L σ1 i → I (fun s j => j < i ∨ (j = i ∧ s ∈ L.drop m)) σ1 T → Ex1 (fun post n => wp_Md_judge post n 2 (nI (160 + i)) (nI m - nI 1) σ1) R := by
        intro m
        induction m with
        | zero =>
          intro σ1 T hm V q
          obtain ⟨qf, qt, qa, qb, qc, qd⟩ := q
          have ez : ∀ s j, s < S.N → ((j < i ∨ (j = i ∧ s ∈ L.drop 0)) ↔ j < i + 1) := fun s j hs => by
            rw [List.drop_zero]
            exact ⟨fun z => by omega, fun z => by
              rcases Nat.eq_or_lt_of_le (Nat.lt_succ_iff.mp z) with e | e
              · exact Or.inr ⟨e, hall s hs⟩
              · exact Or.inl e⟩
          refine Ex1_s (ih (i + 1) σ1 T 0 (by omega) ⟨V.e, V.h⟩ ⟨qf, qt, qa, qb, fun s j hs hj hp => qc s j hs hj ((ez s j hs).mpr hp), fun e => by
            rw [qd e]
            exact ⟨fun ⟨s, j, z1, z2, z3, z4⟩ => ⟨s, j, z1, z2, (ez s j z1).mp z3, z4⟩, fun ⟨s, j, z1, z2, z3, z4⟩ => ⟨s, j, z1, z2, (ez s j z1).mpr z3, z4⟩⟩⟩) (fun post n hn1 => ⟨n + 1, ?_⟩)
          show wb_Md_judge_2 (wp_Md_judge post n) post (nI (160 + i)) (nI 0 - nI 1) σ1
          unfold wb_Md_judge_2
          refine ⟨fun _ => ?_, fun z => absurd (by decide +kernel) z⟩
          rw [show (1 : Int32) = nI 1 from rfl, nI_add]
          exact hn1
        | succ m ihm =>
          intro σ1 T hm V q
          obtain ⟨qf, qt, qa, qb, qc, qd⟩ := q
          have hsp : L = L.take m ++ L.getD m 0 :: L.drop (m + 1) := by
            rw [List.getD_eq_getElem?_getD, List.getElem?_eq_getElem hm]
            simp
          obtain ⟨s0, hs0⟩ : ∃ s, s = L.getD m 0 := ⟨_, rfl⟩
          rw [← hs0] at hsp
          have hmem : s0 ∈ L := by rw [hsp]; simp
          have hsN := (M.p.l.lt s0 hmem).1
          have hiN : i < D.N := by omega
          have hdr : L.drop m = s0 :: L.drop (m + 1) := by
            rw [hs0, List.getD_eq_getElem?_getD, List.getElem?_eq_getElem hm]
            exact List.drop_eq_getElem_cons hm
          have hnd : s0 ∉ L.drop (m + 1) ∧ ∀ x, x ∈ L.take m → x ∉ L.drop m := by
            have := M.p.l.nd
            rw [hsp] at this
            have := List.nodup_append.mp this
            refine ⟨(List.nodup_cons.mp this.2.1).1, fun x hx hy => ?_⟩
            rw [hdr] at hy
            exact this.2.2 x hx x hy rfl
          have ee : nI (m + 1) - nI 1 = nI m := by rw [pk_sub (by omega)]; rfl
          have e2 : ∀ m, nI m + (-1) = nI m - nI 1 := fun m => by rw [Int32.sub_eq_add_neg]; rfl
          have h78 : σ1.1 78 m = nI s0 := by rw [qf.a 78 (by omega) (by omega), M.p.o m hm, hs0]
          have pz : ∀ s j, (j < i ∨ (j = i ∧ s ∈ L.drop m)) ↔ ((j < i ∨ (j = i ∧ s ∈ L.drop (m + 1))) ∨ (s = s0 ∧ j = i)) := fun s j => by
            rw [hdr, List.mem_cons]
            constructor
            · rintro (z | ⟨z, y | y⟩)
              · exact Or.inl (Or.inl z)
              · exact Or.inr ⟨y, z⟩
              · exact Or.inl (Or.inr ⟨z, y⟩)
            · rintro ((z | ⟨z, y⟩) | ⟨y, z⟩)
              · exact Or.inl z
              · exact Or.inr ⟨z, Or.inr y⟩
              · exact Or.inr ⟨z, Or.inl y⟩
          have e7 : ∀ (post : Int32 → Sg → Prop) n, (bt σ1 84 s0 i = false → wp_Md_judge post n 2 (nI (160 + i)) (nI m - nI 1) σ1) → (bt σ1 84 s0 i = true → wq_Md_report (nI s0) (nI (160 + i)) σ1 (fun σ2 => wp_Md_judge post n 2 (nI (160 + i)) (nI m - nI 1) σ2)) → wp_Md_judge post (n + 1) 2 (nI (160 + i)) (nI m) σ1 := by
            intro post n y1 y2
            show wb_Md_judge_2 (wp_Md_judge post n) post (nI (160 + i)) (nI m) σ1
            unfold wb_Md_judge_2
            refine ⟨fun z => absurd ((n_lt (b := 0) (by omega) (by omega)).mp z) (by omega), fun _ => ⟨(n_in (by omega)).mpr (by omega), ?_⟩⟩
            rw [n_cl (by omega), h78, Md_isMarked_r (by omega) (by omega), e2]
            cases hb : bt σ1 84 s0 i with
            | false => exact ⟨fun _ => y1 hb, fun z => absurd rfl z⟩
            | true =>
              refine ⟨fun z => absurd z (by decide +kernel), fun _ => ⟨(n_in (by omega)).mpr (by omega), ?_⟩⟩
              rw [h78]; exact y2 hb
          rw [ee]
          cases hk : bt σ1 84 s0 i with
          | false =>
            refine Ex1_s (ihm σ1 T (by omega) V ⟨qf, qt, qa, qb, fun s j hs hj hp z => qc s j hs hj ?_ z, fun e => ?_⟩) (fun post n hn1 => ⟨n + 1, e7 post n (fun _ => hn1) (fun z => by rw [hk] at z; cases z)⟩)
            · rcases (pz s j).mp hp with y | ⟨y1, y2⟩
              · exact y
              · rw [y1, y2, hk] at z; cases z
            · rw [qd e]
              refine ⟨fun ⟨s, j, z1, z2, z3, z4⟩ => ⟨s, j, z1, z2, (pz s j).mpr (Or.inl z3), z4⟩, fun ⟨s, j, z1, z2, z3, z4, z5⟩ => ⟨s, j, z1, z2, ?_, z4, z5⟩⟩
              rcases (pz s j).mp z3 with y | ⟨y1, y2⟩
              · exact y
              · rw [y1, y2, hk] at z4; cases z4
          | true =>
            have hRp := qa s0 i hsN hiN hk
            have hnot : ∀ s j, (j < i ∨ (j = i ∧ s ∈ L.drop (m + 1))) → ¬ (s = s0 ∧ j = i) := fun s j hp z => by
              rcases hp with hp | hp
              · omega
              · exact hnd.1 (z.1 ▸ hp.2)
            have key : ∀ s j e, (j < i ∨ (j = i ∧ s ∈ L.drop (m + 1))) → s < S.N → j < D.N → bt σ1 84 s j = true → Te tS lS S tD lD D s j e → ∀ u, u < S.N → e / 32 = u + 256 * i → (u = s0 → False) ∧ (∀ w, Wr1 tS lS S tD lD D s0 w u i → False) := by
              intro s j e hp hs hj hb ht u hu he
              have hRs := qa s j hs hj hb
              rcases ht with ⟨k1, e1⟩ | ⟨w', v', hw', e1⟩
              · have : s = u ∧ j = i := by omega
                refine ⟨fun z => hnot s j hp ⟨by omega, this.2⟩, fun w hw => ?_⟩
                rw [this.1] at hRs
                exact role hW hWD h0 h1 u s0 w i j hRp hw.1.2.1 hw.1.2.2.2.1 (fun z => hw.2.1 (by omega)) hRs
              · have hv' := rul_lt hW hs hw'.1.2.2.2.1
                have hw20 := hw'.1.2.2.1
                have : v' = u ∧ j = i := by omega
                rw [this.1] at hw'
                refine ⟨fun z => ?_, fun w hw => ?_⟩
                · rw [z] at hw'
                  exact role hW hWD h0 h1 s0 s w' j i hRs hw'.1.2.1 hw'.1.2.2.2.1 (fun y => hw'.2.1 (by omega)) hRp
                · have p1 := (hW.ch s hs u (rul_mem hw'.1.2.2.2.1).2).2.2.1
                  have p2 := (hW.ch s0 hsN u (rul_mem hw.1.2.2.2.1).2).2.2.1
                  rw [p1] at p2; injection p2 with p2
                  exact hnot s j hp ⟨p2, this.2⟩
            obtain ⟨σ2, T2, r1, r2, r3, r4, r5⟩ := report_m hall hq V qt hsN hiN (fun k1 e he z => by
              obtain ⟨s, j, z1, z2, z3, z4, z5⟩ := (qd e).mp he
              exact (key s j e z3 z1 z2 z4 z5 s0 hsN z).1 rfl) (fun w v hw e he z => by
              obtain ⟨s, j, z1, z2, z3, z4, z5⟩ := (qd e).mp he
              exact (key s j e z3 z1 z2 z4 z5 v (rul_lt hW hsN hw.1.2.2.2.1) z).2 w hw)
            have V2 := MVd_J V r2 (fun c k h => h)
            have new : ∀ s j, s < S.N → (j < i ∨ (j = i ∧ s ∈ L.drop m)) → ¬ Ld tS lS S tD lD D s0 i s j := by
              intro s j hs hp hl
              rcases (Ld_ok hW hWD hsN hiN hl).2.2.2 with z | ⟨z, z2⟩
              · omega
              · rcases hp with hp | ⟨hp, hp2⟩
                · omega
                · rcases M.p.l.tp (L.take m) s0 (L.drop (m + 1)) hsp s z2 with y | y
                  · exact y
                  · exact hnd.2 s y hp2
            refine Ex1_s (ihm σ2 T2 (by omega) V2 ⟨FJ_t qf (FJ_m r2 (fun c k => Pk_Pg)), r3, fun x c hx hc2 z => ?_, fun z => (r4 0 0 (by omega)).mpr (Or.inl (qb z)), fun s j hs hj hp z x c hl => ?_, fun e => ?_⟩) (fun post n hn1 => ⟨n + 1, e7 post n (fun z => by rw [hk] at z; cases z) (fun _ => r1 _ hn1)⟩)
            · rcases (r4 x c (by omega)).mp z with y | y
              · exact qa x c hx hc2 y
              · exact Rp_s hRp (Ld_1.mpr y)
            · have hl2 := Ld_ok hW hWD hs hj hl
              rcases (r4 s j (by omega)).mp z with y | y
              · rcases (pz s j).mp hp with hp | hp
                · exact (r4 x c (by omega)).mpr (Or.inl (qc s j hs hj hp y x c hl))
                · rw [hp.1, hp.2] at hl
                  exact (r4 x c (by omega)).mpr (Or.inr (Ld_1.mp hl))
              · exact absurd (Ld_1.mpr y) (new s j hs hp)
            · rw [r5 e, qd e]
              constructor
              · rintro (⟨s, j, z1, z2, z3, z4, z5⟩ | z)
                · exact ⟨s, j, z1, z2, (pz s j).mpr (Or.inl z3), (r4 s j (by omega)).mpr (Or.inl z4), z5⟩
                · exact ⟨s0, i, hsN, hiN, (pz s0 i).mpr (Or.inr ⟨rfl, rfl⟩), (r4 s0 i (by omega)).mpr (Or.inl hk), z⟩
              · rintro ⟨s, j, z1, z2, z3, z4, z5⟩
                rcases (r4 s j (by omega)).mp z4 with y | y
                · rcases (pz s j).mp z3 with hp | hp
                  · exact Or.inl ⟨s, j, z1, z2, hp, y, z5⟩
                  · rw [hp.1, hp.2] at z5; exact Or.inr z5
                · exact absurd (Ld_1.mpr y) (new s j z1 z3)
      obtain ⟨qf, qt, qa, qb, qc, qd⟩ := q
      have M1 := MC_J M qf hP55
      obtain ⟨σ2, b1, b2, b3, b4, b5⟩ := fill_m M1 vh.1 hall (show i < D.N by omega) (fun s hs c hc => vh.2 s c hs (hWD.ch i (by omega) c hc).2.1) (fun s hs z => by rw [vh.2 s i hs (by omega)] at z; exact z)
      have o84 : ∀ x c, bt σ2 84 x c = bt σ1 84 x c := fun x c => bt_o (b2.2.2 84 x (by unfold Pf; omega)) (b2.2.2 85 x (by unfold Pf; omega))
      have f2 : FJ Pg σ σ2 := FJ_t qf (FJ_m (FJ_L b2) (fun c k => Pf_Pg))
      have ez : ∀ s j, (j < i ∨ (j = i ∧ s ∈ L.drop L.length)) ↔ j < i := fun s j => by rw [List.drop_length]; simp
      refine Ex1_s (inner L.length σ2 T (Nat.le_refl _) ⟨MC_J M f2 hP55, fun a j ha hj => by rw [bt_o (b2.2.2 80 a (by unfold Pf; omega)) (b2.2.2 81 a (by unfold Pf; omega))]; exact vh.1 a j ha hj, fun s j hs hj => ?_, b5⟩ ⟨f2, TD_FL qt b2, fun x c hx hc z => qa x c hx hc (by rw [← o84]; exact z), fun z => by rw [o84]; exact qb z, fun s j hs hj hp z x c hl => by rw [o84] at z ⊢; exact qc s j hs hj ((ez s j).mp hp) z x c hl, fun e => ?_⟩) (fun post n hn1 => ⟨n + 1, ?_⟩)
      · by_cases e : j = i
        · subst e; exact b3 s hs
        · rw [b4 s j (by omega) e]; exact vh.2 s j hs hj
      · rw [qd e]
        exact ⟨fun ⟨s, j, z1, z2, z3, z4, z5⟩ => ⟨s, j, z1, z2, (ez s j).mpr z3, by rw [o84]; exact z4, z5⟩, fun ⟨s, j, z1, z2, z3, z4, z5⟩ => ⟨s, j, z1, z2, (ez s j).mp z3, by rw [← o84]; exact z4, z5⟩⟩
      · show wb_Md_judge_1 (wp_Md_judge post n) post (nI (160 + i)) σ1
        have n1 : σ1.1 58 1 = nI D.N := by rw [qf.a 58 (by omega) (by omega)]; exact (MC_T M).nD
        simp (disch := omega) only [wb_Md_judge_1, litI, n_in, n_cl, n1, n_le, nI_add, eq_false (show ¬ 160 + D.N ≤ 160 + i by omega), eq_true (show 1 < 2 by decide), not_false_eq_true, false_imp_iff, true_imp_iff, true_and, and_true]
        refine b1 _ ?_
        rw [f2.b 28 (by omega), M.p.n]; exact hn1
  exact loop D.N 0 σ [] 0 (by omega) ⟨hE, hH⟩ ⟨FJ_r, ⟨h40, fun j hj => absurd hj (by simp), List.Pairwise.nil, fun e he => by simp at he⟩, fun x c hx hc z => by
    obtain ⟨y1, y2, y3⟩ := (h84 x c hx hc).mp z
    subst y1; subst y2; exact Rp_0 y3, fun z => (h84 0 0 h0 h1).mpr ⟨rfl, rfl, z⟩, fun s j _ _ hp => absurd hp (by show ¬ j < 0; omega), fun e => ⟨fun z => by simp at z, fun ⟨s, j, _, _, z, _⟩ => absurd z (by show ¬ j < 0; omega)⟩⟩
/-- sorted lists with the same members are the same -/
theorem sorted_eq : ∀ (A B : List Nat), A.Pairwise (fun a b => a / 32 < b / 32) → B.Pairwise (fun a b => a / 32 < b / 32) → (∀ e, e ∈ A ↔ e ∈ B) → A = B
  | [], [], _, _, _ => rfl
  | [], b :: B, _, _, h => absurd ((h b).mpr (List.mem_cons_self ..)) (by simp)
  | a :: A, [], _, _, h => absurd ((h a).mp (List.mem_cons_self ..)) (by simp)
  | a :: A, b :: B, hA, hB, h => by
    have h1 := List.pairwise_cons.mp hA
    have h2 := List.pairwise_cons.mp hB
    have e : a = b := by
      rcases List.mem_cons.mp ((h a).mp (List.mem_cons_self ..)) with z | z
      · exact z
      · rcases List.mem_cons.mp ((h b).mpr (List.mem_cons_self ..)) with y | y
        · exact y.symm
        · have := h2.1 a z; have := h1.1 b y; omega
    subst e
    rw [sorted_eq A B h1.2 h2.2 (fun x => ?_)]
    constructor
    · intro hx
      rcases List.mem_cons.mp ((h x).mp (List.mem_cons_of_mem _ hx)) with z | z
      · subst z; have := h1.1 x hx; omega
      · exact z
    · intro hx
      rcases List.mem_cons.mp ((h x).mpr (List.mem_cons_of_mem _ hx)) with z | z
      · subst z; have := h2.1 x hx; omega
      · exact z
/-- the class's list -/
theorem entS_m {ka kb : Nat → Nat → Bool} {i s e : Nat} : e ∈ entS tS lS S ka kb i s ↔ (S.kd s = 1 ∧ ka s i = true ∧ e = 0 + 32 * (s + 256 * i)) ∨ (kb s i = true ∧ e = wrd tS lS S s + 32 * (s + 256 * i)) := by
  unfold entS
  rw [List.mem_append]
  by_cases h1 : S.kd s = 1 ∧ ka s i = true
  · rw [if_pos h1]
    by_cases h2 : kb s i = true
    · rw [if_pos h2]; simp [h1, h2]
    · rw [if_neg h2]; simp [h1, h2]
  · rw [if_neg h1]
    by_cases h2 : kb s i = true
    · rw [if_pos h2]; simp only [List.not_mem_nil, List.mem_singleton, false_or]
      exact ⟨fun z => Or.inr ⟨h2, z⟩, fun z => z.elim (fun z => absurd ⟨z.1, z.2.1⟩ h1) (fun z => z.2)⟩
    · rw [if_neg h2]; simp only [List.not_mem_nil, or_self, false_iff]
      exact fun z => z.elim (fun z => h1 ⟨z.1, z.2.1⟩) (fun z => h2 z.1)
theorem tlS_mem {ka kb : Nat → Nat → Bool} {i e : Nat} : ∀ n, e ∈ tlS tS lS S ka kb i n ↔ ∃ s, s < n ∧ e ∈ entS tS lS S ka kb i s
  | 0 => ⟨fun h => by simp [tlS] at h, fun ⟨s, h, _⟩ => by omega⟩
  | n + 1 => by
    show e ∈ tlS tS lS S ka kb i n ++ entS tS lS S ka kb i n ↔ _
    rw [List.mem_append, tlS_mem n]
    constructor
    · rintro (⟨s, h1, h2⟩ | h)
      · exact ⟨s, by omega, h2⟩
      · exact ⟨n, by omega, h⟩
    · rintro ⟨s, h1, h2⟩
      rcases Nat.eq_or_lt_of_le (Nat.lt_succ_iff.mp h1) with z | z
      · subst z; exact Or.inr h2
      · exact Or.inl ⟨s, z, h2⟩
theorem tlD_mem {ka kb : Nat → Nat → Bool} {e : Nat} : ∀ n, e ∈ tlD tS lS S ka kb n ↔ ∃ i s, i < n ∧ s < S.N ∧ e ∈ entS tS lS S ka kb i s
  | 0 => ⟨fun h => by simp [tlD] at h, fun ⟨s, _, h, _⟩ => by omega⟩
  | n + 1 => by
    show e ∈ tlD tS lS S ka kb n ++ tlS tS lS S ka kb n S.N ↔ _
    rw [List.mem_append, tlD_mem n, tlS_mem]
    constructor
    · rintro (⟨i, s, h1, h2⟩ | ⟨s, h1, h2⟩)
      · exact ⟨i, s, by omega, h2⟩
      · exact ⟨n, s, by omega, h1, h2⟩
    · rintro ⟨i, s, h1, h2⟩
      rcases Nat.eq_or_lt_of_le (Nat.lt_succ_iff.mp h1) with z | z
      · subst z; exact Or.inr ⟨s, h2⟩
      · exact Or.inl ⟨i, s, z, h2⟩
theorem ent_k {ka kb : Nat → Nat → Bool} {i s e : Nat} (h : e ∈ entS tS lS S ka kb i s) : e / 32 = s + 256 * i := by
  have := wrd_32 (tS := tS) (lS := lS) (S := S) (s := s)
  rcases entS_m.mp h with z | z <;> omega
theorem tlD_s {ka kb : Nat → Nat → Bool} (hN : S.N ≤ 160) (hx : ∀ s i, S.kd s = 1 → ka s i = true → kb s i = true → False) : ∀ n, (tlD tS lS S ka kb n).Pairwise (fun a b => a / 32 < b / 32)
  | 0 => List.Pairwise.nil
  | n + 1 => by
    have hS : ∀ m, m ≤ S.N → (tlS tS lS S ka kb n m).Pairwise (fun a b => a / 32 < b / 32) := by
      intro m
      induction m with
      | zero => intro _; exact List.Pairwise.nil
      | succ m ih =>
        intro hm
        refine List.pairwise_append.mpr ⟨ih (by omega), ?_, fun a ha b hb => ?_⟩
        · unfold entS
          by_cases h1 : S.kd m = 1 ∧ ka m n = true
          · rw [if_pos h1, if_neg (fun h2 => hx m n h1.1 h1.2 h2)]; simp
          · rw [if_neg h1]; split <;> simp
        · obtain ⟨s, hs, h2⟩ := (tlS_mem m).mp ha
          have := ent_k h2; have := ent_k hb; omega
    refine List.pairwise_append.mpr ⟨tlD_s hN hx n, hS S.N (Nat.le_refl _), fun a ha b hb => ?_⟩
    obtain ⟨i, s, h1, h2, h3⟩ := (tlD_mem n).mp ha
    obtain ⟨s', h4, h5⟩ := (tlS_mem S.N).mp hb
    have := ent_k h3; have := ent_k h5; omega
theorem Tl_eq (hW : WG lS S) (hWD : WG lD D) (hN : S.N ≤ 160) (h0 : 0 < S.N) (h1 : 0 < D.N) {T : List Nat} (hs : T.Pairwise (fun a b => a / 32 < b / 32)) (hT : ∀ e, e ∈ T ↔ ∃ s j, Rp tS lS S tD lD D s j ∧ Te tS lS S tD lD D s j e) : Tl tS lS S tD lD D = T := by
  refine sorted_eq _ _ (tlD_s hN (fun s i k1 ka kb => ?_) D.N) hs (fun e => ?_)
  · rw [cB_t] at ka kb
    obtain ⟨s', hr, w, hb, hw, _⟩ := kb
    exact role hW hWD h0 h1 s s' w i i hr hb.2.1 hb.2.2.2.1 (by omega) ka
  · rw [hT e]
    unfold Tl
    rw [tlD_mem]
    constructor
    · rintro ⟨i, s, hi, hs, he⟩
      rcases entS_m.mp he with ⟨k1, ka, e1⟩ | ⟨kb, e1⟩
      · exact ⟨s, i, cB_t.mp ka, Or.inl ⟨k1, e1⟩⟩
      · obtain ⟨s', hr, w, hb, hw, h19⟩ := cB_t.mp kb
        have hs'N := (Rp_ok hW hWD h0 h1 hr).1
        have ew : wrd tS lS S s = w := (rul_wrd hW hs'N hb.1 (rul_mem hb.2.2.2.1).2 hb.2.1).mpr hb.2.2.2.1
        exact ⟨s', i, hr, Or.inr ⟨w, s, ⟨hb, hw, h19⟩, by rw [e1, ew]⟩⟩
    · rintro ⟨s, j, hr, ⟨k1, e1⟩ | ⟨w, v, ⟨hb, hw, h19⟩, e1⟩⟩
      · have ok := Rp_ok hW hWD h0 h1 hr
        exact ⟨j, s, ok.2.1, ok.1, entS_m.mpr (Or.inl ⟨k1, cB_t.mpr hr, e1⟩)⟩
      · have ok := Rp_ok hW hWD h0 h1 hr
        have ew : wrd tS lS S v = w := (rul_wrd hW ok.1 hb.1 (rul_mem hb.2.2.2.1).2 hb.2.1).mpr hb.2.2.2.1
        exact ⟨j, v, ok.2.1, rul_lt hW ok.1 hb.2.2.2.1, entS_m.mpr (Or.inr ⟨cB_t.mpr ⟨s, hr, w, hb, hw, h19⟩, by rw [e1, ew]⟩)⟩
end TO
