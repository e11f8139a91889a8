section OF
variable {tS : Nat → Nat} {lS : Nat} {S : TG} {tD : Nat → Nat} {lD : Nat} {D : TG} {L : List Nat} {σ : Sg}
/-- what the comparing of names answers -/
def cmpv (x y : List Nat) : Int32 := if slt x y = true then -1 else if slt y x = true then 1 else 0
theorem cmpv_0 {x y : List Nat} : cmpv x y = 0 ↔ x = y := by
  unfold cmpv
  constructor
  · intro h
    by_cases h1 : slt x y = true
    · rw [if_pos h1] at h; exact absurd h (by decide +kernel)
    · rw [if_neg h1] at h
      by_cases h2 : slt y x = true
      · rw [if_pos h2] at h; exact absurd h (by decide +kernel)
      · exact slt_3 x y (by simpa using h1) (by simpa using h2)
  · intro h; subst h; rw [slt_i]; rfl
theorem cmpv_le {x y : List Nat} : cmpv x y ≤ 0 ↔ slt y x = false := by
  unfold cmpv
  constructor
  · intro h
    cases h2 : slt y x with
    | false => rfl
    | true =>
      by_cases h1 : slt x y = true
      · have := slt_t _ _ _ h1 h2; rw [slt_i] at this; cases this
      · rw [if_neg h1, if_pos h2] at h; exact absurd h (by decide +kernel)
  · intro h
    by_cases h1 : slt x y = true
    · rw [if_pos h1]; decide +kernel
    · rw [if_neg h1, if_neg (by rw [h]; decide)]; decide +kernel
/-- a node with a name -/
def Nd (S : TG) (p : Nat) : Prop := p < S.N ∧ S.nm p = some (nmo S p)
theorem cmp_m (M : MC tS lS S tD lD D L σ) {p q : Nat} (hp : Nd S p) (hq : Nd S q) (hpl : nmo S p < lS) (hql : nmo S q < lS) : Ri (wq_Md_compareNames (nI p) (nI q) σ) (cmpv (sf tS lS (nmo S p + 1)) (sf tS lS (nmo S q + 1))) σ := by
  have hn := M.ns
  have hT := M.p.s.t
  have hl : lS ≤ 160 := hT.2.2.2.1
  have tx : ∀ k, k < lS → σ.1 56 k = nI (tS k) ∧ tS k ≤ 126 := fun k hk => by
    have := hT.2.2.2.2.2 k hk; rw [show 160 * 0 + k = k by omega] at this; exact ⟨this.1, this.2.2⟩
  have a1 : ∀ p, Nd S p → σ.1 67 p = nI (nmo S p) := fun p h => by rw [(MC_T M).aS p h.1, h.2]; rfl
  have a2 : ∀ p, Nd S p → σ.1 68 p = nI (qe tS lS (nmo S p + 1)) := fun p h => by have := M.p.s.i.ne p h.1 _ h.2; rw [show 160 * 0 + p = p by omega] at this; exact this
  have hpN := hp.1
  have hqN := hq.1
  obtain ⟨f, hf⟩ : ∃ f, f = nmo S p + 1 := ⟨_, rfl⟩
  obtain ⟨g, hg⟩ : ∃ g, g = nmo S q + 1 := ⟨_, rfl⟩
  rw [← hf, ← hg]
  have sf1 := qe_sp (tx := tS) (len := lS) (x := f) (by omega)
  have sg1 := qe_sp (tx := tS) (len := lS) (x := g) (by omega)
  obtain ⟨e, he⟩ : ∃ e, e = qe tS lS f := ⟨_, rfl⟩
  obtain ⟨e1, he1⟩ : ∃ e, e = qe tS lS g := ⟨_, rfl⟩
  rw [← he] at sf1
  rw [← he1] at sg1
  have s1 := sf1.1
  have s2 := sf1.2.1
  have r1 := sg1.1
  have r2 := sg1.2.1
  intro post hpo
  unfold sf at hpo
  rw [← he, ← he1] at hpo
  have key : ∀ d k, d = e - f - k → f + k ≤ e → g + k ≤ e1 → post (cmpv (strn tS (e - f - k) (f + k)) (strn tS (e1 - g - k) (g + k))) σ → ∃ n, wp_Md_compareNames post n 1 (nI p) (nI q) (nI (e - f)) (nI (e1 - g)) (nI k) σ := by
    -- an end
    have fin : ∀ k, f + k ≤ e → g + k ≤ e1 → (f + k = e ∨ g + k = e1) → post (cmpv (strn tS (e - f - k) (f + k)) (strn tS (e1 - g - k) (g + k))) σ → ∃ n, wp_Md_compareNames post n 1 (nI p) (nI q) (nI (e - f)) (nI (e1 - g)) (nI k) σ := by
      intro k hk1 hk2 hend hpo
      have two : wp_Md_compareNames post 1 2 0 0 (nI (e - f)) (nI (e1 - g)) 0 σ := by
        show wb_Md_compareNames_2 (wp_Md_compareNames post 0) post (nI (e - f)) (nI (e1 - g)) σ
        unfold wb_Md_compareNames_2
        rw [n_le (by omega) (by omega), n_le (by omega) (by omega)]
        by_cases c1 : f + k = e
        · rw [show e - f - k = 0 by omega] at hpo
          by_cases c2 : g + k = e1
          · rw [show e1 - g - k = 0 by omega] at hpo
            exact ⟨fun _ => ⟨fun _ => hpo, fun z => by omega⟩, fun z => by omega⟩
          · rw [show e1 - g - k = (e1 - g - k - 1) + 1 by omega] at hpo
            exact ⟨fun z => by omega, fun _ => hpo⟩
        · rw [show e1 - g - k = 0 by omega, show e - f - k = (e - f - k - 1) + 1 by omega] at hpo
          exact ⟨fun _ => ⟨fun z => by omega, fun _ => hpo⟩, fun z => by omega⟩
      refine ⟨2, ?_⟩
      show wb_Md_compareNames_1 (wp_Md_compareNames post 1) post (nI p) (nI q) (nI (e - f)) (nI (e1 - g)) (nI k) σ
      unfold wb_Md_compareNames_1
      rw [n_le (by omega) (by omega), n_le (by omega) (by omega)]
      exact ⟨fun _ => two, fun z => ⟨fun _ => two, fun z2 => by omega⟩⟩
    intro d
    induction d with
    | zero =>
      intro k hd hk1 hk2 hpo
      exact fin k hk1 hk2 (by omega) hpo
    | succ d ih =>
      intro k hd hk1 hk2 hpo
      by_cases c2 : g + k = e1
      · exact fin k hk1 hk2 (Or.inr c2) hpo
      · have t1 := tx (f + k) (by omega)
        have t2 := tx (g + k) (by omega)
        rw [show e - f - k = (e - f - (k + 1)) + 1 by omega, show e1 - g - k = (e1 - g - (k + 1)) + 1 by omega] at hpo
        have hs : cmpv (strn tS (e - f - (k + 1) + 1) (f + k)) (strn tS (e1 - g - (k + 1) + 1) (g + k)) = if tS (f + k) = tS (g + k) then cmpv (strn tS (e - f - (k + 1)) (f + k + 1)) (strn tS (e1 - g - (k + 1)) (g + k + 1)) else if tS (f + k) < tS (g + k) then -1 else 1 := by
          rw [strn, strn]
          unfold cmpv
          by_cases q : tS (f + k) = tS (g + k)
          · rw [if_pos q, slt, slt, if_pos q, if_pos q.symm]
          · have s1 : slt (tS (f + k) :: strn tS (e - f - (k + 1)) (f + k + 1)) (tS (g + k) :: strn tS (e1 - g - (k + 1)) (g + k + 1)) = decide (tS (f + k) < tS (g + k)) := by rw [slt, if_neg q]
            have s2 : slt (tS (g + k) :: strn tS (e1 - g - (k + 1)) (g + k + 1)) (tS (f + k) :: strn tS (e - f - (k + 1)) (f + k + 1)) = decide (tS (g + k) < tS (f + k)) := by rw [slt, if_neg (fun z => q z.symm)]
            rw [if_neg q, s1, s2]
            by_cases y : tS (f + k) < tS (g + k)
            · rw [if_pos y, decide_eq_true y, if_pos rfl]
            · rw [if_neg y, decide_eq_false y, decide_eq_true (by omega), if_neg (by decide), if_pos rfl]
        rw [hs] at hpo
        have go : ∀ n, (tS (f + k) = tS (g + k) → wp_Md_compareNames post n 1 (nI p) (nI q) (nI (e - f)) (nI (e1 - g)) (nI (k + 1)) σ) → (¬ tS (f + k) = tS (g + k) → post (if tS (f + k) < tS (g + k) then -1 else 1) σ) → wp_Md_compareNames post (n + 1) 1 (nI p) (nI q) (nI (e - f)) (nI (e1 - g)) (nI k) σ := by
          intro n y1 y2
          show wb_Md_compareNames_1 (wp_Md_compareNames post n) post (nI p) (nI q) (nI (e - f)) (nI (e1 - g)) (nI k) σ
          unfold wb_Md_compareNames_1
          rw [n_le (by omega) (by omega), n_le (by omega) (by omega), n_in (a := p) (by omega), n_cl (a := p) (by omega), n_in (a := q) (by omega), n_cl (a := q) (by omega), a1 p hp, a1 q hq, show (1 : Int32) = nI 1 from rfl, nI_add, nI_add, nI_add, nI_add, nI_add, ← hf, ← hg, n_in (a := f + k) (by omega), n_cl (a := f + k) (by omega), n_in (a := g + k) (by omega), n_cl (a := g + k) (by omega), t1.1, t2.1]
          refine ⟨fun z => by omega, fun _ => ⟨fun z => by omega, fun _ => ⟨by omega, by omega, by omega, by omega, fun z => y1 ((n_eq (by omega) (by omega)).mp z), fun z => ⟨fun y => ?_, fun y => ?_⟩⟩⟩⟩
          · have := y2 (fun w => z (by rw [w]))
            rw [if_neg (by rw [n_le (by omega) (by omega)] at y; omega)] at this
            exact this
          · have := y2 (fun w => z (by rw [w]))
            rw [if_pos (by rw [n_le (by omega) (by omega)] at y; omega)] at this
            exact this
        by_cases w : tS (f + k) = tS (g + k)
        · rw [if_pos w] at hpo
          obtain ⟨n, hn1⟩ := ih (k + 1) (by omega) (by omega) (by omega) hpo
          exact ⟨n + 1, go n (fun _ => hn1) (fun z => absurd w z)⟩
        · rw [if_neg w] at hpo
          exact ⟨1, go 0 (fun z => absurd z w) (fun _ => hpo)⟩
  obtain ⟨n, hn1⟩ := key _ 0 rfl (by omega) (by omega) hpo
  refine ⟨n + 1, ?_⟩
  show wb_Md_compareNames_0 (wp_Md_compareNames post n) post (nI p) (nI q) σ
  unfold wb_Md_compareNames_0
  have e5 : nI e - nI (nmo S p) - (1 : Int32) = nI (e - f) := by rw [pk_sub (by omega), show (1 : Int32) = nI 1 from rfl, pk_sub (by omega)]; congr 1; omega
  have e6 : nI e1 - nI (nmo S q) - (1 : Int32) = nI (e1 - g) := by rw [pk_sub (by omega), show (1 : Int32) = nI 1 from rfl, pk_sub (by omega)]; congr 1; omega
  rw [n_in (a := p) (by omega), n_cl (a := p) (by omega), n_in (a := q) (by omega), n_cl (a := q) (by omega), a1 p hp, a1 q hq, a2 p hp, a2 q hq, ← hf, ← hg, ← he, ← he1, e5, e6]
  exact ⟨by omega, by omega, by omega, by omega, hn1⟩
/-- the names that are offered -/
noncomputable def pw (tS : Nat → Nat) (lS : Nat) (S : TG) (p : Nat) : List Nat := sf tS lS (nmo S p + 1)
abbrev FM (tS : Nat → Nat) (lS : Nat) (S : TG) (σ : Sg) (P : List Nat) : Prop := (∀ j, j < P.length → σ.1 91 j = nI (P.getD j 0)) ∧ (∀ p ∈ P, Nd S p ∧ nmo S p < lS) ∧ (OkF tS lS (P.map (fun p => nmo S p + 1)))
theorem FM.r {tS : Nat → Nat} {lS : Nat} {S : TG} {σ : Sg} {P : List Nat} (hX : FM tS lS S σ P) : ∀ j, j < P.length → σ.1 91 j = nI (P.getD j 0) := hX.1
theorem FM.d {tS : Nat → Nat} {lS : Nat} {S : TG} {σ : Sg} {P : List Nat} (hX : FM tS lS S σ P) : ∀ p ∈ P, Nd S p ∧ nmo S p < lS := hX.2.1
theorem FM.o {tS : Nat → Nat} {lS : Nat} {S : TG} {σ : Sg} {P : List Nat} (hX : FM tS lS S σ P) : OkF tS lS (P.map (fun p => nmo S p + 1)) := hX.2.2
theorem isOff_m (M : MC tS lS S tD lD D L σ) {P : List Nat} (h : FM tS lS S σ P) {x : Nat} (hx : Nd S x) (hxl : nmo S x < lS) : Ri (wq_Md_isOffered (nI x) (nI P.length) σ) (nB (cB (∃ p ∈ P, pw tS lS S p = pw tS lS S x))) σ := by
  have hn := M.ns
  have hlS : lS ≤ 160 := M.p.s.t.2.2.2.1
  have hPl := (OkF_len hlS h.o).1
  rw [List.length_map] at hPl
  have n0 : narrow .boolean (.int (0 : Int32)) = .int (0 : Int32) := by decide +kernel
  have n1 : narrow .boolean (.int (1 : Int32)) = .int (1 : Int32) := by decide +kernel
  intro post hp
  have key : ∀ m k (a : Bool), k + m = P.length → (a = true ↔ ∃ p ∈ P.take k, pw tS lS S p = pw tS lS S x) → ∃ n, wp_Md_isOffered post n 1 (nI x) (nI P.length) (nB a) (nI k) σ := by
    intro m
    induction m with
    | zero =>
      intro k a hk ha
      have : k = P.length := by omega
      subst this
      rw [List.take_length] at ha
      have e : a = cB (∃ p ∈ P, pw tS lS S p = pw tS lS S x) := bool_e (by rw [cB_t]; exact ha)
      refine ⟨1, ?_⟩
      show wb_Md_isOffered_1 (wp_Md_isOffered post 0) post (nI x) (nI P.length) (nB a) (nI P.length) σ
      rw [← e] at hp
      refine ⟨fun _ => ⟨by cases a; exact n0; exact n1, hp⟩, fun z => absurd ((n_le (by omega) (by omega)).mpr (Nat.le_refl _)) z⟩
    | succ m ih =>
      intro k a hk ha
      have hkP : k < P.length := by omega
      obtain ⟨p, hp2⟩ : ∃ p, p = P.getD k 0 := ⟨_, rfl⟩
      have hpP : p ∈ P := by rw [hp2]; exact getD_m hkP
      have ht : P.take (k + 1) = P.take k ++ [p] := by rw [List.take_succ_eq_append_getElem hkP, hp2, List.getD_eq_getElem?_getD, List.getElem?_eq_getElem hkP]; rfl
      have hd := h.d p hpP
      have e1 : nI k + 1 = nI (k + 1) := by rw [show (1 : Int32) = nI 1 from rfl, nI_add]
      have nxt : ∀ b : Bool, (b = true ↔ a = true ∨ pw tS lS S p = pw tS lS S x) → ∃ n, wp_Md_isOffered post n 1 (nI x) (nI P.length) (nB b) (nI (k + 1)) σ := fun b hb => by
        refine ih (k + 1) b (by omega) ?_
        rw [hb, ha, ht]
        simp only [List.mem_append, List.mem_singleton]
        constructor
        · rintro (⟨u, z1, z2⟩ | z)
          · exact ⟨u, Or.inl z1, z2⟩
          · exact ⟨p, Or.inr rfl, z⟩
        · rintro ⟨u, z1 | z1, z2⟩
          · exact Or.inl ⟨u, z1, z2⟩
          · exact Or.inr (by rw [← z1]; exact z2)
      cases a with
      | true =>
        obtain ⟨n, hn1⟩ := nxt true (by simp)
        refine ⟨n + 1, ?_⟩
        show wb_Md_isOffered_1 (wp_Md_isOffered post n) post (nI x) (nI P.length) (nB true) (nI k) σ
        unfold wb_Md_isOffered_1
        rw [e1]
        exact ⟨fun z => absurd ((n_le (by omega) (by omega)).mp z) (by omega), fun _ => ⟨fun _ => hn1, fun z => absurd z (by decide +kernel)⟩⟩
      | false =>
        have hcm := cmp_m M hd.1 hx hd.2 hxl
        have pre : ∀ n, (pw tS lS S p = pw tS lS S x → wp_Md_isOffered post n 1 (nI x) (nI P.length) (nB true) (nI (k + 1)) σ) → (¬ pw tS lS S p = pw tS lS S x → wp_Md_isOffered post n 1 (nI x) (nI P.length) (nB false) (nI (k + 1)) σ) → wp_Md_isOffered post (n + 1) 1 (nI x) (nI P.length) (nB false) (nI k) σ := by
          intro n y1 y2
          show wb_Md_isOffered_1 (wp_Md_isOffered post n) post (nI x) (nI P.length) (nB false) (nI k) σ
          unfold wb_Md_isOffered_1
          rw [e1, n_in (by omega), n_cl (by omega), h.r k hkP, ← hp2]
          refine ⟨fun z => absurd ((n_le (by omega) (by omega)).mp z) (by omega), fun _ => ⟨fun z => absurd rfl z, fun _ => ⟨by omega, hcm _ ?_⟩⟩⟩
          exact ⟨fun z => y2 (fun y => z (cmpv_0.mpr y)), fun z => y1 (cmpv_0.mp z)⟩
        by_cases w : pw tS lS S p = pw tS lS S x
        · obtain ⟨n, hn1⟩ := nxt true ⟨fun _ => Or.inr w, fun _ => rfl⟩
          exact ⟨n + 1, pre n (fun _ => hn1) (fun z => absurd w z)⟩
        · obtain ⟨n, hn1⟩ := nxt false ⟨fun z => Or.inl z, fun z => z.elim id (fun z => absurd z w)⟩
          exact ⟨n + 1, pre n (fun z => absurd z w) (fun _ => hn1)⟩
  obtain ⟨n, hn1⟩ := key P.length 0 false (by omega) (by simp)
  exact ⟨n + 1, hn1⟩
def P91 (c _k : Nat) : Prop := c = 91
theorem MC_Fr {P : Nat → Nat → Prop} {σ' : Sg} (h : MC tS lS S tD lD D L σ) (f : Fr P σ σ') (hP : ∀ c k, P c k → (88 ≤ c ∧ c ≤ 91) ∨ (c = 54 ∧ k ≠ 18 ∧ k ≠ 28)) : MC tS lS S tD lD D L σ' :=
  MC_i h (fun c h1 h2 h3 h4 h5 => funext fun k => f.2 c k (fun q => by have := hP c k q; omega)) (fun k hk => f.2 54 k (fun q => by have := hP 54 k q; omega)) (by rw [f.1])
theorem offer_m (M : MC tS lS S tD lD D L σ) {P : List Nat} (h : FM tS lS S σ P) {x : Nat} (hx : Nd S x) (hxl : nmo S x < lS) (hq : tS (nmo S x) = 34) (hnew : ∀ p ∈ P, pw tS lS S p ≠ pw tS lS S x) :
    ∃ σ' P', Rv (wq_Md_offer (nI x) (nI P.length) σ) σ' ∧ Fr P91 σ σ' ∧ FM tS lS S σ' P' ∧ P'.length = P.length + 1 ∧ (∀ w, (∃ p ∈ P', w = pw tS lS S p) ↔ (∃ p ∈ P, w = pw tS lS S p) ∨ w = pw tS lS S x) := by
  have hn := M.ns
  have hlS : lS ≤ 160 := M.p.s.t.2.2.2.1
  have hPl := (OkF_len hlS h.o).1
  rw [List.length_map] at hPl
  -- where it belongs
  obtain ⟨A, B, hAB, hA, hB⟩ : ∃ A B, P = A ++ B ∧ (∀ a ∈ A, slt (pw tS lS S a) (pw tS lS S x) = true) ∧ (∀ b ∈ B, slt (pw tS lS S b) (pw tS lS S x) = false) := by
    have : ∀ P : List Nat, (P.map (fun p => nmo S p + 1)).Pairwise (fun a b => slt (sf tS lS a) (sf tS lS b) = true) → ∃ A B, P = A ++ B ∧ (∀ a ∈ A, slt (pw tS lS S a) (pw tS lS S x) = true) ∧ (∀ b ∈ B, slt (pw tS lS S b) (pw tS lS S x) = false) := by
      intro P
      induction P with
      | nil => intro _; exact ⟨[], [], rfl, fun a h => by simp at h, fun a h => by simp at h⟩
      | cons y P ih =>
        intro hp
        rw [List.map_cons] at hp
        have hy := List.pairwise_cons.mp hp
        by_cases e : slt (pw tS lS S y) (pw tS lS S x) = true
        · obtain ⟨A, B, h1, h2, h3⟩ := ih hy.2
          refine ⟨y :: A, B, by rw [h1]; rfl, fun a ha => ?_, h3⟩
          rcases List.mem_cons.mp ha with z | z
          · rw [z]; exact e
          · exact h2 a z
        · have e : slt (pw tS lS S y) (pw tS lS S x) = false := by simpa using e
          refine ⟨[], y :: P, rfl, fun a h => by simp at h, fun b hb => ?_⟩
          rcases List.mem_cons.mp hb with z | z
          · rw [z]; exact e
          · cases q : slt (pw tS lS S b) (pw tS lS S x) with
            | false => rfl
            | true => have := slt_t _ _ _ (hy.1 (nmo S b + 1) (List.mem_map.mpr ⟨b, z, rfl⟩)) q; exact absurd (this.symm.trans e) (by decide)
    exact this P h.o.s
  have hlen : P.length = A.length + B.length := by rw [hAB, List.length_append]
  have hB2 : ∀ b ∈ B, slt (pw tS lS S x) (pw tS lS S b) = true := fun b hb => by
    cases q : slt (pw tS lS S x) (pw tS lS S b) with
    | true => rfl
    | false => exact absurd (slt_3 _ _ (hB b hb) q) (hnew b (by rw [hAB]; exact List.mem_append.mpr (Or.inr hb)))
  have hok : OkF tS lS ((A ++ x :: B).map (fun p => nmo S p + 1)) := by
    rw [List.map_append, List.map_cons]
    refine OkF_ins (by rw [← List.map_append, ← hAB]; exact h.o) ⟨by omega, by omega, by rw [Nat.add_sub_cancel]; exact hq⟩ (fun a ha => ?_) (fun b hb => ?_) (fun b hb => ?_)
    · obtain ⟨y, hy, rfl⟩ := List.mem_map.mp ha; exact hA y hy
    · obtain ⟨y, hy, rfl⟩ := List.mem_map.mp hb; exact hB y hy
    · obtain ⟨y, hy, rfl⟩ := List.mem_map.mp hb; exact hnew y (by rw [hAB]; exact List.mem_append.mpr (Or.inr hy))
  have hl2 := (OkF_len hlS hok).1
  rw [List.length_map, List.length_append, List.length_cons] at hl2
  obtain ⟨R, hR⟩ : ∃ R : Sg → Prop, R = fun σ' => Fr P91 σ σ' ∧ FM tS lS S σ' (A ++ x :: B) := ⟨_, rfl⟩
  have mv : ∀ m (σ1 : Sg), A.length + m ≤ P.length → Fr P91 σ σ1 → (∀ j, j < A.length + m → σ1.1 91 j = nI (P.getD j 0)) → (∀ j, A.length + m < j → j ≤ P.length → σ1.1 91 j = nI (P.getD (j - 1) 0)) → Ex0 (fun post n => wp_Md_offer post n 1 (nI x) 0 (nI (A.length + m)) σ1) R := by
    intro m
    induction m with
    | zero =>
      intro σ1 hm fr lo up
      have M1 := MC_Fr M fr (fun c k q => by unfold P91 at q; omega)
      refine ⟨si σ1 91 A.length (nI x), ?_, fun post hp => ⟨1, ?_⟩⟩
      · rw [hR]
        refine ⟨Fr_si fr rfl, fun j hj => ?_, fun p hp => ?_, hok⟩
        · have hj : j < A.length + (B.length + 1) := by simpa using hj
          rw [si_1]
          by_cases e1 : j = A.length
          · subst e1; rw [if_pos ⟨rfl, rfl⟩]; simp
          · rw [if_neg (fun q => e1 q.2)]
            by_cases e2 : j < A.length
            · rw [lo j (by omega), hAB, getD_A e2, getD_A e2]
            · rw [up j (by omega) (by omega), hAB, getD_B (by omega), getD_B (by omega)]
              obtain ⟨k, rfl⟩ : ∃ k, j = A.length + k + 1 := ⟨j - A.length - 1, by omega⟩
              rw [show A.length + k + 1 - A.length = k + 1 by omega, show A.length + k + 1 - 1 - A.length = k by omega]; rfl
        · rcases List.mem_append.mp hp with z | z
          · exact h.d p (by rw [hAB]; exact List.mem_append.mpr (Or.inl z))
          · rcases List.mem_cons.mp z with y | y
            · rw [y]; exact ⟨hx, hxl⟩
            · exact h.d p (by rw [hAB]; exact List.mem_append.mpr (Or.inr y))
      · show wb_Md_offer_1 (wp_Md_offer post 0) post (nI x) (nI (A.length + 0)) σ1
        unfold wb_Md_offer_1
        rw [Nat.add_zero, n_in (a := A.length) (by omega), n_cl (a := A.length) (by omega)]
        refine ⟨fun _ => ⟨by omega, fun σ2 q => by rw [q]; exact hp⟩, fun z => ?_⟩
        have hA0 : 0 < A.length := by
          rcases Nat.eq_zero_or_pos A.length with q | q
          · rw [q] at z; exact absurd ((n_le (a := 0) (b := 0) (by omega) (by omega)).mpr (Nat.le_refl _)) z
          · exact q
        have e3 : nI A.length - 1 = nI (A.length - 1) := n_sub (a := A.length) (b := 1) (by omega)
        have hg : P.getD (A.length - 1) 0 ∈ A := by rw [hAB, getD_A (by omega)]; exact getD_m (by omega)
        have hgP : P.getD (A.length - 1) 0 ∈ P := getD_m (by omega)
        rw [e3, n_in (by omega), n_cl (by omega), lo _ (by omega)]
        refine ⟨by omega, cmp_m M1 (h.d _ hgP).1 hx (h.d _ hgP).2 hxl _ ⟨fun _ => ⟨by omega, fun σ2 q => by rw [q]; exact hp⟩, fun z => absurd (cmpv_le.mpr ?_) z⟩⟩
        have h1 := hA _ hg
        cases q : slt (sf tS lS (nmo S x + 1)) (sf tS lS (nmo S (P.getD (A.length - 1) 0) + 1)) with
        | false => rfl
        | true =>
          have this : slt (pw tS lS S (P.getD (A.length - 1) 0)) (pw tS lS S (P.getD (A.length - 1) 0)) = true := slt_t _ _ _ h1 q
          rw [slt_i] at this; cases this
    | succ m ih =>
      intro σ1 hm fr lo up
      have M1 := MC_Fr M fr (fun c k q => by unfold P91 at q; omega)
      have e3 : nI (A.length + (m + 1)) - nI 1 = nI (A.length + m) := by rw [n_sub (by omega)]; rfl
      have e4 : nI (A.length + (m + 1)) + (-1) = nI (A.length + m) := by rw [← e3, Int32.sub_eq_add_neg]; rfl
      refine Ex0_s (ih (si σ1 91 (A.length + (m + 1)) (nI (P.getD (A.length + m) 0))) (by omega) (Fr_si fr rfl) (fun j hj => by rw [si_1, if_neg (by omega)]; exact lo j (by omega)) (fun j hj hj2 => ?_)) (fun post n hn1 => ⟨n + 1, ?_⟩)
      · rw [si_1]
        by_cases e : j = A.length + (m + 1)
        · subst e; rw [if_pos ⟨rfl, rfl⟩]; congr 2
        · rw [if_neg (fun q => e q.2)]; exact up j (by omega) hj2
      · show wb_Md_offer_1 (wp_Md_offer post n) post (nI x) (nI (A.length + (m + 1))) σ1
        have hlo := lo (A.length + m) (by omega)
        have hg : P.getD (A.length + m) 0 ∈ B := by rw [hAB, getD_B (by omega)]; exact getD_m (by omega)
        have hgP : P.getD (A.length + m) 0 ∈ P := getD_m (by omega)
        unfold wb_Md_offer_1
        rw [e4, show (1 : Int32) = nI 1 from rfl, e3, n_in (a := A.length + m) (by omega), n_cl (a := A.length + m) (by omega), hlo, n_in (a := A.length + (m + 1)) (by omega), n_cl (a := A.length + (m + 1)) (by omega)]
        refine ⟨fun z => absurd ((n_le (b := 0) (by omega) (by omega)).mp z) (by omega), fun _ => ⟨by omega, cmp_m M1 (h.d _ hgP).1 hx (h.d _ hgP).2 hxl _ ⟨fun z => ?_, fun _ => ⟨by omega, by omega, fun σ2 q => by rw [q, hlo]; exact hn1⟩⟩⟩⟩
        have := cmpv_le.mp z
        have h2 := hB2 _ hg
        unfold pw at h2
        rw [this] at h2; cases h2
  obtain ⟨σ', q1, q2⟩ := mv B.length σ (by omega) Fr_r (fun j hj => h.r j (by omega)) (fun j h1 h2 => by omega)
  rw [hR] at q1
  refine ⟨σ', A ++ x :: B, fun post hp => ?_, q1.1, q1.2, by simp; omega, fun w => ?_⟩
  · obtain ⟨n, hn1⟩ := q2 post hp
    rw [← hlen] at hn1
    exact ⟨n + 1, hn1⟩
  · rw [hAB]
    simp only [List.mem_append, List.mem_cons]
    constructor
    · rintro ⟨g, z | z | z, e⟩
      · exact Or.inl ⟨g, Or.inl z, e⟩
      · exact Or.inr (by rw [e, z])
      · exact Or.inl ⟨g, Or.inr z, e⟩
    · rintro (⟨g, z | z, e⟩ | e)
      · exact ⟨g, Or.inl z, e⟩
      · exact ⟨g, Or.inr (Or.inr z), e⟩
      · exact ⟨x, Or.inr (Or.inl rfl), e⟩
end OF
