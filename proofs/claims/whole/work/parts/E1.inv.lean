section INV
variable {lS : Nat} {tS : Nat → Nat} {lD : Nat} {tD : Nat → Nat} {S D : TG} {Lc : List Nat} {T : List Nat} {W : List (List Nat)} {σ : Sg}
/-- the class between calls -/
abbrev KC (lS : Nat) (tS : Nat → Nat) (lD : Nat) (tD : Nat → Nat) (S D : TG) (Lc : List Nat) (σ : Sg) : Prop := (Tx 0 σ lS tS) ∧ (Tx 13 σ lD tD) ∧ (WB σ) ∧ (σ.1 12 1 = nI 0 ∨ (σ.1 12 1 = nI 1 ∧ CI 0 σ lS tS S op0 ∧ TR 0 lS tS S)) ∧ (σ.1 25 1 = nI 0 ∨ (σ.1 25 1 = nI 1 ∧ CI 13 σ lD tD D op0 ∧ TR 1 lD tD D)) ∧ (σ.1 29 1 = nI 0 ∨ (σ.1 29 1 = nI 1 ∧ σ.1 12 1 = nI 1 ∧ PF tS lS S σ Lc)) ∧ (σ.1 35 3 = nI 0 ∨ (σ.1 35 3 = nI 1 ∧ σ.1 12 1 = nI 1 ∧ σ.1 25 1 = nI 1 ∧ σ.1 29 1 = nI 1 ∧ allC S Lc = true ∧ VD tS lS S tD lD D σ))
theorem KC.a {lS : Nat} {tS : Nat → Nat} {lD : Nat} {tD : Nat → Nat} {S D : TG} {Lc : List Nat} {σ : Sg} (hX : KC lS tS lD tD S D Lc σ) : Tx 0 σ lS tS := hX.1
theorem KC.b {lS : Nat} {tS : Nat → Nat} {lD : Nat} {tD : Nat → Nat} {S D : TG} {Lc : List Nat} {σ : Sg} (hX : KC lS tS lD tD S D Lc σ) : Tx 13 σ lD tD := hX.2.1
theorem KC.w {lS : Nat} {tS : Nat → Nat} {lD : Nat} {tD : Nat → Nat} {S D : TG} {Lc : List Nat} {σ : Sg} (hX : KC lS tS lD tD S D Lc σ) : WB σ := hX.2.2.1
theorem KC.f0 {lS : Nat} {tS : Nat → Nat} {lD : Nat} {tD : Nat → Nat} {S D : TG} {Lc : List Nat} {σ : Sg} (hX : KC lS tS lD tD S D Lc σ) : σ.1 12 1 = nI 0 ∨ (σ.1 12 1 = nI 1 ∧ CI 0 σ lS tS S op0 ∧ TR 0 lS tS S) := hX.2.2.2.1
theorem KC.f1 {lS : Nat} {tS : Nat → Nat} {lD : Nat} {tD : Nat → Nat} {S D : TG} {Lc : List Nat} {σ : Sg} (hX : KC lS tS lD tD S D Lc σ) : σ.1 25 1 = nI 0 ∨ (σ.1 25 1 = nI 1 ∧ CI 13 σ lD tD D op0 ∧ TR 1 lD tD D) := hX.2.2.2.2.1
theorem KC.fp {lS : Nat} {tS : Nat → Nat} {lD : Nat} {tD : Nat → Nat} {S D : TG} {Lc : List Nat} {σ : Sg} (hX : KC lS tS lD tD S D Lc σ) : σ.1 29 1 = nI 0 ∨ (σ.1 29 1 = nI 1 ∧ σ.1 12 1 = nI 1 ∧ PF tS lS S σ Lc) := hX.2.2.2.2.2.1
theorem KC.fv {lS : Nat} {tS : Nat → Nat} {lD : Nat} {tD : Nat → Nat} {S D : TG} {Lc : List Nat} {σ : Sg} (hX : KC lS tS lD tD S D Lc σ) : σ.1 35 3 = nI 0 ∨ (σ.1 35 3 = nI 1 ∧ σ.1 12 1 = nI 1 ∧ σ.1 25 1 = nI 1 ∧ σ.1 29 1 = nI 1 ∧ allC S Lc = true ∧ VD tS lS S tD lD D σ) := hX.2.2.2.2.2.2
/-- what the class has told and proposed -/
abbrev KO (T : List Nat) (W : List (List Nat)) (σ : Sg) : Prop := (RW σ T) ∧ (PNa 45 0 47 46 σ W)
theorem KO.t {T : List Nat} {W : List (List Nat)} {σ : Sg} (hX : KO T W σ) : RW σ T := hX.1
theorem KO.n {T : List Nat} {W : List (List Nat)} {σ : Sg} (hX : KO T W σ) : PNa 45 0 47 46 σ W := hX.2
/-- the reference between calls -/
abbrev MO (lS : Nat) (tS : Nat → Nat) (lD : Nat) (tD : Nat → Nat) (T : List Nat) (W : List (List Nat)) (σ : Sg) : Prop := (TT 0 σ lS tS) ∧ (TT 1 σ lD tD) ∧ (σ.2.1 55 = mwords) ∧ (σ.1 54 40 = nI T.length) ∧ (∀ j, j < T.length → σ.1 88 j = nI (T.getD j 0)) ∧ (PNa 54 42 90 89 σ W)
theorem MO.a {lS : Nat} {tS : Nat → Nat} {lD : Nat} {tD : Nat → Nat} {T : List Nat} {W : List (List Nat)} {σ : Sg} (hX : MO lS tS lD tD T W σ) : TT 0 σ lS tS := hX.1
theorem MO.b {lS : Nat} {tS : Nat → Nat} {lD : Nat} {tD : Nat → Nat} {T : List Nat} {W : List (List Nat)} {σ : Sg} (hX : MO lS tS lD tD T W σ) : TT 1 σ lD tD := hX.2.1
theorem MO.w {lS : Nat} {tS : Nat → Nat} {lD : Nat} {tD : Nat → Nat} {T : List Nat} {W : List (List Nat)} {σ : Sg} (hX : MO lS tS lD tD T W σ) : σ.2.1 55 = mwords := hX.2.2.1
theorem MO.t {lS : Nat} {tS : Nat → Nat} {lD : Nat} {tD : Nat → Nat} {T : List Nat} {W : List (List Nat)} {σ : Sg} (hX : MO lS tS lD tD T W σ) : σ.1 54 40 = nI T.length := hX.2.2.2.1
theorem MO.r {lS : Nat} {tS : Nat → Nat} {lD : Nat} {tD : Nat → Nat} {T : List Nat} {W : List (List Nat)} {σ : Sg} (hX : MO lS tS lD tD T W σ) : ∀ j, j < T.length → σ.1 88 j = nI (T.getD j 0) := hX.2.2.2.2.1
theorem MO.n {lS : Nat} {tS : Nat → Nat} {lD : Nat} {tD : Nat → Nat} {T : List Nat} {W : List (List Nat)} {σ : Sg} (hX : MO lS tS lD tD T W σ) : PNa 54 42 90 89 σ W := hX.2.2.2.2.2
/-- bounds -/
abbrev BO (T : List Nat) (W : List (List Nat)) : Prop := (T.length < 1300) ∧ (∀ e ∈ T, ∃ c v i, e = c + 32 * (v + 256 * i) ∧ c < 32 ∧ v < 160 ∧ i < 80) ∧ (W.length ≤ 80) ∧ (off W W.length ≤ 160) ∧ (∀ w ∈ W, ∀ c ∈ w, c < 65536)
theorem BO.t {T : List Nat} {W : List (List Nat)} (hX : BO T W) : T.length < 1300 := hX.1
theorem BO.e {T : List Nat} {W : List (List Nat)} (hX : BO T W) : ∀ e ∈ T, ∃ c v i, e = c + 32 * (v + 256 * i) ∧ c < 32 ∧ v < 160 ∧ i < 80 := hX.2.1
theorem BO.w {T : List Nat} {W : List (List Nat)} (hX : BO T W) : W.length ≤ 80 := hX.2.2.1
theorem BO.o {T : List Nat} {W : List (List Nat)} (hX : BO T W) : off W W.length ≤ 160 := hX.2.2.2.1
theorem BO.l {T : List Nat} {W : List (List Nat)} (hX : BO T W) : ∀ w ∈ W, ∀ c ∈ w, c < 65536 := hX.2.2.2.2
def J (σ : Sg) : Prop := ∃ lS tS lD tD S D Lc T W, KC lS tS lD tD S D Lc σ ∧ KO T W σ ∧ MO lS tS lD tD T W σ ∧ BO T W
theorem i01 : ¬ (nI 0 = nI 1) := by decide +kernel
theorem i10 : ¬ (nI 1 = nI 0) := by decide +kernel
theorem PF_e {tx : Nat → Nat} {len : Nat} {G : TG} {L : List Nat} {σ' : Sg} (h : PF tx len G σ L) (e : ∀ c, 29 ≤ c → c ≤ 34 → σ'.1 c = σ.1 c) : PF tx len G σ' L :=
  ⟨⟨by rw [e 30 (by omega) (by omega)]; exact h.c.w, by rw [e 31 (by omega) (by omega)]; exact h.c.t, by rw [e 32 (by omega) (by omega)]; exact h.c.p⟩, by rw [e 29 (by omega) (by omega)]; exact h.n, by rw [e 33 (by omega) (by omega)]; exact h.o, h.l, h.m, by rw [e 29 (by omega) (by omega)]; exact h.b⟩
theorem VD_e {σ' : Sg} (h : VD tS lS S tD lD D σ) (e : ∀ c, c = 37 ∨ c = 39 → σ'.2.1 c = σ.2.1 c) : VD tS lS S tD lD D σ' :=
  ⟨fun s i hs hi => by rw [← h.h s i hs hi]; unfold hCf; rw [hb_o (σ' := σ') (σ := σ) (b := 36) (fun k => by rw [e 37 (by omega)])], fun s i c hs h6 hi k6 hc => by rw [← h.e s i c hs h6 hi k6 hc]; exact hb_o (fun k => by rw [e 39 (by omega)])⟩
theorem Tx_e {b len : Nat} {tx : Nat → Nat} {σ' : Sg} (h : Tx b σ len tx) (e1 : σ'.1 (b + 10) = σ.1 (b + 10)) (e2 : σ'.1 (b + 11) = σ.1 (b + 11)) : Tx b σ' len tx := ⟨by rw [e1]; exact h.1, h.2.1, by rw [e2]; exact h.2.2⟩
theorem KC_f {σ' : Sg} (h : KC lS tS lD tD S D Lc σ) (e : ∀ c, c ≤ 35 → σ'.1 c = σ.1 c) (e2 : ∀ c, c = 37 ∨ c = 39 → σ'.2.1 c = σ.2.1 c) : KC lS tS lD tD S D Lc σ' := by
  obtain ⟨a, b, w, f0, f1, fp, fv⟩ := h
  refine ⟨Tx_e a (e _ (by omega)) (e _ (by omega)), Tx_e b (e _ (by omega)) (e _ (by omega)), ⟨by rw [e 27 (by omega)]; exact w.1, by rw [e 28 (by omega)]; exact w.2⟩, ?_, ?_, ?_, ?_⟩
  · rw [e 12 (by omega)]; exact f0.imp_right (fun h => ⟨h.1, CI_cg h.2.1 (fun c hc => e c (by omega)), h.2.2⟩)
  · rw [e 25 (by omega)]; exact f1.imp_right (fun h => ⟨h.1, CI_cg h.2.1 (fun c hc => e c (by omega)), h.2.2⟩)
  · rw [e 29 (by omega), e 12 (by omega)]; exact fp.imp_right (fun h => ⟨h.1, h.2.1, PF_e h.2.2 (fun c h1 h2 => e c (by omega))⟩)
  · rw [e 35 (by omega), e 29 (by omega), e 12 (by omega), e 25 (by omega)]; exact fv.imp_right (fun h => ⟨h.1, h.2.1, h.2.2.1, h.2.2.2.1, h.2.2.2.2.1, VD_e h.2.2.2.2.2 e2⟩)
theorem PNa_e {a k s l : Nat} {σ' : Sg} (h : PNa a k s l σ W) (e1 : σ'.1 a k = σ.1 a k) (e2 : σ'.1 s = σ.1 s) (e3 : σ'.1 l = σ.1 l) : PNa a k s l σ' W := ⟨by rw [e1]; exact h.n, by rw [e2]; exact h.s, by rw [e3]; exact h.l⟩
theorem KO_f {σ' : Sg} (h : KO T W σ) (e1 : ∀ c, 40 ≤ c → c ≤ 52 → c ≠ 41 → c ≠ 43 → c ≠ 49 → (∀ k, (c = 45 → k = 0) → σ'.1 c k = σ.1 c k)) (e3 : σ'.2.2.2 = σ.2.2.2) : KO T W σ' :=
  ⟨⟨by rw [e1 40 (by omega) (by omega) (by omega) (by omega) (by omega) 0 (by omega)]; exact h.t.n, fun j hj => by rw [e1 52 (by omega) (by omega) (by omega) (by omega) (by omega) j (by omega)]; exact h.t.r j hj, by rw [e3]; exact h.t.l, by rw [e3]; exact h.t.p⟩, PNa_e h.n (e1 45 (by omega) (by omega) (by omega) (by omega) (by omega) 0 (by omega)) (funext fun k => e1 47 (by omega) (by omega) (by omega) (by omega) (by omega) k (by omega)) (funext fun k => e1 46 (by omega) (by omega) (by omega) (by omega) (by omega) k (by omega))⟩
theorem TT_e {t len : Nat} {tx : Nat → Nat} {σ' : Sg} (h : TT t σ len tx) (e1 : σ'.1 56 = σ.1 56) (e2 : σ'.1 57 = σ.1 57) : TT t σ' len tx := ⟨⟨h.1.1, h.1.2.1, h.1.2.2.1, by rw [e1]; exact h.1.2.2.2⟩, by rw [e2]; exact h.2⟩
theorem MO_f {σ' : Sg} (h : MO lS tS lD tD T W σ) (e : ∀ c, c = 56 ∨ c = 57 ∨ c = 88 ∨ c = 89 ∨ c = 90 → σ'.1 c = σ.1 c) (e4 : ∀ k, k = 40 ∨ k = 42 → σ'.1 54 k = σ.1 54 k) (e5 : σ'.2.1 55 = σ.2.1 55) : MO lS tS lD tD T W σ' :=
  ⟨TT_e h.a (e 56 (by omega)) (e 57 (by omega)), TT_e h.b (e 56 (by omega)) (e 57 (by omega)), by rw [e5]; exact h.w, by rw [e4 40 (by omega)]; exact h.t, by rw [e 88 (by omega)]; exact h.r, PNa_e h.n (e4 42 (by omega)) (e 90 (by omega)) (e 89 (by omega))⟩
/-- a tree that the class has, or would read -/
theorem tree0 (h : KC lS tS lD tD S D Lc σ) : ∃ S', TR 0 lS tS S' ∧ (σ.1 12 1 = nI 1 → S' = S) := by
  rcases h.f0 with z | z
  · obtain ⟨σ', G, _, _, _, q⟩ := refresh (Or.inl ⟨rfl, rfl⟩) h.a h.w z
    exact ⟨G, q, fun y => absurd (z.symm.trans y) i01⟩
  · exact ⟨S, z.2.2, fun _ => rfl⟩
theorem tree1 (h : KC lS tS lD tD S D Lc σ) : ∃ D', TR 1 lD tD D' ∧ (σ.1 25 1 = nI 1 → D' = D) := by
  rcases h.f1 with z | z
  · obtain ⟨σ', G, _, _, _, q⟩ := refresh (Or.inr ⟨rfl, rfl⟩) h.b h.w z
    exact ⟨G, q, fun y => absurd (z.symm.trans y) i01⟩
  · exact ⟨D, z.2.2, fun _ => rfl⟩
def Q0 (c k : Nat) : Prop := c ≤ 9 ∨ (c = 12 ∧ (k = 1 ∨ k = 4))
def Q1 (c k : Nat) : Prop := (13 ≤ c ∧ c ≤ 22) ∨ (c = 25 ∧ (k = 1 ∨ k = 4))
theorem read0 (h : KC lS tS lD tD S D Lc σ) : ∃ σ' S', Rv (wq_Rd_refresh 0 σ) σ' ∧ KC lS tS lD tD S' D Lc σ' ∧ σ'.1 12 1 = nI 1 ∧ CI 0 σ' lS tS S' op0 ∧ TR 0 lS tS S' ∧ Fr Q0 σ σ' := by
  rcases h.f0 with z | z
  · obtain ⟨σ', G, q1, q2, q3, q4⟩ := refresh (Or.inl ⟨rfl, rfl⟩) h.a h.w z
    have f : Fr Q0 σ σ' := ⟨q3.1, fun c k hn => by rw [q3.2 c k (fun y => hn (by unfold Pc at y; unfold Q0; omega)), si_1, if_neg (fun y => hn (by unfold Q0; omega))]⟩
    have e12 : σ'.1 12 1 = nI 1 := by rw [q3.2 12 1 (by unfold Pc; omega), si_1, if_pos ⟨rfl, rfl⟩]
    have ec : ∀ c, 9 < c → c ≠ 12 → σ'.1 c = σ.1 c := fun c h1 h2 => funext fun k => f.2 c k (by unfold Q0; omega)
    refine ⟨σ', G, q1, ⟨Tx_e h.a (ec _ (by omega) (by omega)) (ec _ (by omega) (by omega)), Tx_e h.b (ec _ (by omega) (by omega)) (ec _ (by omega) (by omega)), ⟨by rw [ec 27 (by omega) (by omega)]; exact h.w.1, by rw [ec 28 (by omega) (by omega)]; exact h.w.2⟩, Or.inr ⟨e12, q2, q4⟩, ?_, ?_, ?_⟩, e12, q2, q4, f⟩
    · rw [ec 25 (by omega) (by omega)]; exact h.f1.imp_right (fun y => ⟨y.1, CI_cg y.2.1 (fun c hc => ec c (by omega) (by omega)), y.2.2⟩)
    · rw [ec 29 (by omega) (by omega)]
      rcases h.fp with y | y
      · exact Or.inl y
      · exact absurd (z.symm.trans y.2.1) i01
    · rw [ec 35 (by omega) (by omega)]
      rcases h.fv with y | y
      · exact Or.inl y
      · exact absurd (z.symm.trans y.2.1) i01
  · exact ⟨σ, S, refresh_f z.1, h, z.1, z.2.1, z.2.2, Fr_r⟩
theorem read1 (h : KC lS tS lD tD S D Lc σ) : ∃ σ' D', Rv (wq_Rd_refresh 13 σ) σ' ∧ KC lS tS lD tD S D' Lc σ' ∧ σ'.1 25 1 = nI 1 ∧ CI 13 σ' lD tD D' op0 ∧ TR 1 lD tD D' ∧ Fr Q1 σ σ' := by
  rcases h.f1 with z | z
  · obtain ⟨σ', G, q1, q2, q3, q4⟩ := refresh (Or.inr ⟨rfl, rfl⟩) h.b h.w z
    have f : Fr Q1 σ σ' := ⟨q3.1, fun c k hn => by rw [q3.2 c k (fun y => hn (by unfold Pc at y; unfold Q1; omega)), si_1, if_neg (fun y => hn (by unfold Q1; omega))]⟩
    have e12 : σ'.1 25 1 = nI 1 := by rw [q3.2 25 1 (by unfold Pc; omega), si_1, if_pos ⟨rfl, rfl⟩]
    have ec : ∀ c, (c < 13 ∨ 22 < c) → c ≠ 25 → σ'.1 c = σ.1 c := fun c h1 h2 => funext fun k => f.2 c k (by unfold Q1; omega)
    refine ⟨σ', G, q1, ⟨Tx_e h.a (ec _ (by omega) (by omega)) (ec _ (by omega) (by omega)), Tx_e h.b (ec _ (by omega) (by omega)) (ec _ (by omega) (by omega)), ⟨by rw [ec 27 (by omega) (by omega)]; exact h.w.1, by rw [ec 28 (by omega) (by omega)]; exact h.w.2⟩, ?_, Or.inr ⟨e12, q2, q4⟩, ?_, ?_⟩, e12, q2, q4, f⟩
    · rw [ec 12 (by omega) (by omega)]; exact h.f0.imp_right (fun y => ⟨y.1, CI_cg y.2.1 (fun c hc => ec c (by omega) (by omega)), y.2.2⟩)
    · rw [ec 29 (by omega) (by omega), ec 12 (by omega) (by omega)]
      exact h.fp.imp_right (fun y => ⟨y.1, y.2.1, PF_e y.2.2 (fun c h1 h2 => ec c (by omega) (by omega))⟩)
    · rw [ec 35 (by omega) (by omega)]
      rcases h.fv with y | y
      · exact Or.inl y
      · exact absurd (z.symm.trans y.2.2.1) i01
  · exact ⟨σ, D, refresh_f z.1, h, z.1, z.2.1, z.2.2, Fr_r⟩
theorem TR_n {t len : Nat} {tx : Nat → Nat} {G : TG} (h : TR t len tx G) : G.N ≤ len := h.n
theorem planK (h : KC lS tS lD tD S D Lc σ) (h12 : σ.1 12 1 = nI 1) : ∃ σ' L', Rv (wq_Pl_refresh σ) σ' ∧ KC lS tS lD tD S D L' σ' ∧ σ'.1 29 1 = nI 1 ∧ PF tS lS S σ' L' ∧ Fr Pp σ σ' := by
  have hS : CI 0 σ lS tS S op0 ∧ TR 0 lS tS S := by
    rcases h.f0 with z | z
    · exact absurd (z.symm.trans h12) i01
    · exact z.2
  have hl : lS ≤ 160 := by have := h.a.2.1; have := tl_le 0; omega
  rcases h.fp with z | z
  · obtain ⟨σ', L, q1, q2, q3, q4⟩ := plan_r hS.1 hS.2.w (by have := hS.2.n; omega) z
    have ec : ∀ c, (c < 29 ∨ 34 < c) → σ'.1 c = σ.1 c := fun c h1 => funext fun k => q2.2 c k (by unfold Pp; omega)
    refine ⟨σ', L, q1, ⟨Tx_e h.a (ec _ (by omega)) (ec _ (by omega)), Tx_e h.b (ec _ (by omega)) (ec _ (by omega)), ⟨by rw [ec 27 (by omega)]; exact h.w.1, by rw [ec 28 (by omega)]; exact h.w.2⟩, ?_, ?_, Or.inr ⟨q3, by rw [ec 12 (by omega)]; exact h12, q4⟩, ?_⟩, q3, q4, q2⟩
    · rw [ec 12 (by omega)]; exact h.f0.imp_right (fun y => ⟨y.1, CI_cg y.2.1 (fun c hc => ec c (by omega)), y.2.2⟩)
    · rw [ec 25 (by omega)]; exact h.f1.imp_right (fun y => ⟨y.1, CI_cg y.2.1 (fun c hc => ec c (by omega)), y.2.2⟩)
    · rw [ec 35 (by omega)]
      rcases h.fv with y | y
      · exact Or.inl y
      · exact absurd (z.symm.trans y.2.2.2.1) i01
  · exact ⟨σ, Lc, plan_f z.1, h, z.1, z.2.2, Fr_r⟩
theorem full_l {tx : Nat → Nat} {len : Nat} {G : TG} {L : List Nat} (hm : OLm tx len G L) (e : L.length = G.N) : ∀ s, s < G.N → s ∈ L := by
  intro s hs
  refine Classical.byContradiction (fun hn => ?_)
  have hsub : (s :: L) ⊆ List.range G.N := fun c hc => by
    rcases List.mem_cons.mp hc with e | e
    · subst e; exact List.mem_range.mpr hs
    · exact List.mem_range.mpr (hm.lt c e).1
  have := List.Nodup.length_le_of_subset (List.nodup_cons.mpr ⟨hn, hm.nd⟩) hsub
  simp at this; omega
/-- the reference's order, wherever its texts stand -/
theorem orderM {σm : Sg} (m : MO lS tS lD tD T W σm) (hS : TR 0 lS tS S) (hD : TR 1 lD tD D) (hc : OLc tS lS S Lc) (mc : Mxc tS lS S Lc) (hall : allC S Lc = true) : ∃ L, OLm tS lS S L ∧ ∀ s, s < S.N → s ∈ L := by
  obtain ⟨σ', L, q1, q2, q3, q4⟩ := prepared_r m.a m.b m.w hS hD
  have hg := good_iff hS.w hc mc q3.l q3.m
  rw [hall] at hg
  exact ⟨L, q3.l, full_l q3.l (of_decide_eq_true hg.symm)⟩
theorem verdK {σm : Sg} (h : KC lS tS lD tD S D Lc σ) (m : MO lS tS lD tD T W σm) (h12 : σ.1 12 1 = nI 1) (h25 : σ.1 25 1 = nI 1) (h29 : σ.1 29 1 = nI 1) (hc : allC S Lc = true) :
    ∃ σ', Rv (wq_Vd_refresh σ) σ' ∧ KC lS tS lD tD S D Lc σ' ∧ CR tS lS S tD lD D σ' ∧ PF tS lS S σ' Lc ∧ (∀ c k, ¬ (c = 35 ∧ k = 3) → σ'.1 c k = σ.1 c k) ∧ (∀ c k, c ≠ 37 → c ≠ 39 → σ'.2.1 c k = σ.2.1 c k) ∧ σ'.2.2 = σ.2.2 := by
  have hS : CI 0 σ lS tS S op0 ∧ TR 0 lS tS S := by
    rcases h.f0 with z | z
    · exact absurd (z.symm.trans h12) i01
    · exact z.2
  have hD : CI 13 σ lD tD D op0 ∧ TR 1 lD tD D := by
    rcases h.f1 with z | z
    · exact absurd (z.symm.trans h25) i01
    · exact z.2
  have hP : PF tS lS S σ Lc := by
    rcases h.fp with z | z
    · exact absurd (z.symm.trans h29) i01
    · exact z.2.2
  have hl : lS ≤ 160 := h.a.2.1
  have hl2 : lD ≤ 80 := h.b.2.1
  have C : CV tS lS S tD lD D σ := ⟨⟨hS.1, hD.1, hS.2.w, hD.2.w, by have := hS.2.n; omega, by have := hD.2.n; omega⟩, hP.c⟩
  rcases h.fv with z | z
  · obtain ⟨L, o1, o2⟩ := orderM m hS.2 hD.2 hP.l hP.m hc
    obtain ⟨σ', q1, q2, q3, q4, q5⟩ := verdict_r C o1 o2 hP hc z
    have e1 : ∀ c k, ¬ (c = 35 ∧ k = 3) → σ'.1 c k = σ.1 c k := fun c k hn => by rw [q2, si_1, if_neg hn]
    have ec : ∀ c, c ≠ 35 → σ'.1 c = σ.1 c := fun c hn => funext fun k => e1 c k (fun y => hn y.1)
    have e35 : σ'.1 35 3 = nI 1 := by rw [q2, si_1, if_pos ⟨rfl, rfl⟩]
    refine ⟨σ', q1, ⟨Tx_e h.a (ec _ (by omega)) (ec _ (by omega)), Tx_e h.b (ec _ (by omega)) (ec _ (by omega)), ⟨by rw [ec 27 (by omega)]; exact h.w.1, by rw [ec 28 (by omega)]; exact h.w.2⟩, ?_, ?_, ?_, Or.inr ⟨e35, by rw [ec 12 (by omega)]; exact h12, by rw [ec 25 (by omega)]; exact h25, by rw [ec 29 (by omega)]; exact h29, hc, q5⟩⟩, ⟨⟨⟨CI_cg hS.1 (fun c hc => ec c (by omega)), CI_cg hD.1 (fun c hc => ec c (by omega)), C.c.ws, C.c.wd, C.c.ns, C.c.nd⟩, (PF_e hP (fun c h1 h2 => ec c (by omega))).c⟩, q5⟩, PF_e hP (fun c h1 h2 => ec c (by omega)), e1, fun c k h1 h2 => q4 c k h1 h2, q3⟩
    · rw [ec 12 (by omega)]; exact h.f0.imp_right (fun y => ⟨y.1, CI_cg y.2.1 (fun c hc => ec c (by omega)), y.2.2⟩)
    · rw [ec 25 (by omega)]; exact h.f1.imp_right (fun y => ⟨y.1, CI_cg y.2.1 (fun c hc => ec c (by omega)), y.2.2⟩)
    · rw [ec 29 (by omega), ec 12 (by omega)]; exact h.fp.imp_right (fun y => ⟨y.1, y.2.1, PF_e y.2.2 (fun c h1 h2 => ec c (by omega))⟩)
  · exact ⟨σ, verdict_f z.1, h, ⟨C, z.2.2.2.2.2⟩, hP, fun _ _ _ => rfl, fun _ _ _ _ => rfl, rfl⟩
end INV
