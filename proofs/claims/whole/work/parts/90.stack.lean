theorem WG_gF {len v : Nat} {G : TG} (h : WG len G) : WG len (gF G v) := ⟨h.kd, h.fr, h.ch, h.so, h.up, h.nl, h.nm, h.n0, h.lv⟩
theorem WG_gC {len k e : Nat} {G : TG} (h : WG len G) : WG len (gC G k e) := ⟨h.kd, h.fr, h.ch, h.so, h.up, h.nl, h.nm, h.n0, h.lv⟩
/-- where a new node may stand -/
def PR (len : Nat) (G : TG) : Option Nat → Option Nat → Prop
  | none, nm => nm = none ∧ G.N = 0
  | some p, nm => p < G.N ∧ ((G.kd p = 6 ∧ ∃ n, nm = some n ∧ n < len) ∨ (G.kd p = 5 ∧ nm = none))
theorem WG_gN {len kd fr en : Nat} {G : TG} {pr nm : Option Nat} {nu : Int32} (h : WG len G) (hk : kd ≤ 6) (hf : fr < len) (hp : PR len G pr nm) (hl : lvO G pr ≤ 8) (hl5 : 5 ≤ kd → lvO G pr < 8) : WG len (gN G kd fr en pr nm nu) := by
  have hlt : ∀ k, k < G.N → k ≠ G.N := fun k h => by omega
  refine ⟨?_, ?_, ?_, ?_, ?_, ?_, ?_, ?_, ?_⟩
  · intro k hk2; have hk2 : k < G.N + 1 := hk2
    by_cases e : k = G.N
    · simp [gN, e, mkT_N, mkT_F, mkT_fl, mkT_kd, mkT_fr, mkT_en, mkT_pr, mkT_nm, mkT_nu, mkT_K, mkT_lv]; exact hk
    · simp [gN, e, mkT_N, mkT_F, mkT_fl, mkT_kd, mkT_fr, mkT_en, mkT_pr, mkT_nm, mkT_nu, mkT_K, mkT_lv]; exact h.kd k (by omega)
  · intro k hk2; have hk2 : k < G.N + 1 := hk2
    by_cases e : k = G.N
    · simp [gN, e, mkT_N, mkT_F, mkT_fl, mkT_kd, mkT_fr, mkT_en, mkT_pr, mkT_nm, mkT_nu, mkT_K, mkT_lv]; exact hf
    · simp [gN, e, mkT_N, mkT_F, mkT_fl, mkT_kd, mkT_fr, mkT_en, mkT_pr, mkT_nm, mkT_nu, mkT_K, mkT_lv]; exact h.fr k (by omega)
  · intro k hk2 c hc; have hk2 : k < G.N + 1 := hk2
    by_cases e : k = G.N
    · simp [gN, e, mkT_N, mkT_F, mkT_fl, mkT_kd, mkT_fr, mkT_en, mkT_pr, mkT_nm, mkT_nu, mkT_K, mkT_lv] at hc
    · simp [gN, e, mkT_N, mkT_F, mkT_fl, mkT_kd, mkT_fr, mkT_en, mkT_pr, mkT_nm, mkT_nu, mkT_K, mkT_lv] at hc
      by_cases e2 : pr = some k
      · simp [e2] at hc
        rcases hc with hc | hc
        · have := h.ch k (by omega) c hc
          simp [gN, e, hlt c this.2.1, this, mkT_N, mkT_F, mkT_fl, mkT_kd, mkT_fr, mkT_en, mkT_pr, mkT_nm, mkT_nu, mkT_K, mkT_lv]; omega
        · subst hc; simp [gN, e, e2, lvO, mkT_N, mkT_F, mkT_fl, mkT_kd, mkT_fr, mkT_en, mkT_pr, mkT_nm, mkT_nu, mkT_K, mkT_lv]; omega
      · simp [e2] at hc
        have := h.ch k (by omega) c hc
        simp [gN, e, hlt c this.2.1, this, mkT_N, mkT_F, mkT_fl, mkT_kd, mkT_fr, mkT_en, mkT_pr, mkT_nm, mkT_nu, mkT_K, mkT_lv]; omega
  · intro k hk2; have hk2 : k < G.N + 1 := hk2
    by_cases e : k = G.N
    · simp [gN, e, mkT_N, mkT_F, mkT_fl, mkT_kd, mkT_fr, mkT_en, mkT_pr, mkT_nm, mkT_nu, mkT_K, mkT_lv]
    · simp [gN, e, mkT_N, mkT_F, mkT_fl, mkT_kd, mkT_fr, mkT_en, mkT_pr, mkT_nm, mkT_nu, mkT_K, mkT_lv]
      have h0 := h.so k (by omega)
      by_cases e2 : pr = some k
      · simp only [e2, if_true]
        refine List.pairwise_append.mpr ⟨h0, by simp, fun c hc y hy => ?_⟩
        simp at hy
        have := (h.ch k (by omega) c hc).2.1; omega
      · simp only [e2, if_false]; exact h0
  · intro k hk2; have hk2 : k < G.N + 1 := hk2
    by_cases e : k = G.N
    · cases pr with
      | none => left; exact ⟨by rw [e]; exact hp.2, by simp [gN, e, mkT_N, mkT_F, mkT_fl, mkT_kd, mkT_fr, mkT_en, mkT_pr, mkT_nm, mkT_nu, mkT_K, mkT_lv]⟩
      | some p =>
        right; have := hp.1
        exact ⟨p, by simp [gN, e, mkT_N, mkT_F, mkT_fl, mkT_kd, mkT_fr, mkT_en, mkT_pr, mkT_nm, mkT_nu, mkT_K, mkT_lv], by omega, by simp [gN, e, show ¬ p = G.N by omega, mkT_N, mkT_F, mkT_fl, mkT_kd, mkT_fr, mkT_en, mkT_pr, mkT_nm, mkT_nu, mkT_K, mkT_lv]⟩
    · rcases h.up k (by omega) with q | ⟨p, q1, q2, q3⟩
      · left; simp [gN, e, mkT_N, mkT_F, mkT_fl, mkT_kd, mkT_fr, mkT_en, mkT_pr, mkT_nm, mkT_nu, mkT_K, mkT_lv]; exact q
      · right; refine ⟨p, by simp [gN, e, mkT_N, mkT_F, mkT_fl, mkT_kd, mkT_fr, mkT_en, mkT_pr, mkT_nm, mkT_nu, mkT_K, mkT_lv]; exact q1, q2, ?_⟩
        simp [gN, show ¬ p = G.N by omega, mkT_N, mkT_F, mkT_fl, mkT_kd, mkT_fr, mkT_en, mkT_pr, mkT_nm, mkT_nu, mkT_K, mkT_lv]
        split
        · exact List.mem_append.mpr (Or.inl q3)
        · exact q3
  · intro k hk2 h5; have hk2 : k < G.N + 1 := hk2
    by_cases e : k = G.N
    · simp [gN, e, mkT_N, mkT_F, mkT_fl, mkT_kd, mkT_fr, mkT_en, mkT_pr, mkT_nm, mkT_nu, mkT_K, mkT_lv]
    · simp [gN, e, mkT_N, mkT_F, mkT_fl, mkT_kd, mkT_fr, mkT_en, mkT_pr, mkT_nm, mkT_nu, mkT_K, mkT_lv] at h5 ⊢
      rw [if_neg (fun q => by subst q; have := hp.2; omega)]
      exact h.nl k (by omega) h5
  · intro k hk2 p hpr; have hk2 : k < G.N + 1 := hk2
    by_cases e : k = G.N
    · simp [gN, e, mkT_N, mkT_F, mkT_fl, mkT_kd, mkT_fr, mkT_en, mkT_pr, mkT_nm, mkT_nu, mkT_K, mkT_lv] at hpr ⊢
      subst hpr
      have h1 := hp.1
      simp only [show ¬ p = G.N by omega, if_false]
      rcases hp.2 with ⟨q1, n, q2, q3⟩ | ⟨q1, q2⟩
      · exact ⟨fun _ => ⟨n, q2, q3⟩, fun h => by omega⟩
      · exact ⟨fun h => by omega, fun _ => q2⟩
    · simp [gN, e, mkT_N, mkT_F, mkT_fl, mkT_kd, mkT_fr, mkT_en, mkT_pr, mkT_nm, mkT_nu, mkT_K, mkT_lv] at hpr ⊢
      rcases h.up k (by omega) with q | ⟨p', q1, q2, q3⟩
      · rw [q.2] at hpr; cases hpr
      · rw [q1] at hpr; injection hpr with hpr; subst hpr
        simp only [show ¬ p' = G.N by omega, if_false]
        exact h.nm k (by omega) p' q1
  · intro k hk2 hpr; have hk2 : k < G.N + 1 := hk2
    by_cases e : k = G.N
    · simp [gN, e, mkT_N, mkT_F, mkT_fl, mkT_kd, mkT_fr, mkT_en, mkT_pr, mkT_nm, mkT_nu, mkT_K, mkT_lv] at hpr ⊢; subst hpr; exact hp.1
    · simp [gN, e, mkT_N, mkT_F, mkT_fl, mkT_kd, mkT_fr, mkT_en, mkT_pr, mkT_nm, mkT_nu, mkT_K, mkT_lv] at hpr ⊢; exact h.n0 k (by omega) hpr
  · intro k hk2; have hk2 : k < G.N + 1 := hk2
    by_cases e : k = G.N
    · simp [gN, e, mkT_N, mkT_F, mkT_fl, mkT_kd, mkT_fr, mkT_en, mkT_pr, mkT_nm, mkT_nu, mkT_K, mkT_lv]; exact ⟨hl, hl5⟩
    · simp [gN, e, mkT_N, mkT_F, mkT_fl, mkT_kd, mkT_fr, mkT_en, mkT_pr, mkT_nm, mkT_nu, mkT_K, mkT_lv]; exact h.lv k (by omega)
theorem Ex_r {G : TG} {p : Option Nat} : Ex G G p := ⟨Nat.le_refl _, Nat.le_refl _, fun _ _ => rfl, fun _ _ => rfl, fun _ _ => rfl, fun _ _ => rfl, fun _ _ _ => rfl⟩
theorem Ex_t {G G1 G2 : TG} {p : Option Nat} (h : Ex G G1 p) (k : Ex G1 G2 p) : Ex G G2 p :=
  ⟨Nat.le_trans h.N k.N, Nat.le_trans h.F k.F, fun j hj => (k.kd j (Nat.lt_of_lt_of_le hj h.N)).trans (h.kd j hj), fun j hj => (k.fr j (Nat.lt_of_lt_of_le hj h.N)).trans (h.fr j hj), fun j hj => (k.nm j (Nat.lt_of_lt_of_le hj h.N)).trans (h.nm j hj), fun j hj => (k.lv j (Nat.lt_of_lt_of_le hj h.N)).trans (h.lv j hj), fun j hj hp => (k.K j (Nat.lt_of_lt_of_le hj h.N) hp).trans (h.K j hj hp)⟩
theorem Ex_gF {G : TG} {p : Option Nat} {v : Nat} : Ex G (gF G v) p := ⟨Nat.le_refl _, Nat.le_succ _, fun _ _ => rfl, fun _ _ => rfl, fun _ _ => rfl, fun _ _ => rfl, fun _ _ _ => rfl⟩
theorem Ex_gC {G : TG} {p : Option Nat} {k v : Nat} : Ex G (gC G k v) p := ⟨Nat.le_refl _, Nat.le_refl _, fun _ _ => rfl, fun _ _ => rfl, fun _ _ => rfl, fun _ _ => rfl, fun _ _ _ => rfl⟩
theorem Ex_gN {G : TG} {kd fr en : Nat} {pr nm : Option Nat} {nu : Int32} : Ex G (gN G kd fr en pr nm nu) pr := by
  have e : ∀ k, k < G.N → k ≠ G.N := fun k h => by omega
  refine ⟨Nat.le_succ _, Nat.le_refl _, fun k hk => ?_, fun k hk => ?_, fun k hk => ?_, fun k hk => ?_, fun k hk hp => ?_⟩
  · simp [gN, e k hk, mkT_N, mkT_F, mkT_fl, mkT_kd, mkT_fr, mkT_en, mkT_pr, mkT_nm, mkT_nu, mkT_K, mkT_lv]
  · simp [gN, e k hk, mkT_N, mkT_F, mkT_fl, mkT_kd, mkT_fr, mkT_en, mkT_pr, mkT_nm, mkT_nu, mkT_K, mkT_lv]
  · simp [gN, e k hk, mkT_N, mkT_F, mkT_fl, mkT_kd, mkT_fr, mkT_en, mkT_pr, mkT_nm, mkT_nu, mkT_K, mkT_lv]
  · simp [gN, e k hk, mkT_N, mkT_F, mkT_fl, mkT_kd, mkT_fr, mkT_en, mkT_pr, mkT_nm, mkT_nu, mkT_K, mkT_lv]
  · simp [gN, e k hk, hp, mkT_N, mkT_F, mkT_fl, mkT_kd, mkT_fr, mkT_en, mkT_pr, mkT_nm, mkT_nu, mkT_K, mkT_lv]
/-- nodes below the new ones have no new children -/
theorem Ex_w {G G' : TG} {p q : Option Nat} (h : Ex G G' p) (hp : ∀ k, k < G.N → p = some k → q = some k) : Ex G G' q :=
  ⟨h.N, h.F, h.kd, h.fr, h.nm, h.lv, fun k hk hq => h.K k hk (fun e => hq (hp k hk e))⟩
/-- nodes of which much may be told -/
def tb (tx : Nat → Nat) (len : Nat) (kd : Nat) (nm : Option Nat) : Prop := kd = 1 ∨ ∃ n, nm = some n ∧ n + 4 ≤ qe tx len (n + 1)
noncomputable def cI (P : Prop) : Nat := @ite Nat P (Classical.propDecidable P) 1 0
theorem cI_t {P : Prop} (h : P) : cI P = 1 := if_pos h
theorem cI_f {P : Prop} (h : ¬ P) : cI P = 0 := if_neg h
theorem cI_1 {P : Prop} : cI P ≤ 1 := by
  by_cases h : P
  · rw [cI_t h]; omega
  · rw [cI_f h]; omega
noncomputable def tq (tx : Nat → Nat) (len : Nat) (kd : Nat → Nat) (nm : Nat → Option Nat) : Nat → Nat
  | 0 => 0
  | k + 1 => tq tx len kd nm k + cI (tb tx len (kd k) (nm k))
theorem tq_cg {tx : Nat → Nat} {len : Nat} {kd kd' : Nat → Nat} {nm nm' : Nat → Option Nat} : ∀ n, (∀ k, k < n → kd' k = kd k ∧ nm' k = nm k) → tq tx len kd' nm' n = tq tx len kd nm n
  | 0, _ => rfl
  | n + 1, h => by
    unfold tq
    rw [tq_cg n (fun k hk => h k (by omega)), (h n (by omega)).1, (h n (by omega)).2]
noncomputable def tqG (tx : Nat → Nat) (len : Nat) (G : TG) : Nat := tq tx len G.kd G.nm G.N
theorem tqG_N {tx : Nat → Nat} {len kd fr en : Nat} {G : TG} {pr nm : Option Nat} {nu : Int32} : tqG tx len (gN G kd fr en pr nm nu) = tqG tx len G + cI (tb tx len kd nm) := by
  show tq _ _ _ _ (G.N + 1) = _
  unfold tq
  rw [tq_cg (kd := G.kd) (nm := G.nm) G.N (fun k hk => by simp [gN, show ¬ k = G.N by omega, mkT_N, mkT_F, mkT_fl, mkT_kd, mkT_fr, mkT_en, mkT_pr, mkT_nm, mkT_nu, mkT_K, mkT_lv])]
  simp [gN, tqG, mkT_N, mkT_F, mkT_fl, mkT_kd, mkT_fr, mkT_en, mkT_pr, mkT_nm, mkT_nu, mkT_K, mkT_lv]
/-- names begin with a quote -/
def QT (tx : Nat → Nat) (G : TG) : Prop := ∀ k, k < G.N → ∀ n, G.nm k = some n → tx n = 34
/-- bounds -/
abbrev Bd (tx : Nat → Nat) (len : Nat) (G : TG) (a d s f : Nat) : Prop := (G.N ≤ a) ∧ (5 * tqG tx len G ≤ a) ∧ (G.F = 0 → 2 * G.N ≤ a + d + s) ∧ (G.F ≤ 2 * a + f) ∧ (QT tx G)
theorem Bd.nn {tx : Nat → Nat} {len : Nat} {G : TG} {a d s f : Nat} (hX : Bd tx len G a d s f) : G.N ≤ a := hX.1
theorem Bd.qq {tx : Nat → Nat} {len : Nat} {G : TG} {a d s f : Nat} (hX : Bd tx len G a d s f) : 5 * tqG tx len G ≤ a := hX.2.1
theorem Bd.zz {tx : Nat → Nat} {len : Nat} {G : TG} {a d s f : Nat} (hX : Bd tx len G a d s f) : G.F = 0 → 2 * G.N ≤ a + d + s := hX.2.2.1
theorem Bd.ff {tx : Nat → Nat} {len : Nat} {G : TG} {a d s f : Nat} (hX : Bd tx len G a d s f) : G.F ≤ 2 * a + f := hX.2.2.2.1
theorem Bd.qt {tx : Nat → Nat} {len : Nat} {G : TG} {a d s f : Nat} (hX : Bd tx len G a d s f) : QT tx G := hX.2.2.2.2
/-- the reference's stack -/
abbrev ST (t : Nat) (σ : Sg) (G : TG) (d : Nat) (h sn cm : Nat → Nat) : Prop := (σ.1 54 20 = nI d) ∧ (∀ j, j < d → σ.1 72 j = nI (160 * t + h j)) ∧ (∀ j, j < d → ∀ c, (G.K (h j)).getLast? = some c → σ.1 73 j = nI (160 * t + c)) ∧ (∀ j, j < d → σ.1 74 j = nI (sn j)) ∧ (∀ j, j < d → σ.1 75 j = nI (cm j))
theorem ST.dd {t : Nat} {σ : Sg} {G : TG} {d : Nat} {h sn cm : Nat → Nat} (hX : ST t σ G d h sn cm) : σ.1 54 20 = nI d := hX.1
theorem ST.hh {t : Nat} {σ : Sg} {G : TG} {d : Nat} {h sn cm : Nat → Nat} (hX : ST t σ G d h sn cm) : ∀ j, j < d → σ.1 72 j = nI (160 * t + h j) := hX.2.1
theorem ST.l {t : Nat} {σ : Sg} {G : TG} {d : Nat} {h sn cm : Nat → Nat} (hX : ST t σ G d h sn cm) : ∀ j, j < d → ∀ c, (G.K (h j)).getLast? = some c → σ.1 73 j = nI (160 * t + c) := hX.2.2.1
theorem ST.ss {t : Nat} {σ : Sg} {G : TG} {d : Nat} {h sn cm : Nat → Nat} (hX : ST t σ G d h sn cm) : ∀ j, j < d → σ.1 74 j = nI (sn j) := hX.2.2.2.1
theorem ST.cc {t : Nat} {σ : Sg} {G : TG} {d : Nat} {h sn cm : Nat → Nat} (hX : ST t σ G d h sn cm) : ∀ j, j < d → σ.1 75 j = nI (cm j) := hX.2.2.2.2
abbrev MS (t : Nat) (σ : Sg) (len : Nat) (tx : Nat → Nat) (G : TG) (op : Nat → Nat) (d : Nat) (h sn cm : Nat → Nat) (a : Nat) : Prop := (TM t σ len tx) ∧ (MI t σ len tx G op) ∧ (ST t σ G d h sn cm) ∧ (σ.1 54 19 = nI a) ∧ (σ.2.1 55 = mwords)
theorem MS.tt {t : Nat} {σ : Sg} {len : Nat} {tx : Nat → Nat} {G : TG} {op : Nat → Nat} {d : Nat} {h sn cm : Nat → Nat} {a : Nat} (hX : MS t σ len tx G op d h sn cm a) : TM t σ len tx := hX.1
theorem MS.i {t : Nat} {σ : Sg} {len : Nat} {tx : Nat → Nat} {G : TG} {op : Nat → Nat} {d : Nat} {h sn cm : Nat → Nat} {a : Nat} (hX : MS t σ len tx G op d h sn cm a) : MI t σ len tx G op := hX.2.1
theorem MS.s {t : Nat} {σ : Sg} {len : Nat} {tx : Nat → Nat} {G : TG} {op : Nat → Nat} {d : Nat} {h sn cm : Nat → Nat} {a : Nat} (hX : MS t σ len tx G op d h sn cm a) : ST t σ G d h sn cm := hX.2.2.1
theorem MS.aa {t : Nat} {σ : Sg} {len : Nat} {tx : Nat → Nat} {G : TG} {op : Nat → Nat} {d : Nat} {h sn cm : Nat → Nat} {a : Nat} (hX : MS t σ len tx G op d h sn cm a) : σ.1 54 19 = nI a := hX.2.2.2.1
theorem MS.w {t : Nat} {σ : Sg} {len : Nat} {tx : Nat → Nat} {G : TG} {op : Nat → Nat} {d : Nat} {h sn cm : Nat → Nat} {a : Nat} (hX : MS t σ len tx G op d h sn cm a) : σ.2.1 55 = mwords := hX.2.2.2.2
def HS (G : TG) (d : Nat) (h : Nat → Nat) : Prop := ∀ j, j < d → h j < G.N ∧ G.lv (h j) = j
theorem HS_e {G G' : TG} {p : Option Nat} {d : Nat} {h : Nat → Nat} (e : Ex G G' p) (k : HS G d h) : HS G' d h := fun j hj => ⟨Nat.lt_of_lt_of_le (k j hj).1 e.N, by rw [e.lv _ (k j hj).1]; exact (k j hj).2⟩
theorem ST_cg {t : Nat} {σ σ' : Sg} {G G' : TG} {d : Nat} {h sn cm : Nat → Nat} (k : ST t σ G d h sn cm) (e0 : σ'.1 54 20 = σ.1 54 20) (e : ∀ c, 72 ≤ c → c ≤ 75 → σ'.1 c = σ.1 c) (eK : ∀ j, j < d → G'.K (h j) = G.K (h j)) : ST t σ' G' d h sn cm :=
  ⟨e0.trans k.dd, by rw [e _ (by omega) (by omega)]; exact k.hh, by rw [e _ (by omega) (by omega)]; intro j hj; rw [eK j hj]; exact k.l j hj, by rw [e _ (by omega) (by omega)]; exact k.ss, by rw [e _ (by omega) (by omega)]; exact k.cc⟩
theorem MS_ma {t len a a' d : Nat} {tx : Nat → Nat} {σ : Sg} {G : TG} {op h sn cm : Nat → Nat} (k : MS t σ len tx G op d h sn cm a) : MS t (ma σ a') len tx G op d h sn cm a' :=
  ⟨TM_si k.tt (by decide) (by decide) (by decide), MI_si k.i (by omega), ST_cg k.s (by simp [ma, si_1]) (fun c h1 h2 => si_c (by omega)) (fun _ _ => rfl), by simp [ma, si_1], k.w⟩
theorem MS_nt {t len a v d : Nat} {tx : Nat → Nat} {σ : Sg} {G : TG} {op h sn cm : Nat → Nat} (k : MS t σ len tx G op d h sn cm a) : MS t (nt t σ G.F v) len tx (gF G v) op d h sn cm a :=
  ⟨TM_si (TM_si k.tt (by decide) (by decide) (by omega)) (by decide) (by decide) (by omega), MI_nt k.i, ST_cg k.s (by simp [nt, si_1]) (fun c h1 h2 => by unfold nt; rw [si_c (by omega), si_c (by omega)]) (fun _ _ => rfl), by simp [nt, si_1, k.aa], k.w⟩
/-- a write at a node that isn't whole -/
theorem MS_w {t len a d k c : Nat} {tx : Nat → Nat} {σ : Sg} {G : TG} {op h sn cm : Nat → Nat} {v : Int32} (m : MS t σ len tx G op d h sn cm a) (hc : (c = 59 ∨ c = 61 ∨ c = 62 ∨ c = 69) ∧ op k = 2 ∨ c = 61 ∧ op k ≠ 0) : MS t (si σ c (160 * t + k) v) len tx G op d h sn cm a :=
  ⟨TM_si m.tt (by omega) (by omega) (by omega), MI_w m.i hc, ST_cg m.s (by rw [si_c (by omega)]) (fun c' h1 h2 => si_c (by omega)) (fun _ _ => rfl), by rw [si_c (by omega)]; exact m.aa, m.w⟩
theorem MFr_ma {t a : Nat} {σ0 σ : Sg} (h : MFr t σ0 σ) : MFr t σ0 (ma σ a) := MFr_si h (Or.inl ⟨rfl, by omega⟩)
theorem MFr_nt {t F v : Nat} {σ0 σ : Sg} (h : MFr t σ0 σ) (hF : F < 400) : MFr t σ0 (nt t σ F v) :=
  MFr_si (MFr_si h (Or.inr (Or.inr (Or.inr (Or.inl ⟨rfl, by omega, by omega⟩))))) (Or.inr (Or.inl ⟨Or.inr rfl, rfl⟩))
theorem MFr_w {t c k : Nat} {v : Int32} {σ0 σ : Sg} (h : MFr t σ0 σ) (hc : 59 ≤ c ∧ c ≤ 69) (hk : k < 160) : MFr t σ0 (si σ c (160 * t + k) v) :=
  MFr_si h (Or.inr (Or.inr (Or.inl ⟨hc, by omega, by omega⟩)))
theorem MFr_s {t c k : Nat} {v : Int32} {σ0 σ : Sg} (h : MFr t σ0 σ) (hc : 72 ≤ c ∧ c ≤ 75) : MFr t σ0 (si σ c k v) :=
  MFr_si h (Or.inr (Or.inr (Or.inr (Or.inr hc))))
theorem MFr_bgO {t a d : Nat} {σ0 σ : Sg} {G : TG} {nm ne : Int32} {pr : Option Nat} (h : MFr t σ0 σ) (hN : G.N < 160) (hp : ∀ p, pr = some p → p < G.N ∧ ∀ c ∈ G.K p, c < G.N) : MFr t σ0 (bgO t σ G a nm ne d pr) := by
  have h1 : ∀ x, MFr t σ0 (bgn t σ G.N a nm ne x) := fun x => by
    unfold bgn
    exact MFr_w (MFr_w (MFr_w (MFr_w (MFr_w (MFr_w (MFr_w (MFr_w (MFr_w (MFr_w (MFr_si h (Or.inr (Or.inl ⟨Or.inl rfl, rfl⟩))) (by omega) hN) (by omega) hN) (by omega) hN) (by omega) hN) (by omega) hN) (by omega) hN) (by omega) hN) (by omega) hN) (by omega) hN) (by omega) hN
  cases pr with
  | none => exact h1 _
  | some p =>
    have := hp p rfl
    unfold bgO
    refine MFr_w (MFr_s ?_ (by omega)) (by omega) (by omega)
    split
    · exact MFr_w (h1 _) (by omega) (by omega)
    · rename_i ls hls
      have := this.2 ls (List.mem_of_getLast? hls)
      exact MFr_w (h1 _) (by omega) (by omega)
/-- the node is begun -/
theorem MS_begin {t len a d kd2 en : Nat} {tx : Nat → Nat} {σ : Sg} {G : TG} {op op2 h sn cm : Nat → Nat} {pr nm : Option Nat} {nu ne : Int32} (m : MS t σ len tx G op d h sn cm a) (hw : WG len G) (hh : HS G d h)
    (ho : ∀ k, k < G.N → op2 k = op k) (ho2 : op2 G.N = 2) (hN : 160 * t + G.N < 240) (hN2 : G.N < 160) (hp : ∀ p, pr = some p → p < G.N ∧ 1 ≤ d ∧ h (d - 1) = p) (hp0 : pr = none → d = 0) (hd : d ≤ 9) (hn : ∀ n, nm = some n → ne = nI (qe tx len (n + 1))) :
    Ri (wq_Md_begin (oI nm) ne σ) (nI (160 * t + G.N)) (bgO t σ G a (oI nm) ne d pr) ∧ MS t (bgO t σ G a (oI nm) ne d pr) len tx (gN G kd2 a en pr nm nu) op2 d h sn cm a := by
  have hi : MI t (bgO t σ G a (oI nm) ne d pr) len tx (gN G kd2 a en pr nm nu) op2 := MI_begin m.i hw ho ho2 (fun p hpp => (hp p hpp).1) hn
  have hfr := MFr_bgO (t := t) (a := a) (d := d) (nm := oI nm) (ne := ne) (pr := pr) (MFr_r (σ := σ)) hN2 (fun p hpp => ⟨(hp p hpp).1, fun c hc => (hw.ch p (hp p hpp).1 c hc).2.1⟩)
  have h54 : (bgO t σ G a (oI nm) ne d pr).1 54 = σ.1 54 := by
    cases pr with
    | none => unfold bgO bgn; repeat rw [si_c (by omega)]
    | some p =>
      unfold bgO; rw [si_c (by omega), si_c (by omega)]
      split <;> (rw [si_c (by omega)]; unfold bgn; repeat rw [si_c (by omega)])
  have hT : TM t (bgO t σ G a (oI nm) ne d pr) len tx := by
    obtain ⟨t0, t1, t2, t3, t4, t5⟩ := m.tt
    refine ⟨t0, by rw [h54]; exact t1, ?_, t3, t4, fun k hk => ?_⟩
    · rw [hfr.2 57 t (by unfold Pm; omega)]; exact t2
    · rw [hfr.2 56 _ (by unfold Pm; omega)]; exact t5 k hk
  have c72 : ∀ c, c = 72 ∨ c = 74 ∨ c = 75 → (bgO t σ G a (oI nm) ne d pr).1 c = σ.1 c := by
    intro c hc
    cases pr with
    | none => unfold bgO bgn; repeat rw [si_c (by omega)]
    | some p =>
      unfold bgO; rw [si_c (by omega), si_c (by omega)]
      split <;> (rw [si_c (by omega)]; unfold bgn; repeat rw [si_c (by omega)])
  have c73 : ∀ j, (bgO t σ G a (oI nm) ne d pr).1 73 j = if pr ≠ none ∧ j = d - 1 then nI (160 * t + G.N) else σ.1 73 j := by
    intro j
    cases pr with
    | none => simp; unfold bgO bgn; repeat rw [si_c (by omega)]
    | some p =>
      unfold bgO; rw [si_c (by omega), si_1]
      by_cases e : j = d - 1
      · simp [e]
      · simp [e]; split <;> (rw [si_c (by omega)]; unfold bgn; repeat rw [si_c (by omega)])
  refine ⟨?_, hT, hi, ⟨by rw [h54]; exact m.s.dd, by rw [c72 _ (by omega)]; exact m.s.hh, ?_, by rw [c72 _ (by omega)]; exact m.s.ss, by rw [c72 _ (by omega)]; exact m.s.cc⟩, by rw [h54]; exact m.aa, by rw [hfr.1]; exact m.w⟩
  · cases pr with
    | none => exact Md_begin_0 m.tt m.i.N hN m.aa (by rw [m.s.dd, hp0 rfl])
    | some p =>
      obtain ⟨q1, q2, q3⟩ := hp p rfl
      have hlen : (G.K p).length < 240 := by
        have h1 : (G.K p).length ≤ G.N := by
          have hs := (hw.so p q1).imp (fun h => Nat.ne_of_lt h)
          have hsub : G.K p ⊆ List.range G.N := fun c hc => List.mem_range.mpr (hw.ch p q1 c hc).2.1
          have := List.Nodup.length_le_of_subset hs hsub
          simpa using this
        omega
      have key := Md_begin_p (nm := oI nm) (ne := ne) m.tt m.i.N hN m.aa m.s.dd q2 hd (by rw [m.s.hh (d - 1) (by omega), q3]) q1 (m.i.mn p q1) hlen ((G.K p).getLast?.getD 0) (fun hc => by
        cases hls : (G.K p).getLast? with
        | none => rw [List.getLast?_eq_none_iff.mp hls] at hc; simp at hc
        | some ls => simp; exact ⟨(hw.ch p q1 ls (List.mem_of_getLast? hls)).2.1, m.s.l (d - 1) (by omega) ls (by rw [q3]; exact hls)⟩)
      simp only [bgO]
      cases hls : (G.K p).getLast? with
      | none =>
        have h0 : (G.K p).length = 0 := by rw [List.getLast?_eq_none_iff.mp hls]; rfl
        rw [if_pos h0] at key; exact key
      | some ls =>
        have h0 : ¬ (G.K p).length = 0 := fun q => by rw [List.eq_nil_of_length_eq_zero q] at hls; simp at hls
        rw [if_neg h0, hls] at key; exact key
  · intro j hj c hc
    rw [c73]
    cases pr with
    | none => have := hp0 rfl; omega
    | some p =>
      obtain ⟨q1, q2, q3⟩ := hp p rfl
      have hj2 := hh j hj
      by_cases e : j = d - 1
      · subst e; rw [q3] at hc
        simp [gN, show ¬ p = G.N by omega, mkT_N, mkT_F, mkT_fl, mkT_kd, mkT_fr, mkT_en, mkT_pr, mkT_nm, mkT_nu, mkT_K, mkT_lv] at hc
        simp [hc]
      · have hne : h j ≠ p := fun q => by
          have h3 := (hh (d - 1) (by omega)).2; rw [q3] at h3; rw [q] at hj2; omega
        simp [gN, show ¬ h j = G.N by omega, show ¬ p = h j from fun q => hne q.symm, mkT_N, mkT_F, mkT_fl, mkT_kd, mkT_fr, mkT_en, mkT_pr, mkT_nm, mkT_nu, mkT_K, mkT_lv] at hc
        simp [e]; exact m.s.l j hj c hc
