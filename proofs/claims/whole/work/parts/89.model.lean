/-- places that the reference's reading of text t may write -/
def Pm (t c k : Nat) : Prop := (c = 54 ∧ (k = 18 ∨ k = 19 ∨ k = 20)) ∨ ((c = 58 ∨ c = 71) ∧ k = t) ∨ ((59 ≤ c ∧ c ≤ 69) ∧ 160 * t ≤ k ∧ k < 160 * t + 160) ∨ (c = 70 ∧ 400 * t ≤ k ∧ k < 400 * t + 400) ∨ (72 ≤ c ∧ c ≤ 75)
def MFr (t : Nat) (σ σ' : Sg) : Prop := σ'.2 = σ.2 ∧ ∀ c k, ¬ Pm t c k → σ'.1 c k = σ.1 c k
theorem MFr_r {t : Nat} {σ : Sg} : MFr t σ σ := ⟨rfl, fun _ _ _ => rfl⟩
theorem MFr_t {t : Nat} {σ σ1 σ2 : Sg} (h : MFr t σ σ1) (k : MFr t σ1 σ2) : MFr t σ σ2 := ⟨k.1.trans h.1, fun c j hp => (k.2 c j hp).trans (h.2 c j hp)⟩
theorem MFr_si {t : Nat} {σ0 σ : Sg} {c k : Nat} {v : Int32} (h : MFr t σ0 σ) (hp : Pm t c k) : MFr t σ0 (si σ c k v) :=
  MFr_t h ⟨rfl, fun c' k' hn => by rw [si_1, if_neg (fun q => hn (by rw [q.1, q.2]; exact hp))]⟩
/-- places that the class's reading of text b may write -/
def Pc (b c k : Nat) : Prop := (b ≤ c ∧ c ≤ b + 9) ∨ (c = b + 12 ∧ k = 4)
def CFr (b : Nat) (σ σ' : Sg) : Prop := σ'.2 = σ.2 ∧ ∀ c k, ¬ Pc b c k → σ'.1 c k = σ.1 c k
theorem CFr_r {b : Nat} {σ : Sg} : CFr b σ σ := ⟨rfl, fun _ _ _ => rfl⟩
theorem CFr_t {b : Nat} {σ σ1 σ2 : Sg} (h : CFr b σ σ1) (k : CFr b σ1 σ2) : CFr b σ σ2 := ⟨k.1.trans h.1, fun c j hp => (k.2 c j hp).trans (h.2 c j hp)⟩
theorem CFr_si {b : Nat} {σ0 σ : Sg} {c k : Nat} {v : Int32} (h : CFr b σ0 σ) (hp : Pc b c k) : CFr b σ0 (si σ c k v) :=
  CFr_t h ⟨rfl, fun c' k' hn => by rw [si_1, if_neg (fun q => hn (by rw [q.1, q.2]; exact hp))]⟩
theorem CFr_ca {b a : Nat} {σ0 σ : Sg} (h : CFr b σ0 σ) : CFr b σ0 (ca b σ a) := CFr_si h (Or.inr ⟨rfl, rfl⟩)
theorem CFr_bl {b F v : Nat} {σ0 σ : Sg} (h : CFr b σ0 σ) : CFr b σ0 (bl b σ F v) := CFr_si (CFr_si h (Or.inl (by omega))) (Or.inl (by omega))
theorem CFr_opO {b kd fr : Nat} {σ0 σ : Sg} {G : TG} {pr nm : Option Nat} (h : CFr b σ0 σ) : CFr b σ0 (opO b σ G kd fr pr nm) := by
  have h1 : ∀ x y, CFr b σ0 (opn b σ G.N kd fr x y) := fun x y => by
    unfold opn
    exact CFr_si (CFr_si (CFr_si (CFr_si (CFr_si (CFr_si (CFr_si h (Or.inl (by omega))) (Or.inl (by omega))) (Or.inl (by omega))) (Or.inl (by omega))) (Or.inl (by omega))) (Or.inl (by omega))) (Or.inl (by omega))
  cases pr with
  | none => exact h1 _ _
  | some p => exact CFr_si (h1 _ _) (Or.inl (by omega))
theorem MI_cg {t len : Nat} {tx : Nat → Nat} {σ σ' : Sg} {G : TG} {op : Nat → Nat} (h : MI t σ len tx G op) (e : ∀ c, 58 ≤ c → c ≤ 71 → σ'.1 c = σ.1 c) : MI t σ' len tx G op := by
  refine ⟨?_, ?_, ?_, ?_, ?_, ?_, ?_, ?_, ?_, ?_, ?_, ?_, ?_⟩
  · rw [e _ (by omega) (by omega)]; exact h.N
  · rw [e _ (by omega) (by omega)]; exact h.F
  · rw [e _ (by omega) (by omega)]; exact h.fl
  · rw [e _ (by omega) (by omega)]; exact h.kd
  · rw [e _ (by omega) (by omega)]; exact h.fr
  · rw [e _ (by omega) (by omega)]; exact h.en
  · rw [e _ (by omega) (by omega)]; exact h.pr
  · rw [e _ (by omega) (by omega)]; exact h.mn
  · rw [e _ (by omega) (by omega)]; exact h.nm
  · rw [e _ (by omega) (by omega)]; exact h.ne
  · rw [e _ (by omega) (by omega)]; exact h.nu
  · rw [e _ (by omega) (by omega)]; exact h.cs
  · rw [e _ (by omega) (by omega), e _ (by omega) (by omega)]; exact h.ch
theorem MI_si {t len : Nat} {tx : Nat → Nat} {σ : Sg} {G : TG} {op : Nat → Nat} {c k : Nat} {v : Int32} (h : MI t σ len tx G op) (hc : c < 58 ∨ 71 < c) : MI t (si σ c k v) len tx G op :=
  MI_cg h (fun c' h1 h2 => si_c (by omega))
theorem MI_nt {t len v : Nat} {tx : Nat → Nat} {σ : Sg} {G : TG} {op : Nat → Nat} (h : MI t σ len tx G op) : MI t (nt t σ G.F v) len tx (gF G v) op := by
  have e : ∀ c, c ≠ 70 → c ≠ 71 → (nt t σ G.F v).1 c = σ.1 c := fun c h1 h2 => by unfold nt; rw [si_c h2, si_c h1]
  refine ⟨?_, ?_, ?_, ?_, ?_, ?_, ?_, ?_, ?_, ?_, ?_, ?_, ?_⟩
  · rw [e _ (by omega) (by omega)]; exact h.N
  · simp [nt, si_1, gF, mkT_N, mkT_F, mkT_fl, mkT_kd, mkT_fr, mkT_en, mkT_pr, mkT_nm, mkT_nu, mkT_K, mkT_lv]
  · intro j hj
    simp [nt, si_1, gF, mkT_N, mkT_F, mkT_fl, mkT_kd, mkT_fr, mkT_en, mkT_pr, mkT_nm, mkT_nu, mkT_K, mkT_lv] at hj ⊢
    by_cases q : j = G.F
    · simp [q]
    · simp [q]; exact h.fl j (by omega)
  · rw [e _ (by omega) (by omega)]; exact h.kd
  · rw [e _ (by omega) (by omega)]; exact h.fr
  · rw [e _ (by omega) (by omega)]; exact h.en
  · rw [e _ (by omega) (by omega)]; exact h.pr
  · rw [e _ (by omega) (by omega)]; exact h.mn
  · rw [e _ (by omega) (by omega)]; exact h.nm
  · rw [e _ (by omega) (by omega)]; exact h.ne
  · rw [e _ (by omega) (by omega)]; exact h.nu
  · rw [e _ (by omega) (by omega)]; exact h.cs
  · rw [e _ (by omega) (by omega), e _ (by omega) (by omega)]; exact h.ch
/-- a write at a node that isn't whole yet -/
theorem MI_w {t len k c : Nat} {tx : Nat → Nat} {σ : Sg} {G : TG} {op : Nat → Nat} {v : Int32} (h : MI t σ len tx G op) (hc : (c = 59 ∨ c = 61 ∨ c = 62 ∨ c = 69) ∧ op k = 2 ∨ c = 61 ∧ op k ≠ 0) : MI t (si σ c (160 * t + k) v) len tx G op := by
  have e : ∀ c', c' ≠ c → (si σ c (160 * t + k) v).1 c' = σ.1 c' := fun c' h1 => si_c h1
  refine ⟨?_, ?_, ?_, ?_, ?_, ?_, ?_, ?_, ?_, ?_, ?_, ?_, ?_⟩
  · rw [e _ (by omega)]; exact h.N
  · rw [e _ (by omega)]; exact h.F
  · rw [e _ (by omega)]; exact h.fl
  · intro j hj h2; rw [si_1, if_neg (by rintro ⟨q1, q2⟩; have : j = k := by omega
                                        subst this; omega)]; exact h.kd j hj h2
  · rw [e _ (by omega)]; exact h.fr
  · intro j hj h2; rw [si_1, if_neg (by rintro ⟨q1, q2⟩; have : j = k := by omega
                                        subst this; omega)]; exact h.en j hj h2
  · rw [e _ (by omega)]; exact h.pr
  · rw [e _ (by omega)]; exact h.mn
  · rw [e _ (by omega)]; exact h.nm
  · rw [e _ (by omega)]; exact h.ne
  · intro j hj h2; rw [si_1, if_neg (by rintro ⟨q1, q2⟩; have : j = k := by omega
                                        subst this; omega)]; exact h.nu j hj h2
  · intro j hj h2 h3; rw [si_1, if_neg (by rintro ⟨q1, q2⟩; have : j = k := by omega
                                           subst this; omega)]; exact h.cs j hj h2 h3
  · rw [e _ (by omega), e _ (by omega)]; exact h.ch
/-- it is whole -/
theorem MI_ok {t len k : Nat} {tx : Nat → Nat} {σ : Sg} {G : TG} {op op2 : Nat → Nat} {a : Nat} (h : MI t σ len tx G op) (ho : ∀ j, j ≠ k → op2 j = op j)
    (hk : op k < 2 ∨ (σ.1 59 (160 * t + k) = nI (G.kd k) ∧ σ.1 69 (160 * t + k) = G.nu k ∧ (G.kd k = 4 → σ.1 62 (160 * t + k) = nI (qe tx len (G.fr k + 1))))) (he : op2 k = 0 → σ.1 61 (160 * t + k) = nI a) : MI t σ len tx (gC G k a) op2 := by
  refine ⟨h.N, h.F, h.fl, ?_, h.fr, ?_, h.pr, h.mn, h.nm, h.ne, ?_, ?_, h.ch⟩
  · intro j hj h2
    by_cases e : j = k
    · subst e; rcases hk with q | q
      · exact h.kd j hj q
      · exact q.1
    · exact h.kd j hj (by rw [← ho j e]; exact h2)
  · intro j hj h2
    simp [gC, mkT_N, mkT_F, mkT_fl, mkT_kd, mkT_fr, mkT_en, mkT_pr, mkT_nm, mkT_nu, mkT_K, mkT_lv]
    by_cases e : j = k
    · subst e; simp; exact he h2
    · simp [e]; exact h.en j hj (by rw [← ho j e]; exact h2)
  · intro j hj h2
    by_cases e : j = k
    · subst e; rcases hk with q | q
      · exact h.nu j hj q
      · exact q.2.1
    · exact h.nu j hj (by rw [← ho j e]; exact h2)
  · intro j hj h2
    by_cases e : j = k
    · subst e; rcases hk with q | q
      · exact h.cs j hj q
      · exact q.2.2
    · exact h.cs j hj (by rw [← ho j e]; exact h2)
/-- the state behind begin -/
def bgO (t : Nat) (σ : Sg) (G : TG) (a : Nat) (nm ne : Int32) (d : Nat) : Option Nat → Sg
  | none => bgn t σ G.N a nm ne (-nI 1)
  | some p => si (si (match (G.K p).getLast? with | none => si (bgn t σ G.N a nm ne (nI (160 * t + p))) 65 (160 * t + p) (nI (160 * t + G.N)) | some ls => si (bgn t σ G.N a nm ne (nI (160 * t + p))) 66 (160 * t + ls) (nI (160 * t + G.N))) 73 (d - 1) (nI (160 * t + G.N))) 64 (160 * t + p) (nI ((G.K p).length + 1))
theorem MI_begin {t len a d kd2 en : Nat} {tx : Nat → Nat} {σ : Sg} {G : TG} {op op2 : Nat → Nat} {pr nm : Option Nat} {nu ne : Int32} (h : MI t σ len tx G op) (hw : WG len G)
    (ho : ∀ k, k < G.N → op2 k = op k) (ho2 : op2 G.N = 2) (hp : ∀ p, pr = some p → p < G.N) (hn : ∀ n, nm = some n → ne = nI (qe tx len (n + 1))) :
    MI t (bgO t σ G a (oI nm) ne d pr) len tx (gN G kd2 a en pr nm nu) op2 := by
  have eb : ∀ c j x, (c ≠ 58 ∨ j ≠ t) → j ≠ 160 * t + G.N → (bgn t σ G.N a (oI nm) ne x).1 c j = σ.1 c j := by
    intro c j x h1 h2; unfold bgn
    repeat rw [si_1, if_neg (fun q => by omega)]
  have e1 : ∀ c j, c ≠ 64 → c ≠ 65 → c ≠ 66 → c ≠ 73 → (bgO t σ G a (oI nm) ne d pr).1 c j = (bgn t σ G.N a (oI nm) ne (oM t pr)).1 c j := by
    intro c j h4 h5 h6 h7
    cases pr with
    | none => rfl
    | some p =>
      simp only [bgO, oM]
      rw [si_c h4, si_c h7]
      split
      · rw [si_c h5]
      · rw [si_c h6]
  have old : ∀ c j, c ≠ 58 → c ≠ 64 → c ≠ 65 → c ≠ 66 → c ≠ 73 → j ≠ 160 * t + G.N → (bgO t σ G a (oI nm) ne d pr).1 c j = σ.1 c j := fun c j h0 h4 h5 h6 h7 h8 => by
    rw [e1 c j h4 h5 h6 h7, eb c j _ (Or.inl h0) h8]
  refine ⟨?_, ?_, ?_, ?_, ?_, ?_, ?_, ?_, ?_, ?_, ?_, ?_, ?_⟩
  · rw [e1 _ _ (by omega) (by omega) (by omega) (by omega)]; simp [bgn, si_1, gN, mkT_N, mkT_F, mkT_fl, mkT_kd, mkT_fr, mkT_en, mkT_pr, mkT_nm, mkT_nu, mkT_K, mkT_lv]
  · rw [e1 _ _ (by omega) (by omega) (by omega) (by omega)]; simp [bgn, si_1, gN, h.F, mkT_N, mkT_F, mkT_fl, mkT_kd, mkT_fr, mkT_en, mkT_pr, mkT_nm, mkT_nu, mkT_K, mkT_lv]
  · intro j hj; rw [e1 _ _ (by omega) (by omega) (by omega) (by omega)]; simp [bgn, si_1, gN, mkT_N, mkT_F, mkT_fl, mkT_kd, mkT_fr, mkT_en, mkT_pr, mkT_nm, mkT_nu, mkT_K, mkT_lv]; exact h.fl j hj
  · intro k hk h2
    have hk : k < G.N + 1 := hk
    by_cases e : k = G.N
    · subst e; omega
    · rw [old _ _ (by omega) (by omega) (by omega) (by omega) (by omega) (by omega)]; simp [gN, e, mkT_N, mkT_F, mkT_fl, mkT_kd, mkT_fr, mkT_en, mkT_pr, mkT_nm, mkT_nu, mkT_K, mkT_lv]; exact h.kd k (by omega) (by rw [← ho k (by omega)]; exact h2)
  · intro k hk
    have hk : k < G.N + 1 := hk
    by_cases e : k = G.N
    · subst e; rw [e1 _ _ (by omega) (by omega) (by omega) (by omega)]; simp [gN, bgn, si_1, mkT_N, mkT_F, mkT_fl, mkT_kd, mkT_fr, mkT_en, mkT_pr, mkT_nm, mkT_nu, mkT_K, mkT_lv]
    · rw [old _ _ (by omega) (by omega) (by omega) (by omega) (by omega) (by omega)]; simp [gN, e, mkT_N, mkT_F, mkT_fl, mkT_kd, mkT_fr, mkT_en, mkT_pr, mkT_nm, mkT_nu, mkT_K, mkT_lv]; exact h.fr k (by omega)
  · intro k hk h2
    have hk : k < G.N + 1 := hk
    by_cases e : k = G.N
    · subst e; omega
    · rw [old _ _ (by omega) (by omega) (by omega) (by omega) (by omega) (by omega)]; simp [gN, e, mkT_N, mkT_F, mkT_fl, mkT_kd, mkT_fr, mkT_en, mkT_pr, mkT_nm, mkT_nu, mkT_K, mkT_lv]; exact h.en k (by omega) (by rw [← ho k (by omega)]; exact h2)
  · intro k hk
    have hk : k < G.N + 1 := hk
    by_cases e : k = G.N
    · subst e; rw [e1 _ _ (by omega) (by omega) (by omega) (by omega)]; simp [gN, bgn, si_1, mkT_N, mkT_F, mkT_fl, mkT_kd, mkT_fr, mkT_en, mkT_pr, mkT_nm, mkT_nu, mkT_K, mkT_lv]
    · rw [old _ _ (by omega) (by omega) (by omega) (by omega) (by omega) (by omega)]; simp [gN, e, mkT_N, mkT_F, mkT_fl, mkT_kd, mkT_fr, mkT_en, mkT_pr, mkT_nm, mkT_nu, mkT_K, mkT_lv]; exact h.pr k (by omega)
  · intro k hk
    have hk : k < G.N + 1 := hk
    by_cases e : k = G.N
    · subst e
      cases pr with
      | none => simp [bgO, gN, bgn, si_1, mkT_N, mkT_F, mkT_fl, mkT_kd, mkT_fr, mkT_en, mkT_pr, mkT_nm, mkT_nu, mkT_K, mkT_lv]
      | some p =>
        have := hp p rfl
        simp only [bgO]
        rw [si_1, if_neg (by omega), si_c (by omega)]
        split
        · rw [si_c (by omega)]; simp [gN, bgn, si_1, mkT_N, mkT_F, mkT_fl, mkT_kd, mkT_fr, mkT_en, mkT_pr, mkT_nm, mkT_nu, mkT_K, mkT_lv]
        · rw [si_c (by omega)]; simp [gN, bgn, si_1, mkT_N, mkT_F, mkT_fl, mkT_kd, mkT_fr, mkT_en, mkT_pr, mkT_nm, mkT_nu, mkT_K, mkT_lv]
    · have h0 := h.mn k (by omega)
      cases pr with
      | none => simp only [bgO]; rw [eb _ _ _ (Or.inl (by omega)) (by omega)]; simp [gN, e, mkT_N, mkT_F, mkT_fl, mkT_kd, mkT_fr, mkT_en, mkT_pr, mkT_nm, mkT_nu, mkT_K, mkT_lv]; exact h0
      | some p =>
        simp only [bgO]
        by_cases e2 : k = p
        · subst e2; rw [si_1, if_pos ⟨rfl, rfl⟩]; simp [gN, e, mkT_N, mkT_F, mkT_fl, mkT_kd, mkT_fr, mkT_en, mkT_pr, mkT_nm, mkT_nu, mkT_K, mkT_lv]
        · rw [si_1, if_neg (by omega), si_c (by omega)]
          have e3 : (gN G kd2 a en (some p) nm nu).K k = G.K k := by simp [gN, e, show ¬ p = k from fun q => e2 q.symm, mkT_N, mkT_F, mkT_fl, mkT_kd, mkT_fr, mkT_en, mkT_pr, mkT_nm, mkT_nu, mkT_K, mkT_lv]
          rw [e3]
          split
          · rw [si_c (by omega), eb _ _ _ (Or.inl (by omega)) (by omega)]; exact h0
          · rw [si_c (by omega), eb _ _ _ (Or.inl (by omega)) (by omega)]; exact h0
  · intro k hk
    have hk : k < G.N + 1 := hk
    by_cases e : k = G.N
    · subst e; rw [e1 _ _ (by omega) (by omega) (by omega) (by omega)]; simp [gN, bgn, si_1, mkT_N, mkT_F, mkT_fl, mkT_kd, mkT_fr, mkT_en, mkT_pr, mkT_nm, mkT_nu, mkT_K, mkT_lv]
    · rw [old _ _ (by omega) (by omega) (by omega) (by omega) (by omega) (by omega)]; simp [gN, e, mkT_N, mkT_F, mkT_fl, mkT_kd, mkT_fr, mkT_en, mkT_pr, mkT_nm, mkT_nu, mkT_K, mkT_lv]; exact h.nm k (by omega)
  · intro k hk n hn'
    have hk : k < G.N + 1 := hk
    by_cases e : k = G.N
    · subst e; rw [e1 _ _ (by omega) (by omega) (by omega) (by omega)]; simp [gN, bgn, si_1, mkT_N, mkT_F, mkT_fl, mkT_kd, mkT_fr, mkT_en, mkT_pr, mkT_nm, mkT_nu, mkT_K, mkT_lv] at hn' ⊢; exact hn n hn'
    · rw [old _ _ (by omega) (by omega) (by omega) (by omega) (by omega) (by omega)]; simp [gN, e, mkT_N, mkT_F, mkT_fl, mkT_kd, mkT_fr, mkT_en, mkT_pr, mkT_nm, mkT_nu, mkT_K, mkT_lv] at hn'; exact h.ne k (by omega) n hn'
  · intro k hk h2
    have hk : k < G.N + 1 := hk
    by_cases e : k = G.N
    · subst e; omega
    · rw [old _ _ (by omega) (by omega) (by omega) (by omega) (by omega) (by omega)]; simp [gN, e, mkT_N, mkT_F, mkT_fl, mkT_kd, mkT_fr, mkT_en, mkT_pr, mkT_nm, mkT_nu, mkT_K, mkT_lv]; exact h.nu k (by omega) (by rw [← ho k (by omega)]; exact h2)
  · intro k hk h2
    have hk : k < G.N + 1 := hk
    by_cases e : k = G.N
    · subst e; omega
    · rw [old _ _ (by omega) (by omega) (by omega) (by omega) (by omega) (by omega)]; simp [gN, e, mkT_N, mkT_F, mkT_fl, mkT_kd, mkT_fr, mkT_en, mkT_pr, mkT_nm, mkT_nu, mkT_K, mkT_lv]; exact h.cs k (by omega) (by rw [← ho k (by omega)]; exact h2)
  · intro k hk
    have hk : k < G.N + 1 := hk
    cases pr with
    | none =>
      simp only [bgO]
      by_cases e : k = G.N
      · subst e; simp [gN, bgn, si_1, chM, mkT_N, mkT_F, mkT_fl, mkT_kd, mkT_fr, mkT_en, mkT_pr, mkT_nm, mkT_nu, mkT_K, mkT_lv]
      · rw [eb _ _ _ (Or.inl (by omega)) (by omega)]
        have e3 : (gN G kd2 a en none nm nu).K k = G.K k := by simp [gN, e, mkT_N, mkT_F, mkT_fl, mkT_kd, mkT_fr, mkT_en, mkT_pr, mkT_nm, mkT_nu, mkT_K, mkT_lv]
        rw [e3]
        refine chM_cg _ _ (fun j hj => ?_) (h.ch k (by omega))
        have := (hw.ch k (by omega) j hj).2.1
        rw [eb _ _ _ (Or.inl (by omega)) (by omega)]
    | some p =>
      have hpN := hp p rfl
      simp only [bgO]
      have c66 : ∀ (X : Sg), (si (si X 73 (d - 1) (nI (160 * t + G.N))) 64 (160 * t + p) (nI ((G.K p).length + 1))).1 66 = X.1 66 := fun X => by rw [si_c (by omega), si_c (by omega)]
      have c65 : ∀ (X : Sg), (si (si X 73 (d - 1) (nI (160 * t + G.N))) 64 (160 * t + p) (nI ((G.K p).length + 1))).1 65 = X.1 65 := fun X => by rw [si_c (by omega), si_c (by omega)]
      rw [c66, c65]
      have n66 : ∀ x, (bgn t σ G.N a (oI nm) ne x).1 66 = fun j => if j = 160 * t + G.N then -nI 1 else σ.1 66 j := fun x => by funext j; simp [bgn, si_1]
      have n65 : ∀ x j, (bgn t σ G.N a (oI nm) ne x).1 65 j = if j = 160 * t + G.N then -nI 1 else σ.1 65 j := fun x j => by simp [bgn, si_1]
      have base : ∀ k, k < G.N → chM t (fun j => if j = 160 * t + G.N then -nI 1 else σ.1 66 j) (σ.1 65 (160 * t + k)) (G.K k) := fun k hk => by
        refine chM_cg _ _ (fun j hj => ?_) (h.ch k hk)
        have := (hw.ch k hk j hj).2.1
        rw [if_neg (by omega)]
      cases hls : (G.K p).getLast? with
      | none =>
        have hK : G.K p = [] := List.getLast?_eq_none_iff.mp hls
        simp only []
        rw [si_c (show (66 : Nat) ≠ 65 by decide), n66]
        by_cases e : k = G.N
        · subst e; rw [si_1, if_neg (by omega), n65, if_pos rfl]; simp [gN, chM, mkT_N, mkT_F, mkT_fl, mkT_kd, mkT_fr, mkT_en, mkT_pr, mkT_nm, mkT_nu, mkT_K, mkT_lv]
        · by_cases e2 : k = p
          · subst e2; rw [si_1, if_pos ⟨rfl, rfl⟩]; simp [gN, e, hK, chM, mkT_N, mkT_F, mkT_fl, mkT_kd, mkT_fr, mkT_en, mkT_pr, mkT_nm, mkT_nu, mkT_K, mkT_lv]
          · have e3 : (gN G kd2 a en (some p) nm nu).K k = G.K k := by simp [gN, e, show ¬ p = k from fun q => e2 q.symm, mkT_N, mkT_F, mkT_fl, mkT_kd, mkT_fr, mkT_en, mkT_pr, mkT_nm, mkT_nu, mkT_K, mkT_lv]
            rw [si_1, if_neg (by omega), n65, if_neg (by omega), e3]
            exact base k (by omega)
      | some ls =>
        have hlm : ls ∈ G.K p := List.mem_of_getLast? hls
        have hl := hw.ch p hpN ls hlm
        simp only []
        have q66 : (si (bgn t σ G.N a (oI nm) ne (nI (160 * t + p))) 66 (160 * t + ls) (nI (160 * t + G.N))).1 66 = fun j => if j = 160 * t + ls then nI (160 * t + G.N) else (fun j => if j = 160 * t + G.N then -nI 1 else σ.1 66 j) j := by
          funext j; rw [si_1, n66]; simp
        rw [q66, si_c (show (65 : Nat) ≠ 66 by decide), n65]
        by_cases e : k = G.N
        · subst e; rw [if_pos rfl]; simp [gN, chM, mkT_N, mkT_F, mkT_fl, mkT_kd, mkT_fr, mkT_en, mkT_pr, mkT_nm, mkT_nu, mkT_K, mkT_lv]
        · rw [if_neg (by omega)]
          by_cases e2 : k = p
          · subst e2
            have e3 : (gN G kd2 a en (some k) nm nu).K k = G.K k ++ [G.N] := by simp [gN, e, mkT_N, mkT_F, mkT_fl, mkT_kd, mkT_fr, mkT_en, mkT_pr, mkT_nm, mkT_nu, mkT_K, mkT_lv]
            rw [e3]
            exact chM_app _ _ hls (fun q => by have := (hw.ch k hpN _ q).2.1; omega) ((hw.so k hpN).imp (fun h => Nat.ne_of_lt h)) (by simp) (base k hpN)
          · have e3 : (gN G kd2 a en (some p) nm nu).K k = G.K k := by simp [gN, e, show ¬ p = k from fun q => e2 q.symm, mkT_N, mkT_F, mkT_fl, mkT_kd, mkT_fr, mkT_en, mkT_pr, mkT_nm, mkT_nu, mkT_K, mkT_lv]
            rw [e3]
            refine chM_cg _ _ (fun j hj => ?_) (base k (by omega))
            have hj2 := hw.ch k (by omega) j hj
            have : j ≠ ls := fun q => by
              subst q; have := hj2.2.2.1; rw [hl.2.2.1] at this; injection this with this; omega
            simp only [if_neg (show ¬ 160 * t + j = 160 * t + ls by omega)]
