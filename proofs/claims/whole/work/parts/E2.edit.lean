theorem nb0 : narrow .boolean (.int (0 : Int32)) = .int (0 : Int32) := by decide +kernel
theorem nb1 : narrow .boolean (.int (1 : Int32)) = .int (1 : Int32) := by decide +kernel
theorem fb0 : fits .boolean (.int (0 : Int32)) = true := by decide +kernel
theorem isT_y {t : Nat} (ht : t < 2) {σ : Sg} {post : Int32 → Sg → Prop} (hp : post 1 σ) : wq_Sd_isText (nI t) σ post := by
  unfold wq_Sd_isText
  rcases (show t = 0 ∨ t = 1 by omega) with e | e
  · subst e; exact ⟨fun _ => ⟨nb1, hp⟩, fun z => absurd rfl z⟩
  · subst e; exact ⟨fun z => absurd z i10, fun _ => ⟨fun z => absurd rfl z, fun _ => ⟨nb1, hp⟩⟩⟩
theorem isT_n {x : Int32} (h0 : x ≠ nI 0) (h1 : x ≠ nI 1) {σ : Sg} {post : Int32 → Sg → Prop} (hp : post 0 σ) : wq_Sd_isText x σ post :=
  ⟨fun z => absurd z h0, fun _ => ⟨fun _ => ⟨nb0, hp⟩, fun z => absurd z h1⟩⟩
theorem mT_y {t : Nat} (ht : t < 2) {σ : Sg} {post : Int32 → Sg → Prop} (hp : post 1 σ) : wq_Md_isText (nI t) σ post := by
  unfold wq_Md_isText
  rcases (show t = 0 ∨ t = 1 by omega) with e | e
  · subst e; exact ⟨fun _ => ⟨nb1, hp⟩, fun z => absurd rfl z⟩
  · subst e; exact ⟨fun z => absurd z i10, fun _ => ⟨fun z => absurd rfl z, fun _ => ⟨nb1, hp⟩⟩⟩
theorem mT_n {x : Int32} (h0 : x ≠ nI 0) (h1 : x ≠ nI 1) {σ : Sg} {post : Int32 → Sg → Prop} (hp : post 0 σ) : wq_Md_isText x σ post :=
  ⟨fun z => absurd z h0, fun _ => ⟨fun _ => ⟨nb0, hp⟩, fun z => absurd z h1⟩⟩
theorem txt_x (x : Int32) : (∃ t, t < 2 ∧ x = nI t) ∨ (x ≠ nI 0 ∧ x ≠ nI 1) := by
  by_cases h0 : x = nI 0
  · exact Or.inl ⟨0, by omega, h0⟩
  · by_cases h1 : x = nI 1
    · exact Or.inl ⟨1, by omega, h1⟩
    · exact Or.inr ⟨h0, h1⟩
theorem chr_x (x : Int32) : (∃ c, 32 ≤ c ∧ c ≤ 126 ∧ x = nI c) ∨ (x < 32 ∨ 126 < x) := by
  by_cases h0 : x < 32
  · exact Or.inr (Or.inl h0)
  · by_cases h1 : 126 < x
    · exact Or.inr (Or.inr h1)
    · have hx : ¬ x < 0 := fun z => h0 (Int32.lt_trans z (by decide +kernel))
      obtain ⟨j, hj, rfl⟩ := nI_of hx
      have a1 : ¬ j < 32 := fun z => h0 ((n_lt (b := 32) (by omega) (by omega)).mpr z)
      have a2 : ¬ 126 < j := fun z => h1 ((n_lt (a := 126) (by omega) (by omega)).mpr z)
      exact Or.inl ⟨j, by omega, by omega, rfl⟩
theorem isC_y {c : Nat} (h1 : 32 ≤ c) (h2 : c ≤ 126) {σ : Sg} {post : Int32 → Sg → Prop} (hp : post 1 σ) : wq_Sd_isCharacter (nI c) σ post :=
  ⟨fun z => absurd ((n_lt (b := 32) (by omega) (by omega)).mp z) (by omega), fun _ => ⟨fun z => absurd ((n_lt (a := 126) (by omega) (by omega)).mp z) (by omega), fun _ => ⟨nb1, hp⟩⟩⟩
theorem isC_n {x : Int32} (h : x < 32 ∨ 126 < x) {σ : Sg} {post : Int32 → Sg → Prop} (hp : post 0 σ) : wq_Sd_isCharacter x σ post :=
  ⟨fun _ => ⟨nb0, hp⟩, fun z => ⟨fun _ => ⟨nb0, hp⟩, fun y => h.elim (fun q => absurd q z) (fun q => absurd q y)⟩⟩
theorem mC_y {c : Nat} (h1 : 32 ≤ c) (h2 : c ≤ 126) {σ : Sg} {post : Int32 → Sg → Prop} (hp : post 1 σ) : wq_Md_isChar (nI c) σ post :=
  ⟨fun z => absurd ((n_lt (b := 32) (by omega) (by omega)).mp z) (by omega), fun _ => ⟨fun z => absurd ((n_lt (a := 126) (by omega) (by omega)).mp z) (by omega), fun _ => ⟨nb1, hp⟩⟩⟩
theorem mC_n {x : Int32} (h : x < 32 ∨ 126 < x) {σ : Sg} {post : Int32 → Sg → Prop} (hp : post 0 σ) : wq_Md_isChar x σ post :=
  ⟨fun _ => ⟨nb0, hp⟩, fun z => ⟨fun _ => ⟨nb0, hp⟩, fun y => h.elim (fun q => absurd q z) (fun q => absurd q y)⟩⟩
/-- the block of a text -/
def bk (t : Nat) : Nat := 13 * t
theorem bk_0 : bk 0 = 0 := rfl
theorem bk_1 : bk 1 = 13 := rfl
theorem tl_rm {t : Nat} (ht : t < 2) : tl (bk t) = rm t := by
  rcases (show t = 0 ∨ t = 1 by omega) with e | e <;> subst e <;> decide
theorem textOf {t : Nat} (ht : t < 2) {σ : Sg} {post : Nat → Sg → Prop} (hp : post (bk t) σ) : wq_Sd_textOf (nI t) σ post := by
  unfold wq_Sd_textOf
  rcases (show t = 0 ∨ t = 1 by omega) with e | e
  · subst e; exact ⟨fun z => absurd rfl z, fun _ => hp⟩
  · subst e; exact ⟨fun _ => hp, fun z => absurd z i10⟩
theorem bk_ok {t : Nat} (ht : t < 2) : bk t = 0 ∨ bk t = 13 := by unfold bk; omega
/-- after an edit nothing is fresh -/
def ed (t : Nat) (σ : Sg) : Sg := if t = 0 then si (si (si σ 12 1 (nI 0)) 29 1 (nI 0)) 35 3 (nI 0) else si (si σ 25 1 (nI 0)) 35 3 (nI 0)
theorem edited {t : Nat} (ht : t < 2) {σ : Sg} {post : Sg → Prop} (hp : post (ed t σ)) : wq_Sd_edited (nI t) σ post := by
  unfold wq_Sd_edited
  rcases (show t = 0 ∨ t = 1 by omega) with e | e
  · subst e
    refine ⟨fun z => absurd rfl z, fun _ => ⟨nb0, fb0, fun σ1 h1 => ⟨nb0, fb0, fun σ2 h2 => ⟨nb0, fb0, fun σ3 h3 => ?_⟩⟩⟩⟩
    rw [h3, h2, h1]; exact hp
  · subst e
    refine ⟨fun _ => ⟨nb0, fb0, fun σ1 h1 => ⟨nb0, fb0, fun σ2 h2 => ?_⟩⟩, fun z => absurd z i10⟩
    rw [h2, h1]; exact hp
def Ped2 (c k : Nat) : Prop := (c = 12 ∧ k = 1) ∨ (c = 29 ∧ k = 1) ∨ (c = 35 ∧ k = 3) ∨ (c = 25 ∧ k = 1)
theorem ed_Fr {t : Nat} {σ : Sg} : Fr Ped2 σ (ed t σ) := by
  unfold ed; split
  · exact Fr_si (Fr_si (Fr_si Fr_r (Or.inl ⟨rfl, rfl⟩)) (Or.inr (Or.inl ⟨rfl, rfl⟩))) (Or.inr (Or.inr (Or.inl ⟨rfl, rfl⟩)))
  · exact Fr_si (Fr_si Fr_r (Or.inr (Or.inr (Or.inr ⟨rfl, rfl⟩)))) (Or.inr (Or.inr (Or.inl ⟨rfl, rfl⟩)))
def upl (l : Nat → Nat) (t n : Nat) : Nat → Nat := fun u => if u = t then n else l u
def upx (x : Nat → Nat → Nat) (t : Nat) (y : Nat → Nat) : Nat → Nat → Nat := fun u => if u = t then y else x u
section ED
variable {l : Nat → Nat} {x : Nat → Nat → Nat} {S D : TG} {Lc : List Nat} {T : List Nat} {W : List (List Nat)} {σ : Sg}
theorem KC_t {t : Nat} (ht : t < 2) (h : KC (l 0) (x 0) (l 1) (x 1) S D Lc σ) : Tx (bk t) σ (l t) (x t) := by
  rcases (show t = 0 ∨ t = 1 by omega) with e | e
  · subst e; exact h.a
  · subst e; exact h.b
theorem MO_t {t : Nat} (ht : t < 2) (h : MO (l 0) (x 0) (l 1) (x 1) T W σ) : TT t σ (l t) (x t) := by
  rcases (show t = 0 ∨ t = 1 by omega) with e | e
  · subst e; exact h.a
  · subst e; exact h.b
theorem KC_ed {t len : Nat} {tx : Nat → Nat} {σ1 : Sg} (ht : t < 2) (h : KC (l 0) (x 0) (l 1) (x 1) S D Lc σ) (h1 : Tx (bk t) σ1 len tx) (f : Fr (Pt (bk t)) σ σ1) : KC (upl l t len 0) (upx x t tx 0) (upl l t len 1) (upx x t tx 1) S D Lc (ed t σ1) := by
  have fe := ed_Fr (t := t) (σ := σ1)
  have ee : ∀ c, c ≠ 12 → c ≠ 29 → c ≠ 35 → c ≠ 25 → (ed t σ1).1 c = σ1.1 c := fun c h1 h2 h3 h4 => funext fun k => fe.2 c k (by unfold Ped2; omega)
  rcases (show t = 0 ∨ t = 1 by omega) with e | e
  · subst e
    have e0 : ∀ c, c ≠ 10 → c ≠ 11 → c ≠ 12 → c ≠ 29 → c ≠ 35 → (ed 0 σ1).1 c = σ.1 c := fun c h1 h2 h3 h4 h5 => by
      have q1 : (ed 0 σ1).1 c = σ1.1 c := by
        unfold ed; rw [if_pos rfl, si_c h5, si_c h4, si_c h3]
      rw [q1]; exact funext fun k => f.2 c k (by unfold Pt bk; omega)
    refine ⟨Tx_e h1 (ee _ (by omega) (by omega) (by omega) (by omega)) (ee _ (by omega) (by omega) (by omega) (by omega)), Tx_e h.b (e0 _ (by omega) (by omega) (by omega) (by omega) (by omega)) (e0 _ (by omega) (by omega) (by omega) (by omega) (by omega)), ⟨by rw [e0 27 (by omega) (by omega) (by omega) (by omega) (by omega)]; exact h.w.1, by rw [e0 28 (by omega) (by omega) (by omega) (by omega) (by omega)]; exact h.w.2⟩, Or.inl (by simp [ed, si_1]), ?_, Or.inl (by simp [ed, si_1]), Or.inl (by simp [ed, si_1])⟩
    rw [e0 25 (by omega) (by omega) (by omega) (by omega) (by omega)]
    exact h.f1.imp_right (fun y => ⟨y.1, CI_cg y.2.1 (fun c hc => e0 c (by omega) (by omega) (by omega) (by omega) (by omega)), y.2.2⟩)
  · subst e
    have e0 : ∀ c, c ≠ 23 → c ≠ 24 → c ≠ 25 → c ≠ 35 → (ed 1 σ1).1 c = σ.1 c := fun c h1 h2 h3 h5 => by
      have q1 : (ed 1 σ1).1 c = σ1.1 c := by
        unfold ed; rw [if_neg (by omega), si_c h5, si_c h3]
      rw [q1]; exact funext fun k => f.2 c k (by unfold Pt bk; omega)
    refine ⟨Tx_e h.a (e0 _ (by omega) (by omega) (by omega) (by omega)) (e0 _ (by omega) (by omega) (by omega) (by omega)), Tx_e h1 (ee _ (by decide) (by decide) (by decide) (by decide)) (ee _ (by decide) (by decide) (by decide) (by decide)), ⟨by rw [e0 27 (by omega) (by omega) (by omega) (by omega)]; exact h.w.1, by rw [e0 28 (by omega) (by omega) (by omega) (by omega)]; exact h.w.2⟩, ?_, Or.inl (by simp [ed, si_1]), ?_, Or.inl (by simp [ed, si_1])⟩
    · rw [e0 12 (by omega) (by omega) (by omega) (by omega)]
      exact h.f0.imp_right (fun y => ⟨y.1, CI_cg y.2.1 (fun c hc => e0 c (by omega) (by omega) (by omega) (by omega)), y.2.2⟩)
    · rw [e0 29 (by omega) (by omega) (by omega) (by omega), e0 12 (by omega) (by omega) (by omega) (by omega)]
      exact h.fp.imp_right (fun y => ⟨y.1, y.2.1, PF_e y.2.2 (fun c h1 h2 => e0 c (by omega) (by omega) (by omega) (by omega))⟩)
/-- a class's step leaves the reference alone, and the other way round -/
def CSt (σ σ' : Sg) : Prop := (∀ c, 53 < c → σ'.1 c = σ.1 c) ∧ (∀ c, 53 < c → σ'.2.1 c = σ.2.1 c)
def MSt (σ σ' : Sg) : Prop := (∀ c, c < 54 → σ'.1 c = σ.1 c) ∧ (∀ c, c < 54 → σ'.2.1 c = σ.2.1 c) ∧ σ'.2.2 = σ.2.2
theorem CSt_Fr {P : Nat → Nat → Prop} {σ' : Sg} (f : Fr P σ σ') (hP : ∀ c k, P c k → c ≤ 53) : CSt σ σ' := ⟨fun c hc => funext fun k => f.2 c k (fun q => by have := hP c k q; omega), fun c _ => by rw [f.1]⟩
theorem CSt_t {σ1 σ2 : Sg} (h : CSt σ σ1) (k : CSt σ1 σ2) : CSt σ σ2 := ⟨fun c hc => (k.1 c hc).trans (h.1 c hc), fun c hc => (k.2 c hc).trans (h.2 c hc)⟩
theorem MSt_Fr {P : Nat → Nat → Prop} {σ' : Sg} (f : Fr P σ σ') (hP : ∀ c k, P c k → 54 ≤ c) : MSt σ σ' := ⟨fun c hc => funext fun k => f.2 c k (fun q => by have := hP c k q; omega), fun c _ => by rw [f.1], by rw [f.1]⟩
theorem MSt_t {σ1 σ2 : Sg} (h : MSt σ σ1) (k : MSt σ1 σ2) : MSt σ σ2 := ⟨fun c hc => (k.1 c hc).trans (h.1 c hc), fun c hc => (k.2.1 c hc).trans (h.2.1 c hc), k.2.2.trans h.2.2⟩
theorem MSt_r : MSt σ σ := ⟨fun _ _ => rfl, fun _ _ => rfl, rfl⟩
theorem KC_M {lS lD : Nat} {tS tD : Nat → Nat} {σ' : Sg} (h : KC lS tS lD tD S D Lc σ) (m : MSt σ σ') : KC lS tS lD tD S D Lc σ' := KC_f h (fun c hc => m.1 c (by omega)) (fun c hc => m.2.1 c (by omega))
theorem KO_M {σ' : Sg} (h : KO T W σ) (m : MSt σ σ') : KO T W σ' := KO_f h (fun c h1 h2 _ _ _ k _ => by rw [m.1 c (by omega)]) (by rw [m.2.2])
theorem MO_C {lS lD : Nat} {tS tD : Nat → Nat} {σ' : Sg} (h : MO lS tS lD tD T W σ) (m : CSt σ σ') : MO lS tS lD tD T W σ' := MO_f h (fun c hc => m.1 c (by omega)) (fun k _ => by rw [m.1 54 (by omega)]) (m.2 55 (by omega))
theorem KO_ed {t : Nat} {σ1 : Sg} (h : KO T W σ) (f : Fr (Pt (bk t)) σ σ1) (ht : t < 2) : KO T W (ed t σ1) := by
  have fe := ed_Fr (t := t) (σ := σ1)
  refine KO_f h (fun c h1 h2 _ _ _ k _ => ?_) (by rw [fe.1, f.1])
  rw [fe.2 c k (by unfold Ped2; omega), f.2 c k (by unfold Pt bk; omega)]
theorem CSt_ed {t : Nat} {σ1 : Sg} (f : Fr (Pt (bk t)) σ σ1) (ht : t < 2) : CSt σ (ed t σ1) :=
  CSt_t (CSt_Fr f (fun c k q => by unfold Pt bk at q; omega)) (CSt_Fr ed_Fr (fun c k q => by unfold Ped2 at q; omega))
/-- an edit, and the mark of a throw -/
def Ped3 (t c k : Nat) : Prop := Ped t c k ∨ (c = 54 ∧ k = 1)
theorem MO_ed {t len : Nat} {tx : Nat → Nat} {σ1 : Sg} (ht : t < 2) (h : MO (l 0) (x 0) (l 1) (x 1) T W σ) (hr : l 0 ≤ 160 ∧ l 1 ≤ 80) (h1 : TT t σ1 len tx) (f : Fr (Ped3 t) σ σ1) : MO (upl l t len 0) (upx x t tx 0) (upl l t len 1) (upx x t tx 1) T W σ1 := by
  have ec : ∀ c, c ≠ 56 → c ≠ 57 → c ≠ 54 → σ1.1 c = σ.1 c := fun c q1 q2 q3 => funext fun k => f.2 c k (by unfold Ped3 Ped; omega)
  have e4 : ∀ k, k = 40 ∨ k = 42 → σ1.1 54 k = σ.1 54 k := fun k hk => f.2 54 k (by unfold Ped3 Ped; omega)
  have tw : σ1.2.1 55 = mwords := by rw [f.1]; exact h.w
  have hn := PNa_e h.n (e4 42 (by omega)) (ec 90 (by omega) (by omega) (by omega)) (ec 89 (by omega) (by omega) (by omega))
  have ht2 : σ1.1 54 40 = nI T.length := by rw [e4 40 (by omega)]; exact h.t
  have hr2 : ∀ j, j < T.length → σ1.1 88 j = nI (T.getD j 0) := by rw [ec 88 (by omega) (by omega) (by omega)]; exact h.r
  rcases (show t = 0 ∨ t = 1 by omega) with e | e
  · subst e
    exact ⟨h1, TT_o h.b (by show l 1 ≤ 80; exact hr.2) (by omega) (by omega) f (fun c k q => q.imp_right (fun z => z.1)), tw, ht2, hr2, hn⟩
  · subst e
    exact ⟨TT_o h.a (by show l 0 ≤ 160; exact hr.1) (by omega) (by omega) f (fun c k q => q.imp_right (fun z => z.1)), h1, tw, ht2, hr2, hn⟩
end ED
