def fB (len a d : Nat) : Nat := if a < len then 0 else 11 - d
noncomputable def nlen (tx : Nat → Nat) (len : Nat) (nm : Option Nat) : Nat := 5 * cI (∃ n, nm = some n ∧ n + 4 ≤ qe tx len (n + 1))
/-- the reference's run of a value -/
def MV (t len : Nat) (tx : Nat → Nat) (G G' : TG) (op : Nat → Nat) (d : Nat) (pr nm : Option Nat) (a a' : Nat) : Prop :=
  ∀ (σm : Sg) (h sn cm : Nat → Nat) (ne : Int32), MS t σm len tx G op d h sn cm a → HS G d h → (∀ p, pr = some p → 1 ≤ d ∧ h (d - 1) = p) → (pr = none → d = 0) → (∀ n, nm = some n → ne = nI (qe tx len (n + 1))) →
    ∃ σ1 σ2, Rv (wq_Md_value (oI nm) ne σm) σ1 ∧ MRun σ1 σ2 ∧ MS t σ2 len tx G' op d h sn cm a' ∧ MFr t σm σ2
def Vr (b t len : Nat) (tx : Nat → Nat) (n d : Nat) (σ : Sg) (G : TG) (op : Nat → Nat) (pr nm : Option Nat) (a : Nat) : Prop :=
  ∃ σ' G' a', Rv (wd_Rd_readValue n b (oI pr) (oI nm) (nI d) σ) σ' ∧ CI b σ' len tx G' op ∧ WG len G' ∧ (∀ k, G'.N ≤ k → op k = 0) ∧ σ'.1 (b + 12) 4 = nI a' ∧ a < a' ∧ a' ≤ len ∧ Ex G G' pr ∧
    (∀ p, pr = some p → G'.K p = G.K p ++ [G.N] ∧ chE (σ'.1 (b + 8)) (nI (p + 1)) (G'.K p) = nI G'.N) ∧ Bd tx len G' a' d 1 (fB len a' d) ∧ CFr b σ σ' ∧ G.N < G'.N ∧ MV t len tx G G' op d pr nm a a'
def Vc (b t len : Nat) (tx : Nat → Nat) (n d : Nat) : Prop :=
  ∀ (σ : Sg) (G : TG) (op : Nat → Nat) (pr nm : Option Nat) (a : Nat), CI b σ len tx G op → WG len G → (∀ k, G.N ≤ k → op k = 0) → σ.1 (b + 12) 4 = nI a → a < len → stt (tx a) d → lvO G pr = d → PR len G pr nm →
    (∀ p, pr = some p → chE (σ.1 (b + 8)) (nI (p + 1)) (G.K p) = nI G.N) → G.N ≤ a → 5 * tqG tx len G + nlen tx len nm ≤ a → (G.F = 0 → 2 * G.N ≤ a + d) → G.F ≤ 2 * a + 1 → QT tx G → (∀ n, nm = some n → tx n = 34) → Vr b t len tx n d σ G op pr nm a
/-- what is inside a bracket has been read -/
def InR (b t len : Nat) (tx : Nat → Nat) (n d k : Nat) (op : Nat → Nat) (σ : Sg) (G : TG) (a cm sn r : Nat) : Prop :=
  ∃ σ' G' a', (∀ post : Sg → Prop, post σ' → ∃ f, wp_Rd_readInside (wd_Rd_readValue n) b post f 2 (nI k) (nI d) (nI (ob G k)) (nI (cz G k)) (nI cm) (nI sn) (nI r) σ) ∧ CI b σ' len tx G' op ∧ WG len G' ∧ (∀ j, G'.N ≤ j → op j = 0) ∧ σ'.1 (b + 12) 4 = nI a' ∧ a ≤ a' ∧ a' ≤ len ∧ Ex G G' (some k) ∧
    Bd tx len G' a' (d - 1) 1 (fB len a' (d - 1)) ∧ CFr b σ σ' ∧
    ∀ (σm : Sg) (h snf cmf : Nat → Nat), MS t σm len tx G op d h snf cmf a → HS G d h → h (d - 1) = k → snf (d - 1) = sn → cmf (d - 1) = cm →
      ∃ σ2, MRun σm σ2 ∧ MS t σ2 len tx (gC G' k a') (fun j => if j = k then 0 else op j) (d - 1) h snf cmf a' ∧ MFr t σm σ2
theorem MS_fc {t len a d : Nat} {tx : Nat → Nat} {σ : Sg} {G : TG} {op h sn cm sn' cm' : Nat → Nat} (m : MS t σ len tx G op d h sn cm a) (e : ∀ j, j < d → sn' j = sn j ∧ cm' j = cm j) : MS t σ len tx G op d h sn' cm' a :=
  ⟨m.tt, m.i, ⟨m.s.dd, m.s.hh, m.s.l, fun j hj => by rw [(e j hj).1]; exact m.s.ss j hj, fun j hj => by rw [(e j hj).2]; exact m.s.cc j hj⟩, m.aa, m.w⟩
/-- writes to the stack's marks -/
theorem MS_74 {t len a d x v : Nat} {tx : Nat → Nat} {σ : Sg} {G : TG} {op h sn cm : Nat → Nat} (m : MS t σ len tx G op d h sn cm a) : MS t (si σ 74 x (nI v)) len tx G op d h (fun j => if j = x then v else sn j) cm a :=
  ⟨TM_si m.tt (by decide) (by decide) (by omega), MI_si m.i (by omega), ⟨by rw [si_c (by decide)]; exact m.s.dd, by rw [si_c (by decide)]; exact m.s.hh, by rw [si_c (by decide)]; exact m.s.l, fun j hj => by
    rw [si_1]; by_cases e : j = x
    · simp [e]
    · simp [e]; exact m.s.ss j hj, by rw [si_c (by decide)]; exact m.s.cc⟩, by rw [si_c (by decide)]; exact m.aa, m.w⟩
theorem MS_75 {t len a d x v : Nat} {tx : Nat → Nat} {σ : Sg} {G : TG} {op h sn cm : Nat → Nat} (m : MS t σ len tx G op d h sn cm a) : MS t (si σ 75 x (nI v)) len tx G op d h sn (fun j => if j = x then v else cm j) a :=
  ⟨TM_si m.tt (by decide) (by decide) (by omega), MI_si m.i (by omega), ⟨by rw [si_c (by decide)]; exact m.s.dd, by rw [si_c (by decide)]; exact m.s.hh, by rw [si_c (by decide)]; exact m.s.l, by rw [si_c (by decide)]; exact m.s.ss, fun j hj => by
    rw [si_1]; by_cases e : j = x
    · simp [e]
    · simp [e]; exact m.s.cc j hj⟩, by rw [si_c (by decide)]; exact m.aa, m.w⟩
theorem MS_pop {t len a d : Nat} {tx : Nat → Nat} {σ : Sg} {G : TG} {op h sn cm : Nat → Nat} (m : MS t σ len tx G op d h sn cm a) : MS t (si σ 54 20 (nI (d - 1))) len tx G op (d - 1) h sn cm a :=
  ⟨TM_si m.tt (by decide) (by decide) (by decide), MI_si m.i (by omega), ⟨by rw [si_1, if_pos ⟨rfl, rfl⟩], fun j hj => by rw [si_c (by decide)]; exact m.s.hh j (by omega), fun j hj => by rw [si_c (by decide)]; exact m.s.l j (by omega), fun j hj => by rw [si_c (by decide)]; exact m.s.ss j (by omega), fun j hj => by rw [si_c (by decide)]; exact m.s.cc j (by omega)⟩, by rw [si_1, if_neg (by omega)]; exact m.aa, m.w⟩
theorem ob_e {G G' : TG} {p : Option Nat} {k : Nat} (e : Ex G G' p) (hk : k < G.N) : ob G' k = ob G k := by unfold ob; rw [e.kd k hk]
theorem cz_e {G G' : TG} {p : Option Nat} {k : Nat} (e : Ex G G' p) (hk : k < G.N) : cz G' k = cz G k := by unfold cz; rw [e.kd k hk]
theorem InR_step {b t len n d k a cm sn r a1 cm1 sn1 r1 : Nat} {tx : Nat → Nat} {op : Nat → Nat} {σ σ1 : Sg} {G G1 : TG} (hk : k < G.N) (ex : Ex G G1 (some k)) (fr : CFr b σ σ1) (haa : a ≤ a1)
    (hs : ∀ post, (∃ f, wp_Rd_readInside (wd_Rd_readValue n) b post f 2 (nI k) (nI d) (nI (ob G k)) (nI (cz G k)) (nI cm1) (nI sn1) (nI r1) σ1) → ∃ f, wp_Rd_readInside (wd_Rd_readValue n) b post f 2 (nI k) (nI d) (nI (ob G k)) (nI (cz G k)) (nI cm) (nI sn) (nI r) σ)
    (hm : ∀ (σm : Sg) (h snf cmf : Nat → Nat), MS t σm len tx G op d h snf cmf a → HS G d h → h (d - 1) = k → snf (d - 1) = sn → cmf (d - 1) = cm → ∃ σm1 snf1 cmf1, MRun σm σm1 ∧ MS t σm1 len tx G1 op d h snf1 cmf1 a1 ∧ snf1 (d - 1) = sn1 ∧ cmf1 (d - 1) = cm1 ∧ (∀ j, j < d - 1 → snf j = snf1 j ∧ cmf j = cmf1 j) ∧ MFr t σm σm1)
    (I : InR b t len tx n d k op σ1 G1 a1 cm1 sn1 r1) : InR b t len tx n d k op σ G a cm sn r := by
  obtain ⟨σ', G', a', i1, i2, i3, i4, i5, i6, i7, i8, i9, i10, i11⟩ := I
  refine ⟨σ', G', a', fun post hp => hs post ?_, i2, i3, i4, i5, Nat.le_trans haa i6, i7, Ex_t ex i8, i9, CFr_t fr i10, ?_⟩
  · have := i1 post hp; rw [ob_e ex hk, cz_e ex hk] at this; exact this
  · intro σm h snf cmf m hh hk' hsn hcm
    obtain ⟨σm1, snf1, cmf1, q1, q2, q3, q4, q5, q6⟩ := hm σm h snf cmf m hh hk' hsn hcm
    obtain ⟨σ2, p1, p2, p3⟩ := i11 σm1 h snf1 cmf1 q2 (HS_e ex hh) hk' q3 q4
    exact ⟨σ2, MRun_t q1 p1, MS_fc p2 (fun j hj => q5 j hj), MFr_t q6 p3⟩
theorem QT_Fo {tx : Nat → Nat} {G : TG} {fo : Option Nat} (h : QT tx G) : QT tx (gFo G fo) := by cases fo <;> exact h
theorem tqG_Fo {tx : Nat → Nat} {len : Nat} {G : TG} {fo : Option Nat} : tqG tx len (gFo G fo) = tqG tx len G := by cases fo <;> rfl
theorem inside {b t len n d : Nat} {tx : Nat → Nat} (hbt : (b = 0 ∧ t = 0) ∨ (b = 13 ∧ t = 1)) (hV : Vc b t len tx n d) (hd1 : 1 ≤ d) (hd8 : d ≤ 8) (hlen : len ≤ tl b) (op : Nat → Nat) (k : Nat) (hopk : op k = 1) :
    ∀ (m : Nat) (σ : Sg) (G : TG) (a cm sn r : Nat), len - a ≤ m → CI b σ len tx G op → WG len G → (∀ j, G.N ≤ j → op j = 0) → σ.1 (b + 12) 4 = nI a → a ≤ len → k < G.N → G.lv k + 1 = d → (G.kd k = 5 ∨ G.kd k = 6) → chE (σ.1 (b + 8)) (nI (k + 1)) (G.K k) = nI G.N → r ≤ a → cm ≤ 1 → sn ≤ 1 → Bd tx len G a d sn (fB len a d) →
      InR b t len tx n d k op σ G a cm sn r := by
  have hb : b = 0 ∨ b = 13 := by omega
  have h4 := tl_le b
  have htl : 160 * t + tl b ≤ 240 := by rcases hbt with ⟨q1, q2⟩ | ⟨q1, q2⟩ <;> (subst q1; subst q2; decide)
  have htf : 2 * tl b + 17 ≤ tf b ∧ 2 * tl b + 17 < 400 := by rcases hbt with ⟨q1, q2⟩ | ⟨q1, q2⟩ <;> (subst q1; decide)
  intro m
  induction m with
  | zero =>
    intro σ G a cm sn r hm hC hW ho ha hal hk hlv hkd hE hr hc1 hs1 hB
    -- the end is here
    obtain ⟨a1, hs⟩ := Sp_ex (fun c => c = 32) tx len a hal
    have ha1 : a1 = len := by have := hs.1; have := hs.2.1; omega
    have hBf := hB.ff
    have hBn := hB.nn
    have hBq := hB.qq
    have C : Cn b σ len tx G op d a a1 k cm sn r := ⟨hb, hC, ha, hs, by omega, hk, by omega, by unfold fB at hBf; split at hBf <;> omega, hkd, hd8, hc1, hs1⟩
    refine ⟨bl b (ca b σ a1) G.F (4 + 16 * G.fr k), gF G (4 + 16 * G.fr k), a1, fun post hp => Rd_in_a C ha1 hp, CI_bl hb (CI_ca hb hC), WG_gF hW, ho, by rw [bl_c (by omega) (by omega)]; simp [ca, si_1], hs.1, hs.2.1, Ex_gF, ⟨?_, ?_, ?_, ?_, hB.qt⟩, CFr_bl (CFr_ca CFr_r), ?_⟩
    · show G.N ≤ a1; have := hs.1; omega
    · show 5 * tqG tx len G ≤ a1; have := hs.1; omega
    · intro q; exact absurd q (Nat.succ_ne_zero _)
    · show G.F + 1 ≤ _; unfold fB at hBf ⊢; have := hs.1; split at hBf <;> split <;> omega
    · intro σm h snf cmf mm hh hk' hsn hcm
      have T : Top t σm len tx G op d h snf cmf a a1 k := ⟨mm, hs, hk', hd1, hd8, hk, by omega, hkd, by omega, by unfold fB at hBf; split at hBf <;> omega, by omega, by omega, by omega⟩
      have g := Md_goOn_a T ha1
      have m1 := MS_w (k := k) (c := 61) (v := nI a1) (MS_nt (v := 4 + 16 * G.fr k) (MS_ma (a' := a1) mm)) (Or.inr ⟨rfl, by omega⟩)
      have m2 := MS_pop m1
      refine ⟨_, MRun_g mm.s.dd hd1 (by omega) g, MS_ok m2 (fun j hj => by simp [hj]) (Or.inl (by omega)) (fun _ => by rw [si_c (by decide), si_1, if_pos ⟨rfl, rfl⟩]), ?_⟩
      exact MFr_si (MFr_w (MFr_nt (MFr_ma MFr_r) T.F) (by omega) (by omega)) (Or.inl ⟨rfl, by omega⟩)
  | succ m ih =>
    intro σ G a cm sn r hm hC hW ho ha hal hk hlv hkd hE hr hc1 hs1 hB
    obtain ⟨a1, hs⟩ := Sp_ex (fun c => c = 32) tx len a hal
    have hs1' := hs.1
    have hs2' := hs.2.1
    have hBf := hB.ff
    have hBn := hB.nn
    have hBq := hB.qq
    have hBz := hB.zz
    have C : Cn b σ len tx G op d a a1 k cm sn r := ⟨hb, hC, ha, hs, by omega, hk, by omega, by unfold fB at hBf; split at hBf <;> omega, hkd, hd8, hc1, hs1⟩
    have hT : ∀ (σm : Sg) (h snf cmf : Nat → Nat), MS t σm len tx G op d h snf cmf a → h (d - 1) = k → snf (d - 1) = sn → cmf (d - 1) = cm → Top t σm len tx G op d h snf cmf a a1 k := fun σm h snf cmf mm hk' hsn hcm =>
      ⟨mm, hs, hk', hd1, hd8, hk, by omega, hkd, by omega, by unfold fB at hBf; split at hBf <;> omega, by omega, by omega, by omega⟩
    have e12 : (ca b σ a1).1 (b + 12) 4 = nI a1 := by simp [ca, si_1]
    have c1 := CI_ca (a := a1) hb hC
    rcases Nat.eq_or_lt_of_le hs2' with ha1 | hl
    · refine ⟨bl b (ca b σ a1) G.F (4 + 16 * G.fr k), gF G (4 + 16 * G.fr k), a1, fun post hp => Rd_in_a C ha1 hp, CI_bl hb (CI_ca hb hC), WG_gF hW, ho, by rw [bl_c (by omega) (by omega)]; simp [ca, si_1], hs.1, hs.2.1, Ex_gF, ⟨?_, ?_, ?_, ?_, hB.qt⟩, CFr_bl (CFr_ca CFr_r), ?_⟩
      · show G.N ≤ a1; omega
      · show 5 * tqG tx len G ≤ a1; omega
      · intro q; exact absurd q (Nat.succ_ne_zero _)
      · show G.F + 1 ≤ _; unfold fB at hBf ⊢; split at hBf <;> split <;> omega
      · intro σm h snf cmf mm hh hk' hsn hcm
        have T := hT σm h snf cmf mm hk' hsn hcm
        have g := Md_goOn_a T ha1
        have m1 := MS_w (k := k) (c := 61) (v := nI a1) (MS_nt (v := 4 + 16 * G.fr k) (MS_ma (a' := a1) mm)) (Or.inr ⟨rfl, by omega⟩)
        have m2 := MS_pop m1
        refine ⟨_, MRun_g mm.s.dd hd1 (by omega) g, MS_ok m2 (fun j hj => by simp [hj]) (Or.inl (by omega)) (fun _ => by rw [si_c (by decide), si_1, if_pos ⟨rfl, rfl⟩]), ?_⟩
        exact MFr_si (MFr_w (MFr_nt (MFr_ma MFr_r) T.F) (by omega) (by omega)) (Or.inl ⟨rfl, by omega⟩)
    · have hFa : G.F ≤ 2 * a := by unfold fB at hBf; rw [if_pos (by omega)] at hBf; omega
      by_cases x1 : tx a1 = cz G k
      · -- the end of the bracket
        have hcz : tx a1 = if G.kd k = 6 then 125 else 93 := x1
        let fo : Option Nat := if cm = 1 ∧ sn = 0 then some (10 + 16 * a1) else none
        have c2 : CI b (ca b (blO b (ca b σ a1) G.F fo) (a1 + 1)) len tx (gFo G fo) op := CI_ca hb (CI_blO hb c1)
        have hFo : (gFo G fo).F ≤ G.F + 1 := gFo_le
        refine ⟨ca b (blO b (ca b σ a1) G.F fo) (a1 + 1), gFo G fo, a1 + 1, fun post hp => ?_, c2, WG_gFo hW, by rw [gFo_N]; exact ho, by simp [ca, si_1], by omega, by omega, Ex_gFo, ⟨by rw [gFo_N]; omega, by rw [tqG_Fo]; omega, ?_, by unfold fB; split <;> omega, QT_Fo hB.qt⟩, CFr_ca (CFr_blO (CFr_ca CFr_r)), ?_⟩
        · refine ⟨1, Rd_in_l (f := 0) C hl (fun _ => ?_) (fun q => absurd x1 q) (fun q => absurd x1 q) (fun q => absurd x1 q)⟩
          refine ⟨fun q => ?_, fun q => ⟨fun q2 => ?_, fun q2 => ?_⟩⟩
          · have : fo = none := by simp only [fo]; rw [if_neg (by omega)]
            rw [this] at hp; exact hp
          · have : fo = none := by simp only [fo]; rw [if_neg (by omega)]
            rw [this] at hp; exact hp
          · have : fo = some (10 + 16 * a1) := by simp only [fo]; rw [if_pos (by omega)]
            rw [this] at hp; exact hp
        · intro q; rw [gFo_N]
          have : G.F = 0 := by have := (Ex_gFo (G := G) (fo := fo) (p := none)).F; omega
          have := hBz this; omega
        · intro σm h snf cmf mm hh hk' hsn hcm
          have T := hT σm h snf cmf mm hk' hsn hcm
          have g := Md_goOn_b T hl hcz
          rw [hsn, hcm] at g
          have m1 := MS_w (k := k) (c := 61) (v := nI (a1 + 1)) (MS_ma (a' := a1 + 1) (MS_ntO (fo := fo) (MS_ma (a' := a1) mm))) (Or.inr ⟨rfl, by omega⟩)
          have m2 := MS_pop m1
          refine ⟨_, MRun_g mm.s.dd hd1 (by omega) g, MS_ok m2 (fun j hj => by simp [hj]) (Or.inl (by omega)) (fun _ => by rw [si_c (by decide), si_1, if_pos ⟨rfl, rfl⟩]), ?_⟩
          exact MFr_si (MFr_w (MFr_ma (MFr_ntO (MFr_ma MFr_r) T.F)) (by omega) (by omega)) (Or.inl ⟨rfl, by omega⟩)
      · by_cases x2 : tx a1 = 44
        · -- a comma
          let fo : Option Nat := if sn = 0 then some (8 + 16 * a1) else none
          have hFo : (gFo G fo).F ≤ G.F + 1 := gFo_le
          have c2 : CI b (ca b (blO b (ca b σ a1) G.F fo) (a1 + 1)) len tx (gFo G fo) op := CI_ca hb (CI_blO hb c1)
          have e8 : (ca b (blO b (ca b σ a1) G.F fo) (a1 + 1)).1 (b + 8) = σ.1 (b + 8) := by
            funext j; unfold ca; rw [si_c (by omega), blO_c (by omega) (by omega), si_c (by omega)]
          refine InR_step (G1 := gFo G fo) (a1 := a1 + 1) (cm1 := 1) (sn1 := 0) (r1 := r + 1) hk Ex_gFo (CFr_ca (CFr_blO (CFr_ca CFr_r))) (by omega) (fun post hp => ?_) (fun σm h snf cmf mm hh hk' hsn hcm => ?_)
            (ih _ (gFo G fo) (a1 + 1) 1 0 (r + 1) (by omega) c2 (WG_gFo hW) (by rw [gFo_N]; exact ho) (by simp [ca, si_1]) (by omega) (by rw [gFo_N]; exact hk) (by rw [gFo_lv]; exact hlv) (by rw [gFo_kd]; exact hkd) (by rw [e8, gFo_K, gFo_N]; exact hE) (by omega) (by omega) (by omega) ⟨by rw [gFo_N]; omega, by rw [tqG_Fo]; omega, ?_, by unfold fB; split <;> omega, QT_Fo hB.qt⟩)
          · obtain ⟨f, hf⟩ := hp
            refine ⟨f + 2, Rd_in_l C hl (fun q => absurd q x1) (fun _ _ => ⟨fun q => ?_, fun q => ?_⟩) (fun _ q => absurd x2 q) (fun _ q => absurd x2 q)⟩
            · have : fo = none := by simp only [fo]; rw [if_neg q]
              rw [this] at hf; exact Rd_in_c e12 hf
            · have : fo = some (8 + 16 * a1) := by simp only [fo]; rw [if_pos q]
              rw [this] at hf; exact Rd_in_c (by rw [bl_c (by omega) (by omega)]; exact e12) hf
          · have T := hT σm h snf cmf mm hk' hsn hcm
            have g := Md_goOn_c T hl x2
            rw [hsn] at g
            refine ⟨_, _, _, MRun_g mm.s.dd hd1 (by omega) g, MS_ma (MS_75 (MS_74 (MS_ntO (fo := fo) (MS_ma (a' := a1) mm)))), by simp, by simp, fun j hj => by simp [show ¬ j = d - 1 by omega], ?_⟩
            exact MFr_ma (MFr_s (MFr_s (MFr_ntO (MFr_ma MFr_r) T.F) (by omega)) (by omega))
          · intro q; rw [gFo_N]
            have h0 : G.F = 0 := by have := (Ex_gFo (G := G) (fo := fo) (p := none)).F; omega
            have : ¬ sn = 0 := fun q2 => by
              have : fo = some (8 + 16 * a1) := by simp only [fo]; rw [if_pos q2]
              rw [this] at q; exact absurd q (Nat.succ_ne_zero _)
            have := hBz h0; omega
        · by_cases x3 : (if G.kd k = 6 then tx a1 = 34 else stt (tx a1) d)
          · -- an item
            let fo : Option Nat := if sn = 0 then none else some (9 + 16 * a1)
            have hFo : (gFo G fo).F ≤ G.F + 1 := gFo_le
            have c2 : CI b (blO b (ca b σ a1) G.F fo) len tx (gFo G fo) op := CI_blO hb c1
            have a2 : (blO b (ca b σ a1) G.F fo).1 (b + 12) 4 = nI a1 := by rw [blO_c (by omega) (by omega)]; exact e12
            have e8 : (blO b (ca b σ a1) G.F fo).1 (b + 8) = σ.1 (b + 8) := by
              funext j; rw [blO_c (by omega) (by omega)]; unfold ca; rw [si_c (by omega)]
            have f2 : CFr b σ (blO b (ca b σ a1) G.F fo) := CFr_blO (CFr_ca CFr_r)
            have hz2 : (gFo G fo).F = 0 → G.F = 0 ∧ sn = 0 := fun q => by
              refine ⟨by have := (Ex_gFo (G := G) (fo := fo) (p := none)).F; omega, Classical.byContradiction (fun q2 => ?_)⟩
              have : fo = some (9 + 16 * a1) := by simp only [fo]; rw [if_neg q2]
              rw [this] at q; exact absurd q (Nat.succ_ne_zero _)
            -- the rest of the class's and the reference's way, given what the item did
            have rest : ∀ (σ3 : Sg) (G3 : TG) (a3 : Nat), a1 < a3 → a3 ≤ len → CI b σ3 len tx G3 op → WG len G3 → (∀ j, G3.N ≤ j → op j = 0) → σ3.1 (b + 12) 4 = nI a3 → Ex G G3 (some k) → chE (σ3.1 (b + 8)) (nI (k + 1)) (G3.K k) = nI G3.N → Bd tx len G3 a3 d 1 (fB len a3 d) → CFr b σ σ3 →
                (∀ post, (∃ f, wp_Rd_readInside (wd_Rd_readValue n) b post f 2 (nI k) (nI d) (nI (ob G k)) (nI (cz G k)) (nI cm) (nI 1) (nI (r + 1)) σ3) → ∃ f, (if G.kd k = 6 then wq_Rd_readMember (wd_Rd_readValue n) b (nI k) (nI d) (blO b (ca b σ a1) G.F fo) (fun σ1 => wp_Rd_readInside (wd_Rd_readValue n) b post f 2 (nI k) (nI d) (nI (ob G k)) (nI (cz G k)) (nI cm) (nI 1) (nI (r + 1)) σ1)
                  else wd_Rd_readValue n b (nI k) (-nI 1) (nI d) (blO b (ca b σ a1) G.F fo) (fun σ1 => wp_Rd_readInside (wd_Rd_readValue n) b post f 2 (nI k) (nI d) (nI (ob G k)) (nI (cz G k)) (nI cm) (nI 1) (nI (r + 1)) σ1))) →
                (∀ (σm : Sg) (h snf cmf : Nat → Nat), MS t σm len tx (gFo G fo) op d h snf cmf a1 → HS G d h → h (d - 1) = k → ∃ σ1 σ2, (∀ post, post σ1 → (if G.kd k = 6 then wq_Md_member (nI (160 * t + k)) σm post else wq_Md_value (-nI 1) (-nI 1) σm post)) ∧ MRun σ1 σ2 ∧ MS t σ2 len tx G3 op d h snf cmf a3 ∧ MFr t σm σ2) → InR b t len tx n d k op σ G a cm sn r := by
              intro σ3 G3 a3 z1 z2 z3 z4 z5 z6 z7 z8 z9 z10 z11 z12
              refine InR_step (G1 := G3) (a1 := a3) (cm1 := cm) (sn1 := 1) (r1 := r + 1) hk z7 z10 (by omega) (fun post hp => ?_) (fun σm h snf cmf mm hh hk' hsn hcm => ?_)
                (ih _ G3 a3 cm 1 (r + 1) (by omega) z3 z4 z5 z6 z2 (Nat.lt_of_lt_of_le hk z7.N) (by rw [z7.lv k hk]; exact hlv) (by rw [z7.kd k hk]; exact hkd) z8 (by omega) hc1 (by omega) z9)
              · obtain ⟨f, hf⟩ := z11 post hp
                exact ⟨f + 3, Rd_in_l C hl (fun q => absurd q x1) (fun _ q => absurd q x2) (fun _ _ _ => Rd_in_i C hf) (fun _ _ q => absurd x3 q)⟩
              · have T := hT σm h snf cmf mm hk' hsn hcm
                have mm1 := MS_74 (x := d - 1) (v := 1) (MS_ntO (fo := fo) (MS_ma (a' := a1) mm))
                obtain ⟨σ1, σ2, w1, w2, w3, w4⟩ := z12 _ h _ cmf mm1 hh hk'
                have g : Rv (wq_Md_goOn σm) σ1 := fun post hp => Md_goOn_d T hl x3 post (by rw [hsn]; exact w1 post hp)
                refine ⟨σ2, _, _, MRun_t (MRun_g mm.s.dd hd1 (by omega) g) w2, w3, by simp, hcm, fun j hj => by simp [show ¬ j = d - 1 by omega], ?_⟩
                exact MFr_t (MFr_s (MFr_ntO (MFr_ma MFr_r) T.F) (by omega)) w4
            have hlv2 : lvO (gFo G fo) (some k) = d := by unfold lvO; rw [gFo_lv]; exact hlv
            rcases hkd with k5 | k6
            · -- of an array
              have hst : stt (tx a1) d := by rw [k5, if_neg (by decide)] at x3; exact x3
              obtain ⟨σ3, G3, a3, v1, v2, v3, v4, v5, v6, v7, v8, v9, v10, v11, v12, v13⟩ := hV (blO b (ca b σ a1) G.F fo) (gFo G fo) op (some k) none a1 c2 (WG_gFo hW) (by rw [gFo_N]; exact ho) a2 hl hst hlv2 ⟨by rw [gFo_N]; exact hk, Or.inr ⟨by rw [gFo_kd]; exact k5, rfl⟩⟩
                (fun p hp => by injection hp with hp; subst hp; rw [e8, gFo_K, gFo_N]; exact hE) (by rw [gFo_N]; omega) (by rw [tqG_Fo]; unfold nlen; rw [cI_f (by simp)]; omega) (fun q => by rw [gFo_N]; have h1 := hz2 q; have := hBz h1.1; omega) (by omega) (QT_Fo hB.qt) (fun n q => by cases q)
              refine rest σ3 G3 a3 v6 v7 v2 v3 v4 v5 (Ex_t Ex_gFo v8) (v9 k rfl).2 v10 (CFr_t f2 v11) (fun post hp => ?_) (fun σm h snf cmf mm hh hk' => ?_)
              · obtain ⟨f, hf⟩ := hp
                refine ⟨f, ?_⟩
                rw [k5, if_neg (by decide)]
                exact v1 _ hf
              · obtain ⟨σ1, σ2, w1, w2, w3, w4⟩ := v13 σm h snf cmf (-nI 1) mm (HS_e (p := none) Ex_gFo hh) (fun p hp => by injection hp with hp; subst hp; exact ⟨hd1, hk'⟩) (fun q => by cases q) (fun n q => by cases q)
                refine ⟨σ1, σ2, fun post hp => ?_, w2, w3, w4⟩
                rw [k5, if_neg (by decide)]
                exact w1 post hp
            · -- of an object
              have hst : tx a1 = 34 := by rw [k6, if_pos rfl] at x3; exact x3
              obtain ⟨e, a22, a33, a4, a5, hM⟩ := Mb_ex (tx := tx) hl
              have hFm : (mbG tx len a1 e a33 (gFo G fo) k).F ≤ (gFo G fo).F + (if e < len then 0 else 1) + 2 := by
                unfold mbG
                refine Nat.le_trans gFo_le (Nat.succ_le_succ (Nat.le_trans gFo_le (Nat.succ_le_succ ?_)))
                split <;> simp [gFo, gF, mkT_N, mkT_F, mkT_fl, mkT_kd, mkT_fr, mkT_en, mkT_pr, mkT_nm, mkT_nu, mkT_K, mkT_lv]
              have hFm1 : G.F ≤ (mbG tx len a1 e a33 (gFo G fo) k).F := by
                have q1 := (Ex_gFo (G := G) (fo := fo) (p := none)).F
                have q2 := (Ex_gFo (G := gFo G fo) (fo := (if e < len then none else some (4 + 16 * a1))) (p := none)).F
                unfold mbG
                exact Nat.le_trans q1 (Nat.le_trans q2 (Nat.le_trans (Ex_gFo (p := none)).F (Ex_gFo (p := none)).F))
              have hFm0 : (gFo G fo).F ≤ (mbG tx len a1 e a33 (gFo G fo) k).F := by
                have q2 := (Ex_gFo (G := gFo G fo) (fo := (if e < len then none else some (4 + 16 * a1))) (p := none)).F
                unfold mbG
                exact Nat.le_trans q2 (Nat.le_trans (Ex_gFo (p := none)).F (Ex_gFo (p := none)).F)
              have exm : Ex (gFo G fo) (mbG tx len a1 e a33 (gFo G fo) k) (some k) := Ex_t Ex_gFo (Ex_t Ex_gFo Ex_gFo)
              have wgm : WG len (mbG tx len a1 e a33 (gFo G fo) k) := WG_gFo (WG_gFo (WG_gFo (WG_gFo hW)))
              have qtm : QT tx (mbG tx len a1 e a33 (gFo G fo) k) := QT_Fo (QT_Fo (QT_Fo (QT_Fo hB.qt)))
              have tqm : tqG tx len (mbG tx len a1 e a33 (gFo G fo) k) = tqG tx len G := by unfold mbG; rw [tqG_Fo, tqG_Fo, tqG_Fo, tqG_Fo]
              have Nm : (mbG tx len a1 e a33 (gFo G fo) k).N = G.N := by rw [mbG_N, gFo_N]
              have Km : (mbG tx len a1 e a33 (gFo G fo) k).K = G.K := by unfold mbG; rw [gFo_K, gFo_K, gFo_K, gFo_K]
              have kdm : (mbG tx len a1 e a33 (gFo G fo) k).kd = G.kd := by unfold mbG; rw [gFo_kd, gFo_kd, gFo_kd, gFo_kd]
              have lvm : (mbG tx len a1 e a33 (gFo G fo) k).lv = G.lv := by unfold mbG; rw [gFo_lv, gFo_lv, gFo_lv, gFo_lv]
              have l1 := hM.s1.1
              have l2 := hM.s1.2.1
              have l3 := hM.s3.1
              have l4 := hM.s3.2.1
              have l5 := hM.s5.1
              have l6 := hM.s5.2.1
              have l7 := hM.s2
              have l8 := hM.s4
              have p45 : a33 ≤ a4 := by rw [l8]; split <;> omega
              have p25 : (e < len → e + 1 ≤ a5) ∧ (¬ e < len → a5 = len) := by
                refine ⟨fun q => ?_, fun q => ?_⟩
                · rw [if_pos q] at l7; omega
                · rw [if_neg q] at l7; omega
              have p5 : a1 < a5 := by rcases Nat.lt_or_ge e len with q | q
                                      · have := p25.1 q; omega
                                      · have := p25.2 (by omega); omega
              obtain ⟨σ5, v1, v2, v3, v4, v5⟩ := mem_c (V := wd_Rd_readValue n) hb c2 (WG_gFo hW) a2 hl hM (by rw [gFo_N]; exact hk) (by omega) (by rw [gFo_kd]; exact k6) (by rw [gFo_N]; omega) (by omega) hd8
              have hE5 : chE (σ5.1 (b + 8)) (nI (k + 1)) (G.K k) = nI G.N := by rw [v4, e8]; exact hE
              by_cases hb5 : a5 < len ∧ stt (tx a5) d
              · have he5 : e < len := Classical.byContradiction (fun q => by have := p25.2 q; omega)
                have he6 := p25.1 he5
                rw [if_pos he5] at hFm
                obtain ⟨σ3, G3, a3, y1, y2, y3, y4, y5, y6, y7, y8, y9, y10, y11, y12, y13⟩ := hV σ5 (mbG tx len a1 e a33 (gFo G fo) k) op (some k) (some a1) a5 v1 wgm (by rw [Nm]; exact ho) v2 hb5.1 hb5.2 (by unfold lvO; rw [lvm]; exact hlv) ⟨by rw [Nm]; exact hk, Or.inl ⟨by rw [kdm]; exact k6, a1, rfl, hl⟩⟩
                  (fun p hp => by injection hp with hp; subst hp; rw [Km, Nm]; exact hE5) (by rw [Nm]; omega) (by
                    rw [tqm]; unfold nlen
                    by_cases hq : ∃ n, some a1 = some n ∧ n + 4 ≤ qe tx len (n + 1)
                    · rw [cI_t hq]; obtain ⟨n', q1, q2⟩ := hq; injection q1 with q1; subst q1; rw [qe_eq hM.s1] at q2; omega
                    · rw [cI_f hq]; omega) (fun q => by rw [Nm]; have h1 := hz2 (by omega); have := hBz h1.1; omega) (by omega) qtm (fun n q => by injection q with q; rw [← q]; exact hst)
                refine rest σ3 G3 a3 (by omega) y7 y2 y3 y4 y5 (Ex_t Ex_gFo (Ex_t exm y8)) (y9 k rfl).2 y10 (CFr_t f2 (CFr_t v3 y11)) (fun post hp => ?_) (fun σm h snf cmf mm hh hk' => ?_)
                · obtain ⟨f, hf⟩ := hp
                  refine ⟨f, ?_⟩
                  rw [k6, if_pos rfl]
                  refine v5 _ ?_
                  rw [if_pos hb5]
                  exact y1 _ hf
                · obtain ⟨σm5, u1, u2, u3⟩ := mem_m mm (WG_gFo hW) hl hM (by rw [gFo_N]; exact hk) (by rw [gFo_kd]; exact k6) (by rw [gFo_N]; omega) (by rw [gFo_N]; omega) (by omega) hd8
                  obtain ⟨σ1, σ2, w1, w2, w3, w4⟩ := y13 σm5 h snf cmf (nI e) u1 (HS_e exm (HS_e (p := none) Ex_gFo hh)) (fun p hp => by injection hp with hp; subst hp; exact ⟨hd1, hk'⟩) (fun q => by cases q) (fun n q => by injection q with q; subst q; rw [qe_eq hM.s1])
                  refine ⟨σ1, σ2, fun post hp => ?_, w2, w3, MFr_t u2 w4⟩
                  rw [k6, if_pos rfl]
                  refine u3 post ?_
                  rw [if_pos hb5]
                  exact w1 post hp
              · have c6 := CI_bl (v := 12 + 16 * a5) hb v1
                refine rest _ _ a5 p5 l6 c6 (WG_gF wgm) (by show ∀ j, (mbG tx len a1 e a33 (gFo G fo) k).N ≤ j → _; rw [Nm]; exact ho) (by rw [bl_c (by omega) (by omega)]; exact v2) (Ex_t Ex_gFo (Ex_t exm Ex_gF)) ?_ ⟨?_, ?_, ?_, ?_, qtm⟩ (CFr_bl (CFr_t f2 v3)) (fun post hp => ?_) (fun σm h snf cmf mm hh hk' => ?_)
                · show chE _ _ ((mbG tx len a1 e a33 (gFo G fo) k).K k) = nI (mbG tx len a1 e a33 (gFo G fo) k).N
                  rw [Km, Nm]
                  have : (bl b σ5 (mbG tx len a1 e a33 (gFo G fo) k).F (12 + 16 * a5)).1 (b + 8) = σ5.1 (b + 8) := by funext j; exact bl_c (by omega) (by omega)
                  rw [this]; exact hE5
                · show (mbG tx len a1 e a33 (gFo G fo) k).N ≤ a5; rw [Nm]; omega
                · show 5 * tqG tx len (mbG tx len a1 e a33 (gFo G fo) k) ≤ a5; rw [tqm]; omega
                · intro q; exact absurd q (Nat.succ_ne_zero _)
                · show (mbG tx len a1 e a33 (gFo G fo) k).F + 1 ≤ 2 * a5 + fB len a5 d
                  unfold fB
                  rcases Nat.lt_or_ge e len with q | q
                  · have := p25.1 q; rw [if_pos q] at hFm; split <;> omega
                  · have := p25.2 (by omega); rw [if_neg (by omega)] at hFm; rw [if_neg (by omega)]; omega
                · obtain ⟨f, hf⟩ := hp
                  refine ⟨f, ?_⟩
                  rw [k6, if_pos rfl]
                  refine v5 _ ?_
                  rw [if_neg hb5]
                  exact hf
                · obtain ⟨σm5, u1, u2, u3⟩ := mem_m mm (WG_gFo hW) hl hM (by rw [gFo_N]; exact hk) (by rw [gFo_kd]; exact k6) (by rw [gFo_N]; omega) (by rw [gFo_N]; omega) (by omega) hd8
                  refine ⟨_, _, fun post hp => ?_, MRun_r, MS_nt (v := 12 + 16 * a5) u1, MFr_nt u2 (by split at hFm <;> omega)⟩
                  rw [k6, if_pos rfl]
                  refine u3 post ?_
                  rw [if_neg hb5]
                  exact hp
          · -- what is wrong
            let v : Nat := (if 8 ≤ d ∧ isOp (tx a1) then 14 else 3) + 16 * a1
            have c2 : CI b (ca b (bl b (ca b σ a1) G.F v) (a1 + 1)) len tx (gF G v) op := CI_ca hb (CI_bl hb c1)
            have e8 : (ca b (bl b (ca b σ a1) G.F v) (a1 + 1)).1 (b + 8) = σ.1 (b + 8) := by
              funext j; unfold ca; rw [si_c (by omega), bl_c (by omega) (by omega), si_c (by omega)]
            refine InR_step (G1 := gF G v) (a1 := a1 + 1) (cm1 := cm) (sn1 := sn) (r1 := r + 1) hk Ex_gF (CFr_ca (CFr_bl (CFr_ca CFr_r))) (by omega) (fun post hp => ?_) (fun σm h snf cmf mm hh hk' hsn hcm => ?_)
              (ih _ (gF G v) (a1 + 1) cm sn (r + 1) (by omega) c2 (WG_gF hW) ho (by simp [ca, si_1]) (by omega) hk hlv hkd (by rw [e8]; exact hE) (by omega) hc1 hs1 ⟨by show G.N ≤ _; omega, by show 5 * tqG tx len G ≤ _; omega, fun q => absurd q (Nat.succ_ne_zero _), by show G.F + 1 ≤ _; unfold fB; split <;> omega, hB.qt⟩)
            · obtain ⟨f, hf⟩ := hp
              exact ⟨f + 1, Rd_in_l C hl (fun q => absurd q x1) (fun _ q => absurd q x2) (fun _ _ q => absurd q x3) (fun _ _ _ => hf)⟩
            · have T := hT σm h snf cmf mm hk' hsn hcm
              have g := Md_goOn_e T hl (show ¬ tx a1 = if G.kd k = 6 then 125 else 93 from x1) x2 (by split <;> (rename_i q; simp only [q, if_true, if_false] at x3; exact x3))
              exact ⟨_, _, _, MRun_g mm.s.dd hd1 (by omega) g, MS_ma (MS_nt (MS_ma (a' := a1) mm)), hsn, hcm, fun j hj => ⟨rfl, rfl⟩, MFr_ma (MFr_nt (MFr_ma MFr_r) T.F)⟩
