section TU
variable {Q : Sg → Prop} {σ : Sg}
/-- the law's comparing of a call -/
def Cm (Q : Sg → Prop) (r1 r2 : Int32) (σ2 : Sg) : Prop := wq_Md_thrown σ2 (fun r3 σ3 => ((r3 = r1 → ((¬ r1 = 0 → Q σ3) ∧ (r1 = 0 → (vp_in (0 : Int32) 1 ∧ (((lg_cmp (σ3.2.1 53 ((0 : Int32) : Int32).toNatClampNeg) ((r2 : Int32).toInt64)) = 0 → Q σ3) ∧ (¬ (lg_cmp (σ3.2.1 53 ((0 : Int32) : Int32).toNatClampNeg) ((r2 : Int32).toInt64)) = 0 → False)))))) ∧ (¬ r3 = r1 → False)))
theorem vin0 : vp_in (0 : Int32) 1 := (n_in (a := 0) (by omega)).mpr (by omega)
theorem Cm_0 {r2 : Int32} (h1 : σ.1 54 1 = 0) (h2 : σ.2.1 53 0 = r2.toInt64) (hq : Q σ) : Cm Q 0 r2 σ := by
  refine ⟨fun _ => ⟨fun z => absurd rfl z, fun _ => ⟨vin0, fun _ => hq, fun z => z ?_⟩⟩, fun z => absurd h1 z⟩
  rw [lg_cmp_eq]; exact h2
theorem Cm_n {r2 r : Int32} (h0 : ¬ r = 0) (h1 : σ.1 54 1 = r) (hq : Q σ) : Cm Q r r2 σ := ⟨fun _ => ⟨fun _ => hq, fun z => absurd z h0⟩, fun z => absurd h1 z⟩
/-- the value is laid down -/
theorem lay {r : Int32} {post : Int32 → Sg → Prop} (h : post 0 (sl σ 53 0 r.toInt64)) : vp_in (0 : Int32) 1 ∧ (∀ σ2, σ2 = sl σ 53 ((0 : Int32) : Int32).toNatClampNeg (r.toInt64) → post (0 : Int32) σ2) :=
  ⟨vin0, fun σ2 q => by rw [q]; exact h⟩
theorem J_i {σ : Sg} {l : Nat → Nat} {x : Nat → Nat → Nat} {S D : TG} {Lc T : List Nat} {W : List (List Nat)} (h1 : KC (l 0) (x 0) (l 1) (x 1) S D Lc σ) (h2 : KO T W σ) (h3 : MO (l 0) (x 0) (l 1) (x 1) T W σ) (h4 : BO T W) : J σ := ⟨_, _, _, _, _, _, _, _, _, h1, h2, h3, h4⟩
theorem J_o {σ : Sg} (h : J σ) : ∃ (l : Nat → Nat) (x : Nat → Nat → Nat) (S D : TG) (Lc T : List Nat) (W : List (List Nat)), KC (l 0) (x 0) (l 1) (x 1) S D Lc σ ∧ KO T W σ ∧ MO (l 0) (x 0) (l 1) (x 1) T W σ ∧ BO T W := by
  obtain ⟨lS, tS, lD, tD, S, D, Lc, T, W, h⟩ := h
  exact ⟨fun u => if u = 0 then lS else lD, fun u => if u = 0 then tS else tD, S, D, Lc, T, W, h⟩
theorem KC_l {l : Nat → Nat} {x : Nat → Nat → Nat} {S D : TG} {Lc : List Nat} (h : KC (l 0) (x 0) (l 1) (x 1) S D Lc σ) : l 0 ≤ 160 ∧ l 1 ≤ 80 := ⟨h.a.2.1, h.b.2.1⟩
theorem KC_lt {l : Nat → Nat} {x : Nat → Nat → Nat} {S D : TG} {Lc : List Nat} {t : Nat} (ht : t < 2) (h : KC (l 0) (x 0) (l 1) (x 1) S D Lc σ) : l t ≤ rm t := by
  have := KC_l h
  rcases rm_v ht with ⟨e, q⟩ | ⟨e, q⟩ <;> (subst e; omega)
/-- nothing but the mark of a throw changed in the reference -/
theorem J_thr {k : Int32} (h : J σ) : J (si σ 54 1 k) := by
  obtain ⟨l, x, S, D, Lc, T, W, h1, h2, h3, h4⟩ := J_o h
  have f : Fr (fun c k => c = 54 ∧ k = 1) σ (si σ 54 1 k) := Fr_si Fr_r ⟨rfl, rfl⟩
  have m := MSt_Fr f (fun c k q => by omega)
  exact J_i (KC_M h1 m) (KO_M h2 m) (MO_f h3 (fun c hc => si_c (by omega)) (fun k hk => by rw [si_1, if_neg (by omega)]) rfl) h4
/-- only the law's cell changed -/
theorem J_53 {v : Int64} (h : J σ) : J (sl σ 53 0 v) := by
  obtain ⟨l, x, S, D, Lc, T, W, h1, h2, h3, h4⟩ := J_o h
  have e : ∀ c, c ≠ 53 → (sl σ 53 0 v).2.1 c = σ.2.1 c := fun c hc => funext fun k => by rw [sl_2, if_neg (fun q => hc q.1)]
  exact J_i (KC_f h1 (fun c _ => rfl) (fun c hc => e c (by omega))) (KO_f h2 (fun c _ _ _ _ _ k _ => rfl) rfl) (MO_f h3 (fun c _ => rfl) (fun k _ => rfl) (e 55 (by omega))) h4
/-- an edit of a text, on both sides -/
theorem J_ed {l : Nat → Nat} {x : Nat → Nat → Nat} {S D : TG} {Lc T : List Nat} {W : List (List Nat)} {t len : Nat} {tx : Nat → Nat} {σ1 σ2 : Sg} (ht : t < 2) (h1 : KC (l 0) (x 0) (l 1) (x 1) S D Lc σ) (h2 : KO T W σ) (h3 : MO (l 0) (x 0) (l 1) (x 1) T W σ) (h4 : BO T W)
    (c1 : Tx (bk t) σ1 len tx) (c2 : Fr (Pt (bk t)) σ σ1) (m1 : TT t σ2 len tx) (m2 : Fr (Ped3 t) (ed t σ1) σ2) : J σ2 := by
  have ms := MSt_Fr m2 (fun c k q => by unfold Ped3 Ped at q; omega)
  have k1 := KC_M (KC_ed ht h1 c1 c2) ms
  have k2 := KO_M (KO_ed h2 c2 ht) ms
  have k3 := MO_ed ht (MO_C h3 (CSt_ed c2 ht)) (KC_l h1) m1 m2
  exact J_i (l := upl l t len) (x := upx x t tx) k1 k2 k3 h4
theorem MO_TT {l : Nat → Nat} {x : Nat → Nat → Nat} {T : List Nat} {W : List (List Nat)} {t : Nat} {σ1 : Sg} (ht : t < 2) (h3 : MO (l 0) (x 0) (l 1) (x 1) T W σ) (c2 : Fr (Pt (bk t)) σ σ1) : TT t (ed t σ1) (l t) (x t) := MO_t ht (MO_C h3 (CSt_ed c2 ht))
theorem Fr_54 {t : Nat} {k : Int32} {σ' : Sg} (f : Fr (Ped t) (si σ 54 1 k) σ') : Fr (Ped3 t) σ σ' := Fr_t (Fr_si Fr_r (Or.inr ⟨rfl, rfl⟩)) ⟨f.1, fun c k q => f.2 c k (fun z => q (Or.inl z))⟩
theorem TT_54 {t len : Nat} {tx : Nat → Nat} {k : Int32} (h : TT t σ len tx) : TT t (si σ 54 1 k) len tx := TT_e h (si_c (by omega)) (si_c (by omega))
theorem room_m {t : Nat} (ht : t < 2) {post : Int32 → Sg → Prop} (hp : post (nI (rm t)) σ) : wq_Md_room (nI t) σ post := by
  unfold wq_Md_room
  rcases rm_v ht with ⟨e, q⟩ | ⟨e, q⟩
  · subst e; rw [q] at hp; exact ⟨fun z => absurd rfl z, fun _ => hp⟩
  · subst e; rw [q] at hp; exact ⟨fun _ => hp, fun z => absurd z i10⟩
/-- type -/
theorem t_type (hJ : J σ) (hQ : ∀ σ', J σ' → Q σ') (x1 x2 : Int32) {post : Int32 → Sg → Prop} (hp : ∀ r1 σ1, wq_Md_type x1 x2 σ1 (fun r2 σ2 => ((r1 = r2 → Q σ2) ∧ (¬ r1 = r2 → False))) → post r1 σ1) : wq_Sd_type x1 x2 σ post := by
  obtain ⟨l, x, S, D, Lc, T, W, h1, h2, h3, h4⟩ := J_o hJ
  -- nothing happens
  have no : ∀ (hm : ∀ post : Int32 → Sg → Prop, post 0 (si σ 54 1 0) → wq_Md_type x1 x2 σ post), post 0 σ := fun hm => hp 0 σ (hm _ ⟨fun _ => hQ _ (J_thr hJ), fun z => z rfl⟩)
  unfold wq_Sd_type
  rcases txt_x x1 with ⟨t, ht, rfl⟩ | ⟨n0, n1⟩
  · refine isT_y ht ⟨fun z => absurd z i1_0, fun _ => ?_⟩
    have hTx := KC_t ht h1
    have hl := KC_lt ht h1
    have hr := rm_le ht
    rcases chr_x x2 with ⟨c, c1, c2, rfl⟩ | hc
    · refine isC_y c1 c2 ⟨fun _ => textOf ht ⟨bk_ok ht, ?_⟩, fun z => absurd z i1_0⟩
      unfold wq_Tx_room
      rw [hTx.1, tl_rm ht, pk_sub hl]
      by_cases hfull : l t < rm t
      · refine ⟨fun _ => ?_, fun z => absurd ((n_le (a := 1) (by omega) (by omega)).mpr (by omega)) z⟩
        obtain ⟨σ1, r1, r2, r3⟩ := put_r (k := l t) hTx (Nat.le_refl _) (by rw [tl_rm ht]; exact hfull) ⟨c1, c2⟩
        rw [hTx.1]
        refine r1 _ ?_
        refine edited ht ?_
        refine ⟨nb1, hp 1 _ ?_⟩
        have hTT : TT t (si (ed t σ1) 54 1 0) (l t) (x t) := TT_54 (MO_TT ht h3 r3)
        obtain ⟨σ2, m1, m2, m3⟩ := app_m hTT hfull ⟨c1, c2⟩
        intro σa ha
        rw [ha]
        refine mT_y ht ⟨fun z => absurd z i1_0, fun _ => mC_y c1 c2 ⟨fun z => absurd z i1_0, fun _ => ⟨(n_in (by omega)).mpr ht, room_m ht ?_⟩⟩⟩
        rw [n_cl (by omega), hTT.2]
        refine ⟨fun _ => m1 _ ⟨nb1, fun _ => hQ _ ?_, fun z => z rfl⟩, fun z => absurd ((n_eq (by omega) (by omega)).mp z) (by omega)⟩
        exact J_ed ht h1 h2 h3 h4 r2 r3 m2 (Fr_54 m3)
      · have hfe : l t = rm t := by omega
        refine ⟨fun z => absurd ((n_le (a := 1) (by omega) (by omega)).mp z) (by omega), fun _ => ⟨nb0, no (fun post hpo => ?_)⟩⟩
        have hTT : TT t (si σ 54 1 0) (l t) (x t) := TT_54 (MO_t ht h3)
        intro σa ha
        rw [ha]
        refine mT_y ht ⟨fun z => absurd z i1_0, fun _ => mC_y c1 c2 ⟨fun z => absurd z i1_0, fun _ => ⟨(n_in (by omega)).mpr ht, room_m ht ?_⟩⟩⟩
        rw [n_cl (by omega), hTT.2, hfe]
        exact ⟨fun z => absurd rfl z, fun _ => ⟨nb0, hpo⟩⟩
    · refine isC_n hc ⟨fun z => absurd rfl z, fun _ => ⟨nb0, no (fun post hpo => ?_)⟩⟩
      intro σa ha
      rw [ha]
      exact mT_y ht ⟨fun z => absurd z i1_0, fun _ => mC_n hc ⟨fun _ => ⟨nb0, hpo⟩, fun z => absurd rfl z⟩⟩
  · refine isT_n n0 n1 ⟨fun _ => ⟨nb0, no (fun post hpo => ?_)⟩, fun z => absurd rfl z⟩
    intro σa ha
    rw [ha]
    exact mT_n n0 n1 ⟨fun _ => ⟨nb0, hpo⟩, fun z => absurd rfl z⟩
/-- insert -/
theorem t_insert (hJ : J σ) (hQ : ∀ σ', J σ' → Q σ') (x1 x2 x3 : Int32) {post : Int32 → Sg → Prop} (hp : ∀ r1 σ1, wq_Md_insert x1 x2 x3 σ1 (fun σ2 => wq_Md_thrown σ2 (fun r3 σ3 => ((r3 = r1 → Q σ3) ∧ (¬ r3 = r1 → False)))) → post r1 σ1) : wq_Lw_insert x1 x2 x3 σ post := by
  obtain ⟨l, x, S, D, Lc, T, W, h1, h2, h3, h4⟩ := J_o hJ
  -- it throws
  have thr : ∀ r : Int32, ¬ r = 0 → (∀ (post : Sg → Prop) (n : Nat), wp_Md_insert post n 1 x1 x2 x3 0 0 (si σ 54 1 r) → wb_Md_insert_0 (wp_Md_insert post n) post x1 x2 x3 σ) → post r σ := fun r hr hm => hp r σ ⟨2, hm _ 1 ⟨fun z => absurd (by rw [si_1, if_pos ⟨rfl, rfl⟩] at z; exact z) hr, fun _ => ⟨fun _ => hQ _ (J_thr hJ), fun z => z (by rw [si_1, if_pos ⟨rfl, rfl⟩])⟩⟩⟩
  unfold wq_Lw_insert
  rcases txt_x x1 with ⟨t, ht, rfl⟩ | ⟨n0, n1⟩
  · have hTx := KC_t ht h1
    have hl := KC_lt ht h1
    have hr := rm_le ht
    have hTT := MO_t ht h3
    rcases chr_x x3 with ⟨c, c1, c2, rfl⟩ | hc
    · by_cases hx : x2 < 0 ∨ ¬ x2 ≤ nI (l t)
      · refine Or.inr (Or.inr (Or.inl ?_))
        refine isT_y ht ⟨fun z => absurd z i1_0, fun _ => isC_y c1 c2 ⟨fun _ => textOf ht ⟨bk_ok ht, ?_⟩, fun z => absurd z i1_0⟩⟩
        have hth := thr 2 (by decide +kernel) (fun post n hn => mT_y ht ⟨fun z => absurd z i1_0, fun _ => mC_y c1 c2 ⟨fun _ => ⟨fun _ σa ha => by rw [ha]; exact hn, fun _ => ⟨(n_in (by omega)).mpr ht, fun z => ?_, fun _ σa ha => by rw [ha]; exact hn⟩⟩, fun z => absurd z i1_0⟩⟩)
        · rw [hTx.1]
          exact ⟨fun _ => hth, fun z => ⟨fun y => hx.elim (fun q => absurd q z) (fun q => absurd y q), fun _ => hth⟩⟩
        · rename_i y
          rw [n_cl (by omega), hTT.2] at z
          exact hx.elim (fun q => absurd q y) (fun q => absurd z q)
      · have hx0 : ¬ x2 < 0 := fun q => hx (Or.inl q)
        have hx1 : x2 ≤ nI (l t) := Classical.byContradiction (fun q => hx (Or.inr q))
        obtain ⟨k, hk, rfl⟩ := nI_of hx0
        have hkl : k ≤ l t := (n_le hk (by omega)).mp hx1
        by_cases hfull : l t < rm t
        · refine Or.inl (isT_y ht ⟨fun z => absurd z i1_0, fun _ => isC_y c1 c2 ⟨fun _ => textOf ht ⟨bk_ok ht, fun z => absurd z hx0, fun _ => ⟨fun _ => ?_, fun z => ?_⟩⟩, fun z => absurd z i1_0⟩⟩)
          · unfold wq_Tx_room
            rw [hTx.1, tl_rm ht, pk_sub hl]
            refine ⟨fun _ => ?_, fun z => absurd ((n_le (a := 1) (by omega) (by omega)).mpr (by omega)) z⟩
            obtain ⟨σ1, r1, r2, r3⟩ := put_r (k := k) hTx hkl (by rw [tl_rm ht]; exact hfull) ⟨c1, c2⟩
            refine r1 _ ?_
            refine edited ht ?_
            refine hp 0 _ ?_
            have hTT1 : TT t (si (ed t σ1) 54 1 0) (l t) (x t) := TT_54 (MO_TT ht h3 r3)
            have hTT0 : TT t (ed t σ1) (l t) (x t) := MO_TT ht h3 r3
            obtain ⟨σ2, ⟨m2, m3⟩, m1⟩ := ins_m hTT1 hkl hfull ⟨c1, c2⟩
            obtain ⟨PO, hPO⟩ : ∃ PO : Sg → Prop, PO = (fun σ2 => wq_Md_thrown σ2 (fun r3 σ3 => ((r3 = 0 → Q σ3) ∧ (¬ r3 = 0 → False)))) := ⟨_, rfl⟩
            rw [← hPO]
            obtain ⟨n, hn⟩ := m1 PO (by
              rw [hPO]
              have e54 : σ2.1 54 1 = 0 := by rw [m3.2 54 1 (by unfold Ped; omega), si_1, if_pos ⟨rfl, rfl⟩]
              exact ⟨fun _ => hQ _ (J_ed ht h1 h2 h3 h4 r2 r3 m2 (Fr_54 m3)), fun z => z e54⟩)
            refine ⟨n + 2, ?_⟩
            show wb_Md_insert_0 (wp_Md_insert PO (n + 1)) PO (nI t) (nI k) (nI c) (ed t σ1)
            refine mT_y ht ⟨fun z => absurd z i1_0, fun _ => mC_y c1 c2 ⟨fun _ => ⟨fun z => absurd z hx0, fun _ => ⟨(n_in (by omega)).mpr ht, ?_⟩⟩, fun z => absurd z i1_0⟩⟩
            rw [n_cl (by omega), hTT0.2]
            refine ⟨fun _ => ⟨(n_in (by omega)).mpr ht, room_m ht ⟨fun _ σa ha => ?_, fun z => absurd ((n_eq (by omega) (by omega)).mp z) (by omega)⟩⟩, fun z => absurd hx1 z⟩
            rw [ha]
            refine ⟨fun _ => ⟨(n_in (by omega)).mpr ht, ?_⟩, fun z => absurd (by rw [si_1, if_pos ⟨rfl, rfl⟩]) z⟩
            rw [n_cl (by omega), hTT1.2, show (160 : Int32) = nI 160 from rfl, pk_mul, nI_add]
            exact hn
          · rw [hTx.1] at z; exact absurd hx1 z
        · have hfe : l t = rm t := by omega
          refine Or.inr (Or.inr (Or.inr (isT_y ht ⟨fun z => absurd z i1_0, fun _ => isC_y c1 c2 ⟨fun _ => textOf ht ⟨bk_ok ht, fun z => absurd z hx0, fun _ => ⟨fun _ => ?_, fun z => ?_⟩⟩, fun z => absurd z i1_0⟩⟩)))
          · unfold wq_Tx_room
            rw [hTx.1, tl_rm ht, pk_sub hl]
            refine ⟨fun z => absurd ((n_le (a := 1) (by omega) (by omega)).mp z) (by omega), fun _ => thr 3 (by decide +kernel) (fun post n hn => mT_y ht ⟨fun z => absurd z i1_0, fun _ => mC_y c1 c2 ⟨fun _ => ⟨fun z => absurd z hx0, fun _ => ⟨(n_in (by omega)).mpr ht, ?_⟩⟩, fun z => absurd z i1_0⟩⟩)⟩
            rw [n_cl (by omega), hTT.2]
            refine ⟨fun _ => ⟨(n_in (by omega)).mpr ht, room_m ht ⟨fun z => absurd (by rw [hfe]) z, fun _ σa ha => by rw [ha]; exact hn⟩⟩, fun z => absurd hx1 z⟩
          · rw [hTx.1] at z; exact absurd hx1 z
    · refine Or.inr (Or.inl (isT_y ht ⟨fun z => absurd z i1_0, fun _ => isC_n hc ⟨fun z => absurd rfl z, fun _ => thr 1 (by decide +kernel) (fun post n hn => mT_y ht ⟨fun z => absurd z i1_0, fun _ => mC_n hc ⟨fun z => absurd rfl z, fun _ σa ha => by rw [ha]; exact hn⟩⟩)⟩⟩))
  · refine Or.inr (Or.inl (isT_n n0 n1 ⟨fun _ => thr 1 (by decide +kernel) (fun post n hn => mT_n n0 n1 ⟨fun _ σa ha => by rw [ha]; exact hn, fun z => absurd rfl z⟩), fun z => absurd rfl z⟩))
end TU
section TV
variable {Q : Sg → Prop} {σ : Sg}
theorem lg_le3 {k n len : Nat} (h1 : k < 2147483648) (h2 : n < 2147483648) (h3 : len < 2147483648) : (lg_cmp ((nI k).toInt64 + (nI n).toInt64) (nI len).toInt64 ≤ 0) ↔ k + n ≤ len := by
  rw [lg_cmp_le, nI_l h1, nI_l h2, nI_l h3, lN_add, pk_lLE (by omega) (by omega)]
/-- remove -/
theorem t_remove (hJ : J σ) (hQ : ∀ σ', J σ' → Q σ') (x1 x2 x3 : Int32) {post : Int32 → Sg → Prop} (hp : ∀ r1 σ1, wq_Md_remove x1 x2 x3 σ1 (fun σ2 => wq_Md_thrown σ2 (fun r3 σ3 => ((r3 = r1 → Q σ3) ∧ (¬ r3 = r1 → False)))) → post r1 σ1) : wq_Lw_remove x1 x2 x3 σ post := by
  obtain ⟨l, x, S, D, Lc, T, W, h1, h2, h3, h4⟩ := J_o hJ
  have thr : ∀ r : Int32, ¬ r = 0 → (∀ (post : Sg → Prop) (n : Nat), wp_Md_remove post n 1 x1 x2 x3 0 0 (si σ 54 1 r) → wb_Md_remove_0 (wp_Md_remove post n) post x1 x2 x3 σ) → post r σ := fun r hr hm => hp r σ ⟨2, hm _ 1 ⟨fun z => absurd (by rw [si_1, if_pos ⟨rfl, rfl⟩] at z; exact z) hr, fun _ => ⟨fun _ => hQ _ (J_thr hJ), fun z => z (by rw [si_1, if_pos ⟨rfl, rfl⟩])⟩⟩⟩
  unfold wq_Lw_remove
  rcases txt_x x1 with ⟨t, ht, rfl⟩ | ⟨n0, n1⟩
  · have hTx := KC_t ht h1
    have hl := KC_lt ht h1
    have hr := rm_le ht
    have hTT := MO_t ht h3
    by_cases hx3 : 0 ≤ x3
    · have hx3' : ¬ x3 < 0 := Int32.not_lt.mpr hx3
      obtain ⟨n, hn, rfl⟩ := nI_of hx3'
      by_cases hx2 : x2 < 0
      · refine Or.inr (Or.inr (isT_y ht ⟨fun z => absurd z i1_0, fun _ => ⟨fun _ => textOf ht ⟨bk_ok ht, fun _ => ?_, fun z => absurd hx2 z⟩, fun z => absurd hx3 z⟩⟩))
        exact thr 2 (by decide +kernel) (fun post f hf => mT_y ht ⟨fun z => absurd z i1_0, fun _ => ⟨fun _ => ⟨fun _ σa ha => by rw [ha]; exact hf, fun z => absurd hx2 z⟩, fun z => absurd hx3 z⟩⟩)
      · obtain ⟨k, hk, rfl⟩ := nI_of hx2
        -- the class's comparing
        have ecl : (nI n ≤ nI (l t) - nI k) ↔ k + n ≤ l t := by
          by_cases hkl : k ≤ l t
          · rw [pk_sub hkl, n_le hn (by omega)]; omega
          · refine ⟨fun z => ?_, fun z => by omega⟩
            exfalso
            have e1 : (nI (l t) - nI k).toInt < 0 := by
              rw [Int32.toInt_sub, nI_toInt (by omega), nI_toInt (by omega)]
              rw [Int.bmod_def]
              split <;> omega
            have e2 : (nI n).toInt ≤ (nI (l t) - nI k).toInt := Int32.le_iff_toInt_le.mp z
            rw [nI_toInt hn] at e2
            omega
        by_cases hkn : k + n ≤ l t
        · refine Or.inl (isT_y ht ⟨fun z => absurd z i1_0, fun _ => ⟨fun _ => textOf ht ⟨bk_ok ht, fun z => absurd z hx2, fun _ => ?_⟩, fun z => absurd hx3 z⟩⟩)
          rw [hTx.1]
          refine ⟨fun _ => ?_, fun z => absurd (ecl.mpr hkn) z⟩
          obtain ⟨σ1, r1, r2, r3⟩ := take_r (k := k) (n := n) hTx hkn
          refine r1 _ ?_
          refine edited ht ?_
          refine hp 0 _ ?_
          have hTT1 : TT t (si (ed t σ1) 54 1 0) (l t) (x t) := TT_54 (MO_TT ht h3 r3)
          have hTT0 : TT t (ed t σ1) (l t) (x t) := MO_TT ht h3 r3
          obtain ⟨σ2, ⟨m2, m3⟩, m1⟩ := del_m hTT1 hkn hl
          obtain ⟨PO, hPO⟩ : ∃ PO : Sg → Prop, PO = (fun σ2 => wq_Md_thrown σ2 (fun r3 σ3 => ((r3 = 0 → Q σ3) ∧ (¬ r3 = 0 → False)))) := ⟨_, rfl⟩
          rw [← hPO]
          obtain ⟨f, hf⟩ := m1 PO (by
            rw [hPO]
            have e54 : σ2.1 54 1 = 0 := by rw [m3.2 54 1 (by unfold Ped; omega), si_1, if_pos ⟨rfl, rfl⟩]
            exact ⟨fun _ => hQ _ (J_ed ht h1 h2 h3 h4 r2 r3 m2 (Fr_54 m3)), fun z => z e54⟩)
          refine ⟨f + 2, ?_⟩
          show wb_Md_remove_0 (wp_Md_remove PO (f + 1)) PO (nI t) (nI k) (nI n) (ed t σ1)
          refine mT_y ht ⟨fun z => absurd z i1_0, fun _ => ⟨fun _ => ⟨fun z => absurd z hx2, fun _ => ⟨(n_in (by omega)).mpr ht, ?_⟩⟩, fun z => absurd hx3 z⟩⟩
          rw [n_cl (by omega), hTT0.2, lg_le3 hk hn (by omega)]
          refine ⟨fun _ σa ha => ?_, fun z => absurd hkn z⟩
          rw [ha]
          refine ⟨fun _ => ?_, fun z => absurd (by rw [si_1, if_pos ⟨rfl, rfl⟩]) z⟩
          rw [show (160 : Int32) = nI 160 from rfl, pk_mul, nI_add]
          exact hf
        · refine Or.inr (Or.inr (isT_y ht ⟨fun z => absurd z i1_0, fun _ => ⟨fun _ => textOf ht ⟨bk_ok ht, fun z => absurd z hx2, fun _ => ?_⟩, fun z => absurd hx3 z⟩⟩))
          rw [hTx.1]
          refine ⟨fun z => absurd (ecl.mp z) hkn, fun _ => thr 2 (by decide +kernel) (fun post f hf => mT_y ht ⟨fun z => absurd z i1_0, fun _ => ⟨fun _ => ⟨fun z => absurd z hx2, fun _ => ⟨(n_in (by omega)).mpr ht, ?_⟩⟩, fun z => absurd hx3 z⟩⟩)⟩
          rw [n_cl (by omega), hTT.2, lg_le3 hk hn (by omega)]
          exact ⟨fun z => absurd z hkn, fun _ σa ha => by rw [ha]; exact hf⟩
    · refine Or.inr (Or.inl (isT_y ht ⟨fun z => absurd z i1_0, fun _ => ⟨fun z => absurd z hx3, fun _ => thr 1 (by decide +kernel) (fun post f hf => mT_y ht ⟨fun z => absurd z i1_0, fun _ => ⟨fun z => absurd z hx3, fun _ σa ha => by rw [ha]; exact hf⟩⟩)⟩⟩))
  · refine Or.inr (Or.inl (isT_n n0 n1 ⟨fun _ => thr 1 (by decide +kernel) (fun post n hn => mT_n n0 n1 ⟨fun _ σa ha => by rw [ha]; exact hn, fun z => absurd rfl z⟩), fun z => absurd rfl z⟩))
/-- length -/
theorem t_length (hJ : J σ) (hQ : ∀ σ', J σ' → Q σ') (x1 : Int32) {post : Int32 → Sg → Prop} (hp : ∀ r1 σ1, wq_Md_length x1 σ1 (fun r2 σ2 => Cm Q r1 r2 σ2) → post r1 σ1) : wq_Lw_length x1 σ post := by
  obtain ⟨l, x, S, D, Lc, T, W, h1, h2, h3, h4⟩ := J_o hJ
  unfold wq_Lw_length
  rcases txt_x x1 with ⟨t, ht, rfl⟩ | ⟨n0, n1⟩
  · have hTx := KC_t ht h1
    have hTT := MO_t ht h3
    refine Or.inl (isT_y ht ⟨fun _ => textOf ht ⟨bk_ok ht, ?_⟩, fun z => absurd z i1_0⟩)
    rw [hTx.1]
    refine lay (hp 0 _ ⟨2, ?_⟩)
    show wb_Md_length_0 (wp_Md_length (fun r2 σ2 => Cm Q 0 r2 σ2) 1) (fun r2 σ2 => Cm Q 0 r2 σ2) (nI t) (sl σ 53 0 (nI (l t)).toInt64)
    refine mT_y ht ⟨fun z => absurd z i1_0, fun _ σa ha => ?_⟩
    rw [ha]
    have e57 : (si (sl σ 53 0 (nI (l t)).toInt64) 54 1 0).1 57 t = nI (l t) := by rw [si_c (by omega)]; exact hTT.2
    refine ⟨fun z => absurd (by rw [si_1, if_pos ⟨rfl, rfl⟩]) z, fun _ => ⟨(n_in (by omega)).mpr ht, ?_⟩⟩
    rw [n_cl (by omega), e57]
    exact Cm_0 (by rw [si_1, if_pos ⟨rfl, rfl⟩]) (by rw [si_2, sl_2, if_pos ⟨rfl, rfl⟩]) (hQ _ (J_thr (J_53 hJ)))
  · refine Or.inr (isT_n n0 n1 ⟨fun z => absurd rfl z, fun _ => hp 1 σ ⟨2, ?_⟩⟩)
    show wb_Md_length_0 (wp_Md_length (fun r2 σ2 => Cm Q 1 r2 σ2) 1) (fun r2 σ2 => Cm Q 1 r2 σ2) x1 σ
    refine mT_n n0 n1 ⟨fun _ σa ha => ?_, fun z => absurd rfl z⟩
    rw [ha]
    exact ⟨fun _ => Cm_n i1_0 (by rw [si_1, if_pos ⟨rfl, rfl⟩]) (hQ _ (J_thr hJ)), fun z => absurd (by rw [si_1, if_pos ⟨rfl, rfl⟩] at z; exact z) i1_0⟩
theorem ch_n {c : Nat} (h : c ≤ 126) : ((nI c).toUInt32 % 65536).toInt32 = nI c := by
  rw [pk_char, pk_tn (by omega), Nat.mod_eq_of_lt (by omega)]
/-- letter -/
theorem t_letter (hJ : J σ) (hQ : ∀ σ', J σ' → Q σ') (x1 x2 : Int32) {post : Int32 → Sg → Prop} (hp : ∀ r1 σ1, wq_Md_letter x1 x2 σ1 (fun r2 σ2 => Cm Q r1 r2 σ2) → post r1 σ1) : wq_Lw_letter x1 x2 σ post := by
  obtain ⟨l, x, S, D, Lc, T, W, h1, h2, h3, h4⟩ := J_o hJ
  have n32 : narrow .char (.int (32 : Int32)) = .int (32 : Int32) := (pk_charN (q := 32) (by omega)).1
  have thr : ∀ r : Int32, ¬ r = 0 → (∀ (post : Int32 → Sg → Prop) (n : Nat), wp_Md_letter post n 1 x1 x2 (si σ 54 1 r) → wb_Md_letter_0 (wp_Md_letter post n) post x1 x2 σ) → post r σ := fun r hr hm => hp r σ ⟨2, hm _ 1 ⟨fun _ => ⟨n32, Cm_n hr (by rw [si_1, if_pos ⟨rfl, rfl⟩]) (hQ _ (J_thr hJ))⟩, fun z => absurd (by rw [si_1, if_pos ⟨rfl, rfl⟩] at z; exact z) hr⟩⟩
  unfold wq_Lw_letter
  rcases txt_x x1 with ⟨t, ht, rfl⟩ | ⟨n0, n1⟩
  · have hTx := KC_t ht h1
    have hl := KC_lt ht h1
    have hr := rm_le ht
    have hTT := MO_t ht h3
    by_cases hx : x2 < 0 ∨ ¬ x2 < nI (l t)
    · refine Or.inr (Or.inr (isT_y ht ⟨fun _ => textOf ht ⟨bk_ok ht, ?_⟩, fun z => absurd z i1_0⟩))
      rw [hTx.1]
      have hth := thr 2 (by decide +kernel) (fun post n hn => mT_y ht ⟨fun _ => ⟨fun _ σa ha => by rw [ha]; exact hn, fun y => ⟨(n_in (by omega)).mpr ht, by
        rw [n_cl (by omega), hTT.2]
        exact ⟨fun z => hx.elim (fun q => absurd q y) (fun q => absurd z q), fun _ σa ha => by rw [ha]; exact hn⟩⟩⟩, fun z => absurd z i1_0⟩)
      exact ⟨fun _ => hth, fun y => ⟨fun z => hx.elim (fun q => absurd q y) (fun q => absurd z q), fun _ => hth⟩⟩
    · have hx0 : ¬ x2 < 0 := fun q => hx (Or.inl q)
      have hx1 : x2 < nI (l t) := Classical.byContradiction (fun q => hx (Or.inr q))
      obtain ⟨k, hk, rfl⟩ := nI_of hx0
      have hkl : k < l t := (n_lt hk (by omega)).mp hx1
      have hc := hTx.2.2 k hkl
      have hm : σ.1 56 (160 * t + k) = nI (x t k) := (hTT.1.2.2.2 k hkl).1
      refine Or.inl (isT_y ht ⟨fun _ => textOf ht ⟨bk_ok ht, fun z => absurd z hx0, fun _ => ?_⟩, fun z => absurd z i1_0⟩)
      rw [hTx.1, n_cl hk, hc.1]
      refine ⟨fun _ => ⟨(n_in hk).mpr (by rw [tl_rm ht]; omega), (pk_charN (by omega)).1, lay (hp 0 _ ⟨2, ?_⟩)⟩, fun z => absurd hx1 z⟩
      show wb_Md_letter_0 (wp_Md_letter (fun r2 σ2 => Cm Q 0 r2 σ2) 1) (fun r2 σ2 => Cm Q 0 r2 σ2) (nI t) (nI k) (sl σ 53 0 (nI (x t k)).toInt64)
      refine mT_y ht ⟨fun _ => ⟨fun z => absurd z hx0, fun _ => ⟨(n_in (by omega)).mpr ht, ?_⟩⟩, fun z => absurd z i1_0⟩
      have e57 : (sl σ 53 0 (nI (x t k)).toInt64).1 57 t = nI (l t) := hTT.2
      rw [n_cl (by omega), e57]
      refine ⟨fun _ σa ha => ?_, fun z => absurd hx1 z⟩
      rw [ha]
      refine ⟨fun z => absurd (by rw [si_1, if_pos ⟨rfl, rfl⟩]) z, fun _ => ?_⟩
      have e56 : (si (sl σ 53 0 (nI (x t k)).toInt64) 54 1 0).1 56 (160 * t + k) = nI (x t k) := by rw [si_c (by omega)]; exact hm
      rw [show (160 : Int32) = nI 160 from rfl, pk_mul, nI_add, n_cl (by omega), e56, ch_n (by omega)]
      exact ⟨(n_in (by omega)).mpr (by omega), (pk_charN (by omega)).1, Cm_0 (by rw [si_1, if_pos ⟨rfl, rfl⟩]) (by rw [si_2, sl_2, if_pos ⟨rfl, rfl⟩]) (hQ _ (J_thr (J_53 hJ)))⟩
  · refine Or.inr (Or.inl (isT_n n0 n1 ⟨fun z => absurd rfl z, fun _ => thr 1 (by decide +kernel) (fun post n hn => mT_n n0 n1 ⟨fun z => absurd rfl z, fun _ σa ha => by rw [ha]; exact hn⟩)⟩))
end TV
