section WO
variable {Q : Sg → Prop} {σ : Sg}
def wtx (tx : Nat → Nat) (len w : Nat) : Nat → Nat → Nat
  | 0 => tins tx len 34
  | k + 1 => tins (wtx tx len w k) (len + 1 + k) (wl (ws w + k))
def wen (tx : Nat → Nat) (len w : Nat) : Nat → Nat := if w ≤ 21 then tins (tins (wtx tx len w (we w - ws w)) (len + 1 + (we w - ws w)) 34) (len + 2 + (we w - ws w)) 58 else tins (wtx tx len w (we w - ws w)) (len + 1 + (we w - ws w)) 34
def wln (len w : Nat) : Nat := len + 2 + (we w - ws w) + (if w ≤ 21 then 1 else 0)
theorem word_c {t w len : Nat} {tx : Nat → Nat} (ht : t < 2) (w1 : 1 ≤ w) (w2 : w ≤ 27) (hl : wln len w ≤ rm t) (hW : WB σ) : ∀ m k (σ1 : Sg), k + m = we w - ws w → Tx (bk t) σ1 (len + 1 + k) (wtx tx len w k) → Fr (Pt (bk t)) σ σ1 →
    ∃ σ2, Tx (bk t) σ2 (wln len w) (wen tx len w) ∧ Fr (Pt (bk t)) σ σ2 ∧ ∀ post : Int32 → Sg → Prop, post 1 (ed t σ2) → ∃ n, wp_Sd_word post n 2 (bk t) (nI t) (nI w) (nI (if w ≤ 21 then 1 else 0)) (nI (we w - ws w)) (nI k) σ1 := by
  obtain ⟨o1, o2, o3, o4⟩ := ws_ok w (by omega) w1
  have hr := rm_le ht
  have htl := tl_rm ht
  have hln : len + 2 + (we w - ws w) + (if w ≤ 21 then 1 else 0) ≤ rm t := hl
  intro m
  induction m with
  | zero =>
    intro k σ1 hk hT f
    have : k = we w - ws w := by omega
    subst this
    obtain ⟨σa, a1, a2, a3⟩ := put_r (k := len + 1 + (we w - ws w)) (c := 34) hT (Nat.le_refl _) (by rw [htl]; split at hln <;> omega) (by omega)
    have go : ∀ (post : Int32 → Sg → Prop) n, ((nI (if w ≤ 21 then 1 else 0) = 0 → wq_Sd_edited (nI t) σa (fun σ2 => narrow .boolean (.int (1 : Int32)) = .int (1 : Int32) ∧ post 1 σ2)) ∧ (¬ nI (if w ≤ 21 then 1 else 0) = 0 → wq_Tx_put (bk t) (σa.1 (bk t + 10) 1) 58 σa (fun σ2 => wq_Sd_edited (nI t) σ2 (fun σ3 => narrow .boolean (.int (1 : Int32)) = .int (1 : Int32) ∧ post 1 σ3)))) → wp_Sd_word post (n + 1) 2 (bk t) (nI t) (nI w) (nI (if w ≤ 21 then 1 else 0)) (nI (we w - ws w)) (nI (we w - ws w)) σ1 := by
      intro post n h
      show wb_Sd_word_2 (wp_Sd_word post n) post (nI t) (nI w) (bk t) (nI (if w ≤ 21 then 1 else 0)) (nI (we w - ws w)) (nI (we w - ws w)) σ1
      unfold wb_Sd_word_2
      rw [hT.1]
      exact ⟨fun _ => a1 _ h, fun z => absurd ((n_le (by omega) (by omega)).mpr (Nat.le_refl _)) z⟩
    by_cases h21 : w ≤ 21
    · obtain ⟨σb, b1, b2, b3⟩ := put_r (k := len + 1 + (we w - ws w) + 1) (c := 58) a2 (Nat.le_refl _) (by rw [htl]; rw [if_pos h21] at hln; omega) (by omega)
      refine ⟨σb, ?_, Fr_t f (Fr_t a3 b3), fun post hp => ⟨1, go post 0 ⟨fun z => ?_, fun _ => ?_⟩⟩⟩
      · unfold wln wen; rw [if_pos h21, if_pos h21]
        rw [show len + 2 + (we w - ws w) = len + 1 + (we w - ws w) + 1 by omega]; exact b2
      · rw [if_pos h21] at z; exact absurd z i1_0
      · rw [a2.1]
        refine b1 _ ?_
        exact edited ht ⟨nb1, hp⟩
    · refine ⟨σa, ?_, Fr_t f a3, fun post hp => ⟨1, go post 0 ⟨fun _ => edited ht ⟨nb1, hp⟩, fun z => ?_⟩⟩⟩
      · unfold wln wen; rw [if_neg h21, if_neg h21]
        rw [show len + 2 + (we w - ws w) + 0 = len + 1 + (we w - ws w) + 1 by omega]; exact a2
      · rw [if_neg h21] at z; exact absurd rfl z
  | succ m ih =>
    intro k σ1 hk hT f
    have hwl := (mw_l w (by omega) w1 k (by omega)).2
    have hwu := wl_ok (ws w + k) (by omega)
    obtain ⟨σa, a1, a2, a3⟩ := put_r (k := len + 1 + k) (c := wl (ws w + k)) hT (Nat.le_refl _) (by rw [htl]; split at hln <;> omega) ⟨hwl, hwu⟩
    obtain ⟨σ2, q1, q2, q3⟩ := ih (k + 1) σa (by omega) a2 (Fr_t f a3)
    refine ⟨σ2, q1, q2, fun post hp => ?_⟩
    obtain ⟨n, hn⟩ := q3 post hp
    refine ⟨n + 1, ?_⟩
    show wb_Sd_word_2 (wp_Sd_word post n) post (nI t) (nI w) (bk t) (nI (if w ≤ 21 then 1 else 0)) (nI (we w - ws w)) (nI k) σ1
    unfold wb_Sd_word_2
    refine ⟨fun z => absurd ((n_le (by omega) (by omega)).mp z) (by omega), fun _ => ?_⟩
    have e28 : σ1.1 28 w = nI (ws w) := by rw [f.2 28 w (by unfold Pt bk; omega), hW.2]; rfl
    have e27 : σ1.1 27 (ws w + k) = nI (wl (ws w + k)) := by rw [f.2 27 _ (by unfold Pt bk; omega), hW.1]; rfl
    unfold wq_Wb_characterOf
    rw [n_cl (a := w) (by omega), e28, nI_add, n_cl (a := ws w + k) (by omega), e27, hT.1, show (1 : Int32) = nI 1 from rfl, nI_add]
    refine ⟨(n_in (by omega)).mpr (by omega), (n_in (by omega)).mpr (by omega), (pk_charN (by omega)).1, a1 _ hn⟩
theorem letters_m {w : Nat} (w1 : 1 ≤ w) (w2 : w ≤ 27) (σ : Sg) : Ri (wq_Md_letters (mwords (w - 1)) σ) (nI (we w - ws w)) σ := by
  obtain ⟨o1, o2, o3, o4⟩ := ws_ok w (by omega) w1
  intro post hp
  have key : ∀ m k, k + m = we w - ws w → ∃ n, wp_Md_letters post n 1 (nI k) (mwords (w - 1)) σ := by
    intro m
    induction m with
    | zero =>
      intro k hk
      refine ⟨1, ?_⟩
      show wb_Md_letters_1 (wp_Md_letters post 0) post (mwords (w - 1)) (nI k) σ
      have : k = we w - ws w := by omega
      subst this
      exact ⟨fun _ => hp, fun z => absurd ((mw_n w (by omega) w1 _ (by omega)).mpr (Nat.le_refl _)) z⟩
    | succ m ih =>
      intro k hk
      obtain ⟨n, hn⟩ := ih (k + 1) (by omega)
      refine ⟨n + 1, ?_⟩
      show wb_Md_letters_1 (wp_Md_letters post n) post (mwords (w - 1)) (nI k) σ
      unfold wb_Md_letters_1
      rw [show (1 : Int32) = nI 1 from rfl, nI_add]
      exact ⟨fun z => absurd ((mw_n w (by omega) w1 k (by omega)).mp z) (by omega), fun _ => hn⟩
  obtain ⟨n, hn⟩ := key (we w - ws w) 0 (by omega)
  exact ⟨n + 1, hn⟩
theorem word_m {t w len : Nat} {tx : Nat → Nat} (ht : t < 2) (w1 : 1 ≤ w) (w2 : w ≤ 27) (hl : wln len w ≤ rm t) : ∀ m k (σ1 : Sg), k + m = we w - ws w → TT t σ1 (len + 1 + k) (wtx tx len w k) → Fr (Ped t) σ σ1 →
    ∃ σ2, TT t σ2 (wln len w) (wen tx len w) ∧ Fr (Ped t) σ σ2 ∧ ∀ post : Int32 → Sg → Prop, post 1 σ2 → ∃ n, wp_Md_word post n 2 (nI t) (nI w) (nI (we w - ws w)) 0 (nI k) (mwords (w - 1)) σ1 := by
  obtain ⟨o1, o2, o3, o4⟩ := ws_ok w (by omega) w1
  have hr := rm_le ht
  have hln : len + 2 + (we w - ws w) + (if w ≤ 21 then 1 else 0) ≤ rm t := hl
  intro m
  induction m with
  | zero =>
    intro k σ1 hk hT f
    have : k = we w - ws w := by omega
    subst this
    obtain ⟨σa, a1, a2, a3⟩ := app_m (c := 34) hT (by split at hln <;> omega) (by omega)
    have go : ∀ (post : Int32 → Sg → Prop) n, (((22 : Int32) ≤ nI w → (narrow .boolean (.int (1 : Int32)) = .int (1 : Int32) ∧ post 1 σa)) ∧ (¬ (22 : Int32) ≤ nI w → wq_Md_append (nI t) 58 σa (fun σ2 => narrow .boolean (.int (1 : Int32)) = .int (1 : Int32) ∧ post 1 σ2))) → wp_Md_word post (n + 1) 2 (nI t) (nI w) (nI (we w - ws w)) 0 (nI (we w - ws w)) (mwords (w - 1)) σ1 := by
      intro post n h
      show wb_Md_word_2 (wp_Md_word post n) post (nI t) (nI w) (mwords (w - 1)) (nI (we w - ws w)) (nI (we w - ws w)) σ1
      unfold wb_Md_word_2
      exact ⟨fun _ => a1 _ h, fun z => absurd ((n_le (by omega) (by omega)).mpr (Nat.le_refl _)) z⟩
    by_cases h21 : w ≤ 21
    · obtain ⟨σb, b1, b2, b3⟩ := app_m (c := 58) a2 (by rw [if_pos h21] at hln; omega) (by omega)
      refine ⟨σb, ?_, Fr_t f (Fr_t a3 b3), fun post hp => ⟨1, go post 0 ⟨fun z => absurd ((n_le (a := 22) (by omega) (by omega)).mp z) (by omega), fun _ => b1 _ ⟨nb1, hp⟩⟩⟩⟩
      unfold wln wen; rw [if_pos h21, if_pos h21]
      rw [show len + 2 + (we w - ws w) = len + 1 + (we w - ws w) + 1 by omega]; exact b2
    · refine ⟨σa, ?_, Fr_t f a3, fun post hp => ⟨1, go post 0 ⟨fun _ => ⟨nb1, hp⟩, fun z => absurd ((n_le (a := 22) (by omega) (by omega)).mpr (by omega)) z⟩⟩⟩
      unfold wln wen; rw [if_neg h21, if_neg h21]
      rw [show len + 2 + (we w - ws w) + 0 = len + 1 + (we w - ws w) + 1 by omega]; exact a2
  | succ m ih =>
    intro k σ1 hk hT f
    have hw := mw_l w (by omega) w1 k (by omega)
    have hwu := wl_ok (ws w + k) (by omega)
    obtain ⟨σa, a1, a2, a3⟩ := app_m (c := wl (ws w + k)) hT (by split at hln <;> omega) ⟨hw.2, hwu⟩
    obtain ⟨σ2, q1, q2, q3⟩ := ih (k + 1) σa (by omega) a2 (Fr_t f a3)
    refine ⟨σ2, q1, q2, fun post hp => ?_⟩
    obtain ⟨n, hn⟩ := q3 post hp
    refine ⟨n + 1, ?_⟩
    show wb_Md_word_2 (wp_Md_word post n) post (nI t) (nI w) (mwords (w - 1)) (nI (we w - ws w)) (nI k) σ1
    unfold wb_Md_word_2
    refine ⟨fun z => absurd ((n_le (by omega) (by omega)).mp z) (by omega), fun _ => ?_⟩
    rw [hw.1, show (1 : Int32) = nI 1 from rfl, nI_add]
    exact a1 _ hn
theorem wrd_x (x : Int32) : (∃ w, 1 ≤ w ∧ w ≤ 27 ∧ x = nI w) ∨ (x < 1 ∨ ¬ x ≤ 27) := by
  by_cases h0 : x < 1
  · exact Or.inr (Or.inl h0)
  · by_cases h1 : x ≤ 27
    · have hx : ¬ x < 0 := fun z => h0 (Int32.lt_trans z (by decide +kernel))
      obtain ⟨j, hj, rfl⟩ := nI_of hx
      have a1 : ¬ j < 1 := fun z => h0 ((n_lt (b := 1) (by omega) (by omega)).mpr z)
      have a2 : j ≤ 27 := (n_le (b := 27) (by omega) (by omega)).mp h1
      exact Or.inl ⟨j, by omega, by omega, rfl⟩
    · exact Or.inr (Or.inr h1)
/-- word -/
theorem t_word (hJ : J σ) (hQ : ∀ σ', J σ' → Q σ') (x1 x2 : Int32) {post : Int32 → Sg → Prop} (hp : ∀ r1 σ1, wq_Md_word x1 x2 σ1 (fun r2 σ2 => ((r1 = r2 → Q σ2) ∧ (¬ r1 = r2 → False))) → post r1 σ1) : wq_Sd_word x1 x2 σ post := by
  obtain ⟨l, x, S, D, Lc, T, W, h1, h2, h3, h4⟩ := J_o hJ
  obtain ⟨P0, hP0⟩ : ∃ P0 : Int32 → Sg → Prop, P0 = fun r2 σ2 => (((0 : Int32) = r2 → Q σ2) ∧ (¬ (0 : Int32) = r2 → False)) := ⟨_, rfl⟩
  have hP0' : P0 0 (si σ 54 1 0) := by rw [hP0]; exact ⟨fun _ => hQ _ (J_thr hJ), fun z => z rfl⟩
  have no : (∃ n, wb_Md_word_0 (wp_Md_word P0 n) P0 x1 x2 σ) → post 0 σ := fun ⟨n, hm⟩ => hp 0 σ (by rw [hP0] at hm; exact ⟨n + 1, hm⟩)
  rcases txt_x x1 with ⟨t, ht, rfl⟩ | ⟨n0, n1⟩
  · rcases wrd_x x2 with ⟨w, w1, w2, rfl⟩ | hc
    · have hTx := KC_t ht h1
      have hl := KC_lt ht h1
      have hr := rm_le ht
      have hTT := MO_t ht h3
      obtain ⟨o1, o2, o3, o4⟩ := ws_ok w (by omega) w1
      have hmw : σ.2.1 55 (w - 1) = mwords (w - 1) := by rw [h3.w]
      have hsz : σ.1 28 (w + 1) = nI (we w + 1) := by rw [h1.w.2, o2]; rfl
      have hsw : σ.1 28 w = nI (ws w) := by rw [h1.w.2]; rfl
      have hs1 : nI (we w + 1) - nI 1 - nI (ws w) = nI (we w - ws w) := by rw [pk_sub (by omega), Nat.add_sub_cancel, pk_sub (by omega)]
      -- the first two blocks of the class
      have cls : ∀ (P : Int32 → Sg → Prop) n, (wln (l t) w ≤ rm t → wq_Tx_put (bk t) (nI (l t)) 34 σ (fun σ3 => wp_Sd_word P n 2 (bk t) (nI t) (nI w) (nI (if w ≤ 21 then 1 else 0)) (nI (we w - ws w)) 0 σ3)) → (¬ wln (l t) w ≤ rm t → P 0 σ) → wq_Sd_word (nI t) (nI w) σ P := by
        intro P n y1 y2
        have one : wp_Sd_word P (n + 1) 1 (bk t) (nI t) (nI w) (nI (if w ≤ 21 then 1 else 0)) 0 0 σ := by
          show wb_Sd_word_1 (wp_Sd_word P n) P (nI t) (nI w) (bk t) (nI (if w ≤ 21 then 1 else 0)) σ
          unfold wb_Sd_word_1 wq_Wb_sizeOf wq_Tx_room
          rw [show (1 : Int32) = nI 1 from rfl, nI_add, n_cl (a := w + 1) (by omega), n_cl (a := w) (by omega), hsz, hsw, hs1]
          dsimp only
          rw [hTx.1, tl_rm ht, pk_sub hl, show (2 : Int32) = nI 2 from rfl, show (3 : Int32) = nI 3 from rfl, nI_add, nI_add, n_le (by omega) (by omega), n_le (by omega) (by omega)]
          refine ⟨(n_in (by omega)).mpr (by omega), (n_in (by omega)).mpr (by omega), fun z => ?_, fun z => ?_⟩
          · have h21 : ¬ w ≤ 21 := fun q => by rw [if_pos q] at z; exact i1_0 z
            have e : wln (l t) w = l t + 2 + (we w - ws w) := by unfold wln; rw [if_neg h21, Nat.add_zero]
            rw [e] at y1 y2
            exact ⟨fun q => y1 (by omega), fun q => ⟨nb0, y2 (by omega)⟩⟩
          · have h21 : w ≤ 21 := Classical.byContradiction (fun q => by rw [if_neg q] at z; exact z rfl)
            have e : wln (l t) w = l t + 2 + (we w - ws w) + 1 := by unfold wln; rw [if_pos h21]
            rw [e] at y1 y2
            exact ⟨fun q => y1 (by omega), fun q => ⟨nb0, y2 (by omega)⟩⟩
        refine ⟨n + 2, ?_⟩
        show wb_Sd_word_0 (wp_Sd_word P (n + 1)) P (nI t) (nI w) σ
        refine isT_y ht ⟨fun z => absurd z i1_0, fun _ => ⟨fun z => absurd ((n_lt (b := 1) (by omega) (by omega)).mp z) (by omega), fun _ => ⟨fun _ => textOf ht ⟨bk_ok ht, fun z => ?_, fun z => ?_⟩, fun z => absurd ((n_le (b := 27) (by omega) (by omega)).mpr (by omega)) z⟩⟩⟩
        · have := (n_lt (a := 21) (by omega) (by omega)).mp z
          rw [if_neg (by omega)] at one; exact one
        · have : w ≤ 21 := Classical.byContradiction (fun q => z ((n_lt (a := 21) (by omega) (by omega)).mpr (by omega)))
          rw [if_pos this] at one; exact one
      -- the first block of the reference
      have ref : ∀ (P : Int32 → Sg → Prop) (σ0 : Sg) n, σ0.2.1 55 = mwords → TT t σ0 (l t) (x t) → (wln (l t) w ≤ rm t → wq_Md_append (nI t) 34 (si σ0 54 1 0) (fun σ2 => wp_Md_word P n 2 (nI t) (nI w) (nI (we w - ws w)) 0 0 (mwords (w - 1)) σ2)) → (¬ wln (l t) w ≤ rm t → P 0 (si σ0 54 1 0)) → wb_Md_word_0 (wp_Md_word P (n + 1)) P (nI t) (nI w) σ0 := by
        intro P σ0 n q55 qTT y1 y2
        intro σa ha
        have e57 : (si σ0 54 1 0).1 57 t = nI (l t) := by rw [si_c (by omega)]; exact qTT.2
        have one : ∀ k, (k = 2 ∧ ¬ w ≤ 21) ∨ (k = 3 ∧ w ≤ 21) → wp_Md_word P (n + 1) 1 (nI t) (nI w) (nI (we w - ws w)) (nI k) 0 (mwords (w - 1)) (si σ0 54 1 0) := by
          intro k hk
          show wb_Md_word_1 (wp_Md_word P n) P (nI t) (nI w) (mwords (w - 1)) (nI (we w - ws w)) (nI k) (si σ0 54 1 0)
          refine ⟨(n_in (by omega)).mpr ht, room_m ht ?_⟩
          rw [n_cl (by omega), e57, nI_add, nI_add, n_le (by omega) (by omega)]
          have e : wln (l t) w = l t + (we w - ws w) + k := by
            unfold wln
            rcases hk with ⟨q1, q2⟩ | ⟨q1, q2⟩
            · rw [if_neg q2]; omega
            · rw [if_pos q2]; omega
          rw [e] at y1 y2
          exact ⟨fun q => y1 q, fun q => ⟨nb0, y2 q⟩⟩
        rw [ha]
        refine mT_y ht ⟨fun z => absurd z i1_0, fun _ => ⟨fun z => absurd ((n_lt (b := 1) (by omega) (by omega)).mp z) (by omega), fun _ => ⟨fun _ => ?_, fun z => absurd ((n_le (b := 27) (by omega) (by omega)).mpr (by omega)) z⟩⟩⟩
        have e1 : nI w - (1 : Int32) = nI (w - 1) := n_sub (a := w) (b := 1) (by omega)
        have e55 : (si σ0 54 1 0).2.1 55 (w - 1) = mwords (w - 1) := by rw [si_2, q55]
        rw [e1, n_cl (a := w - 1) (by omega), e55]
        refine ⟨(n_in (by omega)).mpr (by omega), letters_m w1 w2 _ _ ⟨fun z => ?_, fun z => ?_⟩⟩
        · have := (n_le (a := 22) (by omega) (by omega)).mp z
          exact one 2 (Or.inl ⟨rfl, by omega⟩)
        · have : ¬ 22 ≤ w := fun q => z ((n_le (a := 22) (by omega) (by omega)).mpr q)
          exact one 3 (Or.inr ⟨rfl, by omega⟩)
      by_cases hroom : wln (l t) w ≤ rm t
      · have hlt : l t < rm t := by unfold wln at hroom; omega
        obtain ⟨σ1, r1, r2, r3⟩ := put_r (k := l t) (c := 34) hTx (Nat.le_refl _) (by rw [tl_rm ht]; exact hlt) (by omega)
        obtain ⟨σ2, q1, q2, q3⟩ := word_c ht w1 w2 hroom h1.w (we w - ws w) 0 σ1 (by omega) r2 r3
        have hTT0 : TT t (ed t σ2) (l t) (x t) := MO_TT ht h3 q2
        obtain ⟨σ3, m1, m2, m3⟩ := app_m (c := 34) (TT_54 (k := 0) hTT0) hlt (by omega)
        obtain ⟨σ4, z1, z2, z3⟩ := word_m ht w1 w2 hroom (we w - ws w) 0 σ3 (by omega) m2 m3
        obtain ⟨n, hn⟩ := q3 post (hp 1 _ (by
          obtain ⟨P1, hP1⟩ : ∃ P1 : Int32 → Sg → Prop, P1 = fun r2 σ2 => (((1 : Int32) = r2 → Q σ2) ∧ (¬ (1 : Int32) = r2 → False)) := ⟨_, rfl⟩
          rw [← hP1]
          obtain ⟨n, hn⟩ := z3 P1 (by rw [hP1]; exact ⟨fun _ => hQ _ (J_ed ht h1 h2 h3 h4 q1 q2 z1 (Fr_54 z2)), fun z => z rfl⟩)
          have w55 : (ed t σ2).2.1 55 = mwords := by rw [(CSt_ed q2 ht).2 55 (by omega)]; exact h3.w
          exact ⟨n + 2, ref P1 (ed t σ2) n w55 hTT0 (fun _ => m1 _ hn) (fun z => absurd hroom z)⟩))
        exact cls post n (fun _ => r1 _ hn) (fun z => absurd hroom z)
      · refine cls post 0 (fun z => absurd z hroom) (fun _ => no ⟨1, ref P0 σ 0 h3.w hTT (fun z => absurd z hroom) (fun _ => hP0')⟩)
    · refine ⟨1, ?_⟩
      show wb_Sd_word_0 (wp_Sd_word post 0) post (nI t) x2 σ
      have hno := no ⟨0, fun σa ha => by
        rw [ha]
        exact mT_y ht ⟨fun z => absurd z i1_0, fun _ => ⟨fun _ => ⟨nb0, hP0'⟩, fun y => ⟨fun z => hc.elim (fun q => absurd q y) (fun q => absurd z q), fun _ => ⟨nb0, hP0'⟩⟩⟩⟩⟩
      exact isT_y ht ⟨fun z => absurd z i1_0, fun _ => ⟨fun _ => ⟨nb0, hno⟩, fun y => ⟨fun z => hc.elim (fun q => absurd q y) (fun q => absurd z q), fun _ => ⟨nb0, hno⟩⟩⟩⟩
  · refine ⟨1, ?_⟩
    show wb_Sd_word_0 (wp_Sd_word post 0) post x1 x2 σ
    exact isT_n n0 n1 ⟨fun _ => ⟨nb0, no ⟨0, fun σa ha => by rw [ha]; exact mT_n n0 n1 ⟨fun _ => ⟨nb0, hP0'⟩, fun z => absurd rfl z⟩⟩⟩, fun z => absurd rfl z⟩
end WO
