/-- a text with c at k, with n letters less at k -/
def tins (tx : Nat → Nat) (k c : Nat) : Nat → Nat := fun j => if j < k then tx j else if j = k then c else tx (j - 1)
def tdel (tx : Nat → Nat) (k n : Nat) : Nat → Nat := fun j => if j < k then tx j else tx (j + n)
def Pt (b c k : Nat) : Prop := c = b + 11 ∨ (c = b + 10 ∧ k = 1)
theorem nar_c {c : Nat} (h : c < 65536) : vp_nar .char (nI c) = nI c := by
  unfold vp_nar; rw [(pk_charN h).1]
theorem put_r {b len k c : Nat} {tx : Nat → Nat} {σ : Sg} (h : Tx b σ len tx) (hk : k ≤ len) (hl : len < tl b) (hc : 32 ≤ c ∧ c ≤ 126) : ∃ σ', Rv (wq_Tx_put b (nI k) (nI c) σ) σ' ∧ Tx b σ' (len + 1) (tins tx k c) ∧ Fr (Pt b) σ σ' := by
  obtain ⟨h1, h2, h3⟩ := h
  have h4 := tl_le b
  let σ1 := sw σ (b + 11) (va_cpy (σ.1 (b + 11)) (σ.1 (b + 11)) k (k + 1) (len - k))
  let σ2 := si σ1 (b + 11) k (nI c)
  let σ3 := si σ2 (b + 10) 1 (nI len + nI 1)
  have e1 : σ2.1 (b + 10) 1 = nI len := by
    show (si σ1 _ _ _).1 _ _ = _; rw [si_c (by omega)]; show (sw _ _ _).1 _ _ = _; rw [sw_1, if_neg (by omega)]; exact h1
  refine ⟨σ3, fun post hp => ?_, ⟨?_, by omega, fun j hj => ?_⟩, ?_⟩
  · have hs : nI len - nI k = nI (len - k) := pk_sub hk
    unfold wq_Tx_put
    rw [h1, hs, show (1 : Int32) = nI 1 from rfl, nI_add, n_cl (a := k) (by omega), n_cl (a := len - k) (by omega), n_cl (a := k + 1) (by omega), nar_c (by omega), n_in (a := k) (by omega)]
    refine ⟨fun z => absurd ((n_lt (b := 0) (by omega) (by omega)).mp z) (by omega), fun z => absurd ((n_lt (b := 0) (by omega) (by omega)).mp z) (by omega), fun z => absurd ((n_lt (b := 0) (by omega) (by omega)).mp z) (by omega), by omega, by omega, fun j hj => ?_, fun σa ha => ⟨by omega, fun σb hb σc hc2 => ?_⟩⟩
    · have := h3 (k + j) (by omega); rw [this.1]; exact fits_c (by omega)
    · rw [hc2, hb, ha]
      have e2 : (si (sw σ (b + 11) (va_cpy (σ.1 (b + 11)) (σ.1 (b + 11)) k (k + 1) (len - k))) (b + 11) k (nI c)).1 (b + 10) 1 = nI len := e1
      rw [e2]; exact hp
  · show (si σ2 (b + 10) 1 _).1 (b + 10) 1 = _
    rw [si_1, if_pos ⟨rfl, rfl⟩, nI_add]
  · have e2 : σ3.1 (b + 11) j = if j = k then nI c else va_cpy (σ.1 (b + 11)) (σ.1 (b + 11)) k (k + 1) (len - k) j := by
      show (si σ2 (b + 10) 1 _).1 (b + 11) j = _
      rw [si_c (by omega)]
      show (si σ1 (b + 11) k _).1 (b + 11) j = _
      rw [si_1]
      by_cases e : j = k
      · rw [if_pos ⟨rfl, e⟩, if_pos e]
      · rw [if_neg (fun q => e q.2), if_neg e]; show (sw _ _ _).1 _ _ = _; rw [sw_1, if_pos rfl]
    rw [e2]
    unfold tins
    by_cases e : j = k
    · rw [if_pos e, if_neg (by omega), if_pos e]; exact ⟨rfl, hc.1, hc.2⟩
    · rw [if_neg e]
      by_cases e3 : j < k
      · rw [if_pos e3, pk_cpy_out (Or.inl (by omega))]; exact h3 j (by omega)
      · rw [if_neg e3, if_neg e, pk_cpy_in (by omega) (by omega), show k + (j - (k + 1)) = j - 1 by omega]; exact h3 (j - 1) (by omega)
  · refine Fr_si (Fr_si ⟨rfl, fun c' k' hn => ?_⟩ (Or.inl rfl)) (Or.inr ⟨rfl, rfl⟩)
    rw [sw_1, if_neg (fun q => hn (Or.inl q))]
theorem take_r {b len k n : Nat} {tx : Nat → Nat} {σ : Sg} (h : Tx b σ len tx) (hk : k + n ≤ len) : ∃ σ', Rv (wq_Tx_take b (nI k) (nI n) σ) σ' ∧ Tx b σ' (len - n) (tdel tx k n) ∧ Fr (Pt b) σ σ' := by
  obtain ⟨h1, h2, h3⟩ := h
  have h4 := tl_le b
  let σ1 := sw σ (b + 11) (va_cpy (σ.1 (b + 11)) (σ.1 (b + 11)) (k + n) k (len - k - n))
  let σ2 := si σ1 (b + 10) 1 (nI len - nI n)
  have e1 : σ1.1 (b + 10) 1 = nI len := by show (sw _ _ _).1 _ _ = _; rw [sw_1, if_neg (by omega)]; exact h1
  refine ⟨σ2, fun post hp => ?_, ⟨?_, by omega, fun j hj => ?_⟩, ?_⟩
  · have hs : nI len - nI k - nI n = nI (len - k - n) := by rw [pk_sub (by omega), pk_sub (by omega)]
    unfold wq_Tx_take
    rw [h1, hs, nI_add, n_cl (a := k) (by omega), n_cl (a := len - k - n) (by omega), n_cl (a := k + n) (by omega)]
    refine ⟨fun z => absurd ((n_lt (b := 0) (by omega) (by omega)).mp z) (by omega), fun z => absurd ((n_lt (b := 0) (by omega) (by omega)).mp z) (by omega), fun z => absurd ((n_lt (b := 0) (by omega) (by omega)).mp z) (by omega), by omega, by omega, fun j hj => ?_, fun σa ha σb hb => ?_⟩
    · have := h3 (k + n + j) (by omega); rw [this.1]; exact fits_c (by omega)
    · rw [hb, ha]
      have e2 : (sw σ (b + 11) (va_cpy (σ.1 (b + 11)) (σ.1 (b + 11)) (k + n) k (len - k - n))).1 (b + 10) 1 = nI len := e1
      rw [e2]; exact hp
  · show (si σ1 (b + 10) 1 _).1 (b + 10) 1 = _
    rw [si_1, if_pos ⟨rfl, rfl⟩, pk_sub (by omega)]
  · have e2 : σ2.1 (b + 11) j = va_cpy (σ.1 (b + 11)) (σ.1 (b + 11)) (k + n) k (len - k - n) j := by
      show (si σ1 (b + 10) 1 _).1 (b + 11) j = _
      rw [si_c (by omega)]; show (sw _ _ _).1 _ _ = _; rw [sw_1, if_pos rfl]
    rw [e2]
    unfold tdel
    by_cases e3 : j < k
    · rw [if_pos e3, pk_cpy_out (Or.inl (by omega))]; exact h3 j (by omega)
    · rw [if_neg e3, pk_cpy_in (by omega) (by omega), show k + n + (j - k) = j + n by omega]; exact h3 (j + n) (by omega)
  · refine Fr_si ⟨rfl, fun c' k' hn => ?_⟩ (Or.inr ⟨rfl, rfl⟩)
    rw [sw_1, if_neg (fun q => hn (Or.inl q))]
/-- the reference's texts -/
def rm (t : Nat) : Nat := if t = 0 then 160 else 80
def Ped (t c k : Nat) : Prop := (c = 56 ∧ 160 * t ≤ k ∧ k < 160 * t + rm t) ∨ (c = 57 ∧ k = t)
theorem rm_le {t : Nat} (ht : t < 2) : rm t ≤ 160 ∧ 160 * t + rm t ≤ 240 := by unfold rm; split <;> omega
theorem rm_v {t : Nat} (ht : t < 2) : (t = 0 ∧ rm t = 160) ∨ (t = 1 ∧ rm t = 80) := by unfold rm; split <;> omega
theorem TT_o {t t' len : Nat} {tx : Nat → Nat} {σ σ' : Sg} (h : TT t' σ len tx) (hl : len ≤ rm t') (ht : t < 2) (hne : t' ≠ t) {P : Nat → Nat → Prop} (f : Fr P σ σ') (hP : ∀ c k, P c k → Ped t c k ∨ c = 54) : TT t' σ' len tx := by
  obtain ⟨⟨x1, x2, x3, x4⟩, x5⟩ := h
  have hr := rm_le ht
  refine ⟨⟨x1, x2, x3, fun k hk => ?_⟩, ?_⟩
  · rw [f.2 56 _ (fun q => by have h1 := rm_v ht; have h2 := rm_v x1; have q := hP _ _ q; unfold Ped at q; omega)]; exact x4 k hk
  · rw [f.2 57 _ (fun q => by have q := hP _ _ q; unfold Ped at q; omega)]; exact x5
theorem app_m {t len c : Nat} {tx : Nat → Nat} {σ : Sg} (h : TT t σ len tx) (hl : len < rm t) (hc : 32 ≤ c ∧ c ≤ 126) : ∃ σ', Rv (wq_Md_append (nI t) (nI c) σ) σ' ∧ TT t σ' (len + 1) (tins tx len c) ∧ Fr (Ped t) σ σ' := by
  obtain ⟨⟨x1, x2, x3, x4⟩, x5⟩ := h
  have hr := rm_le x1
  refine ⟨si (si σ 56 (160 * t + len) (nI c)) 57 t (nI (len + 1)), fun post hp => ?_, ⟨⟨x1, by omega, by omega, fun k hk => ?_⟩, ?_⟩, Fr_si (Fr_si Fr_r (Or.inl ⟨rfl, by omega, by omega⟩)) (Or.inr ⟨rfl, rfl⟩)⟩
  · unfold wq_Md_append
    rw [n_in (a := t) (by omega), n_cl (a := t) (by omega), x5, show (160 : Int32) = nI 160 from rfl, pk_mul, nI_add, n_in (a := 160 * t + len) (by omega), n_cl (a := 160 * t + len) (by omega)]
    refine ⟨x1, by omega, fun σa ha => ⟨x1, x1, fun σb hb => ?_⟩⟩
    rw [hb, ha, si_c (by omega), x5, show (1 : Int32) = nI 1 from rfl, nI_add]; exact hp
  · rw [si_c (by omega), si_1]
    unfold tins
    by_cases e : k = len
    · rw [if_pos ⟨rfl, by omega⟩, if_neg (by omega), if_pos e]; exact ⟨rfl, hc.1, hc.2⟩
    · rw [if_neg (by omega), if_pos (by omega)]; exact x4 k (by omega)
  · rw [si_1, if_pos ⟨rfl, rfl⟩]
theorem ins_m {t len k c : Nat} {tx : Nat → Nat} {σ : Sg} (h : TT t σ len tx) (hk : k ≤ len) (hl : len < rm t) (hc : 32 ≤ c ∧ c ≤ 126) : Ex0 (fun post n => wp_Md_insert post n 2 (nI t) (nI k) (nI c) (nI (160 * t)) (nI (160 * t + len)) σ) (fun σ' => TT t σ' (len + 1) (tins tx k c) ∧ Fr (Ped t) σ σ') := by
  obtain ⟨⟨x1, x2, x3, x4⟩, x5⟩ := h
  have hr := rm_le x1
  obtain ⟨R, hR⟩ : ∃ R : Sg → Prop, R = fun σ' => TT t σ' (len + 1) (tins tx k c) ∧ Fr (Ped t) σ σ' := ⟨_, rfl⟩
  rw [← hR]
  have mv : ∀ m (σ1 : Sg), k + m ≤ len → Fr (Ped t) σ σ1 → σ1.1 57 t = nI len → (∀ j, j < k + m → σ1.1 56 (160 * t + j) = nI (tx j)) → (∀ j, k + m < j → j ≤ len → σ1.1 56 (160 * t + j) = nI (tx (j - 1))) → Ex0 (fun post n => wp_Md_insert post n 2 (nI t) (nI k) (nI c) (nI (160 * t)) (nI (160 * t + (k + m))) σ1) R := by
    intro m
    induction m with
    | zero =>
      intro σ1 hm fr n57 lo up
      refine ⟨si (si σ1 56 (160 * t + k) (nI c)) 57 t (nI (len + 1)), ?_, fun post hp => ⟨1, ?_⟩⟩
      · rw [hR]
        refine ⟨⟨⟨x1, by omega, by omega, fun j hj => ?_⟩, by rw [si_1, if_pos ⟨rfl, rfl⟩]⟩, Fr_si (Fr_si fr (Or.inl ⟨rfl, by omega, by omega⟩)) (Or.inr ⟨rfl, rfl⟩)⟩
        rw [si_c (by omega), si_1]
        unfold tins
        by_cases e : j = k
        · rw [if_pos ⟨rfl, by omega⟩, if_neg (by omega), if_pos e]; exact ⟨rfl, hc.1, hc.2⟩
        · rw [if_neg (by omega)]
          by_cases e2 : j < k
          · rw [if_pos e2]; exact ⟨lo j (by omega), (x4 j (by omega)).2⟩
          · rw [if_neg e2, if_neg e]; exact ⟨up j (by omega) (by omega), (x4 (j - 1) (by omega)).2⟩
      · show wb_Md_insert_2 (wp_Md_insert post 0) post (nI t) (nI k) (nI c) (nI (160 * t)) (nI (160 * t + (k + 0))) σ1
        unfold wb_Md_insert_2
        rw [nI_add, n_in (a := 160 * t + k) (by omega), n_cl (a := 160 * t + k) (by omega), n_in (a := t) (by omega), n_cl (a := t) (by omega)]
        refine ⟨fun _ => ⟨by omega, fun σa ha => ⟨x1, x1, fun σb hb => ?_⟩⟩, fun z => absurd ((n_le (by omega) (by omega)).mpr (by omega)) z⟩
        rw [hb, ha, si_c (by omega), n57, show (1 : Int32) = nI 1 from rfl, nI_add]; exact hp
    | succ m ih =>
      intro σ1 hm fr n57 lo up
      have e3 : nI (160 * t + (k + (m + 1))) - nI 1 = nI (160 * t + (k + m)) := by rw [n_sub (by omega)]; congr 1
      have e4 : nI (160 * t + (k + (m + 1))) + (-1) = nI (160 * t + (k + m)) := by rw [← e3, Int32.sub_eq_add_neg]; rfl
      refine Ex0_s (ih (si σ1 56 (160 * t + (k + (m + 1))) (nI (tx (k + m)))) (by omega) (Fr_si fr (Or.inl ⟨rfl, by omega, by omega⟩)) (by rw [si_c (by omega)]; exact n57) (fun j hj => by rw [si_1, if_neg (by omega)]; exact lo j (by omega)) (fun j hj hj2 => ?_)) (fun post n hn1 => ⟨n + 1, ?_⟩)
      · rw [si_1]
        by_cases e : j = k + (m + 1)
        · rw [if_pos ⟨rfl, by omega⟩, e]; congr 2
        · rw [if_neg (by omega)]; exact up j (by omega) hj2
      · show wb_Md_insert_2 (wp_Md_insert post n) post (nI t) (nI k) (nI c) (nI (160 * t)) (nI (160 * t + (k + (m + 1)))) σ1
        unfold wb_Md_insert_2
        rw [e4, nI_add, show (1 : Int32) = nI 1 from rfl, e3, n_in (a := 160 * t + (k + m)) (by omega), n_cl (a := 160 * t + (k + m)) (by omega), n_in (a := 160 * t + (k + (m + 1))) (by omega), n_cl (a := 160 * t + (k + (m + 1))) (by omega), lo (k + m) (by omega)]
        exact ⟨fun z => absurd ((n_le (by omega) (by omega)).mp z) (by omega), fun _ => ⟨by omega, by omega, fun σa ha => by rw [ha]; exact hn1⟩⟩
  have := mv (len - k) σ (by omega) Fr_r x5 (fun j hj => (x4 j (by omega)).1) (fun j h1 h2 => by omega)
  rw [show k + (len - k) = len by omega] at this
  exact this
theorem del_m {t len k n : Nat} {tx : Nat → Nat} {σ : Sg} (h : TT t σ len tx) (hk : k + n ≤ len) (hl : len ≤ rm t) : Ex0 (fun post f => wp_Md_remove post f 2 (nI t) 0 (nI n) (nI (160 * t)) (nI (160 * t + k)) σ) (fun σ' => TT t σ' (len - n) (tdel tx k n) ∧ Fr (Ped t) σ σ') := by
  obtain ⟨⟨x1, x2, x3, x4⟩, x5⟩ := h
  have hr := rm_le x1
  obtain ⟨R, hR⟩ : ∃ R : Sg → Prop, R = fun σ' => TT t σ' (len - n) (tdel tx k n) ∧ Fr (Ped t) σ σ' := ⟨_, rfl⟩
  rw [← hR]
  have mv : ∀ m p (σ1 : Sg), p + m = len - n → k ≤ p → Fr (Ped t) σ σ1 → σ1.1 57 t = nI len → (∀ j, j < p → σ1.1 56 (160 * t + j) = nI (tdel tx k n j)) → (∀ j, p ≤ j → j < len → σ1.1 56 (160 * t + j) = nI (tx j)) → Ex0 (fun post f => wp_Md_remove post f 2 (nI t) 0 (nI n) (nI (160 * t)) (nI (160 * t + p)) σ1) R := by
    intro m
    induction m with
    | zero =>
      intro p σ1 hm hp fr n57 lo up
      refine ⟨si σ1 57 t (nI (len - n)), ?_, fun post hpo => ⟨1, ?_⟩⟩
      · rw [hR]
        refine ⟨⟨⟨x1, by omega, by omega, fun j hj => ?_⟩, by rw [si_1, if_pos ⟨rfl, rfl⟩]⟩, Fr_si fr (Or.inr ⟨rfl, rfl⟩)⟩
        rw [si_c (by omega), lo j (by omega)]
        refine ⟨rfl, ?_⟩
        unfold tdel; split
        · exact (x4 j (by omega)).2
        · exact (x4 (j + n) (by omega)).2
      · show wb_Md_remove_2 (wp_Md_remove post 0) post (nI t) (nI n) (nI (160 * t)) (nI (160 * t + p)) σ1
        unfold wb_Md_remove_2
        rw [n_in (a := t) (by omega), n_cl (a := t) (by omega), n57, nI_add, nI_add, pk_sub (by omega)]
        exact ⟨x1, fun _ => ⟨x1, x1, fun σa ha => by rw [ha]; exact hpo⟩, fun z => absurd ((n_le (by omega) (by omega)).mpr (by omega)) z⟩
    | succ m ih =>
      intro p σ1 hm hp fr n57 lo up
      refine Ex0_s (ih (p + 1) (si σ1 56 (160 * t + p) (nI (tx (p + n)))) (by omega) (by omega) (Fr_si fr (Or.inl ⟨rfl, by omega, by omega⟩)) (by rw [si_c (by omega)]; exact n57) (fun j hj => ?_) (fun j hj hj2 => by rw [si_1, if_neg (by omega)]; exact up j (by omega) hj2)) (fun post f hn1 => ⟨f + 1, ?_⟩)
      · rw [si_1]
        by_cases e : j = p
        · rw [if_pos ⟨rfl, by omega⟩, e]; unfold tdel; rw [if_neg (by omega)]
        · rw [if_neg (by omega)]; exact lo j (by omega)
      · show wb_Md_remove_2 (wp_Md_remove post f) post (nI t) (nI n) (nI (160 * t)) (nI (160 * t + p)) σ1
        unfold wb_Md_remove_2
        have hu := up (p + n) (by omega) (by omega)
        rw [n_in (a := t) (by omega), n_cl (a := t) (by omega), n57, nI_add, nI_add, show 160 * t + p + n = 160 * t + (p + n) by omega, n_in (a := 160 * t + (p + n)) (by omega), n_cl (a := 160 * t + (p + n)) (by omega), hu, n_in (a := 160 * t + p) (by omega), n_cl (a := 160 * t + p) (by omega), show (1 : Int32) = nI 1 from rfl, nI_add]
        exact ⟨x1, fun z => absurd ((n_le (by omega) (by omega)).mp z) (by omega), fun _ => ⟨by omega, by omega, fun σa ha => by rw [ha]; exact hn1⟩⟩
  exact mv (len - n - k) k σ (by omega) (Nat.le_refl _) Fr_r x5 (fun j hj => by unfold tdel; rw [if_pos hj]; exact (x4 j (by omega)).1) (fun j h1 h2 => (x4 j h2).1)
/-- words of the book, as the reference packs them -/
theorem mw_n : ∀ w, w < 28 → 1 ≤ w → ∀ k, k < 13 → ((lg_cmp (mwords (w - 1) >>> (((5 : Int32) * nI k).toInt64 &&& 63)) 0 = 0) ↔ we w - ws w ≤ k) := by decide +kernel
theorem mw_l : ∀ w, w < 28 → 1 ≤ w → ∀ k, k < we w - ws w → (96 : Int32) + ((mwords (w - 1) >>> (((5 : Int32) * nI k).toInt64 &&& 63)) &&& 31).toInt32 = nI (wl (ws w + k)) ∧ 32 ≤ wl (ws w + k) := by decide +kernel
