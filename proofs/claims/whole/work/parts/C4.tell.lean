section TE
variable {tS : Nat → Nat} {lS : Nat} {S : TG} {tD : Nat → Nat} {lD : Nat} {D : TG} {L : List Nat} {σ : Sg}
/-- what a report of the reference leaves alone -/
abbrev FJ (P : Nat → Nat → Prop) (σ σ' : Sg) : Prop := (∀ c, c ≠ 54 → c ≠ 88 → σ'.1 c = σ.1 c) ∧ (∀ k, k ≠ 40 → σ'.1 54 k = σ.1 54 k) ∧ (σ'.2.2 = σ.2.2) ∧ (∀ c k, ¬ P c k → σ'.2.1 c k = σ.2.1 c k)
theorem FJ.a {P : Nat → Nat → Prop} {σ σ' : Sg} (hX : FJ P σ σ') : ∀ c, c ≠ 54 → c ≠ 88 → σ'.1 c = σ.1 c := hX.1
theorem FJ.b {P : Nat → Nat → Prop} {σ σ' : Sg} (hX : FJ P σ σ') : ∀ k, k ≠ 40 → σ'.1 54 k = σ.1 54 k := hX.2.1
theorem FJ.c {P : Nat → Nat → Prop} {σ σ' : Sg} (hX : FJ P σ σ') : σ'.2.2 = σ.2.2 := hX.2.2.1
theorem FJ.d {P : Nat → Nat → Prop} {σ σ' : Sg} (hX : FJ P σ σ') : ∀ c k, ¬ P c k → σ'.2.1 c k = σ.2.1 c k := hX.2.2.2
theorem FJ_r {P : Nat → Nat → Prop} : FJ P σ σ := ⟨fun _ _ _ => rfl, fun _ _ => rfl, rfl, fun _ _ _ => rfl⟩
theorem FJ_t {P : Nat → Nat → Prop} {σ1 σ2 : Sg} (h : FJ P σ σ1) (k : FJ P σ1 σ2) : FJ P σ σ2 :=
  ⟨fun c h1 h2 => (k.a c h1 h2).trans (h.a c h1 h2), fun j hj => (k.b j hj).trans (h.b j hj), k.c.trans h.c, fun c j hp => (k.d c j hp).trans (h.d c j hp)⟩
theorem FJ_m {P Q : Nat → Nat → Prop} {σ' : Sg} (h : FJ P σ σ') (hm : ∀ c k, P c k → Q c k) : FJ Q σ σ' := ⟨h.a, h.b, h.c, fun c k hq => h.d c k (fun hp => hq (hm c k hp))⟩
theorem FJ_L {P : Nat → Nat → Prop} {σ' : Sg} (h : FL P σ σ') : FJ P σ σ' := ⟨fun c _ _ => by rw [h.1], fun k _ => by rw [h.1], h.2.1, h.2.2⟩
theorem MC_J {P : Nat → Nat → Prop} {σ' : Sg} (h : MC tS lS S tD lD D L σ) (f : FJ P σ σ') (hP : ∀ k, ¬ P 55 k) : MC tS lS S tD lD D L σ' :=
  MC_i h (fun c h1 h2 _ _ _ => f.a c h1 h2) (fun k hk => f.b k (by omega)) (funext fun k => f.d 55 k (hP k))
/-- what has been told -/
abbrev TD (tS : Nat → Nat) (lS : Nat) (S : TG) (D : TG) (σ : Sg) (T : List Nat) : Prop := (σ.1 54 40 = nI T.length) ∧ (∀ j, j < T.length → σ.1 88 j = nI (T.getD j 0)) ∧ (T.Pairwise (fun a b => a / 32 < b / 32)) ∧ (∀ e ∈ T, ∃ c v i, e = c + 32 * (v + 256 * i) ∧ c < 32 ∧ v < S.N ∧ i < D.N ∧ tb tS lS (S.kd v) (S.nm v))
theorem TD.n {tS : Nat → Nat} {lS : Nat} {S : TG} {D : TG} {σ : Sg} {T : List Nat} (hX : TD tS lS S D σ T) : σ.1 54 40 = nI T.length := hX.1
theorem TD.r {tS : Nat → Nat} {lS : Nat} {S : TG} {D : TG} {σ : Sg} {T : List Nat} (hX : TD tS lS S D σ T) : ∀ j, j < T.length → σ.1 88 j = nI (T.getD j 0) := hX.2.1
theorem TD.s {tS : Nat → Nat} {lS : Nat} {S : TG} {D : TG} {σ : Sg} {T : List Nat} (hX : TD tS lS S D σ T) : T.Pairwise (fun a b => a / 32 < b / 32) := hX.2.2.1
theorem TD.k {tS : Nat → Nat} {lS : Nat} {S : TG} {D : TG} {σ : Sg} {T : List Nat} (hX : TD tS lS S D σ T) : ∀ e ∈ T, ∃ c v i, e = c + 32 * (v + 256 * i) ∧ c < 32 ∧ v < S.N ∧ i < D.N ∧ tb tS lS (S.kd v) (S.nm v) := hX.2.2.2
theorem TD_FL {P : Nat → Nat → Prop} {σ' : Sg} {T : List Nat} (h : TD tS lS S D σ T) (f : FL P σ σ') : TD tS lS S D σ' T := ⟨by rw [f.1]; exact h.n, fun j hj => by rw [f.1]; exact h.r j hj, h.s, h.k⟩
theorem TD_nd {T : List Nat} (h : T.Pairwise (fun a b => a / 32 < b / 32)) : (T.map (fun e => e / 32)).Nodup := by
  rw [List.nodup_iff_pairwise_ne, List.pairwise_map]
  exact h.imp (fun h => Nat.ne_of_lt h)
theorem TD_len {T : List Nat} (hn : S.N ≤ 160) (hq : D.N * tq tS lS S.kd S.nm S.N < 1300) (h : TD tS lS S D σ T) : T.length < 1300 := by
  have := told_le (T := T) (n := S.N) (m := D.N) tS lS S.kd S.nm (TD_nd h.s) (fun e he => by
    obtain ⟨c, v, i, h1, h2, h3, h4, h5⟩ := h.k e he
    exact ⟨v, i, by omega, h3, h4, h5⟩)
  omega
theorem split_at : ∀ (T : List Nat) (q : Nat), T.Pairwise (fun a b => a / 32 < b / 32) → (∀ e ∈ T, e / 32 ≠ q) → ∃ A B, T = A ++ B ∧ (∀ a ∈ A, a / 32 < q) ∧ (∀ b ∈ B, q < b / 32)
  | [], _, _, _ => ⟨[], [], rfl, fun a h => by simp at h, fun a h => by simp at h⟩
  | x :: T, q, hp, hn => by
    have hx := List.pairwise_cons.mp hp
    by_cases e : x / 32 < q
    · obtain ⟨A, B, h1, h2, h3⟩ := split_at T q hx.2 (fun e he => hn e (List.mem_cons_of_mem _ he))
      refine ⟨x :: A, B, by rw [h1]; rfl, fun a ha => ?_, h3⟩
      rcases List.mem_cons.mp ha with z | z
      · rw [z]; exact e
      · exact h2 a z
    · refine ⟨[], x :: T, rfl, fun a h => by simp at h, fun b hb => ?_⟩
      have := hn x (List.mem_cons_self ..)
      rcases List.mem_cons.mp hb with z | z
      · rw [z]; omega
      · have := hx.1 b z; omega
theorem tell_m (hn : S.N ≤ 160) (hd : D.N ≤ 80) (hq : D.N * tq tS lS S.kd S.nm S.N < 1300) {T : List Nat} (h : TD tS lS S D σ T) {c v i : Nat} (hc : c < 32) (hv : v < S.N) (hi : i < D.N) (htb : tb tS lS (S.kd v) (S.nm v)) (hnew : ∀ e ∈ T, e / 32 ≠ v + 256 * i) :
    ∃ σ' T', Rv (wq_Md_tell (nI c) (nI (160 + i)) (nI v) σ) σ' ∧ FJ (fun _ _ => False) σ σ' ∧ TD tS lS S D σ' T' ∧ (∀ e, e ∈ T' ↔ e ∈ T ∨ e = c + 32 * (v + 256 * i)) := by
  have hlen := TD_len hn hq h
  obtain ⟨A, B, hT, hA, hB⟩ := split_at T (v + 256 * i) h.s hnew
  obtain ⟨E, hE⟩ : ∃ E, E = c + 32 * (v + 256 * i) := ⟨_, rfl⟩
  have hEq : E / 32 = v + 256 * i := by omega
  have hEb : E < 1000000 := by omega
  have hTb : ∀ e ∈ T, e < 1000000 := fun e he => by
    obtain ⟨c, v, i, h1, h2, h3, h4, h5⟩ := h.k e he
    omega
  have hl : T.length = A.length + B.length := by rw [hT, List.length_append]
  have g : ∀ j, j < T.length → T.getD j 0 ∈ T := fun j hj => by rw [List.getD_eq_getElem?_getD, List.getElem?_eq_getElem hj]; exact List.getElem_mem hj
  have gA : ∀ j, j < A.length → T.getD j 0 ∈ A := fun j hj => by
    rw [hT, List.getD_eq_getElem?_getD, List.getElem?_append_left hj, List.getElem?_eq_getElem hj]; exact List.getElem_mem hj
  have gB : ∀ j, A.length ≤ j → j < T.length → T.getD j 0 ∈ B := fun j hj hj2 => by
    rw [hT, List.getD_eq_getElem?_getD, List.getElem?_append_right hj, List.getElem?_eq_getElem (by omega)]; exact List.getElem_mem _
  obtain ⟨R, hR⟩ : ∃ R : Sg → Prop, R = fun σ' => FJ (fun _ _ => False) σ σ' ∧ TD tS lS S D σ' (A ++ E :: B) := ⟨_, rfl⟩
  -- the entries move up
  have mv : ∀ m (σ1 : Sg), A.length + m ≤ T.length → FJ (fun _ _ => False) σ σ1 → σ1.1 54 40 = nI T.length → (∀ j, j < A.length + m → σ1.1 88 j = nI (T.getD j 0)) → (∀ j, A.length + m < j → j ≤ T.length → σ1.1 88 j = nI (T.getD (j - 1) 0)) → Ex0 (fun post n => wp_Md_tell post n 2 0 0 0 (nI E) (nI A.length) (nI (A.length + m)) σ1) R := by
    intro m
    induction m with
    | zero =>
      intro σ1 hm f n40 lo up
      refine ⟨si (si σ1 88 A.length (nI E)) 54 40 ((si σ1 88 A.length (nI E)).1 54 40 + nI 1), ?_, fun post hp => ⟨1, ?_⟩⟩
      · rw [hR]
        have e40 : (si σ1 88 A.length (nI E)).1 54 40 = nI T.length := by rw [si_c (by omega)]; exact n40
        refine ⟨⟨fun c h1 h2 => by rw [si_c h1, si_c h2]; exact f.a c h1 h2, fun k hk => by rw [si_1, if_neg (fun q => hk q.2), si_c (by omega)]; exact f.b k hk, f.c, fun c k _ => f.d c k (fun q => q)⟩, ?_, fun j hj => ?_, ?_, fun e he => ?_⟩
        · rw [si_1, if_pos ⟨rfl, rfl⟩, e40, nI_add]; congr 1; simp; omega
        · have hj : j < A.length + (B.length + 1) := by simpa using hj
          rw [si_c (by omega), si_1]
          by_cases e1 : j = A.length
          · subst e1; rw [if_pos ⟨rfl, rfl⟩]; simp
          · rw [if_neg (fun q => e1 q.2)]
            by_cases e2 : j < A.length
            · rw [lo j (by omega), hT, List.getD_eq_getElem?_getD, List.getD_eq_getElem?_getD, List.getElem?_append_left e2, List.getElem?_append_left e2]
            · rw [up j (by omega) (by omega), hT, List.getD_eq_getElem?_getD, List.getD_eq_getElem?_getD, List.getElem?_append_right (by omega), List.getElem?_append_right (by omega)]
              obtain ⟨k, rfl⟩ : ∃ k, j = A.length + k + 1 := ⟨j - A.length - 1, by omega⟩
              rw [show A.length + k + 1 - A.length = k + 1 by omega, show A.length + k + 1 - 1 - A.length = k by omega, List.getElem?_cons_succ]
        · have hs := h.s
          rw [hT] at hs
          have hs := List.pairwise_append.mp hs
          refine List.pairwise_append.mpr ⟨hs.1, List.pairwise_cons.mpr ⟨fun b hb => by have := hB b hb; omega, hs.2.1⟩, fun a ha b hb => ?_⟩
          rcases List.mem_cons.mp hb with z | z
          · have := hA a ha; rw [z]; omega
          · exact hs.2.2 a ha b z
        · rcases List.mem_append.mp he with z | z
          · exact h.k e (by rw [hT]; exact List.mem_append.mpr (Or.inl z))
          · rcases List.mem_cons.mp z with y | y
            · exact ⟨c, v, i, by rw [y, hE], hc, hv, hi, htb⟩
            · exact h.k e (by rw [hT]; exact List.mem_append.mpr (Or.inr y))
      · show wb_Md_tell_2 (wp_Md_tell post 0) post (nI E) (nI A.length) (nI (A.length + 0)) σ1
        simp (disch := omega) only [wb_Md_tell_2, litI, n_le, Nat.add_zero, Nat.le_refl, n_in, n_cl, eq_true (show A.length < 1300 by omega), not_true_eq_false, false_imp_iff, true_imp_iff, true_and, and_true, forall_eq]
        exact hp
    | succ m ih =>
      intro σ1 hm f n40 lo up
      have e3 : nI (A.length + (m + 1)) - nI 1 = nI (A.length + m) := by rw [n_sub (by omega)]; rfl
      have e4 : nI (A.length + (m + 1)) + (-1) = nI (A.length + m) := by rw [← e3, Int32.sub_eq_add_neg]; rfl
      refine Ex0_s (ih (si σ1 88 (A.length + (m + 1)) (nI (T.getD (A.length + m) 0))) (by omega) ⟨fun c h1 h2 => by rw [si_c h2]; exact f.a c h1 h2, fun k hk => by rw [si_c (by omega)]; exact f.b k hk, f.c, fun c k _ => f.d c k (fun q => q)⟩ (by rw [si_c (by omega)]; exact n40) (fun j hj => by rw [si_1, if_neg (by omega)]; exact lo j (by omega)) (fun j hj hj2 => ?_)) (fun post n hn1 => ⟨n + 1, ?_⟩)
      · rw [si_1]
        by_cases e : j = A.length + (m + 1)
        · subst e; rw [if_pos ⟨rfl, rfl⟩]; congr 2
        · rw [if_neg (fun q => e q.2)]; exact up j (by omega) hj2
      · show wb_Md_tell_2 (wp_Md_tell post n) post (nI E) (nI A.length) (nI (A.length + (m + 1))) σ1
        have hlo := lo (A.length + m) (by omega)
        unfold wb_Md_tell_2
        rw [e4]
        simp (disch := omega) only [litI, n_le, e3, n_in, n_cl, eq_false (show ¬ A.length + (m + 1) ≤ A.length by omega), eq_true (show A.length + m < 1300 by omega), eq_true (show A.length + (m + 1) < 1300 by omega), hlo, not_false_eq_true, false_imp_iff, true_imp_iff, true_and, forall_eq]
        exact hn1
  -- the place is sought
  have seek : ∀ m, A.length + m ≤ T.length → Ex0 (fun post n => wp_Md_tell post n 1 0 0 0 (nI E) (nI (A.length + m)) 0 σ) R := by
    intro m
    induction m with
    | zero =>
      intro hm
      refine Ex0_s (mv B.length σ (by omega) FJ_r h.n (fun j hj => h.r j (by omega)) (fun j h1 h2 => by omega)) (fun post n hn1 => ⟨n + 1, ?_⟩)
      show wb_Md_tell_1 (wp_Md_tell post n) post (nI E) (nI (A.length + 0)) σ
      rw [← hl, ← h.n] at hn1
      unfold wb_Md_tell_1
      rw [Nat.add_zero]
      by_cases e : A.length = 0
      · rw [e] at hn1 ⊢
        exact ⟨fun _ => hn1, fun z => absurd ((n_le (by omega) (by omega)).mpr (Nat.le_refl _)) z⟩
      · have e3 : nI A.length - 1 = nI (A.length - 1) := n_sub (a := A.length) (b := 1) (by omega)
        have hr := h.r (A.length - 1) (by omega)
        have ha := hA _ (gA (A.length - 1) (by omega))
        have hb := hTb _ (g (A.length - 1) (by omega))
        rw [e3, n_in (by omega), n_cl (by omega), hr]
        refine ⟨fun _ => hn1, fun _ => ⟨by omega, fun _ => hn1, fun z => absurd ((n_le (by omega) (by omega)).mpr (by omega)) z⟩⟩
    | succ m ih =>
      intro hm
      refine Ex0_s (ih (by omega)) (fun post n hn1 => ⟨n + 1, ?_⟩)
      show wb_Md_tell_1 (wp_Md_tell post n) post (nI E) (nI (A.length + (m + 1))) σ
      have e3 : nI (A.length + (m + 1)) - 1 = nI (A.length + m) := n_sub (a := A.length + (m + 1)) (b := 1) (by omega)
      have e4 : nI (A.length + (m + 1)) + (-1) = nI (A.length + m) := by rw [← e3, Int32.sub_eq_add_neg]
      have hr := h.r (A.length + m) (by omega)
      have ha := hB _ (gB (A.length + m) (by omega) (by omega))
      have hb := hTb _ (g (A.length + m) (by omega))
      unfold wb_Md_tell_1
      rw [e3, e4, n_in (by omega), n_cl (by omega), hr, pk_shrN (by omega) _ 5 (by decide +kernel), pk_shrN (by omega) _ 5 (by decide +kernel)]
      refine ⟨fun z => ?_, fun _ => ⟨by omega, fun z => ?_, fun _ => ⟨by omega, fun z => ?_, fun _ => hn1⟩⟩⟩
      · exact absurd ((n_le (b := 0) (by omega) (by omega)).mp z) (by omega)
      · exact absurd ((n_le (by omega) (by omega)).mp z) (by omega)
      · exact absurd ((n_le (by omega) (by omega)).mp z) (by omega)
  obtain ⟨σ', q1, q2⟩ := seek B.length (by omega)
  rw [hR] at q1
  refine ⟨σ', A ++ E :: B, fun post hp => ?_, q1.1, q1.2, fun e => ?_⟩
  · obtain ⟨n, hn1⟩ := q2 post hp
    refine ⟨n + 1, ?_⟩
    show wb_Md_tell_0 (wp_Md_tell post n) post (nI c) (nI (160 + i)) (nI v) σ
    unfold wb_Md_tell_0
    have e3 : nI (160 + i) - (160 : Int32) = nI i := by rw [show (160 : Int32) = nI 160 from rfl, n_sub (by omega), show 160 + i - 160 = i by omega]
    rw [e3, show (256 : Int32) = nI 256 from rfl, pk_mul, nI_add, show (32 : Int32) = nI 32 from rfl, pk_mul, nI_add, ← hE, h.n, hl]
    exact hn1
  · rw [hT, ← hE]; simp only [List.mem_append, List.mem_cons]
    constructor
    · rintro (z | z | z)
      · exact Or.inl (Or.inl z)
      · exact Or.inr z
      · exact Or.inl (Or.inr z)
    · rintro ((z | z) | z)
      · exact Or.inl z
      · exact Or.inr (Or.inr z)
      · exact Or.inr (Or.inl z)
def Pk (c k : Nat) : Prop := (c = 54 ∧ (k = 38 ∨ k = 39)) ∨ c = 84 ∨ c = 85
theorem mark_m {s i : Nat} (hs : s < 160) (hi : i < 80) : ∃ σ', Rv (wq_Md_mark (nI s) (nI (160 + i)) σ) σ' ∧ FL Pk σ σ' ∧ (∀ x c, c < 80 → bt σ' 84 x c = (bt σ 84 x c || decide (x = s ∧ c = i))) := by
  let σ4 := sl (sl σ 54 38 (σ.2.1 84 s)) 54 39 ((sl σ 54 38 (σ.2.1 84 s)).2.1 85 s)
  let σ5 := madd σ4 i
  let σ6 := sl (sl σ5 84 s (σ5.2.1 54 38)) 85 s ((sl σ5 84 s (σ5.2.1 54 38)).2.1 54 39)
  have f4 : FL Pk σ σ4 := FL_sl (FL_sl FL_r (Or.inl ⟨rfl, by omega⟩)) (Or.inl ⟨rfl, by omega⟩)
  have f5 : FL Pk σ σ5 := FL_add f4 (Or.inl ⟨rfl, by omega⟩) (Or.inl ⟨rfl, by omega⟩)
  have f6 : FL Pk σ σ6 := FL_sl (FL_sl f5 (Or.inr (by omega))) (Or.inr (by omega))
  have st4 : ∀ k, k < 80 → st σ4 k = bt σ 84 s k := fun k hk => by
    unfold st bt; by_cases hk2 : k < 64 <;> simp [hk2, σ4, sl_2]
  refine ⟨σ6, fun post hp => ?_, f6, fun x c hc => ?_⟩
  · have e3 : nI (160 + i) - (160 : Int32) = nI i := by rw [show (160 : Int32) = nI 160 from rfl, n_sub (by omega), show 160 + i - 160 = i by omega]
    unfold wq_Md_mark
    rw [e3]
    simp (disch := omega) only [n_in, n_cl, eq_true hs, true_and, forall_eq, Md_add_r (show i < 128 by omega)]
    exact hp
  · by_cases e : x = s
    · subst e
      simp only [σ6]; rw [bt_st (by omega) (by omega)]
      simp only [σ5]
      rw [st_add (by omega) (by omega), st4 c hc]; simp
    · have o : ∀ b, b = 84 ∨ b = 85 → σ6.2.1 b x = σ.2.1 b x := fun b hb => by
        simp only [σ6]; rw [sl_2, if_neg (fun q => e q.2), sl_2, if_neg (fun q => e q.2)]
        simp only [σ5]; rw [madd_o (by omega)]
        simp only [σ4]; rw [sl_2, if_neg (by omega), sl_2, if_neg (by omega)]
      rw [bt_o (o 84 (by omega)) (o 85 (by omega)), decide_eq_false (fun q => e q.1)]; simp
end TE
