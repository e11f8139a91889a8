theorem fits_c {k : Nat} (h : k < 65536) : fits .char (.int (nI k)) = true := by
  show (decide ((0 : Int32) ≤ nI k) && decide (nI k ≤ (65535 : Int32))) = true
  have h1 : (0 : Int32) ≤ nI k := (n_le (a := 0) (by omega) (by omega)).mpr (by omega)
  have h2 : nI k ≤ (65535 : Int32) := (n_le (b := 65535) (by omega) (by omega)).mpr (by omega)
  rw [decide_eq_true h1, decide_eq_true h2]; rfl
/-- the order of words -/
def slt : List Nat → List Nat → Bool
  | _, [] => false
  | [], _ :: _ => true
  | a :: x, b :: y => if a = b then slt x y else decide (a < b)
theorem slt_i : ∀ x, slt x x = false
  | [] => rfl
  | a :: x => by unfold slt; rw [if_pos rfl]; exact slt_i x
theorem slt_t : ∀ x y z, slt x y = true → slt y z = true → slt x z = true
  | x, [], z, h, _ => by cases x <;> simp [slt] at h
  | x, b :: y, [], _, h => by simp [slt] at h
  | [], b :: y, c :: z, _, _ => rfl
  | a :: x, b :: y, c :: z, h1, h2 => by
    unfold slt at *
    by_cases e1 : a = b
    · rw [if_pos e1] at h1
      by_cases e2 : b = c
      · rw [if_pos e2] at h2; rw [if_pos (e1.trans e2)]; exact slt_t x y z h1 h2
      · rw [if_neg e2] at h2; rw [if_neg (by omega), e1]; exact h2
    · rw [if_neg e1, decide_eq_true_iff] at h1
      by_cases e2 : b = c
      · rw [if_neg (by omega), decide_eq_true_iff]; omega
      · rw [if_neg e2, decide_eq_true_iff] at h2
        rw [if_neg (by omega), decide_eq_true_iff]; omega
theorem slt_3 : ∀ x y, slt x y = false → slt y x = false → x = y
  | [], [], _, _ => rfl
  | [], b :: y, h, _ => by simp [slt] at h
  | a :: x, [], _, h => by simp [slt] at h
  | a :: x, b :: y, h1, h2 => by
    unfold slt at *
    by_cases e : a = b
    · rw [if_pos e] at h1; rw [if_pos e.symm] at h2; rw [e, slt_3 x y h1 h2]
    · rw [if_neg e, decide_eq_false_iff_not] at h1; rw [if_neg (fun q => e q.symm), decide_eq_false_iff_not] at h2; omega
/-- n letters from f on -/
def strn (tx : Nat → Nat) : Nat → Nat → List Nat
  | 0, _ => []
  | n + 1, f => tx f :: strn tx n (f + 1)
theorem strn_l (tx : Nat → Nat) : ∀ n f, (strn tx n f).length = n
  | 0, _ => rfl
  | n + 1, f => by show (strn tx n (f + 1)).length + 1 = _; rw [strn_l]
theorem strn_g (tx : Nat → Nat) : ∀ n f j, j < n → (strn tx n f).getD j 0 = tx (f + j)
  | 0, _, j, h => by omega
  | n + 1, f, 0, _ => rfl
  | n + 1, f, j + 1, h => by
    show (strn tx n (f + 1)).getD j 0 = _
    rw [strn_g tx n (f + 1) j (by omega)]; congr 1; omega
theorem strn_e (tx tx1 : Nat → Nat) : ∀ n m f g, strn tx n f = strn tx1 m g ↔ (n = m ∧ ∀ j, j < n → tx (f + j) = tx1 (g + j))
  | 0, 0, f, g => ⟨fun _ => ⟨rfl, fun j h => by omega⟩, fun _ => rfl⟩
  | 0, m + 1, f, g => ⟨fun h => by simp [strn] at h, fun h => by omega⟩
  | n + 1, 0, f, g => ⟨fun h => by simp [strn] at h, fun h => by omega⟩
  | n + 1, m + 1, f, g => by
    show tx f :: strn tx n (f + 1) = tx1 g :: strn tx1 m (g + 1) ↔ _
    rw [List.cons.injEq, strn_e tx tx1 n m]
    constructor
    · rintro ⟨h1, h2, h3⟩
      refine ⟨by omega, fun j hj => ?_⟩
      rcases j with _ | j
      · exact h1
      · have := h3 j (by omega); rw [show f + (j + 1) = f + 1 + j by omega, show g + (j + 1) = g + 1 + j by omega]; exact this
    · rintro ⟨h1, h2⟩
      refine ⟨h2 0 (by omega), by omega, fun j hj => ?_⟩
      have := h2 (j + 1) (by omega); rw [show f + 1 + j = f + (j + 1) by omega, show g + 1 + j = g + (j + 1) by omega]; exact this
/-- the word that begins at f -/
noncomputable def sf (tx : Nat → Nat) (len f : Nat) : List Nat := strn tx (qe tx len f - f) f
theorem sf_e {tx : Nat → Nat} {len f g : Nat} : sf tx len f = sf tx len g ↔ eqn tx f (qe tx len f) tx g (qe tx len g) := strn_e tx tx _ _ f g
theorem comes_r {b len : Nat} {tx : Nat → Nat} {σ : Sg} (hT : Tx b σ len tx) {f g : Nat} (hf : f ≤ len) (hg : g ≤ len) : Ri (wq_Tx_comesBefore b (nI f) (nI g) σ) (nB (slt (sf tx len f) (sf tx len g))) σ := by
  obtain ⟨h1, h2, h3⟩ := hT
  have h4 := tl_le b
  obtain ⟨s1, s2, s3, s4⟩ := qe_sp (tx := tx) hf
  obtain ⟨r1, r2, r3, r4⟩ := qe_sp (tx := tx) hg
  obtain ⟨e, he⟩ : ∃ e, e = qe tx len f := ⟨_, rfl⟩
  obtain ⟨e1, he1⟩ : ∃ e, e = qe tx len g := ⟨_, rfl⟩
  rw [← he] at s1 s2 s3 s4
  rw [← he1] at r1 r2 r3 r4
  intro post hp
  unfold sf at hp
  rw [← he, ← he1] at hp
  have n0 : narrow .boolean (.int (0 : Int32)) = .int (0 : Int32) := by decide +kernel
  have n1 : narrow .boolean (.int (1 : Int32)) = .int (1 : Int32) := by decide +kernel
  have key : ∀ d k, d = e1 - g - k → g + k ≤ e1 → f + k ≤ e → post (nB (slt (strn tx (e - f - k) (f + k)) (strn tx (e1 - g - k) (g + k)))) σ → ∃ n, wp_Tx_comesBefore b post n 1 (nI f) (nI g) (nI k) σ := by
    intro d
    induction d with
    | zero =>
      intro k hd hk1 hk2 hp
      rw [show e1 - g - k = 0 by omega] at hp
      have hp : post 0 σ := by
        have e : slt (strn tx (e - f - k) (f + k)) (strn tx 0 (g + k)) = false := by cases (strn tx (e - f - k) (f + k)) <;> rfl
        rw [e] at hp; exact hp
      refine ⟨1, ?_⟩
      show wb_Tx_comesBefore_1 b (wp_Tx_comesBefore b post 0) post (nI f) (nI g) (nI k) σ
      unfold wb_Tx_comesBefore_1
      rw [nI_add, nI_add, h1]
      refine ⟨fun z => ⟨n0, hp⟩, fun _ => ⟨fun _ => ⟨n0, hp⟩, fun z => ?_⟩⟩
      have hl : g + k < len := by rw [n_le (by omega) (by omega)] at z; omega
      have h34 : tx (g + k) = 34 := by
        have := r4 (by omega); rw [show e1 = g + k by omega] at this; exact Classical.byContradiction this
      rw [n_in (by omega), n_cl (by omega), (h3 (g + k) hl).1, h34]
      exact ⟨by omega, fun z => absurd rfl z, fun _ => ⟨n0, hp⟩⟩
    | succ d ih =>
      intro k hd hk1 hk2 hp
      have hgl : g + k < len := by omega
      have h34 : tx (g + k) ≠ 34 := r3 (g + k) (by omega) (by omega)
      have hgv := h3 (g + k) hgl
      rw [show e1 - g - k = (e1 - g - (k + 1)) + 1 by omega] at hp
      by_cases hfe : f + k = e
      · rw [show e - f - k = 0 by omega] at hp
        have hp : post 1 σ := hp
        refine ⟨1, ?_⟩
        show wb_Tx_comesBefore_1 b (wp_Tx_comesBefore b post 0) post (nI f) (nI g) (nI k) σ
        unfold wb_Tx_comesBefore_1
        rw [nI_add, nI_add, h1, n_in (a := g + k) (by omega), n_cl (a := g + k) (by omega), hgv.1]
        refine ⟨fun z => absurd ((n_lt (by omega) (by omega)).mp z) (by omega), fun _ => ⟨fun z => absurd ((n_le (by omega) (by omega)).mp z) (by omega), fun _ => ⟨by omega, fun _ => ⟨fun _ => ⟨n1, hp⟩, fun z => ?_⟩, fun z => absurd ((n_eq (b := 34) (by omega) (by omega)).mp z) h34⟩⟩⟩
        have hl : f + k < len := by rw [n_le (by omega) (by omega)] at z; omega
        have f34 : tx (f + k) = 34 := by
          have := s4 (by omega); rw [← hfe] at this; exact Classical.byContradiction this
        rw [n_in (by omega), n_cl (by omega), (h3 (f + k) hl).1, f34]
        exact ⟨by omega, fun z => absurd rfl z, fun _ => ⟨n1, hp⟩⟩
      · have hfl : f + k < len := by omega
        have f34 : tx (f + k) ≠ 34 := s3 (f + k) (by omega) (by omega)
        have hfv := h3 (f + k) hfl
        rw [show e - f - k = (e - f - (k + 1)) + 1 by omega] at hp
        -- one round
        have go : ∀ n, (tx (f + k) = tx (g + k) → wp_Tx_comesBefore b post n 1 (nI f) (nI g) (nI (k + 1)) σ) → (¬ tx (f + k) = tx (g + k) → post (nB (decide (tx (f + k) < tx (g + k)))) σ) → wp_Tx_comesBefore b post (n + 1) 1 (nI f) (nI g) (nI k) σ := by
          intro n y1 y2
          show wb_Tx_comesBefore_1 b (wp_Tx_comesBefore b post n) post (nI f) (nI g) (nI k) σ
          unfold wb_Tx_comesBefore_1
          rw [nI_add, nI_add, h1, n_in (a := g + k) (by omega), n_cl (a := g + k) (by omega), hgv.1, n_in (a := f + k) (by omega), n_cl (a := f + k) (by omega), hfv.1, show (1 : Int32) = nI 1 from rfl, nI_add]
          refine ⟨fun z => absurd ((n_lt (by omega) (by omega)).mp z) (by omega), fun _ => ⟨fun z => absurd ((n_le (by omega) (by omega)).mp z) (by omega), fun _ => ⟨by omega, fun _ => ⟨fun z => absurd ((n_le (by omega) (by omega)).mp z) (by omega), fun _ => ⟨by omega, fun _ => ⟨by omega, by omega, fun z => y1 ((n_eq (by omega) (by omega)).mp z), fun z => ⟨by omega, by omega, fun y => ?_, fun y => ?_⟩⟩, fun z => absurd ((n_eq (b := 34) (by omega) (by omega)).mp z) f34⟩⟩, fun z => absurd ((n_eq (b := 34) (by omega) (by omega)).mp z) h34⟩⟩⟩
          · have := y2 (fun q => z (by rw [q]))
            rw [decide_eq_false (by rw [n_le (by omega) (by omega)] at y; omega)] at this
            exact ⟨n0, this⟩
          · have := y2 (fun q => z (by rw [q]))
            rw [decide_eq_true (by rw [n_le (by omega) (by omega)] at y; omega)] at this
            exact ⟨n1, this⟩
        have hs : slt (strn tx (e - f - (k + 1) + 1) (f + k)) (strn tx (e1 - g - (k + 1) + 1) (g + k)) = if tx (f + k) = tx (g + k) then slt (strn tx (e - f - (k + 1)) (f + k + 1)) (strn tx (e1 - g - (k + 1)) (g + k + 1)) else decide (tx (f + k) < tx (g + k)) := by
          rw [strn, strn, slt]
        rw [hs] at hp
        by_cases q : tx (f + k) = tx (g + k)
        · rw [if_pos q] at hp
          obtain ⟨n, hn⟩ := ih (k + 1) (by omega) (by omega) (by omega) hp
          exact ⟨n + 1, go n (fun _ => hn) (fun z => absurd q z)⟩
        · rw [if_neg q] at hp
          exact ⟨1, go 0 (fun z => absurd z q) (fun _ => hp)⟩
  unfold wq_Tx_comesBefore
  obtain ⟨n, hn⟩ := key _ 0 rfl (by omega) (by omega) hp
  exact ⟨n + 1, hn⟩
