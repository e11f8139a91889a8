section LA
theorem PN_0 {a k s l : Nat} {σ : Sg} (h1 : σ.1 a k = nI 0) (h2 : σ.1 s 0 = nI 0) : PNa a k s l σ [] := by
  refine ⟨h1, fun j hj => ?_, fun j hj => absurd hj (Nat.not_lt_zero _)⟩
  have e : j = 0 := Nat.le_zero.mp hj
  rw [e]; exact h2
theorem J_0 (q : Nat) : J (sg0 q) := by
  have kc : KC 0 (fun _ => 0) 0 (fun _ => 0) TG0 TG0 [] (sg0 q) := ⟨⟨rfl, Nat.zero_le _, fun k hk => absurd hk (Nat.not_lt_zero _)⟩, ⟨rfl, Nat.zero_le _, fun k hk => absurd hk (Nat.not_lt_zero _)⟩, ⟨rfl, rfl⟩, Or.inl rfl, Or.inl rfl, Or.inl rfl, Or.inl rfl⟩
  have ko : KO [] [] (sg0 q) := ⟨⟨rfl, fun j hj => absurd hj (Nat.not_lt_zero _), Nat.zero_le _, ⟨0, by omega, rfl⟩⟩, PN_0 rfl rfl⟩
  have mo : MO 0 (fun _ => 0) 0 (fun _ => 0) [] [] (sg0 q) := ⟨⟨⟨by omega, by omega, by omega, fun k hk => absurd hk (Nat.not_lt_zero _)⟩, rfl⟩, ⟨⟨by omega, by omega, by omega, fun k hk => absurd hk (Nat.not_lt_zero _)⟩, rfl⟩, rfl, rfl, fun j hj => absurd hj (Nat.not_lt_zero _), PN_0 rfl rfl⟩
  have bo : BO [] [] := ⟨by show 0 < 1300; omega, fun e he => absurd he (by simp), Nat.zero_le _, Nat.zero_le _, fun w hw => absurd hw (by simp)⟩
  exact ⟨_, _, _, _, _, _, _, _, _, kc, ko, mo, bo⟩
theorem law_n (L : Nat) (xs : Nat → Int32) (hL : L ≤ 2048) : ∀ m n k σ, L ≤ 4 * m + k → k ≤ L + 4 → m + 1 ≤ n → J σ → wl_F L xs n (nI k) σ := by
  intro m
  induction m with
  | zero =>
    intro n k σ hm hk hn hJ
    obtain ⟨n, rfl⟩ : ∃ j, n = j + 1 := ⟨n - 1, by omega⟩
    show wb_Lw_law L xs (wl_F L xs n) (nI k) σ
    refine ⟨fun _ => trivial, fun z => absurd ?_ z⟩
    show nI L - nI 4 < nI k
    rw [Int32.lt_iff_toInt_lt, pk_sub_toInt (by omega) (by omega), nI_toInt (by omega)]
    omega
  | succ m ih =>
    intro n k σ hm hk hn hJ
    obtain ⟨n, rfl⟩ : ∃ j, n = j + 1 := ⟨n - 1, by omega⟩
    show wb_Lw_law L xs (wl_F L xs n) (nI k) σ
    by_cases hend : L < k + 4
    · refine ⟨fun _ => trivial, fun z => absurd ?_ z⟩
      show nI L - nI 4 < nI k
      rw [Int32.lt_iff_toInt_lt, pk_sub_toInt (by omega) (by omega), nI_toInt (by omega)]
      omega
    · have e4 : nI k + 4 = nI (k + 4) := by rw [show (4 : Int32) = nI 4 from rfl, nI_add]
      have hQ : ∀ σ', J σ' → wl_F L xs n (nI k + 4) σ' := fun σ' j => by rw [e4]; exact ih n (k + 4) σ' (by omega) (by omega) (by omega) j
      have v0 : vp_in (nI k) L := (n_in (by omega)).mpr (by omega)
      have v1 : vp_in (nI k + 1) L := by rw [show (1 : Int32) = nI 1 from rfl, nI_add]; exact (n_in (by omega)).mpr (by omega)
      have v2 : vp_in (nI k + 2) L := by rw [show (2 : Int32) = nI 2 from rfl, nI_add]; exact (n_in (by omega)).mpr (by omega)
      have v3 : vp_in (nI k + 3) L := by rw [show (3 : Int32) = nI 3 from rfl, nI_add]; exact (n_in (by omega)).mpr (by omega)
      refine ⟨fun _ => trivial, fun _ => ⟨v0, fun _ => ⟨v1, v2, ?_⟩, fun _ => ⟨v1, v2, ?_⟩, fun _ => ⟨v1, v2, v3, ?_⟩, fun _ => ⟨v1, v2, v3, ?_⟩, fun _ => ⟨v1, ?_⟩, fun _ => ⟨v1, v2, ?_⟩, fun _ => ⟨v1, ?_⟩, fun _ => ⟨v1, v2, v3, ?_⟩, fun _ => ⟨v1, ?_⟩, fun _ => ⟨v1, v2, ?_⟩, fun _ => ⟨v1, v2, ?_⟩, fun _ => ?_, fun _ => ⟨v1, v2, ?_⟩, fun _ => ⟨v1, ?_⟩, fun _ => ⟨v1, v2, ?_⟩, fun _ => hQ σ hJ⟩⟩
      · exact t_type hJ hQ _ _ (fun r1 σ1 h => ⟨v1, v2, h⟩)
      · exact t_word hJ hQ _ _ (fun r1 σ1 h => ⟨v1, v2, h⟩)
      · exact t_insert hJ hQ _ _ _ (fun r1 σ1 h => ⟨v1, v2, v3, h⟩)
      · exact t_remove hJ hQ _ _ _ (fun r1 σ1 h => ⟨v1, v2, v3, h⟩)
      · exact t_length hJ hQ _ (fun r1 σ1 h => ⟨v1, h⟩)
      · exact t_letter hJ hQ _ _ (fun r1 σ1 h => ⟨v1, v2, h⟩)
      · exact t_nodes hJ hQ _ (fun r1 σ1 h => ⟨v1, h⟩)
      · exact t_node hJ hQ _ _ _ (fun r1 σ1 h => ⟨v1, v2, v3, h⟩)
      · exact t_faults hJ hQ _ (fun r1 σ1 h => ⟨v1, h⟩)
      · exact t_fault hJ hQ _ _ (fun r1 σ1 h => ⟨v1, v2, h⟩)
      · exact t_holds hJ hQ _ _ (fun r1 σ1 h => ⟨v1, v2, h⟩)
      · exact t_judge hJ hQ (fun r1 σ1 h => h)
      · exact t_diagnostic hJ hQ _ _ (fun r1 σ1 h => ⟨v1, v2, h⟩)
      · exact t_propose hJ hQ _ (fun r1 σ1 h => ⟨v1, h⟩)
      · exact t_proposal hJ hQ _ _ (fun r1 σ1 h => ⟨v1, v2, h⟩)
/-- the pure side of the law -/
theorem pure_law (L : Nat) (xs : Nat → Int32) (hL : L ≤ 2048) : ∀ q, ∃ n, n ≤ 600 ∧ wl_F L xs n 0 (sg0 q) := fun q =>
  ⟨600, Nat.le_refl _, law_n L xs hL 512 600 0 (sg0 q) (by omega) (by omega) (by omega) (J_0 q)⟩
end LA
