/-- a run of a weakest precondition that ends in σ' -/
def Rv (w : (Sg → Prop) → Prop) (σ' : Sg) : Prop := ∀ post : Sg → Prop, post σ' → w post
def Ri (w : (Int32 → Sg → Prop) → Prop) (r : Int32) (σ' : Sg) : Prop := ∀ post : Int32 → Sg → Prop, post r σ' → w post
theorem ex_s {P : Nat → Prop} (h : ∃ n, P (n + 1)) : ∃ n, P n := ⟨h.choose + 1, h.choose_spec⟩
theorem litI (n : Nat) : (no_index (OfNat.ofNat n) : Int32) = nI n := rfl
theorem n_le {a b : Nat} (ha : a < 2147483648) (hb : b < 2147483648) : nI a ≤ nI b ↔ a ≤ b :=
  ⟨fun h => Nat.le_of_not_lt (fun k => nI_ge k ha h), fun h => nI_le h hb⟩
theorem n_lt {a b : Nat} (ha : a < 2147483648) (hb : b < 2147483648) : nI a < nI b ↔ a < b :=
  ⟨fun h => Nat.lt_of_not_le (fun k => nI_nlt k ha h), fun h => nI_lt h hb⟩
theorem n_eq {a b : Nat} (ha : a < 2147483648) (hb : b < 2147483648) : nI a = nI b ↔ a = b :=
  ⟨fun h => by have := congrArg Int32.toNatClampNeg h; rwa [nI_clamp ha, nI_clamp hb] at this, fun h => by rw [h]⟩
theorem n_in {a n : Nat} (ha : a < 2147483648) : vp_in (nI a) n ↔ a < n := by
  unfold vp_in
  rw [nI_clamp ha]
  constructor
  · intro h; exact Nat.lt_of_not_le (fun k => h (Or.inr k))
  · intro h k; rcases k with k | k
    · exact nI_pos ha k
    · omega
theorem n_sub {a b : Nat} (h : b ≤ a) : nI a - nI b = nI (a - b) := pk_sub h
theorem n_m1 {a : Nat} (ha : a < 2147483648) : nI a = -nI 1 ↔ False :=
  ⟨fun h => by have h0 := nI_toInt ha; rw [h] at h0; have h1 : (-nI 1 : Int32).toInt = -1 := by decide +kernel
               rw [h1] at h0; omega, fun h => h.elim⟩
theorem n_m1' {a : Nat} (ha : a < 2147483648) : -nI 1 = nI a ↔ False := ⟨fun h => (n_m1 ha).mp h.symm, fun h => h.elim⟩
theorem n_m1l {a : Nat} (ha : a < 2147483648) : nI a ≤ -nI 1 ↔ False :=
  ⟨fun h => by have h0 := Int32.le_iff_toInt_le.mp h; rw [nI_toInt ha] at h0; have h1 : (-nI 1 : Int32).toInt = -1 := by decide +kernel
               rw [h1] at h0; omega, fun h => h.elim⟩
theorem n_m1l' {a : Nat} (ha : a < 2147483648) : nI a < -nI 1 ↔ False :=
  ⟨fun h => by have h0 := Int32.lt_iff_toInt_lt.mp h; rw [nI_toInt ha] at h0; have h1 : (-nI 1 : Int32).toInt = -1 := by decide +kernel
               rw [h1] at h0; omega, fun h => h.elim⟩
theorem n_m1g {a : Nat} (ha : a < 2147483648) : -nI 1 < nI a ↔ True :=
  ⟨fun _ => trivial, fun _ => Int32.lt_iff_toInt_lt.mpr (by rw [nI_toInt ha]; have h1 : (-nI 1 : Int32).toInt = -1 := by decide +kernel
                                                            rw [h1]; omega)⟩
theorem n_m1ge {a : Nat} (ha : a < 2147483648) : -nI 1 ≤ nI a ↔ True :=
  ⟨fun _ => trivial, fun _ => Int32.le_iff_toInt_le.mpr (by rw [nI_toInt ha]; have h1 : (-nI 1 : Int32).toInt = -1 := by decide +kernel
                                                            rw [h1]; omega)⟩
theorem n_cl {a : Nat} (ha : a < 2147483648) : (nI a).toNatClampNeg = a := nI_clamp ha
theorem n_b0 : (narrow .boolean (.int (nI 0)) = .int (nI 0)) ↔ True := ⟨fun _ => trivial, fun _ => by decide +kernel⟩
theorem n_b1 : (narrow .boolean (.int (nI 1)) = .int (nI 1)) ↔ True := ⟨fun _ => trivial, fun _ => by decide +kernel⟩
theorem n_v0 : vp_nar .boolean (nI 0) = nI 0 := by decide +kernel
theorem n_v1 : vp_nar .boolean (nI 1) = nI 1 := by decide +kernel
theorem si_1 (σ : Sg) (a j : Nat) (v : Int32) (c k : Nat) : (si σ a j v).1 c k = if c = a ∧ k = j then v else σ.1 c k := by
  unfold si
  by_cases h : c = a
  · subst h
    by_cases hk : k = j
    · subst hk; simp [pk_us]
    · simp [hk, pk_un hk]
  · simp [h]
theorem si_2 (σ : Sg) (a j : Nat) (v : Int32) : (si σ a j v).2 = σ.2 := rfl
theorem sw_1 (σ : Sg) (a : Nat) (f : Nat → Int32) (c k : Nat) : (sw σ a f).1 c k = if c = a then f k else σ.1 c k := by
  unfold sw
  by_cases h : c = a
  · simp [h]
  · simp [h]
theorem sl_1 (σ : Sg) (a j : Nat) (v : Int64) : (sl σ a j v).1 = σ.1 := rfl
theorem sl_2 (σ : Sg) (a j : Nat) (v : Int64) (c k : Nat) : (sl σ a j v).2.1 c k = if c = a ∧ k = j then v else σ.2.1 c k := by
  unfold sl
  by_cases h : c = a
  · subst h
    by_cases hk : k = j
    · subst hk; simp [pk_uLs]
    · simp [hk, pk_uLn hk]
  · simp [h]
theorem sl_3 (σ : Sg) (a j : Nat) (v : Int64) : (sl σ a j v).2.2 = σ.2.2 := rfl
/-- the letters of a text of the class -/
def Tx (b : Nat) (σ : Sg) (len : Nat) (tx : Nat → Nat) : Prop := σ.1 (b + 10) 1 = nI len ∧ len ≤ tl b ∧ ∀ k, k < len → σ.1 (b + 11) k = nI (tx k) ∧ 32 ≤ tx k ∧ tx k ≤ 126
theorem tl_le (b : Nat) : tl b ≤ 160 := by unfold tl; split <;> omega
/-- from a on up to a' (or the end) the letters are as p says -/
def Sp (p : Nat → Prop) (tx : Nat → Nat) (len a a' : Nat) : Prop := a ≤ a' ∧ a' ≤ len ∧ (∀ k, a ≤ k → k < a' → p (tx k)) ∧ (a' < len → ¬ p (tx a'))
theorem Sp_ex (p : Nat → Prop) (tx : Nat → Nat) (len a : Nat) (h : a ≤ len) : ∃ a', Sp p tx len a a' := by
  obtain ⟨k, hk, hm⟩ := pk_least (fun k => a ≤ k ∧ (k = len ∨ ¬ p (tx k))) ⟨len, h, Or.inl rfl⟩
  have hkl : k ≤ len := Nat.le_of_not_lt (fun hlt => hm len hlt ⟨h, Or.inl rfl⟩)
  refine ⟨k, hk.1, hkl, fun j h1 h2 => Classical.byContradiction (fun hp => hm j h2 ⟨h1, Or.inr hp⟩), fun h1 hp => ?_⟩
  rcases hk.2 with h3 | h3
  · omega
  · exact h3 hp
theorem Sp_step {p : Nat → Prop} {tx : Nat → Nat} {len a a' : Nat} (h : Sp p tx len a a') : (a = a' ∧ (a < len → ¬ p (tx a))) ∨ (a < len ∧ a < a' ∧ p (tx a) ∧ Sp p tx len (a + 1) a') := by
  obtain ⟨h1, h2, h3, h4⟩ := h
  rcases Nat.eq_or_lt_of_le h1 with e | e
  · exact Or.inl ⟨e, by rw [e]; exact h4⟩
  · exact Or.inr ⟨by omega, e, h3 a (Nat.le_refl _) e, e, h2, fun k hk => h3 k (by omega), h4⟩
