def gb (x : Int64) (j : Nat) : Bool := x.toBitVec.getLsbD j
theorem gb_or (x y : Int64) (j : Nat) : gb (x ||| y) j = (gb x j || gb y j) := by
  unfold gb; rw [Int64.toBitVec_or, BitVec.getLsbD_or]
theorem gb_0 (j : Nat) : gb 0 j = false := by
  unfold gb; rw [show (0 : Int64).toBitVec = 0#64 from rfl, BitVec.getLsbD_zero]
theorem gb_p {k j : Nat} (hj : j < 64) : gb (lN (2 ^ k)) j = decide (j = k) := by
  unfold gb
  rw [wb_tb, BitVec.getLsbD_ofNat, Nat.testBit_two_pow]
  simp [hj, eq_comm]
theorem gb_1 (x : Int64) : x &&& 1 = 1 ↔ gb x 0 = true := by
  have h : x &&& 1 = 0 ↔ gb x 0 = false := by
    have := ts_bit (w := x) (s := 0) (j := 0) (by decide) rfl
    have e : (x.toUInt64 >>> (0 : UInt64)).toInt64 = x := by
      rw [show x.toUInt64 >>> (0 : UInt64) = x.toUInt64 from by simp]; rfl
    rw [e] at this
    exact this
  obtain ⟨n, hn, rfl⟩ := wb_of x
  rw [wb_a1 hn] at h ⊢
  rcases Nat.mod_two_eq_zero_or_one n with e | e
  · rw [e] at h ⊢
    have h1 := h.mp rfl
    rw [h1]; simp; decide +kernel
  · rw [e] at h ⊢
    constructor
    · intro _
      cases hb : gb (lN n) 0 with
      | true => rfl
      | false => exact absurd (h.mpr hb) (by decide +kernel)
    · intro _; rfl
theorem gb_s {x : Int64} {k : Nat} (hk : k < 64) : (lg_cmp ((x >>> ((nI k).toInt64 &&& 63)) &&& 1) 1 = 0) ↔ gb x k = true := by
  rw [lg_cmp_eq, gb_1, wb_c k hk]
  unfold gb
  rw [Int64.toBitVec_shiftRight, show ((lN k).toBitVec.smod 64) = BitVec.ofNat 64 k from wb_sm k hk]
  show (BitVec.sshiftRight x.toBitVec (BitVec.ofNat 64 k).toNat).getLsbD 0 = true ↔ _
  rw [BitVec.getLsbD_sshiftRight]
  have e : (BitVec.ofNat 64 k).toNat = k := by rw [BitVec.toNat_ofNat, Nat.mod_eq_of_lt (by omega)]
  rw [e]
  simp [hk]
theorem gb_h {x : Int64} {k : Nat} (hk : k < 64) : (lg_cmp ((x.toUInt64 >>> ((nI k).toInt64.toUInt64 &&& Int64.toUInt64 63)).toInt64 &&& 1) 0 = 0) ↔ gb x k = false := by
  rw [lg_cmp_eq, wb_cu k hk]
  exact ts_bit hk (u_tn (by omega))
theorem sh1 {k : Nat} (hk : k < 64) : (1 : Int64) <<< ((nI k).toInt64 &&& 63) = lN (2 ^ k) := by
  have := wb_shl 1 hk
  rw [show (1 : Int64) = lN 1 from rfl, this, Nat.one_mul]
theorem sh6 {i : Nat} (h : i < 2147483648) : nI i >>> ((6 : Int32) &&& 31) = nI (i / 64) := pk_shrN h _ 6 (by decide +kernel)
theorem an63 {i : Nat} (h : i < 2147483648) : nI i &&& 63 = nI (i % 64) := pk_andN (by omega) 6 (by decide +kernel)
/-- a mark of the class -/
def hb (σ : Sg) (b s i : Nat) : Bool := gb (σ.2.1 (b + 1) (2 * s + i / 64)) (i % 64)
def mput (b : Nat) (σ : Sg) (s i : Nat) : Sg := sl σ (b + 1) (2 * s + i / 64) (σ.2.1 (b + 1) (2 * s + i / 64) ||| lN (2 ^ (i % 64)))
theorem Mk_has_r {b s i : Nat} (hs : s < 160) (hi : i < 128) (σ : Sg) (post : Int32 → Sg → Prop) : wq_Mk_has b (nI s) (nI i) σ post ↔ post (nB (hb σ b s i)) σ := by
  have h1 : i / 64 < 2 := by omega
  have h2 : i % 64 < 64 := by omega
  unfold wq_Mk_has hb
  rw [sh6 (by omega), an63 (by omega)]
  rw [show (2 : Int32) = nI 2 from rfl, pk_mul, nI_add, n_in (by omega), n_cl (by omega), gb_h h2]
  cases h : gb (σ.2.1 (b + 1) (2 * s + i / 64)) (i % 64) with
  | false => simp only [litI, n_le, n_lt, n_eq, n_in, n_cl, nI_add, n_b0, n_b1, n_v0, n_v1, n_m1, n_m1', n_m1l, n_m1l', n_m1g, n_m1ge, si_1, si_2, forall_eq, not_true_eq_false, not_false_eq_true, true_imp_iff, false_imp_iff, true_and, and_true, false_and, and_false, implies_true, ite_true, ite_false, if_true, if_false, Classical.not_not, Nat.reduceEqDiff, reduceIte, Nat.add_left_cancel_iff, Nat.add_eq_left, Nat.left_eq_add, and_self, n_sub, pk_mul]; exact ⟨fun q => q.2, fun q => ⟨by omega, q⟩⟩
  | true => simp only [litI, n_le, n_lt, n_eq, n_in, n_cl, nI_add, n_b0, n_b1, n_v0, n_v1, n_m1, n_m1', n_m1l, n_m1l', n_m1g, n_m1ge, si_1, si_2, forall_eq, not_true_eq_false, not_false_eq_true, true_imp_iff, false_imp_iff, true_and, and_true, false_and, and_false, implies_true, ite_true, ite_false, if_true, if_false, Classical.not_not, Nat.reduceEqDiff, reduceIte, Nat.add_left_cancel_iff, Nat.add_eq_left, Nat.left_eq_add, and_self, n_sub, pk_mul, Bool.true_eq_false]; exact ⟨fun q => q.2, fun q => ⟨by omega, q⟩⟩
theorem Mk_put_r {b s i : Nat} (hs : s < 160) (hi : i < 128) (σ : Sg) (post : Sg → Prop) : wq_Mk_put b (nI s) (nI i) σ post ↔ post (mput b σ s i) := by
  have h1 : i / 64 < 2 := by omega
  have h2 : i % 64 < 64 := by omega
  unfold wq_Mk_put mput
  rw [sh6 (by omega), an63 (by omega)]
  rw [show (2 : Int32) = nI 2 from rfl, pk_mul, nI_add, n_in (by omega), n_cl (by omega), sh1 h2]
  constructor
  · intro q; exact q.2.2 _ rfl
  · intro q; exact ⟨by omega, by omega, fun σ1 e => by rw [e]; exact q⟩
theorem hb_put {b b' s s' i i' : Nat} (hi : i < 128) (hi' : i' < 128) (σ : Sg) : hb (mput b σ s i) b' s' i' = (hb σ b' s' i' || decide (b' = b ∧ s' = s ∧ i' = i)) := by
  unfold hb mput
  rw [sl_2]
  by_cases h : b' + 1 = b + 1 ∧ 2 * s' + i' / 64 = 2 * s + i / 64
  · rw [if_pos h, gb_or, gb_p (by omega)]
    have hb' : b' = b := by omega
    subst hb'
    rw [h.2]
    congr 1
    by_cases e : i' % 64 = i % 64
    · rw [decide_eq_true e, decide_eq_true]; omega
    · rw [decide_eq_false e, decide_eq_false]; omega
  · rw [if_neg h, decide_eq_false (by omega), Bool.or_false]
theorem mput_1 {b s i : Nat} {σ : Sg} : (mput b σ s i).1 = σ.1 := rfl
theorem mput_o {b s i c k : Nat} {σ : Sg} (h : c ≠ b + 1) : (mput b σ s i).2.1 c k = σ.2.1 c k := by unfold mput; rw [sl_2, if_neg (fun q => h q.1)]
theorem mput_3 {b s i : Nat} {σ : Sg} : (mput b σ s i).2.2 = σ.2.2 := rfl
/-- marks are cleared -/
theorem Mk_clear_r (b : Nat) (σ : Sg) : ∃ σ' : Sg, Rv (wq_Mk_clear b σ) σ' ∧ σ'.1 = σ.1 ∧ σ'.2.2 = σ.2.2 ∧ (∀ c k, c ≠ b + 1 → σ'.2.1 c k = σ.2.1 c k) ∧ (∀ s i, s < 160 → i < 128 → hb σ' b s i = false) := by
  obtain ⟨R, hR⟩ : ∃ R : Sg → Prop, R = fun σ' => σ'.1 = σ.1 ∧ σ'.2.2 = σ.2.2 ∧ (∀ c k, c ≠ b + 1 → σ'.2.1 c k = σ.2.1 c k) ∧ (∀ s i, s < 160 → i < 128 → hb σ' b s i = false) := ⟨_, rfl⟩
  have key : ∀ m (σ1 : Sg) (k : Nat), 320 - k ≤ m → k ≤ 320 → σ1.1 = σ.1 → σ1.2.2 = σ.2.2 → (∀ c k, c ≠ b + 1 → σ1.2.1 c k = σ.2.1 c k) → (∀ j, j < k → σ1.2.1 (b + 1) j = 0) → Ex0 (fun post n => wp_Ar_fill b (fun σ1 => post σ1) n 1 (nI k) (nI 320) 0 σ1) R := by
    intro m
    have fin : ∀ (σ1 : Sg), σ1.1 = σ.1 → σ1.2.2 = σ.2.2 → (∀ c k, c ≠ b + 1 → σ1.2.1 c k = σ.2.1 c k) → (∀ j, j < 320 → σ1.2.1 (b + 1) j = 0) → Ex0 (fun post n => wp_Ar_fill b (fun σ1 => post σ1) n 1 (nI 320) (nI 320) 0 σ1) R := by
      intro σ1 h1 h2 h3 h4
      refine ⟨σ1, by rw [hR]; exact ⟨h1, h2, h3, fun s i hs hi => by unfold hb; rw [h4 _ (by omega), gb_0]⟩, fun post hp => ⟨1, ?_⟩⟩
      simp (disch := omega) only [wp_Ar_fill, wb_Ar_fill_1, litI, n_le, n_lt, n_eq, n_in, n_cl, nI_add, n_b0, n_b1, n_v0, n_v1, n_m1, n_m1', n_m1l, n_m1l', n_m1g, n_m1ge, si_1, si_2, forall_eq, not_true_eq_false, not_false_eq_true, true_imp_iff, false_imp_iff, true_and, and_true, false_and, and_false, implies_true, ite_true, ite_false, if_true, if_false, Classical.not_not, Nat.reduceEqDiff, reduceIte, Nat.add_left_cancel_iff, Nat.add_eq_left, Nat.left_eq_add, and_self, n_sub, pk_mul, Nat.le_refl]
      exact hp
    induction m with
    | zero =>
      intro σ1 k hm hk h1 h2 h3 h4
      have e : k = 320 := by omega
      subst e; exact fin σ1 h1 h2 h3 h4
    | succ m ih =>
      intro σ1 k hm hk h1 h2 h3 h4
      rcases Nat.eq_or_lt_of_le hk with e | e
      · subst e; exact fin σ1 h1 h2 h3 h4
      refine Ex0_s (ih (sl σ1 (b + 1) k 0) (k + 1) (by omega) (by omega) h1 h2 (fun c j hc => by rw [sl_2, if_neg (fun q => hc q.1)]; exact h3 c j hc) (fun j hj => by
        rw [sl_2]; by_cases e2 : j = k
        · rw [if_pos ⟨rfl, e2⟩]
        · rw [if_neg (fun q => e2 q.2)]; exact h4 j (by omega))) (fun post n hn => ⟨n + 1, ?_⟩)
      show wb_Ar_fill_1 b (wp_Ar_fill b (fun σ1 => post σ1) n) (fun σ1 => post σ1) 0 (nI k) (nI 320) σ1
      simp (disch := omega) only [wb_Ar_fill_1, n_le, eq_false (show ¬ 320 ≤ k by omega), not_false_eq_true, false_imp_iff, true_imp_iff, true_and, n_in, n_cl, eq_true (show k < 320 by omega), forall_eq, litI, nI_add]
      exact hn
  obtain ⟨σ', q1, q2⟩ := key _ σ 0 (Nat.le_refl _) (by omega) rfl rfl (fun _ _ _ => rfl) (fun j hj => by omega)
  rw [hR] at q1
  refine ⟨σ', fun post hp => ?_, q1⟩
  obtain ⟨n, hn⟩ := q2 post hp
  refine ⟨n + 1, ?_⟩
  show wb_Ar_fill_0 b (wp_Ar_fill b (fun σ1 => post σ1) n) (fun σ1 => post σ1) 0 σ
  exact hn
/-- a bit of the reference's tables c, c + 1 -/
def bt (σ : Sg) (c s i : Nat) : Bool := if i < 64 then gb (σ.2.1 c s) i else gb (σ.2.1 (c + 1) s) (i - 64)
def st (σ : Sg) (i : Nat) : Bool := if i < 64 then gb (σ.2.1 54 38) i else gb (σ.2.1 54 39) (i - 64)
def madd (σ : Sg) (i : Nat) : Sg := if i < 64 then sl σ 54 38 (σ.2.1 54 38 ||| lN (2 ^ i)) else sl σ 54 39 (σ.2.1 54 39 ||| lN (2 ^ (i - 64)))
theorem Md_bit_r {y0 y2 : Int64} {i : Nat} (hi : i < 128) (σ : Sg) (post : Int32 → Sg → Prop) : wq_Md_bit y0 y2 (nI i) σ post ↔ post (nB (if i < 64 then gb y0 i else gb y2 (i - 64))) σ := by
  unfold wq_Md_bit
  rw [show (64 : Int32) = nI 64 from rfl, n_le (by omega) (by omega)]
  by_cases h : i < 64
  · rw [if_pos h, gb_s h]
    cases hq : gb y0 i with
    | false => simp only [eq_false (show ¬ 64 ≤ i by omega), litI, n_le, n_lt, n_eq, n_in, n_cl, nI_add, n_b0, n_b1, n_v0, n_v1, n_m1, n_m1', n_m1l, n_m1l', n_m1g, n_m1ge, si_1, si_2, forall_eq, not_true_eq_false, not_false_eq_true, true_imp_iff, false_imp_iff, true_and, and_true, false_and, and_false, implies_true, ite_true, ite_false, if_true, if_false, Classical.not_not, Nat.reduceEqDiff, reduceIte, Nat.add_left_cancel_iff, Nat.add_eq_left, Nat.left_eq_add, and_self, n_sub, pk_mul, Bool.false_eq_true]; exact Iff.rfl
    | true => simp only [eq_false (show ¬ 64 ≤ i by omega), litI, n_le, n_lt, n_eq, n_in, n_cl, nI_add, n_b0, n_b1, n_v0, n_v1, n_m1, n_m1', n_m1l, n_m1l', n_m1g, n_m1ge, si_1, si_2, forall_eq, not_true_eq_false, not_false_eq_true, true_imp_iff, false_imp_iff, true_and, and_true, false_and, and_false, implies_true, ite_true, ite_false, if_true, if_false, Classical.not_not, Nat.reduceEqDiff, reduceIte, Nat.add_left_cancel_iff, Nat.add_eq_left, Nat.left_eq_add, and_self, n_sub, pk_mul]; exact Iff.rfl
  · rw [if_neg h, n_sub (by omega), gb_s (k := i - 64) (by omega)]
    cases hq : gb y2 (i - 64) with
    | false => simp only [eq_true (show 64 ≤ i by omega), litI, n_le, n_lt, n_eq, n_in, n_cl, nI_add, n_b0, n_b1, n_v0, n_v1, n_m1, n_m1', n_m1l, n_m1l', n_m1g, n_m1ge, si_1, si_2, forall_eq, not_true_eq_false, not_false_eq_true, true_imp_iff, false_imp_iff, true_and, and_true, false_and, and_false, implies_true, ite_true, ite_false, if_true, if_false, Classical.not_not, Nat.reduceEqDiff, reduceIte, Nat.add_left_cancel_iff, Nat.add_eq_left, Nat.left_eq_add, and_self, n_sub, pk_mul, Bool.false_eq_true]; exact Iff.rfl
    | true => simp only [eq_true (show 64 ≤ i by omega), litI, n_le, n_lt, n_eq, n_in, n_cl, nI_add, n_b0, n_b1, n_v0, n_v1, n_m1, n_m1', n_m1l, n_m1l', n_m1g, n_m1ge, si_1, si_2, forall_eq, not_true_eq_false, not_false_eq_true, true_imp_iff, false_imp_iff, true_and, and_true, false_and, and_false, implies_true, ite_true, ite_false, if_true, if_false, Classical.not_not, Nat.reduceEqDiff, reduceIte, Nat.add_left_cancel_iff, Nat.add_eq_left, Nat.left_eq_add, and_self, n_sub, pk_mul]; exact Iff.rfl
theorem Md_add_r {i : Nat} (hi : i < 128) (σ : Sg) (post : Sg → Prop) : wq_Md_add (nI i) σ post ↔ post (madd σ i) := by
  unfold wq_Md_add madd
  rw [show (64 : Int32) = nI 64 from rfl, n_le (by omega) (by omega)]
  by_cases h : i < 64
  · rw [if_pos h, sh1 h]
    simp only [eq_false (show ¬ 64 ≤ i by omega), litI, n_le, n_lt, n_eq, n_in, n_cl, nI_add, n_b0, n_b1, n_v0, n_v1, n_m1, n_m1', n_m1l, n_m1l', n_m1g, n_m1ge, si_1, si_2, forall_eq, not_true_eq_false, not_false_eq_true, true_imp_iff, false_imp_iff, true_and, and_true, false_and, and_false, implies_true, ite_true, ite_false, if_true, if_false, Classical.not_not, Nat.reduceEqDiff, reduceIte, Nat.add_left_cancel_iff, Nat.add_eq_left, Nat.left_eq_add, and_self, n_sub, pk_mul]
  · rw [if_neg h, n_sub (by omega), sh1 (k := i - 64) (by omega)]
    simp only [eq_true (show 64 ≤ i by omega), litI, n_le, n_lt, n_eq, n_in, n_cl, nI_add, n_b0, n_b1, n_v0, n_v1, n_m1, n_m1', n_m1l, n_m1l', n_m1g, n_m1ge, si_1, si_2, forall_eq, not_true_eq_false, not_false_eq_true, true_imp_iff, false_imp_iff, true_and, and_true, false_and, and_false, implies_true, ite_true, ite_false, if_true, if_false, Classical.not_not, Nat.reduceEqDiff, reduceIte, Nat.add_left_cancel_iff, Nat.add_eq_left, Nat.left_eq_add, and_self, n_sub, pk_mul]
theorem st_add {i j : Nat} (hi : i < 128) (hj : j < 128) (σ : Sg) : st (madd σ i) j = (st σ j || decide (j = i)) := by
  unfold st madd
  by_cases h : i < 64
  · rw [if_pos h]
    by_cases hj2 : j < 64
    · rw [if_pos hj2, if_pos hj2, sl_2, if_pos ⟨rfl, rfl⟩, gb_or, gb_p hj2]
    · rw [if_neg hj2, if_neg hj2, sl_2, if_neg (by omega), decide_eq_false (by omega), Bool.or_false]
  · rw [if_neg h]
    by_cases hj2 : j < 64
    · rw [if_pos hj2, if_pos hj2, sl_2, if_neg (by omega), decide_eq_false (by omega), Bool.or_false]
    · rw [if_neg hj2, if_neg hj2, sl_2, if_pos ⟨rfl, rfl⟩, gb_or, gb_p (by omega)]
      congr 1
      by_cases e : j = i
      · rw [decide_eq_true e, decide_eq_true]; omega
      · rw [decide_eq_false e, decide_eq_false]; omega
theorem madd_1 {i : Nat} {σ : Sg} : (madd σ i).1 = σ.1 := by unfold madd; split <;> rfl
theorem madd_3 {i : Nat} {σ : Sg} : (madd σ i).2.2 = σ.2.2 := by unfold madd; split <;> rfl
theorem madd_o {i c k : Nat} {σ : Sg} (h : c ≠ 54) : (madd σ i).2.1 c k = σ.2.1 c k := by unfold madd; split <;> (rw [sl_2, if_neg (fun q => h q.1)])
theorem Md_bit_t {c s i : Nat} (hi : i < 80) (hs : s < 160) (σ : Sg) (post : Int32 → Sg → Prop) : (vp_in (nI s) 160 ∧ (vp_in (nI s) 160 ∧ (wq_Md_bit (σ.2.1 c (nI s).toNatClampNeg) (σ.2.1 (c + 1) (nI s).toNatClampNeg) (nI (160 + i) - 160) σ (fun r1 σ1 => (narrow .boolean (.int r1) = .int r1 ∧ post r1 σ1))))) ↔ post (nB (bt σ c s i)) σ := by
  rw [n_in (by omega), n_cl (by omega), show (160 : Int32) = nI 160 from rfl, n_sub (by omega), show 160 + i - 160 = i by omega, Md_bit_r (by omega)]
  unfold bt
  rw [nB_n]
  simp [hs]
theorem Md_isSo_r {s i : Nat} (hi : i < 80) (hs : s < 160) (σ : Sg) (post : Int32 → Sg → Prop) : wq_Md_isSo (nI s) (nI (160 + i)) σ post ↔ post (nB (bt σ 82 s i)) σ := Md_bit_t hi hs σ post
theorem Md_isEqual_r {s i : Nat} (hi : i < 80) (hs : s < 160) (σ : Sg) (post : Int32 → Sg → Prop) : wq_Md_isEqual (nI s) (nI (160 + i)) σ post ↔ post (nB (bt σ 80 s i)) σ := Md_bit_t hi hs σ post
theorem Md_isMarked_r {s i : Nat} (hi : i < 80) (hs : s < 160) (σ : Sg) (post : Int32 → Sg → Prop) : wq_Md_isMarked (nI s) (nI (160 + i)) σ post ↔ post (nB (bt σ 84 s i)) σ := Md_bit_t hi hs σ post
