theorem or_n {a b k : Nat} (hb : b < 2 ^ k) : nI (a * 2 ^ k) ||| nI b = nI (a * 2 ^ k + b) := by
  have h1 : 2 ^ k * a + b = 2 ^ k * a ||| b := Nat.two_pow_add_eq_or_of_lt hb a
  refine Int32.toBitVec_inj.mp ?_
  rw [Int32.toBitVec_or]
  show BitVec.ofNat 32 (a * 2 ^ k) ||| BitVec.ofNat 32 b = BitVec.ofNat 32 (a * 2 ^ k + b)
  rw [Nat.mul_comm, h1, BitVec.ofNat_or]
def rowE (e : Nat) : Nat := 65536 * (e / 8192) + 256 * (e / 32 % 256) + e % 32
theorem row_n {i s c : Nat} (hi : i < 128) (hs : s < 256) (hc : c < 32) : ((nI i <<< ((16 : Int32) &&& 31)) ||| (nI s <<< ((8 : Int32) &&& 31))) ||| nI c = nI (65536 * i + 256 * s + c) := by
  rw [pk_shlN _ 16 (by decide +kernel) (by omega), pk_shlN _ 8 (by decide +kernel) (by omega)]
  rw [or_n (a := i) (k := 16) (b := s * 2 ^ 8) (by omega)]
  rw [show i * 2 ^ 16 + s * 2 ^ 8 = (i * 2 ^ 8 + s) * 2 ^ 8 by omega, or_n (k := 8) (by omega)]
  congr 1; omega
theorem rowE_e {i s c : Nat} (hi : i < 128) (hs : s < 256) (hc : c < 32) : rowE (c + 32 * (s + 256 * i)) = 65536 * i + 256 * s + c := by unfold rowE; omega
/-- the report's rows -/
abbrev RW (σ : Sg) (T : List Nat) : Prop := (σ.1 40 0 = nI T.length) ∧ (∀ j, j < T.length → σ.1 52 j = nI (rowE (T.getD j 0))) ∧ (T.length ≤ σ.2.2.2) ∧ (∃ j, j ≤ 5 ∧ σ.2.2.2 = 64 * 2 ^ j)
theorem RW.n {σ : Sg} {T : List Nat} (hX : RW σ T) : σ.1 40 0 = nI T.length := hX.1
theorem RW.r {σ : Sg} {T : List Nat} (hX : RW σ T) : ∀ j, j < T.length → σ.1 52 j = nI (rowE (T.getD j 0)) := hX.2.1
theorem RW.l {σ : Sg} {T : List Nat} (hX : RW σ T) : T.length ≤ σ.2.2.2 := hX.2.2.1
theorem RW.p {σ : Sg} {T : List Nat} (hX : RW σ T) : ∃ j, j ≤ 5 ∧ σ.2.2.2 = 64 * 2 ^ j := hX.2.2.2
theorem add_r {σ : Sg} {T : List Nat} {i s c kc ks : Nat} {post : Sg → Prop} (hR : RW σ T) (hi : i < 80) (hs : s < 160) (hc : c < 32) (hT : T.length < 2048)
    (h : ∀ σ', RW σ' (T ++ [c + 32 * (s + 256 * i)]) → (∀ x, x ≠ 40 → x ≠ 52 → σ'.1 x = σ.1 x) → (∀ k, k ≠ 0 → σ'.1 40 k = σ.1 40 k) → σ'.2.1 = σ.2.1 → σ'.2.2.2 = (if T.length = σ.2.2.2 then 2 * T.length else σ.2.2.2) → post σ') :
    wq_Rp_add (if T.length = σ.2.2.2 then 1 else 0) (if T.length = σ.2.2.2 then 2 * T.length else 0) (nI c) (nI i) (nI s) σ post := by
  obtain ⟨h1, h2, h3, j, hj, hp⟩ := hR
  have hp2 : 2 ^ j ≤ 32 := by
    have : 2 ^ j ≤ 2 ^ 5 := Nat.pow_le_pow_right (by decide) hj
    omega
  have hp1 : 1 ≤ 2 ^ j := Nat.one_le_two_pow
  -- the end
  have fin : ∀ (mc ms kc' ks' : Nat) (σ1 : Sg), (∀ k, k < T.length → σ1.1 52 k = σ.1 52 k) → (∀ x, x ≠ 52 → σ1.1 x = σ.1 x) → σ1.2.1 = σ.2.1 → T.length < σ1.2.2.2 → (∃ j, j ≤ 5 ∧ σ1.2.2.2 = 64 * 2 ^ j) → σ1.2.2.2 = (if T.length = σ.2.2.2 then 2 * T.length else σ.2.2.2) → wp_Rp_add mc ms post 1 1 (nI c) (nI i) (nI s) kc' ks' σ1 := by
    intro mc ms kc' ks' σ1 e1 e2 e3 e4 e5 e6
    have h40 : σ1.1 40 0 = nI T.length := by rw [e2 40 (by omega)]; exact h1
    obtain ⟨j2, j3, j4⟩ := e5
    have hp3 : 2 ^ j2 ≤ 32 := by
      have : 2 ^ j2 ≤ 2 ^ 5 := Nat.pow_le_pow_right (by decide) j3
      omega
    show wb_Rp_add_1 mc ms (wp_Rp_add mc ms post 0) post (nI c) (nI i) (nI s) kc' ks' σ1
    unfold wb_Rp_add_1
    rw [h40, n_in (by omega), n_cl (by omega), row_n (by omega) (by omega) hc]
    refine ⟨e4, fun σ2 q2 σ3 q3 => ?_⟩
    have h40b : σ2.1 40 0 = nI T.length := by rw [q2, si_c (by omega)]; exact h40
    rw [h40b, show (1 : Int32) = nI 1 from rfl, nI_add] at q3
    refine h σ3 ⟨by rw [q3, si_1, if_pos ⟨rfl, rfl⟩, List.length_append]; rfl, fun k hk => ?_, ?_, ?_⟩ (fun x x1 x2 => by rw [q3, si_c x1, q2, si_c x2]; exact e2 x x2) (fun k hk => by rw [q3, si_1, if_neg (fun z => hk z.2), q2, si_c (by omega)]; exact congrFun (e2 40 (by omega)) k) (by rw [q3, q2]; exact e3) (by rw [q3, q2]; exact e6)
    · rw [List.length_append, List.length_singleton] at hk
      rw [q3, si_c (by omega), q2, si_1]
      by_cases e : k = T.length
      · subst e
        rw [if_pos ⟨rfl, rfl⟩, List.getD_eq_getElem?_getD, List.getElem?_append_right (Nat.le_refl _)]
        simp
        rw [rowE_e (by omega) (by omega) hc]
      · rw [if_neg (fun z => e z.2), e1 k (by omega), h2 k (by omega), List.getD_eq_getElem?_getD, List.getD_eq_getElem?_getD, List.getElem?_append_left (by omega)]
    · rw [List.length_append, List.length_singleton, q3, q2]; exact e4
    · rw [q3, q2]; exact ⟨j2, j3, j4⟩
  unfold wq_Rp_add
  refine ⟨2, ?_⟩
  by_cases e : T.length = σ.2.2.2
  · rw [if_pos e, if_pos e]
    show wb_Rp_add_0 1 (2 * T.length) (wp_Rp_add 1 (2 * T.length) post 1) post (nI c) (nI i) (nI s) σ
    unfold wb_Rp_add_0
    rw [h1, show (2 : Int32) = nI 2 from rfl, pk_mul, n_cl (by omega)]
    refine ⟨fun z => absurd (by rw [e]) z, fun _ => ⟨fun z => ?_, by omega, by omega, fun z => ?_, by omega, by omega, fun q σ1 hq => ?_⟩⟩
    · rw [show (0 : Int32) = nI 0 from rfl, n_lt (by omega) (by omega)] at z; omega
    · rw [n_eq (by omega) (by omega)] at z; omega
    · have hcm : (cmin σ (nI (2 * T.length))).toNatClampNeg = σ.2.2.2 := by
        unfold cmin
        rw [if_neg (fun z => by rw [n_lt (by omega) (by omega)] at z; omega), n_cl (by omega)]
      rw [hcm] at hq
      have hj4 : j ≤ 4 := by
        rcases Nat.eq_or_lt_of_le hj with z | z
        · subst z; omega
        · omega
      refine fin 1 (2 * T.length) _ _ σ1 (fun k hk => ?_) (fun x hx => ?_) (by rw [hq]; rfl) (by rw [hq]; show T.length < 2 * T.length; omega) ⟨j + 1, by omega, by rw [hq]; show 2 * T.length = _; rw [e, hp, Nat.pow_succ]; omega⟩ (by rw [if_pos e, hq]; rfl)
      · rw [hq]
        show (if 52 = 52 then va_cpy (σ.1 52) (fun _ => 0) 0 0 σ.2.2.2 else σ.1 52) k = σ.1 52 k
        rw [if_pos rfl, pk_cpy_in (by omega) (by omega)]
        rw [show 0 + (k - 0) = k by omega]
      · rw [hq]
        show (if x = 52 then _ else σ.1 x) = σ.1 x
        rw [if_neg hx]
  · rw [if_neg e, if_neg e]
    show wb_Rp_add_0 0 0 (wp_Rp_add 0 0 post 1) post (nI c) (nI i) (nI s) σ
    unfold wb_Rp_add_0
    rw [h1]
    refine ⟨fun _ => fin 0 0 _ _ σ (fun _ _ => rfl) (fun _ _ => rfl) rfl (by omega) ⟨j, hj, hp⟩ (by rw [if_neg e]), fun z => absurd ((n_eq (by omega) (by omega)).mp z) e⟩
section CO
variable {tS : Nat → Nat} {lS : Nat} {S : TG} {tD : Nat → Nat} {lD : Nat} {D : TG} {σ : Sg} {ka kb : Nat → Nat → Bool}
/-- what is told of (s, i), by the marks ka and kb -/
noncomputable def entS (tS : Nat → Nat) (lS : Nat) (S : TG) (ka kb : Nat → Nat → Bool) (i s : Nat) : List Nat := (if S.kd s = 1 ∧ ka s i = true then [0 + 32 * (s + 256 * i)] else []) ++ (if kb s i = true then [wrd tS lS S s + 32 * (s + 256 * i)] else [])
noncomputable def tlS (tS : Nat → Nat) (lS : Nat) (S : TG) (ka kb : Nat → Nat → Bool) (i : Nat) : Nat → List Nat
  | 0 => []
  | s + 1 => tlS tS lS S ka kb i s ++ entS tS lS S ka kb i s
noncomputable def tlD (tS : Nat → Nat) (lS : Nat) (S : TG) (ka kb : Nat → Nat → Bool) : Nat → List Nat
  | 0 => []
  | i + 1 => tlD tS lS S ka kb i ++ tlS tS lS S ka kb i S.N
theorem tlS_m (i : Nat) : ∀ n m, n ≤ m → (tlS tS lS S ka kb i n).length ≤ (tlS tS lS S ka kb i m).length := by
  intro n m h
  induction m with
  | zero => have : n = 0 := by omega
            subst this; exact Nat.le_refl _
  | succ m ih =>
    rcases Nat.eq_or_lt_of_le h with e | e
    · subst e; exact Nat.le_refl _
    · have := ih (by omega); show _ ≤ (tlS tS lS S ka kb i m ++ entS tS lS S ka kb i m).length; rw [List.length_append]; omega
theorem tlD_m : ∀ n m, n ≤ m → (tlD tS lS S ka kb n).length ≤ (tlD tS lS S ka kb m).length := by
  intro n m h
  induction m with
  | zero => have : n = 0 := by omega
            subst this; exact Nat.le_refl _
  | succ m ih =>
    rcases Nat.eq_or_lt_of_le h with e | e
    · subst e; exact Nat.le_refl _
    · have := ih (by omega); show _ ≤ (tlD tS lS S ka kb m ++ tlS tS lS S ka kb m S.N).length; rw [List.length_append]; omega
theorem wrd_32 {s : Nat} : wrd tS lS S s < 32 := Nat.lt_of_le_of_lt wrd_le (by decide)
theorem collect_c (C : CV tS lS S tD lD D σ) (hka : ∀ s i, s < S.N → i < D.N → hb σ 41 s i = ka s i) (hkb : ∀ s i, s < S.N → i < D.N → hb σ 43 s i = kb s i) (hlen : (tlD tS lS S ka kb D.N).length < 2048) (hrow : ∃ j, j ≤ 5 ∧ σ.2.2.2 = 64 * 2 ^ j) {post : Sg → Prop}
    (h : ∀ σ', RW σ' (tlD tS lS S ka kb D.N) → (∀ x, x ≠ 40 → x ≠ 52 → σ'.1 x = σ.1 x) → (∀ k, k ≠ 0 → σ'.1 40 k = σ.1 40 k) → σ'.2.1 = σ.2.1 → post σ') : wq_Rp_collect σ post := by
  have T := CC_T C.c
  have hn := C.c.ns
  have hd := C.c.nd
  have h9 : σ.1 0 9 = nI S.N := C.c.s.N
  have h9d : σ.1 13 9 = nI D.N := C.c.d.N
  -- what stays
  let ST := fun (σ1 : Sg) => (∀ x, x ≠ 40 → x ≠ 52 → σ1.1 x = σ.1 x) ∧ (∀ k, k ≠ 0 → σ1.1 40 k = σ.1 40 k) ∧ σ1.2.1 = σ.2.1
  -- budgets: the number of times that the rows have grown
  let BU := fun (σ1 : Sg) (kc ks : Nat) => ∃ j, kc ≤ j ∧ j ≤ 5 ∧ ks ≤ 128 * (2 ^ j - 1) ∧ σ1.2.2.2 = 64 * 2 ^ j
  have hb1 : ∀ (σ1 : Sg), ST σ1 → ∀ b s i, hb σ1 b s i = hb σ b s i := fun σ1 q b s i => by unfold hb; rw [q.2.2]
  -- one more
  have more : ∀ (σ1 : Sg) (P : List Nat) (i s c kc ks : Nat) (Q : Nat → Nat → Sg → Prop), ST σ1 → RW σ1 P → BU σ1 kc ks → i < 80 → s < 160 → c < 32 → P.length < 2048 → (∀ σ2 kc' ks', ST σ2 → RW σ2 (P ++ [c + 32 * (s + 256 * i)]) → BU σ2 kc' ks' → Q kc' ks' σ2) → ∃ a2 b2, kc + a2 ≤ 5 ∧ ks + b2 ≤ 3968 ∧ wq_Rp_add a2 b2 (nI c) (nI i) (nI s) σ1 (fun σ2 => Q (kc + a2) (ks + b2) σ2) := by
    intro σ1 P i s c kc ks Q q1 q2 q3 hi hs hc hP hQ
    obtain ⟨j, j1, j2, j3, j4⟩ := q3
    have hp2 : 2 ^ j ≤ 32 := by
      have : 2 ^ j ≤ 2 ^ 5 := Nat.pow_le_pow_right (by decide) j2
      omega
    have hp1 : 1 ≤ 2 ^ j := Nat.one_le_two_pow
    refine ⟨_, _, ?_, ?_, add_r (kc := 0) (ks := 0) q2 hi hs hc hP (fun σ2 r1 r2 r3 r4 r5 => ?_)⟩
    · split
      · rename_i e
        rcases Nat.eq_or_lt_of_le j2 with z | z
        · subst z; omega
        · omega
      · omega
    · split
      · rename_i e
        rcases Nat.eq_or_lt_of_le j2 with z | z
        · subst z; omega
        · have : 2 ^ (j + 1) ≤ 2 ^ 5 := Nat.pow_le_pow_right (by decide) (by omega)
          rw [Nat.pow_succ] at this; omega
      · omega
    · have s2 : ST σ2 := ⟨fun x x1 x2 => (r2 x x1 x2).trans (q1.1 x x1 x2), fun k hk => (r3 k hk).trans (q1.2.1 k hk), r4.trans q1.2.2⟩
      refine hQ σ2 _ _ s2 r1 ?_
      obtain ⟨j', jj1, jj2⟩ := r1.p
      -- how long the rows are now
      by_cases e : P.length = σ1.2.2.2
      · rw [if_pos e, if_pos e]
        refine ⟨j', ?_, jj1, ?_, jj2⟩
        · have hl := r1.l
          rw [List.length_append, List.length_singleton, jj2] at hl
          have : 2 ^ j < 2 ^ j' := by omega
          have := (Nat.pow_lt_pow_iff_right (by decide : 1 < 2)).mp this
          omega
        · have hl := r1.l
          rw [List.length_append, List.length_singleton, jj2] at hl
          have h2 : 2 ^ j < 2 ^ j' := by omega
          have h3 := (Nat.pow_lt_pow_iff_right (by decide : 1 < 2)).mp h2
          have h4 : 2 ^ (j + 1) ≤ 2 ^ j' := Nat.pow_le_pow_right (by decide) h3
          rw [Nat.pow_succ] at h4; omega
      · rw [if_neg e, if_neg e]
        rw [if_neg e] at r5
        exact ⟨j, by omega, j2, by omega, by rw [r5, j4]⟩
  have loop : ∀ d i, i + d = D.N → ∀ n, d * (2 * S.N + 2) + 1 ≤ n → ∀ (σ1 : Sg) (kc ks : Nat) (x2 : Int32), ST σ1 → RW σ1 (tlD tS lS S ka kb i) → BU σ1 kc ks → wp_Rp_collect post n 1 (nI i) x2 kc ks σ1 := by
    intro d
    induction d with
    | zero =>
      intro i hi n hn1 σ1 kc ks x2 q1 q2 q3
      obtain ⟨n, rfl⟩ : ∃ k, n = k + 1 := ⟨n - 1, by omega⟩
      show wb_Rp_collect_1 (wp_Rp_collect post n) post (nI i) kc ks σ1
      unfold wb_Rp_collect_1
      rw [q1.1 13 (by omega) (by omega), h9d, n_le (by omega) (by omega)]
      have : i = D.N := by omega
      subst this
      exact ⟨fun _ => h σ1 q2 q1.1 q1.2.1 q1.2.2, fun z => absurd (Nat.le_refl _) z⟩
    | succ d ih =>
      intro i hi n hn1 σ1 kc ks x2 q1 q2 q3
      have inner : ∀ e s, s + e = S.N → ∀ n, 2 * e + 1 + (d * (2 * S.N + 2) + 1) ≤ n → ∀ (σ1 : Sg) (kc ks : Nat), ST σ1 → RW σ1 (tlD tS lS S ka kb i ++ tlS tS lS S ka kb i s) → BU σ1 kc ks → wp_Rp_collect post n 2 (nI i) (nI s) kc ks σ1 := by
        intro e
        induction e with
        | zero =>
          intro s hs n hn1 σ1 kc ks q1 q2 q3
          obtain ⟨n, rfl⟩ : ∃ k, n = k + 1 := ⟨n - 1, by omega⟩
          show wb_Rp_collect_2 (wp_Rp_collect post n) post (nI i) (nI s) kc ks σ1
          unfold wb_Rp_collect_2
          rw [q1.1 0 (by omega) (by omega), h9, n_le (by omega) (by omega)]
          have : s = S.N := by omega
          subst this
          refine ⟨fun _ => ?_, fun z => absurd (Nat.le_refl _) z⟩
          rw [show (1 : Int32) = nI 1 from rfl, nI_add]
          exact ih (i + 1) (by omega) n (by omega) σ1 kc ks 0 q1 q2 q3
        | succ e ihe =>
          intro s hs n hn1 σ1 kc ks q1 q2 q3
          obtain ⟨n, rfl⟩ : ∃ k, n = k + 2 := ⟨n - 2, by omega⟩
          have hsN : s < S.N := by omega
          have hiN : i < D.N := by omega
          have hfull : (tlD tS lS S ka kb i ++ tlS tS lS S ka kb i (s + 1)).length ≤ (tlD tS lS S ka kb D.N).length := by
            have h1 := tlS_m (tS := tS) (lS := lS) (S := S) (ka := ka) (kb := kb) i (s + 1) S.N (by omega)
            have h2 := tlD_m (tS := tS) (lS := lS) (S := S) (ka := ka) (kb := kb) (i + 1) D.N (by omega)
            have h3 : (tlD tS lS S ka kb (i + 1)).length = (tlD tS lS S ka kb i).length + (tlS tS lS S ka kb i S.N).length := List.length_append
            rw [List.length_append]; omega
          have hfull2 : (tlD tS lS S ka kb i ++ tlS tS lS S ka kb i (s + 1)) = (tlD tS lS S ka kb i ++ tlS tS lS S ka kb i s) ++ entS tS lS S ka kb i s := by
            show _ ++ (_ ++ _) = _
            rw [List.append_assoc]
          -- the word's part
          have third : ∀ (σ1 : Sg) (kc ks : Nat), ST σ1 → RW σ1 ((tlD tS lS S ka kb i ++ tlS tS lS S ka kb i s) ++ (if S.kd s = 1 ∧ ka s i = true then [0 + 32 * (s + 256 * i)] else [])) → BU σ1 kc ks → wp_Rp_collect post (n + 1) 3 (nI i) (nI s) kc ks σ1 := by
            intro σ1 kc ks q1 q2 q3
            show wb_Rp_collect_3 (wp_Rp_collect post n) post (nI i) (nI s) kc ks σ1
            unfold wb_Rp_collect_3
            rw [Mk_has_r (by omega) (by omega), hb1 σ1 q1, hkb s i hsN hiN, n_cl (by omega)]
            have hl2 := hfull
            rw [hfull2] at hl2
            unfold entS at hl2
            cases hk : kb s i with
            | false =>
              refine ⟨fun _ => ?_, fun z => absurd rfl z⟩
              rw [show (1 : Int32) = nI 1 from rfl, nI_add]
              refine ihe (s + 1) (by omega) n (by omega) σ1 kc ks q1 ?_ q3
              rw [hfull2]; unfold entS; rw [hk, if_neg (show ¬ (false = true) by decide), List.append_nil]; exact q2
            | true =>
              rw [hk, if_pos rfl] at hl2
              refine ⟨fun z => absurd z (by decide +kernel), fun _ => ⟨(n_in (by omega)).mpr (by omega), ?_⟩⟩
              rw [q1.1 30 (by omega) (by omega), C.p.w s hsN]
              refine more σ1 _ i s _ kc ks (fun a b σ2 => wp_Rp_collect post n 2 (nI i) (nI s + 1) a b σ2) q1 q2 q3 (by omega) (by omega) wrd_32 (by simp only [List.length_append, List.length_singleton] at hl2 ⊢; omega) (fun σ2 a b r1 r2 r3 => ?_)
              rw [show (1 : Int32) = nI 1 from rfl, nI_add]
              refine ihe (s + 1) (by omega) n (by omega) σ2 a b r1 ?_ r3
              rw [hfull2]; unfold entS; rw [hk, if_pos rfl, ← List.append_assoc]; exact r2
          show wb_Rp_collect_2 (wp_Rp_collect post (n + 1)) post (nI i) (nI s) kc ks σ1
          unfold wb_Rp_collect_2
          rw [q1.1 0 (by omega) (by omega), h9, n_le (by omega) (by omega), q1.1 1 (by omega) (by omega), n_cl (by omega), T.kS s hsN, Mk_has_r (by omega) (by omega), hb1 σ1 q1, hka s i hsN hiN]
          refine ⟨fun z => by omega, fun _ => ⟨(n_in (by omega)).mpr (by omega), fun z => ?_, fun z => ?_⟩⟩
          · refine third σ1 kc ks q1 ?_ q3
            rw [if_neg (fun y => z (by rw [y.1]; rfl)), List.append_nil]; exact q2
          · have k1 : S.kd s = 1 := (n_eq (by have := C.c.ws.kd s hsN; omega) (by omega)).mp z
            have hl2 := hfull
            rw [hfull2] at hl2
            unfold entS at hl2
            cases hk : ka s i with
            | false =>
              refine ⟨fun _ => ?_, fun z => absurd rfl z⟩
              refine third σ1 kc ks q1 ?_ q3
              rw [hk, if_neg (fun y => by cases y.2), List.append_nil]; exact q2
            | true =>
              rw [hk, if_pos ⟨k1, rfl⟩] at hl2
              refine ⟨fun z => absurd z (by decide +kernel), fun _ => ?_⟩
              refine more σ1 _ i s 0 kc ks (fun a b σ2 => wp_Rp_collect post (n + 1) 3 (nI i) (nI s) a b σ2) q1 q2 q3 (by omega) (by omega) (by omega) (by simp only [List.length_append, List.length_singleton] at hl2 ⊢; omega) (fun σ2 a b r1 r2 r3 => ?_)
              refine third σ2 a b r1 ?_ r3
              rw [hk, if_pos ⟨k1, rfl⟩]; exact r2
      obtain ⟨n, rfl⟩ : ∃ k, n = k + 1 := ⟨n - 1, by omega⟩
      show wb_Rp_collect_1 (wp_Rp_collect post n) post (nI i) kc ks σ1
      unfold wb_Rp_collect_1
      rw [q1.1 13 (by omega) (by omega), h9d, n_le (by omega) (by omega)]
      refine ⟨fun z => by omega, fun _ => ?_⟩
      refine inner S.N 0 (by omega) n ?_ σ1 kc ks q1 ?_ q3
      · rw [Nat.add_mul] at hn1; omega
      · show RW σ1 (_ ++ []); rw [List.append_nil]; exact q2
  unfold wq_Rp_collect
  refine ⟨D.N * (2 * S.N + 2) + 2, ?_⟩
  show wb_Rp_collect_0 (wp_Rp_collect post (D.N * (2 * S.N + 2) + 1)) post σ
  unfold wb_Rp_collect_0
  intro σ1 q
  refine loop D.N 0 (by omega) _ (Nat.le_refl _) σ1 0 0 0 ⟨fun x x1 x2 => by rw [q, si_c x1], fun k hk => by rw [q, si_1, if_neg (fun z => hk z.2)], by rw [q]; rfl⟩ ⟨by rw [q, si_1, if_pos ⟨rfl, rfl⟩]; rfl, fun j hj => absurd hj (by show ¬ j < 0; omega), Nat.zero_le _, by rw [q]; exact hrow⟩ ?_
  obtain ⟨j, hj, hp⟩ := hrow
  exact ⟨j, by omega, hj, by omega, by rw [q]; exact hp⟩
end CO
section WR
variable {tS : Nat → Nat} {lS : Nat} {S : TG} {tD : Nat → Nat} {lD : Nat} {D : TG} {σ : Sg}
noncomputable def cB (p : Prop) : Bool := @decide p (Classical.propDecidable p)
theorem cB_t {p : Prop} : cB p = true ↔ p := by unfold cB; exact @decide_eq_true_iff p (Classical.propDecidable p)
theorem bool_e {a b : Bool} (h : a = true ↔ b = true) : a = b := by cases a <;> cases b <;> simp_all
/-- what is told, in order -/
noncomputable def Tl (tS : Nat → Nat) (lS : Nat) (S : TG) (tD : Nat → Nat) (lD : Nat) (D : TG) : List Nat := tlD tS lS S (fun s i => cB (Rp tS lS S tD lD D s i)) (fun u j => cB (∃ s, Rp tS lS S tD lD D s j ∧ Wr tS lS S tD lD D s u j)) D.N
theorem write_c (C : CR tS lS S tD lD D σ) {Lc : List Nat} (P : PF tS lS S σ Lc) (hc : allC S Lc = true) (h0 : 0 < S.N) (h1 : 0 < D.N) (hlen : (Tl tS lS S tD lD D).length < 2048) (hrow : ∃ j, j ≤ 5 ∧ σ.2.2.2 = 64 * 2 ^ j) {post : Sg → Prop}
    (h : ∀ σ', RW σ' (Tl tS lS S tD lD D) → (∀ x, x ≠ 40 → x ≠ 52 → σ'.1 x = σ.1 x) → (∀ k, k ≠ 0 → σ'.1 40 k = σ.1 40 k) → (∀ c k, ¬ P4 c k → σ'.2.1 c k = σ.2.1 c k) → post σ') : wq_Rp_write σ post := by
  have hn := C.v.c.ns
  have hd := C.v.c.nd
  have hW := C.v.c.ws
  have hWD := C.v.c.wd
  have h9d : σ.1 13 9 = nI D.N := C.v.c.d.N
  have hll := OL_len P.l
  have hin : ∀ s, s < S.N → S.kd s = 6 → s ∈ Lc := fun s hs h6 => by
    rcases of_decide_eq_true (List.all_eq_true.mp hc s (List.mem_range.mpr hs)) with z | z
    · exact absurd h6 z
    · exact z
  -- the rounds
  let I := fun (Pz : Nat → Nat → Prop) (σ1 : Sg) => FL P4 σ σ1 ∧ (∀ x c, x < S.N → c < D.N → hb σ1 41 x c = true → Rp tS lS S tD lD D x c) ∧ (HH tS lS S tD lD D 0 0 = false → hb σ1 41 0 0 = true) ∧ (∀ s j, s < S.N → j < D.N → S.kd s = 6 → Pz s j → hb σ1 41 s j = true → ∀ x c, Ld tS lS S tD lD D s j x c → hb σ1 41 x c = true) ∧ (∀ u j, u < S.N → j < D.N → (hb σ1 43 u j = true ↔ ∃ s, s < S.N ∧ Pz s j ∧ hb σ1 41 s j = true ∧ Wr tS lS S tD lD D s u j))
  have loop : ∀ d i (σ1 : Sg) (x2 : Int32), i + d = D.N → I (fun s j => j < i) σ1 → ∃ n, wp_Rp_write post n 1 (nI i) x2 0 0 σ1 := by
    intro d
    induction d with
    | zero =>
      intro i σ1 x2 hi q
      obtain ⟨qf, qa, qb, qc, qd⟩ := q
      have : i = D.N := by omega
      subst this
      refine ⟨1, ?_⟩
      show wb_Rp_write_1 (wp_Rp_write post 0) post (nI D.N) 0 0 σ1
      unfold wb_Rp_write_1
      have C1 := CR_FL C qf
      rw [qf.1, h9d]
      have m1 : ∀ s i, Rp tS lS S tD lD D s i → s < S.N ∧ i < D.N ∧ hb σ1 41 s i = true := fun s i hr => by
        refine hr (fun s i => s < S.N ∧ i < D.N ∧ hb σ1 41 s i = true) (fun z => ⟨h0, h1, qb z⟩) (fun s i x c hp hl => ?_)
        have hk := Ld_ok hW hWD hp.1 hp.2.1 hl
        have h6 : S.kd s = 6 := by obtain ⟨w, v, hb, _⟩ := hl; exact hb.1
        exact ⟨hk.1, hk.2.1, qc s i hp.1 hp.2.1 h6 hp.2.1 hp.2.2 x c hl⟩
      refine ⟨fun _ => ⟨by omega, by omega, ?_⟩, fun z => absurd ((n_le (by omega) (by omega)).mpr (Nat.le_refl _)) z⟩
      refine collect_c C1.v (ka := fun s i => cB (Rp tS lS S tD lD D s i)) (kb := fun u j => cB (∃ s, Rp tS lS S tD lD D s j ∧ Wr tS lS S tD lD D s u j)) (fun s i hs hi => bool_e ?_) (fun u j hu hj => bool_e ?_) hlen (by rw [qf.2.1]; exact hrow) (fun σ' r1 r2 r3 r4 => h σ' r1 (fun x x1 x2 => by rw [r2 x x1 x2, qf.1]) (fun k hk => by rw [r3 k hk, qf.1]) (fun c k hp => by rw [r4]; exact qf.2.2 c k hp))
      · rw [cB_t]; exact ⟨qa s i hs hi, fun z => (m1 s i z).2.2⟩
      · rw [cB_t, qd u j hu hj]
        exact ⟨fun ⟨s, z1, z2, z3, z4⟩ => ⟨s, qa s j z1 hj z3, z4⟩, fun ⟨s, z1, z2⟩ => ⟨s, (m1 s j z1).1, hj, (m1 s j z1).2.2, z2⟩⟩
    | succ d ih =>
      intro i σ1 x2 hi q
      have inner : ∀ m (σ1 : Sg), m ≤ Lc.length → I (fun s j => j < i ∨ (j = i ∧ s ∈ Lc.drop m)) σ1 → ∃ n, wp_Rp_write post n 2 (nI i) (nI m - nI 1) 0 0 σ1 := by
        intro m
        induction m with
        | zero =>
          intro σ1 hm q
          obtain ⟨qf, qa, qb, qc, qd⟩ := q
          obtain ⟨n, hn1⟩ := ih (i + 1) σ1 0 (by omega) ⟨qf, qa, qb, fun s j hs hj h6 hp => qc s j hs hj h6 (by
            rcases Nat.eq_or_lt_of_le (Nat.lt_succ_iff.mp hp) with e | e
            · exact Or.inr ⟨e, hin s hs h6⟩
            · exact Or.inl e), fun u j hu hj => by
            rw [qd u j hu hj]
            refine ⟨fun ⟨s, z1, z2, z3, z4⟩ => ⟨s, z1, by show j < i + 1; omega, z3, z4⟩, fun ⟨s, z1, z2, z3, z4⟩ => ⟨s, z1, ?_, z3, z4⟩⟩
            have h6 : S.kd s = 6 := by obtain ⟨w, hb, _⟩ := z4; exact hb.1
            rcases Nat.eq_or_lt_of_le (Nat.lt_succ_iff.mp z2) with e | e
            · exact Or.inr ⟨e, hin s z1 h6⟩
            · exact Or.inl e⟩
          refine ⟨n + 1, ?_⟩
          show wb_Rp_write_2 (wp_Rp_write post n) post (nI i) (nI 0 - nI 1) 0 0 σ1
          unfold wb_Rp_write_2
          refine ⟨fun _ => ?_, fun z => absurd (by decide +kernel) z⟩
          rw [show (1 : Int32) = nI 1 from rfl, nI_add]
          exact hn1
        | succ m ihm =>
          intro σ1 hm q
          obtain ⟨qf, qa, qb, qc, qd⟩ := q
          have C1 := CR_FL C qf
          have hsp : Lc = Lc.take m ++ Lc.getD m 0 :: Lc.drop (m + 1) := by
            rw [List.getD_eq_getElem?_getD, List.getElem?_eq_getElem hm]
            simp
          obtain ⟨s0, hs0⟩ : ∃ s, s = Lc.getD m 0 := ⟨_, rfl⟩
          rw [← hs0] at hsp
          have hmem : s0 ∈ Lc := by rw [hsp]; simp
          have hsN := (P.l.lt s0 hmem).1
          have h6 : S.kd s0 = 6 := (P.l.lt s0 hmem).2
          have hdr : Lc.drop m = s0 :: Lc.drop (m + 1) := by
            rw [hs0, List.getD_eq_getElem?_getD, List.getElem?_eq_getElem hm]
            exact List.drop_eq_getElem_cons hm
          have hnd : s0 ∉ Lc.drop (m + 1) ∧ ∀ x, x ∈ Lc.take m → x ∉ Lc.drop (m + 1) := by
            have := P.l.nd
            rw [hsp] at this
            have := List.nodup_append.mp this
            exact ⟨(List.nodup_cons.mp this.2.1).1, fun x hx hy => this.2.2 x hx x (List.mem_cons_of_mem _ hy) rfl⟩
          have ee : nI (m + 1) - nI 1 = nI m := by rw [pk_sub (by omega)]; rfl
          have e2 : ∀ m, nI m + (-1) = nI m - nI 1 := fun m => by rw [Int32.sub_eq_add_neg]; rfl
          -- the next state
          obtain ⟨σ2, f2, st⟩ : ∃ σ2, FL P4 σ1 σ2 ∧ I (fun s j => j < i ∨ (j = i ∧ s ∈ Lc.drop m)) σ2 ∧ ((hb σ1 41 s0 i = false ∧ σ2 = σ1) ∨ (hb σ1 41 s0 i = true ∧ Rv (wq_Rp_explain (nI s0) (nI i) σ1) σ2)) := by
            by_cases hk : hb σ1 41 s0 i = true
            · obtain ⟨σ2, r1, r2, r3, r4⟩ := explain_c C1 hsN h6 (by omega : i < D.N)
              have new : ∀ s j x c, Ld tS lS S tD lD D s0 i x c → ¬ (x = s ∧ c = j ∧ S.kd s = 6 ∧ (j < i ∨ (j = i ∧ s ∈ Lc.drop m))) := by
                intro s j x c hl ⟨e1, e2, k6, e3⟩
                subst e1; subst e2
                rcases (Ld_ok hW hWD hsN (by omega) hl).2.2.2 with z | ⟨z, z2⟩
                · omega
                · subst z
                  rcases e3 with e3 | ⟨_, e3⟩
                  · omega
                  · rcases P.l.tp (Lc.take m) s0 (Lc.drop (m + 1)) hsp x z2 with y | y
                    · exact y k6
                    · rw [hdr] at e3
                      rcases List.mem_cons.mp e3 with u | u
                      · have := P.l.nd
                        rw [hsp] at this
                        exact (List.nodup_append.mp this).2.2 x y s0 (List.mem_cons_self ..) u
                      · exact hnd.2 x y u
              refine ⟨σ2, r2, ⟨FL_t qf r2, fun x c hx hc2 z => ?_, fun z => (r3 0 0 h0 h1).mpr (Or.inl (qb z)), fun s j hs hj k6 hp z x c hl => ?_, fun u j hu hj => ?_⟩, Or.inr ⟨hk, r1⟩⟩
              · rcases (r3 x c hx hc2).mp z with y | y
                · exact qa x c hx hc2 y
                · exact Rp_s (qa s0 i hsN (by omega) hk) y
              · have hl2 := Ld_ok hW hWD hs hj hl
                rcases (r3 s j hs hj).mp z with y | y
                · by_cases en : s = s0 ∧ j = i
                  · rw [en.1, en.2] at hl
                    exact (r3 x c hl2.1 hl2.2.1).mpr (Or.inr hl)
                  · refine (r3 x c hl2.1 hl2.2.1).mpr (Or.inl (qc s j hs hj k6 ?_ y x c hl))
                    rcases hp with hp | ⟨hp, hp2⟩
                    · exact Or.inl hp
                    · rw [hdr] at hp2
                      rcases List.mem_cons.mp hp2 with u | u
                      · exact absurd ⟨u, hp⟩ en
                      · exact Or.inr ⟨hp, u⟩
                · exact absurd ⟨rfl, rfl, k6, hp⟩ (new s j s j y)
              · rw [r4 u j hu hj, qd u j hu hj]
                constructor
                · rintro (⟨s, z1, z2, z3, z4⟩ | ⟨z1, z2⟩)
                  · refine ⟨s, z1, ?_, (r3 s j z1 hj).mpr (Or.inl z3), z4⟩
                    rcases z2 with z2 | ⟨z2, z5⟩
                    · exact Or.inl z2
                    · exact Or.inr ⟨z2, by rw [hdr]; exact List.mem_cons_of_mem _ z5⟩
                  · subst z1
                    exact ⟨s0, hsN, Or.inr ⟨rfl, by rw [hdr]; exact List.mem_cons_self ..⟩, (r3 s0 j hsN hj).mpr (Or.inl hk), z2⟩
                · rintro ⟨s, z1, z2, z3, z4⟩
                  have k6 : S.kd s = 6 := by obtain ⟨w, hb, _⟩ := z4; exact hb.1
                  rcases (r3 s j z1 hj).mp z3 with y | y
                  · by_cases en : s = s0 ∧ j = i
                    · exact Or.inr ⟨en.2, by rw [← en.1, ← en.2]; exact z4⟩
                    · refine Or.inl ⟨s, z1, ?_, y, z4⟩
                      rcases z2 with hp | ⟨hp, hp2⟩
                      · exact Or.inl hp
                      · rw [hdr] at hp2
                        rcases List.mem_cons.mp hp2 with u | u
                        · exact absurd ⟨u, hp⟩ en
                        · exact Or.inr ⟨hp, u⟩
                  · exact absurd ⟨rfl, rfl, k6, z2⟩ (new s j s j y)
            · have hk : hb σ1 41 s0 i = false := by simpa using hk
              refine ⟨σ1, FL_r, ⟨qf, qa, qb, fun s j hs hj k6 hp z => qc s j hs hj k6 ?_ z, fun u j hu hj => ?_⟩, Or.inl ⟨hk, rfl⟩⟩
              · rcases hp with hp | ⟨hp, hp2⟩
                · exact Or.inl hp
                · rw [hdr] at hp2
                  rcases List.mem_cons.mp hp2 with e | e
                  · subst e; subst hp; rw [hk] at z; cases z
                  · exact Or.inr ⟨hp, e⟩
              · rw [qd u j hu hj]
                refine ⟨fun ⟨s, z1, z2, z3, z4⟩ => ⟨s, z1, ?_, z3, z4⟩, fun ⟨s, z1, z2, z3, z4⟩ => ⟨s, z1, ?_, z3, z4⟩⟩
                · rcases z2 with z2 | ⟨z2, z5⟩
                  · exact Or.inl z2
                  · exact Or.inr ⟨z2, by rw [hdr]; exact List.mem_cons_of_mem _ z5⟩
                · rcases z2 with hp | ⟨hp, hp2⟩
                  · exact Or.inl hp
                  · rw [hdr] at hp2
                    rcases List.mem_cons.mp hp2 with e | e
                    · subst e; subst hp; rw [hk] at z3; cases z3
                    · exact Or.inr ⟨hp, e⟩
          obtain ⟨n, hn1⟩ := ihm σ2 (by omega) st.1
          refine ⟨n + 1, ?_⟩
          rw [ee]
          show wb_Rp_write_2 (wp_Rp_write post n) post (nI i) (nI m) 0 0 σ1
          unfold wb_Rp_write_2
          have h33 : σ1.1 33 m = nI s0 := by rw [qf.1, P.o m hm, hs0]
          refine ⟨fun z => by rw [show (0 : Int32) = nI 0 from rfl, n_lt (by omega) (by omega)] at z; omega, fun _ => ⟨(n_in (by omega)).mpr (by omega), ?_⟩⟩
          rw [n_cl (by omega), h33, Mk_has_r (by omega) (by omega), e2]
          rcases st.2 with ⟨z1, z2⟩ | ⟨z1, z2⟩
          · rw [z1]
            subst z2
            exact ⟨fun _ => hn1, fun z => absurd rfl z⟩
          · rw [z1]
            refine ⟨fun z => absurd z (by decide +kernel), fun _ => ⟨(n_in (by omega)).mpr (by omega), ?_⟩⟩
            rw [h33]
            exact z2 _ hn1
      obtain ⟨n, hn1⟩ := inner Lc.length σ1 (Nat.le_refl _) (by
        obtain ⟨qf, qa, qb, qc, qd⟩ := q
        have e : ∀ (s j : Nat), (j < i ∨ (j = i ∧ s ∈ Lc.drop Lc.length)) ↔ j < i := fun s j => by rw [List.drop_length]; simp
        refine ⟨qf, qa, qb, fun s j hs hj k6 hp => qc s j hs hj k6 ((e s j).mp hp), fun u j hu hj => ?_⟩
        rw [qd u j hu hj]
        exact ⟨fun ⟨s, z1, z2, z3⟩ => ⟨s, z1, Or.inl z2, z3⟩, fun ⟨s, z1, z2, z3⟩ => ⟨s, z1, (e s j).mp z2, z3⟩⟩)
      refine ⟨n + 1, ?_⟩
      show wb_Rp_write_1 (wp_Rp_write post n) post (nI i) 0 0 σ1
      unfold wb_Rp_write_1
      rw [q.1.1, h9d, P.n, n_le (by omega) (by omega)]
      exact ⟨fun z => by omega, fun _ => hn1⟩
  -- the start
  obtain ⟨σa, a1, a2, a3, a4, a5⟩ := Mk_clear_r 41 σ
  obtain ⟨σb, b1, b2, b3, b4, b5⟩ := Mk_clear_r 43 σa
  have fb : FL P4 σ σb := ⟨b2.trans a2, b3.trans a3, fun c k hp => by unfold P4 at hp; rw [b4 c k (by omega), a4 c k (by omega)]⟩
  obtain ⟨σc, c1, c2, c3, c4⟩ := report_c (CR_FL C fb) h0 h1
  have z1 : ∀ s i, s < S.N → i < D.N → hb σb 41 s i = false := fun s i hs hi => by rw [hb_o (fun k => b4 42 k (by omega))]; exact a5 s i (by omega) (by omega)
  have z3 : ∀ s i, s < S.N → i < D.N → hb σc 43 s i = false := fun s i hs hi => by rw [c3]; exact b5 s i (by omega) (by omega)
  obtain ⟨n, hn1⟩ := loop D.N 0 σc 0 (by omega) ⟨FL_t fb c2, fun x c hx hc2 z => by
    rcases (c4 x c hx hc2).mp z with y | ⟨y1, y2, y3⟩
    · rw [z1 x c hx hc2] at y; cases y
    · subst y1; subst y2; exact Rp_0 y3, fun z => (c4 0 0 h0 h1).mpr (Or.inr ⟨rfl, rfl, z⟩), fun s j _ _ _ hp => absurd hp (by show ¬ j < 0; omega), fun u j hu hj => by
    rw [z3 u j hu hj]
    refine ⟨fun z => (by cases z), fun ⟨s, _, z, _⟩ => absurd z (by show ¬ j < 0; omega)⟩⟩
  unfold wq_Rp_write
  refine ⟨n + 1, ?_⟩
  show wb_Rp_write_0 (wp_Rp_write post n) post σ
  unfold wb_Rp_write_0
  exact a1 _ (b1 _ (c1 _ hn1))
end WR
