section SX
variable (tS : Nat → Nat) (lS : Nat) (S : TG) (tD : Nat → Nat) (lD : Nat) (D : TG)
/-- the property for a child of the document -/
noncomputable def prf (s c : Nat) : Option Nat := match prp tS lS S s with
  | some p => cnd tS lS S p tD (nmo D c + 1) (qe tD lD (nmo D c + 1))
  | none => none
/-- the node that has to hold for c -/
noncomputable def nfr (e : Nat → Nat → Bool) (s w v i c : Nat) : Option Nat :=
  if D.kd i = 5 then (if w = 14 then some v else none) else if D.kd i = 6 then (if w = 20 then (if e s c = true then none else some v) else if w = 12 then prf tS lS S tD lD D s c else if w = 13 then (if prf tS lS S tD lD D s c = none then some v else none) else none) else none
/-- a holds for i and evaluates c -/
noncomputable def epb (h e : Nat → Nat → Bool) (i c a : Nat) : Bool := decide (S.kd a = 6) && h a i && (e a c || (rul tS lS S a 20).isSome)
noncomputable def inb (h e : Nat → Nat → Bool) (s i c w : Nat) : Bool := match rul tS lS S s w with
  | some v => if S.kd v = 5 then (S.K v).any (epb tS lS S h e i c) else false
  | none => false
noncomputable def rfb (h e : Nat → Nat → Bool) (s i c : Nat) : Bool := match rul tS lS S s 19 with
  | some v => (match mtg tS lS S v with
    | some x => epb tS lS S h e i c x
    | none => false)
  | none => false
/-- s evaluates c, by others than unevaluated -/
noncomputable def evb (h e : Nat → Nat → Bool) (s i c : Nat) : Bool := (prf tS lS S tD lD D s c).isSome || (rul tS lS S s 13).isSome || inb tS lS S h e s i c 15 || inb tS lS S h e s i c 16 || inb tS lS S h e s i c 17 || rfb tS lS S h e s i c
def kwn (k : Nat) : Nat := if k = 0 then 22 else if k ≤ 2 then 23 else k + 21
noncomputable def ikb (v i : Nat) : Bool := decide (eqn tS (S.fr v + 1) (qe tS lS (S.fr v + 1)) wl (ws (kwn (D.kd i))) (we (kwn (D.kd i))))
end SX
section SY
variable (tS : Nat → Nat) (lS : Nat) (S : TG) (tD : Nat → Nat) (lD : Nat) (D : TG)
noncomputable def typb (v i : Nat) : Bool := if S.kd v = 4 then ikb tS lS S D v i else if S.kd v = 5 then (S.K v).any (fun a => decide (S.kd a = 4) && ikb tS lS S D a i) else true
def numb (w : Nat) (has said : Int32) : Bool := if w = 4 ∨ w = 7 ∨ w = 9 then decide (¬ has < said) else if w = 6 then (decide (said ≤ 0) || decide (has - has / said * said = 0)) else decide (¬ said < has)
noncomputable def meab (w v i : Nat) : Bool :=
  if S.kd v = 3 then (if w < 7 then (if D.kd i = 3 then numb w (D.nu i) (S.nu v) else true) else if w < 9 then (if D.kd i = 4 then numb w (nI (qe tD lD (D.fr i + 1) - (D.fr i + 1))) (S.nu v) else true) else (if D.kd i = 5 then numb w (nI (D.K i).length) (S.nu v) else true)) else true
noncomputable def reqb (v i : Nat) : Bool := if S.kd v = 5 ∧ D.kd i = 6 then (S.K v).all (fun a => decide (S.kd a ≠ 4) || (cnd tD lD D i tS (S.fr a + 1) (qe tS lS (S.fr a + 1))).isSome) else true
noncomputable def chf (h e : Nat → Nat → Bool) (s w v i c : Nat) : Bool := match nfr tS lS S tD lD D e s w v i c with
  | some x => h x c
  | none => true
noncomputable def chib (h e : Nat → Nat → Bool) (s w v i : Nat) : Bool := (D.K i).all (chf tS lS S tD lD D h e s w v i)
def cntb (h : Nat → Nat → Bool) (v i : Nat) : Nat := (S.K v).countP (fun a => h a i)
/-- what v says of i by w is so -/
noncomputable def sob (h e : Nat → Nat → Bool) (s w v i : Nat) : Bool :=
  if w = 1 then typb tS lS S D v i else if w = 2 then EQ tS lS S tD lD D v i else if w = 3 then (if S.kd v = 5 then (S.K v).any (fun a => EQ tS lS S tD lD D a i) else true) else if 4 ≤ w ∧ w ≤ 10 then meab S tD lD D w v i else if w = 11 then reqb tS lS S tD lD D v i else
  if w = 12 ∨ w = 13 ∨ w = 14 ∨ w = 20 then chib tS lS S tD lD D h e s w v i else if w = 15 then (if S.kd v = 5 then decide (cntb S h v i = (S.K v).length) else true) else if w = 16 then (if S.kd v = 5 then decide (0 < cntb S h v i) else true) else if w = 17 then (if S.kd v = 5 then decide (cntb S h v i = 1) else true) else
  if w = 18 then !(h v i) else if w = 19 then (if S.kd v = 4 then (match mtg tS lS S v with
    | some x => h x i
    | none => false) else true) else true
/-- one round of all verdicts -/
noncomputable def hStep (h e : Nat → Nat → Bool) (s i : Nat) : Bool := if S.kd s = 6 then (S.K s).all (fun v => sob tS lS S tD lD D h e s (wrd tS lS S v) v i) else decide (S.kd s ≠ 1)
noncomputable def eStep (h e : Nat → Nat → Bool) (s c : Nat) : Bool := match D.pr c with
  | some i => evb tS lS S tD lD D h e s i c
  | none => false
noncomputable def HE : Nat → (Nat → Nat → Bool) × (Nat → Nat → Bool)
  | 0 => (fun _ _ => false, fun _ _ => false)
  | n + 1 => (hStep tS lS S tD lD D (HE n).1 (HE n).2, eStep tS lS S tD lD D (HE n).1 (HE n).2)
end SY
section SZ
variable {tS : Nat → Nat} {lS : Nat} {S : TG} {tD : Nat → Nat} {lD : Nat} {D : TG}
theorem all_cg {P Q : Nat → Bool} {l : List Nat} (h : ∀ x ∈ l, P x = Q x) : l.all P = l.all Q := by
  rw [Bool.eq_iff_iff, List.all_eq_true, List.all_eq_true]
  exact ⟨fun q x hx => by rw [← h x hx]; exact q x hx, fun q x hx => by rw [h x hx]; exact q x hx⟩
theorem any_cg {P Q : Nat → Bool} {l : List Nat} (h : ∀ x ∈ l, P x = Q x) : l.any P = l.any Q := by
  rw [Bool.eq_iff_iff, List.any_eq_true, List.any_eq_true]
  exact ⟨fun ⟨x, hx, q⟩ => ⟨x, hx, by rw [← h x hx]; exact q⟩, fun ⟨x, hx, q⟩ => ⟨x, hx, by rw [h x hx]; exact q⟩⟩
theorem cnt_cg {P Q : Nat → Bool} : ∀ {l : List Nat}, (∀ x ∈ l, P x = Q x) → l.countP P = l.countP Q
  | [], _ => rfl
  | x :: l, h => by rw [List.countP_cons, List.countP_cons, cnt_cg (fun y hy => h y (List.mem_cons_of_mem _ hy)), h x (List.mem_cons_self ..)]
theorem prf_lt (hW : WG lS S) {s c x : Nat} (hs : s < S.N) (h : prf tS lS S tD lD D s c = some x) : x < S.N := by
  unfold prf at h
  split at h
  · rename_i p hp; exact cnd_lt2 hW (prp_lt hW hs hp).1 h
  · cases h
theorem nfr_lt (hW : WG lS S) {e : Nat → Nat → Bool} {s w v i c x : Nat} (hs : s < S.N) (hv : v < S.N) (h : nfr tS lS S tD lD D e s w v i c = some x) : x < S.N := by
  unfold nfr at h
  split at h
  · split at h
    · injection h with h; omega
    · cases h
  · split at h
    · split at h
      · split at h
        · cases h
        · injection h with h; omega
      · split at h
        · exact prf_lt hW hs h
        · split at h
          · split at h
            · injection h with h; omega
            · cases h
          · cases h
    · cases h
/-- h and h' agree where s for i looks -/
theorem sob_cg (hW : WG lS S) (hWD : WG lD D) {h e h' e' : Nat → Nat → Bool} {s w v i : Nat} (hs : s < S.N) (hi : i < D.N) (hv : v ∈ S.K s) (hw : wrd tS lS S v = w) (h6 : S.kd s = 6)
    (hx : ∀ x, Dp tS lS S s x → h x i = h' x i) (hc : ∀ c ∈ D.K i, ∀ x, x < S.N → h x c = h' x c) (he : ∀ c ∈ D.K i, D.kd i = 6 → e s c = e' s c) : sob tS lS S tD lD D h e s w v i = sob tS lS S tD lD D h' e' s w v i := by
  have hvN := (hW.ch s hs v hv).2.1
  have hr : 1 ≤ w → rul tS lS S s w = some v := fun h1 => (rul_wrd hW hs h6 hv h1).mp hw
  have c1 : 15 ≤ w → w ≤ 17 → S.kd v = 5 → cntb S h v i = cntb S h' v i := fun w1 w2 k5 => cnt_cg (fun x hxv => hx x (Or.inl ⟨w, v, w1, w2, hr (by omega), k5, hxv⟩))
  unfold sob
  by_cases q1 : w = 1
  · rw [if_pos q1, if_pos q1]
  rw [if_neg q1, if_neg q1]
  by_cases q2 : w = 2
  · rw [if_pos q2, if_pos q2]
  rw [if_neg q2, if_neg q2]
  by_cases q3 : w = 3
  · rw [if_pos q3, if_pos q3]
  rw [if_neg q3, if_neg q3]
  by_cases q4 : 4 ≤ w ∧ w ≤ 10
  · rw [if_pos q4, if_pos q4]
  rw [if_neg q4, if_neg q4]
  by_cases q5 : w = 11
  · rw [if_pos q5, if_pos q5]
  rw [if_neg q5, if_neg q5]
  by_cases q6 : w = 12 ∨ w = 13 ∨ w = 14 ∨ w = 20
  · rw [if_pos q6, if_pos q6]
    unfold chib
    refine all_cg (fun c hcK => ?_)
    have en : nfr tS lS S tD lD D e s w v i c = nfr tS lS S tD lD D e' s w v i c := by
      unfold nfr
      by_cases k6 : D.kd i = 6
      · rw [he c hcK k6]
      · rw [if_neg k6, if_neg k6]
    unfold chf
    rw [en]
    cases hn : nfr tS lS S tD lD D e' s w v i c with
    | none => rfl
    | some x => exact hc c hcK x (nfr_lt hW hs hvN hn)
  rw [if_neg q6, if_neg q6]
  by_cases k5 : S.kd v = 5
  · by_cases q7 : w = 15
    · rw [if_pos q7, if_pos q7, c1 (by omega) (by omega) k5]
    rw [if_neg q7, if_neg q7]
    by_cases q8 : w = 16
    · rw [if_pos q8, if_pos q8, c1 (by omega) (by omega) k5]
    rw [if_neg q8, if_neg q8]
    by_cases q9 : w = 17
    · rw [if_pos q9, if_pos q9, c1 (by omega) (by omega) k5]
    rw [if_neg q9, if_neg q9]
    by_cases q10 : w = 18
    · rw [if_pos q10, if_pos q10, hx v (Or.inr (Or.inl (by rw [← q10]; exact hr (by omega))))]
    rw [if_neg q10, if_neg q10]
    rw [if_neg (show ¬ S.kd v = 4 by omega), if_neg (show ¬ S.kd v = 4 by omega)]
  · rw [if_neg k5, if_neg k5, if_neg k5, if_neg k5, if_neg k5, if_neg k5]
    by_cases q10 : w = 18
    · rw [if_neg (by omega), if_neg (by omega), if_neg (by omega), if_pos q10, if_neg (by omega), if_neg (by omega), if_neg (by omega), if_pos q10, hx v (Or.inr (Or.inl (by rw [← q10]; exact hr (by omega))))]
    · by_cases q11 : w = 19
      · cases hm : mtg tS lS S v with
        | none => simp only [q10, if_false]
        | some x =>
          have := hx x (Or.inr (Or.inr ⟨v, by rw [← q11]; exact hr (by omega), hm⟩))
          simp only [this, q10, if_false]
      · rw [if_neg q10, if_neg q11, if_neg q10, if_neg q11]
theorem evb_cg {h e h' e' : Nat → Nat → Bool} {s i c : Nat} (hx : ∀ x, Dp tS lS S s x → S.kd x = 6 → h x i = h' x i ∧ e x c = e' x c) : evb tS lS S tD lD D h e s i c = evb tS lS S tD lD D h' e' s i c := by
  have hep : ∀ x, Dp tS lS S s x → epb tS lS S h e i c x = epb tS lS S h' e' i c x := fun x hd => by
    unfold epb
    by_cases h6 : S.kd x = 6
    · rw [(hx x hd h6).1, (hx x hd h6).2]
    · rw [decide_eq_false h6]; rfl
  have hin : ∀ w, 15 ≤ w → w ≤ 17 → inb tS lS S h e s i c w = inb tS lS S h' e' s i c w := fun w w1 w2 => by
    unfold inb
    cases hr : rul tS lS S s w with
    | none => rfl
    | some v =>
      by_cases k5 : S.kd v = 5
      · simp only [k5, if_true]
        exact any_cg (fun x hxv => hep x (Or.inl ⟨w, v, w1, w2, hr, k5, hxv⟩))
      · simp only [k5, if_false]
  have hrf : rfb tS lS S h e s i c = rfb tS lS S h' e' s i c := by
    unfold rfb
    cases hr : rul tS lS S s 19 with
    | none => rfl
    | some v =>
      cases hm : mtg tS lS S v with
      | none => simp [hm]
      | some x => simp only [hm]; exact hep x (Or.inr (Or.inr ⟨v, hr, hm⟩))
  unfold evb
  rw [hin 15 (by omega) (by omega), hin 16 (by omega) (by omega), hin 17 (by omega) (by omega), hrf]
/-- ranks -/
def rk (L : List Nat) (S D : TG) (s i : Nat) : Nat := (D.N - i) * (S.N + 2) + L.idxOf s
theorem rk_dp {L : List Nat} (hl : OLm tS lS S L) (hall : ∀ s, s < S.N → s ∈ L) {s x i : Nat} (hs : s < S.N) (hd : Dp tS lS S s x) : rk L S D x i < rk L S D s i := by
  unfold rk
  have hmem := hall s hs
  obtain ⟨A, B, e⟩ := List.append_of_mem hmem
  have hx : x ∈ A := by
    rcases hl.tp A s B e x hd with q | q
    · exact q.elim
    · exact q
  have hnd := hl.nd
  rw [e] at hnd
  have hsA : s ∉ A := fun q => (List.nodup_append.mp hnd).2.2 s q s (List.mem_cons_self ..) rfl
  have h1 : L.idxOf x < A.length := by rw [e, List.idxOf_append, if_pos hx]; exact List.idxOf_lt_length_of_mem hx
  have h2 : L.idxOf s = A.length := by rw [e, List.idxOf_append, if_neg hsA, List.idxOf_cons_self]; omega
  omega
theorem rk_ch {L : List Nat} (hl : OLm tS lS S L) {s x i c : Nat} (hi : i < c) (hc : c < D.N) : rk L S D x c < rk L S D s i := by
  unfold rk
  have h1 : L.idxOf x ≤ L.length := List.idxOf_le_length
  have h2 := OL_len hl
  have h3 : (D.N - c + 1) * (S.N + 2) ≤ (D.N - i) * (S.N + 2) := Nat.mul_le_mul_right _ (by omega)
  rw [Nat.add_mul] at h3
  omega
theorem HE_st (hW : WG lS S) (hWD : WG lD D) {L : List Nat} (hl : OLm tS lS S L) (hall : ∀ s, s < S.N → s ∈ L) :
    ∀ (r : Nat) (n m s i : Nat), s < S.N → i < D.N → rk L S D s i ≤ r → 2 * r + 2 ≤ n → 2 * r + 2 ≤ m → (HE tS lS S tD lD D n).1 s i = (HE tS lS S tD lD D m).1 s i ∧ ∀ c ∈ D.K i, ∀ n' m', 2 * r + 1 ≤ n' → 2 * r + 1 ≤ m' → (HE tS lS S tD lD D n').2 s c = (HE tS lS S tD lD D m').2 s c := by
  intro r
  induction r using Nat.strongRecOn with
  | _ r ih =>
    intro n m s i hs hi hr hn hm
    have hev : ∀ c ∈ D.K i, ∀ n' m', 2 * r + 1 ≤ n' → 2 * r + 1 ≤ m' → (HE tS lS S tD lD D n').2 s c = (HE tS lS S tD lD D m').2 s c := by
      intro c hc n' m' hn' hm'
      obtain ⟨a, rfl⟩ : ∃ a, n' = a + 1 := ⟨n' - 1, by omega⟩
      obtain ⟨b, rfl⟩ : ∃ b, m' = b + 1 := ⟨m' - 1, by omega⟩
      have hpr := (hWD.ch i hi c hc).2.2.1
      show eStep tS lS S tD lD D _ _ s c = eStep tS lS S tD lD D _ _ s c
      unfold eStep
      rw [hpr]
      refine evb_cg (fun x hd _ => ?_)
      have hlt := rk_dp (D := D) (i := i) hl hall hs hd
      have := ih (rk L S D x i) (by omega) a b x i (Dp_lt hW hs hd) hi (Nat.le_refl _) (by omega) (by omega)
      exact ⟨this.1, this.2 c hc a b (by omega) (by omega)⟩
    refine ⟨?_, hev⟩
    obtain ⟨a, rfl⟩ : ∃ a, n = a + 1 := ⟨n - 1, by omega⟩
    obtain ⟨b, rfl⟩ : ∃ b, m = b + 1 := ⟨m - 1, by omega⟩
    show hStep tS lS S tD lD D _ _ s i = hStep tS lS S tD lD D _ _ s i
    unfold hStep
    by_cases h6 : S.kd s = 6
    · rw [if_pos h6, if_pos h6]
      refine all_cg (fun v hv => sob_cg hW hWD hs hi hv rfl h6 (fun x hd => ?_) (fun c hc x hx => ?_) (fun c hc _ => hev c hc a b (by omega) (by omega)))
      · have hlt := rk_dp (D := D) (i := i) hl hall hs hd
        exact (ih (rk L S D x i) (by omega) a b x i (Dp_lt hW hs hd) hi (Nat.le_refl _) (by omega) (by omega)).1
      · have hc1 := hWD.ch i hi c hc
        have hlt := rk_ch (D := D) (s := s) (x := x) hl hc1.1 hc1.2.1
        exact (ih (rk L S D x c) (by omega) a b x c hx hc1.2.1 (Nat.le_refl _) (by omega) (by omega)).1
    · rw [if_neg h6, if_neg h6]
/-- the verdicts -/
noncomputable def HH (tS : Nat → Nat) (lS : Nat) (S : TG) (tD : Nat → Nat) (lD : Nat) (D : TG) : Nat → Nat → Bool := (HE tS lS S tD lD D (2 * ((D.N + 1) * (S.N + 2)) + 4)).1
noncomputable def EE (tS : Nat → Nat) (lS : Nat) (S : TG) (tD : Nat → Nat) (lD : Nat) (D : TG) : Nat → Nat → Bool := (HE tS lS S tD lD D (2 * ((D.N + 1) * (S.N + 2)) + 4)).2
theorem rk_le {L : List Nat} (hl : OLm tS lS S L) {s i : Nat} : rk L S D s i < (D.N + 1) * (S.N + 2) := by
  unfold rk
  have h1 : L.idxOf s ≤ L.length := List.idxOf_le_length
  have h2 := OL_len hl
  have h3 : (D.N - i) * (S.N + 2) ≤ D.N * (S.N + 2) := Nat.mul_le_mul_right _ (by omega)
  rw [Nat.add_mul]; omega
theorem HH_e (hW : WG lS S) (hWD : WG lD D) {L : List Nat} (hl : OLm tS lS S L) (hall : ∀ s, s < S.N → s ∈ L) {s i : Nat} (hs : s < S.N) (hi : i < D.N) : HH tS lS S tD lD D s i = hStep tS lS S tD lD D (HH tS lS S tD lD D) (EE tS lS S tD lD D) s i := by
  show hStep tS lS S tD lD D (HE tS lS S tD lD D (2 * ((D.N + 1) * (S.N + 2)) + 3)).1 (HE tS lS S tD lD D (2 * ((D.N + 1) * (S.N + 2)) + 3)).2 s i = _
  unfold hStep
  by_cases h6 : S.kd s = 6
  · rw [if_pos h6, if_pos h6]
    refine all_cg (fun v hv => sob_cg hW hWD hs hi hv rfl h6 (fun x hd => ?_) (fun c hc x hx => ?_) (fun c hc _ => ?_))
    · have := rk_le (D := D) (s := x) (i := i) hl
      exact (HE_st hW hWD hl hall _ _ _ x i (Dp_lt hW hs hd) hi (Nat.le_refl _) (by omega) (by omega)).1
    · have hc1 := hWD.ch i hi c hc
      have := rk_le (D := D) (s := x) (i := c) hl
      exact (HE_st hW hWD hl hall _ _ _ x c hx hc1.2.1 (Nat.le_refl _) (by omega) (by omega)).1
    · have := rk_le (D := D) (s := s) (i := i) hl
      exact (HE_st hW hWD hl hall (rk L S D s i) (2 * rk L S D s i + 2) (2 * rk L S D s i + 2) s i hs hi (Nat.le_refl _) (by omega) (by omega)).2 c hc _ _ (by omega) (by omega)
  · rw [if_neg h6, if_neg h6]
theorem EE_e (hW : WG lS S) (hWD : WG lD D) {L : List Nat} (hl : OLm tS lS S L) (hall : ∀ s, s < S.N → s ∈ L) {s i c : Nat} (hs : s < S.N) (hi : i < D.N) (hc : c ∈ D.K i) : EE tS lS S tD lD D s c = evb tS lS S tD lD D (HH tS lS S tD lD D) (EE tS lS S tD lD D) s i c := by
  have hpr := (hWD.ch i hi c hc).2.2.1
  have : EE tS lS S tD lD D s c = eStep tS lS S tD lD D (HE tS lS S tD lD D (2 * ((D.N + 1) * (S.N + 2)) + 3)).1 (HE tS lS S tD lD D (2 * ((D.N + 1) * (S.N + 2)) + 3)).2 s c := rfl
  rw [this]
  unfold eStep
  rw [hpr]
  refine evb_cg (fun x hd _ => ?_)
  have := rk_le (D := D) (s := x) (i := i) hl
  have h1 := HE_st (tD := tD) hW hWD hl hall (rk L S D x i) (2 * ((D.N + 1) * (S.N + 2)) + 3) (2 * ((D.N + 1) * (S.N + 2)) + 4) x i (Dp_lt hW hs hd) hi (Nat.le_refl _) (by omega) (by omega)
  exact ⟨h1.1, h1.2 c hc _ _ (by omega) (by omega)⟩
end SZ
