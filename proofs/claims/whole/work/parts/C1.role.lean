section RO
variable (tS : Nat → Nat) (lS : Nat) (S : TG) (tD : Nat → Nat) (lD : Nat) (D : TG)
/-- the word w of s, by its child v, does not hold for i -/
def Bad (s w v i : Nat) : Prop := S.kd s = 6 ∧ 1 ≤ w ∧ w ≤ 20 ∧ rul tS lS S s w = some v ∧ sob tS lS S tD lD D (HH tS lS S tD lD D) (EE tS lS S tD lD D) s w v i = false
/-- where a report of s for i goes on -/
def Ld (s i x c : Nat) : Prop := ∃ w v, Bad tS lS S tD lD D s w v i ∧ HH tS lS S tD lD D x c = false ∧ (((w = 12 ∨ w = 13 ∨ w = 14 ∨ w = 20) ∧ c ∈ D.K i ∧ nfr tS lS S tD lD D (EE tS lS S tD lD D) s w v i c = some x) ∨ (w = 15 ∧ x ∈ S.K v ∧ c = i) ∨ (w = 19 ∧ mtg tS lS S v = some x ∧ c = i))
/-- what is told of s for i -/
def Wr (s v i : Nat) : Prop := ∃ w, Bad tS lS S tD lD D s w v i ∧ ¬ (w = 12 ∨ w = 13 ∨ w = 14 ∨ w = 15 ∨ w = 20) ∧ (w = 19 → mtg tS lS S v = none)
/-- what is reported -/
def Rp (s i : Nat) : Prop := ∀ P : Nat → Nat → Prop, (HH tS lS S tD lD D 0 0 = false → P 0 0) → (∀ s i x c, P s i → Ld tS lS S tD lD D s i x c → P x c) → P s i
end RO
section RP
variable {tS : Nat → Nat} {lS : Nat} {S : TG} {tD : Nat → Nat} {lD : Nat} {D : TG}
theorem Rp_0 (h : HH tS lS S tD lD D 0 0 = false) : Rp tS lS S tD lD D 0 0 := fun _ h0 _ => h0 h
theorem Rp_s {s i x c : Nat} (h : Rp tS lS S tD lD D s i) (hl : Ld tS lS S tD lD D s i x c) : Rp tS lS S tD lD D x c := fun P h0 hs => hs s i x c (h P h0 hs) hl
theorem Rp_inv {x c : Nat} (h : Rp tS lS S tD lD D x c) : HH tS lS S tD lD D 0 0 = false ∧ ((x = 0 ∧ c = 0) ∨ ∃ s i, Rp tS lS S tD lD D s i ∧ Ld tS lS S tD lD D s i x c) := by
  have := h (fun x c => Rp tS lS S tD lD D x c ∧ HH tS lS S tD lD D 0 0 = false ∧ ((x = 0 ∧ c = 0) ∨ ∃ s i, Rp tS lS S tD lD D s i ∧ Ld tS lS S tD lD D s i x c)) (fun h0 => ⟨Rp_0 h0, h0, Or.inl ⟨rfl, rfl⟩⟩) (fun s i x c hp hl => ⟨Rp_s hp.1 hl, hp.2.1, Or.inr ⟨s, i, hp.1, hl⟩⟩)
  exact this.2
theorem Ld_ok (hW : WG lS S) (hWD : WG lD D) {s i x c : Nat} (hs : s < S.N) (hi : i < D.N) (h : Ld tS lS S tD lD D s i x c) : x < S.N ∧ c < D.N ∧ HH tS lS S tD lD D x c = false ∧ ((i < c) ∨ (c = i ∧ Dp tS lS S s x)) := by
  obtain ⟨w, v, ⟨h6, w1, w2, hr, hb⟩, hf, h⟩ := h
  have hv := rul_lt hW hs hr
  rcases h with ⟨hw, hc, hn⟩ | ⟨hw, hx, hc⟩ | ⟨hw, hm, hc⟩
  · have hc1 := hWD.ch i hi c hc
    exact ⟨nfr_lt hW hs hv hn, hc1.2.1, hf, Or.inl hc1.1⟩
  · subst hw; subst hc
    have hx1 := hW.ch v hv x hx
    have k5 : S.kd v = 5 := Classical.byContradiction (fun q => by unfold sob at hb; simp [q] at hb)
    exact ⟨hx1.2.1, hi, hf, Or.inr ⟨rfl, Or.inl ⟨15, v, by omega, by omega, hr, k5, hx⟩⟩⟩
  · subst hw; subst hc
    exact ⟨mtg_lt hW hv hm, hi, hf, Or.inr ⟨rfl, Or.inr (Or.inr ⟨v, hr, hm⟩)⟩⟩
theorem Rp_ok (hW : WG lS S) (hWD : WG lD D) (h0 : 0 < S.N) (h1 : 0 < D.N) {s i : Nat} (h : Rp tS lS S tD lD D s i) : s < S.N ∧ i < D.N ∧ HH tS lS S tD lD D s i = false :=
  h (fun s i => s < S.N ∧ i < D.N ∧ HH tS lS S tD lD D s i = false) (fun q => ⟨h0, h1, q⟩) (fun s i x c hp hl => by
    have := Ld_ok hW hWD hp.1 hp.2.1 hl; exact ⟨this.1, this.2.1, this.2.2.1⟩)
/-- a child that speaks by a word is reported only for additional, items, unevaluated -/
theorem role (hW : WG lS S) (hWD : WG lD D) (h0 : 0 < S.N) (h1 : 0 < D.N) : ∀ (v s w i j : Nat), Rp tS lS S tD lD D s i → 1 ≤ w → rul tS lS S s w = some v → ¬ (w = 13 ∨ w = 14 ∨ w = 20) → ¬ Rp tS lS S tD lD D v j := by
  intro v
  induction v using Nat.strongRecOn with
  | _ v ih =>
    intro s w i j hs w1 hr hw hv
    have hsN := (Rp_ok hW hWD h0 h1 hs).1
    have h6 := (rul_mem hr).1
    have hvK := (rul_mem hr).2
    have hv1 := hW.ch s hsN v hvK
    obtain ⟨hh, hv2⟩ := Rp_inv hv
    rcases hv2 with ⟨e, _⟩ | ⟨s', i', hs', w', v', ⟨k6, w1', w2', hr', hb'⟩, hf, hcase⟩
    · omega
    have hs'N := (Rp_ok hW hWD h0 h1 hs').1
    have hi'N := (Rp_ok hW hWD h0 h1 hs').2.1
    have hv'N := rul_lt hW hs'N hr'
    rcases hcase with ⟨hw', hc, hn⟩ | ⟨hw', hx, hc⟩ | ⟨hw', hm, hc⟩
    · -- by a child of the document
      by_cases e12 : w' = 12
      · -- a property
        have hpf : prf tS lS S tD lD D s' j = some v := by
          unfold nfr at hn
          by_cases k5 : D.kd i' = 5
          · rw [if_pos k5, if_neg (by omega)] at hn; cases hn
          · rw [if_neg k5] at hn
            by_cases kk : D.kd i' = 6
            · rw [if_pos kk, if_neg (by omega), if_pos e12] at hn; exact hn
            · rw [if_neg kk] at hn; cases hn
        unfold prf at hpf
        cases hp : prp tS lS S s' with
        | none => rw [hp] at hpf; cases hpf
        | some p =>
          rw [hp] at hpf
          have hpN := prp_lt hW hs'N hp
          have hvp := hW.ch p hpN.1 v (cnd_lt hpf).2.1
          have eps : p = s := by have h2 := hvp.2.2.1; rw [hv1.2.2.1] at h2; injection h2 with h2; exact h2.symm
          subst eps
          have hrp : rul tS lS S s' 12 = some p := by
            unfold prp at hp
            cases hr2 : rul tS lS S s' 12 with
            | none => rw [hr2] at hp; cases hp
            | some u =>
              rw [hr2] at hp
              by_cases ku : S.kd u = 6
              · simp only [ku, if_true] at hp; exact hp
              · simp only [ku, if_false] at hp; cases hp
          exact ih p hv1.1 s' 12 i' i hs' (by omega) hrp (by omega) hs
      · -- the child itself
        have evv : v' = v := by
          unfold nfr at hn
          by_cases k5 : D.kd i' = 5
          · rw [if_pos k5] at hn
            by_cases e14 : w' = 14
            · rw [if_pos e14] at hn; injection hn
            · rw [if_neg e14] at hn; cases hn
          · rw [if_neg k5] at hn
            by_cases kk : D.kd i' = 6
            · rw [if_pos kk] at hn
              by_cases e20 : w' = 20
              · rw [if_pos e20] at hn
                split at hn
                · cases hn
                · injection hn
              · rw [if_neg e20, if_neg e12] at hn
                by_cases e13 : w' = 13
                · rw [if_pos e13] at hn
                  split at hn
                  · injection hn
                  · cases hn
                · rw [if_neg e13] at hn; cases hn
            · rw [if_neg kk] at hn; cases hn
        subst evv
        have hv' := hW.ch s' hs'N v' (rul_mem hr').2
        have ess : s' = s := by have h2 := hv'.2.2.1; rw [hv1.2.2.1] at h2; injection h2 with h2; exact h2.symm
        subst ess
        have ew : wrd tS lS S v' = w' := (rul_wrd hW hs'N k6 (rul_mem hr').2 w1').mpr hr'
        have ew2 : wrd tS lS S v' = w := (rul_wrd hW hs'N h6 hvK w1).mpr hr
        omega
    · -- inside an array
      subst hw'
      have k5 : S.kd v' = 5 := Classical.byContradiction (fun q => by unfold sob at hb'; simp [q] at hb')
      have hx1 := hW.ch v' hv'N v hx
      have ess : v' = s := by have h2 := hx1.2.2.1; rw [hv1.2.2.1] at h2; injection h2 with h2; exact h2.symm
      subst ess
      omega
    · -- a target
      unfold mtg tg1 at hm
      split at hm
      · split at hm
        · split at hm
          · injection hm with hm; omega
          · split at hm
            · rename_i d hd
              have hdN := rul_lt hW h0 hd
              have hvd := hW.ch d hdN v (cnd_lt hm).2.1
              have eds : d = s := by have h2 := hvd.2.2.1; rw [hv1.2.2.1] at h2; injection h2 with h2; exact h2.symm
              subst eds
              exact ih d hv1.1 0 21 0 i (Rp_0 hh) (by omega) hd (by omega) hs
            · cases hm
        · cases hm
      · cases hm
theorem ws_3 : ∀ w, w < 22 → 1 ≤ w → 3 ≤ we w - ws w := by decide +kernel
/-- told nodes have a name that is long, or are FALSE -/
theorem rul_tb (hW : WG lS S) {s w v : Nat} (hs : s < S.N) (w1 : 1 ≤ w) (w2 : w < 22) (hr : rul tS lS S s w = some v) : tb tS lS (S.kd v) (S.nm v) := by
  have h6 := (rul_mem hr).1
  have hv := hW.ch s hs v (rul_mem hr).2
  obtain ⟨n, hn, hnl⟩ := (hW.nm v hv.2.1 s hv.2.2.1).1 h6
  refine Or.inr ⟨n, hn, ?_⟩
  have hnw : nw tS lS S v = w := by unfold rul at hr; rw [if_pos h6] at hr; simpa using List.find?_some hr
  have hnw : wof tS (n + 1) (qe tS lS (n + 1)) = w := by unfold nw at hnw; rw [hn] at hnw; exact hnw
  have hwo := wof_w (tx := tS) (f := n + 1) (e := qe tS lS (n + 1)) (by rw [hnw]; exact w1)
  rw [hnw] at hwo
  have h1 := hwo.1
  have h2 := ws_3 w w2 w1
  omega
noncomputable def tbL (tx : Nat → Nat) (len : Nat) (kd : Nat → Nat) (nm : Nat → Option Nat) : Nat → List Nat
  | 0 => []
  | k + 1 => tbL tx len kd nm k ++ (if cI (tb tx len (kd k) (nm k)) = 1 then [k] else [])
theorem tbL_len (tx : Nat → Nat) (len : Nat) (kd : Nat → Nat) (nm : Nat → Option Nat) : ∀ n, (tbL tx len kd nm n).length = tq tx len kd nm n
  | 0 => rfl
  | n + 1 => by
    unfold tbL tq
    rw [List.length_append, tbL_len tx len kd nm n]
    by_cases h : tb tx len (kd n) (nm n)
    · rw [cI_t h]; simp
    · rw [cI_f h]; simp
theorem tbL_mem (tx : Nat → Nat) (len : Nat) (kd : Nat → Nat) (nm : Nat → Option Nat) : ∀ n v, v < n → tb tx len (kd v) (nm v) → v ∈ tbL tx len kd nm n
  | 0, v, h, _ => by omega
  | n + 1, v, h, ht => by
    unfold tbL
    rcases Nat.eq_or_lt_of_le (Nat.lt_succ_iff.mp h) with e | e
    · subst e; rw [cI_t ht]; simp
    · exact List.mem_append.mpr (Or.inl (tbL_mem tx len kd nm n v e ht))
/-- how many can be told -/
theorem told_le {T : List Nat} {n m : Nat} (tx : Nat → Nat) (len : Nat) (kd : Nat → Nat) (nm : Nat → Option Nat) (hT : (T.map (fun e => e / 32)).Nodup) (hk : ∀ e ∈ T, ∃ v i, e / 32 = v + 256 * i ∧ v < n ∧ i < m ∧ tb tx len (kd v) (nm v)) : T.length ≤ m * tq tx len kd nm n := by
  have hsub : T.map (fun e => e / 32) ⊆ (List.range m).flatMap (fun i => (tbL tx len kd nm n).map (fun v => v + 256 * i)) := by
    intro x hx
    obtain ⟨e, he, rfl⟩ := List.mem_map.mp hx
    obtain ⟨v, i, h1, h2, h3, h4⟩ := hk e he
    refine List.mem_flatMap.mpr ⟨i, List.mem_range.mpr h3, List.mem_map.mpr ⟨v, tbL_mem tx len kd nm n v h2 h4, h1.symm⟩⟩
  have h1 := List.Nodup.length_le_of_subset hT hsub
  have h2 : ∀ m, ((List.range m).flatMap (fun i => (tbL tx len kd nm n).map (fun v => v + 256 * i))).length = m * tq tx len kd nm n := by
    intro m
    induction m with
    | zero => simp
    | succ m ih =>
      rw [List.range_succ, List.flatMap_append, List.length_append, ih]
      simp [tbL_len, Nat.add_mul]
  rw [h2] at h1
  simpa using h1
end RP
