def Qr (c k : Nat) : Prop := Pm 0 c k ∨ Pm 1 c k ∨ Qp c k
theorem MFr_F {t : Nat} {σ σ' : Sg} (h : MFr t σ σ') : Fr (Pm t) σ σ' := h
theorem TT_Fr {t len : Nat} {tx : Nat → Nat} {σ σ' : Sg} {P : Nat → Nat → Prop} (h : TT t σ len tx) (f : Fr P σ σ') (hP : ∀ c k, c = 56 ∨ c = 57 → ¬ P c k) : TT t σ' len tx :=
  ⟨TX_Fr h.1 f (fun k => hP 56 k (Or.inl rfl)), by rw [f.2 57 t (hP 57 t (Or.inr rfl))]; exact h.2⟩
theorem prepared_r {lS lD : Nat} {tS tD : Nat → Nat} {S D : TG} {σ : Sg} (hT0 : TT 0 σ lS tS) (hT1 : TT 1 σ lD tD) (hw : σ.2.1 55 = mwords) (hS : TR 0 lS tS S) (hD : TR 1 lD tD D) :
    ∃ σ' L, Ri (wq_Md_prepared σ) (nB (decide (L.length = S.N))) σ' ∧ Fr Qr σ σ' ∧ MPl tS lS S σ' L ∧ MI 1 σ' lD tD D op0 := by
  have hlS : lS ≤ 160 := hT0.1.2.1
  have hlD : lD ≤ 80 := by have := hT1.1.2.2.1; omega
  obtain ⟨σ1, a1, a2, a3, a4⟩ := hD.m σ hT1 hw
  have f1 : Fr Qr σ σ1 := Fr_m (MFr_F a4) (fun c k h => Or.inr (Or.inl h))
  have hT01 : TT 0 σ1 lS tS := TT_Fr hT0 (MFr_F a4) (fun c k hc => by unfold Pm; omega)
  obtain ⟨σ2, b1, b2, b3, b4⟩ := hS.m σ1 hT01 (by rw [a4.1]; exact hw)
  have f2 : Fr Qr σ σ2 := Fr_t f1 (Fr_m (MFr_F b4) (fun c k h => Or.inl h))
  have hn := hD.n
  have hf := hD.f
  have hnS := hS.n
  have m1 : MI 1 σ2 lD tD D op0 := MI_oth (by omega) (by omega) hD.w a2 b4 (by omega) (by omega) (by omega)
  have hTT : TT 0 σ2 lS tS := TT_Fr hT01 (MFr_F b4) (fun c k hc => by unfold Pm; omega)
  have hSM : SM tS lS S σ2 := ⟨b2, ⟨by omega, b3, hTT.2, hTT.1.2.1, hTT.1.2.2.1, hTT.1.2.2.2⟩, by rw [b4.1, a4.1]; exact hw⟩
  obtain ⟨r, σ', ⟨L, q1, q2, q3⟩, q4⟩ := prep_l hS.w (by omega) hSM
  subst q3
  refine ⟨σ', L, fun post hp => ?_, Fr_t f2 (Fr_m q1 (fun c k h => Or.inr (Or.inr h))), q2, MI_Fr m1 q1 (fun c k h1 h2 => by unfold Qp; omega)⟩
  obtain ⟨n, hn⟩ := q4 post hp
  refine ⟨n + 1, ?_⟩
  show wb_Md_prepared_0 (wp_Md_prepared post n) post σ
  unfold wb_Md_prepared_0
  exact a1 _ (b1 _ hn)
theorem Dp_6 {tx : Nat → Nat} {len : Nat} {G : TG} {s x : Nat} (h : Dp tx len G s x) : G.kd s = 6 := by
  rcases h with ⟨w, v, _, _, hr, _⟩ | hr | ⟨v, hr, _⟩ <;> exact (rul_mem hr).1
theorem Dp_lt {tx : Nat → Nat} {len : Nat} {G : TG} (hW : WG len G) {s x : Nat} (hs : s < G.N) (h : Dp tx len G s x) : x < G.N := by
  rcases h with ⟨w, v, _, _, hr, _, hx⟩ | hr | ⟨v, hr, ht⟩
  · exact (hW.ch v (rul_lt hW hs hr) x hx).2.1
  · exact rul_lt hW hs hr
  · exact mtg_lt hW (rul_lt hW hs hr) ht
/-- along a list -/
theorem along {P : Nat → Prop} (L : List Nat) (h : ∀ A s B, L = A ++ s :: B → (∀ x ∈ A, P x) → P s) : ∀ s ∈ L, P s := by
  have key : ∀ B A, L = A ++ B → (∀ x ∈ A, P x) → ∀ x ∈ L, P x := by
    intro B
    induction B with
    | nil => intro A e hA; rw [e, List.append_nil]; exact hA
    | cons b B ih =>
      intro A e hA
      refine ih (A ++ [b]) (by rw [e]; simp) (fun x hx => ?_)
      rcases List.mem_append.mp hx with q | q
      · exact hA x q
      · simp at q; subst q; exact h A x B e hA
  exact key L [] rfl (by simp)
theorem good_iff {tx : Nat → Nat} {len : Nat} {G : TG} (hW : WG len G) {Lc Lm : List Nat} (hc : OLc tx len G Lc) (mc : Mxc tx len G Lc) (hm : OLm tx len G Lm) (mm : Mxm tx len G Lm) : allC G Lc = decide (Lm.length = G.N) := by
  have full : Lm.length = G.N ↔ ∀ s, s < G.N → s ∈ Lm := by
    constructor
    · intro e s hs
      refine Classical.byContradiction (fun hn => ?_)
      have hsub : (s :: Lm) ⊆ List.range G.N := fun c hc => by
        rcases List.mem_cons.mp hc with e | e
        · subst e; exact List.mem_range.mpr hs
        · exact List.mem_range.mpr (hm.lt c e).1
      have := List.Nodup.length_le_of_subset (List.nodup_cons.mpr ⟨hn, hm.nd⟩) hsub
      simp at this; omega
    · intro h
      have hsub : List.range G.N ⊆ Lm := fun c hc => h c (List.mem_range.mp hc)
      have h1 := List.Nodup.length_le_of_subset List.nodup_range hsub
      have h2 := OL_len hm
      simp at h1; omega
  rw [Bool.eq_iff_iff, decide_eq_true_iff, full]
  unfold allC
  rw [List.all_eq_true]
  constructor
  · intro h
    have obj : ∀ s ∈ Lc, s ∈ Lm := along Lc (fun A s B e hA => by
      refine Classical.byContradiction (fun hn => mm s (hc.lt s (by rw [e]; simp)).1 trivial hn (fun x hx => Or.inr ?_))
      have hs := hc.lt s (by rw [e]; simp)
      rcases hc.tp A s B e x hx with q | q
      · refine Classical.byContradiction (fun hnx => mm x (Dp_lt hW hs.1 hx) trivial hnx (fun y hy => absurd (Dp_6 hy) q))
      · exact hA x q)
    intro s hs
    rcases of_decide_eq_true (h s (List.mem_range.mpr hs)) with q | q
    · exact Classical.byContradiction (fun hnx => mm s hs trivial hnx (fun y hy => absurd (Dp_6 hy) q))
    · exact obj s q
  · intro h
    have obj : ∀ s ∈ Lm, G.kd s = 6 → s ∈ Lc := along Lm (fun A s B e hA h6 => by
      refine Classical.byContradiction (fun hn => mc s (hm.lt s (by rw [e]; simp)).1 h6 hn (fun x hx => ?_))
      by_cases hx6 : G.kd x = 6
      · right
        rcases hm.tp A s B e x hx with q | q
        · exact q.elim
        · exact hA x q hx6
      · exact Or.inl hx6)
    intro s hs
    have hs := List.mem_range.mp hs
    unfold plb
    by_cases h6 : G.kd s = 6
    · exact decide_eq_true (Or.inr (obj s (h s hs) h6))
    · exact decide_eq_true (Or.inl h6)
