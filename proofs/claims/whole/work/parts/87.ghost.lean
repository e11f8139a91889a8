theorem Sp_uq {p : Nat → Prop} {tx : Nat → Nat} {len a x y : Nat} (h : Sp p tx len a x) (k : Sp p tx len a y) : x = y := by
  obtain ⟨h1, h2, h3, h4⟩ := h
  obtain ⟨k1, k2, k3, k4⟩ := k
  rcases Nat.lt_trichotomy x y with h | h | h
  · exact absurd (k3 x h1 h) (h4 (by omega))
  · exact h
  · exact absurd (h3 y k1 h) (k4 (by omega))
/-- the end of what is quoted from x on -/
noncomputable def qe (tx : Nat → Nat) (len x : Nat) : Nat := if h : x ≤ len then (Sp_ex (fun c => c ≠ 34) tx len x h).choose else x
theorem qe_sp {tx : Nat → Nat} {len x : Nat} (h : x ≤ len) : Sp (fun c => c ≠ 34) tx len x (qe tx len x) := by
  unfold qe; rw [dif_pos h]; exact (Sp_ex (fun c => c ≠ 34) tx len x h).choose_spec
theorem qe_eq {tx : Nat → Nat} {len x e : Nat} (h : Sp (fun c => c ≠ 34) tx len x e) : qe tx len x = e := Sp_uq (qe_sp (Nat.le_trans h.1 h.2.1)) h
/-- a tree as both readers know it -/
abbrev TG : Type := Nat × Nat × (Nat → Nat) × (Nat → Nat) × (Nat → Nat) × (Nat → Nat) × (Nat → Option Nat) × (Nat → Option Nat) × (Nat → Int32) × (Nat → List Nat) × (Nat → Nat)
def TG.N (G : TG) : Nat := G.1
def TG.F (G : TG) : Nat := G.2.1
def TG.fl (G : TG) : Nat → Nat := G.2.2.1
def TG.kd (G : TG) : Nat → Nat := G.2.2.2.1
def TG.fr (G : TG) : Nat → Nat := G.2.2.2.2.1
def TG.en (G : TG) : Nat → Nat := G.2.2.2.2.2.1
def TG.pr (G : TG) : Nat → Option Nat := G.2.2.2.2.2.2.1
def TG.nm (G : TG) : Nat → Option Nat := G.2.2.2.2.2.2.2.1
def TG.nu (G : TG) : Nat → Int32 := G.2.2.2.2.2.2.2.2.1
def TG.K (G : TG) : Nat → List Nat := G.2.2.2.2.2.2.2.2.2.1
def TG.lv (G : TG) : Nat → Nat := G.2.2.2.2.2.2.2.2.2.2
def mkT (N F : Nat) (fl kd fr en : Nat → Nat) (pr nm : Nat → Option Nat) (nu : Nat → Int32) (K : Nat → List Nat) (lv : Nat → Nat) : TG := (N, F, fl, kd, fr, en, pr, nm, nu, K, lv)
theorem mkT_N (N F : Nat) (fl kd fr en : Nat → Nat) (pr nm : Nat → Option Nat) (nu : Nat → Int32) (K : Nat → List Nat) (lv : Nat → Nat) : (mkT N F fl kd fr en pr nm nu K lv).N = N := rfl
theorem mkT_F (N F : Nat) (fl kd fr en : Nat → Nat) (pr nm : Nat → Option Nat) (nu : Nat → Int32) (K : Nat → List Nat) (lv : Nat → Nat) : (mkT N F fl kd fr en pr nm nu K lv).F = F := rfl
theorem mkT_fl (N F : Nat) (fl kd fr en : Nat → Nat) (pr nm : Nat → Option Nat) (nu : Nat → Int32) (K : Nat → List Nat) (lv : Nat → Nat) : (mkT N F fl kd fr en pr nm nu K lv).fl = fl := rfl
theorem mkT_kd (N F : Nat) (fl kd fr en : Nat → Nat) (pr nm : Nat → Option Nat) (nu : Nat → Int32) (K : Nat → List Nat) (lv : Nat → Nat) : (mkT N F fl kd fr en pr nm nu K lv).kd = kd := rfl
theorem mkT_fr (N F : Nat) (fl kd fr en : Nat → Nat) (pr nm : Nat → Option Nat) (nu : Nat → Int32) (K : Nat → List Nat) (lv : Nat → Nat) : (mkT N F fl kd fr en pr nm nu K lv).fr = fr := rfl
theorem mkT_en (N F : Nat) (fl kd fr en : Nat → Nat) (pr nm : Nat → Option Nat) (nu : Nat → Int32) (K : Nat → List Nat) (lv : Nat → Nat) : (mkT N F fl kd fr en pr nm nu K lv).en = en := rfl
theorem mkT_pr (N F : Nat) (fl kd fr en : Nat → Nat) (pr nm : Nat → Option Nat) (nu : Nat → Int32) (K : Nat → List Nat) (lv : Nat → Nat) : (mkT N F fl kd fr en pr nm nu K lv).pr = pr := rfl
theorem mkT_nm (N F : Nat) (fl kd fr en : Nat → Nat) (pr nm : Nat → Option Nat) (nu : Nat → Int32) (K : Nat → List Nat) (lv : Nat → Nat) : (mkT N F fl kd fr en pr nm nu K lv).nm = nm := rfl
theorem mkT_nu (N F : Nat) (fl kd fr en : Nat → Nat) (pr nm : Nat → Option Nat) (nu : Nat → Int32) (K : Nat → List Nat) (lv : Nat → Nat) : (mkT N F fl kd fr en pr nm nu K lv).nu = nu := rfl
theorem mkT_K (N F : Nat) (fl kd fr en : Nat → Nat) (pr nm : Nat → Option Nat) (nu : Nat → Int32) (K : Nat → List Nat) (lv : Nat → Nat) : (mkT N F fl kd fr en pr nm nu K lv).K = K := rfl
theorem mkT_lv (N F : Nat) (fl kd fr en : Nat → Nat) (pr nm : Nat → Option Nat) (nu : Nat → Int32) (K : Nat → List Nat) (lv : Nat → Nat) : (mkT N F fl kd fr en pr nm nu K lv).lv = lv := rfl
def TG0 : TG := mkT 0 0 (fun _ => 0) (fun _ => 0) (fun _ => 0) (fun _ => 0) (fun _ => none) (fun _ => none) (fun _ => 0) (fun _ => []) (fun _ => 0)
def gF (G : TG) (v : Nat) : TG := mkT G.N (G.F + 1) (fun j => if j = G.F then v else G.fl j) G.kd G.fr G.en G.pr G.nm G.nu G.K G.lv
def gC (G : TG) (k e : Nat) : TG := mkT G.N G.F G.fl G.kd G.fr (fun j => if j = k then e else G.en j) G.pr G.nm G.nu G.K G.lv
def lvO (G : TG) : Option Nat → Nat
  | none => 0
  | some p => G.lv p + 1
def gN (G : TG) (kd fr en : Nat) (pr nm : Option Nat) (nu : Int32) : TG :=
  mkT (G.N + 1) G.F G.fl (fun k => if k = G.N then kd else G.kd k) (fun k => if k = G.N then fr else G.fr k) (fun k => if k = G.N then en else G.en k)
    (fun k => if k = G.N then pr else G.pr k) (fun k => if k = G.N then nm else G.nm k) (fun k => if k = G.N then nu else G.nu k)
    (fun k => if k = G.N then [] else if pr = some k then G.K k ++ [G.N] else G.K k) (fun k => if k = G.N then lvO G pr else G.lv k)
/-- the class's cells hold the tree; op: 0 whole, 1 its end is not set, 2 its kind and number neither -/
abbrev CI (b : Nat) (σ : Sg) (len : Nat) (tx : Nat → Nat) (G : TG) (op : Nat → Nat) : Prop := (Tx b σ len tx) ∧ (WB σ) ∧ (σ.1 b 9 = nI G.N) ∧ (σ.1 b 11 = nI G.F) ∧ (∀ j, j < G.F → σ.1 (b + 9) j = nI (G.fl j)) ∧ (∀ k, k < G.N → op k < 2 → σ.1 (b + 1) k = nI (G.kd k)) ∧ (∀ k, k < G.N → σ.1 (b + 2) k = nI (G.fr k)) ∧ (∀ k, k < G.N → op k = 0 → σ.1 (b + 3) k = nI (G.en k)) ∧ (∀ k, k < G.N → σ.1 (b + 4) k = oI (G.pr k)) ∧ (∀ k, k < G.N → σ.1 (b + 5) k = nI (G.K k).length) ∧ (∀ k, k < G.N → σ.1 (b + 6) k = oI (G.nm k)) ∧ (∀ k, k < G.N → op k < 2 → σ.1 (b + 7) k = G.nu k) ∧ (∀ k, k < G.N → chB (σ.1 (b + 8)) (nI (k + 1)) (G.K k))
theorem CI.t {b : Nat} {σ : Sg} {len : Nat} {tx : Nat → Nat} {G : TG} {op : Nat → Nat} (hX : CI b σ len tx G op) : Tx b σ len tx := hX.1
theorem CI.w {b : Nat} {σ : Sg} {len : Nat} {tx : Nat → Nat} {G : TG} {op : Nat → Nat} (hX : CI b σ len tx G op) : WB σ := hX.2.1
theorem CI.N {b : Nat} {σ : Sg} {len : Nat} {tx : Nat → Nat} {G : TG} {op : Nat → Nat} (hX : CI b σ len tx G op) : σ.1 b 9 = nI G.N := hX.2.2.1
theorem CI.F {b : Nat} {σ : Sg} {len : Nat} {tx : Nat → Nat} {G : TG} {op : Nat → Nat} (hX : CI b σ len tx G op) : σ.1 b 11 = nI G.F := hX.2.2.2.1
theorem CI.fl {b : Nat} {σ : Sg} {len : Nat} {tx : Nat → Nat} {G : TG} {op : Nat → Nat} (hX : CI b σ len tx G op) : ∀ j, j < G.F → σ.1 (b + 9) j = nI (G.fl j) := hX.2.2.2.2.1
theorem CI.kd {b : Nat} {σ : Sg} {len : Nat} {tx : Nat → Nat} {G : TG} {op : Nat → Nat} (hX : CI b σ len tx G op) : ∀ k, k < G.N → op k < 2 → σ.1 (b + 1) k = nI (G.kd k) := hX.2.2.2.2.2.1
theorem CI.fr {b : Nat} {σ : Sg} {len : Nat} {tx : Nat → Nat} {G : TG} {op : Nat → Nat} (hX : CI b σ len tx G op) : ∀ k, k < G.N → σ.1 (b + 2) k = nI (G.fr k) := hX.2.2.2.2.2.2.1
theorem CI.en {b : Nat} {σ : Sg} {len : Nat} {tx : Nat → Nat} {G : TG} {op : Nat → Nat} (hX : CI b σ len tx G op) : ∀ k, k < G.N → op k = 0 → σ.1 (b + 3) k = nI (G.en k) := hX.2.2.2.2.2.2.2.1
theorem CI.pr {b : Nat} {σ : Sg} {len : Nat} {tx : Nat → Nat} {G : TG} {op : Nat → Nat} (hX : CI b σ len tx G op) : ∀ k, k < G.N → σ.1 (b + 4) k = oI (G.pr k) := hX.2.2.2.2.2.2.2.2.1
theorem CI.mn {b : Nat} {σ : Sg} {len : Nat} {tx : Nat → Nat} {G : TG} {op : Nat → Nat} (hX : CI b σ len tx G op) : ∀ k, k < G.N → σ.1 (b + 5) k = nI (G.K k).length := hX.2.2.2.2.2.2.2.2.2.1
theorem CI.nm {b : Nat} {σ : Sg} {len : Nat} {tx : Nat → Nat} {G : TG} {op : Nat → Nat} (hX : CI b σ len tx G op) : ∀ k, k < G.N → σ.1 (b + 6) k = oI (G.nm k) := hX.2.2.2.2.2.2.2.2.2.2.1
theorem CI.nu {b : Nat} {σ : Sg} {len : Nat} {tx : Nat → Nat} {G : TG} {op : Nat → Nat} (hX : CI b σ len tx G op) : ∀ k, k < G.N → op k < 2 → σ.1 (b + 7) k = G.nu k := hX.2.2.2.2.2.2.2.2.2.2.2.1
theorem CI.ch {b : Nat} {σ : Sg} {len : Nat} {tx : Nat → Nat} {G : TG} {op : Nat → Nat} (hX : CI b σ len tx G op) : ∀ k, k < G.N → chB (σ.1 (b + 8)) (nI (k + 1)) (G.K k) := hX.2.2.2.2.2.2.2.2.2.2.2.2
/-- the reference's cells hold the tree -/
abbrev MI (t : Nat) (σ : Sg) (len : Nat) (tx : Nat → Nat) (G : TG) (op : Nat → Nat) : Prop := (σ.1 58 t = nI G.N) ∧ (σ.1 71 t = nI G.F) ∧ (∀ j, j < G.F → σ.1 70 (400 * t + j) = nI (G.fl j)) ∧ (∀ k, k < G.N → op k < 2 → σ.1 59 (160 * t + k) = nI (G.kd k)) ∧ (∀ k, k < G.N → σ.1 60 (160 * t + k) = nI (G.fr k)) ∧ (∀ k, k < G.N → op k = 0 → σ.1 61 (160 * t + k) = nI (G.en k)) ∧ (∀ k, k < G.N → σ.1 63 (160 * t + k) = oM t (G.pr k)) ∧ (∀ k, k < G.N → σ.1 64 (160 * t + k) = nI (G.K k).length) ∧ (∀ k, k < G.N → σ.1 67 (160 * t + k) = oI (G.nm k)) ∧ (∀ k, k < G.N → ∀ n, G.nm k = some n → σ.1 68 (160 * t + k) = nI (qe tx len (n + 1))) ∧ (∀ k, k < G.N → op k < 2 → σ.1 69 (160 * t + k) = G.nu k) ∧ (∀ k, k < G.N → op k < 2 → G.kd k = 4 → σ.1 62 (160 * t + k) = nI (qe tx len (G.fr k + 1))) ∧ (∀ k, k < G.N → chM t (σ.1 66) (σ.1 65 (160 * t + k)) (G.K k))
theorem MI.N {t : Nat} {σ : Sg} {len : Nat} {tx : Nat → Nat} {G : TG} {op : Nat → Nat} (hX : MI t σ len tx G op) : σ.1 58 t = nI G.N := hX.1
theorem MI.F {t : Nat} {σ : Sg} {len : Nat} {tx : Nat → Nat} {G : TG} {op : Nat → Nat} (hX : MI t σ len tx G op) : σ.1 71 t = nI G.F := hX.2.1
theorem MI.fl {t : Nat} {σ : Sg} {len : Nat} {tx : Nat → Nat} {G : TG} {op : Nat → Nat} (hX : MI t σ len tx G op) : ∀ j, j < G.F → σ.1 70 (400 * t + j) = nI (G.fl j) := hX.2.2.1
theorem MI.kd {t : Nat} {σ : Sg} {len : Nat} {tx : Nat → Nat} {G : TG} {op : Nat → Nat} (hX : MI t σ len tx G op) : ∀ k, k < G.N → op k < 2 → σ.1 59 (160 * t + k) = nI (G.kd k) := hX.2.2.2.1
theorem MI.fr {t : Nat} {σ : Sg} {len : Nat} {tx : Nat → Nat} {G : TG} {op : Nat → Nat} (hX : MI t σ len tx G op) : ∀ k, k < G.N → σ.1 60 (160 * t + k) = nI (G.fr k) := hX.2.2.2.2.1
theorem MI.en {t : Nat} {σ : Sg} {len : Nat} {tx : Nat → Nat} {G : TG} {op : Nat → Nat} (hX : MI t σ len tx G op) : ∀ k, k < G.N → op k = 0 → σ.1 61 (160 * t + k) = nI (G.en k) := hX.2.2.2.2.2.1
theorem MI.pr {t : Nat} {σ : Sg} {len : Nat} {tx : Nat → Nat} {G : TG} {op : Nat → Nat} (hX : MI t σ len tx G op) : ∀ k, k < G.N → σ.1 63 (160 * t + k) = oM t (G.pr k) := hX.2.2.2.2.2.2.1
theorem MI.mn {t : Nat} {σ : Sg} {len : Nat} {tx : Nat → Nat} {G : TG} {op : Nat → Nat} (hX : MI t σ len tx G op) : ∀ k, k < G.N → σ.1 64 (160 * t + k) = nI (G.K k).length := hX.2.2.2.2.2.2.2.1
theorem MI.nm {t : Nat} {σ : Sg} {len : Nat} {tx : Nat → Nat} {G : TG} {op : Nat → Nat} (hX : MI t σ len tx G op) : ∀ k, k < G.N → σ.1 67 (160 * t + k) = oI (G.nm k) := hX.2.2.2.2.2.2.2.2.1
theorem MI.ne {t : Nat} {σ : Sg} {len : Nat} {tx : Nat → Nat} {G : TG} {op : Nat → Nat} (hX : MI t σ len tx G op) : ∀ k, k < G.N → ∀ n, G.nm k = some n → σ.1 68 (160 * t + k) = nI (qe tx len (n + 1)) := hX.2.2.2.2.2.2.2.2.2.1
theorem MI.nu {t : Nat} {σ : Sg} {len : Nat} {tx : Nat → Nat} {G : TG} {op : Nat → Nat} (hX : MI t σ len tx G op) : ∀ k, k < G.N → op k < 2 → σ.1 69 (160 * t + k) = G.nu k := hX.2.2.2.2.2.2.2.2.2.2.1
theorem MI.cs {t : Nat} {σ : Sg} {len : Nat} {tx : Nat → Nat} {G : TG} {op : Nat → Nat} (hX : MI t σ len tx G op) : ∀ k, k < G.N → op k < 2 → G.kd k = 4 → σ.1 62 (160 * t + k) = nI (qe tx len (G.fr k + 1)) := hX.2.2.2.2.2.2.2.2.2.2.2.1
theorem MI.ch {t : Nat} {σ : Sg} {len : Nat} {tx : Nat → Nat} {G : TG} {op : Nat → Nat} (hX : MI t σ len tx G op) : ∀ k, k < G.N → chM t (σ.1 66) (σ.1 65 (160 * t + k)) (G.K k) := hX.2.2.2.2.2.2.2.2.2.2.2.2
/-- what a tree keeps to -/
abbrev WG (len : Nat) (G : TG) : Prop := (∀ k, k < G.N → G.kd k ≤ 6) ∧ (∀ k, k < G.N → G.fr k < len) ∧ (∀ k, k < G.N → ∀ c ∈ G.K k, k < c ∧ c < G.N ∧ G.pr c = some k ∧ G.lv c = G.lv k + 1) ∧ (∀ k, k < G.N → (G.K k).Pairwise (· < ·)) ∧ (∀ k, k < G.N → (k = 0 ∧ G.pr k = none) ∨ ∃ p, G.pr k = some p ∧ p < k ∧ k ∈ G.K p) ∧ (∀ k, k < G.N → G.kd k < 5 → G.K k = []) ∧ (∀ k, k < G.N → ∀ p, G.pr k = some p → (G.kd p = 6 → ∃ n, G.nm k = some n ∧ n < len) ∧ (G.kd p = 5 → G.nm k = none)) ∧ (∀ k, k < G.N → G.pr k = none → G.nm k = none) ∧ (∀ k, k < G.N → G.lv k ≤ 8 ∧ (5 ≤ G.kd k → G.lv k < 8))
theorem WG.kd {len : Nat} {G : TG} (hX : WG len G) : ∀ k, k < G.N → G.kd k ≤ 6 := hX.1
theorem WG.fr {len : Nat} {G : TG} (hX : WG len G) : ∀ k, k < G.N → G.fr k < len := hX.2.1
theorem WG.ch {len : Nat} {G : TG} (hX : WG len G) : ∀ k, k < G.N → ∀ c ∈ G.K k, k < c ∧ c < G.N ∧ G.pr c = some k ∧ G.lv c = G.lv k + 1 := hX.2.2.1
theorem WG.so {len : Nat} {G : TG} (hX : WG len G) : ∀ k, k < G.N → (G.K k).Pairwise (· < ·) := hX.2.2.2.1
theorem WG.up {len : Nat} {G : TG} (hX : WG len G) : ∀ k, k < G.N → (k = 0 ∧ G.pr k = none) ∨ ∃ p, G.pr k = some p ∧ p < k ∧ k ∈ G.K p := hX.2.2.2.2.1
theorem WG.nl {len : Nat} {G : TG} (hX : WG len G) : ∀ k, k < G.N → G.kd k < 5 → G.K k = [] := hX.2.2.2.2.2.1
theorem WG.nm {len : Nat} {G : TG} (hX : WG len G) : ∀ k, k < G.N → ∀ p, G.pr k = some p → (G.kd p = 6 → ∃ n, G.nm k = some n ∧ n < len) ∧ (G.kd p = 5 → G.nm k = none) := hX.2.2.2.2.2.2.1
theorem WG.n0 {len : Nat} {G : TG} (hX : WG len G) : ∀ k, k < G.N → G.pr k = none → G.nm k = none := hX.2.2.2.2.2.2.2.1
theorem WG.lv {len : Nat} {G : TG} (hX : WG len G) : ∀ k, k < G.N → G.lv k ≤ 8 ∧ (5 ≤ G.kd k → G.lv k < 8) := hX.2.2.2.2.2.2.2.2
/-- what of an older tree stays -/
abbrev Ex (G G' : TG) (p : Option Nat) : Prop := (G.N ≤ G'.N) ∧ (G.F ≤ G'.F) ∧ (∀ k, k < G.N → G'.kd k = G.kd k) ∧ (∀ k, k < G.N → G'.fr k = G.fr k) ∧ (∀ k, k < G.N → G'.nm k = G.nm k) ∧ (∀ k, k < G.N → G'.lv k = G.lv k) ∧ (∀ k, k < G.N → p ≠ some k → G'.K k = G.K k)
theorem Ex.N {G G' : TG} {p : Option Nat} (hX : Ex G G' p) : G.N ≤ G'.N := hX.1
theorem Ex.F {G G' : TG} {p : Option Nat} (hX : Ex G G' p) : G.F ≤ G'.F := hX.2.1
theorem Ex.kd {G G' : TG} {p : Option Nat} (hX : Ex G G' p) : ∀ k, k < G.N → G'.kd k = G.kd k := hX.2.2.1
theorem Ex.fr {G G' : TG} {p : Option Nat} (hX : Ex G G' p) : ∀ k, k < G.N → G'.fr k = G.fr k := hX.2.2.2.1
theorem Ex.nm {G G' : TG} {p : Option Nat} (hX : Ex G G' p) : ∀ k, k < G.N → G'.nm k = G.nm k := hX.2.2.2.2.1
theorem Ex.lv {G G' : TG} {p : Option Nat} (hX : Ex G G' p) : ∀ k, k < G.N → G'.lv k = G.lv k := hX.2.2.2.2.2.1
theorem Ex.K {G G' : TG} {p : Option Nat} (hX : Ex G G' p) : ∀ k, k < G.N → p ≠ some k → G'.K k = G.K k := hX.2.2.2.2.2.2
theorem chB_up {f : Nat → Int32} {c : Nat} {v : Int32} : ∀ (l : List Nat) (x : Int32), (∀ k ∈ l.dropLast, k ≠ c) → chB f x l → chB (fun j => if j = c then v else f j) x l
  | [], _, _, _ => trivial
  | [_], _, _, h => ⟨h.1, trivial⟩
  | d :: e :: l, x, hc, h => by
    refine ⟨h.1, ?_⟩
    have hd : d ≠ c := hc d (by simp)
    show chB _ (if d = c then v else f d) (e :: l)
    rw [if_neg hd]
    exact chB_up (e :: l) _ (fun k hk => hc k (by simp [List.dropLast] at hk ⊢; exact Or.inr hk)) h.2
theorem chB_cg {f g : Nat → Int32} : ∀ (l : List Nat) (x : Int32), (∀ k ∈ l, f k = g k) → chB f x l → chB g x l
  | [], _, _, _ => trivial
  | d :: l, x, hc, h => ⟨h.1, by rw [← hc d (List.mem_cons_self ..)]; exact chB_cg l _ (fun k hk => hc k (List.mem_cons_of_mem _ hk)) h.2⟩
theorem chE_cg {f g : Nat → Int32} : ∀ (l : List Nat) (x : Int32), (∀ k ∈ l, f k = g k) → chE f x l = chE g x l
  | [], _, _ => rfl
  | d :: l, x, hc => by
    show chE f (f d) l = chE g (g d) l
    rw [hc d (List.mem_cons_self ..)]; exact chE_cg l _ (fun k hk => hc k (List.mem_cons_of_mem _ hk))
theorem chB_app {f : Nat → Int32} {n : Nat} : ∀ (l : List Nat) (x : Int32), chB f x l → chE f x l = nI n → chB f x (l ++ [n])
  | [], _, _, h => ⟨h, trivial⟩
  | _ :: l, _, h, e => ⟨h.1, chB_app l _ h.2 e⟩
theorem chE_app {f : Nat → Int32} {n : Nat} : ∀ (l : List Nat) (x : Int32), chE f x (l ++ [n]) = f n
  | [], _ => rfl
  | _ :: l, _ => chE_app l _
theorem chM_cg {t : Nat} {f g : Nat → Int32} : ∀ (l : List Nat) (x : Int32), (∀ k ∈ l, f (160 * t + k) = g (160 * t + k)) → chM t f x l → chM t g x l
  | [], _, _, h => h
  | d :: l, x, hc, h => ⟨h.1, by rw [← hc d (List.mem_cons_self ..)]; exact chM_cg l _ (fun k hk => hc k (List.mem_cons_of_mem _ hk)) h.2⟩
/-- a new one behind the last one of a chain -/
theorem chM_app {t n : Nat} {f : Nat → Int32} {ls : Nat} : ∀ (l : List Nat) (x : Int32), l.getLast? = some ls → n ∉ l → l.Nodup → f (160 * t + n) = -nI 1 → chM t f x l → chM t (fun j => if j = 160 * t + ls then nI (160 * t + n) else f j) x (l ++ [n])
  | [], _, h, _, _, _, _ => by simp at h
  | [d], x, h, hn, hd, h0, hc => by
    simp at h
    subst h
    refine ⟨hc.1, by simp, ?_⟩
    show (if 160 * t + n = 160 * t + d then nI (160 * t + n) else f (160 * t + n)) = -nI 1
    rw [if_neg (by simp at hn; omega)]; exact h0
  | d :: e :: l, x, h, hn, hd, h0, hc => by
    have h' : (e :: l).getLast? = some ls := by rw [List.getLast?_cons_cons] at h; exact h
    have hm : ls ∈ e :: l := List.mem_of_getLast? h'
    have hne : ls ≠ d := fun q => by subst q; exact (List.nodup_cons.mp hd).1 hm
    refine ⟨hc.1, ?_⟩
    show chM t _ (if 160 * t + d = 160 * t + ls then nI (160 * t + n) else f (160 * t + d)) ((e :: l) ++ [n])
    rw [if_neg (by omega)]
    exact chM_app (e :: l) _ h' (fun q => hn (List.mem_cons_of_mem _ q)) (List.nodup_cons.mp hd).2 h0 hc.2
