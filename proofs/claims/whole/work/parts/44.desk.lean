/-! SchemaDesk.insert (IIC)V -/
abbrev k_Sd_insert : ByteArray := prog_1_method_4_code
abbrev y_Sd_insert : MethodName := ⟨"SchemaDesk", "insert", "(IIC)V"⟩
theorem d_Sd_insert_0 : decode k_Sd_insert 0 = .ok (.iload_n 1, 1) := by decide +kernel
theorem d_Sd_insert_1 : decode k_Sd_insert 1 = .ok (.invokestatic 77, 3) := by decide +kernel
theorem d_Sd_insert_4 : decode k_Sd_insert 4 = .ok (.ifCond .eq 10, 3) := by decide +kernel
theorem d_Sd_insert_7 : decode k_Sd_insert 7 = .ok (.iload_n 3, 1) := by decide +kernel
theorem d_Sd_insert_8 : decode k_Sd_insert 8 = .ok (.invokestatic 81, 3) := by decide +kernel
theorem d_Sd_insert_11 : decode k_Sd_insert 11 = .ok (.ifCond .ne 11, 3) := by decide +kernel
theorem d_Sd_insert_14 : decode k_Sd_insert 14 = .ok (.new 112, 3) := by decide +kernel
theorem d_Sd_insert_17 : decode k_Sd_insert 17 = .ok (.dup, 1) := by decide +kernel
theorem d_Sd_insert_18 : decode k_Sd_insert 18 = .ok (.invokespecial 114, 3) := by decide +kernel
theorem d_Sd_insert_21 : decode k_Sd_insert 21 = .ok (.athrow, 1) := by decide +kernel
theorem d_Sd_insert_22 : decode k_Sd_insert 22 = .ok (.aload_n 0, 1) := by decide +kernel
theorem d_Sd_insert_23 : decode k_Sd_insert 23 = .ok (.iload_n 1, 1) := by decide +kernel
theorem d_Sd_insert_24 : decode k_Sd_insert 24 = .ok (.invokevirtual 85, 3) := by decide +kernel
theorem d_Sd_insert_27 : decode k_Sd_insert 27 = .ok (.astore 4, 2) := by decide +kernel
theorem d_Sd_insert_29 : decode k_Sd_insert 29 = .ok (.iload_n 2, 1) := by decide +kernel
theorem d_Sd_insert_30 : decode k_Sd_insert 30 = .ok (.ifCond .lt 12, 3) := by decide +kernel
theorem d_Sd_insert_33 : decode k_Sd_insert 33 = .ok (.iload_n 2, 1) := by decide +kernel
theorem d_Sd_insert_34 : decode k_Sd_insert 34 = .ok (.aload 4, 2) := by decide +kernel
theorem d_Sd_insert_36 : decode k_Sd_insert 36 = .ok (.getfield 93, 3) := by decide +kernel
theorem d_Sd_insert_39 : decode k_Sd_insert 39 = .ok (.if_icmp .le 11, 3) := by decide +kernel
theorem d_Sd_insert_42 : decode k_Sd_insert 42 = .ok (.new 115, 3) := by decide +kernel
theorem d_Sd_insert_45 : decode k_Sd_insert 45 = .ok (.dup, 1) := by decide +kernel
theorem d_Sd_insert_46 : decode k_Sd_insert 46 = .ok (.invokespecial 117, 3) := by decide +kernel
theorem d_Sd_insert_49 : decode k_Sd_insert 49 = .ok (.athrow, 1) := by decide +kernel
theorem d_Sd_insert_50 : decode k_Sd_insert 50 = .ok (.aload 4, 2) := by decide +kernel
theorem d_Sd_insert_52 : decode k_Sd_insert 52 = .ok (.invokevirtual 89, 3) := by decide +kernel
theorem d_Sd_insert_55 : decode k_Sd_insert 55 = .ok (.iconst 1, 1) := by decide +kernel
theorem d_Sd_insert_56 : decode k_Sd_insert 56 = .ok (.if_icmp .ge 11, 3) := by decide +kernel
theorem d_Sd_insert_59 : decode k_Sd_insert 59 = .ok (.new 118, 3) := by decide +kernel
theorem d_Sd_insert_62 : decode k_Sd_insert 62 = .ok (.dup, 1) := by decide +kernel
theorem d_Sd_insert_63 : decode k_Sd_insert 63 = .ok (.invokespecial 120, 3) := by decide +kernel
theorem d_Sd_insert_66 : decode k_Sd_insert 66 = .ok (.athrow, 1) := by decide +kernel
theorem d_Sd_insert_67 : decode k_Sd_insert 67 = .ok (.aload 4, 2) := by decide +kernel
theorem d_Sd_insert_69 : decode k_Sd_insert 69 = .ok (.iload_n 2, 1) := by decide +kernel
theorem d_Sd_insert_70 : decode k_Sd_insert 70 = .ok (.iload_n 3, 1) := by decide +kernel
theorem d_Sd_insert_71 : decode k_Sd_insert 71 = .ok (.invokevirtual 97, 3) := by decide +kernel
theorem d_Sd_insert_74 : decode k_Sd_insert 74 = .ok (.aload_n 0, 1) := by decide +kernel
theorem d_Sd_insert_75 : decode k_Sd_insert 75 = .ok (.iload_n 1, 1) := by decide +kernel
theorem d_Sd_insert_76 : decode k_Sd_insert 76 = .ok (.invokevirtual 101, 3) := by decide +kernel
theorem d_Sd_insert_79 : decode k_Sd_insert 79 = .ok (.return_, 1) := by decide +kernel
def wq_Sd_insert (x1 : Int32) (x2 : Int32) (x3 : Int32) (σ : Sg) (post : Sg → Prop) : Prop := (wq_Sd_isText x1 σ (fun r1 σ1 => ((r1 = 0 → False) ∧ (¬ r1 = 0 → (wq_Sd_isCharacter x3 σ1 (fun r2 σ2 => ((¬ r2 = 0 → (wq_Sd_textOf x1 σ2 (fun r3 σ3 => (r3 = 0 ∨ r3 = 13) ∧ ((x2 < 0 → False) ∧ (¬ x2 < 0 → ((x2 ≤ (σ3.1 (r3 + 10) 1) → (wq_Tx_room r3 σ3 (fun r4 σ4 => (((1 : Int32) ≤ r4 → (wq_Tx_put r3 x2 x3 σ4 (fun σ5 => (wq_Sd_edited x1 σ5 (fun σ6 => post σ6))))) ∧ (¬ (1 : Int32) ≤ r4 → False))))) ∧ (¬ x2 ≤ (σ3.1 (r3 + 10) 1) → False))))))) ∧ (r2 = 0 → False))))))))
set_option maxRecDepth 100000 in
set_option maxHeartbeats 4000000 in
theorem b_Sd_insert_0 {p : Program} {l : Launch} {e : Env} {s : State} {m : MethodId} {args : Array Value} {below : List Frame} {meth : Method} {c : Code} {D : va_G} {g : Gm} {A : Nat → Prop} {post : Sg → Prop} (C : kC p s m args meth c k_Sd_insert 5 (none) GW R_Sd D vwCl g (Zk g) A) (x1 : Int32) (x2 : Int32) (x3 : Int32) (σ : Sg) (H : Heap) (locs : List Loc) (ls : Array Slot) (hl : lv_has ls 5 [(0, .ref (g.1 51)), (1, .int x1), (2, .int x2), (3, .int x3)]) (hst : Wst D vwCl (WS g) A s σ H locs) (h : wq_Sd_insert x1 x2 x3 σ post) : W p l e { frames := 2, cells := 0, slots := 0, locals := 82 } s m args below meth c H locs 0 0 (MQ below (QvW D vwCl (WS g) post A) args s 0 0 A) (F0 m 0 ls []) := by
  obtain ⟨hx, hb, hr, hml, hown, hts, hlocks, hK, hZ, hA⟩ := C
  unfold wq_Sd_insert at h
  refine lv_iload_n hx hb d_Sd_insert_0 rfl (lv_at hl 1 rfl) ?_
  refine kw_calli (va_runS (As := [.int x1]) (rest := []) ⟨hx, hb, hml, hown, hts⟩ (c_Sd_isText l x1 h) (cwS 1 hts (gd_s gw431 gw432 gw1 gw433) rfl rfl rfl (by decide +kernel) ⟨Nat.le_of_ble_eq_true rfl, Nat.le_of_ble_eq_true rfl⟩) ⟨kw_blind (Zk_ok g), kw_pre (Zk_ok g) hK hZ hA hst⟩ rfl rfl hl.1 rfl (lv_room (Nat.le_of_ble_eq_true rfl)) d_Sd_insert_1 ⟨Nat.le_of_ble_eq_true rfl, Nat.le_of_ble_eq_true rfl⟩) hst hA (fun r1 σ1 H locs h hst => ?_)
  refine lv_if_eq (tgt := 14) hx hb d_Sd_insert_4 (by decide) (fun hc => ?_) (fun hc => ?_)
  · replace h := h.1 hc
    exact h.elim
  · replace h := h.2 hc
    refine lv_iload_n hx hb d_Sd_insert_7 rfl (lv_at hl 3 rfl) ?_
    refine kw_calli (va_runS (As := [.int x3]) (rest := []) ⟨hx, hb, hml, hown, hts⟩ (c_Sd_isCharacter l x3 h) (cwS 1 hts (gd_s gw434 gw435 gw1 gw436) rfl rfl rfl (by decide +kernel) ⟨Nat.le_of_ble_eq_true rfl, Nat.le_of_ble_eq_true rfl⟩) ⟨kw_blind (Zk_ok g), kw_pre (Zk_ok g) hK hZ hA hst⟩ rfl rfl hl.1 rfl (lv_room (Nat.le_of_ble_eq_true rfl)) d_Sd_insert_8 ⟨Nat.le_of_ble_eq_true rfl, Nat.le_of_ble_eq_true rfl⟩) hst hA (fun r2 σ2 H locs h hst => ?_)
    refine lv_if_ne (tgt := 22) hx hb d_Sd_insert_11 (by decide) (fun hc => ?_) (fun hc => ?_)
    · replace h := h.1 hc
      refine lv_aload_n hx hb d_Sd_insert_22 rfl (lv_at hl 0 rfl) ?_
      refine lv_iload_n hx hb d_Sd_insert_23 rfl (lv_at hl 1 rfl) ?_
      refine kw_callr (va_runV (As := [.int x1]) (rest := []) (b := g.1 51) ⟨hx, hb, hml, hown, hts⟩ (c_Sd_textOf l x1 h) (cwV 1 hts (gd_v gw437 gw439 gs0 gw1 gw440) rfl rfl rfl (by decide +kernel) ⟨Nat.le_of_ble_eq_true rfl, Nat.le_of_ble_eq_true rfl⟩) ⟨kw_blind (Zk_ok g), va_recv hK hst.1 rfl (WS_o51 g σ2), kw_pre (Zk_ok g) hK hZ hA hst⟩ rfl rfl hl.1 rfl (lv_room (Nat.le_of_ble_eq_true rfl)) d_Sd_insert_24 ⟨Nat.le_of_ble_eq_true rfl, Nat.le_of_ble_eq_true rfl⟩) hst hA (fun r3 σ3 H locs h hst => ?_)
      obtain ⟨hb1, h⟩ := h
      rcases hb1 with rfl | rfl
      · refine lv_astore hx hb d_Sd_insert_27 hl (by decide) rfl (fun ls hl => ?_)
        have hl : lv_has ls 5 [(4, .ref (g.1 10)), (0, .ref (g.1 51)), (1, .int x1), (2, .int x2), (3, .int x3)] := hl
        refine lv_iload_n hx hb d_Sd_insert_29 rfl (lv_at hl 3 rfl) ?_
        refine lv_if_lt (tgt := 42) hx hb d_Sd_insert_30 (by decide) (fun hc => ?_) (fun hc => ?_)
        · replace h := h.1 hc
          exact h.elim
        · replace h := h.2 hc
          refine lv_iload_n hx hb d_Sd_insert_33 rfl (lv_at hl 3 rfl) ?_
          refine lv_aload hx hb d_Sd_insert_34 (lv_at hl 0 rfl) ?_
          refine va_get (D := D) (ci := 1) (C := R_Tx) (T := T_Tx) (N := 2) hx hb hts in_Tx hown hK hst.1 10 (WS_o10 g σ3) rfl 1 (by decide) (hts _ gw113) (fun _ h9 => h9) rfl d_Sd_insert_36 ?_
          refine lv_icmp_le (tgt := 50) hx hb d_Sd_insert_39 (by decide) (fun hc => ?_) (fun hc => ?_)
          · replace h := h.1 hc
            refine lv_aload hx hb d_Sd_insert_50 (lv_at hl 0 rfl) ?_
            refine kw_calli (va_runV (As := []) (rest := []) (b := g.1 10) ⟨hx, hb, hml, hown, hts⟩ (c_Tx_room_0 l h) (cwV 0 hts (gd_v gw441 gw442 gw443 gw8 gw444) rfl rfl rfl (by decide +kernel) ⟨Nat.le_of_ble_eq_true rfl, Nat.le_of_ble_eq_true rfl⟩) ⟨kw_blind (Zk_ok g), va_recv hK hst.1 rfl (WS_o10 g σ3), kw_pre (Zk_ok g) hK hZ hA hst⟩ rfl rfl hl.1 rfl (lv_room (Nat.le_of_ble_eq_true rfl)) d_Sd_insert_52 ⟨Nat.le_of_ble_eq_true rfl, Nat.le_of_ble_eq_true rfl⟩) hst hA (fun r4 σ4 H locs h hst => ?_)
            refine lv_iconst (v := (1 : Int32)) hx hb d_Sd_insert_55 (by decide) ?_
            refine lv_icmp_ge (tgt := 67) hx hb d_Sd_insert_56 (by decide) (fun hc => ?_) (fun hc => ?_)
            · replace h := h.1 hc
              refine lv_aload hx hb d_Sd_insert_67 (lv_at hl 0 rfl) ?_
              refine lv_iload_n hx hb d_Sd_insert_69 rfl (lv_at hl 3 rfl) ?_
              refine lv_iload_n hx hb d_Sd_insert_70 rfl (lv_at hl 4 rfl) ?_
              refine kw_callv (va_runV (As := [.int x2, .int x3]) (rest := []) (b := g.1 10) ⟨hx, hb, hml, hown, hts⟩ (c_Tx_put_0 l x2 x3 h) (cwV 2 hts (gd_v gw445 gw446 gw447 gw8 gw448) rfl rfl rfl (by decide +kernel) ⟨Nat.le_of_ble_eq_true rfl, Nat.le_of_ble_eq_true rfl⟩) ⟨kw_blind (Zk_ok g), va_recv hK hst.1 rfl (WS_o10 g σ4), kw_pre (Zk_ok g) hK hZ hA hst⟩ rfl rfl hl.1 rfl (lv_room (Nat.le_of_ble_eq_true rfl)) d_Sd_insert_71 ⟨Nat.le_of_ble_eq_true rfl, Nat.le_of_ble_eq_true rfl⟩) hst hA (fun σ5 H locs h hst => ?_)
              refine lv_aload_n hx hb d_Sd_insert_74 rfl (lv_at hl 1 rfl) ?_
              refine lv_iload_n hx hb d_Sd_insert_75 rfl (lv_at hl 2 rfl) ?_
              refine kw_callv (va_runV (As := [.int x1]) (rest := []) (b := g.1 51) ⟨hx, hb, hml, hown, hts⟩ (c_Sd_edited l x1 h) (cwV 1 hts (gd_v gw452 gw454 gs1 gw1 gw455) rfl rfl rfl (by decide +kernel) ⟨Nat.le_of_ble_eq_true rfl, Nat.le_of_ble_eq_true rfl⟩) ⟨kw_blind (Zk_ok g), va_recv hK hst.1 rfl (WS_o51 g σ5), kw_pre (Zk_ok g) hK hZ hA hst⟩ rfl rfl hl.1 rfl (lv_room (Nat.le_of_ble_eq_true rfl)) d_Sd_insert_76 ⟨Nat.le_of_ble_eq_true rfl, Nat.le_of_ble_eq_true rfl⟩) hst hA (fun σ6 H locs h hst => ?_)
              exact kw_vret hx hb hr hlocks hst h d_Sd_insert_79
            · replace h := h.2 hc
              exact h.elim
          · replace h := h.2 hc
            exact h.elim
      · refine lv_astore hx hb d_Sd_insert_27 hl (by decide) rfl (fun ls hl => ?_)
        have hl : lv_has ls 5 [(4, .ref (g.1 23)), (0, .ref (g.1 51)), (1, .int x1), (2, .int x2), (3, .int x3)] := hl
        refine lv_iload_n hx hb d_Sd_insert_29 rfl (lv_at hl 3 rfl) ?_
        refine lv_if_lt (tgt := 42) hx hb d_Sd_insert_30 (by decide) (fun hc => ?_) (fun hc => ?_)
        · replace h := h.1 hc
          exact h.elim
        · replace h := h.2 hc
          refine lv_iload_n hx hb d_Sd_insert_33 rfl (lv_at hl 3 rfl) ?_
          refine lv_aload hx hb d_Sd_insert_34 (lv_at hl 0 rfl) ?_
          refine va_get (D := D) (ci := 1) (C := R_Tx) (T := T_Tx) (N := 2) hx hb hts in_Tx hown hK hst.1 23 (WS_o23 g σ3) rfl 1 (by decide) (hts _ gw113) (fun _ h9 => h9) rfl d_Sd_insert_36 ?_
          refine lv_icmp_le (tgt := 50) hx hb d_Sd_insert_39 (by decide) (fun hc => ?_) (fun hc => ?_)
          · replace h := h.1 hc
            refine lv_aload hx hb d_Sd_insert_50 (lv_at hl 0 rfl) ?_
            refine kw_calli (va_runV (As := []) (rest := []) (b := g.1 23) ⟨hx, hb, hml, hown, hts⟩ (c_Tx_room_13 l h) (cwV 0 hts (gd_v gw441 gw442 gw443 gw8 gw444) rfl rfl rfl (by decide +kernel) ⟨Nat.le_of_ble_eq_true rfl, Nat.le_of_ble_eq_true rfl⟩) ⟨kw_blind (Zk_ok g), va_recv hK hst.1 rfl (WS_o23 g σ3), kw_pre (Zk_ok g) hK hZ hA hst⟩ rfl rfl hl.1 rfl (lv_room (Nat.le_of_ble_eq_true rfl)) d_Sd_insert_52 ⟨Nat.le_of_ble_eq_true rfl, Nat.le_of_ble_eq_true rfl⟩) hst hA (fun r4 σ4 H locs h hst => ?_)
            refine lv_iconst (v := (1 : Int32)) hx hb d_Sd_insert_55 (by decide) ?_
            refine lv_icmp_ge (tgt := 67) hx hb d_Sd_insert_56 (by decide) (fun hc => ?_) (fun hc => ?_)
            · replace h := h.1 hc
              refine lv_aload hx hb d_Sd_insert_67 (lv_at hl 0 rfl) ?_
              refine lv_iload_n hx hb d_Sd_insert_69 rfl (lv_at hl 3 rfl) ?_
              refine lv_iload_n hx hb d_Sd_insert_70 rfl (lv_at hl 4 rfl) ?_
              refine kw_callv (va_runV (As := [.int x2, .int x3]) (rest := []) (b := g.1 23) ⟨hx, hb, hml, hown, hts⟩ (c_Tx_put_13 l x2 x3 h) (cwV 2 hts (gd_v gw445 gw446 gw447 gw8 gw448) rfl rfl rfl (by decide +kernel) ⟨Nat.le_of_ble_eq_true rfl, Nat.le_of_ble_eq_true rfl⟩) ⟨kw_blind (Zk_ok g), va_recv hK hst.1 rfl (WS_o23 g σ4), kw_pre (Zk_ok g) hK hZ hA hst⟩ rfl rfl hl.1 rfl (lv_room (Nat.le_of_ble_eq_true rfl)) d_Sd_insert_71 ⟨Nat.le_of_ble_eq_true rfl, Nat.le_of_ble_eq_true rfl⟩) hst hA (fun σ5 H locs h hst => ?_)
              refine lv_aload_n hx hb d_Sd_insert_74 rfl (lv_at hl 1 rfl) ?_
              refine lv_iload_n hx hb d_Sd_insert_75 rfl (lv_at hl 2 rfl) ?_
              refine kw_callv (va_runV (As := [.int x1]) (rest := []) (b := g.1 51) ⟨hx, hb, hml, hown, hts⟩ (c_Sd_edited l x1 h) (cwV 1 hts (gd_v gw452 gw454 gs1 gw1 gw455) rfl rfl rfl (by decide +kernel) ⟨Nat.le_of_ble_eq_true rfl, Nat.le_of_ble_eq_true rfl⟩) ⟨kw_blind (Zk_ok g), va_recv hK hst.1 rfl (WS_o51 g σ5), kw_pre (Zk_ok g) hK hZ hA hst⟩ rfl rfl hl.1 rfl (lv_room (Nat.le_of_ble_eq_true rfl)) d_Sd_insert_76 ⟨Nat.le_of_ble_eq_true rfl, Nat.le_of_ble_eq_true rfl⟩) hst hA (fun σ6 H locs h hst => ?_)
              exact kw_vret hx hb hr hlocks hst h d_Sd_insert_79
            · replace h := h.2 hc
              exact h.elim
          · replace h := h.2 hc
            exact h.elim
    · replace h := h.2 hc
      exact h.elim
set_option maxRecDepth 100000 in
set_option maxHeartbeats 4000000 in
theorem c_Sd_insert (l : Launch) {D : va_G} {g : Gm} {sz : Nat} (x1 : Int32) (x2 : Int32) (x3 : Int32) {σ : Sg} {post : Sg → Prop} (h : wq_Sd_insert x1 x2 x3 σ post) : Met l y_Sd_insert (.code y_Sd_insert k_Sd_insert 5 (none) :: GW) { frames := 2, cells := 0, slots := 0, locals := 82 } (PcW D vwCl (WS g) g (Zk g) σ sz [.ref (g.1 51), .int x1, .int x2, .int x3]) (QvW D vwCl (WS g) post (va_A (WS g σ) sz)) 0 0 (va_A (WS g σ) sz) := by
  refine kw_entry (own := R_Sd) (by decide) rfl rfl (Nat.le_of_ble_eq_true rfl) ?_
  intro p e s m below meth c ls hsz C hin hl hst
  exact b_Sd_insert_0 C x1 x2 x3 σ _ _ ls hl hst h
/-! SchemaDesk.remove (III)V -/
abbrev k_Sd_remove : ByteArray := prog_1_method_5_code
abbrev y_Sd_remove : MethodName := ⟨"SchemaDesk", "remove", "(III)V"⟩
theorem d_Sd_remove_0 : decode k_Sd_remove 0 = .ok (.iload_n 1, 1) := by decide +kernel
theorem d_Sd_remove_1 : decode k_Sd_remove 1 = .ok (.invokestatic 77, 3) := by decide +kernel
theorem d_Sd_remove_4 : decode k_Sd_remove 4 = .ok (.ifCond .eq 7, 3) := by decide +kernel
theorem d_Sd_remove_7 : decode k_Sd_remove 7 = .ok (.iload_n 3, 1) := by decide +kernel
theorem d_Sd_remove_8 : decode k_Sd_remove 8 = .ok (.ifCond .ge 11, 3) := by decide +kernel
theorem d_Sd_remove_11 : decode k_Sd_remove 11 = .ok (.new 112, 3) := by decide +kernel
theorem d_Sd_remove_14 : decode k_Sd_remove 14 = .ok (.dup, 1) := by decide +kernel
theorem d_Sd_remove_15 : decode k_Sd_remove 15 = .ok (.invokespecial 114, 3) := by decide +kernel
theorem d_Sd_remove_18 : decode k_Sd_remove 18 = .ok (.athrow, 1) := by decide +kernel
theorem d_Sd_remove_19 : decode k_Sd_remove 19 = .ok (.aload_n 0, 1) := by decide +kernel
theorem d_Sd_remove_20 : decode k_Sd_remove 20 = .ok (.iload_n 1, 1) := by decide +kernel
theorem d_Sd_remove_21 : decode k_Sd_remove 21 = .ok (.invokevirtual 85, 3) := by decide +kernel
theorem d_Sd_remove_24 : decode k_Sd_remove 24 = .ok (.astore 4, 2) := by decide +kernel
theorem d_Sd_remove_26 : decode k_Sd_remove 26 = .ok (.iload_n 2, 1) := by decide +kernel
theorem d_Sd_remove_27 : decode k_Sd_remove 27 = .ok (.ifCond .lt 14, 3) := by decide +kernel
theorem d_Sd_remove_30 : decode k_Sd_remove 30 = .ok (.iload_n 3, 1) := by decide +kernel
theorem d_Sd_remove_31 : decode k_Sd_remove 31 = .ok (.aload 4, 2) := by decide +kernel
theorem d_Sd_remove_33 : decode k_Sd_remove 33 = .ok (.getfield 93, 3) := by decide +kernel
theorem d_Sd_remove_36 : decode k_Sd_remove 36 = .ok (.iload_n 2, 1) := by decide +kernel
theorem d_Sd_remove_37 : decode k_Sd_remove 37 = .ok (.isub, 1) := by decide +kernel
theorem d_Sd_remove_38 : decode k_Sd_remove 38 = .ok (.if_icmp .le 11, 3) := by decide +kernel
theorem d_Sd_remove_41 : decode k_Sd_remove 41 = .ok (.new 115, 3) := by decide +kernel
theorem d_Sd_remove_44 : decode k_Sd_remove 44 = .ok (.dup, 1) := by decide +kernel
theorem d_Sd_remove_45 : decode k_Sd_remove 45 = .ok (.invokespecial 117, 3) := by decide +kernel
theorem d_Sd_remove_48 : decode k_Sd_remove 48 = .ok (.athrow, 1) := by decide +kernel
theorem d_Sd_remove_49 : decode k_Sd_remove 49 = .ok (.aload 4, 2) := by decide +kernel
theorem d_Sd_remove_51 : decode k_Sd_remove 51 = .ok (.iload_n 2, 1) := by decide +kernel
theorem d_Sd_remove_52 : decode k_Sd_remove 52 = .ok (.iload_n 3, 1) := by decide +kernel
theorem d_Sd_remove_53 : decode k_Sd_remove 53 = .ok (.invokevirtual 121, 3) := by decide +kernel
theorem d_Sd_remove_56 : decode k_Sd_remove 56 = .ok (.aload_n 0, 1) := by decide +kernel
theorem d_Sd_remove_57 : decode k_Sd_remove 57 = .ok (.iload_n 1, 1) := by decide +kernel
theorem d_Sd_remove_58 : decode k_Sd_remove 58 = .ok (.invokevirtual 101, 3) := by decide +kernel
theorem d_Sd_remove_61 : decode k_Sd_remove 61 = .ok (.return_, 1) := by decide +kernel
theorem gw580 : (Jvm.Cond.methodLink "SchemaDesk" (121 : Nat) ({ cls := "SchemaDesk$Text", name := "take", desc := "(II)V" } : Jvm.MethodName)) ∈ GW := gw_t3 (List.mem_of_getElem? (i := 100) rfl) rfl
theorem gw581 : (Jvm.Cond.instanceMethod ({ cls := "SchemaDesk$Text", name := "take", desc := "(II)V" } : Jvm.MethodName)) ∈ GW := gw_t3 (List.mem_of_getElem? (i := 101) rfl) rfl
theorem gw582 : (Jvm.Cond.selects "SchemaDesk$Text" ({ cls := "SchemaDesk$Text", name := "take", desc := "(II)V" } : Jvm.MethodName) ({ cls := "SchemaDesk$Text", name := "take", desc := "(II)V" } : Jvm.MethodName)) ∈ GW := gw_t3 (List.mem_of_getElem? (i := 102) rfl) rfl
theorem gw583 : (Jvm.Cond.code ({ cls := "SchemaDesk$Text", name := "take", desc := "(II)V" } : Jvm.MethodName) prog_7_method_4_code (3 : Nat) (Option.none : Option Jvm.ClassFile.FieldType)) ∈ GW := gw_t3 (List.mem_of_getElem? (i := 103) rfl) rfl
def wq_Sd_remove (x1 : Int32) (x2 : Int32) (x3 : Int32) (σ : Sg) (post : Sg → Prop) : Prop := (wq_Sd_isText x1 σ (fun r1 σ1 => ((r1 = 0 → False) ∧ (¬ r1 = 0 → ((0 ≤ x3 → (wq_Sd_textOf x1 σ1 (fun r2 σ2 => (r2 = 0 ∨ r2 = 13) ∧ ((x2 < 0 → False) ∧ (¬ x2 < 0 → ((x3 ≤ ((σ2.1 (r2 + 10) 1) - x2) → (wq_Tx_take r2 x2 x3 σ2 (fun σ3 => (wq_Sd_edited x1 σ3 (fun σ4 => post σ4))))) ∧ (¬ x3 ≤ ((σ2.1 (r2 + 10) 1) - x2) → False))))))) ∧ (¬ 0 ≤ x3 → False))))))
set_option maxRecDepth 100000 in
set_option maxHeartbeats 4000000 in
theorem b_Sd_remove_0 {p : Program} {l : Launch} {e : Env} {s : State} {m : MethodId} {args : Array Value} {below : List Frame} {meth : Method} {c : Code} {D : va_G} {g : Gm} {A : Nat → Prop} {post : Sg → Prop} (C : kC p s m args meth c k_Sd_remove 5 (none) GW R_Sd D vwCl g (Zk g) A) (x1 : Int32) (x2 : Int32) (x3 : Int32) (σ : Sg) (H : Heap) (locs : List Loc) (ls : Array Slot) (hl : lv_has ls 5 [(0, .ref (g.1 51)), (1, .int x1), (2, .int x2), (3, .int x3)]) (hst : Wst D vwCl (WS g) A s σ H locs) (h : wq_Sd_remove x1 x2 x3 σ post) : W p l e { frames := 2, cells := 0, slots := 0, locals := 82 } s m args below meth c H locs 0 0 (MQ below (QvW D vwCl (WS g) post A) args s 0 0 A) (F0 m 0 ls []) := by
  obtain ⟨hx, hb, hr, hml, hown, hts, hlocks, hK, hZ, hA⟩ := C
  unfold wq_Sd_remove at h
  refine lv_iload_n hx hb d_Sd_remove_0 rfl (lv_at hl 1 rfl) ?_
  refine kw_calli (va_runS (As := [.int x1]) (rest := []) ⟨hx, hb, hml, hown, hts⟩ (c_Sd_isText l x1 h) (cwS 1 hts (gd_s gw431 gw432 gw1 gw433) rfl rfl rfl (by decide +kernel) ⟨Nat.le_of_ble_eq_true rfl, Nat.le_of_ble_eq_true rfl⟩) ⟨kw_blind (Zk_ok g), kw_pre (Zk_ok g) hK hZ hA hst⟩ rfl rfl hl.1 rfl (lv_room (Nat.le_of_ble_eq_true rfl)) d_Sd_remove_1 ⟨Nat.le_of_ble_eq_true rfl, Nat.le_of_ble_eq_true rfl⟩) hst hA (fun r1 σ1 H locs h hst => ?_)
  refine lv_if_eq (tgt := 11) hx hb d_Sd_remove_4 (by decide) (fun hc => ?_) (fun hc => ?_)
  · replace h := h.1 hc
    exact h.elim
  · replace h := h.2 hc
    refine lv_iload_n hx hb d_Sd_remove_7 rfl (lv_at hl 3 rfl) ?_
    refine lv_if_ge (tgt := 19) hx hb d_Sd_remove_8 (by decide) (fun hc => ?_) (fun hc => ?_)
    · replace h := h.1 hc
      refine lv_aload_n hx hb d_Sd_remove_19 rfl (lv_at hl 0 rfl) ?_
      refine lv_iload_n hx hb d_Sd_remove_20 rfl (lv_at hl 1 rfl) ?_
      refine kw_callr (va_runV (As := [.int x1]) (rest := []) (b := g.1 51) ⟨hx, hb, hml, hown, hts⟩ (c_Sd_textOf l x1 h) (cwV 1 hts (gd_v gw437 gw439 gs0 gw1 gw440) rfl rfl rfl (by decide +kernel) ⟨Nat.le_of_ble_eq_true rfl, Nat.le_of_ble_eq_true rfl⟩) ⟨kw_blind (Zk_ok g), va_recv hK hst.1 rfl (WS_o51 g σ1), kw_pre (Zk_ok g) hK hZ hA hst⟩ rfl rfl hl.1 rfl (lv_room (Nat.le_of_ble_eq_true rfl)) d_Sd_remove_21 ⟨Nat.le_of_ble_eq_true rfl, Nat.le_of_ble_eq_true rfl⟩) hst hA (fun r2 σ2 H locs h hst => ?_)
      obtain ⟨hb1, h⟩ := h
      rcases hb1 with rfl | rfl
      · refine lv_astore hx hb d_Sd_remove_24 hl (by decide) rfl (fun ls hl => ?_)
        have hl : lv_has ls 5 [(4, .ref (g.1 10)), (0, .ref (g.1 51)), (1, .int x1), (2, .int x2), (3, .int x3)] := hl
        refine lv_iload_n hx hb d_Sd_remove_26 rfl (lv_at hl 3 rfl) ?_
        refine lv_if_lt (tgt := 41) hx hb d_Sd_remove_27 (by decide) (fun hc => ?_) (fun hc => ?_)
        · replace h := h.1 hc
          exact h.elim
        · replace h := h.2 hc
          refine lv_iload_n hx hb d_Sd_remove_30 rfl (lv_at hl 4 rfl) ?_
          refine lv_aload hx hb d_Sd_remove_31 (lv_at hl 0 rfl) ?_
          refine va_get (D := D) (ci := 1) (C := R_Tx) (T := T_Tx) (N := 2) hx hb hts in_Tx hown hK hst.1 10 (WS_o10 g σ2) rfl 1 (by decide) (hts _ gw113) (fun _ h9 => h9) rfl d_Sd_remove_33 ?_
          refine lv_iload_n hx hb d_Sd_remove_36 rfl (lv_at hl 3 rfl) ?_
          refine lv_isub hx hb d_Sd_remove_37 ?_
          refine lv_icmp_le (tgt := 49) hx hb d_Sd_remove_38 (by decide) (fun hc => ?_) (fun hc => ?_)
          · replace h := h.1 hc
            refine lv_aload hx hb d_Sd_remove_49 (lv_at hl 0 rfl) ?_
            refine lv_iload_n hx hb d_Sd_remove_51 rfl (lv_at hl 3 rfl) ?_
            refine lv_iload_n hx hb d_Sd_remove_52 rfl (lv_at hl 4 rfl) ?_
            refine kw_callv (va_runV (As := [.int x2, .int x3]) (rest := []) (b := g.1 10) ⟨hx, hb, hml, hown, hts⟩ (c_Tx_take_0 l x2 x3 h) (cwV 2 hts (gd_v gw580 gw581 gw582 gw8 gw583) rfl rfl rfl (by decide +kernel) ⟨Nat.le_of_ble_eq_true rfl, Nat.le_of_ble_eq_true rfl⟩) ⟨kw_blind (Zk_ok g), va_recv hK hst.1 rfl (WS_o10 g σ2), kw_pre (Zk_ok g) hK hZ hA hst⟩ rfl rfl hl.1 rfl (lv_room (Nat.le_of_ble_eq_true rfl)) d_Sd_remove_53 ⟨Nat.le_of_ble_eq_true rfl, Nat.le_of_ble_eq_true rfl⟩) hst hA (fun σ3 H locs h hst => ?_)
            refine lv_aload_n hx hb d_Sd_remove_56 rfl (lv_at hl 1 rfl) ?_
            refine lv_iload_n hx hb d_Sd_remove_57 rfl (lv_at hl 2 rfl) ?_
            refine kw_callv (va_runV (As := [.int x1]) (rest := []) (b := g.1 51) ⟨hx, hb, hml, hown, hts⟩ (c_Sd_edited l x1 h) (cwV 1 hts (gd_v gw452 gw454 gs1 gw1 gw455) rfl rfl rfl (by decide +kernel) ⟨Nat.le_of_ble_eq_true rfl, Nat.le_of_ble_eq_true rfl⟩) ⟨kw_blind (Zk_ok g), va_recv hK hst.1 rfl (WS_o51 g σ3), kw_pre (Zk_ok g) hK hZ hA hst⟩ rfl rfl hl.1 rfl (lv_room (Nat.le_of_ble_eq_true rfl)) d_Sd_remove_58 ⟨Nat.le_of_ble_eq_true rfl, Nat.le_of_ble_eq_true rfl⟩) hst hA (fun σ4 H locs h hst => ?_)
            exact kw_vret hx hb hr hlocks hst h d_Sd_remove_61
          · replace h := h.2 hc
            exact h.elim
      · refine lv_astore hx hb d_Sd_remove_24 hl (by decide) rfl (fun ls hl => ?_)
        have hl : lv_has ls 5 [(4, .ref (g.1 23)), (0, .ref (g.1 51)), (1, .int x1), (2, .int x2), (3, .int x3)] := hl
        refine lv_iload_n hx hb d_Sd_remove_26 rfl (lv_at hl 3 rfl) ?_
        refine lv_if_lt (tgt := 41) hx hb d_Sd_remove_27 (by decide) (fun hc => ?_) (fun hc => ?_)
        · replace h := h.1 hc
          exact h.elim
        · replace h := h.2 hc
          refine lv_iload_n hx hb d_Sd_remove_30 rfl (lv_at hl 4 rfl) ?_
          refine lv_aload hx hb d_Sd_remove_31 (lv_at hl 0 rfl) ?_
          refine va_get (D := D) (ci := 1) (C := R_Tx) (T := T_Tx) (N := 2) hx hb hts in_Tx hown hK hst.1 23 (WS_o23 g σ2) rfl 1 (by decide) (hts _ gw113) (fun _ h9 => h9) rfl d_Sd_remove_33 ?_
          refine lv_iload_n hx hb d_Sd_remove_36 rfl (lv_at hl 3 rfl) ?_
          refine lv_isub hx hb d_Sd_remove_37 ?_
          refine lv_icmp_le (tgt := 49) hx hb d_Sd_remove_38 (by decide) (fun hc => ?_) (fun hc => ?_)
          · replace h := h.1 hc
            refine lv_aload hx hb d_Sd_remove_49 (lv_at hl 0 rfl) ?_
            refine lv_iload_n hx hb d_Sd_remove_51 rfl (lv_at hl 3 rfl) ?_
            refine lv_iload_n hx hb d_Sd_remove_52 rfl (lv_at hl 4 rfl) ?_
            refine kw_callv (va_runV (As := [.int x2, .int x3]) (rest := []) (b := g.1 23) ⟨hx, hb, hml, hown, hts⟩ (c_Tx_take_13 l x2 x3 h) (cwV 2 hts (gd_v gw580 gw581 gw582 gw8 gw583) rfl rfl rfl (by decide +kernel) ⟨Nat.le_of_ble_eq_true rfl, Nat.le_of_ble_eq_true rfl⟩) ⟨kw_blind (Zk_ok g), va_recv hK hst.1 rfl (WS_o23 g σ2), kw_pre (Zk_ok g) hK hZ hA hst⟩ rfl rfl hl.1 rfl (lv_room (Nat.le_of_ble_eq_true rfl)) d_Sd_remove_53 ⟨Nat.le_of_ble_eq_true rfl, Nat.le_of_ble_eq_true rfl⟩) hst hA (fun σ3 H locs h hst => ?_)
            refine lv_aload_n hx hb d_Sd_remove_56 rfl (lv_at hl 1 rfl) ?_
            refine lv_iload_n hx hb d_Sd_remove_57 rfl (lv_at hl 2 rfl) ?_
            refine kw_callv (va_runV (As := [.int x1]) (rest := []) (b := g.1 51) ⟨hx, hb, hml, hown, hts⟩ (c_Sd_edited l x1 h) (cwV 1 hts (gd_v gw452 gw454 gs1 gw1 gw455) rfl rfl rfl (by decide +kernel) ⟨Nat.le_of_ble_eq_true rfl, Nat.le_of_ble_eq_true rfl⟩) ⟨kw_blind (Zk_ok g), va_recv hK hst.1 rfl (WS_o51 g σ3), kw_pre (Zk_ok g) hK hZ hA hst⟩ rfl rfl hl.1 rfl (lv_room (Nat.le_of_ble_eq_true rfl)) d_Sd_remove_58 ⟨Nat.le_of_ble_eq_true rfl, Nat.le_of_ble_eq_true rfl⟩) hst hA (fun σ4 H locs h hst => ?_)
            exact kw_vret hx hb hr hlocks hst h d_Sd_remove_61
          · replace h := h.2 hc
            exact h.elim
    · replace h := h.2 hc
      exact h.elim
set_option maxRecDepth 100000 in
set_option maxHeartbeats 4000000 in
theorem c_Sd_remove (l : Launch) {D : va_G} {g : Gm} {sz : Nat} (x1 : Int32) (x2 : Int32) (x3 : Int32) {σ : Sg} {post : Sg → Prop} (h : wq_Sd_remove x1 x2 x3 σ post) : Met l y_Sd_remove (.code y_Sd_remove k_Sd_remove 5 (none) :: GW) { frames := 2, cells := 0, slots := 0, locals := 82 } (PcW D vwCl (WS g) g (Zk g) σ sz [.ref (g.1 51), .int x1, .int x2, .int x3]) (QvW D vwCl (WS g) post (va_A (WS g σ) sz)) 0 0 (va_A (WS g σ) sz) := by
  refine kw_entry (own := R_Sd) (by decide) rfl rfl (Nat.le_of_ble_eq_true rfl) ?_
  intro p e s m below meth c ls hsz C hin hl hst
  exact b_Sd_remove_0 C x1 x2 x3 σ _ _ ls hl hst h
/-! SchemaDesk.length (I)I -/
abbrev k_Sd_length : ByteArray := prog_1_method_6_code
abbrev y_Sd_length : MethodName := ⟨"SchemaDesk", "length", "(I)I"⟩
theorem d_Sd_length_0 : decode k_Sd_length 0 = .ok (.iload_n 1, 1) := by decide +kernel
theorem d_Sd_length_1 : decode k_Sd_length 1 = .ok (.invokestatic 77, 3) := by decide +kernel
theorem d_Sd_length_4 : decode k_Sd_length 4 = .ok (.ifCond .ne 11, 3) := by decide +kernel
theorem d_Sd_length_7 : decode k_Sd_length 7 = .ok (.new 112, 3) := by decide +kernel
theorem d_Sd_length_10 : decode k_Sd_length 10 = .ok (.dup, 1) := by decide +kernel
theorem d_Sd_length_11 : decode k_Sd_length 11 = .ok (.invokespecial 114, 3) := by decide +kernel
theorem d_Sd_length_14 : decode k_Sd_length 14 = .ok (.athrow, 1) := by decide +kernel
theorem d_Sd_length_15 : decode k_Sd_length 15 = .ok (.aload_n 0, 1) := by decide +kernel
theorem d_Sd_length_16 : decode k_Sd_length 16 = .ok (.iload_n 1, 1) := by decide +kernel
theorem d_Sd_length_17 : decode k_Sd_length 17 = .ok (.invokevirtual 85, 3) := by decide +kernel
theorem d_Sd_length_20 : decode k_Sd_length 20 = .ok (.getfield 93, 3) := by decide +kernel
theorem d_Sd_length_23 : decode k_Sd_length 23 = .ok (.ireturn, 1) := by decide +kernel
def wq_Sd_length (x1 : Int32) (σ : Sg) (post : Int32 → Sg → Prop) : Prop := (wq_Sd_isText x1 σ (fun r1 σ1 => ((¬ r1 = 0 → (wq_Sd_textOf x1 σ1 (fun r2 σ2 => (r2 = 0 ∨ r2 = 13) ∧ post (σ2.1 (r2 + 10) 1) σ2))) ∧ (r1 = 0 → False))))
set_option maxRecDepth 100000 in
set_option maxHeartbeats 4000000 in
theorem b_Sd_length_0 {p : Program} {l : Launch} {e : Env} {s : State} {m : MethodId} {args : Array Value} {below : List Frame} {meth : Method} {c : Code} {D : va_G} {g : Gm} {A : Nat → Prop} {post : Int32 → Sg → Prop} (C : kC p s m args meth c k_Sd_length 2 (some .int) GW R_Sd D vwCl g (Zk g) A) (x1 : Int32) (σ : Sg) (H : Heap) (locs : List Loc) (ls : Array Slot) (hl : lv_has ls 2 [(0, .ref (g.1 51)), (1, .int x1)]) (hst : Wst D vwCl (WS g) A s σ H locs) (h : wq_Sd_length x1 σ post) : W p l e { frames := 1, cells := 0, slots := 0, locals := 21 } s m args below meth c H locs 0 0 (MQ below (QiW D vwCl (WS g) post A) args s 0 0 A) (F0 m 0 ls []) := by
  obtain ⟨hx, hb, hr, hml, hown, hts, hlocks, hK, hZ, hA⟩ := C
  unfold wq_Sd_length at h
  refine lv_iload_n hx hb d_Sd_length_0 rfl (lv_at hl 1 rfl) ?_
  refine kw_calli (va_runS (As := [.int x1]) (rest := []) ⟨hx, hb, hml, hown, hts⟩ (c_Sd_isText l x1 h) (cwS 1 hts (gd_s gw431 gw432 gw1 gw433) rfl rfl rfl (by decide +kernel) ⟨Nat.le_of_ble_eq_true rfl, Nat.le_of_ble_eq_true rfl⟩) ⟨kw_blind (Zk_ok g), kw_pre (Zk_ok g) hK hZ hA hst⟩ rfl rfl hl.1 rfl (lv_room (Nat.le_of_ble_eq_true rfl)) d_Sd_length_1 ⟨Nat.le_of_ble_eq_true rfl, Nat.le_of_ble_eq_true rfl⟩) hst hA (fun r1 σ1 H locs h hst => ?_)
  refine lv_if_ne (tgt := 15) hx hb d_Sd_length_4 (by decide) (fun hc => ?_) (fun hc => ?_)
  · replace h := h.1 hc
    refine lv_aload_n hx hb d_Sd_length_15 rfl (lv_at hl 0 rfl) ?_
    refine lv_iload_n hx hb d_Sd_length_16 rfl (lv_at hl 1 rfl) ?_
    refine kw_callr (va_runV (As := [.int x1]) (rest := []) (b := g.1 51) ⟨hx, hb, hml, hown, hts⟩ (c_Sd_textOf l x1 h) (cwV 1 hts (gd_v gw437 gw439 gs0 gw1 gw440) rfl rfl rfl (by decide +kernel) ⟨Nat.le_of_ble_eq_true rfl, Nat.le_of_ble_eq_true rfl⟩) ⟨kw_blind (Zk_ok g), va_recv hK hst.1 rfl (WS_o51 g σ1), kw_pre (Zk_ok g) hK hZ hA hst⟩ rfl rfl hl.1 rfl (lv_room (Nat.le_of_ble_eq_true rfl)) d_Sd_length_17 ⟨Nat.le_of_ble_eq_true rfl, Nat.le_of_ble_eq_true rfl⟩) hst hA (fun r2 σ2 H locs h hst => ?_)
    obtain ⟨hb1, h⟩ := h
    rcases hb1 with rfl | rfl
    · refine va_get (D := D) (ci := 1) (C := R_Tx) (T := T_Tx) (N := 2) hx hb hts in_Tx hown hK hst.1 10 (WS_o10 g σ2) rfl 1 (by decide) (hts _ gw113) (fun _ h9 => h9) rfl d_Sd_length_20 ?_
      exact kw_iret hx hb hr hlocks hst h d_Sd_length_23
    · refine va_get (D := D) (ci := 1) (C := R_Tx) (T := T_Tx) (N := 2) hx hb hts in_Tx hown hK hst.1 23 (WS_o23 g σ2) rfl 1 (by decide) (hts _ gw113) (fun _ h9 => h9) rfl d_Sd_length_20 ?_
      exact kw_iret hx hb hr hlocks hst h d_Sd_length_23
  · replace h := h.2 hc
    exact h.elim
set_option maxRecDepth 100000 in
set_option maxHeartbeats 4000000 in
theorem c_Sd_length (l : Launch) {D : va_G} {g : Gm} {sz : Nat} (x1 : Int32) {σ : Sg} {post : Int32 → Sg → Prop} (h : wq_Sd_length x1 σ post) : Met l y_Sd_length (.code y_Sd_length k_Sd_length 2 (some .int) :: GW) { frames := 1, cells := 0, slots := 0, locals := 21 } (PcW D vwCl (WS g) g (Zk g) σ sz [.ref (g.1 51), .int x1]) (QiW D vwCl (WS g) post (va_A (WS g σ) sz)) 0 0 (va_A (WS g σ) sz) := by
  refine kw_entry (own := R_Sd) (by decide) rfl rfl (Nat.le_of_ble_eq_true rfl) ?_
  intro p e s m below meth c ls hsz C hin hl hst
  exact b_Sd_length_0 C x1 σ _ _ ls hl hst h
/-! SchemaDesk.letter (II)C -/
abbrev k_Sd_letter : ByteArray := prog_1_method_7_code
abbrev y_Sd_letter : MethodName := ⟨"SchemaDesk", "letter", "(II)C"⟩
theorem d_Sd_letter_0 : decode k_Sd_letter 0 = .ok (.iload_n 1, 1) := by decide +kernel
theorem d_Sd_letter_1 : decode k_Sd_letter 1 = .ok (.invokestatic 77, 3) := by decide +kernel
theorem d_Sd_letter_4 : decode k_Sd_letter 4 = .ok (.ifCond .ne 11, 3) := by decide +kernel
theorem d_Sd_letter_7 : decode k_Sd_letter 7 = .ok (.new 112, 3) := by decide +kernel
theorem d_Sd_letter_10 : decode k_Sd_letter 10 = .ok (.dup, 1) := by decide +kernel
theorem d_Sd_letter_11 : decode k_Sd_letter 11 = .ok (.invokespecial 114, 3) := by decide +kernel
theorem d_Sd_letter_14 : decode k_Sd_letter 14 = .ok (.athrow, 1) := by decide +kernel
theorem d_Sd_letter_15 : decode k_Sd_letter 15 = .ok (.aload_n 0, 1) := by decide +kernel
theorem d_Sd_letter_16 : decode k_Sd_letter 16 = .ok (.iload_n 1, 1) := by decide +kernel
theorem d_Sd_letter_17 : decode k_Sd_letter 17 = .ok (.invokevirtual 85, 3) := by decide +kernel
theorem d_Sd_letter_20 : decode k_Sd_letter 20 = .ok (.astore_n 3, 1) := by decide +kernel
theorem d_Sd_letter_21 : decode k_Sd_letter 21 = .ok (.iload_n 2, 1) := by decide +kernel
theorem d_Sd_letter_22 : decode k_Sd_letter 22 = .ok (.ifCond .lt 11, 3) := by decide +kernel
theorem d_Sd_letter_25 : decode k_Sd_letter 25 = .ok (.iload_n 2, 1) := by decide +kernel
theorem d_Sd_letter_26 : decode k_Sd_letter 26 = .ok (.aload_n 3, 1) := by decide +kernel
theorem d_Sd_letter_27 : decode k_Sd_letter 27 = .ok (.getfield 93, 3) := by decide +kernel
theorem d_Sd_letter_30 : decode k_Sd_letter 30 = .ok (.if_icmp .lt 11, 3) := by decide +kernel
theorem d_Sd_letter_33 : decode k_Sd_letter 33 = .ok (.new 115, 3) := by decide +kernel
theorem d_Sd_letter_36 : decode k_Sd_letter 36 = .ok (.dup, 1) := by decide +kernel
theorem d_Sd_letter_37 : decode k_Sd_letter 37 = .ok (.invokespecial 117, 3) := by decide +kernel
theorem d_Sd_letter_40 : decode k_Sd_letter 40 = .ok (.athrow, 1) := by decide +kernel
theorem d_Sd_letter_41 : decode k_Sd_letter 41 = .ok (.aload_n 3, 1) := by decide +kernel
theorem d_Sd_letter_42 : decode k_Sd_letter 42 = .ok (.getfield 125, 3) := by decide +kernel
theorem d_Sd_letter_45 : decode k_Sd_letter 45 = .ok (.iload_n 2, 1) := by decide +kernel
theorem d_Sd_letter_46 : decode k_Sd_letter 46 = .ok (.caload, 1) := by decide +kernel
theorem d_Sd_letter_47 : decode k_Sd_letter 47 = .ok (.ireturn, 1) := by decide +kernel
theorem gw110 : (Jvm.Cond.fieldLink "SchemaDesk" (125 : Nat) "SchemaDesk$Text" "letters" "[C") ∈ GW := gw_t1 (List.mem_of_getElem? (i := 110) rfl) rfl
def wq_Sd_letter (x1 : Int32) (x2 : Int32) (σ : Sg) (post : Int32 → Sg → Prop) : Prop := (wq_Sd_isText x1 σ (fun r1 σ1 => ((¬ r1 = 0 → (wq_Sd_textOf x1 σ1 (fun r2 σ2 => (r2 = 0 ∨ r2 = 13) ∧ ((x2 < 0 → False) ∧ (¬ x2 < 0 → ((x2 < (σ2.1 (r2 + 10) 1) → (vp_in x2 (tl r2) ∧ (narrow .char (.int (σ2.1 (r2 + 11) x2.toNatClampNeg)) = .int (σ2.1 (r2 + 11) x2.toNatClampNeg) ∧ post (σ2.1 (r2 + 11) x2.toNatClampNeg) σ2))) ∧ (¬ x2 < (σ2.1 (r2 + 10) 1) → False))))))) ∧ (r1 = 0 → False))))
set_option maxRecDepth 100000 in
set_option maxHeartbeats 4000000 in
theorem b_Sd_letter_0 {p : Program} {l : Launch} {e : Env} {s : State} {m : MethodId} {args : Array Value} {below : List Frame} {meth : Method} {c : Code} {D : va_G} {g : Gm} {A : Nat → Prop} {post : Int32 → Sg → Prop} (C : kC p s m args meth c k_Sd_letter 4 (some .char) GW R_Sd D vwCl g (Zk g) A) (x1 : Int32) (x2 : Int32) (σ : Sg) (H : Heap) (locs : List Loc) (ls : Array Slot) (hl : lv_has ls 4 [(0, .ref (g.1 51)), (1, .int x1), (2, .int x2)]) (hst : Wst D vwCl (WS g) A s σ H locs) (h : wq_Sd_letter x1 x2 σ post) : W p l e { frames := 1, cells := 0, slots := 0, locals := 21 } s m args below meth c H locs 0 0 (MQ below (QiW D vwCl (WS g) post A) args s 0 0 A) (F0 m 0 ls []) := by
  obtain ⟨hx, hb, hr, hml, hown, hts, hlocks, hK, hZ, hA⟩ := C
  unfold wq_Sd_letter at h
  refine lv_iload_n hx hb d_Sd_letter_0 rfl (lv_at hl 1 rfl) ?_
  refine kw_calli (va_runS (As := [.int x1]) (rest := []) ⟨hx, hb, hml, hown, hts⟩ (c_Sd_isText l x1 h) (cwS 1 hts (gd_s gw431 gw432 gw1 gw433) rfl rfl rfl (by decide +kernel) ⟨Nat.le_of_ble_eq_true rfl, Nat.le_of_ble_eq_true rfl⟩) ⟨kw_blind (Zk_ok g), kw_pre (Zk_ok g) hK hZ hA hst⟩ rfl rfl hl.1 rfl (lv_room (Nat.le_of_ble_eq_true rfl)) d_Sd_letter_1 ⟨Nat.le_of_ble_eq_true rfl, Nat.le_of_ble_eq_true rfl⟩) hst hA (fun r1 σ1 H locs h hst => ?_)
  refine lv_if_ne (tgt := 15) hx hb d_Sd_letter_4 (by decide) (fun hc => ?_) (fun hc => ?_)
  · replace h := h.1 hc
    refine lv_aload_n hx hb d_Sd_letter_15 rfl (lv_at hl 0 rfl) ?_
    refine lv_iload_n hx hb d_Sd_letter_16 rfl (lv_at hl 1 rfl) ?_
    refine kw_callr (va_runV (As := [.int x1]) (rest := []) (b := g.1 51) ⟨hx, hb, hml, hown, hts⟩ (c_Sd_textOf l x1 h) (cwV 1 hts (gd_v gw437 gw439 gs0 gw1 gw440) rfl rfl rfl (by decide +kernel) ⟨Nat.le_of_ble_eq_true rfl, Nat.le_of_ble_eq_true rfl⟩) ⟨kw_blind (Zk_ok g), va_recv hK hst.1 rfl (WS_o51 g σ1), kw_pre (Zk_ok g) hK hZ hA hst⟩ rfl rfl hl.1 rfl (lv_room (Nat.le_of_ble_eq_true rfl)) d_Sd_letter_17 ⟨Nat.le_of_ble_eq_true rfl, Nat.le_of_ble_eq_true rfl⟩) hst hA (fun r2 σ2 H locs h hst => ?_)
    obtain ⟨hb1, h⟩ := h
    rcases hb1 with rfl | rfl
    · refine lv_astore_n hx hb d_Sd_letter_20 rfl hl (by decide) rfl (fun ls hl => ?_)
      have hl : lv_has ls 4 [(3, .ref (g.1 10)), (0, .ref (g.1 51)), (1, .int x1), (2, .int x2)] := hl
      refine lv_iload_n hx hb d_Sd_letter_21 rfl (lv_at hl 3 rfl) ?_
      refine lv_if_lt (tgt := 33) hx hb d_Sd_letter_22 (by decide) (fun hc => ?_) (fun hc => ?_)
      · replace h := h.1 hc
        exact h.elim
      · replace h := h.2 hc
        refine lv_iload_n hx hb d_Sd_letter_25 rfl (lv_at hl 3 rfl) ?_
        refine lv_aload_n hx hb d_Sd_letter_26 rfl (lv_at hl 0 rfl) ?_
        refine va_get (D := D) (ci := 1) (C := R_Tx) (T := T_Tx) (N := 2) hx hb hts in_Tx hown hK hst.1 10 (WS_o10 g σ2) rfl 1 (by decide) (hts _ gw113) (fun _ h9 => h9) rfl d_Sd_letter_27 ?_
        refine lv_icmp_lt (tgt := 41) hx hb d_Sd_letter_30 (by decide) (fun hc => ?_) (fun hc => ?_)
        · replace h := h.1 hc
          refine lv_aload_n hx hb d_Sd_letter_41 rfl (lv_at hl 0 rfl) ?_
          refine va_get (D := D) (ci := 1) (C := R_Tx) (T := T_Tx) (N := 2) hx hb hts in_Tx hown hK hst.1 10 (WS_o10 g σ2) rfl 0 (by decide) (hts _ gw110) (fun _ h9 => h9) rfl d_Sd_letter_42 ?_
          refine lv_iload_n hx hb d_Sd_letter_45 rfl (lv_at hl 3 rfl) ?_
          obtain ⟨hi, h⟩ := h
          refine va_cald hx hb hK hst.1 11 1 (WS_a11 g σ2) rfl hi d_Sd_letter_46 ?_
          exact kw_zret hx hb hr hlocks hst h d_Sd_letter_47
        · replace h := h.2 hc
          exact h.elim
    · refine lv_astore_n hx hb d_Sd_letter_20 rfl hl (by decide) rfl (fun ls hl => ?_)
      have hl : lv_has ls 4 [(3, .ref (g.1 23)), (0, .ref (g.1 51)), (1, .int x1), (2, .int x2)] := hl
      refine lv_iload_n hx hb d_Sd_letter_21 rfl (lv_at hl 3 rfl) ?_
      refine lv_if_lt (tgt := 33) hx hb d_Sd_letter_22 (by decide) (fun hc => ?_) (fun hc => ?_)
      · replace h := h.1 hc
        exact h.elim
      · replace h := h.2 hc
        refine lv_iload_n hx hb d_Sd_letter_25 rfl (lv_at hl 3 rfl) ?_
        refine lv_aload_n hx hb d_Sd_letter_26 rfl (lv_at hl 0 rfl) ?_
        refine va_get (D := D) (ci := 1) (C := R_Tx) (T := T_Tx) (N := 2) hx hb hts in_Tx hown hK hst.1 23 (WS_o23 g σ2) rfl 1 (by decide) (hts _ gw113) (fun _ h9 => h9) rfl d_Sd_letter_27 ?_
        refine lv_icmp_lt (tgt := 41) hx hb d_Sd_letter_30 (by decide) (fun hc => ?_) (fun hc => ?_)
        · replace h := h.1 hc
          refine lv_aload_n hx hb d_Sd_letter_41 rfl (lv_at hl 0 rfl) ?_
          refine va_get (D := D) (ci := 1) (C := R_Tx) (T := T_Tx) (N := 2) hx hb hts in_Tx hown hK hst.1 23 (WS_o23 g σ2) rfl 0 (by decide) (hts _ gw110) (fun _ h9 => h9) rfl d_Sd_letter_42 ?_
          refine lv_iload_n hx hb d_Sd_letter_45 rfl (lv_at hl 3 rfl) ?_
          obtain ⟨hi, h⟩ := h
          refine va_cald hx hb hK hst.1 24 1 (WS_a24 g σ2) rfl hi d_Sd_letter_46 ?_
          exact kw_zret hx hb hr hlocks hst h d_Sd_letter_47
        · replace h := h.2 hc
          exact h.elim
  · replace h := h.2 hc
    exact h.elim
set_option maxRecDepth 100000 in
set_option maxHeartbeats 4000000 in
theorem c_Sd_letter (l : Launch) {D : va_G} {g : Gm} {sz : Nat} (x1 : Int32) (x2 : Int32) {σ : Sg} {post : Int32 → Sg → Prop} (h : wq_Sd_letter x1 x2 σ post) : Met l y_Sd_letter (.code y_Sd_letter k_Sd_letter 4 (some .char) :: GW) { frames := 1, cells := 0, slots := 0, locals := 21 } (PcW D vwCl (WS g) g (Zk g) σ sz [.ref (g.1 51), .int x1, .int x2]) (QiW D vwCl (WS g) post (va_A (WS g σ) sz)) 0 0 (va_A (WS g σ) sz) := by
  refine kw_entry (own := R_Sd) (by decide) rfl rfl (Nat.le_of_ble_eq_true rfl) ?_
  intro p e s m below meth c ls hsz C hin hl hst
  exact b_Sd_letter_0 C x1 x2 σ _ _ ls hl hst h
/-! SchemaDesk.nodes (I)I -/
abbrev k_Sd_nodes : ByteArray := prog_1_method_8_code
abbrev y_Sd_nodes : MethodName := ⟨"SchemaDesk", "nodes", "(I)I"⟩
theorem d_Sd_nodes_0 : decode k_Sd_nodes 0 = .ok (.iload_n 1, 1) := by decide +kernel
theorem d_Sd_nodes_1 : decode k_Sd_nodes 1 = .ok (.invokestatic 77, 3) := by decide +kernel
theorem d_Sd_nodes_4 : decode k_Sd_nodes 4 = .ok (.ifCond .ne 11, 3) := by decide +kernel
theorem d_Sd_nodes_7 : decode k_Sd_nodes 7 = .ok (.new 112, 3) := by decide +kernel
theorem d_Sd_nodes_10 : decode k_Sd_nodes 10 = .ok (.dup, 1) := by decide +kernel
theorem d_Sd_nodes_11 : decode k_Sd_nodes 11 = .ok (.invokespecial 114, 3) := by decide +kernel
theorem d_Sd_nodes_14 : decode k_Sd_nodes 14 = .ok (.athrow, 1) := by decide +kernel
theorem d_Sd_nodes_15 : decode k_Sd_nodes 15 = .ok (.aload_n 0, 1) := by decide +kernel
theorem d_Sd_nodes_16 : decode k_Sd_nodes 16 = .ok (.iload_n 1, 1) := by decide +kernel
theorem d_Sd_nodes_17 : decode k_Sd_nodes 17 = .ok (.invokevirtual 129, 3) := by decide +kernel
theorem d_Sd_nodes_20 : decode k_Sd_nodes 20 = .ok (.getfield 133, 3) := by decide +kernel
theorem d_Sd_nodes_23 : decode k_Sd_nodes 23 = .ok (.ireturn, 1) := by decide +kernel
theorem gw605 : (Jvm.Cond.methodLink "SchemaDesk" (129 : Nat) ({ cls := "SchemaDesk", name := "readTree", desc := "(I)LSchemaDesk$Tree;" } : Jvm.MethodName)) ∈ GW := gw_t3 (List.mem_of_getElem? (i := 125) rfl) rfl
theorem gw607 : (Jvm.Cond.instanceMethod ({ cls := "SchemaDesk", name := "readTree", desc := "(I)LSchemaDesk$Tree;" } : Jvm.MethodName)) ∈ GW := gw_t3 (List.mem_of_getElem? (i := 127) rfl) rfl
theorem gs3 : Cond.selects "SchemaDesk" ⟨"SchemaDesk", "readTree", "(I)LSchemaDesk$Tree;"⟩ ⟨"SchemaDesk", "readTree", "(I)LSchemaDesk$Tree;"⟩ ∈ GW := gw_p1 (q := (⟨"SchemaDesk", "readTree", "(I)LSchemaDesk$Tree;"⟩, 9)) (List.mem_of_getElem? (i := 3) rfl)
theorem gw608 : (Jvm.Cond.code ({ cls := "SchemaDesk", name := "readTree", desc := "(I)LSchemaDesk$Tree;" } : Jvm.MethodName) prog_1_method_20_code (3 : Nat) (Option.some (Jvm.ClassFile.FieldType.object "SchemaDesk$Tree"))) ∈ GW := gw_t3 (List.mem_of_getElem? (i := 128) rfl) rfl
theorem gw172 : (Jvm.Cond.fieldLink "SchemaDesk" (133 : Nat) "SchemaDesk$Tree" "size" "I") ∈ GW := gw_t1 (List.mem_of_getElem? (i := 172) rfl) rfl
def wq_Sd_nodes (x1 : Int32) (σ : Sg) (post : Int32 → Sg → Prop) : Prop := (wq_Sd_isText x1 σ (fun r1 σ1 => ((¬ r1 = 0 → (wq_Sd_readTree x1 σ1 (fun r2 σ2 => (r2 = 0 ∨ r2 = 13) ∧ post (σ2.1 r2 9) σ2))) ∧ (r1 = 0 → False))))
set_option maxRecDepth 100000 in
set_option maxHeartbeats 4000000 in
theorem b_Sd_nodes_0 {p : Program} {l : Launch} {e : Env} {s : State} {m : MethodId} {args : Array Value} {below : List Frame} {meth : Method} {c : Code} {D : va_G} {g : Gm} {A : Nat → Prop} {post : Int32 → Sg → Prop} (C : kC p s m args meth c k_Sd_nodes 2 (some .int) GW R_Sd D vwCl g (Zk g) A) (x1 : Int32) (σ : Sg) (H : Heap) (locs : List Loc) (ls : Array Slot) (hl : lv_has ls 2 [(0, .ref (g.1 51)), (1, .int x1)]) (hst : Wst D vwCl (WS g) A s σ H locs) (h : wq_Sd_nodes x1 σ post) : W p l e { frames := 37, cells := 0, slots := 0, locals := 928 } s m args below meth c H locs 0 0 (MQ below (QiW D vwCl (WS g) post A) args s 0 0 A) (F0 m 0 ls []) := by
  obtain ⟨hx, hb, hr, hml, hown, hts, hlocks, hK, hZ, hA⟩ := C
  unfold wq_Sd_nodes at h
  refine lv_iload_n hx hb d_Sd_nodes_0 rfl (lv_at hl 1 rfl) ?_
  refine kw_calli (va_runS (As := [.int x1]) (rest := []) ⟨hx, hb, hml, hown, hts⟩ (c_Sd_isText l x1 h) (cwS 1 hts (gd_s gw431 gw432 gw1 gw433) rfl rfl rfl (by decide +kernel) ⟨Nat.le_of_ble_eq_true rfl, Nat.le_of_ble_eq_true rfl⟩) ⟨kw_blind (Zk_ok g), kw_pre (Zk_ok g) hK hZ hA hst⟩ rfl rfl hl.1 rfl (lv_room (Nat.le_of_ble_eq_true rfl)) d_Sd_nodes_1 ⟨Nat.le_of_ble_eq_true rfl, Nat.le_of_ble_eq_true rfl⟩) hst hA (fun r1 σ1 H locs h hst => ?_)
  refine lv_if_ne (tgt := 15) hx hb d_Sd_nodes_4 (by decide) (fun hc => ?_) (fun hc => ?_)
  · replace h := h.1 hc
    refine lv_aload_n hx hb d_Sd_nodes_15 rfl (lv_at hl 0 rfl) ?_
    refine lv_iload_n hx hb d_Sd_nodes_16 rfl (lv_at hl 1 rfl) ?_
    refine kw_callr (va_runV (As := [.int x1]) (rest := []) (b := g.1 51) ⟨hx, hb, hml, hown, hts⟩ (c_Sd_readTree l x1 h) (cwV 1 hts (gd_v gw605 gw607 gs3 gw1 gw608) rfl rfl rfl (by decide +kernel) ⟨Nat.le_of_ble_eq_true rfl, Nat.le_of_ble_eq_true rfl⟩) ⟨kw_blind (Zk_ok g), va_recv hK hst.1 rfl (WS_o51 g σ1), kw_pre (Zk_ok g) hK hZ hA hst⟩ rfl rfl hl.1 rfl (lv_room (Nat.le_of_ble_eq_true rfl)) d_Sd_nodes_17 ⟨Nat.le_of_ble_eq_true rfl, Nat.le_of_ble_eq_true rfl⟩) hst hA (fun r2 σ2 H locs h hst => ?_)
    obtain ⟨hb1, h⟩ := h
    rcases hb1 with rfl | rfl
    · refine va_get (D := D) (ci := 0) (C := R_Tr) (T := T_Tr) (N := 12) hx hb hts in_Tr hown hK hst.1 0 (WS_o0 g σ2) rfl 9 (by decide) (hts _ gw172) (fun _ h9 => h9) rfl d_Sd_nodes_20 ?_
      exact kw_iret hx hb hr hlocks hst h d_Sd_nodes_23
    · refine va_get (D := D) (ci := 0) (C := R_Tr) (T := T_Tr) (N := 12) hx hb hts in_Tr hown hK hst.1 13 (WS_o13 g σ2) rfl 9 (by decide) (hts _ gw172) (fun _ h9 => h9) rfl d_Sd_nodes_20 ?_
      exact kw_iret hx hb hr hlocks hst h d_Sd_nodes_23
  · replace h := h.2 hc
    exact h.elim
set_option maxRecDepth 100000 in
set_option maxHeartbeats 4000000 in
theorem c_Sd_nodes (l : Launch) {D : va_G} {g : Gm} {sz : Nat} (x1 : Int32) {σ : Sg} {post : Int32 → Sg → Prop} (h : wq_Sd_nodes x1 σ post) : Met l y_Sd_nodes (.code y_Sd_nodes k_Sd_nodes 2 (some .int) :: GW) { frames := 37, cells := 0, slots := 0, locals := 928 } (PcW D vwCl (WS g) g (Zk g) σ sz [.ref (g.1 51), .int x1]) (QiW D vwCl (WS g) post (va_A (WS g σ) sz)) 0 0 (va_A (WS g σ) sz) := by
  refine kw_entry (own := R_Sd) (by decide) rfl rfl (Nat.le_of_ble_eq_true rfl) ?_
  intro p e s m below meth c ls hsz C hin hl hst
  exact b_Sd_nodes_0 C x1 σ _ _ ls hl hst h
/-! SchemaDesk.node (III)I -/
abbrev k_Sd_node : ByteArray := prog_1_method_9_code
abbrev y_Sd_node : MethodName := ⟨"SchemaDesk", "node", "(III)I"⟩
theorem d_Sd_node_0 : decode k_Sd_node 0 = .ok (.iload_n 1, 1) := by decide +kernel
theorem d_Sd_node_1 : decode k_Sd_node 1 = .ok (.invokestatic 77, 3) := by decide +kernel
theorem d_Sd_node_4 : decode k_Sd_node 4 = .ok (.ifCond .eq 13, 3) := by decide +kernel
theorem d_Sd_node_7 : decode k_Sd_node 7 = .ok (.iload_n 3, 1) := by decide +kernel
theorem d_Sd_node_8 : decode k_Sd_node 8 = .ok (.ifCond .lt 9, 3) := by decide +kernel
theorem d_Sd_node_11 : decode k_Sd_node 11 = .ok (.iload_n 3, 1) := by decide +kernel
theorem d_Sd_node_12 : decode k_Sd_node 12 = .ok (.bipush 6, 2) := by decide +kernel
theorem d_Sd_node_14 : decode k_Sd_node 14 = .ok (.if_icmp .le 11, 3) := by decide +kernel
theorem d_Sd_node_17 : decode k_Sd_node 17 = .ok (.new 112, 3) := by decide +kernel
theorem d_Sd_node_20 : decode k_Sd_node 20 = .ok (.dup, 1) := by decide +kernel
theorem d_Sd_node_21 : decode k_Sd_node 21 = .ok (.invokespecial 114, 3) := by decide +kernel
theorem d_Sd_node_24 : decode k_Sd_node 24 = .ok (.athrow, 1) := by decide +kernel
theorem d_Sd_node_25 : decode k_Sd_node 25 = .ok (.aload_n 0, 1) := by decide +kernel
theorem d_Sd_node_26 : decode k_Sd_node 26 = .ok (.iload_n 1, 1) := by decide +kernel
theorem d_Sd_node_27 : decode k_Sd_node 27 = .ok (.invokevirtual 129, 3) := by decide +kernel
theorem d_Sd_node_30 : decode k_Sd_node 30 = .ok (.astore 4, 2) := by decide +kernel
theorem d_Sd_node_32 : decode k_Sd_node 32 = .ok (.aload 4, 2) := by decide +kernel
theorem d_Sd_node_34 : decode k_Sd_node 34 = .ok (.iload_n 2, 1) := by decide +kernel
theorem d_Sd_node_35 : decode k_Sd_node 35 = .ok (.invokevirtual 134, 3) := by decide +kernel
theorem d_Sd_node_38 : decode k_Sd_node 38 = .ok (.ifCond .ne 11, 3) := by decide +kernel
theorem d_Sd_node_41 : decode k_Sd_node 41 = .ok (.new 137, 3) := by decide +kernel
theorem d_Sd_node_44 : decode k_Sd_node 44 = .ok (.dup, 1) := by decide +kernel
theorem d_Sd_node_45 : decode k_Sd_node 45 = .ok (.invokespecial 139, 3) := by decide +kernel
theorem d_Sd_node_48 : decode k_Sd_node 48 = .ok (.athrow, 1) := by decide +kernel
theorem d_Sd_node_49 : decode k_Sd_node 49 = .ok (.iload_n 3, 1) := by decide +kernel
theorem d_Sd_node_50 : decode k_Sd_node 50 = .ok (.tableswitch 86 0 5 #[38, 46, 54, 62, 70, 78], 38) := by decide +kernel
theorem d_Sd_node_88 : decode k_Sd_node 88 = .ok (.aload 4, 2) := by decide +kernel
theorem d_Sd_node_90 : decode k_Sd_node 90 = .ok (.getfield 140, 3) := by decide +kernel
theorem d_Sd_node_93 : decode k_Sd_node 93 = .ok (.iload_n 2, 1) := by decide +kernel
theorem d_Sd_node_94 : decode k_Sd_node 94 = .ok (.iaload, 1) := by decide +kernel
theorem d_Sd_node_95 : decode k_Sd_node 95 = .ok (.ireturn, 1) := by decide +kernel
theorem d_Sd_node_96 : decode k_Sd_node 96 = .ok (.aload 4, 2) := by decide +kernel
theorem d_Sd_node_98 : decode k_Sd_node 98 = .ok (.getfield 144, 3) := by decide +kernel
theorem d_Sd_node_101 : decode k_Sd_node 101 = .ok (.iload_n 2, 1) := by decide +kernel
theorem d_Sd_node_102 : decode k_Sd_node 102 = .ok (.iaload, 1) := by decide +kernel
theorem d_Sd_node_103 : decode k_Sd_node 103 = .ok (.ireturn, 1) := by decide +kernel
theorem d_Sd_node_104 : decode k_Sd_node 104 = .ok (.aload 4, 2) := by decide +kernel
theorem d_Sd_node_106 : decode k_Sd_node 106 = .ok (.getfield 147, 3) := by decide +kernel
theorem d_Sd_node_109 : decode k_Sd_node 109 = .ok (.iload_n 2, 1) := by decide +kernel
theorem d_Sd_node_110 : decode k_Sd_node 110 = .ok (.iaload, 1) := by decide +kernel
theorem d_Sd_node_111 : decode k_Sd_node 111 = .ok (.ireturn, 1) := by decide +kernel
theorem d_Sd_node_112 : decode k_Sd_node 112 = .ok (.aload 4, 2) := by decide +kernel
theorem d_Sd_node_114 : decode k_Sd_node 114 = .ok (.getfield 150, 3) := by decide +kernel
theorem d_Sd_node_117 : decode k_Sd_node 117 = .ok (.iload_n 2, 1) := by decide +kernel
theorem d_Sd_node_118 : decode k_Sd_node 118 = .ok (.iaload, 1) := by decide +kernel
theorem d_Sd_node_119 : decode k_Sd_node 119 = .ok (.ireturn, 1) := by decide +kernel
theorem d_Sd_node_120 : decode k_Sd_node 120 = .ok (.aload 4, 2) := by decide +kernel
theorem d_Sd_node_122 : decode k_Sd_node 122 = .ok (.getfield 153, 3) := by decide +kernel
theorem d_Sd_node_125 : decode k_Sd_node 125 = .ok (.iload_n 2, 1) := by decide +kernel
theorem d_Sd_node_126 : decode k_Sd_node 126 = .ok (.iaload, 1) := by decide +kernel
theorem d_Sd_node_127 : decode k_Sd_node 127 = .ok (.ireturn, 1) := by decide +kernel
theorem d_Sd_node_128 : decode k_Sd_node 128 = .ok (.aload 4, 2) := by decide +kernel
theorem d_Sd_node_130 : decode k_Sd_node 130 = .ok (.getfield 156, 3) := by decide +kernel
theorem d_Sd_node_133 : decode k_Sd_node 133 = .ok (.iload_n 2, 1) := by decide +kernel
theorem d_Sd_node_134 : decode k_Sd_node 134 = .ok (.iaload, 1) := by decide +kernel
theorem d_Sd_node_135 : decode k_Sd_node 135 = .ok (.ireturn, 1) := by decide +kernel
theorem d_Sd_node_136 : decode k_Sd_node 136 = .ok (.aload 4, 2) := by decide +kernel
theorem d_Sd_node_138 : decode k_Sd_node 138 = .ok (.getfield 159, 3) := by decide +kernel
theorem d_Sd_node_141 : decode k_Sd_node 141 = .ok (.iload_n 2, 1) := by decide +kernel
theorem d_Sd_node_142 : decode k_Sd_node 142 = .ok (.iaload, 1) := by decide +kernel
theorem d_Sd_node_143 : decode k_Sd_node 143 = .ok (.ireturn, 1) := by decide +kernel
theorem gw701 : (Jvm.Cond.methodLink "SchemaDesk" (134 : Nat) ({ cls := "SchemaDesk$Tree", name := "has", desc := "(I)Z" } : Jvm.MethodName)) ∈ GW := gw_t3 (List.mem_of_getElem? (i := 221) rfl) rfl
theorem gw702 : (Jvm.Cond.instanceMethod ({ cls := "SchemaDesk$Tree", name := "has", desc := "(I)Z" } : Jvm.MethodName)) ∈ GW := gw_t3 (List.mem_of_getElem? (i := 222) rfl) rfl
theorem gw703 : (Jvm.Cond.selects "SchemaDesk$Tree" ({ cls := "SchemaDesk$Tree", name := "has", desc := "(I)Z" } : Jvm.MethodName) ({ cls := "SchemaDesk$Tree", name := "has", desc := "(I)Z" } : Jvm.MethodName)) ∈ GW := gw_t3 (List.mem_of_getElem? (i := 223) rfl) rfl
theorem gw704 : (Jvm.Cond.code ({ cls := "SchemaDesk$Tree", name := "has", desc := "(I)Z" } : Jvm.MethodName) prog_8_method_3_code (2 : Nat) (Option.some Jvm.ClassFile.FieldType.boolean)) ∈ GW := gw_t3 (List.mem_of_getElem? (i := 224) rfl) rfl
theorem gw136 : (Jvm.Cond.fieldLink "SchemaDesk" (140 : Nat) "SchemaDesk$Tree" "kind" "[I") ∈ GW := gw_t1 (List.mem_of_getElem? (i := 136) rfl) rfl
theorem gw141 : (Jvm.Cond.fieldLink "SchemaDesk" (144 : Nat) "SchemaDesk$Tree" "from" "[I") ∈ GW := gw_t1 (List.mem_of_getElem? (i := 141) rfl) rfl
theorem gw144 : (Jvm.Cond.fieldLink "SchemaDesk" (147 : Nat) "SchemaDesk$Tree" "to" "[I") ∈ GW := gw_t1 (List.mem_of_getElem? (i := 144) rfl) rfl
theorem gw147 : (Jvm.Cond.fieldLink "SchemaDesk" (150 : Nat) "SchemaDesk$Tree" "parent" "[I") ∈ GW := gw_t1 (List.mem_of_getElem? (i := 147) rfl) rfl
theorem gw153 : (Jvm.Cond.fieldLink "SchemaDesk" (153 : Nat) "SchemaDesk$Tree" "children" "[I") ∈ GW := gw_t1 (List.mem_of_getElem? (i := 153) rfl) rfl
theorem gw157 : (Jvm.Cond.fieldLink "SchemaDesk" (156 : Nat) "SchemaDesk$Tree" "name" "[I") ∈ GW := gw_t1 (List.mem_of_getElem? (i := 157) rfl) rfl
theorem gw160 : (Jvm.Cond.fieldLink "SchemaDesk" (159 : Nat) "SchemaDesk$Tree" "number" "[I") ∈ GW := gw_t1 (List.mem_of_getElem? (i := 160) rfl) rfl
def wq_Sd_node (x1 : Int32) (x2 : Int32) (x3 : Int32) (σ : Sg) (post : Int32 → Sg → Prop) : Prop := (wq_Sd_isText x1 σ (fun r1 σ1 => ((r1 = 0 → False) ∧ (¬ r1 = 0 → ((x3 < 0 → False) ∧ (¬ x3 < 0 → ((x3 ≤ (6 : Int32) → (wq_Sd_readTree x1 σ1 (fun r2 σ2 => (r2 = 0 ∨ r2 = 13) ∧ (wq_Tr_has r2 x2 σ2 (fun r3 σ3 => ((¬ r3 = 0 → ((x3 = 0 → (vp_in x2 (tl r2) ∧ post (σ3.1 (r2 + 1) x2.toNatClampNeg) σ3)) ∧ (x3 = 1 → (vp_in x2 (tl r2) ∧ post (σ3.1 (r2 + 2) x2.toNatClampNeg) σ3)) ∧ (x3 = 2 → (vp_in x2 (tl r2) ∧ post (σ3.1 (r2 + 3) x2.toNatClampNeg) σ3)) ∧ (x3 = 3 → (vp_in x2 (tl r2) ∧ post (σ3.1 (r2 + 4) x2.toNatClampNeg) σ3)) ∧ (x3 = 4 → (vp_in x2 (tl r2) ∧ post (σ3.1 (r2 + 5) x2.toNatClampNeg) σ3)) ∧ (x3 = 5 → (vp_in x2 (tl r2) ∧ post (σ3.1 (r2 + 6) x2.toNatClampNeg) σ3)) ∧ ((¬ x3 = 0 ∧ ¬ x3 = 1 ∧ ¬ x3 = 2 ∧ ¬ x3 = 3 ∧ ¬ x3 = 4 ∧ ¬ x3 = 5) → (vp_in x2 (tl r2) ∧ post (σ3.1 (r2 + 7) x2.toNatClampNeg) σ3)))) ∧ (r3 = 0 → False))))))) ∧ (¬ x3 ≤ (6 : Int32) → False))))))))
set_option maxRecDepth 100000 in
set_option maxHeartbeats 4000000 in
theorem b_Sd_node_0 {p : Program} {l : Launch} {e : Env} {s : State} {m : MethodId} {args : Array Value} {below : List Frame} {meth : Method} {c : Code} {D : va_G} {g : Gm} {A : Nat → Prop} {post : Int32 → Sg → Prop} (C : kC p s m args meth c k_Sd_node 5 (some .int) GW R_Sd D vwCl g (Zk g) A) (x1 : Int32) (x2 : Int32) (x3 : Int32) (σ : Sg) (H : Heap) (locs : List Loc) (ls : Array Slot) (hl : lv_has ls 5 [(0, .ref (g.1 51)), (1, .int x1), (2, .int x2), (3, .int x3)]) (hst : Wst D vwCl (WS g) A s σ H locs) (h : wq_Sd_node x1 x2 x3 σ post) : W p l e { frames := 37, cells := 0, slots := 0, locals := 928 } s m args below meth c H locs 0 0 (MQ below (QiW D vwCl (WS g) post A) args s 0 0 A) (F0 m 0 ls []) := by
  obtain ⟨hx, hb, hr, hml, hown, hts, hlocks, hK, hZ, hA⟩ := C
  unfold wq_Sd_node at h
  refine lv_iload_n hx hb d_Sd_node_0 rfl (lv_at hl 1 rfl) ?_
  refine kw_calli (va_runS (As := [.int x1]) (rest := []) ⟨hx, hb, hml, hown, hts⟩ (c_Sd_isText l x1 h) (cwS 1 hts (gd_s gw431 gw432 gw1 gw433) rfl rfl rfl (by decide +kernel) ⟨Nat.le_of_ble_eq_true rfl, Nat.le_of_ble_eq_true rfl⟩) ⟨kw_blind (Zk_ok g), kw_pre (Zk_ok g) hK hZ hA hst⟩ rfl rfl hl.1 rfl (lv_room (Nat.le_of_ble_eq_true rfl)) d_Sd_node_1 ⟨Nat.le_of_ble_eq_true rfl, Nat.le_of_ble_eq_true rfl⟩) hst hA (fun r1 σ1 H locs h hst => ?_)
  refine lv_if_eq (tgt := 17) hx hb d_Sd_node_4 (by decide) (fun hc => ?_) (fun hc => ?_)
  · replace h := h.1 hc
    exact h.elim
  · replace h := h.2 hc
    refine lv_iload_n hx hb d_Sd_node_7 rfl (lv_at hl 3 rfl) ?_
    refine lv_if_lt (tgt := 17) hx hb d_Sd_node_8 (by decide) (fun hc => ?_) (fun hc => ?_)
    · replace h := h.1 hc
      exact h.elim
    · replace h := h.2 hc
      refine lv_iload_n hx hb d_Sd_node_11 rfl (lv_at hl 3 rfl) ?_
      refine lv_bipush (v := (6 : Int32)) hx hb d_Sd_node_12 (by decide) ?_
      refine lv_icmp_le (tgt := 25) hx hb d_Sd_node_14 (by decide) (fun hc => ?_) (fun hc => ?_)
      · replace h := h.1 hc
        refine lv_aload_n hx hb d_Sd_node_25 rfl (lv_at hl 0 rfl) ?_
        refine lv_iload_n hx hb d_Sd_node_26 rfl (lv_at hl 1 rfl) ?_
        refine kw_callr (va_runV (As := [.int x1]) (rest := []) (b := g.1 51) ⟨hx, hb, hml, hown, hts⟩ (c_Sd_readTree l x1 h) (cwV 1 hts (gd_v gw605 gw607 gs3 gw1 gw608) rfl rfl rfl (by decide +kernel) ⟨Nat.le_of_ble_eq_true rfl, Nat.le_of_ble_eq_true rfl⟩) ⟨kw_blind (Zk_ok g), va_recv hK hst.1 rfl (WS_o51 g σ1), kw_pre (Zk_ok g) hK hZ hA hst⟩ rfl rfl hl.1 rfl (lv_room (Nat.le_of_ble_eq_true rfl)) d_Sd_node_27 ⟨Nat.le_of_ble_eq_true rfl, Nat.le_of_ble_eq_true rfl⟩) hst hA (fun r2 σ2 H locs h hst => ?_)
        obtain ⟨hb1, h⟩ := h
        rcases hb1 with rfl | rfl
        · refine lv_astore hx hb d_Sd_node_30 hl (by decide) rfl (fun ls hl => ?_)
          have hl : lv_has ls 5 [(4, .ref (g.1 0)), (0, .ref (g.1 51)), (1, .int x1), (2, .int x2), (3, .int x3)] := hl
          refine lv_aload hx hb d_Sd_node_32 (lv_at hl 0 rfl) ?_
          refine lv_iload_n hx hb d_Sd_node_34 rfl (lv_at hl 3 rfl) ?_
          refine kw_calli (va_runV (As := [.int x2]) (rest := []) (b := g.1 0) ⟨hx, hb, hml, hown, hts⟩ (c_Tr_has_0 l x2 h) (cwV 1 hts (gd_v gw701 gw702 gw703 gw7 gw704) rfl rfl rfl (by decide +kernel) ⟨Nat.le_of_ble_eq_true rfl, Nat.le_of_ble_eq_true rfl⟩) ⟨kw_blind (Zk_ok g), va_recv hK hst.1 rfl (WS_o0 g σ2), kw_pre (Zk_ok g) hK hZ hA hst⟩ rfl rfl hl.1 rfl (lv_room (Nat.le_of_ble_eq_true rfl)) d_Sd_node_35 ⟨Nat.le_of_ble_eq_true rfl, Nat.le_of_ble_eq_true rfl⟩) hst hA (fun r3 σ3 H locs h hst => ?_)
          refine lv_if_ne (tgt := 49) hx hb d_Sd_node_38 (by decide) (fun hc => ?_) (fun hc => ?_)
          · replace h := h.1 hc
            refine lv_iload_n hx hb d_Sd_node_49 rfl (lv_at hl 4 rfl) ?_
            by_cases hc0 : x3 = 0
            · refine kw_tin (k := 0) (tgt := 88) hx hb d_Sd_node_50 hc0 (by decide) (by decide) rfl (by decide) ?_
              replace h := h.1 hc0
              refine lv_aload hx hb d_Sd_node_88 (lv_at hl 0 rfl) ?_
              refine va_get (D := D) (ci := 0) (C := R_Tr) (T := T_Tr) (N := 12) hx hb hts in_Tr hown hK hst.1 0 (WS_o0 g σ3) rfl 1 (by decide) (hts _ gw136) (fun _ h9 => h9) rfl d_Sd_node_90 ?_
              refine lv_iload_n hx hb d_Sd_node_93 rfl (lv_at hl 3 rfl) ?_
              obtain ⟨hi, h⟩ := h
              refine va_iald hx hb hK hst.1 1 0 (WS_a1 g σ3) rfl hi d_Sd_node_94 ?_
              exact kw_iret hx hb hr hlocks hst h d_Sd_node_95
            by_cases hc1 : x3 = 1
            · refine kw_tin (k := 1) (tgt := 96) hx hb d_Sd_node_50 hc1 (by decide) (by decide) rfl (by decide) ?_
              replace h := h.2.1 hc1
              refine lv_aload hx hb d_Sd_node_96 (lv_at hl 0 rfl) ?_
              refine va_get (D := D) (ci := 0) (C := R_Tr) (T := T_Tr) (N := 12) hx hb hts in_Tr hown hK hst.1 0 (WS_o0 g σ3) rfl 2 (by decide) (hts _ gw141) (fun _ h9 => h9) rfl d_Sd_node_98 ?_
              refine lv_iload_n hx hb d_Sd_node_101 rfl (lv_at hl 3 rfl) ?_
              obtain ⟨hi, h⟩ := h
              refine va_iald hx hb hK hst.1 2 0 (WS_a2 g σ3) rfl hi d_Sd_node_102 ?_
              exact kw_iret hx hb hr hlocks hst h d_Sd_node_103
            by_cases hc2 : x3 = 2
            · refine kw_tin (k := 2) (tgt := 104) hx hb d_Sd_node_50 hc2 (by decide) (by decide) rfl (by decide) ?_
              replace h := h.2.2.1 hc2
              refine lv_aload hx hb d_Sd_node_104 (lv_at hl 0 rfl) ?_
              refine va_get (D := D) (ci := 0) (C := R_Tr) (T := T_Tr) (N := 12) hx hb hts in_Tr hown hK hst.1 0 (WS_o0 g σ3) rfl 3 (by decide) (hts _ gw144) (fun _ h9 => h9) rfl d_Sd_node_106 ?_
              refine lv_iload_n hx hb d_Sd_node_109 rfl (lv_at hl 3 rfl) ?_
              obtain ⟨hi, h⟩ := h
              refine va_iald hx hb hK hst.1 3 0 (WS_a3 g σ3) rfl hi d_Sd_node_110 ?_
              exact kw_iret hx hb hr hlocks hst h d_Sd_node_111
            by_cases hc3 : x3 = 3
            · refine kw_tin (k := 3) (tgt := 112) hx hb d_Sd_node_50 hc3 (by decide) (by decide) rfl (by decide) ?_
              replace h := h.2.2.2.1 hc3
              refine lv_aload hx hb d_Sd_node_112 (lv_at hl 0 rfl) ?_
              refine va_get (D := D) (ci := 0) (C := R_Tr) (T := T_Tr) (N := 12) hx hb hts in_Tr hown hK hst.1 0 (WS_o0 g σ3) rfl 4 (by decide) (hts _ gw147) (fun _ h9 => h9) rfl d_Sd_node_114 ?_
              refine lv_iload_n hx hb d_Sd_node_117 rfl (lv_at hl 3 rfl) ?_
              obtain ⟨hi, h⟩ := h
              refine va_iald hx hb hK hst.1 4 0 (WS_a4 g σ3) rfl hi d_Sd_node_118 ?_
              exact kw_iret hx hb hr hlocks hst h d_Sd_node_119
            by_cases hc4 : x3 = 4
            · refine kw_tin (k := 4) (tgt := 120) hx hb d_Sd_node_50 hc4 (by decide) (by decide) rfl (by decide) ?_
              replace h := h.2.2.2.2.1 hc4
              refine lv_aload hx hb d_Sd_node_120 (lv_at hl 0 rfl) ?_
              refine va_get (D := D) (ci := 0) (C := R_Tr) (T := T_Tr) (N := 12) hx hb hts in_Tr hown hK hst.1 0 (WS_o0 g σ3) rfl 5 (by decide) (hts _ gw153) (fun _ h9 => h9) rfl d_Sd_node_122 ?_
              refine lv_iload_n hx hb d_Sd_node_125 rfl (lv_at hl 3 rfl) ?_
              obtain ⟨hi, h⟩ := h
              refine va_iald hx hb hK hst.1 5 0 (WS_a5 g σ3) rfl hi d_Sd_node_126 ?_
              exact kw_iret hx hb hr hlocks hst h d_Sd_node_127
            by_cases hc5 : x3 = 5
            · refine kw_tin (k := 5) (tgt := 128) hx hb d_Sd_node_50 hc5 (by decide) (by decide) rfl (by decide) ?_
              replace h := h.2.2.2.2.2.1 hc5
              refine lv_aload hx hb d_Sd_node_128 (lv_at hl 0 rfl) ?_
              refine va_get (D := D) (ci := 0) (C := R_Tr) (T := T_Tr) (N := 12) hx hb hts in_Tr hown hK hst.1 0 (WS_o0 g σ3) rfl 6 (by decide) (hts _ gw157) (fun _ h9 => h9) rfl d_Sd_node_130 ?_
              refine lv_iload_n hx hb d_Sd_node_133 rfl (lv_at hl 3 rfl) ?_
              obtain ⟨hi, h⟩ := h
              refine va_iald hx hb hK hst.1 6 0 (WS_a6 g σ3) rfl hi d_Sd_node_134 ?_
              exact kw_iret hx hb hr hlocks hst h d_Sd_node_135
            refine lv_tableOut (tgt := 136) hx hb d_Sd_node_50 (by have q0 := lv_neT (a := 0) hc0 (by decide); have q1 := lv_neT (a := 1) hc1 (by decide); have q2 := lv_neT (a := 2) hc2 (by decide); have q3 := lv_neT (a := 3) hc3 (by decide); have q4 := lv_neT (a := 4) hc4 (by decide); have q5 := lv_neT (a := 5) hc5 (by decide); omega) (by decide) ?_
            replace h := h.2.2.2.2.2.2 ⟨hc0, hc1, hc2, hc3, hc4, hc5⟩
            refine lv_aload hx hb d_Sd_node_136 (lv_at hl 0 rfl) ?_
            refine va_get (D := D) (ci := 0) (C := R_Tr) (T := T_Tr) (N := 12) hx hb hts in_Tr hown hK hst.1 0 (WS_o0 g σ3) rfl 7 (by decide) (hts _ gw160) (fun _ h9 => h9) rfl d_Sd_node_138 ?_
            refine lv_iload_n hx hb d_Sd_node_141 rfl (lv_at hl 3 rfl) ?_
            obtain ⟨hi, h⟩ := h
            refine va_iald hx hb hK hst.1 7 0 (WS_a7 g σ3) rfl hi d_Sd_node_142 ?_
            exact kw_iret hx hb hr hlocks hst h d_Sd_node_143
          · replace h := h.2 hc
            exact h.elim
        · refine lv_astore hx hb d_Sd_node_30 hl (by decide) rfl (fun ls hl => ?_)
          have hl : lv_has ls 5 [(4, .ref (g.1 13)), (0, .ref (g.1 51)), (1, .int x1), (2, .int x2), (3, .int x3)] := hl
          refine lv_aload hx hb d_Sd_node_32 (lv_at hl 0 rfl) ?_
          refine lv_iload_n hx hb d_Sd_node_34 rfl (lv_at hl 3 rfl) ?_
          refine kw_calli (va_runV (As := [.int x2]) (rest := []) (b := g.1 13) ⟨hx, hb, hml, hown, hts⟩ (c_Tr_has_13 l x2 h) (cwV 1 hts (gd_v gw701 gw702 gw703 gw7 gw704) rfl rfl rfl (by decide +kernel) ⟨Nat.le_of_ble_eq_true rfl, Nat.le_of_ble_eq_true rfl⟩) ⟨kw_blind (Zk_ok g), va_recv hK hst.1 rfl (WS_o13 g σ2), kw_pre (Zk_ok g) hK hZ hA hst⟩ rfl rfl hl.1 rfl (lv_room (Nat.le_of_ble_eq_true rfl)) d_Sd_node_35 ⟨Nat.le_of_ble_eq_true rfl, Nat.le_of_ble_eq_true rfl⟩) hst hA (fun r3 σ3 H locs h hst => ?_)
          refine lv_if_ne (tgt := 49) hx hb d_Sd_node_38 (by decide) (fun hc => ?_) (fun hc => ?_)
          · replace h := h.1 hc
            refine lv_iload_n hx hb d_Sd_node_49 rfl (lv_at hl 4 rfl) ?_
            by_cases hc0 : x3 = 0
            · refine kw_tin (k := 0) (tgt := 88) hx hb d_Sd_node_50 hc0 (by decide) (by decide) rfl (by decide) ?_
              replace h := h.1 hc0
              refine lv_aload hx hb d_Sd_node_88 (lv_at hl 0 rfl) ?_
              refine va_get (D := D) (ci := 0) (C := R_Tr) (T := T_Tr) (N := 12) hx hb hts in_Tr hown hK hst.1 13 (WS_o13 g σ3) rfl 1 (by decide) (hts _ gw136) (fun _ h9 => h9) rfl d_Sd_node_90 ?_
              refine lv_iload_n hx hb d_Sd_node_93 rfl (lv_at hl 3 rfl) ?_
              obtain ⟨hi, h⟩ := h
              refine va_iald hx hb hK hst.1 14 0 (WS_a14 g σ3) rfl hi d_Sd_node_94 ?_
              exact kw_iret hx hb hr hlocks hst h d_Sd_node_95
            by_cases hc1 : x3 = 1
            · refine kw_tin (k := 1) (tgt := 96) hx hb d_Sd_node_50 hc1 (by decide) (by decide) rfl (by decide) ?_
              replace h := h.2.1 hc1
              refine lv_aload hx hb d_Sd_node_96 (lv_at hl 0 rfl) ?_
              refine va_get (D := D) (ci := 0) (C := R_Tr) (T := T_Tr) (N := 12) hx hb hts in_Tr hown hK hst.1 13 (WS_o13 g σ3) rfl 2 (by decide) (hts _ gw141) (fun _ h9 => h9) rfl d_Sd_node_98 ?_
              refine lv_iload_n hx hb d_Sd_node_101 rfl (lv_at hl 3 rfl) ?_
              obtain ⟨hi, h⟩ := h
              refine va_iald hx hb hK hst.1 15 0 (WS_a15 g σ3) rfl hi d_Sd_node_102 ?_
              exact kw_iret hx hb hr hlocks hst h d_Sd_node_103
            by_cases hc2 : x3 = 2
            · refine kw_tin (k := 2) (tgt := 104) hx hb d_Sd_node_50 hc2 (by decide) (by decide) rfl (by decide) ?_
              replace h := h.2.2.1 hc2
              refine lv_aload hx hb d_Sd_node_104 (lv_at hl 0 rfl) ?_
              refine va_get (D := D) (ci := 0) (C := R_Tr) (T := T_Tr) (N := 12) hx hb hts in_Tr hown hK hst.1 13 (WS_o13 g σ3) rfl 3 (by decide) (hts _ gw144) (fun _ h9 => h9) rfl d_Sd_node_106 ?_
              refine lv_iload_n hx hb d_Sd_node_109 rfl (lv_at hl 3 rfl) ?_
              obtain ⟨hi, h⟩ := h
              refine va_iald hx hb hK hst.1 16 0 (WS_a16 g σ3) rfl hi d_Sd_node_110 ?_
              exact kw_iret hx hb hr hlocks hst h d_Sd_node_111
            by_cases hc3 : x3 = 3
            · refine kw_tin (k := 3) (tgt := 112) hx hb d_Sd_node_50 hc3 (by decide) (by decide) rfl (by decide) ?_
              replace h := h.2.2.2.1 hc3
              refine lv_aload hx hb d_Sd_node_112 (lv_at hl 0 rfl) ?_
              refine va_get (D := D) (ci := 0) (C := R_Tr) (T := T_Tr) (N := 12) hx hb hts in_Tr hown hK hst.1 13 (WS_o13 g σ3) rfl 4 (by decide) (hts _ gw147) (fun _ h9 => h9) rfl d_Sd_node_114 ?_
              refine lv_iload_n hx hb d_Sd_node_117 rfl (lv_at hl 3 rfl) ?_
              obtain ⟨hi, h⟩ := h
              refine va_iald hx hb hK hst.1 17 0 (WS_a17 g σ3) rfl hi d_Sd_node_118 ?_
              exact kw_iret hx hb hr hlocks hst h d_Sd_node_119
            by_cases hc4 : x3 = 4
            · refine kw_tin (k := 4) (tgt := 120) hx hb d_Sd_node_50 hc4 (by decide) (by decide) rfl (by decide) ?_
              replace h := h.2.2.2.2.1 hc4
              refine lv_aload hx hb d_Sd_node_120 (lv_at hl 0 rfl) ?_
              refine va_get (D := D) (ci := 0) (C := R_Tr) (T := T_Tr) (N := 12) hx hb hts in_Tr hown hK hst.1 13 (WS_o13 g σ3) rfl 5 (by decide) (hts _ gw153) (fun _ h9 => h9) rfl d_Sd_node_122 ?_
              refine lv_iload_n hx hb d_Sd_node_125 rfl (lv_at hl 3 rfl) ?_
              obtain ⟨hi, h⟩ := h
              refine va_iald hx hb hK hst.1 18 0 (WS_a18 g σ3) rfl hi d_Sd_node_126 ?_
              exact kw_iret hx hb hr hlocks hst h d_Sd_node_127
            by_cases hc5 : x3 = 5
            · refine kw_tin (k := 5) (tgt := 128) hx hb d_Sd_node_50 hc5 (by decide) (by decide) rfl (by decide) ?_
              replace h := h.2.2.2.2.2.1 hc5
              refine lv_aload hx hb d_Sd_node_128 (lv_at hl 0 rfl) ?_
              refine va_get (D := D) (ci := 0) (C := R_Tr) (T := T_Tr) (N := 12) hx hb hts in_Tr hown hK hst.1 13 (WS_o13 g σ3) rfl 6 (by decide) (hts _ gw157) (fun _ h9 => h9) rfl d_Sd_node_130 ?_
              refine lv_iload_n hx hb d_Sd_node_133 rfl (lv_at hl 3 rfl) ?_
              obtain ⟨hi, h⟩ := h
              refine va_iald hx hb hK hst.1 19 0 (WS_a19 g σ3) rfl hi d_Sd_node_134 ?_
              exact kw_iret hx hb hr hlocks hst h d_Sd_node_135
            refine lv_tableOut (tgt := 136) hx hb d_Sd_node_50 (by have q0 := lv_neT (a := 0) hc0 (by decide); have q1 := lv_neT (a := 1) hc1 (by decide); have q2 := lv_neT (a := 2) hc2 (by decide); have q3 := lv_neT (a := 3) hc3 (by decide); have q4 := lv_neT (a := 4) hc4 (by decide); have q5 := lv_neT (a := 5) hc5 (by decide); omega) (by decide) ?_
            replace h := h.2.2.2.2.2.2 ⟨hc0, hc1, hc2, hc3, hc4, hc5⟩
            refine lv_aload hx hb d_Sd_node_136 (lv_at hl 0 rfl) ?_
            refine va_get (D := D) (ci := 0) (C := R_Tr) (T := T_Tr) (N := 12) hx hb hts in_Tr hown hK hst.1 13 (WS_o13 g σ3) rfl 7 (by decide) (hts _ gw160) (fun _ h9 => h9) rfl d_Sd_node_138 ?_
            refine lv_iload_n hx hb d_Sd_node_141 rfl (lv_at hl 3 rfl) ?_
            obtain ⟨hi, h⟩ := h
            refine va_iald hx hb hK hst.1 20 0 (WS_a20 g σ3) rfl hi d_Sd_node_142 ?_
            exact kw_iret hx hb hr hlocks hst h d_Sd_node_143
          · replace h := h.2 hc
            exact h.elim
      · replace h := h.2 hc
        exact h.elim
set_option maxRecDepth 100000 in
set_option maxHeartbeats 4000000 in
theorem c_Sd_node (l : Launch) {D : va_G} {g : Gm} {sz : Nat} (x1 : Int32) (x2 : Int32) (x3 : Int32) {σ : Sg} {post : Int32 → Sg → Prop} (h : wq_Sd_node x1 x2 x3 σ post) : Met l y_Sd_node (.code y_Sd_node k_Sd_node 5 (some .int) :: GW) { frames := 37, cells := 0, slots := 0, locals := 928 } (PcW D vwCl (WS g) g (Zk g) σ sz [.ref (g.1 51), .int x1, .int x2, .int x3]) (QiW D vwCl (WS g) post (va_A (WS g σ) sz)) 0 0 (va_A (WS g σ) sz) := by
  refine kw_entry (own := R_Sd) (by decide) rfl rfl (Nat.le_of_ble_eq_true rfl) ?_
  intro p e s m below meth c ls hsz C hin hl hst
  exact b_Sd_node_0 C x1 x2 x3 σ _ _ ls hl hst h
/-! SchemaDesk.faults (I)I -/
abbrev k_Sd_faults : ByteArray := prog_1_method_10_code
abbrev y_Sd_faults : MethodName := ⟨"SchemaDesk", "faults", "(I)I"⟩
theorem d_Sd_faults_0 : decode k_Sd_faults 0 = .ok (.iload_n 1, 1) := by decide +kernel
theorem d_Sd_faults_1 : decode k_Sd_faults 1 = .ok (.invokestatic 77, 3) := by decide +kernel
theorem d_Sd_faults_4 : decode k_Sd_faults 4 = .ok (.ifCond .ne 11, 3) := by decide +kernel
theorem d_Sd_faults_7 : decode k_Sd_faults 7 = .ok (.new 112, 3) := by decide +kernel
theorem d_Sd_faults_10 : decode k_Sd_faults 10 = .ok (.dup, 1) := by decide +kernel
theorem d_Sd_faults_11 : decode k_Sd_faults 11 = .ok (.invokespecial 114, 3) := by decide +kernel
theorem d_Sd_faults_14 : decode k_Sd_faults 14 = .ok (.athrow, 1) := by decide +kernel
theorem d_Sd_faults_15 : decode k_Sd_faults 15 = .ok (.aload_n 0, 1) := by decide +kernel
theorem d_Sd_faults_16 : decode k_Sd_faults 16 = .ok (.iload_n 1, 1) := by decide +kernel
theorem d_Sd_faults_17 : decode k_Sd_faults 17 = .ok (.invokevirtual 129, 3) := by decide +kernel
theorem d_Sd_faults_20 : decode k_Sd_faults 20 = .ok (.getfield 162, 3) := by decide +kernel
theorem d_Sd_faults_23 : decode k_Sd_faults 23 = .ok (.ireturn, 1) := by decide +kernel
theorem gw176 : (Jvm.Cond.fieldLink "SchemaDesk" (162 : Nat) "SchemaDesk$Tree" "faultCount" "I") ∈ GW := gw_t1 (List.mem_of_getElem? (i := 176) rfl) rfl
def wq_Sd_faults (x1 : Int32) (σ : Sg) (post : Int32 → Sg → Prop) : Prop := (wq_Sd_isText x1 σ (fun r1 σ1 => ((¬ r1 = 0 → (wq_Sd_readTree x1 σ1 (fun r2 σ2 => (r2 = 0 ∨ r2 = 13) ∧ post (σ2.1 r2 11) σ2))) ∧ (r1 = 0 → False))))
set_option maxRecDepth 100000 in
set_option maxHeartbeats 4000000 in
theorem b_Sd_faults_0 {p : Program} {l : Launch} {e : Env} {s : State} {m : MethodId} {args : Array Value} {below : List Frame} {meth : Method} {c : Code} {D : va_G} {g : Gm} {A : Nat → Prop} {post : Int32 → Sg → Prop} (C : kC p s m args meth c k_Sd_faults 2 (some .int) GW R_Sd D vwCl g (Zk g) A) (x1 : Int32) (σ : Sg) (H : Heap) (locs : List Loc) (ls : Array Slot) (hl : lv_has ls 2 [(0, .ref (g.1 51)), (1, .int x1)]) (hst : Wst D vwCl (WS g) A s σ H locs) (h : wq_Sd_faults x1 σ post) : W p l e { frames := 37, cells := 0, slots := 0, locals := 928 } s m args below meth c H locs 0 0 (MQ below (QiW D vwCl (WS g) post A) args s 0 0 A) (F0 m 0 ls []) := by
  obtain ⟨hx, hb, hr, hml, hown, hts, hlocks, hK, hZ, hA⟩ := C
  unfold wq_Sd_faults at h
  refine lv_iload_n hx hb d_Sd_faults_0 rfl (lv_at hl 1 rfl) ?_
  refine kw_calli (va_runS (As := [.int x1]) (rest := []) ⟨hx, hb, hml, hown, hts⟩ (c_Sd_isText l x1 h) (cwS 1 hts (gd_s gw431 gw432 gw1 gw433) rfl rfl rfl (by decide +kernel) ⟨Nat.le_of_ble_eq_true rfl, Nat.le_of_ble_eq_true rfl⟩) ⟨kw_blind (Zk_ok g), kw_pre (Zk_ok g) hK hZ hA hst⟩ rfl rfl hl.1 rfl (lv_room (Nat.le_of_ble_eq_true rfl)) d_Sd_faults_1 ⟨Nat.le_of_ble_eq_true rfl, Nat.le_of_ble_eq_true rfl⟩) hst hA (fun r1 σ1 H locs h hst => ?_)
  refine lv_if_ne (tgt := 15) hx hb d_Sd_faults_4 (by decide) (fun hc => ?_) (fun hc => ?_)
  · replace h := h.1 hc
    refine lv_aload_n hx hb d_Sd_faults_15 rfl (lv_at hl 0 rfl) ?_
    refine lv_iload_n hx hb d_Sd_faults_16 rfl (lv_at hl 1 rfl) ?_
    refine kw_callr (va_runV (As := [.int x1]) (rest := []) (b := g.1 51) ⟨hx, hb, hml, hown, hts⟩ (c_Sd_readTree l x1 h) (cwV 1 hts (gd_v gw605 gw607 gs3 gw1 gw608) rfl rfl rfl (by decide +kernel) ⟨Nat.le_of_ble_eq_true rfl, Nat.le_of_ble_eq_true rfl⟩) ⟨kw_blind (Zk_ok g), va_recv hK hst.1 rfl (WS_o51 g σ1), kw_pre (Zk_ok g) hK hZ hA hst⟩ rfl rfl hl.1 rfl (lv_room (Nat.le_of_ble_eq_true rfl)) d_Sd_faults_17 ⟨Nat.le_of_ble_eq_true rfl, Nat.le_of_ble_eq_true rfl⟩) hst hA (fun r2 σ2 H locs h hst => ?_)
    obtain ⟨hb1, h⟩ := h
    rcases hb1 with rfl | rfl
    · refine va_get (D := D) (ci := 0) (C := R_Tr) (T := T_Tr) (N := 12) hx hb hts in_Tr hown hK hst.1 0 (WS_o0 g σ2) rfl 11 (by decide) (hts _ gw176) (fun _ h9 => h9) rfl d_Sd_faults_20 ?_
      exact kw_iret hx hb hr hlocks hst h d_Sd_faults_23
    · refine va_get (D := D) (ci := 0) (C := R_Tr) (T := T_Tr) (N := 12) hx hb hts in_Tr hown hK hst.1 13 (WS_o13 g σ2) rfl 11 (by decide) (hts _ gw176) (fun _ h9 => h9) rfl d_Sd_faults_20 ?_
      exact kw_iret hx hb hr hlocks hst h d_Sd_faults_23
  · replace h := h.2 hc
    exact h.elim
set_option maxRecDepth 100000 in
set_option maxHeartbeats 4000000 in
theorem c_Sd_faults (l : Launch) {D : va_G} {g : Gm} {sz : Nat} (x1 : Int32) {σ : Sg} {post : Int32 → Sg → Prop} (h : wq_Sd_faults x1 σ post) : Met l y_Sd_faults (.code y_Sd_faults k_Sd_faults 2 (some .int) :: GW) { frames := 37, cells := 0, slots := 0, locals := 928 } (PcW D vwCl (WS g) g (Zk g) σ sz [.ref (g.1 51), .int x1]) (QiW D vwCl (WS g) post (va_A (WS g σ) sz)) 0 0 (va_A (WS g σ) sz) := by
  refine kw_entry (own := R_Sd) (by decide) rfl rfl (Nat.le_of_ble_eq_true rfl) ?_
  intro p e s m below meth c ls hsz C hin hl hst
  exact b_Sd_faults_0 C x1 σ _ _ ls hl hst h
/-! SchemaDesk.fault (II)I -/
abbrev k_Sd_fault : ByteArray := prog_1_method_11_code
abbrev y_Sd_fault : MethodName := ⟨"SchemaDesk", "fault", "(II)I"⟩
theorem d_Sd_fault_0 : decode k_Sd_fault 0 = .ok (.iload_n 1, 1) := by decide +kernel
theorem d_Sd_fault_1 : decode k_Sd_fault 1 = .ok (.invokestatic 77, 3) := by decide +kernel
theorem d_Sd_fault_4 : decode k_Sd_fault 4 = .ok (.ifCond .ne 11, 3) := by decide +kernel
theorem d_Sd_fault_7 : decode k_Sd_fault 7 = .ok (.new 112, 3) := by decide +kernel
theorem d_Sd_fault_10 : decode k_Sd_fault 10 = .ok (.dup, 1) := by decide +kernel
theorem d_Sd_fault_11 : decode k_Sd_fault 11 = .ok (.invokespecial 114, 3) := by decide +kernel
theorem d_Sd_fault_14 : decode k_Sd_fault 14 = .ok (.athrow, 1) := by decide +kernel
theorem d_Sd_fault_15 : decode k_Sd_fault 15 = .ok (.aload_n 0, 1) := by decide +kernel
theorem d_Sd_fault_16 : decode k_Sd_fault 16 = .ok (.iload_n 1, 1) := by decide +kernel
theorem d_Sd_fault_17 : decode k_Sd_fault 17 = .ok (.invokevirtual 129, 3) := by decide +kernel
theorem d_Sd_fault_20 : decode k_Sd_fault 20 = .ok (.astore_n 3, 1) := by decide +kernel
theorem d_Sd_fault_21 : decode k_Sd_fault 21 = .ok (.iload_n 2, 1) := by decide +kernel
theorem d_Sd_fault_22 : decode k_Sd_fault 22 = .ok (.ifCond .lt 11, 3) := by decide +kernel
theorem d_Sd_fault_25 : decode k_Sd_fault 25 = .ok (.iload_n 2, 1) := by decide +kernel
theorem d_Sd_fault_26 : decode k_Sd_fault 26 = .ok (.aload_n 3, 1) := by decide +kernel
theorem d_Sd_fault_27 : decode k_Sd_fault 27 = .ok (.getfield 162, 3) := by decide +kernel
theorem d_Sd_fault_30 : decode k_Sd_fault 30 = .ok (.if_icmp .lt 11, 3) := by decide +kernel
theorem d_Sd_fault_33 : decode k_Sd_fault 33 = .ok (.new 137, 3) := by decide +kernel
theorem d_Sd_fault_36 : decode k_Sd_fault 36 = .ok (.dup, 1) := by decide +kernel
theorem d_Sd_fault_37 : decode k_Sd_fault 37 = .ok (.invokespecial 139, 3) := by decide +kernel
theorem d_Sd_fault_40 : decode k_Sd_fault 40 = .ok (.athrow, 1) := by decide +kernel
theorem d_Sd_fault_41 : decode k_Sd_fault 41 = .ok (.aload_n 3, 1) := by decide +kernel
theorem d_Sd_fault_42 : decode k_Sd_fault 42 = .ok (.getfield 165, 3) := by decide +kernel
theorem d_Sd_fault_45 : decode k_Sd_fault 45 = .ok (.iload_n 2, 1) := by decide +kernel
theorem d_Sd_fault_46 : decode k_Sd_fault 46 = .ok (.iaload, 1) := by decide +kernel
theorem d_Sd_fault_47 : decode k_Sd_fault 47 = .ok (.ireturn, 1) := by decide +kernel
theorem gw174 : (Jvm.Cond.fieldLink "SchemaDesk" (165 : Nat) "SchemaDesk$Tree" "faultRow" "[I") ∈ GW := gw_t1 (List.mem_of_getElem? (i := 174) rfl) rfl
def wq_Sd_fault (x1 : Int32) (x2 : Int32) (σ : Sg) (post : Int32 → Sg → Prop) : Prop := (wq_Sd_isText x1 σ (fun r1 σ1 => ((¬ r1 = 0 → (wq_Sd_readTree x1 σ1 (fun r2 σ2 => (r2 = 0 ∨ r2 = 13) ∧ ((x2 < 0 → False) ∧ (¬ x2 < 0 → ((x2 < (σ2.1 r2 11) → (vp_in x2 (tf r2) ∧ post (σ2.1 (r2 + 9) x2.toNatClampNeg) σ2)) ∧ (¬ x2 < (σ2.1 r2 11) → False))))))) ∧ (r1 = 0 → False))))
set_option maxRecDepth 100000 in
set_option maxHeartbeats 4000000 in
theorem b_Sd_fault_0 {p : Program} {l : Launch} {e : Env} {s : State} {m : MethodId} {args : Array Value} {below : List Frame} {meth : Method} {c : Code} {D : va_G} {g : Gm} {A : Nat → Prop} {post : Int32 → Sg → Prop} (C : kC p s m args meth c k_Sd_fault 4 (some .int) GW R_Sd D vwCl g (Zk g) A) (x1 : Int32) (x2 : Int32) (σ : Sg) (H : Heap) (locs : List Loc) (ls : Array Slot) (hl : lv_has ls 4 [(0, .ref (g.1 51)), (1, .int x1), (2, .int x2)]) (hst : Wst D vwCl (WS g) A s σ H locs) (h : wq_Sd_fault x1 x2 σ post) : W p l e { frames := 37, cells := 0, slots := 0, locals := 928 } s m args below meth c H locs 0 0 (MQ below (QiW D vwCl (WS g) post A) args s 0 0 A) (F0 m 0 ls []) := by
  obtain ⟨hx, hb, hr, hml, hown, hts, hlocks, hK, hZ, hA⟩ := C
  unfold wq_Sd_fault at h
  refine lv_iload_n hx hb d_Sd_fault_0 rfl (lv_at hl 1 rfl) ?_
  refine kw_calli (va_runS (As := [.int x1]) (rest := []) ⟨hx, hb, hml, hown, hts⟩ (c_Sd_isText l x1 h) (cwS 1 hts (gd_s gw431 gw432 gw1 gw433) rfl rfl rfl (by decide +kernel) ⟨Nat.le_of_ble_eq_true rfl, Nat.le_of_ble_eq_true rfl⟩) ⟨kw_blind (Zk_ok g), kw_pre (Zk_ok g) hK hZ hA hst⟩ rfl rfl hl.1 rfl (lv_room (Nat.le_of_ble_eq_true rfl)) d_Sd_fault_1 ⟨Nat.le_of_ble_eq_true rfl, Nat.le_of_ble_eq_true rfl⟩) hst hA (fun r1 σ1 H locs h hst => ?_)
  refine lv_if_ne (tgt := 15) hx hb d_Sd_fault_4 (by decide) (fun hc => ?_) (fun hc => ?_)
  · replace h := h.1 hc
    refine lv_aload_n hx hb d_Sd_fault_15 rfl (lv_at hl 0 rfl) ?_
    refine lv_iload_n hx hb d_Sd_fault_16 rfl (lv_at hl 1 rfl) ?_
    refine kw_callr (va_runV (As := [.int x1]) (rest := []) (b := g.1 51) ⟨hx, hb, hml, hown, hts⟩ (c_Sd_readTree l x1 h) (cwV 1 hts (gd_v gw605 gw607 gs3 gw1 gw608) rfl rfl rfl (by decide +kernel) ⟨Nat.le_of_ble_eq_true rfl, Nat.le_of_ble_eq_true rfl⟩) ⟨kw_blind (Zk_ok g), va_recv hK hst.1 rfl (WS_o51 g σ1), kw_pre (Zk_ok g) hK hZ hA hst⟩ rfl rfl hl.1 rfl (lv_room (Nat.le_of_ble_eq_true rfl)) d_Sd_fault_17 ⟨Nat.le_of_ble_eq_true rfl, Nat.le_of_ble_eq_true rfl⟩) hst hA (fun r2 σ2 H locs h hst => ?_)
    obtain ⟨hb1, h⟩ := h
    rcases hb1 with rfl | rfl
    · refine lv_astore_n hx hb d_Sd_fault_20 rfl hl (by decide) rfl (fun ls hl => ?_)
      have hl : lv_has ls 4 [(3, .ref (g.1 0)), (0, .ref (g.1 51)), (1, .int x1), (2, .int x2)] := hl
      refine lv_iload_n hx hb d_Sd_fault_21 rfl (lv_at hl 3 rfl) ?_
      refine lv_if_lt (tgt := 33) hx hb d_Sd_fault_22 (by decide) (fun hc => ?_) (fun hc => ?_)
      · replace h := h.1 hc
        exact h.elim
      · replace h := h.2 hc
        refine lv_iload_n hx hb d_Sd_fault_25 rfl (lv_at hl 3 rfl) ?_
        refine lv_aload_n hx hb d_Sd_fault_26 rfl (lv_at hl 0 rfl) ?_
        refine va_get (D := D) (ci := 0) (C := R_Tr) (T := T_Tr) (N := 12) hx hb hts in_Tr hown hK hst.1 0 (WS_o0 g σ2) rfl 11 (by decide) (hts _ gw176) (fun _ h9 => h9) rfl d_Sd_fault_27 ?_
        refine lv_icmp_lt (tgt := 41) hx hb d_Sd_fault_30 (by decide) (fun hc => ?_) (fun hc => ?_)
        · replace h := h.1 hc
          refine lv_aload_n hx hb d_Sd_fault_41 rfl (lv_at hl 0 rfl) ?_
          refine va_get (D := D) (ci := 0) (C := R_Tr) (T := T_Tr) (N := 12) hx hb hts in_Tr hown hK hst.1 0 (WS_o0 g σ2) rfl 10 (by decide) (hts _ gw174) (fun _ h9 => h9) rfl d_Sd_fault_42 ?_
          refine lv_iload_n hx hb d_Sd_fault_45 rfl (lv_at hl 3 rfl) ?_
          obtain ⟨hi, h⟩ := h
          refine va_iald hx hb hK hst.1 9 0 (WS_a9 g σ2) rfl hi d_Sd_fault_46 ?_
          exact kw_iret hx hb hr hlocks hst h d_Sd_fault_47
        · replace h := h.2 hc
          exact h.elim
    · refine lv_astore_n hx hb d_Sd_fault_20 rfl hl (by decide) rfl (fun ls hl => ?_)
      have hl : lv_has ls 4 [(3, .ref (g.1 13)), (0, .ref (g.1 51)), (1, .int x1), (2, .int x2)] := hl
      refine lv_iload_n hx hb d_Sd_fault_21 rfl (lv_at hl 3 rfl) ?_
      refine lv_if_lt (tgt := 33) hx hb d_Sd_fault_22 (by decide) (fun hc => ?_) (fun hc => ?_)
      · replace h := h.1 hc
        exact h.elim
      · replace h := h.2 hc
        refine lv_iload_n hx hb d_Sd_fault_25 rfl (lv_at hl 3 rfl) ?_
        refine lv_aload_n hx hb d_Sd_fault_26 rfl (lv_at hl 0 rfl) ?_
        refine va_get (D := D) (ci := 0) (C := R_Tr) (T := T_Tr) (N := 12) hx hb hts in_Tr hown hK hst.1 13 (WS_o13 g σ2) rfl 11 (by decide) (hts _ gw176) (fun _ h9 => h9) rfl d_Sd_fault_27 ?_
        refine lv_icmp_lt (tgt := 41) hx hb d_Sd_fault_30 (by decide) (fun hc => ?_) (fun hc => ?_)
        · replace h := h.1 hc
          refine lv_aload_n hx hb d_Sd_fault_41 rfl (lv_at hl 0 rfl) ?_
          refine va_get (D := D) (ci := 0) (C := R_Tr) (T := T_Tr) (N := 12) hx hb hts in_Tr hown hK hst.1 13 (WS_o13 g σ2) rfl 10 (by decide) (hts _ gw174) (fun _ h9 => h9) rfl d_Sd_fault_42 ?_
          refine lv_iload_n hx hb d_Sd_fault_45 rfl (lv_at hl 3 rfl) ?_
          obtain ⟨hi, h⟩ := h
          refine va_iald hx hb hK hst.1 22 0 (WS_a22 g σ2) rfl hi d_Sd_fault_46 ?_
          exact kw_iret hx hb hr hlocks hst h d_Sd_fault_47
        · replace h := h.2 hc
          exact h.elim
  · replace h := h.2 hc
    exact h.elim
set_option maxRecDepth 100000 in
set_option maxHeartbeats 4000000 in
theorem c_Sd_fault (l : Launch) {D : va_G} {g : Gm} {sz : Nat} (x1 : Int32) (x2 : Int32) {σ : Sg} {post : Int32 → Sg → Prop} (h : wq_Sd_fault x1 x2 σ post) : Met l y_Sd_fault (.code y_Sd_fault k_Sd_fault 4 (some .int) :: GW) { frames := 37, cells := 0, slots := 0, locals := 928 } (PcW D vwCl (WS g) g (Zk g) σ sz [.ref (g.1 51), .int x1, .int x2]) (QiW D vwCl (WS g) post (va_A (WS g σ) sz)) 0 0 (va_A (WS g σ) sz) := by
  refine kw_entry (own := R_Sd) (by decide) rfl rfl (Nat.le_of_ble_eq_true rfl) ?_
  intro p e s m below meth c ls hsz C hin hl hst
  exact b_Sd_fault_0 C x1 x2 σ _ _ ls hl hst h
/-! SchemaDesk.holds (II)Z -/
abbrev k_Sd_holds : ByteArray := prog_1_method_12_code
abbrev y_Sd_holds : MethodName := ⟨"SchemaDesk", "holds", "(II)Z"⟩
theorem d_Sd_holds_0 : decode k_Sd_holds 0 = .ok (.aload_n 0, 1) := by decide +kernel
theorem d_Sd_holds_1 : decode k_Sd_holds 1 = .ok (.iconst 0, 1) := by decide +kernel
theorem d_Sd_holds_2 : decode k_Sd_holds 2 = .ok (.invokevirtual 129, 3) := by decide +kernel
theorem d_Sd_holds_5 : decode k_Sd_holds 5 = .ok (.iload_n 1, 1) := by decide +kernel
theorem d_Sd_holds_6 : decode k_Sd_holds 6 = .ok (.invokevirtual 134, 3) := by decide +kernel
theorem d_Sd_holds_9 : decode k_Sd_holds 9 = .ok (.ifCond .eq 15, 3) := by decide +kernel
theorem d_Sd_holds_12 : decode k_Sd_holds 12 = .ok (.aload_n 0, 1) := by decide +kernel
theorem d_Sd_holds_13 : decode k_Sd_holds 13 = .ok (.iconst 1, 1) := by decide +kernel
theorem d_Sd_holds_14 : decode k_Sd_holds 14 = .ok (.invokevirtual 129, 3) := by decide +kernel
theorem d_Sd_holds_17 : decode k_Sd_holds 17 = .ok (.iload_n 2, 1) := by decide +kernel
theorem d_Sd_holds_18 : decode k_Sd_holds 18 = .ok (.invokevirtual 134, 3) := by decide +kernel
theorem d_Sd_holds_21 : decode k_Sd_holds 21 = .ok (.ifCond .ne 11, 3) := by decide +kernel
theorem d_Sd_holds_24 : decode k_Sd_holds 24 = .ok (.new 137, 3) := by decide +kernel
theorem d_Sd_holds_27 : decode k_Sd_holds 27 = .ok (.dup, 1) := by decide +kernel
theorem d_Sd_holds_28 : decode k_Sd_holds 28 = .ok (.invokespecial 139, 3) := by decide +kernel
theorem d_Sd_holds_31 : decode k_Sd_holds 31 = .ok (.athrow, 1) := by decide +kernel
theorem d_Sd_holds_32 : decode k_Sd_holds 32 = .ok (.aload_n 0, 1) := by decide +kernel
theorem d_Sd_holds_33 : decode k_Sd_holds 33 = .ok (.getfield 48, 3) := by decide +kernel
theorem d_Sd_holds_36 : decode k_Sd_holds 36 = .ok (.invokevirtual 168, 3) := by decide +kernel
theorem d_Sd_holds_39 : decode k_Sd_holds 39 = .ok (.aload_n 0, 1) := by decide +kernel
theorem d_Sd_holds_40 : decode k_Sd_holds 40 = .ok (.getfield 48, 3) := by decide +kernel
theorem d_Sd_holds_43 : decode k_Sd_holds 43 = .ok (.getfield 171, 3) := by decide +kernel
theorem d_Sd_holds_46 : decode k_Sd_holds 46 = .ok (.ifCond .eq 11, 3) := by decide +kernel
theorem d_Sd_holds_49 : decode k_Sd_holds 49 = .ok (.new 175, 3) := by decide +kernel
theorem d_Sd_holds_52 : decode k_Sd_holds 52 = .ok (.dup, 1) := by decide +kernel
theorem d_Sd_holds_53 : decode k_Sd_holds 53 = .ok (.invokespecial 177, 3) := by decide +kernel
theorem d_Sd_holds_56 : decode k_Sd_holds 56 = .ok (.athrow, 1) := by decide +kernel
theorem d_Sd_holds_57 : decode k_Sd_holds 57 = .ok (.aload_n 0, 1) := by decide +kernel
theorem d_Sd_holds_58 : decode k_Sd_holds 58 = .ok (.getfield 57, 3) := by decide +kernel
theorem d_Sd_holds_61 : decode k_Sd_holds 61 = .ok (.invokevirtual 178, 3) := by decide +kernel
theorem d_Sd_holds_64 : decode k_Sd_holds 64 = .ok (.aload_n 0, 1) := by decide +kernel
theorem d_Sd_holds_65 : decode k_Sd_holds 65 = .ok (.getfield 57, 3) := by decide +kernel
theorem d_Sd_holds_68 : decode k_Sd_holds 68 = .ok (.iload_n 1, 1) := by decide +kernel
theorem d_Sd_holds_69 : decode k_Sd_holds 69 = .ok (.iload_n 2, 1) := by decide +kernel
theorem d_Sd_holds_70 : decode k_Sd_holds 70 = .ok (.invokevirtual 179, 3) := by decide +kernel
theorem d_Sd_holds_73 : decode k_Sd_holds 73 = .ok (.ireturn, 1) := by decide +kernel
theorem gw742 : (Jvm.Cond.methodLink "SchemaDesk" (168 : Nat) ({ cls := "SchemaDesk$Plan", name := "refresh", desc := "()V" } : Jvm.MethodName)) ∈ GW := gw_t4 (List.mem_of_getElem? (i := 22) rfl) rfl
theorem gw743 : (Jvm.Cond.instanceMethod ({ cls := "SchemaDesk$Plan", name := "refresh", desc := "()V" } : Jvm.MethodName)) ∈ GW := gw_t4 (List.mem_of_getElem? (i := 23) rfl) rfl
theorem gw744 : (Jvm.Cond.selects "SchemaDesk$Plan" ({ cls := "SchemaDesk$Plan", name := "refresh", desc := "()V" } : Jvm.MethodName) ({ cls := "SchemaDesk$Plan", name := "refresh", desc := "()V" } : Jvm.MethodName)) ∈ GW := gw_t4 (List.mem_of_getElem? (i := 24) rfl) rfl
theorem gw745 : (Jvm.Cond.code ({ cls := "SchemaDesk$Plan", name := "refresh", desc := "()V" } : Jvm.MethodName) prog_3_method_2_code (3 : Nat) (Option.none : Option Jvm.ClassFile.FieldType)) ∈ GW := gw_t4 (List.mem_of_getElem? (i := 25) rfl) rfl
theorem gw256 : (Jvm.Cond.fieldLink "SchemaDesk" (171 : Nat) "SchemaDesk$Plan" "circular" "Z") ∈ GW := gw_t2 (List.mem_of_getElem? (i := 16) rfl) rfl
theorem gw796 : (Jvm.Cond.methodLink "SchemaDesk" (178 : Nat) ({ cls := "SchemaDesk$Verdicts", name := "refresh", desc := "()V" } : Jvm.MethodName)) ∈ GW := gw_t4 (List.mem_of_getElem? (i := 76) rfl) rfl
theorem gw797 : (Jvm.Cond.instanceMethod ({ cls := "SchemaDesk$Verdicts", name := "refresh", desc := "()V" } : Jvm.MethodName)) ∈ GW := gw_t4 (List.mem_of_getElem? (i := 77) rfl) rfl
theorem gw798 : (Jvm.Cond.selects "SchemaDesk$Verdicts" ({ cls := "SchemaDesk$Verdicts", name := "refresh", desc := "()V" } : Jvm.MethodName) ({ cls := "SchemaDesk$Verdicts", name := "refresh", desc := "()V" } : Jvm.MethodName)) ∈ GW := gw_t4 (List.mem_of_getElem? (i := 78) rfl) rfl
theorem gw799 : (Jvm.Cond.code ({ cls := "SchemaDesk$Verdicts", name := "refresh", desc := "()V" } : Jvm.MethodName) prog_9_method_2_code (3 : Nat) (Option.none : Option Jvm.ClassFile.FieldType)) ∈ GW := gw_t4 (List.mem_of_getElem? (i := 79) rfl) rfl
theorem gw890 : (Jvm.Cond.methodLink "SchemaDesk" (179 : Nat) ({ cls := "SchemaDesk$Verdicts", name := "isHeld", desc := "(II)Z" } : Jvm.MethodName)) ∈ GW := gw_t4 (List.mem_of_getElem? (i := 170) rfl) rfl
def wq_Sd_holds (x1 : Int32) (x2 : Int32) (σ : Sg) (post : Int32 → Sg → Prop) : Prop := (wq_Sd_readTree (0 : Int32) σ (fun r1 σ1 => (r1 = 0 ∨ r1 = 13) ∧ (wq_Tr_has r1 x1 σ1 (fun r2 σ2 => ((r2 = 0 → False) ∧ (¬ r2 = 0 → (wq_Sd_readTree (1 : Int32) σ2 (fun r3 σ3 => (r3 = 0 ∨ r3 = 13) ∧ (wq_Tr_has r3 x2 σ3 (fun r4 σ4 => ((¬ r4 = 0 → (wq_Pl_refresh  σ4 (fun σ5 => (((σ5.1 29 7) = 0 → (wq_Vd_refresh  σ5 (fun σ6 => (wq_Vd_isHeld x1 x2 σ6 (fun r7 σ7 => (narrow .boolean (.int r7) = .int r7 ∧ post r7 σ7)))))) ∧ (¬ (σ5.1 29 7) = 0 → False))))) ∧ (r4 = 0 → False))))))))))))
set_option maxRecDepth 100000 in
set_option maxHeartbeats 4000000 in
theorem b_Sd_holds_0 {p : Program} {l : Launch} {e : Env} {s : State} {m : MethodId} {args : Array Value} {below : List Frame} {meth : Method} {c : Code} {D : va_G} {g : Gm} {A : Nat → Prop} {post : Int32 → Sg → Prop} (C : kC p s m args meth c k_Sd_holds 3 (some .boolean) GW R_Sd D vwCl g (Zk g) A) (x1 : Int32) (x2 : Int32) (σ : Sg) (H : Heap) (locs : List Loc) (ls : Array Slot) (hl : lv_has ls 3 [(0, .ref (g.1 51)), (1, .int x1), (2, .int x2)]) (hst : Wst D vwCl (WS g) A s σ H locs) (h : wq_Sd_holds x1 x2 σ post) : W p l e { frames := 37, cells := 0, slots := 0, locals := 928 } s m args below meth c H locs 0 0 (MQ below (QiW D vwCl (WS g) post A) args s 0 0 A) (F0 m 0 ls []) := by
  obtain ⟨hx, hb, hr, hml, hown, hts, hlocks, hK, hZ, hA⟩ := C
  unfold wq_Sd_holds at h
  refine lv_aload_n hx hb d_Sd_holds_0 rfl (lv_at hl 0 rfl) ?_
  refine lv_iconst (v := (0 : Int32)) hx hb d_Sd_holds_1 (by decide) ?_
  refine kw_callr (va_runV (As := [.int (0 : Int32)]) (rest := []) (b := g.1 51) ⟨hx, hb, hml, hown, hts⟩ (c_Sd_readTree l (0 : Int32) h) (cwV 1 hts (gd_v gw605 gw607 gs3 gw1 gw608) rfl rfl rfl (by decide +kernel) ⟨Nat.le_of_ble_eq_true rfl, Nat.le_of_ble_eq_true rfl⟩) ⟨kw_blind (Zk_ok g), va_recv hK hst.1 rfl (WS_o51 g σ), kw_pre (Zk_ok g) hK hZ hA hst⟩ rfl rfl hl.1 rfl (lv_room (Nat.le_of_ble_eq_true rfl)) d_Sd_holds_2 ⟨Nat.le_of_ble_eq_true rfl, Nat.le_of_ble_eq_true rfl⟩) hst hA (fun r1 σ1 H locs h hst => ?_)
  obtain ⟨hb1, h⟩ := h
  rcases hb1 with rfl | rfl
  · refine lv_iload_n hx hb d_Sd_holds_5 rfl (lv_at hl 1 rfl) ?_
    refine kw_calli (va_runV (As := [.int x1]) (rest := []) (b := g.1 0) ⟨hx, hb, hml, hown, hts⟩ (c_Tr_has_0 l x1 h) (cwV 1 hts (gd_v gw701 gw702 gw703 gw7 gw704) rfl rfl rfl (by decide +kernel) ⟨Nat.le_of_ble_eq_true rfl, Nat.le_of_ble_eq_true rfl⟩) ⟨kw_blind (Zk_ok g), va_recv hK hst.1 rfl (WS_o0 g σ1), kw_pre (Zk_ok g) hK hZ hA hst⟩ rfl rfl hl.1 rfl (lv_room (Nat.le_of_ble_eq_true rfl)) d_Sd_holds_6 ⟨Nat.le_of_ble_eq_true rfl, Nat.le_of_ble_eq_true rfl⟩) hst hA (fun r2 σ2 H locs h hst => ?_)
    refine lv_if_eq (tgt := 24) hx hb d_Sd_holds_9 (by decide) (fun hc => ?_) (fun hc => ?_)
    · replace h := h.1 hc
      exact h.elim
    · replace h := h.2 hc
      refine lv_aload_n hx hb d_Sd_holds_12 rfl (lv_at hl 0 rfl) ?_
      refine lv_iconst (v := (1 : Int32)) hx hb d_Sd_holds_13 (by decide) ?_
      refine kw_callr (va_runV (As := [.int (1 : Int32)]) (rest := []) (b := g.1 51) ⟨hx, hb, hml, hown, hts⟩ (c_Sd_readTree l (1 : Int32) h) (cwV 1 hts (gd_v gw605 gw607 gs3 gw1 gw608) rfl rfl rfl (by decide +kernel) ⟨Nat.le_of_ble_eq_true rfl, Nat.le_of_ble_eq_true rfl⟩) ⟨kw_blind (Zk_ok g), va_recv hK hst.1 rfl (WS_o51 g σ2), kw_pre (Zk_ok g) hK hZ hA hst⟩ rfl rfl hl.1 rfl (lv_room (Nat.le_of_ble_eq_true rfl)) d_Sd_holds_14 ⟨Nat.le_of_ble_eq_true rfl, Nat.le_of_ble_eq_true rfl⟩) hst hA (fun r3 σ3 H locs h hst => ?_)
      obtain ⟨hb1, h⟩ := h
      rcases hb1 with rfl | rfl
      · refine lv_iload_n hx hb d_Sd_holds_17 rfl (lv_at hl 2 rfl) ?_
        refine kw_calli (va_runV (As := [.int x2]) (rest := []) (b := g.1 0) ⟨hx, hb, hml, hown, hts⟩ (c_Tr_has_0 l x2 h) (cwV 1 hts (gd_v gw701 gw702 gw703 gw7 gw704) rfl rfl rfl (by decide +kernel) ⟨Nat.le_of_ble_eq_true rfl, Nat.le_of_ble_eq_true rfl⟩) ⟨kw_blind (Zk_ok g), va_recv hK hst.1 rfl (WS_o0 g σ3), kw_pre (Zk_ok g) hK hZ hA hst⟩ rfl rfl hl.1 rfl (lv_room (Nat.le_of_ble_eq_true rfl)) d_Sd_holds_18 ⟨Nat.le_of_ble_eq_true rfl, Nat.le_of_ble_eq_true rfl⟩) hst hA (fun r4 σ4 H locs h hst => ?_)
        refine lv_if_ne (tgt := 32) hx hb d_Sd_holds_21 (by decide) (fun hc => ?_) (fun hc => ?_)
        · replace h := h.1 hc
          refine lv_aload_n hx hb d_Sd_holds_32 rfl (lv_at hl 0 rfl) ?_
          refine va_get (D := D) (ci := 9) (C := R_Sd) (T := T_Sd) (N := 9) hx hb hts in_Sd hown hK hst.1 51 (WS_o51 g σ4) rfl 5 (by decide) (hts _ gw404) (fun _ h9 => h9) rfl d_Sd_holds_33 ?_
          refine kw_callv (va_runV (As := []) (rest := []) (b := g.1 29) ⟨hx, hb, hml, hown, hts⟩ (c_Pl_refresh l h) (cwV 0 hts (gd_v gw742 gw743 gw744 gw10 gw745) rfl rfl rfl (by decide +kernel) ⟨Nat.le_of_ble_eq_true rfl, Nat.le_of_ble_eq_true rfl⟩) ⟨kw_blind (Zk_ok g), va_recv hK hst.1 rfl (WS_o29 g σ4), kw_pre (Zk_ok g) hK hZ hA hst⟩ rfl rfl hl.1 rfl (lv_room (Nat.le_of_ble_eq_true rfl)) d_Sd_holds_36 ⟨Nat.le_of_ble_eq_true rfl, Nat.le_of_ble_eq_true rfl⟩) hst hA (fun σ5 H locs h hst => ?_)
          refine lv_aload_n hx hb d_Sd_holds_39 rfl (lv_at hl 0 rfl) ?_
          refine va_get (D := D) (ci := 9) (C := R_Sd) (T := T_Sd) (N := 9) hx hb hts in_Sd hown hK hst.1 51 (WS_o51 g σ5) rfl 5 (by decide) (hts _ gw404) (fun _ h9 => h9) rfl d_Sd_holds_40 ?_
          refine va_get (D := D) (ci := 5) (C := R_Pl) (T := T_Pl) (N := 10) hx hb hts in_Pl hown hK hst.1 29 (WS_o29 g σ5) rfl 7 (by decide) (hts _ gw256) (fun _ h9 => h9) rfl d_Sd_holds_43 ?_
          refine lv_if_eq (tgt := 57) hx hb d_Sd_holds_46 (by decide) (fun hc => ?_) (fun hc => ?_)
          · replace h := h.1 hc
            refine lv_aload_n hx hb d_Sd_holds_57 rfl (lv_at hl 0 rfl) ?_
            refine va_get (D := D) (ci := 9) (C := R_Sd) (T := T_Sd) (N := 9) hx hb hts in_Sd hown hK hst.1 51 (WS_o51 g σ5) rfl 6 (by decide) (hts _ gw405) (fun _ h9 => h9) rfl d_Sd_holds_58 ?_
            refine kw_callv (va_runV (As := []) (rest := []) (b := g.1 35) ⟨hx, hb, hml, hown, hts⟩ (c_Vd_refresh l h) (cwV 0 hts (gd_v gw796 gw797 gw798 gw11 gw799) rfl rfl rfl (by decide +kernel) ⟨Nat.le_of_ble_eq_true rfl, Nat.le_of_ble_eq_true rfl⟩) ⟨kw_blind (Zk_ok g), va_recv hK hst.1 rfl (WS_o35 g σ5), kw_pre (Zk_ok g) hK hZ hA hst⟩ rfl rfl hl.1 rfl (lv_room (Nat.le_of_ble_eq_true rfl)) d_Sd_holds_61 ⟨Nat.le_of_ble_eq_true rfl, Nat.le_of_ble_eq_true rfl⟩) hst hA (fun σ6 H locs h hst => ?_)
            refine lv_aload_n hx hb d_Sd_holds_64 rfl (lv_at hl 0 rfl) ?_
            refine va_get (D := D) (ci := 9) (C := R_Sd) (T := T_Sd) (N := 9) hx hb hts in_Sd hown hK hst.1 51 (WS_o51 g σ6) rfl 6 (by decide) (hts _ gw405) (fun _ h9 => h9) rfl d_Sd_holds_65 ?_
            refine lv_iload_n hx hb d_Sd_holds_68 rfl (lv_at hl 1 rfl) ?_
            refine lv_iload_n hx hb d_Sd_holds_69 rfl (lv_at hl 2 rfl) ?_
            refine kw_calli (va_runV (As := [.int x1, .int x2]) (rest := []) (b := g.1 35) ⟨hx, hb, hml, hown, hts⟩ (c_Vd_isHeld l x1 x2 h) (cwV 2 hts (gd_v gw890 gw883 gw884 gw11 gw885) rfl rfl rfl (by decide +kernel) ⟨Nat.le_of_ble_eq_true rfl, Nat.le_of_ble_eq_true rfl⟩) ⟨kw_blind (Zk_ok g), va_recv hK hst.1 rfl (WS_o35 g σ6), kw_pre (Zk_ok g) hK hZ hA hst⟩ rfl rfl hl.1 rfl (lv_room (Nat.le_of_ble_eq_true rfl)) d_Sd_holds_70 ⟨Nat.le_of_ble_eq_true rfl, Nat.le_of_ble_eq_true rfl⟩) hst hA (fun r7 σ7 H locs h hst => ?_)
            exact kw_zret hx hb hr hlocks hst h d_Sd_holds_73
          · replace h := h.2 hc
            exact h.elim
        · replace h := h.2 hc
          exact h.elim
      · refine lv_iload_n hx hb d_Sd_holds_17 rfl (lv_at hl 2 rfl) ?_
        refine kw_calli (va_runV (As := [.int x2]) (rest := []) (b := g.1 13) ⟨hx, hb, hml, hown, hts⟩ (c_Tr_has_13 l x2 h) (cwV 1 hts (gd_v gw701 gw702 gw703 gw7 gw704) rfl rfl rfl (by decide +kernel) ⟨Nat.le_of_ble_eq_true rfl, Nat.le_of_ble_eq_true rfl⟩) ⟨kw_blind (Zk_ok g), va_recv hK hst.1 rfl (WS_o13 g σ3), kw_pre (Zk_ok g) hK hZ hA hst⟩ rfl rfl hl.1 rfl (lv_room (Nat.le_of_ble_eq_true rfl)) d_Sd_holds_18 ⟨Nat.le_of_ble_eq_true rfl, Nat.le_of_ble_eq_true rfl⟩) hst hA (fun r4 σ4 H locs h hst => ?_)
        refine lv_if_ne (tgt := 32) hx hb d_Sd_holds_21 (by decide) (fun hc => ?_) (fun hc => ?_)
        · replace h := h.1 hc
          refine lv_aload_n hx hb d_Sd_holds_32 rfl (lv_at hl 0 rfl) ?_
          refine va_get (D := D) (ci := 9) (C := R_Sd) (T := T_Sd) (N := 9) hx hb hts in_Sd hown hK hst.1 51 (WS_o51 g σ4) rfl 5 (by decide) (hts _ gw404) (fun _ h9 => h9) rfl d_Sd_holds_33 ?_
          refine kw_callv (va_runV (As := []) (rest := []) (b := g.1 29) ⟨hx, hb, hml, hown, hts⟩ (c_Pl_refresh l h) (cwV 0 hts (gd_v gw742 gw743 gw744 gw10 gw745) rfl rfl rfl (by decide +kernel) ⟨Nat.le_of_ble_eq_true rfl, Nat.le_of_ble_eq_true rfl⟩) ⟨kw_blind (Zk_ok g), va_recv hK hst.1 rfl (WS_o29 g σ4), kw_pre (Zk_ok g) hK hZ hA hst⟩ rfl rfl hl.1 rfl (lv_room (Nat.le_of_ble_eq_true rfl)) d_Sd_holds_36 ⟨Nat.le_of_ble_eq_true rfl, Nat.le_of_ble_eq_true rfl⟩) hst hA (fun σ5 H locs h hst => ?_)
          refine lv_aload_n hx hb d_Sd_holds_39 rfl (lv_at hl 0 rfl) ?_
          refine va_get (D := D) (ci := 9) (C := R_Sd) (T := T_Sd) (N := 9) hx hb hts in_Sd hown hK hst.1 51 (WS_o51 g σ5) rfl 5 (by decide) (hts _ gw404) (fun _ h9 => h9) rfl d_Sd_holds_40 ?_
          refine va_get (D := D) (ci := 5) (C := R_Pl) (T := T_Pl) (N := 10) hx hb hts in_Pl hown hK hst.1 29 (WS_o29 g σ5) rfl 7 (by decide) (hts _ gw256) (fun _ h9 => h9) rfl d_Sd_holds_43 ?_
          refine lv_if_eq (tgt := 57) hx hb d_Sd_holds_46 (by decide) (fun hc => ?_) (fun hc => ?_)
          · replace h := h.1 hc
            refine lv_aload_n hx hb d_Sd_holds_57 rfl (lv_at hl 0 rfl) ?_
            refine va_get (D := D) (ci := 9) (C := R_Sd) (T := T_Sd) (N := 9) hx hb hts in_Sd hown hK hst.1 51 (WS_o51 g σ5) rfl 6 (by decide) (hts _ gw405) (fun _ h9 => h9) rfl d_Sd_holds_58 ?_
            refine kw_callv (va_runV (As := []) (rest := []) (b := g.1 35) ⟨hx, hb, hml, hown, hts⟩ (c_Vd_refresh l h) (cwV 0 hts (gd_v gw796 gw797 gw798 gw11 gw799) rfl rfl rfl (by decide +kernel) ⟨Nat.le_of_ble_eq_true rfl, Nat.le_of_ble_eq_true rfl⟩) ⟨kw_blind (Zk_ok g), va_recv hK hst.1 rfl (WS_o35 g σ5), kw_pre (Zk_ok g) hK hZ hA hst⟩ rfl rfl hl.1 rfl (lv_room (Nat.le_of_ble_eq_true rfl)) d_Sd_holds_61 ⟨Nat.le_of_ble_eq_true rfl, Nat.le_of_ble_eq_true rfl⟩) hst hA (fun σ6 H locs h hst => ?_)
            refine lv_aload_n hx hb d_Sd_holds_64 rfl (lv_at hl 0 rfl) ?_
            refine va_get (D := D) (ci := 9) (C := R_Sd) (T := T_Sd) (N := 9) hx hb hts in_Sd hown hK hst.1 51 (WS_o51 g σ6) rfl 6 (by decide) (hts _ gw405) (fun _ h9 => h9) rfl d_Sd_holds_65 ?_
            refine lv_iload_n hx hb d_Sd_holds_68 rfl (lv_at hl 1 rfl) ?_
            refine lv_iload_n hx hb d_Sd_holds_69 rfl (lv_at hl 2 rfl) ?_
            refine kw_calli (va_runV (As := [.int x1, .int x2]) (rest := []) (b := g.1 35) ⟨hx, hb, hml, hown, hts⟩ (c_Vd_isHeld l x1 x2 h) (cwV 2 hts (gd_v gw890 gw883 gw884 gw11 gw885) rfl rfl rfl (by decide +kernel) ⟨Nat.le_of_ble_eq_true rfl, Nat.le_of_ble_eq_true rfl⟩) ⟨kw_blind (Zk_ok g), va_recv hK hst.1 rfl (WS_o35 g σ6), kw_pre (Zk_ok g) hK hZ hA hst⟩ rfl rfl hl.1 rfl (lv_room (Nat.le_of_ble_eq_true rfl)) d_Sd_holds_70 ⟨Nat.le_of_ble_eq_true rfl, Nat.le_of_ble_eq_true rfl⟩) hst hA (fun r7 σ7 H locs h hst => ?_)
            exact kw_zret hx hb hr hlocks hst h d_Sd_holds_73
          · replace h := h.2 hc
            exact h.elim
        · replace h := h.2 hc
          exact h.elim
  · refine lv_iload_n hx hb d_Sd_holds_5 rfl (lv_at hl 1 rfl) ?_
    refine kw_calli (va_runV (As := [.int x1]) (rest := []) (b := g.1 13) ⟨hx, hb, hml, hown, hts⟩ (c_Tr_has_13 l x1 h) (cwV 1 hts (gd_v gw701 gw702 gw703 gw7 gw704) rfl rfl rfl (by decide +kernel) ⟨Nat.le_of_ble_eq_true rfl, Nat.le_of_ble_eq_true rfl⟩) ⟨kw_blind (Zk_ok g), va_recv hK hst.1 rfl (WS_o13 g σ1), kw_pre (Zk_ok g) hK hZ hA hst⟩ rfl rfl hl.1 rfl (lv_room (Nat.le_of_ble_eq_true rfl)) d_Sd_holds_6 ⟨Nat.le_of_ble_eq_true rfl, Nat.le_of_ble_eq_true rfl⟩) hst hA (fun r2 σ2 H locs h hst => ?_)
    refine lv_if_eq (tgt := 24) hx hb d_Sd_holds_9 (by decide) (fun hc => ?_) (fun hc => ?_)
    · replace h := h.1 hc
      exact h.elim
    · replace h := h.2 hc
      refine lv_aload_n hx hb d_Sd_holds_12 rfl (lv_at hl 0 rfl) ?_
      refine lv_iconst (v := (1 : Int32)) hx hb d_Sd_holds_13 (by decide) ?_
      refine kw_callr (va_runV (As := [.int (1 : Int32)]) (rest := []) (b := g.1 51) ⟨hx, hb, hml, hown, hts⟩ (c_Sd_readTree l (1 : Int32) h) (cwV 1 hts (gd_v gw605 gw607 gs3 gw1 gw608) rfl rfl rfl (by decide +kernel) ⟨Nat.le_of_ble_eq_true rfl, Nat.le_of_ble_eq_true rfl⟩) ⟨kw_blind (Zk_ok g), va_recv hK hst.1 rfl (WS_o51 g σ2), kw_pre (Zk_ok g) hK hZ hA hst⟩ rfl rfl hl.1 rfl (lv_room (Nat.le_of_ble_eq_true rfl)) d_Sd_holds_14 ⟨Nat.le_of_ble_eq_true rfl, Nat.le_of_ble_eq_true rfl⟩) hst hA (fun r3 σ3 H locs h hst => ?_)
      obtain ⟨hb1, h⟩ := h
      rcases hb1 with rfl | rfl
      · refine lv_iload_n hx hb d_Sd_holds_17 rfl (lv_at hl 2 rfl) ?_
        refine kw_calli (va_runV (As := [.int x2]) (rest := []) (b := g.1 0) ⟨hx, hb, hml, hown, hts⟩ (c_Tr_has_0 l x2 h) (cwV 1 hts (gd_v gw701 gw702 gw703 gw7 gw704) rfl rfl rfl (by decide +kernel) ⟨Nat.le_of_ble_eq_true rfl, Nat.le_of_ble_eq_true rfl⟩) ⟨kw_blind (Zk_ok g), va_recv hK hst.1 rfl (WS_o0 g σ3), kw_pre (Zk_ok g) hK hZ hA hst⟩ rfl rfl hl.1 rfl (lv_room (Nat.le_of_ble_eq_true rfl)) d_Sd_holds_18 ⟨Nat.le_of_ble_eq_true rfl, Nat.le_of_ble_eq_true rfl⟩) hst hA (fun r4 σ4 H locs h hst => ?_)
        refine lv_if_ne (tgt := 32) hx hb d_Sd_holds_21 (by decide) (fun hc => ?_) (fun hc => ?_)
        · replace h := h.1 hc
          refine lv_aload_n hx hb d_Sd_holds_32 rfl (lv_at hl 0 rfl) ?_
          refine va_get (D := D) (ci := 9) (C := R_Sd) (T := T_Sd) (N := 9) hx hb hts in_Sd hown hK hst.1 51 (WS_o51 g σ4) rfl 5 (by decide) (hts _ gw404) (fun _ h9 => h9) rfl d_Sd_holds_33 ?_
          refine kw_callv (va_runV (As := []) (rest := []) (b := g.1 29) ⟨hx, hb, hml, hown, hts⟩ (c_Pl_refresh l h) (cwV 0 hts (gd_v gw742 gw743 gw744 gw10 gw745) rfl rfl rfl (by decide +kernel) ⟨Nat.le_of_ble_eq_true rfl, Nat.le_of_ble_eq_true rfl⟩) ⟨kw_blind (Zk_ok g), va_recv hK hst.1 rfl (WS_o29 g σ4), kw_pre (Zk_ok g) hK hZ hA hst⟩ rfl rfl hl.1 rfl (lv_room (Nat.le_of_ble_eq_true rfl)) d_Sd_holds_36 ⟨Nat.le_of_ble_eq_true rfl, Nat.le_of_ble_eq_true rfl⟩) hst hA (fun σ5 H locs h hst => ?_)
          refine lv_aload_n hx hb d_Sd_holds_39 rfl (lv_at hl 0 rfl) ?_
          refine va_get (D := D) (ci := 9) (C := R_Sd) (T := T_Sd) (N := 9) hx hb hts in_Sd hown hK hst.1 51 (WS_o51 g σ5) rfl 5 (by decide) (hts _ gw404) (fun _ h9 => h9) rfl d_Sd_holds_40 ?_
          refine va_get (D := D) (ci := 5) (C := R_Pl) (T := T_Pl) (N := 10) hx hb hts in_Pl hown hK hst.1 29 (WS_o29 g σ5) rfl 7 (by decide) (hts _ gw256) (fun _ h9 => h9) rfl d_Sd_holds_43 ?_
          refine lv_if_eq (tgt := 57) hx hb d_Sd_holds_46 (by decide) (fun hc => ?_) (fun hc => ?_)
          · replace h := h.1 hc
            refine lv_aload_n hx hb d_Sd_holds_57 rfl (lv_at hl 0 rfl) ?_
            refine va_get (D := D) (ci := 9) (C := R_Sd) (T := T_Sd) (N := 9) hx hb hts in_Sd hown hK hst.1 51 (WS_o51 g σ5) rfl 6 (by decide) (hts _ gw405) (fun _ h9 => h9) rfl d_Sd_holds_58 ?_
            refine kw_callv (va_runV (As := []) (rest := []) (b := g.1 35) ⟨hx, hb, hml, hown, hts⟩ (c_Vd_refresh l h) (cwV 0 hts (gd_v gw796 gw797 gw798 gw11 gw799) rfl rfl rfl (by decide +kernel) ⟨Nat.le_of_ble_eq_true rfl, Nat.le_of_ble_eq_true rfl⟩) ⟨kw_blind (Zk_ok g), va_recv hK hst.1 rfl (WS_o35 g σ5), kw_pre (Zk_ok g) hK hZ hA hst⟩ rfl rfl hl.1 rfl (lv_room (Nat.le_of_ble_eq_true rfl)) d_Sd_holds_61 ⟨Nat.le_of_ble_eq_true rfl, Nat.le_of_ble_eq_true rfl⟩) hst hA (fun σ6 H locs h hst => ?_)
            refine lv_aload_n hx hb d_Sd_holds_64 rfl (lv_at hl 0 rfl) ?_
            refine va_get (D := D) (ci := 9) (C := R_Sd) (T := T_Sd) (N := 9) hx hb hts in_Sd hown hK hst.1 51 (WS_o51 g σ6) rfl 6 (by decide) (hts _ gw405) (fun _ h9 => h9) rfl d_Sd_holds_65 ?_
            refine lv_iload_n hx hb d_Sd_holds_68 rfl (lv_at hl 1 rfl) ?_
            refine lv_iload_n hx hb d_Sd_holds_69 rfl (lv_at hl 2 rfl) ?_
            refine kw_calli (va_runV (As := [.int x1, .int x2]) (rest := []) (b := g.1 35) ⟨hx, hb, hml, hown, hts⟩ (c_Vd_isHeld l x1 x2 h) (cwV 2 hts (gd_v gw890 gw883 gw884 gw11 gw885) rfl rfl rfl (by decide +kernel) ⟨Nat.le_of_ble_eq_true rfl, Nat.le_of_ble_eq_true rfl⟩) ⟨kw_blind (Zk_ok g), va_recv hK hst.1 rfl (WS_o35 g σ6), kw_pre (Zk_ok g) hK hZ hA hst⟩ rfl rfl hl.1 rfl (lv_room (Nat.le_of_ble_eq_true rfl)) d_Sd_holds_70 ⟨Nat.le_of_ble_eq_true rfl, Nat.le_of_ble_eq_true rfl⟩) hst hA (fun r7 σ7 H locs h hst => ?_)
            exact kw_zret hx hb hr hlocks hst h d_Sd_holds_73
          · replace h := h.2 hc
            exact h.elim
        · replace h := h.2 hc
          exact h.elim
      · refine lv_iload_n hx hb d_Sd_holds_17 rfl (lv_at hl 2 rfl) ?_
        refine kw_calli (va_runV (As := [.int x2]) (rest := []) (b := g.1 13) ⟨hx, hb, hml, hown, hts⟩ (c_Tr_has_13 l x2 h) (cwV 1 hts (gd_v gw701 gw702 gw703 gw7 gw704) rfl rfl rfl (by decide +kernel) ⟨Nat.le_of_ble_eq_true rfl, Nat.le_of_ble_eq_true rfl⟩) ⟨kw_blind (Zk_ok g), va_recv hK hst.1 rfl (WS_o13 g σ3), kw_pre (Zk_ok g) hK hZ hA hst⟩ rfl rfl hl.1 rfl (lv_room (Nat.le_of_ble_eq_true rfl)) d_Sd_holds_18 ⟨Nat.le_of_ble_eq_true rfl, Nat.le_of_ble_eq_true rfl⟩) hst hA (fun r4 σ4 H locs h hst => ?_)
        refine lv_if_ne (tgt := 32) hx hb d_Sd_holds_21 (by decide) (fun hc => ?_) (fun hc => ?_)
        · replace h := h.1 hc
          refine lv_aload_n hx hb d_Sd_holds_32 rfl (lv_at hl 0 rfl) ?_
          refine va_get (D := D) (ci := 9) (C := R_Sd) (T := T_Sd) (N := 9) hx hb hts in_Sd hown hK hst.1 51 (WS_o51 g σ4) rfl 5 (by decide) (hts _ gw404) (fun _ h9 => h9) rfl d_Sd_holds_33 ?_
          refine kw_callv (va_runV (As := []) (rest := []) (b := g.1 29) ⟨hx, hb, hml, hown, hts⟩ (c_Pl_refresh l h) (cwV 0 hts (gd_v gw742 gw743 gw744 gw10 gw745) rfl rfl rfl (by decide +kernel) ⟨Nat.le_of_ble_eq_true rfl, Nat.le_of_ble_eq_true rfl⟩) ⟨kw_blind (Zk_ok g), va_recv hK hst.1 rfl (WS_o29 g σ4), kw_pre (Zk_ok g) hK hZ hA hst⟩ rfl rfl hl.1 rfl (lv_room (Nat.le_of_ble_eq_true rfl)) d_Sd_holds_36 ⟨Nat.le_of_ble_eq_true rfl, Nat.le_of_ble_eq_true rfl⟩) hst hA (fun σ5 H locs h hst => ?_)
          refine lv_aload_n hx hb d_Sd_holds_39 rfl (lv_at hl 0 rfl) ?_
          refine va_get (D := D) (ci := 9) (C := R_Sd) (T := T_Sd) (N := 9) hx hb hts in_Sd hown hK hst.1 51 (WS_o51 g σ5) rfl 5 (by decide) (hts _ gw404) (fun _ h9 => h9) rfl d_Sd_holds_40 ?_
          refine va_get (D := D) (ci := 5) (C := R_Pl) (T := T_Pl) (N := 10) hx hb hts in_Pl hown hK hst.1 29 (WS_o29 g σ5) rfl 7 (by decide) (hts _ gw256) (fun _ h9 => h9) rfl d_Sd_holds_43 ?_
          refine lv_if_eq (tgt := 57) hx hb d_Sd_holds_46 (by decide) (fun hc => ?_) (fun hc => ?_)
          · replace h := h.1 hc
            refine lv_aload_n hx hb d_Sd_holds_57 rfl (lv_at hl 0 rfl) ?_
            refine va_get (D := D) (ci := 9) (C := R_Sd) (T := T_Sd) (N := 9) hx hb hts in_Sd hown hK hst.1 51 (WS_o51 g σ5) rfl 6 (by decide) (hts _ gw405) (fun _ h9 => h9) rfl d_Sd_holds_58 ?_
            refine kw_callv (va_runV (As := []) (rest := []) (b := g.1 35) ⟨hx, hb, hml, hown, hts⟩ (c_Vd_refresh l h) (cwV 0 hts (gd_v gw796 gw797 gw798 gw11 gw799) rfl rfl rfl (by decide +kernel) ⟨Nat.le_of_ble_eq_true rfl, Nat.le_of_ble_eq_true rfl⟩) ⟨kw_blind (Zk_ok g), va_recv hK hst.1 rfl (WS_o35 g σ5), kw_pre (Zk_ok g) hK hZ hA hst⟩ rfl rfl hl.1 rfl (lv_room (Nat.le_of_ble_eq_true rfl)) d_Sd_holds_61 ⟨Nat.le_of_ble_eq_true rfl, Nat.le_of_ble_eq_true rfl⟩) hst hA (fun σ6 H locs h hst => ?_)
            refine lv_aload_n hx hb d_Sd_holds_64 rfl (lv_at hl 0 rfl) ?_
            refine va_get (D := D) (ci := 9) (C := R_Sd) (T := T_Sd) (N := 9) hx hb hts in_Sd hown hK hst.1 51 (WS_o51 g σ6) rfl 6 (by decide) (hts _ gw405) (fun _ h9 => h9) rfl d_Sd_holds_65 ?_
            refine lv_iload_n hx hb d_Sd_holds_68 rfl (lv_at hl 1 rfl) ?_
            refine lv_iload_n hx hb d_Sd_holds_69 rfl (lv_at hl 2 rfl) ?_
            refine kw_calli (va_runV (As := [.int x1, .int x2]) (rest := []) (b := g.1 35) ⟨hx, hb, hml, hown, hts⟩ (c_Vd_isHeld l x1 x2 h) (cwV 2 hts (gd_v gw890 gw883 gw884 gw11 gw885) rfl rfl rfl (by decide +kernel) ⟨Nat.le_of_ble_eq_true rfl, Nat.le_of_ble_eq_true rfl⟩) ⟨kw_blind (Zk_ok g), va_recv hK hst.1 rfl (WS_o35 g σ6), kw_pre (Zk_ok g) hK hZ hA hst⟩ rfl rfl hl.1 rfl (lv_room (Nat.le_of_ble_eq_true rfl)) d_Sd_holds_70 ⟨Nat.le_of_ble_eq_true rfl, Nat.le_of_ble_eq_true rfl⟩) hst hA (fun r7 σ7 H locs h hst => ?_)
            exact kw_zret hx hb hr hlocks hst h d_Sd_holds_73
          · replace h := h.2 hc
            exact h.elim
        · replace h := h.2 hc
          exact h.elim
set_option maxRecDepth 100000 in
set_option maxHeartbeats 4000000 in
theorem c_Sd_holds (l : Launch) {D : va_G} {g : Gm} {sz : Nat} (x1 : Int32) (x2 : Int32) {σ : Sg} {post : Int32 → Sg → Prop} (h : wq_Sd_holds x1 x2 σ post) : Met l y_Sd_holds (.code y_Sd_holds k_Sd_holds 3 (some .boolean) :: GW) { frames := 37, cells := 0, slots := 0, locals := 928 } (PcW D vwCl (WS g) g (Zk g) σ sz [.ref (g.1 51), .int x1, .int x2]) (QiW D vwCl (WS g) post (va_A (WS g σ) sz)) 0 0 (va_A (WS g σ) sz) := by
  refine kw_entry (own := R_Sd) (by decide) rfl rfl (Nat.le_of_ble_eq_true rfl) ?_
  intro p e s m below meth c ls hsz C hin hl hst
  exact b_Sd_holds_0 C x1 x2 σ _ _ ls hl hst h
/-! SchemaDesk.diagnostic (II)I -/
abbrev k_Sd_diagnostic : ByteArray := prog_1_method_14_code
abbrev y_Sd_diagnostic : MethodName := ⟨"SchemaDesk", "diagnostic", "(II)I"⟩
theorem d_Sd_diagnostic_0 : decode k_Sd_diagnostic 0 = .ok (.iload_n 2, 1) := by decide +kernel
theorem d_Sd_diagnostic_1 : decode k_Sd_diagnostic 1 = .ok (.ifCond .lt 8, 3) := by decide +kernel
theorem d_Sd_diagnostic_4 : decode k_Sd_diagnostic 4 = .ok (.iload_n 2, 1) := by decide +kernel
theorem d_Sd_diagnostic_5 : decode k_Sd_diagnostic 5 = .ok (.iconst 2, 1) := by decide +kernel
theorem d_Sd_diagnostic_6 : decode k_Sd_diagnostic 6 = .ok (.if_icmp .le 11, 3) := by decide +kernel
theorem d_Sd_diagnostic_9 : decode k_Sd_diagnostic 9 = .ok (.new 112, 3) := by decide +kernel
theorem d_Sd_diagnostic_12 : decode k_Sd_diagnostic 12 = .ok (.dup, 1) := by decide +kernel
theorem d_Sd_diagnostic_13 : decode k_Sd_diagnostic 13 = .ok (.invokespecial 114, 3) := by decide +kernel
theorem d_Sd_diagnostic_16 : decode k_Sd_diagnostic 16 = .ok (.athrow, 1) := by decide +kernel
theorem d_Sd_diagnostic_17 : decode k_Sd_diagnostic 17 = .ok (.iload_n 1, 1) := by decide +kernel
theorem d_Sd_diagnostic_18 : decode k_Sd_diagnostic 18 = .ok (.ifCond .lt 14, 3) := by decide +kernel
theorem d_Sd_diagnostic_21 : decode k_Sd_diagnostic 21 = .ok (.iload_n 1, 1) := by decide +kernel
theorem d_Sd_diagnostic_22 : decode k_Sd_diagnostic 22 = .ok (.aload_n 0, 1) := by decide +kernel
theorem d_Sd_diagnostic_23 : decode k_Sd_diagnostic 23 = .ok (.getfield 66, 3) := by decide +kernel
theorem d_Sd_diagnostic_26 : decode k_Sd_diagnostic 26 = .ok (.getfield 186, 3) := by decide +kernel
theorem d_Sd_diagnostic_29 : decode k_Sd_diagnostic 29 = .ok (.if_icmp .lt 11, 3) := by decide +kernel
theorem d_Sd_diagnostic_32 : decode k_Sd_diagnostic 32 = .ok (.new 137, 3) := by decide +kernel
theorem d_Sd_diagnostic_35 : decode k_Sd_diagnostic 35 = .ok (.dup, 1) := by decide +kernel
theorem d_Sd_diagnostic_36 : decode k_Sd_diagnostic 36 = .ok (.invokespecial 139, 3) := by decide +kernel
theorem d_Sd_diagnostic_39 : decode k_Sd_diagnostic 39 = .ok (.athrow, 1) := by decide +kernel
theorem d_Sd_diagnostic_40 : decode k_Sd_diagnostic 40 = .ok (.iload_n 2, 1) := by decide +kernel
theorem d_Sd_diagnostic_41 : decode k_Sd_diagnostic 41 = .ok (.lookupswitch 45 #[(0, 27), (1, 36)], 27) := by decide +kernel
theorem d_Sd_diagnostic_68 : decode k_Sd_diagnostic 68 = .ok (.aload_n 0, 1) := by decide +kernel
theorem d_Sd_diagnostic_69 : decode k_Sd_diagnostic 69 = .ok (.getfield 66, 3) := by decide +kernel
theorem d_Sd_diagnostic_72 : decode k_Sd_diagnostic 72 = .ok (.iload_n 1, 1) := by decide +kernel
theorem d_Sd_diagnostic_73 : decode k_Sd_diagnostic 73 = .ok (.invokevirtual 189, 3) := by decide +kernel
theorem d_Sd_diagnostic_76 : decode k_Sd_diagnostic 76 = .ok (.ireturn, 1) := by decide +kernel
theorem d_Sd_diagnostic_77 : decode k_Sd_diagnostic 77 = .ok (.aload_n 0, 1) := by decide +kernel
theorem d_Sd_diagnostic_78 : decode k_Sd_diagnostic 78 = .ok (.getfield 66, 3) := by decide +kernel
theorem d_Sd_diagnostic_81 : decode k_Sd_diagnostic 81 = .ok (.iload_n 1, 1) := by decide +kernel
theorem d_Sd_diagnostic_82 : decode k_Sd_diagnostic 82 = .ok (.invokevirtual 192, 3) := by decide +kernel
theorem d_Sd_diagnostic_85 : decode k_Sd_diagnostic 85 = .ok (.ireturn, 1) := by decide +kernel
theorem d_Sd_diagnostic_86 : decode k_Sd_diagnostic 86 = .ok (.aload_n 0, 1) := by decide +kernel
theorem d_Sd_diagnostic_87 : decode k_Sd_diagnostic 87 = .ok (.getfield 66, 3) := by decide +kernel
theorem d_Sd_diagnostic_90 : decode k_Sd_diagnostic 90 = .ok (.iload_n 1, 1) := by decide +kernel
theorem d_Sd_diagnostic_91 : decode k_Sd_diagnostic 91 = .ok (.invokevirtual 195, 3) := by decide +kernel
theorem d_Sd_diagnostic_94 : decode k_Sd_diagnostic 94 = .ok (.ireturn, 1) := by decide +kernel
theorem gw406 : (Jvm.Cond.fieldLink "SchemaDesk" (66 : Nat) "SchemaDesk" "report" "LSchemaDesk$Report;") ∈ GW := gw_t2 (List.mem_of_getElem? (i := 166) rfl) rfl
theorem gw334 : (Jvm.Cond.fieldLink "SchemaDesk" (186 : Nat) "SchemaDesk$Report" "count" "I") ∈ GW := gw_t2 (List.mem_of_getElem? (i := 94) rfl) rfl
theorem gw957 : (Jvm.Cond.methodLink "SchemaDesk" (189 : Nat) ({ cls := "SchemaDesk$Report", name := "codeOf", desc := "(I)I" } : Jvm.MethodName)) ∈ GW := gw_t4 (List.mem_of_getElem? (i := 237) rfl) rfl
theorem gw958 : (Jvm.Cond.instanceMethod ({ cls := "SchemaDesk$Report", name := "codeOf", desc := "(I)I" } : Jvm.MethodName)) ∈ GW := gw_t4 (List.mem_of_getElem? (i := 238) rfl) rfl
theorem gw959 : (Jvm.Cond.selects "SchemaDesk$Report" ({ cls := "SchemaDesk$Report", name := "codeOf", desc := "(I)I" } : Jvm.MethodName) ({ cls := "SchemaDesk$Report", name := "codeOf", desc := "(I)I" } : Jvm.MethodName)) ∈ GW := gw_t4 (List.mem_of_getElem? (i := 239) rfl) rfl
theorem gw960 : (Jvm.Cond.code ({ cls := "SchemaDesk$Report", name := "codeOf", desc := "(I)I" } : Jvm.MethodName) prog_6_method_2_code (2 : Nat) (Option.some Jvm.ClassFile.FieldType.int)) ∈ GW := gw_t5 (List.mem_of_getElem? (i := 0) rfl) rfl
theorem gw961 : (Jvm.Cond.methodLink "SchemaDesk" (192 : Nat) ({ cls := "SchemaDesk$Report", name := "documentNodeOf", desc := "(I)I" } : Jvm.MethodName)) ∈ GW := gw_t5 (List.mem_of_getElem? (i := 1) rfl) rfl
theorem gw962 : (Jvm.Cond.instanceMethod ({ cls := "SchemaDesk$Report", name := "documentNodeOf", desc := "(I)I" } : Jvm.MethodName)) ∈ GW := gw_t5 (List.mem_of_getElem? (i := 2) rfl) rfl
theorem gw963 : (Jvm.Cond.selects "SchemaDesk$Report" ({ cls := "SchemaDesk$Report", name := "documentNodeOf", desc := "(I)I" } : Jvm.MethodName) ({ cls := "SchemaDesk$Report", name := "documentNodeOf", desc := "(I)I" } : Jvm.MethodName)) ∈ GW := gw_t5 (List.mem_of_getElem? (i := 3) rfl) rfl
theorem gw964 : (Jvm.Cond.code ({ cls := "SchemaDesk$Report", name := "documentNodeOf", desc := "(I)I" } : Jvm.MethodName) prog_6_method_3_code (2 : Nat) (Option.some Jvm.ClassFile.FieldType.int)) ∈ GW := gw_t5 (List.mem_of_getElem? (i := 4) rfl) rfl
theorem gw965 : (Jvm.Cond.methodLink "SchemaDesk" (195 : Nat) ({ cls := "SchemaDesk$Report", name := "schemaNodeOf", desc := "(I)I" } : Jvm.MethodName)) ∈ GW := gw_t5 (List.mem_of_getElem? (i := 5) rfl) rfl
theorem gw966 : (Jvm.Cond.instanceMethod ({ cls := "SchemaDesk$Report", name := "schemaNodeOf", desc := "(I)I" } : Jvm.MethodName)) ∈ GW := gw_t5 (List.mem_of_getElem? (i := 6) rfl) rfl
theorem gw967 : (Jvm.Cond.selects "SchemaDesk$Report" ({ cls := "SchemaDesk$Report", name := "schemaNodeOf", desc := "(I)I" } : Jvm.MethodName) ({ cls := "SchemaDesk$Report", name := "schemaNodeOf", desc := "(I)I" } : Jvm.MethodName)) ∈ GW := gw_t5 (List.mem_of_getElem? (i := 7) rfl) rfl
theorem gw968 : (Jvm.Cond.code ({ cls := "SchemaDesk$Report", name := "schemaNodeOf", desc := "(I)I" } : Jvm.MethodName) prog_6_method_4_code (2 : Nat) (Option.some Jvm.ClassFile.FieldType.int)) ∈ GW := gw_t5 (List.mem_of_getElem? (i := 8) rfl) rfl
def wq_Sd_diagnostic (x1 : Int32) (x2 : Int32) (σ : Sg) (post : Int32 → Sg → Prop) : Prop := ((x2 < 0 → False) ∧ (¬ x2 < 0 → ((x2 ≤ (2 : Int32) → ((x1 < 0 → False) ∧ (¬ x1 < 0 → ((x1 < (σ.1 40 0) → ((x2 = 0 → (wq_Rp_codeOf x1 σ (fun r1 σ1 => post r1 σ1))) ∧ (x2 = 1 → (wq_Rp_documentNodeOf x1 σ (fun r1 σ1 => post r1 σ1))) ∧ ((¬ x2 = 0 ∧ ¬ x2 = 1) → (wq_Rp_schemaNodeOf x1 σ (fun r1 σ1 => post r1 σ1))))) ∧ (¬ x1 < (σ.1 40 0) → False))))) ∧ (¬ x2 ≤ (2 : Int32) → False))))
set_option maxRecDepth 100000 in
set_option maxHeartbeats 4000000 in
theorem b_Sd_diagnostic_0 {p : Program} {l : Launch} {e : Env} {s : State} {m : MethodId} {args : Array Value} {below : List Frame} {meth : Method} {c : Code} {D : va_G} {g : Gm} {A : Nat → Prop} {post : Int32 → Sg → Prop} (C : kC p s m args meth c k_Sd_diagnostic 3 (some .int) GW R_Sd D vwCl g (Zk g) A) (x1 : Int32) (x2 : Int32) (σ : Sg) (H : Heap) (locs : List Loc) (ls : Array Slot) (hl : lv_has ls 3 [(0, .ref (g.1 51)), (1, .int x1), (2, .int x2)]) (hst : Wst D vwCl (WS g) A s σ H locs) (h : wq_Sd_diagnostic x1 x2 σ post) : W p l e { frames := 1, cells := 0, slots := 0, locals := 21 } s m args below meth c H locs 0 0 (MQ below (QiW D vwCl (WS g) post A) args s 0 0 A) (F0 m 0 ls []) := by
  obtain ⟨hx, hb, hr, hml, hown, hts, hlocks, hK, hZ, hA⟩ := C
  unfold wq_Sd_diagnostic at h
  refine lv_iload_n hx hb d_Sd_diagnostic_0 rfl (lv_at hl 2 rfl) ?_
  refine lv_if_lt (tgt := 9) hx hb d_Sd_diagnostic_1 (by decide) (fun hc => ?_) (fun hc => ?_)
  · replace h := h.1 hc
    exact h.elim
  · replace h := h.2 hc
    refine lv_iload_n hx hb d_Sd_diagnostic_4 rfl (lv_at hl 2 rfl) ?_
    refine lv_iconst (v := (2 : Int32)) hx hb d_Sd_diagnostic_5 (by decide) ?_
    refine lv_icmp_le (tgt := 17) hx hb d_Sd_diagnostic_6 (by decide) (fun hc => ?_) (fun hc => ?_)
    · replace h := h.1 hc
      refine lv_iload_n hx hb d_Sd_diagnostic_17 rfl (lv_at hl 1 rfl) ?_
      refine lv_if_lt (tgt := 32) hx hb d_Sd_diagnostic_18 (by decide) (fun hc => ?_) (fun hc => ?_)
      · replace h := h.1 hc
        exact h.elim
      · replace h := h.2 hc
        refine lv_iload_n hx hb d_Sd_diagnostic_21 rfl (lv_at hl 1 rfl) ?_
        refine lv_aload_n hx hb d_Sd_diagnostic_22 rfl (lv_at hl 0 rfl) ?_
        refine va_get (D := D) (ci := 9) (C := R_Sd) (T := T_Sd) (N := 9) hx hb hts in_Sd hown hK hst.1 51 (WS_o51 g σ) rfl 7 (by decide) (hts _ gw406) (fun _ h9 => h9) rfl d_Sd_diagnostic_23 ?_
        refine va_get (D := D) (ci := 7) (C := R_Rp) (T := T_Rp) (N := 8) hx hb hts in_Rp hown hK hst.1 40 (WS_o40 g σ) rfl 0 (by decide) (hts _ gw334) (fun _ h9 => h9) rfl d_Sd_diagnostic_26 ?_
        refine lv_icmp_lt (tgt := 40) hx hb d_Sd_diagnostic_29 (by decide) (fun hc => ?_) (fun hc => ?_)
        · replace h := h.1 hc
          refine lv_iload_n hx hb d_Sd_diagnostic_40 rfl (lv_at hl 2 rfl) ?_
          by_cases hc0 : x2 = 0
          · refine kw_lin (k := 0) (tgt := 68) hx hb d_Sd_diagnostic_41 hc0 (by decide) (by decide) ?_
            replace h := h.1 hc0
            refine lv_aload_n hx hb d_Sd_diagnostic_68 rfl (lv_at hl 0 rfl) ?_
            refine va_get (D := D) (ci := 9) (C := R_Sd) (T := T_Sd) (N := 9) hx hb hts in_Sd hown hK hst.1 51 (WS_o51 g σ) rfl 7 (by decide) (hts _ gw406) (fun _ h9 => h9) rfl d_Sd_diagnostic_69 ?_
            refine lv_iload_n hx hb d_Sd_diagnostic_72 rfl (lv_at hl 1 rfl) ?_
            refine kw_calli (va_runV (As := [.int x1]) (rest := []) (b := g.1 40) ⟨hx, hb, hml, hown, hts⟩ (c_Rp_codeOf l x1 h) (cwV 1 hts (gd_v gw957 gw958 gw959 gw13 gw960) rfl rfl rfl (by decide +kernel) ⟨Nat.le_of_ble_eq_true rfl, Nat.le_of_ble_eq_true rfl⟩) ⟨kw_blind (Zk_ok g), va_recv hK hst.1 rfl (WS_o40 g σ), kw_pre (Zk_ok g) hK hZ hA hst⟩ rfl rfl hl.1 rfl (lv_room (Nat.le_of_ble_eq_true rfl)) d_Sd_diagnostic_73 ⟨Nat.le_of_ble_eq_true rfl, Nat.le_of_ble_eq_true rfl⟩) hst hA (fun r1 σ1 H locs h hst => ?_)
            exact kw_iret hx hb hr hlocks hst h d_Sd_diagnostic_76
          by_cases hc1 : x2 = 1
          · refine kw_lin (k := 1) (tgt := 77) hx hb d_Sd_diagnostic_41 hc1 (by decide) (by decide) ?_
            replace h := h.2.1 hc1
            refine lv_aload_n hx hb d_Sd_diagnostic_77 rfl (lv_at hl 0 rfl) ?_
            refine va_get (D := D) (ci := 9) (C := R_Sd) (T := T_Sd) (N := 9) hx hb hts in_Sd hown hK hst.1 51 (WS_o51 g σ) rfl 7 (by decide) (hts _ gw406) (fun _ h9 => h9) rfl d_Sd_diagnostic_78 ?_
            refine lv_iload_n hx hb d_Sd_diagnostic_81 rfl (lv_at hl 1 rfl) ?_
            refine kw_calli (va_runV (As := [.int x1]) (rest := []) (b := g.1 40) ⟨hx, hb, hml, hown, hts⟩ (c_Rp_documentNodeOf l x1 h) (cwV 1 hts (gd_v gw961 gw962 gw963 gw13 gw964) rfl rfl rfl (by decide +kernel) ⟨Nat.le_of_ble_eq_true rfl, Nat.le_of_ble_eq_true rfl⟩) ⟨kw_blind (Zk_ok g), va_recv hK hst.1 rfl (WS_o40 g σ), kw_pre (Zk_ok g) hK hZ hA hst⟩ rfl rfl hl.1 rfl (lv_room (Nat.le_of_ble_eq_true rfl)) d_Sd_diagnostic_82 ⟨Nat.le_of_ble_eq_true rfl, Nat.le_of_ble_eq_true rfl⟩) hst hA (fun r1 σ1 H locs h hst => ?_)
            exact kw_iret hx hb hr hlocks hst h d_Sd_diagnostic_85
          refine lv_lookup (off := 45) (tgt := 86) hx hb d_Sd_diagnostic_41 (by decide) ((lv_osw hc0 (by decide)).trans ((lv_osw hc1 (by decide)).trans rfl)) (by decide) ?_
          replace h := h.2.2 ⟨hc0, hc1⟩
          refine lv_aload_n hx hb d_Sd_diagnostic_86 rfl (lv_at hl 0 rfl) ?_
          refine va_get (D := D) (ci := 9) (C := R_Sd) (T := T_Sd) (N := 9) hx hb hts in_Sd hown hK hst.1 51 (WS_o51 g σ) rfl 7 (by decide) (hts _ gw406) (fun _ h9 => h9) rfl d_Sd_diagnostic_87 ?_
          refine lv_iload_n hx hb d_Sd_diagnostic_90 rfl (lv_at hl 1 rfl) ?_
          refine kw_calli (va_runV (As := [.int x1]) (rest := []) (b := g.1 40) ⟨hx, hb, hml, hown, hts⟩ (c_Rp_schemaNodeOf l x1 h) (cwV 1 hts (gd_v gw965 gw966 gw967 gw13 gw968) rfl rfl rfl (by decide +kernel) ⟨Nat.le_of_ble_eq_true rfl, Nat.le_of_ble_eq_true rfl⟩) ⟨kw_blind (Zk_ok g), va_recv hK hst.1 rfl (WS_o40 g σ), kw_pre (Zk_ok g) hK hZ hA hst⟩ rfl rfl hl.1 rfl (lv_room (Nat.le_of_ble_eq_true rfl)) d_Sd_diagnostic_91 ⟨Nat.le_of_ble_eq_true rfl, Nat.le_of_ble_eq_true rfl⟩) hst hA (fun r1 σ1 H locs h hst => ?_)
          exact kw_iret hx hb hr hlocks hst h d_Sd_diagnostic_94
        · replace h := h.2 hc
          exact h.elim
    · replace h := h.2 hc
      exact h.elim
set_option maxRecDepth 100000 in
set_option maxHeartbeats 4000000 in
theorem c_Sd_diagnostic (l : Launch) {D : va_G} {g : Gm} {sz : Nat} (x1 : Int32) (x2 : Int32) {σ : Sg} {post : Int32 → Sg → Prop} (h : wq_Sd_diagnostic x1 x2 σ post) : Met l y_Sd_diagnostic (.code y_Sd_diagnostic k_Sd_diagnostic 3 (some .int) :: GW) { frames := 1, cells := 0, slots := 0, locals := 21 } (PcW D vwCl (WS g) g (Zk g) σ sz [.ref (g.1 51), .int x1, .int x2]) (QiW D vwCl (WS g) post (va_A (WS g σ) sz)) 0 0 (va_A (WS g σ) sz) := by
  refine kw_entry (own := R_Sd) (by decide) rfl rfl (Nat.le_of_ble_eq_true rfl) ?_
  intro p e s m below meth c ls hsz C hin hl hst
  exact b_Sd_diagnostic_0 C x1 x2 σ _ _ ls hl hst h
/-! SchemaDesk.propose (I)I -/
abbrev k_Sd_propose : ByteArray := prog_1_method_15_code
abbrev y_Sd_propose : MethodName := ⟨"SchemaDesk", "propose", "(I)I"⟩
theorem d_Sd_propose_0 : decode k_Sd_propose 0 = .ok (.aload_n 0, 1) := by decide +kernel
theorem d_Sd_propose_1 : decode k_Sd_propose 1 = .ok (.iconst 1, 1) := by decide +kernel
theorem d_Sd_propose_2 : decode k_Sd_propose 2 = .ok (.invokevirtual 129, 3) := by decide +kernel
theorem d_Sd_propose_5 : decode k_Sd_propose 5 = .ok (.pop, 1) := by decide +kernel
theorem d_Sd_propose_6 : decode k_Sd_propose 6 = .ok (.aload_n 0, 1) := by decide +kernel
theorem d_Sd_propose_7 : decode k_Sd_propose 7 = .ok (.iconst 0, 1) := by decide +kernel
theorem d_Sd_propose_8 : decode k_Sd_propose 8 = .ok (.invokevirtual 129, 3) := by decide +kernel
theorem d_Sd_propose_11 : decode k_Sd_propose 11 = .ok (.pop, 1) := by decide +kernel
theorem d_Sd_propose_12 : decode k_Sd_propose 12 = .ok (.aload_n 0, 1) := by decide +kernel
theorem d_Sd_propose_13 : decode k_Sd_propose 13 = .ok (.getfield 30, 3) := by decide +kernel
theorem d_Sd_propose_16 : decode k_Sd_propose 16 = .ok (.iload_n 1, 1) := by decide +kernel
theorem d_Sd_propose_17 : decode k_Sd_propose 17 = .ok (.invokevirtual 134, 3) := by decide +kernel
theorem d_Sd_propose_20 : decode k_Sd_propose 20 = .ok (.ifCond .eq 27, 3) := by decide +kernel
theorem d_Sd_propose_23 : decode k_Sd_propose 23 = .ok (.aload_n 0, 1) := by decide +kernel
theorem d_Sd_propose_24 : decode k_Sd_propose 24 = .ok (.getfield 30, 3) := by decide +kernel
theorem d_Sd_propose_27 : decode k_Sd_propose 27 = .ok (.getfield 140, 3) := by decide +kernel
theorem d_Sd_propose_30 : decode k_Sd_propose 30 = .ok (.iload_n 1, 1) := by decide +kernel
theorem d_Sd_propose_31 : decode k_Sd_propose 31 = .ok (.iaload, 1) := by decide +kernel
theorem d_Sd_propose_32 : decode k_Sd_propose 32 = .ok (.bipush 6, 2) := by decide +kernel
theorem d_Sd_propose_34 : decode k_Sd_propose 34 = .ok (.if_icmp .ne 13, 3) := by decide +kernel
theorem d_Sd_propose_37 : decode k_Sd_propose 37 = .ok (.aload_n 0, 1) := by decide +kernel
theorem d_Sd_propose_38 : decode k_Sd_propose 38 = .ok (.getfield 26, 3) := by decide +kernel
theorem d_Sd_propose_41 : decode k_Sd_propose 41 = .ok (.getfield 133, 3) := by decide +kernel
theorem d_Sd_propose_44 : decode k_Sd_propose 44 = .ok (.ifCond .ne 11, 3) := by decide +kernel
theorem d_Sd_propose_47 : decode k_Sd_propose 47 = .ok (.new 137, 3) := by decide +kernel
theorem d_Sd_propose_50 : decode k_Sd_propose 50 = .ok (.dup, 1) := by decide +kernel
theorem d_Sd_propose_51 : decode k_Sd_propose 51 = .ok (.invokespecial 139, 3) := by decide +kernel
theorem d_Sd_propose_54 : decode k_Sd_propose 54 = .ok (.athrow, 1) := by decide +kernel
theorem d_Sd_propose_55 : decode k_Sd_propose 55 = .ok (.aload_n 0, 1) := by decide +kernel
theorem d_Sd_propose_56 : decode k_Sd_propose 56 = .ok (.getfield 48, 3) := by decide +kernel
theorem d_Sd_propose_59 : decode k_Sd_propose 59 = .ok (.invokevirtual 168, 3) := by decide +kernel
theorem d_Sd_propose_62 : decode k_Sd_propose 62 = .ok (.aload_n 0, 1) := by decide +kernel
theorem d_Sd_propose_63 : decode k_Sd_propose 63 = .ok (.getfield 48, 3) := by decide +kernel
theorem d_Sd_propose_66 : decode k_Sd_propose 66 = .ok (.getfield 171, 3) := by decide +kernel
theorem d_Sd_propose_69 : decode k_Sd_propose 69 = .ok (.ifCond .eq 11, 3) := by decide +kernel
theorem d_Sd_propose_72 : decode k_Sd_propose 72 = .ok (.new 175, 3) := by decide +kernel
theorem d_Sd_propose_75 : decode k_Sd_propose 75 = .ok (.dup, 1) := by decide +kernel
theorem d_Sd_propose_76 : decode k_Sd_propose 76 = .ok (.invokespecial 177, 3) := by decide +kernel
theorem d_Sd_propose_79 : decode k_Sd_propose 79 = .ok (.athrow, 1) := by decide +kernel
theorem d_Sd_propose_80 : decode k_Sd_propose 80 = .ok (.aload_n 0, 1) := by decide +kernel
theorem d_Sd_propose_81 : decode k_Sd_propose 81 = .ok (.getfield 73, 3) := by decide +kernel
theorem d_Sd_propose_84 : decode k_Sd_propose 84 = .ok (.iload_n 1, 1) := by decide +kernel
theorem d_Sd_propose_85 : decode k_Sd_propose 85 = .ok (.invokevirtual 198, 3) := by decide +kernel
theorem d_Sd_propose_88 : decode k_Sd_propose 88 = .ok (.aload_n 0, 1) := by decide +kernel
theorem d_Sd_propose_89 : decode k_Sd_propose 89 = .ok (.getfield 73, 3) := by decide +kernel
theorem d_Sd_propose_92 : decode k_Sd_propose 92 = .ok (.getfield 201, 3) := by decide +kernel
theorem d_Sd_propose_95 : decode k_Sd_propose 95 = .ok (.ireturn, 1) := by decide +kernel
theorem gw407 : (Jvm.Cond.fieldLink "SchemaDesk" (73 : Nat) "SchemaDesk" "proposals" "LSchemaDesk$Proposals;") ∈ GW := gw_t2 (List.mem_of_getElem? (i := 167) rfl) rfl
theorem gw976 : (Jvm.Cond.methodLink "SchemaDesk" (198 : Nat) ({ cls := "SchemaDesk$Proposals", name := "lookFor", desc := "(I)V" } : Jvm.MethodName)) ∈ GW := gw_t5 (List.mem_of_getElem? (i := 16) rfl) rfl
theorem gw977 : (Jvm.Cond.instanceMethod ({ cls := "SchemaDesk$Proposals", name := "lookFor", desc := "(I)V" } : Jvm.MethodName)) ∈ GW := gw_t5 (List.mem_of_getElem? (i := 17) rfl) rfl
theorem gw978 : (Jvm.Cond.selects "SchemaDesk$Proposals" ({ cls := "SchemaDesk$Proposals", name := "lookFor", desc := "(I)V" } : Jvm.MethodName) ({ cls := "SchemaDesk$Proposals", name := "lookFor", desc := "(I)V" } : Jvm.MethodName)) ∈ GW := gw_t5 (List.mem_of_getElem? (i := 18) rfl) rfl
theorem gw979 : (Jvm.Cond.code ({ cls := "SchemaDesk$Proposals", name := "lookFor", desc := "(I)V" } : Jvm.MethodName) prog_4_method_3_code (4 : Nat) (Option.none : Option Jvm.ClassFile.FieldType)) ∈ GW := gw_t5 (List.mem_of_getElem? (i := 19) rfl) rfl
theorem gw368 : (Jvm.Cond.fieldLink "SchemaDesk" (201 : Nat) "SchemaDesk$Proposals" "count" "I") ∈ GW := gw_t2 (List.mem_of_getElem? (i := 128) rfl) rfl
def wq_Sd_propose (x1 : Int32) (σ : Sg) (post : Int32 → Sg → Prop) : Prop := (wq_Sd_readTree (1 : Int32) σ (fun r1 σ1 => (r1 = 0 ∨ r1 = 13) ∧ (wq_Sd_readTree (0 : Int32) σ1 (fun r2 σ2 => (r2 = 0 ∨ r2 = 13) ∧ (wq_Tr_has 13 x1 σ2 (fun r3 σ3 => ((r3 = 0 → False) ∧ (¬ r3 = 0 → (vp_in x1 80 ∧ ((¬ (σ3.1 14 x1.toNatClampNeg) = (6 : Int32) → False) ∧ ((σ3.1 14 x1.toNatClampNeg) = (6 : Int32) → ((¬ (σ3.1 0 9) = 0 → (wq_Pl_refresh  σ3 (fun σ4 => (((σ4.1 29 7) = 0 → (wq_Pr_lookFor x1 σ4 (fun σ5 => post (σ5.1 45 0) σ5))) ∧ (¬ (σ4.1 29 7) = 0 → False))))) ∧ ((σ3.1 0 9) = 0 → False)))))))))))))
set_option maxRecDepth 100000 in
set_option maxHeartbeats 4000000 in
theorem b_Sd_propose_0 {p : Program} {l : Launch} {e : Env} {s : State} {m : MethodId} {args : Array Value} {below : List Frame} {meth : Method} {c : Code} {D : va_G} {g : Gm} {A : Nat → Prop} {post : Int32 → Sg → Prop} (C : kC p s m args meth c k_Sd_propose 2 (some .int) GW R_Sd D vwCl g (Zk g) A) (x1 : Int32) (σ : Sg) (H : Heap) (locs : List Loc) (ls : Array Slot) (hl : lv_has ls 2 [(0, .ref (g.1 51)), (1, .int x1)]) (hst : Wst D vwCl (WS g) A s σ H locs) (h : wq_Sd_propose x1 σ post) : W p l e { frames := 37, cells := 0, slots := 0, locals := 928 } s m args below meth c H locs 0 0 (MQ below (QiW D vwCl (WS g) post A) args s 0 0 A) (F0 m 0 ls []) := by
  obtain ⟨hx, hb, hr, hml, hown, hts, hlocks, hK, hZ, hA⟩ := C
  unfold wq_Sd_propose at h
  refine lv_aload_n hx hb d_Sd_propose_0 rfl (lv_at hl 0 rfl) ?_
  refine lv_iconst (v := (1 : Int32)) hx hb d_Sd_propose_1 (by decide) ?_
  refine kw_callr (va_runV (As := [.int (1 : Int32)]) (rest := []) (b := g.1 51) ⟨hx, hb, hml, hown, hts⟩ (c_Sd_readTree l (1 : Int32) h) (cwV 1 hts (gd_v gw605 gw607 gs3 gw1 gw608) rfl rfl rfl (by decide +kernel) ⟨Nat.le_of_ble_eq_true rfl, Nat.le_of_ble_eq_true rfl⟩) ⟨kw_blind (Zk_ok g), va_recv hK hst.1 rfl (WS_o51 g σ), kw_pre (Zk_ok g) hK hZ hA hst⟩ rfl rfl hl.1 rfl (lv_room (Nat.le_of_ble_eq_true rfl)) d_Sd_propose_2 ⟨Nat.le_of_ble_eq_true rfl, Nat.le_of_ble_eq_true rfl⟩) hst hA (fun r1 σ1 H locs h hst => ?_)
  obtain ⟨hb1, h⟩ := h
  rcases hb1 with rfl | rfl
  · refine lv_pop hx hb d_Sd_propose_5 rfl ?_
    refine lv_aload_n hx hb d_Sd_propose_6 rfl (lv_at hl 0 rfl) ?_
    refine lv_iconst (v := (0 : Int32)) hx hb d_Sd_propose_7 (by decide) ?_
    refine kw_callr (va_runV (As := [.int (0 : Int32)]) (rest := []) (b := g.1 51) ⟨hx, hb, hml, hown, hts⟩ (c_Sd_readTree l (0 : Int32) h) (cwV 1 hts (gd_v gw605 gw607 gs3 gw1 gw608) rfl rfl rfl (by decide +kernel) ⟨Nat.le_of_ble_eq_true rfl, Nat.le_of_ble_eq_true rfl⟩) ⟨kw_blind (Zk_ok g), va_recv hK hst.1 rfl (WS_o51 g σ1), kw_pre (Zk_ok g) hK hZ hA hst⟩ rfl rfl hl.1 rfl (lv_room (Nat.le_of_ble_eq_true rfl)) d_Sd_propose_8 ⟨Nat.le_of_ble_eq_true rfl, Nat.le_of_ble_eq_true rfl⟩) hst hA (fun r2 σ2 H locs h hst => ?_)
    obtain ⟨hb1, h⟩ := h
    rcases hb1 with rfl | rfl
    · refine lv_pop hx hb d_Sd_propose_11 rfl ?_
      refine lv_aload_n hx hb d_Sd_propose_12 rfl (lv_at hl 0 rfl) ?_
      refine va_get (D := D) (ci := 9) (C := R_Sd) (T := T_Sd) (N := 9) hx hb hts in_Sd hown hK hst.1 51 (WS_o51 g σ2) rfl 2 (by decide) (hts _ gw401) (fun _ h9 => h9) rfl d_Sd_propose_13 ?_
      refine lv_iload_n hx hb d_Sd_propose_16 rfl (lv_at hl 1 rfl) ?_
      refine kw_calli (va_runV (As := [.int x1]) (rest := []) (b := g.1 13) ⟨hx, hb, hml, hown, hts⟩ (c_Tr_has_13 l x1 h) (cwV 1 hts (gd_v gw701 gw702 gw703 gw7 gw704) rfl rfl rfl (by decide +kernel) ⟨Nat.le_of_ble_eq_true rfl, Nat.le_of_ble_eq_true rfl⟩) ⟨kw_blind (Zk_ok g), va_recv hK hst.1 rfl (WS_o13 g σ2), kw_pre (Zk_ok g) hK hZ hA hst⟩ rfl rfl hl.1 rfl (lv_room (Nat.le_of_ble_eq_true rfl)) d_Sd_propose_17 ⟨Nat.le_of_ble_eq_true rfl, Nat.le_of_ble_eq_true rfl⟩) hst hA (fun r3 σ3 H locs h hst => ?_)
      refine lv_if_eq (tgt := 47) hx hb d_Sd_propose_20 (by decide) (fun hc => ?_) (fun hc => ?_)
      · replace h := h.1 hc
        exact h.elim
      · replace h := h.2 hc
        refine lv_aload_n hx hb d_Sd_propose_23 rfl (lv_at hl 0 rfl) ?_
        refine va_get (D := D) (ci := 9) (C := R_Sd) (T := T_Sd) (N := 9) hx hb hts in_Sd hown hK hst.1 51 (WS_o51 g σ3) rfl 2 (by decide) (hts _ gw401) (fun _ h9 => h9) rfl d_Sd_propose_24 ?_
        refine va_get (D := D) (ci := 0) (C := R_Tr) (T := T_Tr) (N := 12) hx hb hts in_Tr hown hK hst.1 13 (WS_o13 g σ3) rfl 1 (by decide) (hts _ gw136) (fun _ h9 => h9) rfl d_Sd_propose_27 ?_
        refine lv_iload_n hx hb d_Sd_propose_30 rfl (lv_at hl 1 rfl) ?_
        obtain ⟨hi, h⟩ := h
        refine va_iald hx hb hK hst.1 14 0 (WS_a14 g σ3) rfl hi d_Sd_propose_31 ?_
        refine lv_bipush (v := (6 : Int32)) hx hb d_Sd_propose_32 (by decide) ?_
        refine lv_icmp_ne (tgt := 47) hx hb d_Sd_propose_34 (by decide) (fun hc => ?_) (fun hc => ?_)
        · replace h := h.1 hc
          exact h.elim
        · replace h := h.2 hc
          refine lv_aload_n hx hb d_Sd_propose_37 rfl (lv_at hl 0 rfl) ?_
          refine va_get (D := D) (ci := 9) (C := R_Sd) (T := T_Sd) (N := 9) hx hb hts in_Sd hown hK hst.1 51 (WS_o51 g σ3) rfl 1 (by decide) (hts _ gw400) (fun _ h9 => h9) rfl d_Sd_propose_38 ?_
          refine va_get (D := D) (ci := 0) (C := R_Tr) (T := T_Tr) (N := 12) hx hb hts in_Tr hown hK hst.1 0 (WS_o0 g σ3) rfl 9 (by decide) (hts _ gw172) (fun _ h9 => h9) rfl d_Sd_propose_41 ?_
          refine lv_if_ne (tgt := 55) hx hb d_Sd_propose_44 (by decide) (fun hc => ?_) (fun hc => ?_)
          · replace h := h.1 hc
            refine lv_aload_n hx hb d_Sd_propose_55 rfl (lv_at hl 0 rfl) ?_
            refine va_get (D := D) (ci := 9) (C := R_Sd) (T := T_Sd) (N := 9) hx hb hts in_Sd hown hK hst.1 51 (WS_o51 g σ3) rfl 5 (by decide) (hts _ gw404) (fun _ h9 => h9) rfl d_Sd_propose_56 ?_
            refine kw_callv (va_runV (As := []) (rest := []) (b := g.1 29) ⟨hx, hb, hml, hown, hts⟩ (c_Pl_refresh l h) (cwV 0 hts (gd_v gw742 gw743 gw744 gw10 gw745) rfl rfl rfl (by decide +kernel) ⟨Nat.le_of_ble_eq_true rfl, Nat.le_of_ble_eq_true rfl⟩) ⟨kw_blind (Zk_ok g), va_recv hK hst.1 rfl (WS_o29 g σ3), kw_pre (Zk_ok g) hK hZ hA hst⟩ rfl rfl hl.1 rfl (lv_room (Nat.le_of_ble_eq_true rfl)) d_Sd_propose_59 ⟨Nat.le_of_ble_eq_true rfl, Nat.le_of_ble_eq_true rfl⟩) hst hA (fun σ4 H locs h hst => ?_)
            refine lv_aload_n hx hb d_Sd_propose_62 rfl (lv_at hl 0 rfl) ?_
            refine va_get (D := D) (ci := 9) (C := R_Sd) (T := T_Sd) (N := 9) hx hb hts in_Sd hown hK hst.1 51 (WS_o51 g σ4) rfl 5 (by decide) (hts _ gw404) (fun _ h9 => h9) rfl d_Sd_propose_63 ?_
            refine va_get (D := D) (ci := 5) (C := R_Pl) (T := T_Pl) (N := 10) hx hb hts in_Pl hown hK hst.1 29 (WS_o29 g σ4) rfl 7 (by decide) (hts _ gw256) (fun _ h9 => h9) rfl d_Sd_propose_66 ?_
            refine lv_if_eq (tgt := 80) hx hb d_Sd_propose_69 (by decide) (fun hc => ?_) (fun hc => ?_)
            · replace h := h.1 hc
              refine lv_aload_n hx hb d_Sd_propose_80 rfl (lv_at hl 0 rfl) ?_
              refine va_get (D := D) (ci := 9) (C := R_Sd) (T := T_Sd) (N := 9) hx hb hts in_Sd hown hK hst.1 51 (WS_o51 g σ4) rfl 8 (by decide) (hts _ gw407) (fun _ h9 => h9) rfl d_Sd_propose_81 ?_
              refine lv_iload_n hx hb d_Sd_propose_84 rfl (lv_at hl 1 rfl) ?_
              refine kw_callv (va_runV (As := [.int x1]) (rest := []) (b := g.1 45) ⟨hx, hb, hml, hown, hts⟩ (c_Pr_lookFor l x1 h) (cwV 1 hts (gd_v gw976 gw977 gw978 gw14 gw979) rfl rfl rfl (by decide +kernel) ⟨Nat.le_of_ble_eq_true rfl, Nat.le_of_ble_eq_true rfl⟩) ⟨kw_blind (Zk_ok g), va_recv hK hst.1 rfl (WS_o45 g σ4), kw_pre (Zk_ok g) hK hZ hA hst⟩ rfl rfl hl.1 rfl (lv_room (Nat.le_of_ble_eq_true rfl)) d_Sd_propose_85 ⟨Nat.le_of_ble_eq_true rfl, Nat.le_of_ble_eq_true rfl⟩) hst hA (fun σ5 H locs h hst => ?_)
              refine lv_aload_n hx hb d_Sd_propose_88 rfl (lv_at hl 0 rfl) ?_
              refine va_get (D := D) (ci := 9) (C := R_Sd) (T := T_Sd) (N := 9) hx hb hts in_Sd hown hK hst.1 51 (WS_o51 g σ5) rfl 8 (by decide) (hts _ gw407) (fun _ h9 => h9) rfl d_Sd_propose_89 ?_
              refine va_get (D := D) (ci := 8) (C := R_Pr) (T := T_Pr) (N := 10) hx hb hts in_Pr hown hK hst.1 45 (WS_o45 g σ5) rfl 0 (by decide) (hts _ gw368) (fun _ h9 => h9) rfl d_Sd_propose_92 ?_
              exact kw_iret hx hb hr hlocks hst h d_Sd_propose_95
            · replace h := h.2 hc
              exact h.elim
          · replace h := h.2 hc
            exact h.elim
    · refine lv_pop hx hb d_Sd_propose_11 rfl ?_
      refine lv_aload_n hx hb d_Sd_propose_12 rfl (lv_at hl 0 rfl) ?_
      refine va_get (D := D) (ci := 9) (C := R_Sd) (T := T_Sd) (N := 9) hx hb hts in_Sd hown hK hst.1 51 (WS_o51 g σ2) rfl 2 (by decide) (hts _ gw401) (fun _ h9 => h9) rfl d_Sd_propose_13 ?_
      refine lv_iload_n hx hb d_Sd_propose_16 rfl (lv_at hl 1 rfl) ?_
      refine kw_calli (va_runV (As := [.int x1]) (rest := []) (b := g.1 13) ⟨hx, hb, hml, hown, hts⟩ (c_Tr_has_13 l x1 h) (cwV 1 hts (gd_v gw701 gw702 gw703 gw7 gw704) rfl rfl rfl (by decide +kernel) ⟨Nat.le_of_ble_eq_true rfl, Nat.le_of_ble_eq_true rfl⟩) ⟨kw_blind (Zk_ok g), va_recv hK hst.1 rfl (WS_o13 g σ2), kw_pre (Zk_ok g) hK hZ hA hst⟩ rfl rfl hl.1 rfl (lv_room (Nat.le_of_ble_eq_true rfl)) d_Sd_propose_17 ⟨Nat.le_of_ble_eq_true rfl, Nat.le_of_ble_eq_true rfl⟩) hst hA (fun r3 σ3 H locs h hst => ?_)
      refine lv_if_eq (tgt := 47) hx hb d_Sd_propose_20 (by decide) (fun hc => ?_) (fun hc => ?_)
      · replace h := h.1 hc
        exact h.elim
      · replace h := h.2 hc
        refine lv_aload_n hx hb d_Sd_propose_23 rfl (lv_at hl 0 rfl) ?_
        refine va_get (D := D) (ci := 9) (C := R_Sd) (T := T_Sd) (N := 9) hx hb hts in_Sd hown hK hst.1 51 (WS_o51 g σ3) rfl 2 (by decide) (hts _ gw401) (fun _ h9 => h9) rfl d_Sd_propose_24 ?_
        refine va_get (D := D) (ci := 0) (C := R_Tr) (T := T_Tr) (N := 12) hx hb hts in_Tr hown hK hst.1 13 (WS_o13 g σ3) rfl 1 (by decide) (hts _ gw136) (fun _ h9 => h9) rfl d_Sd_propose_27 ?_
        refine lv_iload_n hx hb d_Sd_propose_30 rfl (lv_at hl 1 rfl) ?_
        obtain ⟨hi, h⟩ := h
        refine va_iald hx hb hK hst.1 14 0 (WS_a14 g σ3) rfl hi d_Sd_propose_31 ?_
        refine lv_bipush (v := (6 : Int32)) hx hb d_Sd_propose_32 (by decide) ?_
        refine lv_icmp_ne (tgt := 47) hx hb d_Sd_propose_34 (by decide) (fun hc => ?_) (fun hc => ?_)
        · replace h := h.1 hc
          exact h.elim
        · replace h := h.2 hc
          refine lv_aload_n hx hb d_Sd_propose_37 rfl (lv_at hl 0 rfl) ?_
          refine va_get (D := D) (ci := 9) (C := R_Sd) (T := T_Sd) (N := 9) hx hb hts in_Sd hown hK hst.1 51 (WS_o51 g σ3) rfl 1 (by decide) (hts _ gw400) (fun _ h9 => h9) rfl d_Sd_propose_38 ?_
          refine va_get (D := D) (ci := 0) (C := R_Tr) (T := T_Tr) (N := 12) hx hb hts in_Tr hown hK hst.1 0 (WS_o0 g σ3) rfl 9 (by decide) (hts _ gw172) (fun _ h9 => h9) rfl d_Sd_propose_41 ?_
          refine lv_if_ne (tgt := 55) hx hb d_Sd_propose_44 (by decide) (fun hc => ?_) (fun hc => ?_)
          · replace h := h.1 hc
            refine lv_aload_n hx hb d_Sd_propose_55 rfl (lv_at hl 0 rfl) ?_
            refine va_get (D := D) (ci := 9) (C := R_Sd) (T := T_Sd) (N := 9) hx hb hts in_Sd hown hK hst.1 51 (WS_o51 g σ3) rfl 5 (by decide) (hts _ gw404) (fun _ h9 => h9) rfl d_Sd_propose_56 ?_
            refine kw_callv (va_runV (As := []) (rest := []) (b := g.1 29) ⟨hx, hb, hml, hown, hts⟩ (c_Pl_refresh l h) (cwV 0 hts (gd_v gw742 gw743 gw744 gw10 gw745) rfl rfl rfl (by decide +kernel) ⟨Nat.le_of_ble_eq_true rfl, Nat.le_of_ble_eq_true rfl⟩) ⟨kw_blind (Zk_ok g), va_recv hK hst.1 rfl (WS_o29 g σ3), kw_pre (Zk_ok g) hK hZ hA hst⟩ rfl rfl hl.1 rfl (lv_room (Nat.le_of_ble_eq_true rfl)) d_Sd_propose_59 ⟨Nat.le_of_ble_eq_true rfl, Nat.le_of_ble_eq_true rfl⟩) hst hA (fun σ4 H locs h hst => ?_)
            refine lv_aload_n hx hb d_Sd_propose_62 rfl (lv_at hl 0 rfl) ?_
            refine va_get (D := D) (ci := 9) (C := R_Sd) (T := T_Sd) (N := 9) hx hb hts in_Sd hown hK hst.1 51 (WS_o51 g σ4) rfl 5 (by decide) (hts _ gw404) (fun _ h9 => h9) rfl d_Sd_propose_63 ?_
            refine va_get (D := D) (ci := 5) (C := R_Pl) (T := T_Pl) (N := 10) hx hb hts in_Pl hown hK hst.1 29 (WS_o29 g σ4) rfl 7 (by decide) (hts _ gw256) (fun _ h9 => h9) rfl d_Sd_propose_66 ?_
            refine lv_if_eq (tgt := 80) hx hb d_Sd_propose_69 (by decide) (fun hc => ?_) (fun hc => ?_)
            · replace h := h.1 hc
              refine lv_aload_n hx hb d_Sd_propose_80 rfl (lv_at hl 0 rfl) ?_
              refine va_get (D := D) (ci := 9) (C := R_Sd) (T := T_Sd) (N := 9) hx hb hts in_Sd hown hK hst.1 51 (WS_o51 g σ4) rfl 8 (by decide) (hts _ gw407) (fun _ h9 => h9) rfl d_Sd_propose_81 ?_
              refine lv_iload_n hx hb d_Sd_propose_84 rfl (lv_at hl 1 rfl) ?_
              refine kw_callv (va_runV (As := [.int x1]) (rest := []) (b := g.1 45) ⟨hx, hb, hml, hown, hts⟩ (c_Pr_lookFor l x1 h) (cwV 1 hts (gd_v gw976 gw977 gw978 gw14 gw979) rfl rfl rfl (by decide +kernel) ⟨Nat.le_of_ble_eq_true rfl, Nat.le_of_ble_eq_true rfl⟩) ⟨kw_blind (Zk_ok g), va_recv hK hst.1 rfl (WS_o45 g σ4), kw_pre (Zk_ok g) hK hZ hA hst⟩ rfl rfl hl.1 rfl (lv_room (Nat.le_of_ble_eq_true rfl)) d_Sd_propose_85 ⟨Nat.le_of_ble_eq_true rfl, Nat.le_of_ble_eq_true rfl⟩) hst hA (fun σ5 H locs h hst => ?_)
              refine lv_aload_n hx hb d_Sd_propose_88 rfl (lv_at hl 0 rfl) ?_
              refine va_get (D := D) (ci := 9) (C := R_Sd) (T := T_Sd) (N := 9) hx hb hts in_Sd hown hK hst.1 51 (WS_o51 g σ5) rfl 8 (by decide) (hts _ gw407) (fun _ h9 => h9) rfl d_Sd_propose_89 ?_
              refine va_get (D := D) (ci := 8) (C := R_Pr) (T := T_Pr) (N := 10) hx hb hts in_Pr hown hK hst.1 45 (WS_o45 g σ5) rfl 0 (by decide) (hts _ gw368) (fun _ h9 => h9) rfl d_Sd_propose_92 ?_
              exact kw_iret hx hb hr hlocks hst h d_Sd_propose_95
            · replace h := h.2 hc
              exact h.elim
          · replace h := h.2 hc
            exact h.elim
  · refine lv_pop hx hb d_Sd_propose_5 rfl ?_
    refine lv_aload_n hx hb d_Sd_propose_6 rfl (lv_at hl 0 rfl) ?_
    refine lv_iconst (v := (0 : Int32)) hx hb d_Sd_propose_7 (by decide) ?_
    refine kw_callr (va_runV (As := [.int (0 : Int32)]) (rest := []) (b := g.1 51) ⟨hx, hb, hml, hown, hts⟩ (c_Sd_readTree l (0 : Int32) h) (cwV 1 hts (gd_v gw605 gw607 gs3 gw1 gw608) rfl rfl rfl (by decide +kernel) ⟨Nat.le_of_ble_eq_true rfl, Nat.le_of_ble_eq_true rfl⟩) ⟨kw_blind (Zk_ok g), va_recv hK hst.1 rfl (WS_o51 g σ1), kw_pre (Zk_ok g) hK hZ hA hst⟩ rfl rfl hl.1 rfl (lv_room (Nat.le_of_ble_eq_true rfl)) d_Sd_propose_8 ⟨Nat.le_of_ble_eq_true rfl, Nat.le_of_ble_eq_true rfl⟩) hst hA (fun r2 σ2 H locs h hst => ?_)
    obtain ⟨hb1, h⟩ := h
    rcases hb1 with rfl | rfl
    · refine lv_pop hx hb d_Sd_propose_11 rfl ?_
      refine lv_aload_n hx hb d_Sd_propose_12 rfl (lv_at hl 0 rfl) ?_
      refine va_get (D := D) (ci := 9) (C := R_Sd) (T := T_Sd) (N := 9) hx hb hts in_Sd hown hK hst.1 51 (WS_o51 g σ2) rfl 2 (by decide) (hts _ gw401) (fun _ h9 => h9) rfl d_Sd_propose_13 ?_
      refine lv_iload_n hx hb d_Sd_propose_16 rfl (lv_at hl 1 rfl) ?_
      refine kw_calli (va_runV (As := [.int x1]) (rest := []) (b := g.1 13) ⟨hx, hb, hml, hown, hts⟩ (c_Tr_has_13 l x1 h) (cwV 1 hts (gd_v gw701 gw702 gw703 gw7 gw704) rfl rfl rfl (by decide +kernel) ⟨Nat.le_of_ble_eq_true rfl, Nat.le_of_ble_eq_true rfl⟩) ⟨kw_blind (Zk_ok g), va_recv hK hst.1 rfl (WS_o13 g σ2), kw_pre (Zk_ok g) hK hZ hA hst⟩ rfl rfl hl.1 rfl (lv_room (Nat.le_of_ble_eq_true rfl)) d_Sd_propose_17 ⟨Nat.le_of_ble_eq_true rfl, Nat.le_of_ble_eq_true rfl⟩) hst hA (fun r3 σ3 H locs h hst => ?_)
      refine lv_if_eq (tgt := 47) hx hb d_Sd_propose_20 (by decide) (fun hc => ?_) (fun hc => ?_)
      · replace h := h.1 hc
        exact h.elim
      · replace h := h.2 hc
        refine lv_aload_n hx hb d_Sd_propose_23 rfl (lv_at hl 0 rfl) ?_
        refine va_get (D := D) (ci := 9) (C := R_Sd) (T := T_Sd) (N := 9) hx hb hts in_Sd hown hK hst.1 51 (WS_o51 g σ3) rfl 2 (by decide) (hts _ gw401) (fun _ h9 => h9) rfl d_Sd_propose_24 ?_
        refine va_get (D := D) (ci := 0) (C := R_Tr) (T := T_Tr) (N := 12) hx hb hts in_Tr hown hK hst.1 13 (WS_o13 g σ3) rfl 1 (by decide) (hts _ gw136) (fun _ h9 => h9) rfl d_Sd_propose_27 ?_
        refine lv_iload_n hx hb d_Sd_propose_30 rfl (lv_at hl 1 rfl) ?_
        obtain ⟨hi, h⟩ := h
        refine va_iald hx hb hK hst.1 14 0 (WS_a14 g σ3) rfl hi d_Sd_propose_31 ?_
        refine lv_bipush (v := (6 : Int32)) hx hb d_Sd_propose_32 (by decide) ?_
        refine lv_icmp_ne (tgt := 47) hx hb d_Sd_propose_34 (by decide) (fun hc => ?_) (fun hc => ?_)
        · replace h := h.1 hc
          exact h.elim
        · replace h := h.2 hc
          refine lv_aload_n hx hb d_Sd_propose_37 rfl (lv_at hl 0 rfl) ?_
          refine va_get (D := D) (ci := 9) (C := R_Sd) (T := T_Sd) (N := 9) hx hb hts in_Sd hown hK hst.1 51 (WS_o51 g σ3) rfl 1 (by decide) (hts _ gw400) (fun _ h9 => h9) rfl d_Sd_propose_38 ?_
          refine va_get (D := D) (ci := 0) (C := R_Tr) (T := T_Tr) (N := 12) hx hb hts in_Tr hown hK hst.1 0 (WS_o0 g σ3) rfl 9 (by decide) (hts _ gw172) (fun _ h9 => h9) rfl d_Sd_propose_41 ?_
          refine lv_if_ne (tgt := 55) hx hb d_Sd_propose_44 (by decide) (fun hc => ?_) (fun hc => ?_)
          · replace h := h.1 hc
            refine lv_aload_n hx hb d_Sd_propose_55 rfl (lv_at hl 0 rfl) ?_
            refine va_get (D := D) (ci := 9) (C := R_Sd) (T := T_Sd) (N := 9) hx hb hts in_Sd hown hK hst.1 51 (WS_o51 g σ3) rfl 5 (by decide) (hts _ gw404) (fun _ h9 => h9) rfl d_Sd_propose_56 ?_
            refine kw_callv (va_runV (As := []) (rest := []) (b := g.1 29) ⟨hx, hb, hml, hown, hts⟩ (c_Pl_refresh l h) (cwV 0 hts (gd_v gw742 gw743 gw744 gw10 gw745) rfl rfl rfl (by decide +kernel) ⟨Nat.le_of_ble_eq_true rfl, Nat.le_of_ble_eq_true rfl⟩) ⟨kw_blind (Zk_ok g), va_recv hK hst.1 rfl (WS_o29 g σ3), kw_pre (Zk_ok g) hK hZ hA hst⟩ rfl rfl hl.1 rfl (lv_room (Nat.le_of_ble_eq_true rfl)) d_Sd_propose_59 ⟨Nat.le_of_ble_eq_true rfl, Nat.le_of_ble_eq_true rfl⟩) hst hA (fun σ4 H locs h hst => ?_)
            refine lv_aload_n hx hb d_Sd_propose_62 rfl (lv_at hl 0 rfl) ?_
            refine va_get (D := D) (ci := 9) (C := R_Sd) (T := T_Sd) (N := 9) hx hb hts in_Sd hown hK hst.1 51 (WS_o51 g σ4) rfl 5 (by decide) (hts _ gw404) (fun _ h9 => h9) rfl d_Sd_propose_63 ?_
            refine va_get (D := D) (ci := 5) (C := R_Pl) (T := T_Pl) (N := 10) hx hb hts in_Pl hown hK hst.1 29 (WS_o29 g σ4) rfl 7 (by decide) (hts _ gw256) (fun _ h9 => h9) rfl d_Sd_propose_66 ?_
            refine lv_if_eq (tgt := 80) hx hb d_Sd_propose_69 (by decide) (fun hc => ?_) (fun hc => ?_)
            · replace h := h.1 hc
              refine lv_aload_n hx hb d_Sd_propose_80 rfl (lv_at hl 0 rfl) ?_
              refine va_get (D := D) (ci := 9) (C := R_Sd) (T := T_Sd) (N := 9) hx hb hts in_Sd hown hK hst.1 51 (WS_o51 g σ4) rfl 8 (by decide) (hts _ gw407) (fun _ h9 => h9) rfl d_Sd_propose_81 ?_
              refine lv_iload_n hx hb d_Sd_propose_84 rfl (lv_at hl 1 rfl) ?_
              refine kw_callv (va_runV (As := [.int x1]) (rest := []) (b := g.1 45) ⟨hx, hb, hml, hown, hts⟩ (c_Pr_lookFor l x1 h) (cwV 1 hts (gd_v gw976 gw977 gw978 gw14 gw979) rfl rfl rfl (by decide +kernel) ⟨Nat.le_of_ble_eq_true rfl, Nat.le_of_ble_eq_true rfl⟩) ⟨kw_blind (Zk_ok g), va_recv hK hst.1 rfl (WS_o45 g σ4), kw_pre (Zk_ok g) hK hZ hA hst⟩ rfl rfl hl.1 rfl (lv_room (Nat.le_of_ble_eq_true rfl)) d_Sd_propose_85 ⟨Nat.le_of_ble_eq_true rfl, Nat.le_of_ble_eq_true rfl⟩) hst hA (fun σ5 H locs h hst => ?_)
              refine lv_aload_n hx hb d_Sd_propose_88 rfl (lv_at hl 0 rfl) ?_
              refine va_get (D := D) (ci := 9) (C := R_Sd) (T := T_Sd) (N := 9) hx hb hts in_Sd hown hK hst.1 51 (WS_o51 g σ5) rfl 8 (by decide) (hts _ gw407) (fun _ h9 => h9) rfl d_Sd_propose_89 ?_
              refine va_get (D := D) (ci := 8) (C := R_Pr) (T := T_Pr) (N := 10) hx hb hts in_Pr hown hK hst.1 45 (WS_o45 g σ5) rfl 0 (by decide) (hts _ gw368) (fun _ h9 => h9) rfl d_Sd_propose_92 ?_
              exact kw_iret hx hb hr hlocks hst h d_Sd_propose_95
            · replace h := h.2 hc
              exact h.elim
          · replace h := h.2 hc
            exact h.elim
    · refine lv_pop hx hb d_Sd_propose_11 rfl ?_
      refine lv_aload_n hx hb d_Sd_propose_12 rfl (lv_at hl 0 rfl) ?_
      refine va_get (D := D) (ci := 9) (C := R_Sd) (T := T_Sd) (N := 9) hx hb hts in_Sd hown hK hst.1 51 (WS_o51 g σ2) rfl 2 (by decide) (hts _ gw401) (fun _ h9 => h9) rfl d_Sd_propose_13 ?_
      refine lv_iload_n hx hb d_Sd_propose_16 rfl (lv_at hl 1 rfl) ?_
      refine kw_calli (va_runV (As := [.int x1]) (rest := []) (b := g.1 13) ⟨hx, hb, hml, hown, hts⟩ (c_Tr_has_13 l x1 h) (cwV 1 hts (gd_v gw701 gw702 gw703 gw7 gw704) rfl rfl rfl (by decide +kernel) ⟨Nat.le_of_ble_eq_true rfl, Nat.le_of_ble_eq_true rfl⟩) ⟨kw_blind (Zk_ok g), va_recv hK hst.1 rfl (WS_o13 g σ2), kw_pre (Zk_ok g) hK hZ hA hst⟩ rfl rfl hl.1 rfl (lv_room (Nat.le_of_ble_eq_true rfl)) d_Sd_propose_17 ⟨Nat.le_of_ble_eq_true rfl, Nat.le_of_ble_eq_true rfl⟩) hst hA (fun r3 σ3 H locs h hst => ?_)
      refine lv_if_eq (tgt := 47) hx hb d_Sd_propose_20 (by decide) (fun hc => ?_) (fun hc => ?_)
      · replace h := h.1 hc
        exact h.elim
      · replace h := h.2 hc
        refine lv_aload_n hx hb d_Sd_propose_23 rfl (lv_at hl 0 rfl) ?_
        refine va_get (D := D) (ci := 9) (C := R_Sd) (T := T_Sd) (N := 9) hx hb hts in_Sd hown hK hst.1 51 (WS_o51 g σ3) rfl 2 (by decide) (hts _ gw401) (fun _ h9 => h9) rfl d_Sd_propose_24 ?_
        refine va_get (D := D) (ci := 0) (C := R_Tr) (T := T_Tr) (N := 12) hx hb hts in_Tr hown hK hst.1 13 (WS_o13 g σ3) rfl 1 (by decide) (hts _ gw136) (fun _ h9 => h9) rfl d_Sd_propose_27 ?_
        refine lv_iload_n hx hb d_Sd_propose_30 rfl (lv_at hl 1 rfl) ?_
        obtain ⟨hi, h⟩ := h
        refine va_iald hx hb hK hst.1 14 0 (WS_a14 g σ3) rfl hi d_Sd_propose_31 ?_
        refine lv_bipush (v := (6 : Int32)) hx hb d_Sd_propose_32 (by decide) ?_
        refine lv_icmp_ne (tgt := 47) hx hb d_Sd_propose_34 (by decide) (fun hc => ?_) (fun hc => ?_)
        · replace h := h.1 hc
          exact h.elim
        · replace h := h.2 hc
          refine lv_aload_n hx hb d_Sd_propose_37 rfl (lv_at hl 0 rfl) ?_
          refine va_get (D := D) (ci := 9) (C := R_Sd) (T := T_Sd) (N := 9) hx hb hts in_Sd hown hK hst.1 51 (WS_o51 g σ3) rfl 1 (by decide) (hts _ gw400) (fun _ h9 => h9) rfl d_Sd_propose_38 ?_
          refine va_get (D := D) (ci := 0) (C := R_Tr) (T := T_Tr) (N := 12) hx hb hts in_Tr hown hK hst.1 0 (WS_o0 g σ3) rfl 9 (by decide) (hts _ gw172) (fun _ h9 => h9) rfl d_Sd_propose_41 ?_
          refine lv_if_ne (tgt := 55) hx hb d_Sd_propose_44 (by decide) (fun hc => ?_) (fun hc => ?_)
          · replace h := h.1 hc
            refine lv_aload_n hx hb d_Sd_propose_55 rfl (lv_at hl 0 rfl) ?_
            refine va_get (D := D) (ci := 9) (C := R_Sd) (T := T_Sd) (N := 9) hx hb hts in_Sd hown hK hst.1 51 (WS_o51 g σ3) rfl 5 (by decide) (hts _ gw404) (fun _ h9 => h9) rfl d_Sd_propose_56 ?_
            refine kw_callv (va_runV (As := []) (rest := []) (b := g.1 29) ⟨hx, hb, hml, hown, hts⟩ (c_Pl_refresh l h) (cwV 0 hts (gd_v gw742 gw743 gw744 gw10 gw745) rfl rfl rfl (by decide +kernel) ⟨Nat.le_of_ble_eq_true rfl, Nat.le_of_ble_eq_true rfl⟩) ⟨kw_blind (Zk_ok g), va_recv hK hst.1 rfl (WS_o29 g σ3), kw_pre (Zk_ok g) hK hZ hA hst⟩ rfl rfl hl.1 rfl (lv_room (Nat.le_of_ble_eq_true rfl)) d_Sd_propose_59 ⟨Nat.le_of_ble_eq_true rfl, Nat.le_of_ble_eq_true rfl⟩) hst hA (fun σ4 H locs h hst => ?_)
            refine lv_aload_n hx hb d_Sd_propose_62 rfl (lv_at hl 0 rfl) ?_
            refine va_get (D := D) (ci := 9) (C := R_Sd) (T := T_Sd) (N := 9) hx hb hts in_Sd hown hK hst.1 51 (WS_o51 g σ4) rfl 5 (by decide) (hts _ gw404) (fun _ h9 => h9) rfl d_Sd_propose_63 ?_
            refine va_get (D := D) (ci := 5) (C := R_Pl) (T := T_Pl) (N := 10) hx hb hts in_Pl hown hK hst.1 29 (WS_o29 g σ4) rfl 7 (by decide) (hts _ gw256) (fun _ h9 => h9) rfl d_Sd_propose_66 ?_
            refine lv_if_eq (tgt := 80) hx hb d_Sd_propose_69 (by decide) (fun hc => ?_) (fun hc => ?_)
            · replace h := h.1 hc
              refine lv_aload_n hx hb d_Sd_propose_80 rfl (lv_at hl 0 rfl) ?_
              refine va_get (D := D) (ci := 9) (C := R_Sd) (T := T_Sd) (N := 9) hx hb hts in_Sd hown hK hst.1 51 (WS_o51 g σ4) rfl 8 (by decide) (hts _ gw407) (fun _ h9 => h9) rfl d_Sd_propose_81 ?_
              refine lv_iload_n hx hb d_Sd_propose_84 rfl (lv_at hl 1 rfl) ?_
              refine kw_callv (va_runV (As := [.int x1]) (rest := []) (b := g.1 45) ⟨hx, hb, hml, hown, hts⟩ (c_Pr_lookFor l x1 h) (cwV 1 hts (gd_v gw976 gw977 gw978 gw14 gw979) rfl rfl rfl (by decide +kernel) ⟨Nat.le_of_ble_eq_true rfl, Nat.le_of_ble_eq_true rfl⟩) ⟨kw_blind (Zk_ok g), va_recv hK hst.1 rfl (WS_o45 g σ4), kw_pre (Zk_ok g) hK hZ hA hst⟩ rfl rfl hl.1 rfl (lv_room (Nat.le_of_ble_eq_true rfl)) d_Sd_propose_85 ⟨Nat.le_of_ble_eq_true rfl, Nat.le_of_ble_eq_true rfl⟩) hst hA (fun σ5 H locs h hst => ?_)
              refine lv_aload_n hx hb d_Sd_propose_88 rfl (lv_at hl 0 rfl) ?_
              refine va_get (D := D) (ci := 9) (C := R_Sd) (T := T_Sd) (N := 9) hx hb hts in_Sd hown hK hst.1 51 (WS_o51 g σ5) rfl 8 (by decide) (hts _ gw407) (fun _ h9 => h9) rfl d_Sd_propose_89 ?_
              refine va_get (D := D) (ci := 8) (C := R_Pr) (T := T_Pr) (N := 10) hx hb hts in_Pr hown hK hst.1 45 (WS_o45 g σ5) rfl 0 (by decide) (hts _ gw368) (fun _ h9 => h9) rfl d_Sd_propose_92 ?_
              exact kw_iret hx hb hr hlocks hst h d_Sd_propose_95
            · replace h := h.2 hc
              exact h.elim
          · replace h := h.2 hc
            exact h.elim
set_option maxRecDepth 100000 in
set_option maxHeartbeats 4000000 in
theorem c_Sd_propose (l : Launch) {D : va_G} {g : Gm} {sz : Nat} (x1 : Int32) {σ : Sg} {post : Int32 → Sg → Prop} (h : wq_Sd_propose x1 σ post) : Met l y_Sd_propose (.code y_Sd_propose k_Sd_propose 2 (some .int) :: GW) { frames := 37, cells := 0, slots := 0, locals := 928 } (PcW D vwCl (WS g) g (Zk g) σ sz [.ref (g.1 51), .int x1]) (QiW D vwCl (WS g) post (va_A (WS g σ) sz)) 0 0 (va_A (WS g σ) sz) := by
  refine kw_entry (own := R_Sd) (by decide) rfl rfl (Nat.le_of_ble_eq_true rfl) ?_
  intro p e s m below meth c ls hsz C hin hl hst
  exact b_Sd_propose_0 C x1 σ _ _ ls hl hst h
/-! SchemaDesk.proposal (II)I -/
abbrev k_Sd_proposal : ByteArray := prog_1_method_16_code
abbrev y_Sd_proposal : MethodName := ⟨"SchemaDesk", "proposal", "(II)I"⟩
theorem d_Sd_proposal_0 : decode k_Sd_proposal 0 = .ok (.iload_n 1, 1) := by decide +kernel
theorem d_Sd_proposal_1 : decode k_Sd_proposal 1 = .ok (.ifCond .lt 18, 3) := by decide +kernel
theorem d_Sd_proposal_4 : decode k_Sd_proposal 4 = .ok (.iload_n 1, 1) := by decide +kernel
theorem d_Sd_proposal_5 : decode k_Sd_proposal 5 = .ok (.aload_n 0, 1) := by decide +kernel
theorem d_Sd_proposal_6 : decode k_Sd_proposal 6 = .ok (.getfield 73, 3) := by decide +kernel
theorem d_Sd_proposal_9 : decode k_Sd_proposal 9 = .ok (.getfield 201, 3) := by decide +kernel
theorem d_Sd_proposal_12 : decode k_Sd_proposal 12 = .ok (.if_icmp .ge 7, 3) := by decide +kernel
theorem d_Sd_proposal_15 : decode k_Sd_proposal 15 = .ok (.iload_n 2, 1) := by decide +kernel
theorem d_Sd_proposal_16 : decode k_Sd_proposal 16 = .ok (.ifCond .ge 11, 3) := by decide +kernel
theorem d_Sd_proposal_19 : decode k_Sd_proposal 19 = .ok (.new 137, 3) := by decide +kernel
theorem d_Sd_proposal_22 : decode k_Sd_proposal 22 = .ok (.dup, 1) := by decide +kernel
theorem d_Sd_proposal_23 : decode k_Sd_proposal 23 = .ok (.invokespecial 139, 3) := by decide +kernel
theorem d_Sd_proposal_26 : decode k_Sd_proposal 26 = .ok (.athrow, 1) := by decide +kernel
theorem d_Sd_proposal_27 : decode k_Sd_proposal 27 = .ok (.aload_n 0, 1) := by decide +kernel
theorem d_Sd_proposal_28 : decode k_Sd_proposal 28 = .ok (.getfield 73, 3) := by decide +kernel
theorem d_Sd_proposal_31 : decode k_Sd_proposal 31 = .ok (.iload_n 1, 1) := by decide +kernel
theorem d_Sd_proposal_32 : decode k_Sd_proposal 32 = .ok (.iload_n 2, 1) := by decide +kernel
theorem d_Sd_proposal_33 : decode k_Sd_proposal 33 = .ok (.invokevirtual 202, 3) := by decide +kernel
theorem d_Sd_proposal_36 : decode k_Sd_proposal 36 = .ok (.ireturn, 1) := by decide +kernel
theorem gw1027 : (Jvm.Cond.methodLink "SchemaDesk" (202 : Nat) ({ cls := "SchemaDesk$Proposals", name := "characterOf", desc := "(II)I" } : Jvm.MethodName)) ∈ GW := gw_t5 (List.mem_of_getElem? (i := 67) rfl) rfl
theorem gw1028 : (Jvm.Cond.instanceMethod ({ cls := "SchemaDesk$Proposals", name := "characterOf", desc := "(II)I" } : Jvm.MethodName)) ∈ GW := gw_t5 (List.mem_of_getElem? (i := 68) rfl) rfl
theorem gw1029 : (Jvm.Cond.selects "SchemaDesk$Proposals" ({ cls := "SchemaDesk$Proposals", name := "characterOf", desc := "(II)I" } : Jvm.MethodName) ({ cls := "SchemaDesk$Proposals", name := "characterOf", desc := "(II)I" } : Jvm.MethodName)) ∈ GW := gw_t5 (List.mem_of_getElem? (i := 69) rfl) rfl
theorem gw1030 : (Jvm.Cond.code ({ cls := "SchemaDesk$Proposals", name := "characterOf", desc := "(II)I" } : Jvm.MethodName) prog_4_method_2_code (3 : Nat) (Option.some Jvm.ClassFile.FieldType.int)) ∈ GW := gw_t5 (List.mem_of_getElem? (i := 70) rfl) rfl
def wq_Sd_proposal (x1 : Int32) (x2 : Int32) (σ : Sg) (post : Int32 → Sg → Prop) : Prop := ((x1 < 0 → False) ∧ (¬ x1 < 0 → (((σ.1 45 0) ≤ x1 → False) ∧ (¬ (σ.1 45 0) ≤ x1 → ((0 ≤ x2 → (wq_Pr_characterOf x1 x2 σ (fun r1 σ1 => post r1 σ1))) ∧ (¬ 0 ≤ x2 → False))))))
set_option maxRecDepth 100000 in
set_option maxHeartbeats 4000000 in
theorem b_Sd_proposal_0 {p : Program} {l : Launch} {e : Env} {s : State} {m : MethodId} {args : Array Value} {below : List Frame} {meth : Method} {c : Code} {D : va_G} {g : Gm} {A : Nat → Prop} {post : Int32 → Sg → Prop} (C : kC p s m args meth c k_Sd_proposal 3 (some .int) GW R_Sd D vwCl g (Zk g) A) (x1 : Int32) (x2 : Int32) (σ : Sg) (H : Heap) (locs : List Loc) (ls : Array Slot) (hl : lv_has ls 3 [(0, .ref (g.1 51)), (1, .int x1), (2, .int x2)]) (hst : Wst D vwCl (WS g) A s σ H locs) (h : wq_Sd_proposal x1 x2 σ post) : W p l e { frames := 1, cells := 0, slots := 0, locals := 22 } s m args below meth c H locs 0 0 (MQ below (QiW D vwCl (WS g) post A) args s 0 0 A) (F0 m 0 ls []) := by
  obtain ⟨hx, hb, hr, hml, hown, hts, hlocks, hK, hZ, hA⟩ := C
  unfold wq_Sd_proposal at h
  refine lv_iload_n hx hb d_Sd_proposal_0 rfl (lv_at hl 1 rfl) ?_
  refine lv_if_lt (tgt := 19) hx hb d_Sd_proposal_1 (by decide) (fun hc => ?_) (fun hc => ?_)
  · replace h := h.1 hc
    exact h.elim
  · replace h := h.2 hc
    refine lv_iload_n hx hb d_Sd_proposal_4 rfl (lv_at hl 1 rfl) ?_
    refine lv_aload_n hx hb d_Sd_proposal_5 rfl (lv_at hl 0 rfl) ?_
    refine va_get (D := D) (ci := 9) (C := R_Sd) (T := T_Sd) (N := 9) hx hb hts in_Sd hown hK hst.1 51 (WS_o51 g σ) rfl 8 (by decide) (hts _ gw407) (fun _ h9 => h9) rfl d_Sd_proposal_6 ?_
    refine va_get (D := D) (ci := 8) (C := R_Pr) (T := T_Pr) (N := 10) hx hb hts in_Pr hown hK hst.1 45 (WS_o45 g σ) rfl 0 (by decide) (hts _ gw368) (fun _ h9 => h9) rfl d_Sd_proposal_9 ?_
    refine lv_icmp_ge (tgt := 19) hx hb d_Sd_proposal_12 (by decide) (fun hc => ?_) (fun hc => ?_)
    · replace h := h.1 hc
      exact h.elim
    · replace h := h.2 hc
      refine lv_iload_n hx hb d_Sd_proposal_15 rfl (lv_at hl 2 rfl) ?_
      refine lv_if_ge (tgt := 27) hx hb d_Sd_proposal_16 (by decide) (fun hc => ?_) (fun hc => ?_)
      · replace h := h.1 hc
        refine lv_aload_n hx hb d_Sd_proposal_27 rfl (lv_at hl 0 rfl) ?_
        refine va_get (D := D) (ci := 9) (C := R_Sd) (T := T_Sd) (N := 9) hx hb hts in_Sd hown hK hst.1 51 (WS_o51 g σ) rfl 8 (by decide) (hts _ gw407) (fun _ h9 => h9) rfl d_Sd_proposal_28 ?_
        refine lv_iload_n hx hb d_Sd_proposal_31 rfl (lv_at hl 1 rfl) ?_
        refine lv_iload_n hx hb d_Sd_proposal_32 rfl (lv_at hl 2 rfl) ?_
        refine kw_calli (va_runV (As := [.int x1, .int x2]) (rest := []) (b := g.1 45) ⟨hx, hb, hml, hown, hts⟩ (c_Pr_characterOf l x1 x2 h) (cwV 2 hts (gd_v gw1027 gw1028 gw1029 gw14 gw1030) rfl rfl rfl (by decide +kernel) ⟨Nat.le_of_ble_eq_true rfl, Nat.le_of_ble_eq_true rfl⟩) ⟨kw_blind (Zk_ok g), va_recv hK hst.1 rfl (WS_o45 g σ), kw_pre (Zk_ok g) hK hZ hA hst⟩ rfl rfl hl.1 rfl (lv_room (Nat.le_of_ble_eq_true rfl)) d_Sd_proposal_33 ⟨Nat.le_of_ble_eq_true rfl, Nat.le_of_ble_eq_true rfl⟩) hst hA (fun r1 σ1 H locs h hst => ?_)
        exact kw_iret hx hb hr hlocks hst h d_Sd_proposal_36
      · replace h := h.2 hc
        exact h.elim
set_option maxRecDepth 100000 in
set_option maxHeartbeats 4000000 in
theorem c_Sd_proposal (l : Launch) {D : va_G} {g : Gm} {sz : Nat} (x1 : Int32) (x2 : Int32) {σ : Sg} {post : Int32 → Sg → Prop} (h : wq_Sd_proposal x1 x2 σ post) : Met l y_Sd_proposal (.code y_Sd_proposal k_Sd_proposal 3 (some .int) :: GW) { frames := 1, cells := 0, slots := 0, locals := 22 } (PcW D vwCl (WS g) g (Zk g) σ sz [.ref (g.1 51), .int x1, .int x2]) (QiW D vwCl (WS g) post (va_A (WS g σ) sz)) 0 0 (va_A (WS g σ) sz) := by
  refine kw_entry (own := R_Sd) (by decide) rfl rfl (Nat.le_of_ble_eq_true rfl) ?_
  intro p e s m below meth c ls hsz C hin hl hst
  exact b_Sd_proposal_0 C x1 x2 σ _ _ ls hl hst h
