def tl (b : Nat) : Nat := if b = 0 then 160 else 80
def tf (b : Nat) : Nat := if b = 0 then 480 else 240
/-- WORD_OF_KIND -/
def kwd (j : Nat) : Int32 := match j with
  | 0 => 22
  | 1 => 23
  | 2 => 23
  | 3 => 24
  | 4 => 25
  | 5 => 26
  | _ => 27
def Zk (g : Gm) : Zt := fun A U H => va_Z "SchemaDesk" "WORD_OF_KIND" "[I" (.ref (g.1 92)) A U H ∧ va_T .int (g.1 92) 7 (fun j => .int (kwd j)) A U H ∧ va_Nw (.fieldLinkNest "SchemaDesk$Verdicts" 166 "SchemaDesk" "WORD_OF_KIND" "[I" "SchemaDesk") U ∧ Zx A U H
theorem Zk_ok (g : Gm) : Zok (Zk g) := ⟨fun _ _ _ _ h q => ⟨q.1.moved h.alike, q.2.1.moved h.alike, va_Nw.warmF h q.2.2.1, Zx_ok.1 _ _ _ _ h q.2.2.2⟩, fun _ _ _ _ h q => ⟨q.1.kept h, q.2.1.kept h, q.2.2.1, Zx_ok.2.1 _ _ _ _ h q.2.2.2⟩, fun _ _ _ _ h q => ⟨q.1.narrow h, q.2.1.narrow h, q.2.2.1, Zx_ok.2.2 _ _ _ _ h q.2.2.2⟩⟩
def WS (g : Gm) (σ : Sg) : va_W := [(g.1 0, .inr (0, [.ref (g.1 10), .ref (g.1 1), .ref (g.1 2), .ref (g.1 3), .ref (g.1 4), .ref (g.1 5), .ref (g.1 6), .ref (g.1 7), .ref (g.1 8), .int (σ.1 0 9), .ref (g.1 9), .int (σ.1 0 11)])),
  (g.1 1, .inl (g.2 0, 160, .inl (σ.1 1))),
  (g.1 2, .inl (g.2 0, 160, .inl (σ.1 2))),
  (g.1 3, .inl (g.2 0, 160, .inl (σ.1 3))),
  (g.1 4, .inl (g.2 0, 160, .inl (σ.1 4))),
  (g.1 5, .inl (g.2 0, 160, .inl (σ.1 5))),
  (g.1 6, .inl (g.2 0, 160, .inl (σ.1 6))),
  (g.1 7, .inl (g.2 0, 160, .inl (σ.1 7))),
  (g.1 8, .inl (g.2 0, 160, .inl (σ.1 8))),
  (g.1 9, .inl (g.2 0, 480, .inl (σ.1 9))),
  (g.1 10, .inr (1, [.ref (g.1 11), .int (σ.1 10 1)])),
  (g.1 11, .inl (g.2 1, 160, .inl (σ.1 11))),
  (g.1 12, .inr (2, [.ref (g.1 0), .int (σ.1 12 1), .ref (g.1 10), .ref (g.1 26), .int (σ.1 12 4)])),
  (g.1 13, .inr (0, [.ref (g.1 23), .ref (g.1 14), .ref (g.1 15), .ref (g.1 16), .ref (g.1 17), .ref (g.1 18), .ref (g.1 19), .ref (g.1 20), .ref (g.1 21), .int (σ.1 13 9), .ref (g.1 22), .int (σ.1 13 11)])),
  (g.1 14, .inl (g.2 0, 80, .inl (σ.1 14))),
  (g.1 15, .inl (g.2 0, 80, .inl (σ.1 15))),
  (g.1 16, .inl (g.2 0, 80, .inl (σ.1 16))),
  (g.1 17, .inl (g.2 0, 80, .inl (σ.1 17))),
  (g.1 18, .inl (g.2 0, 80, .inl (σ.1 18))),
  (g.1 19, .inl (g.2 0, 80, .inl (σ.1 19))),
  (g.1 20, .inl (g.2 0, 80, .inl (σ.1 20))),
  (g.1 21, .inl (g.2 0, 80, .inl (σ.1 21))),
  (g.1 22, .inl (g.2 0, 240, .inl (σ.1 22))),
  (g.1 23, .inr (1, [.ref (g.1 24), .int (σ.1 23 1)])),
  (g.1 24, .inl (g.2 1, 80, .inl (σ.1 24))),
  (g.1 25, .inr (2, [.ref (g.1 13), .int (σ.1 25 1), .ref (g.1 23), .ref (g.1 26), .int (σ.1 25 4)])),
  (g.1 26, .inr (4, [.ref (g.1 27), .ref (g.1 28)])),
  (g.1 27, .inl (g.2 1, 202, .inl (σ.1 27))),
  (g.1 28, .inl (g.2 0, 31, .inl (σ.1 28))),
  (g.1 29, .inr (5, [.ref (g.1 0), .int (σ.1 29 1), .ref (g.1 30), .ref (g.1 31), .ref (g.1 32), .ref (g.1 33), .int (σ.1 29 6), .int (σ.1 29 7), .ref (g.1 26), .ref (g.1 34)])),
  (g.1 30, .inl (g.2 0, 160, .inl (σ.1 30))),
  (g.1 31, .inl (g.2 0, 160, .inl (σ.1 31))),
  (g.1 32, .inl (g.2 0, 160, .inl (σ.1 32))),
  (g.1 33, .inl (g.2 0, 160, .inl (σ.1 33))),
  (g.1 34, .inl (g.2 2, 160, .inl (σ.1 34))),
  (g.1 35, .inr (6, [.ref (g.1 29), .ref (g.1 0), .ref (g.1 13), .int (σ.1 35 3), .ref (g.1 36), .ref (g.1 38)])),
  (g.1 36, .inr (3, [.ref (g.1 37)])),
  (g.1 37, .inl (g.2 3, 320, .inr (.inl (σ.2.1 37)))),
  (g.1 38, .inr (3, [.ref (g.1 39)])),
  (g.1 39, .inl (g.2 3, 320, .inr (.inl (σ.2.1 39)))),
  (g.1 40, .inr (7, [.int (σ.1 40 0), .ref σ.2.2.1, .ref (g.1 35), .ref (g.1 29), .ref (g.1 0), .ref (g.1 13), .ref (g.1 41), .ref (g.1 43)])),
  (g.1 41, .inr (3, [.ref (g.1 42)])),
  (g.1 42, .inl (g.2 3, 320, .inr (.inl (σ.2.1 42)))),
  (g.1 43, .inr (3, [.ref (g.1 44)])),
  (g.1 44, .inl (g.2 3, 320, .inr (.inl (σ.2.1 44)))),
  (g.1 45, .inr (8, [.int (σ.1 45 0), .ref (g.1 46), .ref (g.1 47), .ref (g.1 48), .int (σ.1 45 4), .ref (g.1 35), .ref (g.1 29), .ref (g.1 0), .ref (g.1 13), .ref (g.1 49)])),
  (g.1 46, .inl (g.2 1, 160, .inl (σ.1 46))),
  (g.1 47, .inl (g.2 0, 161, .inl (σ.1 47))),
  (g.1 48, .inl (g.2 0, 160, .inl (σ.1 48))),
  (g.1 49, .inr (3, [.ref (g.1 50)])),
  (g.1 50, .inl (g.2 3, 320, .inr (.inl (σ.2.1 50)))),
  (g.1 51, .inr (9, [.ref (g.1 26), .ref (g.1 0), .ref (g.1 13), .ref (g.1 12), .ref (g.1 25), .ref (g.1 29), .ref (g.1 35), .ref (g.1 40), .ref (g.1 45)])),
  (σ.2.2.1, .inl (g.2 0, σ.2.2.2, .inl (σ.1 52))),
  (g.1 53, .inl (g.2 3, 1, .inr (.inl (σ.2.1 53)))),
  (g.1 54, .inr (10, [.ref (g.1 55), .int (σ.1 54 1), .ref (g.1 56), .ref (g.1 57), .ref (g.1 58), .ref (g.1 59), .ref (g.1 60), .ref (g.1 61), .ref (g.1 62), .ref (g.1 63), .ref (g.1 64), .ref (g.1 65), .ref (g.1 66), .ref (g.1 67), .ref (g.1 68), .ref (g.1 69), .ref (g.1 70), .ref (g.1 71), .int (σ.1 54 18), .int (σ.1 54 19), .int (σ.1 54 20), .ref (g.1 72), .ref (g.1 73), .ref (g.1 74), .ref (g.1 75), .ref (g.1 76), .ref (g.1 77), .ref (g.1 78), .int (σ.1 54 28), .ref (g.1 79), .ref (g.1 80), .ref (g.1 81), .ref (g.1 82), .ref (g.1 83), .ref (g.1 84), .ref (g.1 85), .ref (g.1 86), .ref (g.1 87), .long (σ.2.1 54 38), .long (σ.2.1 54 39), .int (σ.1 54 40), .ref (g.1 88), .int (σ.1 54 42), .ref (g.1 89), .ref (g.1 90), .ref (g.1 91)])),
  (g.1 55, .inl (g.2 3, 27, .inr (.inl (σ.2.1 55)))),
  (g.1 56, .inl (g.2 0, 240, .inl (σ.1 56))),
  (g.1 57, .inl (g.2 0, 2, .inl (σ.1 57))),
  (g.1 58, .inl (g.2 0, 2, .inl (σ.1 58))),
  (g.1 59, .inl (g.2 0, 240, .inl (σ.1 59))),
  (g.1 60, .inl (g.2 0, 240, .inl (σ.1 60))),
  (g.1 61, .inl (g.2 0, 240, .inl (σ.1 61))),
  (g.1 62, .inl (g.2 0, 240, .inl (σ.1 62))),
  (g.1 63, .inl (g.2 0, 240, .inl (σ.1 63))),
  (g.1 64, .inl (g.2 0, 240, .inl (σ.1 64))),
  (g.1 65, .inl (g.2 0, 240, .inl (σ.1 65))),
  (g.1 66, .inl (g.2 0, 240, .inl (σ.1 66))),
  (g.1 67, .inl (g.2 0, 240, .inl (σ.1 67))),
  (g.1 68, .inl (g.2 0, 240, .inl (σ.1 68))),
  (g.1 69, .inl (g.2 0, 240, .inl (σ.1 69))),
  (g.1 70, .inl (g.2 0, 800, .inl (σ.1 70))),
  (g.1 71, .inl (g.2 0, 2, .inl (σ.1 71))),
  (g.1 72, .inl (g.2 0, 9, .inl (σ.1 72))),
  (g.1 73, .inl (g.2 0, 9, .inl (σ.1 73))),
  (g.1 74, .inl (g.2 2, 9, .inl (σ.1 74))),
  (g.1 75, .inl (g.2 2, 9, .inl (σ.1 75))),
  (g.1 76, .inl (g.2 0, 3520, .inl (σ.1 76))),
  (g.1 77, .inl (g.2 0, 160, .inl (σ.1 77))),
  (g.1 78, .inl (g.2 0, 160, .inl (σ.1 78))),
  (g.1 79, .inl (g.2 2, 160, .inl (σ.1 79))),
  (g.1 80, .inl (g.2 3, 160, .inr (.inl (σ.2.1 80)))),
  (g.1 81, .inl (g.2 3, 160, .inr (.inl (σ.2.1 81)))),
  (g.1 82, .inl (g.2 3, 160, .inr (.inl (σ.2.1 82)))),
  (g.1 83, .inl (g.2 3, 160, .inr (.inl (σ.2.1 83)))),
  (g.1 84, .inl (g.2 3, 160, .inr (.inl (σ.2.1 84)))),
  (g.1 85, .inl (g.2 3, 160, .inr (.inl (σ.2.1 85)))),
  (g.1 86, .inl (g.2 3, 160, .inr (.inl (σ.2.1 86)))),
  (g.1 87, .inl (g.2 3, 160, .inr (.inl (σ.2.1 87)))),
  (g.1 88, .inl (g.2 0, 1300, .inl (σ.1 88))),
  (g.1 89, .inl (g.2 0, 160, .inl (σ.1 89))),
  (g.1 90, .inl (g.2 0, 81, .inl (σ.1 90))),
  (g.1 91, .inl (g.2 0, 160, .inl (σ.1 91)))]
theorem WS_o0 (g : Gm) (σ : Sg) : (WS g σ)[0]? = some (g.1 0, .inr (0, [.ref (g.1 10), .ref (g.1 1), .ref (g.1 2), .ref (g.1 3), .ref (g.1 4), .ref (g.1 5), .ref (g.1 6), .ref (g.1 7), .ref (g.1 8), .int (σ.1 0 9), .ref (g.1 9), .int (σ.1 0 11)])) := rfl
theorem WS_p0_9 (g : Gm) (σ : Sg) (v : Int32) : (WS g σ).set 0 (g.1 0, .inr (0, [.ref (g.1 10), .ref (g.1 1), .ref (g.1 2), .ref (g.1 3), .ref (g.1 4), .ref (g.1 5), .ref (g.1 6), .ref (g.1 7), .ref (g.1 8), .int (σ.1 0 9), .ref (g.1 9), .int (σ.1 0 11)].set 9 (.int v))) = WS g (si σ 0 9 v) := rfl
theorem WS_p0_11 (g : Gm) (σ : Sg) (v : Int32) : (WS g σ).set 0 (g.1 0, .inr (0, [.ref (g.1 10), .ref (g.1 1), .ref (g.1 2), .ref (g.1 3), .ref (g.1 4), .ref (g.1 5), .ref (g.1 6), .ref (g.1 7), .ref (g.1 8), .int (σ.1 0 9), .ref (g.1 9), .int (σ.1 0 11)].set 11 (.int v))) = WS g (si σ 0 11 v) := rfl
theorem WS_a1 (g : Gm) (σ : Sg) : (WS g σ)[1]? = some (g.1 1, .inl (g.2 0, 160, .inl (σ.1 1))) := rfl
theorem WS_s1 (g : Gm) (σ : Sg) (j : Nat) (v : Int32) : (WS g σ).set 1 (g.1 1, .inl (g.2 0, 160, .inl (upd (σ.1 1) j v))) = WS g (si σ 1 j v) := rfl
theorem WS_w1 (g : Gm) (σ : Sg) (f : Nat → Int32) : (WS g σ).set 1 (g.1 1, .inl (g.2 0, 160, .inl f)) = WS g (sw σ 1 f) := rfl
theorem WS_a2 (g : Gm) (σ : Sg) : (WS g σ)[2]? = some (g.1 2, .inl (g.2 0, 160, .inl (σ.1 2))) := rfl
theorem WS_s2 (g : Gm) (σ : Sg) (j : Nat) (v : Int32) : (WS g σ).set 2 (g.1 2, .inl (g.2 0, 160, .inl (upd (σ.1 2) j v))) = WS g (si σ 2 j v) := rfl
theorem WS_w2 (g : Gm) (σ : Sg) (f : Nat → Int32) : (WS g σ).set 2 (g.1 2, .inl (g.2 0, 160, .inl f)) = WS g (sw σ 2 f) := rfl
theorem WS_a3 (g : Gm) (σ : Sg) : (WS g σ)[3]? = some (g.1 3, .inl (g.2 0, 160, .inl (σ.1 3))) := rfl
theorem WS_s3 (g : Gm) (σ : Sg) (j : Nat) (v : Int32) : (WS g σ).set 3 (g.1 3, .inl (g.2 0, 160, .inl (upd (σ.1 3) j v))) = WS g (si σ 3 j v) := rfl
theorem WS_w3 (g : Gm) (σ : Sg) (f : Nat → Int32) : (WS g σ).set 3 (g.1 3, .inl (g.2 0, 160, .inl f)) = WS g (sw σ 3 f) := rfl
theorem WS_a4 (g : Gm) (σ : Sg) : (WS g σ)[4]? = some (g.1 4, .inl (g.2 0, 160, .inl (σ.1 4))) := rfl
theorem WS_s4 (g : Gm) (σ : Sg) (j : Nat) (v : Int32) : (WS g σ).set 4 (g.1 4, .inl (g.2 0, 160, .inl (upd (σ.1 4) j v))) = WS g (si σ 4 j v) := rfl
theorem WS_w4 (g : Gm) (σ : Sg) (f : Nat → Int32) : (WS g σ).set 4 (g.1 4, .inl (g.2 0, 160, .inl f)) = WS g (sw σ 4 f) := rfl
theorem WS_a5 (g : Gm) (σ : Sg) : (WS g σ)[5]? = some (g.1 5, .inl (g.2 0, 160, .inl (σ.1 5))) := rfl
theorem WS_s5 (g : Gm) (σ : Sg) (j : Nat) (v : Int32) : (WS g σ).set 5 (g.1 5, .inl (g.2 0, 160, .inl (upd (σ.1 5) j v))) = WS g (si σ 5 j v) := rfl
theorem WS_w5 (g : Gm) (σ : Sg) (f : Nat → Int32) : (WS g σ).set 5 (g.1 5, .inl (g.2 0, 160, .inl f)) = WS g (sw σ 5 f) := rfl
theorem WS_a6 (g : Gm) (σ : Sg) : (WS g σ)[6]? = some (g.1 6, .inl (g.2 0, 160, .inl (σ.1 6))) := rfl
theorem WS_s6 (g : Gm) (σ : Sg) (j : Nat) (v : Int32) : (WS g σ).set 6 (g.1 6, .inl (g.2 0, 160, .inl (upd (σ.1 6) j v))) = WS g (si σ 6 j v) := rfl
theorem WS_w6 (g : Gm) (σ : Sg) (f : Nat → Int32) : (WS g σ).set 6 (g.1 6, .inl (g.2 0, 160, .inl f)) = WS g (sw σ 6 f) := rfl
theorem WS_a7 (g : Gm) (σ : Sg) : (WS g σ)[7]? = some (g.1 7, .inl (g.2 0, 160, .inl (σ.1 7))) := rfl
theorem WS_s7 (g : Gm) (σ : Sg) (j : Nat) (v : Int32) : (WS g σ).set 7 (g.1 7, .inl (g.2 0, 160, .inl (upd (σ.1 7) j v))) = WS g (si σ 7 j v) := rfl
theorem WS_w7 (g : Gm) (σ : Sg) (f : Nat → Int32) : (WS g σ).set 7 (g.1 7, .inl (g.2 0, 160, .inl f)) = WS g (sw σ 7 f) := rfl
theorem WS_a8 (g : Gm) (σ : Sg) : (WS g σ)[8]? = some (g.1 8, .inl (g.2 0, 160, .inl (σ.1 8))) := rfl
theorem WS_s8 (g : Gm) (σ : Sg) (j : Nat) (v : Int32) : (WS g σ).set 8 (g.1 8, .inl (g.2 0, 160, .inl (upd (σ.1 8) j v))) = WS g (si σ 8 j v) := rfl
theorem WS_w8 (g : Gm) (σ : Sg) (f : Nat → Int32) : (WS g σ).set 8 (g.1 8, .inl (g.2 0, 160, .inl f)) = WS g (sw σ 8 f) := rfl
theorem WS_a9 (g : Gm) (σ : Sg) : (WS g σ)[9]? = some (g.1 9, .inl (g.2 0, 480, .inl (σ.1 9))) := rfl
theorem WS_s9 (g : Gm) (σ : Sg) (j : Nat) (v : Int32) : (WS g σ).set 9 (g.1 9, .inl (g.2 0, 480, .inl (upd (σ.1 9) j v))) = WS g (si σ 9 j v) := rfl
theorem WS_w9 (g : Gm) (σ : Sg) (f : Nat → Int32) : (WS g σ).set 9 (g.1 9, .inl (g.2 0, 480, .inl f)) = WS g (sw σ 9 f) := rfl
theorem WS_o10 (g : Gm) (σ : Sg) : (WS g σ)[10]? = some (g.1 10, .inr (1, [.ref (g.1 11), .int (σ.1 10 1)])) := rfl
theorem WS_p10_1 (g : Gm) (σ : Sg) (v : Int32) : (WS g σ).set 10 (g.1 10, .inr (1, [.ref (g.1 11), .int (σ.1 10 1)].set 1 (.int v))) = WS g (si σ 10 1 v) := rfl
theorem WS_a11 (g : Gm) (σ : Sg) : (WS g σ)[11]? = some (g.1 11, .inl (g.2 1, 160, .inl (σ.1 11))) := rfl
theorem WS_s11 (g : Gm) (σ : Sg) (j : Nat) (v : Int32) : (WS g σ).set 11 (g.1 11, .inl (g.2 1, 160, .inl (upd (σ.1 11) j v))) = WS g (si σ 11 j v) := rfl
theorem WS_w11 (g : Gm) (σ : Sg) (f : Nat → Int32) : (WS g σ).set 11 (g.1 11, .inl (g.2 1, 160, .inl f)) = WS g (sw σ 11 f) := rfl
theorem WS_o12 (g : Gm) (σ : Sg) : (WS g σ)[12]? = some (g.1 12, .inr (2, [.ref (g.1 0), .int (σ.1 12 1), .ref (g.1 10), .ref (g.1 26), .int (σ.1 12 4)])) := rfl
theorem WS_p12_1 (g : Gm) (σ : Sg) (v : Int32) : (WS g σ).set 12 (g.1 12, .inr (2, [.ref (g.1 0), .int (σ.1 12 1), .ref (g.1 10), .ref (g.1 26), .int (σ.1 12 4)].set 1 (.int v))) = WS g (si σ 12 1 v) := rfl
theorem WS_p12_4 (g : Gm) (σ : Sg) (v : Int32) : (WS g σ).set 12 (g.1 12, .inr (2, [.ref (g.1 0), .int (σ.1 12 1), .ref (g.1 10), .ref (g.1 26), .int (σ.1 12 4)].set 4 (.int v))) = WS g (si σ 12 4 v) := rfl
theorem WS_o13 (g : Gm) (σ : Sg) : (WS g σ)[13]? = some (g.1 13, .inr (0, [.ref (g.1 23), .ref (g.1 14), .ref (g.1 15), .ref (g.1 16), .ref (g.1 17), .ref (g.1 18), .ref (g.1 19), .ref (g.1 20), .ref (g.1 21), .int (σ.1 13 9), .ref (g.1 22), .int (σ.1 13 11)])) := rfl
theorem WS_p13_9 (g : Gm) (σ : Sg) (v : Int32) : (WS g σ).set 13 (g.1 13, .inr (0, [.ref (g.1 23), .ref (g.1 14), .ref (g.1 15), .ref (g.1 16), .ref (g.1 17), .ref (g.1 18), .ref (g.1 19), .ref (g.1 20), .ref (g.1 21), .int (σ.1 13 9), .ref (g.1 22), .int (σ.1 13 11)].set 9 (.int v))) = WS g (si σ 13 9 v) := rfl
theorem WS_p13_11 (g : Gm) (σ : Sg) (v : Int32) : (WS g σ).set 13 (g.1 13, .inr (0, [.ref (g.1 23), .ref (g.1 14), .ref (g.1 15), .ref (g.1 16), .ref (g.1 17), .ref (g.1 18), .ref (g.1 19), .ref (g.1 20), .ref (g.1 21), .int (σ.1 13 9), .ref (g.1 22), .int (σ.1 13 11)].set 11 (.int v))) = WS g (si σ 13 11 v) := rfl
theorem WS_a14 (g : Gm) (σ : Sg) : (WS g σ)[14]? = some (g.1 14, .inl (g.2 0, 80, .inl (σ.1 14))) := rfl
theorem WS_s14 (g : Gm) (σ : Sg) (j : Nat) (v : Int32) : (WS g σ).set 14 (g.1 14, .inl (g.2 0, 80, .inl (upd (σ.1 14) j v))) = WS g (si σ 14 j v) := rfl
theorem WS_w14 (g : Gm) (σ : Sg) (f : Nat → Int32) : (WS g σ).set 14 (g.1 14, .inl (g.2 0, 80, .inl f)) = WS g (sw σ 14 f) := rfl
theorem WS_a15 (g : Gm) (σ : Sg) : (WS g σ)[15]? = some (g.1 15, .inl (g.2 0, 80, .inl (σ.1 15))) := rfl
theorem WS_s15 (g : Gm) (σ : Sg) (j : Nat) (v : Int32) : (WS g σ).set 15 (g.1 15, .inl (g.2 0, 80, .inl (upd (σ.1 15) j v))) = WS g (si σ 15 j v) := rfl
theorem WS_w15 (g : Gm) (σ : Sg) (f : Nat → Int32) : (WS g σ).set 15 (g.1 15, .inl (g.2 0, 80, .inl f)) = WS g (sw σ 15 f) := rfl
theorem WS_a16 (g : Gm) (σ : Sg) : (WS g σ)[16]? = some (g.1 16, .inl (g.2 0, 80, .inl (σ.1 16))) := rfl
theorem WS_s16 (g : Gm) (σ : Sg) (j : Nat) (v : Int32) : (WS g σ).set 16 (g.1 16, .inl (g.2 0, 80, .inl (upd (σ.1 16) j v))) = WS g (si σ 16 j v) := rfl
theorem WS_w16 (g : Gm) (σ : Sg) (f : Nat → Int32) : (WS g σ).set 16 (g.1 16, .inl (g.2 0, 80, .inl f)) = WS g (sw σ 16 f) := rfl
theorem WS_a17 (g : Gm) (σ : Sg) : (WS g σ)[17]? = some (g.1 17, .inl (g.2 0, 80, .inl (σ.1 17))) := rfl
theorem WS_s17 (g : Gm) (σ : Sg) (j : Nat) (v : Int32) : (WS g σ).set 17 (g.1 17, .inl (g.2 0, 80, .inl (upd (σ.1 17) j v))) = WS g (si σ 17 j v) := rfl
theorem WS_w17 (g : Gm) (σ : Sg) (f : Nat → Int32) : (WS g σ).set 17 (g.1 17, .inl (g.2 0, 80, .inl f)) = WS g (sw σ 17 f) := rfl
theorem WS_a18 (g : Gm) (σ : Sg) : (WS g σ)[18]? = some (g.1 18, .inl (g.2 0, 80, .inl (σ.1 18))) := rfl
theorem WS_s18 (g : Gm) (σ : Sg) (j : Nat) (v : Int32) : (WS g σ).set 18 (g.1 18, .inl (g.2 0, 80, .inl (upd (σ.1 18) j v))) = WS g (si σ 18 j v) := rfl
theorem WS_w18 (g : Gm) (σ : Sg) (f : Nat → Int32) : (WS g σ).set 18 (g.1 18, .inl (g.2 0, 80, .inl f)) = WS g (sw σ 18 f) := rfl
theorem WS_a19 (g : Gm) (σ : Sg) : (WS g σ)[19]? = some (g.1 19, .inl (g.2 0, 80, .inl (σ.1 19))) := rfl
theorem WS_s19 (g : Gm) (σ : Sg) (j : Nat) (v : Int32) : (WS g σ).set 19 (g.1 19, .inl (g.2 0, 80, .inl (upd (σ.1 19) j v))) = WS g (si σ 19 j v) := rfl
theorem WS_w19 (g : Gm) (σ : Sg) (f : Nat → Int32) : (WS g σ).set 19 (g.1 19, .inl (g.2 0, 80, .inl f)) = WS g (sw σ 19 f) := rfl
theorem WS_a20 (g : Gm) (σ : Sg) : (WS g σ)[20]? = some (g.1 20, .inl (g.2 0, 80, .inl (σ.1 20))) := rfl
theorem WS_s20 (g : Gm) (σ : Sg) (j : Nat) (v : Int32) : (WS g σ).set 20 (g.1 20, .inl (g.2 0, 80, .inl (upd (σ.1 20) j v))) = WS g (si σ 20 j v) := rfl
theorem WS_w20 (g : Gm) (σ : Sg) (f : Nat → Int32) : (WS g σ).set 20 (g.1 20, .inl (g.2 0, 80, .inl f)) = WS g (sw σ 20 f) := rfl
theorem WS_a21 (g : Gm) (σ : Sg) : (WS g σ)[21]? = some (g.1 21, .inl (g.2 0, 80, .inl (σ.1 21))) := rfl
theorem WS_s21 (g : Gm) (σ : Sg) (j : Nat) (v : Int32) : (WS g σ).set 21 (g.1 21, .inl (g.2 0, 80, .inl (upd (σ.1 21) j v))) = WS g (si σ 21 j v) := rfl
theorem WS_w21 (g : Gm) (σ : Sg) (f : Nat → Int32) : (WS g σ).set 21 (g.1 21, .inl (g.2 0, 80, .inl f)) = WS g (sw σ 21 f) := rfl
theorem WS_a22 (g : Gm) (σ : Sg) : (WS g σ)[22]? = some (g.1 22, .inl (g.2 0, 240, .inl (σ.1 22))) := rfl
theorem WS_s22 (g : Gm) (σ : Sg) (j : Nat) (v : Int32) : (WS g σ).set 22 (g.1 22, .inl (g.2 0, 240, .inl (upd (σ.1 22) j v))) = WS g (si σ 22 j v) := rfl
theorem WS_w22 (g : Gm) (σ : Sg) (f : Nat → Int32) : (WS g σ).set 22 (g.1 22, .inl (g.2 0, 240, .inl f)) = WS g (sw σ 22 f) := rfl
theorem WS_o23 (g : Gm) (σ : Sg) : (WS g σ)[23]? = some (g.1 23, .inr (1, [.ref (g.1 24), .int (σ.1 23 1)])) := rfl
theorem WS_p23_1 (g : Gm) (σ : Sg) (v : Int32) : (WS g σ).set 23 (g.1 23, .inr (1, [.ref (g.1 24), .int (σ.1 23 1)].set 1 (.int v))) = WS g (si σ 23 1 v) := rfl
theorem WS_a24 (g : Gm) (σ : Sg) : (WS g σ)[24]? = some (g.1 24, .inl (g.2 1, 80, .inl (σ.1 24))) := rfl
theorem WS_s24 (g : Gm) (σ : Sg) (j : Nat) (v : Int32) : (WS g σ).set 24 (g.1 24, .inl (g.2 1, 80, .inl (upd (σ.1 24) j v))) = WS g (si σ 24 j v) := rfl
theorem WS_w24 (g : Gm) (σ : Sg) (f : Nat → Int32) : (WS g σ).set 24 (g.1 24, .inl (g.2 1, 80, .inl f)) = WS g (sw σ 24 f) := rfl
theorem WS_o25 (g : Gm) (σ : Sg) : (WS g σ)[25]? = some (g.1 25, .inr (2, [.ref (g.1 13), .int (σ.1 25 1), .ref (g.1 23), .ref (g.1 26), .int (σ.1 25 4)])) := rfl
theorem WS_p25_1 (g : Gm) (σ : Sg) (v : Int32) : (WS g σ).set 25 (g.1 25, .inr (2, [.ref (g.1 13), .int (σ.1 25 1), .ref (g.1 23), .ref (g.1 26), .int (σ.1 25 4)].set 1 (.int v))) = WS g (si σ 25 1 v) := rfl
theorem WS_p25_4 (g : Gm) (σ : Sg) (v : Int32) : (WS g σ).set 25 (g.1 25, .inr (2, [.ref (g.1 13), .int (σ.1 25 1), .ref (g.1 23), .ref (g.1 26), .int (σ.1 25 4)].set 4 (.int v))) = WS g (si σ 25 4 v) := rfl
theorem WS_o26 (g : Gm) (σ : Sg) : (WS g σ)[26]? = some (g.1 26, .inr (4, [.ref (g.1 27), .ref (g.1 28)])) := rfl
theorem WS_a27 (g : Gm) (σ : Sg) : (WS g σ)[27]? = some (g.1 27, .inl (g.2 1, 202, .inl (σ.1 27))) := rfl
theorem WS_s27 (g : Gm) (σ : Sg) (j : Nat) (v : Int32) : (WS g σ).set 27 (g.1 27, .inl (g.2 1, 202, .inl (upd (σ.1 27) j v))) = WS g (si σ 27 j v) := rfl
theorem WS_w27 (g : Gm) (σ : Sg) (f : Nat → Int32) : (WS g σ).set 27 (g.1 27, .inl (g.2 1, 202, .inl f)) = WS g (sw σ 27 f) := rfl
theorem WS_a28 (g : Gm) (σ : Sg) : (WS g σ)[28]? = some (g.1 28, .inl (g.2 0, 31, .inl (σ.1 28))) := rfl
theorem WS_s28 (g : Gm) (σ : Sg) (j : Nat) (v : Int32) : (WS g σ).set 28 (g.1 28, .inl (g.2 0, 31, .inl (upd (σ.1 28) j v))) = WS g (si σ 28 j v) := rfl
theorem WS_w28 (g : Gm) (σ : Sg) (f : Nat → Int32) : (WS g σ).set 28 (g.1 28, .inl (g.2 0, 31, .inl f)) = WS g (sw σ 28 f) := rfl
theorem WS_o29 (g : Gm) (σ : Sg) : (WS g σ)[29]? = some (g.1 29, .inr (5, [.ref (g.1 0), .int (σ.1 29 1), .ref (g.1 30), .ref (g.1 31), .ref (g.1 32), .ref (g.1 33), .int (σ.1 29 6), .int (σ.1 29 7), .ref (g.1 26), .ref (g.1 34)])) := rfl
theorem WS_p29_1 (g : Gm) (σ : Sg) (v : Int32) : (WS g σ).set 29 (g.1 29, .inr (5, [.ref (g.1 0), .int (σ.1 29 1), .ref (g.1 30), .ref (g.1 31), .ref (g.1 32), .ref (g.1 33), .int (σ.1 29 6), .int (σ.1 29 7), .ref (g.1 26), .ref (g.1 34)].set 1 (.int v))) = WS g (si σ 29 1 v) := rfl
theorem WS_p29_6 (g : Gm) (σ : Sg) (v : Int32) : (WS g σ).set 29 (g.1 29, .inr (5, [.ref (g.1 0), .int (σ.1 29 1), .ref (g.1 30), .ref (g.1 31), .ref (g.1 32), .ref (g.1 33), .int (σ.1 29 6), .int (σ.1 29 7), .ref (g.1 26), .ref (g.1 34)].set 6 (.int v))) = WS g (si σ 29 6 v) := rfl
theorem WS_p29_7 (g : Gm) (σ : Sg) (v : Int32) : (WS g σ).set 29 (g.1 29, .inr (5, [.ref (g.1 0), .int (σ.1 29 1), .ref (g.1 30), .ref (g.1 31), .ref (g.1 32), .ref (g.1 33), .int (σ.1 29 6), .int (σ.1 29 7), .ref (g.1 26), .ref (g.1 34)].set 7 (.int v))) = WS g (si σ 29 7 v) := rfl
theorem WS_a30 (g : Gm) (σ : Sg) : (WS g σ)[30]? = some (g.1 30, .inl (g.2 0, 160, .inl (σ.1 30))) := rfl
theorem WS_s30 (g : Gm) (σ : Sg) (j : Nat) (v : Int32) : (WS g σ).set 30 (g.1 30, .inl (g.2 0, 160, .inl (upd (σ.1 30) j v))) = WS g (si σ 30 j v) := rfl
theorem WS_w30 (g : Gm) (σ : Sg) (f : Nat → Int32) : (WS g σ).set 30 (g.1 30, .inl (g.2 0, 160, .inl f)) = WS g (sw σ 30 f) := rfl
theorem WS_a31 (g : Gm) (σ : Sg) : (WS g σ)[31]? = some (g.1 31, .inl (g.2 0, 160, .inl (σ.1 31))) := rfl
theorem WS_s31 (g : Gm) (σ : Sg) (j : Nat) (v : Int32) : (WS g σ).set 31 (g.1 31, .inl (g.2 0, 160, .inl (upd (σ.1 31) j v))) = WS g (si σ 31 j v) := rfl
theorem WS_w31 (g : Gm) (σ : Sg) (f : Nat → Int32) : (WS g σ).set 31 (g.1 31, .inl (g.2 0, 160, .inl f)) = WS g (sw σ 31 f) := rfl
theorem WS_a32 (g : Gm) (σ : Sg) : (WS g σ)[32]? = some (g.1 32, .inl (g.2 0, 160, .inl (σ.1 32))) := rfl
theorem WS_s32 (g : Gm) (σ : Sg) (j : Nat) (v : Int32) : (WS g σ).set 32 (g.1 32, .inl (g.2 0, 160, .inl (upd (σ.1 32) j v))) = WS g (si σ 32 j v) := rfl
theorem WS_w32 (g : Gm) (σ : Sg) (f : Nat → Int32) : (WS g σ).set 32 (g.1 32, .inl (g.2 0, 160, .inl f)) = WS g (sw σ 32 f) := rfl
theorem WS_a33 (g : Gm) (σ : Sg) : (WS g σ)[33]? = some (g.1 33, .inl (g.2 0, 160, .inl (σ.1 33))) := rfl
theorem WS_s33 (g : Gm) (σ : Sg) (j : Nat) (v : Int32) : (WS g σ).set 33 (g.1 33, .inl (g.2 0, 160, .inl (upd (σ.1 33) j v))) = WS g (si σ 33 j v) := rfl
theorem WS_w33 (g : Gm) (σ : Sg) (f : Nat → Int32) : (WS g σ).set 33 (g.1 33, .inl (g.2 0, 160, .inl f)) = WS g (sw σ 33 f) := rfl
theorem WS_a34 (g : Gm) (σ : Sg) : (WS g σ)[34]? = some (g.1 34, .inl (g.2 2, 160, .inl (σ.1 34))) := rfl
theorem WS_s34 (g : Gm) (σ : Sg) (j : Nat) (v : Int32) : (WS g σ).set 34 (g.1 34, .inl (g.2 2, 160, .inl (upd (σ.1 34) j v))) = WS g (si σ 34 j v) := rfl
theorem WS_w34 (g : Gm) (σ : Sg) (f : Nat → Int32) : (WS g σ).set 34 (g.1 34, .inl (g.2 2, 160, .inl f)) = WS g (sw σ 34 f) := rfl
theorem WS_o35 (g : Gm) (σ : Sg) : (WS g σ)[35]? = some (g.1 35, .inr (6, [.ref (g.1 29), .ref (g.1 0), .ref (g.1 13), .int (σ.1 35 3), .ref (g.1 36), .ref (g.1 38)])) := rfl
theorem WS_p35_3 (g : Gm) (σ : Sg) (v : Int32) : (WS g σ).set 35 (g.1 35, .inr (6, [.ref (g.1 29), .ref (g.1 0), .ref (g.1 13), .int (σ.1 35 3), .ref (g.1 36), .ref (g.1 38)].set 3 (.int v))) = WS g (si σ 35 3 v) := rfl
theorem WS_o36 (g : Gm) (σ : Sg) : (WS g σ)[36]? = some (g.1 36, .inr (3, [.ref (g.1 37)])) := rfl
theorem WS_a37 (g : Gm) (σ : Sg) : (WS g σ)[37]? = some (g.1 37, .inl (g.2 3, 320, .inr (.inl (σ.2.1 37)))) := rfl
theorem WS_s37 (g : Gm) (σ : Sg) (j : Nat) (v : Int64) : (WS g σ).set 37 (g.1 37, .inl (g.2 3, 320, .inr (.inl (vp_updL (σ.2.1 37) j v)))) = WS g (sl σ 37 j v) := rfl
theorem WS_o38 (g : Gm) (σ : Sg) : (WS g σ)[38]? = some (g.1 38, .inr (3, [.ref (g.1 39)])) := rfl
theorem WS_a39 (g : Gm) (σ : Sg) : (WS g σ)[39]? = some (g.1 39, .inl (g.2 3, 320, .inr (.inl (σ.2.1 39)))) := rfl
theorem WS_s39 (g : Gm) (σ : Sg) (j : Nat) (v : Int64) : (WS g σ).set 39 (g.1 39, .inl (g.2 3, 320, .inr (.inl (vp_updL (σ.2.1 39) j v)))) = WS g (sl σ 39 j v) := rfl
theorem WS_o40 (g : Gm) (σ : Sg) : (WS g σ)[40]? = some (g.1 40, .inr (7, [.int (σ.1 40 0), .ref σ.2.2.1, .ref (g.1 35), .ref (g.1 29), .ref (g.1 0), .ref (g.1 13), .ref (g.1 41), .ref (g.1 43)])) := rfl
theorem WS_p40_0 (g : Gm) (σ : Sg) (v : Int32) : (WS g σ).set 40 (g.1 40, .inr (7, [.int (σ.1 40 0), .ref σ.2.2.1, .ref (g.1 35), .ref (g.1 29), .ref (g.1 0), .ref (g.1 13), .ref (g.1 41), .ref (g.1 43)].set 0 (.int v))) = WS g (si σ 40 0 v) := rfl
theorem WS_o41 (g : Gm) (σ : Sg) : (WS g σ)[41]? = some (g.1 41, .inr (3, [.ref (g.1 42)])) := rfl
theorem WS_a42 (g : Gm) (σ : Sg) : (WS g σ)[42]? = some (g.1 42, .inl (g.2 3, 320, .inr (.inl (σ.2.1 42)))) := rfl
theorem WS_s42 (g : Gm) (σ : Sg) (j : Nat) (v : Int64) : (WS g σ).set 42 (g.1 42, .inl (g.2 3, 320, .inr (.inl (vp_updL (σ.2.1 42) j v)))) = WS g (sl σ 42 j v) := rfl
theorem WS_o43 (g : Gm) (σ : Sg) : (WS g σ)[43]? = some (g.1 43, .inr (3, [.ref (g.1 44)])) := rfl
theorem WS_a44 (g : Gm) (σ : Sg) : (WS g σ)[44]? = some (g.1 44, .inl (g.2 3, 320, .inr (.inl (σ.2.1 44)))) := rfl
theorem WS_s44 (g : Gm) (σ : Sg) (j : Nat) (v : Int64) : (WS g σ).set 44 (g.1 44, .inl (g.2 3, 320, .inr (.inl (vp_updL (σ.2.1 44) j v)))) = WS g (sl σ 44 j v) := rfl
theorem WS_o45 (g : Gm) (σ : Sg) : (WS g σ)[45]? = some (g.1 45, .inr (8, [.int (σ.1 45 0), .ref (g.1 46), .ref (g.1 47), .ref (g.1 48), .int (σ.1 45 4), .ref (g.1 35), .ref (g.1 29), .ref (g.1 0), .ref (g.1 13), .ref (g.1 49)])) := rfl
theorem WS_p45_0 (g : Gm) (σ : Sg) (v : Int32) : (WS g σ).set 45 (g.1 45, .inr (8, [.int (σ.1 45 0), .ref (g.1 46), .ref (g.1 47), .ref (g.1 48), .int (σ.1 45 4), .ref (g.1 35), .ref (g.1 29), .ref (g.1 0), .ref (g.1 13), .ref (g.1 49)].set 0 (.int v))) = WS g (si σ 45 0 v) := rfl
theorem WS_p45_4 (g : Gm) (σ : Sg) (v : Int32) : (WS g σ).set 45 (g.1 45, .inr (8, [.int (σ.1 45 0), .ref (g.1 46), .ref (g.1 47), .ref (g.1 48), .int (σ.1 45 4), .ref (g.1 35), .ref (g.1 29), .ref (g.1 0), .ref (g.1 13), .ref (g.1 49)].set 4 (.int v))) = WS g (si σ 45 4 v) := rfl
theorem WS_a46 (g : Gm) (σ : Sg) : (WS g σ)[46]? = some (g.1 46, .inl (g.2 1, 160, .inl (σ.1 46))) := rfl
theorem WS_s46 (g : Gm) (σ : Sg) (j : Nat) (v : Int32) : (WS g σ).set 46 (g.1 46, .inl (g.2 1, 160, .inl (upd (σ.1 46) j v))) = WS g (si σ 46 j v) := rfl
theorem WS_w46 (g : Gm) (σ : Sg) (f : Nat → Int32) : (WS g σ).set 46 (g.1 46, .inl (g.2 1, 160, .inl f)) = WS g (sw σ 46 f) := rfl
theorem WS_a47 (g : Gm) (σ : Sg) : (WS g σ)[47]? = some (g.1 47, .inl (g.2 0, 161, .inl (σ.1 47))) := rfl
theorem WS_s47 (g : Gm) (σ : Sg) (j : Nat) (v : Int32) : (WS g σ).set 47 (g.1 47, .inl (g.2 0, 161, .inl (upd (σ.1 47) j v))) = WS g (si σ 47 j v) := rfl
theorem WS_w47 (g : Gm) (σ : Sg) (f : Nat → Int32) : (WS g σ).set 47 (g.1 47, .inl (g.2 0, 161, .inl f)) = WS g (sw σ 47 f) := rfl
theorem WS_a48 (g : Gm) (σ : Sg) : (WS g σ)[48]? = some (g.1 48, .inl (g.2 0, 160, .inl (σ.1 48))) := rfl
theorem WS_s48 (g : Gm) (σ : Sg) (j : Nat) (v : Int32) : (WS g σ).set 48 (g.1 48, .inl (g.2 0, 160, .inl (upd (σ.1 48) j v))) = WS g (si σ 48 j v) := rfl
theorem WS_w48 (g : Gm) (σ : Sg) (f : Nat → Int32) : (WS g σ).set 48 (g.1 48, .inl (g.2 0, 160, .inl f)) = WS g (sw σ 48 f) := rfl
theorem WS_o49 (g : Gm) (σ : Sg) : (WS g σ)[49]? = some (g.1 49, .inr (3, [.ref (g.1 50)])) := rfl
theorem WS_a50 (g : Gm) (σ : Sg) : (WS g σ)[50]? = some (g.1 50, .inl (g.2 3, 320, .inr (.inl (σ.2.1 50)))) := rfl
theorem WS_s50 (g : Gm) (σ : Sg) (j : Nat) (v : Int64) : (WS g σ).set 50 (g.1 50, .inl (g.2 3, 320, .inr (.inl (vp_updL (σ.2.1 50) j v)))) = WS g (sl σ 50 j v) := rfl
theorem WS_o51 (g : Gm) (σ : Sg) : (WS g σ)[51]? = some (g.1 51, .inr (9, [.ref (g.1 26), .ref (g.1 0), .ref (g.1 13), .ref (g.1 12), .ref (g.1 25), .ref (g.1 29), .ref (g.1 35), .ref (g.1 40), .ref (g.1 45)])) := rfl
theorem WS_a52 (g : Gm) (σ : Sg) : (WS g σ)[52]? = some (σ.2.2.1, .inl (g.2 0, σ.2.2.2, .inl (σ.1 52))) := rfl
theorem WS_s52 (g : Gm) (σ : Sg) (j : Nat) (v : Int32) : (WS g σ).set 52 (σ.2.2.1, .inl (g.2 0, σ.2.2.2, .inl (upd (σ.1 52) j v))) = WS g (si σ 52 j v) := rfl
theorem WS_w52 (g : Gm) (σ : Sg) (f : Nat → Int32) : (WS g σ).set 52 (σ.2.2.1, .inl (g.2 0, σ.2.2.2, .inl f)) = WS g (sw σ 52 f) := rfl
theorem WS_a53 (g : Gm) (σ : Sg) : (WS g σ)[53]? = some (g.1 53, .inl (g.2 3, 1, .inr (.inl (σ.2.1 53)))) := rfl
theorem WS_s53 (g : Gm) (σ : Sg) (j : Nat) (v : Int64) : (WS g σ).set 53 (g.1 53, .inl (g.2 3, 1, .inr (.inl (vp_updL (σ.2.1 53) j v)))) = WS g (sl σ 53 j v) := rfl
theorem WS_o54 (g : Gm) (σ : Sg) : (WS g σ)[54]? = some (g.1 54, .inr (10, [.ref (g.1 55), .int (σ.1 54 1), .ref (g.1 56), .ref (g.1 57), .ref (g.1 58), .ref (g.1 59), .ref (g.1 60), .ref (g.1 61), .ref (g.1 62), .ref (g.1 63), .ref (g.1 64), .ref (g.1 65), .ref (g.1 66), .ref (g.1 67), .ref (g.1 68), .ref (g.1 69), .ref (g.1 70), .ref (g.1 71), .int (σ.1 54 18), .int (σ.1 54 19), .int (σ.1 54 20), .ref (g.1 72), .ref (g.1 73), .ref (g.1 74), .ref (g.1 75), .ref (g.1 76), .ref (g.1 77), .ref (g.1 78), .int (σ.1 54 28), .ref (g.1 79), .ref (g.1 80), .ref (g.1 81), .ref (g.1 82), .ref (g.1 83), .ref (g.1 84), .ref (g.1 85), .ref (g.1 86), .ref (g.1 87), .long (σ.2.1 54 38), .long (σ.2.1 54 39), .int (σ.1 54 40), .ref (g.1 88), .int (σ.1 54 42), .ref (g.1 89), .ref (g.1 90), .ref (g.1 91)])) := rfl
theorem WS_p54_1 (g : Gm) (σ : Sg) (v : Int32) : (WS g σ).set 54 (g.1 54, .inr (10, [.ref (g.1 55), .int (σ.1 54 1), .ref (g.1 56), .ref (g.1 57), .ref (g.1 58), .ref (g.1 59), .ref (g.1 60), .ref (g.1 61), .ref (g.1 62), .ref (g.1 63), .ref (g.1 64), .ref (g.1 65), .ref (g.1 66), .ref (g.1 67), .ref (g.1 68), .ref (g.1 69), .ref (g.1 70), .ref (g.1 71), .int (σ.1 54 18), .int (σ.1 54 19), .int (σ.1 54 20), .ref (g.1 72), .ref (g.1 73), .ref (g.1 74), .ref (g.1 75), .ref (g.1 76), .ref (g.1 77), .ref (g.1 78), .int (σ.1 54 28), .ref (g.1 79), .ref (g.1 80), .ref (g.1 81), .ref (g.1 82), .ref (g.1 83), .ref (g.1 84), .ref (g.1 85), .ref (g.1 86), .ref (g.1 87), .long (σ.2.1 54 38), .long (σ.2.1 54 39), .int (σ.1 54 40), .ref (g.1 88), .int (σ.1 54 42), .ref (g.1 89), .ref (g.1 90), .ref (g.1 91)].set 1 (.int v))) = WS g (si σ 54 1 v) := rfl
theorem WS_p54_18 (g : Gm) (σ : Sg) (v : Int32) : (WS g σ).set 54 (g.1 54, .inr (10, [.ref (g.1 55), .int (σ.1 54 1), .ref (g.1 56), .ref (g.1 57), .ref (g.1 58), .ref (g.1 59), .ref (g.1 60), .ref (g.1 61), .ref (g.1 62), .ref (g.1 63), .ref (g.1 64), .ref (g.1 65), .ref (g.1 66), .ref (g.1 67), .ref (g.1 68), .ref (g.1 69), .ref (g.1 70), .ref (g.1 71), .int (σ.1 54 18), .int (σ.1 54 19), .int (σ.1 54 20), .ref (g.1 72), .ref (g.1 73), .ref (g.1 74), .ref (g.1 75), .ref (g.1 76), .ref (g.1 77), .ref (g.1 78), .int (σ.1 54 28), .ref (g.1 79), .ref (g.1 80), .ref (g.1 81), .ref (g.1 82), .ref (g.1 83), .ref (g.1 84), .ref (g.1 85), .ref (g.1 86), .ref (g.1 87), .long (σ.2.1 54 38), .long (σ.2.1 54 39), .int (σ.1 54 40), .ref (g.1 88), .int (σ.1 54 42), .ref (g.1 89), .ref (g.1 90), .ref (g.1 91)].set 18 (.int v))) = WS g (si σ 54 18 v) := rfl
theorem WS_p54_19 (g : Gm) (σ : Sg) (v : Int32) : (WS g σ).set 54 (g.1 54, .inr (10, [.ref (g.1 55), .int (σ.1 54 1), .ref (g.1 56), .ref (g.1 57), .ref (g.1 58), .ref (g.1 59), .ref (g.1 60), .ref (g.1 61), .ref (g.1 62), .ref (g.1 63), .ref (g.1 64), .ref (g.1 65), .ref (g.1 66), .ref (g.1 67), .ref (g.1 68), .ref (g.1 69), .ref (g.1 70), .ref (g.1 71), .int (σ.1 54 18), .int (σ.1 54 19), .int (σ.1 54 20), .ref (g.1 72), .ref (g.1 73), .ref (g.1 74), .ref (g.1 75), .ref (g.1 76), .ref (g.1 77), .ref (g.1 78), .int (σ.1 54 28), .ref (g.1 79), .ref (g.1 80), .ref (g.1 81), .ref (g.1 82), .ref (g.1 83), .ref (g.1 84), .ref (g.1 85), .ref (g.1 86), .ref (g.1 87), .long (σ.2.1 54 38), .long (σ.2.1 54 39), .int (σ.1 54 40), .ref (g.1 88), .int (σ.1 54 42), .ref (g.1 89), .ref (g.1 90), .ref (g.1 91)].set 19 (.int v))) = WS g (si σ 54 19 v) := rfl
theorem WS_p54_20 (g : Gm) (σ : Sg) (v : Int32) : (WS g σ).set 54 (g.1 54, .inr (10, [.ref (g.1 55), .int (σ.1 54 1), .ref (g.1 56), .ref (g.1 57), .ref (g.1 58), .ref (g.1 59), .ref (g.1 60), .ref (g.1 61), .ref (g.1 62), .ref (g.1 63), .ref (g.1 64), .ref (g.1 65), .ref (g.1 66), .ref (g.1 67), .ref (g.1 68), .ref (g.1 69), .ref (g.1 70), .ref (g.1 71), .int (σ.1 54 18), .int (σ.1 54 19), .int (σ.1 54 20), .ref (g.1 72), .ref (g.1 73), .ref (g.1 74), .ref (g.1 75), .ref (g.1 76), .ref (g.1 77), .ref (g.1 78), .int (σ.1 54 28), .ref (g.1 79), .ref (g.1 80), .ref (g.1 81), .ref (g.1 82), .ref (g.1 83), .ref (g.1 84), .ref (g.1 85), .ref (g.1 86), .ref (g.1 87), .long (σ.2.1 54 38), .long (σ.2.1 54 39), .int (σ.1 54 40), .ref (g.1 88), .int (σ.1 54 42), .ref (g.1 89), .ref (g.1 90), .ref (g.1 91)].set 20 (.int v))) = WS g (si σ 54 20 v) := rfl
theorem WS_p54_28 (g : Gm) (σ : Sg) (v : Int32) : (WS g σ).set 54 (g.1 54, .inr (10, [.ref (g.1 55), .int (σ.1 54 1), .ref (g.1 56), .ref (g.1 57), .ref (g.1 58), .ref (g.1 59), .ref (g.1 60), .ref (g.1 61), .ref (g.1 62), .ref (g.1 63), .ref (g.1 64), .ref (g.1 65), .ref (g.1 66), .ref (g.1 67), .ref (g.1 68), .ref (g.1 69), .ref (g.1 70), .ref (g.1 71), .int (σ.1 54 18), .int (σ.1 54 19), .int (σ.1 54 20), .ref (g.1 72), .ref (g.1 73), .ref (g.1 74), .ref (g.1 75), .ref (g.1 76), .ref (g.1 77), .ref (g.1 78), .int (σ.1 54 28), .ref (g.1 79), .ref (g.1 80), .ref (g.1 81), .ref (g.1 82), .ref (g.1 83), .ref (g.1 84), .ref (g.1 85), .ref (g.1 86), .ref (g.1 87), .long (σ.2.1 54 38), .long (σ.2.1 54 39), .int (σ.1 54 40), .ref (g.1 88), .int (σ.1 54 42), .ref (g.1 89), .ref (g.1 90), .ref (g.1 91)].set 28 (.int v))) = WS g (si σ 54 28 v) := rfl
theorem WS_p54_38 (g : Gm) (σ : Sg) (v : Int64) : (WS g σ).set 54 (g.1 54, .inr (10, [.ref (g.1 55), .int (σ.1 54 1), .ref (g.1 56), .ref (g.1 57), .ref (g.1 58), .ref (g.1 59), .ref (g.1 60), .ref (g.1 61), .ref (g.1 62), .ref (g.1 63), .ref (g.1 64), .ref (g.1 65), .ref (g.1 66), .ref (g.1 67), .ref (g.1 68), .ref (g.1 69), .ref (g.1 70), .ref (g.1 71), .int (σ.1 54 18), .int (σ.1 54 19), .int (σ.1 54 20), .ref (g.1 72), .ref (g.1 73), .ref (g.1 74), .ref (g.1 75), .ref (g.1 76), .ref (g.1 77), .ref (g.1 78), .int (σ.1 54 28), .ref (g.1 79), .ref (g.1 80), .ref (g.1 81), .ref (g.1 82), .ref (g.1 83), .ref (g.1 84), .ref (g.1 85), .ref (g.1 86), .ref (g.1 87), .long (σ.2.1 54 38), .long (σ.2.1 54 39), .int (σ.1 54 40), .ref (g.1 88), .int (σ.1 54 42), .ref (g.1 89), .ref (g.1 90), .ref (g.1 91)].set 38 (.long v))) = WS g (sl σ 54 38 v) := rfl
theorem WS_p54_39 (g : Gm) (σ : Sg) (v : Int64) : (WS g σ).set 54 (g.1 54, .inr (10, [.ref (g.1 55), .int (σ.1 54 1), .ref (g.1 56), .ref (g.1 57), .ref (g.1 58), .ref (g.1 59), .ref (g.1 60), .ref (g.1 61), .ref (g.1 62), .ref (g.1 63), .ref (g.1 64), .ref (g.1 65), .ref (g.1 66), .ref (g.1 67), .ref (g.1 68), .ref (g.1 69), .ref (g.1 70), .ref (g.1 71), .int (σ.1 54 18), .int (σ.1 54 19), .int (σ.1 54 20), .ref (g.1 72), .ref (g.1 73), .ref (g.1 74), .ref (g.1 75), .ref (g.1 76), .ref (g.1 77), .ref (g.1 78), .int (σ.1 54 28), .ref (g.1 79), .ref (g.1 80), .ref (g.1 81), .ref (g.1 82), .ref (g.1 83), .ref (g.1 84), .ref (g.1 85), .ref (g.1 86), .ref (g.1 87), .long (σ.2.1 54 38), .long (σ.2.1 54 39), .int (σ.1 54 40), .ref (g.1 88), .int (σ.1 54 42), .ref (g.1 89), .ref (g.1 90), .ref (g.1 91)].set 39 (.long v))) = WS g (sl σ 54 39 v) := rfl
theorem WS_p54_40 (g : Gm) (σ : Sg) (v : Int32) : (WS g σ).set 54 (g.1 54, .inr (10, [.ref (g.1 55), .int (σ.1 54 1), .ref (g.1 56), .ref (g.1 57), .ref (g.1 58), .ref (g.1 59), .ref (g.1 60), .ref (g.1 61), .ref (g.1 62), .ref (g.1 63), .ref (g.1 64), .ref (g.1 65), .ref (g.1 66), .ref (g.1 67), .ref (g.1 68), .ref (g.1 69), .ref (g.1 70), .ref (g.1 71), .int (σ.1 54 18), .int (σ.1 54 19), .int (σ.1 54 20), .ref (g.1 72), .ref (g.1 73), .ref (g.1 74), .ref (g.1 75), .ref (g.1 76), .ref (g.1 77), .ref (g.1 78), .int (σ.1 54 28), .ref (g.1 79), .ref (g.1 80), .ref (g.1 81), .ref (g.1 82), .ref (g.1 83), .ref (g.1 84), .ref (g.1 85), .ref (g.1 86), .ref (g.1 87), .long (σ.2.1 54 38), .long (σ.2.1 54 39), .int (σ.1 54 40), .ref (g.1 88), .int (σ.1 54 42), .ref (g.1 89), .ref (g.1 90), .ref (g.1 91)].set 40 (.int v))) = WS g (si σ 54 40 v) := rfl
theorem WS_p54_42 (g : Gm) (σ : Sg) (v : Int32) : (WS g σ).set 54 (g.1 54, .inr (10, [.ref (g.1 55), .int (σ.1 54 1), .ref (g.1 56), .ref (g.1 57), .ref (g.1 58), .ref (g.1 59), .ref (g.1 60), .ref (g.1 61), .ref (g.1 62), .ref (g.1 63), .ref (g.1 64), .ref (g.1 65), .ref (g.1 66), .ref (g.1 67), .ref (g.1 68), .ref (g.1 69), .ref (g.1 70), .ref (g.1 71), .int (σ.1 54 18), .int (σ.1 54 19), .int (σ.1 54 20), .ref (g.1 72), .ref (g.1 73), .ref (g.1 74), .ref (g.1 75), .ref (g.1 76), .ref (g.1 77), .ref (g.1 78), .int (σ.1 54 28), .ref (g.1 79), .ref (g.1 80), .ref (g.1 81), .ref (g.1 82), .ref (g.1 83), .ref (g.1 84), .ref (g.1 85), .ref (g.1 86), .ref (g.1 87), .long (σ.2.1 54 38), .long (σ.2.1 54 39), .int (σ.1 54 40), .ref (g.1 88), .int (σ.1 54 42), .ref (g.1 89), .ref (g.1 90), .ref (g.1 91)].set 42 (.int v))) = WS g (si σ 54 42 v) := rfl
theorem WS_a55 (g : Gm) (σ : Sg) : (WS g σ)[55]? = some (g.1 55, .inl (g.2 3, 27, .inr (.inl (σ.2.1 55)))) := rfl
theorem WS_s55 (g : Gm) (σ : Sg) (j : Nat) (v : Int64) : (WS g σ).set 55 (g.1 55, .inl (g.2 3, 27, .inr (.inl (vp_updL (σ.2.1 55) j v)))) = WS g (sl σ 55 j v) := rfl
theorem WS_a56 (g : Gm) (σ : Sg) : (WS g σ)[56]? = some (g.1 56, .inl (g.2 0, 240, .inl (σ.1 56))) := rfl
theorem WS_s56 (g : Gm) (σ : Sg) (j : Nat) (v : Int32) : (WS g σ).set 56 (g.1 56, .inl (g.2 0, 240, .inl (upd (σ.1 56) j v))) = WS g (si σ 56 j v) := rfl
theorem WS_w56 (g : Gm) (σ : Sg) (f : Nat → Int32) : (WS g σ).set 56 (g.1 56, .inl (g.2 0, 240, .inl f)) = WS g (sw σ 56 f) := rfl
theorem WS_a57 (g : Gm) (σ : Sg) : (WS g σ)[57]? = some (g.1 57, .inl (g.2 0, 2, .inl (σ.1 57))) := rfl
theorem WS_s57 (g : Gm) (σ : Sg) (j : Nat) (v : Int32) : (WS g σ).set 57 (g.1 57, .inl (g.2 0, 2, .inl (upd (σ.1 57) j v))) = WS g (si σ 57 j v) := rfl
theorem WS_w57 (g : Gm) (σ : Sg) (f : Nat → Int32) : (WS g σ).set 57 (g.1 57, .inl (g.2 0, 2, .inl f)) = WS g (sw σ 57 f) := rfl
theorem WS_a58 (g : Gm) (σ : Sg) : (WS g σ)[58]? = some (g.1 58, .inl (g.2 0, 2, .inl (σ.1 58))) := rfl
theorem WS_s58 (g : Gm) (σ : Sg) (j : Nat) (v : Int32) : (WS g σ).set 58 (g.1 58, .inl (g.2 0, 2, .inl (upd (σ.1 58) j v))) = WS g (si σ 58 j v) := rfl
theorem WS_w58 (g : Gm) (σ : Sg) (f : Nat → Int32) : (WS g σ).set 58 (g.1 58, .inl (g.2 0, 2, .inl f)) = WS g (sw σ 58 f) := rfl
theorem WS_a59 (g : Gm) (σ : Sg) : (WS g σ)[59]? = some (g.1 59, .inl (g.2 0, 240, .inl (σ.1 59))) := rfl
theorem WS_s59 (g : Gm) (σ : Sg) (j : Nat) (v : Int32) : (WS g σ).set 59 (g.1 59, .inl (g.2 0, 240, .inl (upd (σ.1 59) j v))) = WS g (si σ 59 j v) := rfl
theorem WS_w59 (g : Gm) (σ : Sg) (f : Nat → Int32) : (WS g σ).set 59 (g.1 59, .inl (g.2 0, 240, .inl f)) = WS g (sw σ 59 f) := rfl
theorem WS_a60 (g : Gm) (σ : Sg) : (WS g σ)[60]? = some (g.1 60, .inl (g.2 0, 240, .inl (σ.1 60))) := rfl
theorem WS_s60 (g : Gm) (σ : Sg) (j : Nat) (v : Int32) : (WS g σ).set 60 (g.1 60, .inl (g.2 0, 240, .inl (upd (σ.1 60) j v))) = WS g (si σ 60 j v) := rfl
theorem WS_w60 (g : Gm) (σ : Sg) (f : Nat → Int32) : (WS g σ).set 60 (g.1 60, .inl (g.2 0, 240, .inl f)) = WS g (sw σ 60 f) := rfl
theorem WS_a61 (g : Gm) (σ : Sg) : (WS g σ)[61]? = some (g.1 61, .inl (g.2 0, 240, .inl (σ.1 61))) := rfl
theorem WS_s61 (g : Gm) (σ : Sg) (j : Nat) (v : Int32) : (WS g σ).set 61 (g.1 61, .inl (g.2 0, 240, .inl (upd (σ.1 61) j v))) = WS g (si σ 61 j v) := rfl
theorem WS_w61 (g : Gm) (σ : Sg) (f : Nat → Int32) : (WS g σ).set 61 (g.1 61, .inl (g.2 0, 240, .inl f)) = WS g (sw σ 61 f) := rfl
theorem WS_a62 (g : Gm) (σ : Sg) : (WS g σ)[62]? = some (g.1 62, .inl (g.2 0, 240, .inl (σ.1 62))) := rfl
theorem WS_s62 (g : Gm) (σ : Sg) (j : Nat) (v : Int32) : (WS g σ).set 62 (g.1 62, .inl (g.2 0, 240, .inl (upd (σ.1 62) j v))) = WS g (si σ 62 j v) := rfl
theorem WS_w62 (g : Gm) (σ : Sg) (f : Nat → Int32) : (WS g σ).set 62 (g.1 62, .inl (g.2 0, 240, .inl f)) = WS g (sw σ 62 f) := rfl
theorem WS_a63 (g : Gm) (σ : Sg) : (WS g σ)[63]? = some (g.1 63, .inl (g.2 0, 240, .inl (σ.1 63))) := rfl
theorem WS_s63 (g : Gm) (σ : Sg) (j : Nat) (v : Int32) : (WS g σ).set 63 (g.1 63, .inl (g.2 0, 240, .inl (upd (σ.1 63) j v))) = WS g (si σ 63 j v) := rfl
theorem WS_w63 (g : Gm) (σ : Sg) (f : Nat → Int32) : (WS g σ).set 63 (g.1 63, .inl (g.2 0, 240, .inl f)) = WS g (sw σ 63 f) := rfl
theorem WS_a64 (g : Gm) (σ : Sg) : (WS g σ)[64]? = some (g.1 64, .inl (g.2 0, 240, .inl (σ.1 64))) := rfl
theorem WS_s64 (g : Gm) (σ : Sg) (j : Nat) (v : Int32) : (WS g σ).set 64 (g.1 64, .inl (g.2 0, 240, .inl (upd (σ.1 64) j v))) = WS g (si σ 64 j v) := rfl
theorem WS_w64 (g : Gm) (σ : Sg) (f : Nat → Int32) : (WS g σ).set 64 (g.1 64, .inl (g.2 0, 240, .inl f)) = WS g (sw σ 64 f) := rfl
theorem WS_a65 (g : Gm) (σ : Sg) : (WS g σ)[65]? = some (g.1 65, .inl (g.2 0, 240, .inl (σ.1 65))) := rfl
theorem WS_s65 (g : Gm) (σ : Sg) (j : Nat) (v : Int32) : (WS g σ).set 65 (g.1 65, .inl (g.2 0, 240, .inl (upd (σ.1 65) j v))) = WS g (si σ 65 j v) := rfl
theorem WS_w65 (g : Gm) (σ : Sg) (f : Nat → Int32) : (WS g σ).set 65 (g.1 65, .inl (g.2 0, 240, .inl f)) = WS g (sw σ 65 f) := rfl
theorem WS_a66 (g : Gm) (σ : Sg) : (WS g σ)[66]? = some (g.1 66, .inl (g.2 0, 240, .inl (σ.1 66))) := rfl
theorem WS_s66 (g : Gm) (σ : Sg) (j : Nat) (v : Int32) : (WS g σ).set 66 (g.1 66, .inl (g.2 0, 240, .inl (upd (σ.1 66) j v))) = WS g (si σ 66 j v) := rfl
theorem WS_w66 (g : Gm) (σ : Sg) (f : Nat → Int32) : (WS g σ).set 66 (g.1 66, .inl (g.2 0, 240, .inl f)) = WS g (sw σ 66 f) := rfl
theorem WS_a67 (g : Gm) (σ : Sg) : (WS g σ)[67]? = some (g.1 67, .inl (g.2 0, 240, .inl (σ.1 67))) := rfl
theorem WS_s67 (g : Gm) (σ : Sg) (j : Nat) (v : Int32) : (WS g σ).set 67 (g.1 67, .inl (g.2 0, 240, .inl (upd (σ.1 67) j v))) = WS g (si σ 67 j v) := rfl
theorem WS_w67 (g : Gm) (σ : Sg) (f : Nat → Int32) : (WS g σ).set 67 (g.1 67, .inl (g.2 0, 240, .inl f)) = WS g (sw σ 67 f) := rfl
theorem WS_a68 (g : Gm) (σ : Sg) : (WS g σ)[68]? = some (g.1 68, .inl (g.2 0, 240, .inl (σ.1 68))) := rfl
theorem WS_s68 (g : Gm) (σ : Sg) (j : Nat) (v : Int32) : (WS g σ).set 68 (g.1 68, .inl (g.2 0, 240, .inl (upd (σ.1 68) j v))) = WS g (si σ 68 j v) := rfl
theorem WS_w68 (g : Gm) (σ : Sg) (f : Nat → Int32) : (WS g σ).set 68 (g.1 68, .inl (g.2 0, 240, .inl f)) = WS g (sw σ 68 f) := rfl
theorem WS_a69 (g : Gm) (σ : Sg) : (WS g σ)[69]? = some (g.1 69, .inl (g.2 0, 240, .inl (σ.1 69))) := rfl
theorem WS_s69 (g : Gm) (σ : Sg) (j : Nat) (v : Int32) : (WS g σ).set 69 (g.1 69, .inl (g.2 0, 240, .inl (upd (σ.1 69) j v))) = WS g (si σ 69 j v) := rfl
theorem WS_w69 (g : Gm) (σ : Sg) (f : Nat → Int32) : (WS g σ).set 69 (g.1 69, .inl (g.2 0, 240, .inl f)) = WS g (sw σ 69 f) := rfl
theorem WS_a70 (g : Gm) (σ : Sg) : (WS g σ)[70]? = some (g.1 70, .inl (g.2 0, 800, .inl (σ.1 70))) := rfl
theorem WS_s70 (g : Gm) (σ : Sg) (j : Nat) (v : Int32) : (WS g σ).set 70 (g.1 70, .inl (g.2 0, 800, .inl (upd (σ.1 70) j v))) = WS g (si σ 70 j v) := rfl
theorem WS_w70 (g : Gm) (σ : Sg) (f : Nat → Int32) : (WS g σ).set 70 (g.1 70, .inl (g.2 0, 800, .inl f)) = WS g (sw σ 70 f) := rfl
theorem WS_a71 (g : Gm) (σ : Sg) : (WS g σ)[71]? = some (g.1 71, .inl (g.2 0, 2, .inl (σ.1 71))) := rfl
theorem WS_s71 (g : Gm) (σ : Sg) (j : Nat) (v : Int32) : (WS g σ).set 71 (g.1 71, .inl (g.2 0, 2, .inl (upd (σ.1 71) j v))) = WS g (si σ 71 j v) := rfl
theorem WS_w71 (g : Gm) (σ : Sg) (f : Nat → Int32) : (WS g σ).set 71 (g.1 71, .inl (g.2 0, 2, .inl f)) = WS g (sw σ 71 f) := rfl
theorem WS_a72 (g : Gm) (σ : Sg) : (WS g σ)[72]? = some (g.1 72, .inl (g.2 0, 9, .inl (σ.1 72))) := rfl
theorem WS_s72 (g : Gm) (σ : Sg) (j : Nat) (v : Int32) : (WS g σ).set 72 (g.1 72, .inl (g.2 0, 9, .inl (upd (σ.1 72) j v))) = WS g (si σ 72 j v) := rfl
theorem WS_w72 (g : Gm) (σ : Sg) (f : Nat → Int32) : (WS g σ).set 72 (g.1 72, .inl (g.2 0, 9, .inl f)) = WS g (sw σ 72 f) := rfl
theorem WS_a73 (g : Gm) (σ : Sg) : (WS g σ)[73]? = some (g.1 73, .inl (g.2 0, 9, .inl (σ.1 73))) := rfl
theorem WS_s73 (g : Gm) (σ : Sg) (j : Nat) (v : Int32) : (WS g σ).set 73 (g.1 73, .inl (g.2 0, 9, .inl (upd (σ.1 73) j v))) = WS g (si σ 73 j v) := rfl
theorem WS_w73 (g : Gm) (σ : Sg) (f : Nat → Int32) : (WS g σ).set 73 (g.1 73, .inl (g.2 0, 9, .inl f)) = WS g (sw σ 73 f) := rfl
theorem WS_a74 (g : Gm) (σ : Sg) : (WS g σ)[74]? = some (g.1 74, .inl (g.2 2, 9, .inl (σ.1 74))) := rfl
theorem WS_s74 (g : Gm) (σ : Sg) (j : Nat) (v : Int32) : (WS g σ).set 74 (g.1 74, .inl (g.2 2, 9, .inl (upd (σ.1 74) j v))) = WS g (si σ 74 j v) := rfl
theorem WS_w74 (g : Gm) (σ : Sg) (f : Nat → Int32) : (WS g σ).set 74 (g.1 74, .inl (g.2 2, 9, .inl f)) = WS g (sw σ 74 f) := rfl
theorem WS_a75 (g : Gm) (σ : Sg) : (WS g σ)[75]? = some (g.1 75, .inl (g.2 2, 9, .inl (σ.1 75))) := rfl
theorem WS_s75 (g : Gm) (σ : Sg) (j : Nat) (v : Int32) : (WS g σ).set 75 (g.1 75, .inl (g.2 2, 9, .inl (upd (σ.1 75) j v))) = WS g (si σ 75 j v) := rfl
theorem WS_w75 (g : Gm) (σ : Sg) (f : Nat → Int32) : (WS g σ).set 75 (g.1 75, .inl (g.2 2, 9, .inl f)) = WS g (sw σ 75 f) := rfl
theorem WS_a76 (g : Gm) (σ : Sg) : (WS g σ)[76]? = some (g.1 76, .inl (g.2 0, 3520, .inl (σ.1 76))) := rfl
theorem WS_s76 (g : Gm) (σ : Sg) (j : Nat) (v : Int32) : (WS g σ).set 76 (g.1 76, .inl (g.2 0, 3520, .inl (upd (σ.1 76) j v))) = WS g (si σ 76 j v) := rfl
theorem WS_w76 (g : Gm) (σ : Sg) (f : Nat → Int32) : (WS g σ).set 76 (g.1 76, .inl (g.2 0, 3520, .inl f)) = WS g (sw σ 76 f) := rfl
theorem WS_a77 (g : Gm) (σ : Sg) : (WS g σ)[77]? = some (g.1 77, .inl (g.2 0, 160, .inl (σ.1 77))) := rfl
theorem WS_s77 (g : Gm) (σ : Sg) (j : Nat) (v : Int32) : (WS g σ).set 77 (g.1 77, .inl (g.2 0, 160, .inl (upd (σ.1 77) j v))) = WS g (si σ 77 j v) := rfl
theorem WS_w77 (g : Gm) (σ : Sg) (f : Nat → Int32) : (WS g σ).set 77 (g.1 77, .inl (g.2 0, 160, .inl f)) = WS g (sw σ 77 f) := rfl
theorem WS_a78 (g : Gm) (σ : Sg) : (WS g σ)[78]? = some (g.1 78, .inl (g.2 0, 160, .inl (σ.1 78))) := rfl
theorem WS_s78 (g : Gm) (σ : Sg) (j : Nat) (v : Int32) : (WS g σ).set 78 (g.1 78, .inl (g.2 0, 160, .inl (upd (σ.1 78) j v))) = WS g (si σ 78 j v) := rfl
theorem WS_w78 (g : Gm) (σ : Sg) (f : Nat → Int32) : (WS g σ).set 78 (g.1 78, .inl (g.2 0, 160, .inl f)) = WS g (sw σ 78 f) := rfl
theorem WS_a79 (g : Gm) (σ : Sg) : (WS g σ)[79]? = some (g.1 79, .inl (g.2 2, 160, .inl (σ.1 79))) := rfl
theorem WS_s79 (g : Gm) (σ : Sg) (j : Nat) (v : Int32) : (WS g σ).set 79 (g.1 79, .inl (g.2 2, 160, .inl (upd (σ.1 79) j v))) = WS g (si σ 79 j v) := rfl
theorem WS_w79 (g : Gm) (σ : Sg) (f : Nat → Int32) : (WS g σ).set 79 (g.1 79, .inl (g.2 2, 160, .inl f)) = WS g (sw σ 79 f) := rfl
theorem WS_a80 (g : Gm) (σ : Sg) : (WS g σ)[80]? = some (g.1 80, .inl (g.2 3, 160, .inr (.inl (σ.2.1 80)))) := rfl
theorem WS_s80 (g : Gm) (σ : Sg) (j : Nat) (v : Int64) : (WS g σ).set 80 (g.1 80, .inl (g.2 3, 160, .inr (.inl (vp_updL (σ.2.1 80) j v)))) = WS g (sl σ 80 j v) := rfl
theorem WS_a81 (g : Gm) (σ : Sg) : (WS g σ)[81]? = some (g.1 81, .inl (g.2 3, 160, .inr (.inl (σ.2.1 81)))) := rfl
theorem WS_s81 (g : Gm) (σ : Sg) (j : Nat) (v : Int64) : (WS g σ).set 81 (g.1 81, .inl (g.2 3, 160, .inr (.inl (vp_updL (σ.2.1 81) j v)))) = WS g (sl σ 81 j v) := rfl
theorem WS_a82 (g : Gm) (σ : Sg) : (WS g σ)[82]? = some (g.1 82, .inl (g.2 3, 160, .inr (.inl (σ.2.1 82)))) := rfl
theorem WS_s82 (g : Gm) (σ : Sg) (j : Nat) (v : Int64) : (WS g σ).set 82 (g.1 82, .inl (g.2 3, 160, .inr (.inl (vp_updL (σ.2.1 82) j v)))) = WS g (sl σ 82 j v) := rfl
theorem WS_a83 (g : Gm) (σ : Sg) : (WS g σ)[83]? = some (g.1 83, .inl (g.2 3, 160, .inr (.inl (σ.2.1 83)))) := rfl
theorem WS_s83 (g : Gm) (σ : Sg) (j : Nat) (v : Int64) : (WS g σ).set 83 (g.1 83, .inl (g.2 3, 160, .inr (.inl (vp_updL (σ.2.1 83) j v)))) = WS g (sl σ 83 j v) := rfl
theorem WS_a84 (g : Gm) (σ : Sg) : (WS g σ)[84]? = some (g.1 84, .inl (g.2 3, 160, .inr (.inl (σ.2.1 84)))) := rfl
theorem WS_s84 (g : Gm) (σ : Sg) (j : Nat) (v : Int64) : (WS g σ).set 84 (g.1 84, .inl (g.2 3, 160, .inr (.inl (vp_updL (σ.2.1 84) j v)))) = WS g (sl σ 84 j v) := rfl
theorem WS_a85 (g : Gm) (σ : Sg) : (WS g σ)[85]? = some (g.1 85, .inl (g.2 3, 160, .inr (.inl (σ.2.1 85)))) := rfl
theorem WS_s85 (g : Gm) (σ : Sg) (j : Nat) (v : Int64) : (WS g σ).set 85 (g.1 85, .inl (g.2 3, 160, .inr (.inl (vp_updL (σ.2.1 85) j v)))) = WS g (sl σ 85 j v) := rfl
theorem WS_a86 (g : Gm) (σ : Sg) : (WS g σ)[86]? = some (g.1 86, .inl (g.2 3, 160, .inr (.inl (σ.2.1 86)))) := rfl
theorem WS_s86 (g : Gm) (σ : Sg) (j : Nat) (v : Int64) : (WS g σ).set 86 (g.1 86, .inl (g.2 3, 160, .inr (.inl (vp_updL (σ.2.1 86) j v)))) = WS g (sl σ 86 j v) := rfl
theorem WS_a87 (g : Gm) (σ : Sg) : (WS g σ)[87]? = some (g.1 87, .inl (g.2 3, 160, .inr (.inl (σ.2.1 87)))) := rfl
theorem WS_s87 (g : Gm) (σ : Sg) (j : Nat) (v : Int64) : (WS g σ).set 87 (g.1 87, .inl (g.2 3, 160, .inr (.inl (vp_updL (σ.2.1 87) j v)))) = WS g (sl σ 87 j v) := rfl
theorem WS_a88 (g : Gm) (σ : Sg) : (WS g σ)[88]? = some (g.1 88, .inl (g.2 0, 1300, .inl (σ.1 88))) := rfl
theorem WS_s88 (g : Gm) (σ : Sg) (j : Nat) (v : Int32) : (WS g σ).set 88 (g.1 88, .inl (g.2 0, 1300, .inl (upd (σ.1 88) j v))) = WS g (si σ 88 j v) := rfl
theorem WS_w88 (g : Gm) (σ : Sg) (f : Nat → Int32) : (WS g σ).set 88 (g.1 88, .inl (g.2 0, 1300, .inl f)) = WS g (sw σ 88 f) := rfl
theorem WS_a89 (g : Gm) (σ : Sg) : (WS g σ)[89]? = some (g.1 89, .inl (g.2 0, 160, .inl (σ.1 89))) := rfl
theorem WS_s89 (g : Gm) (σ : Sg) (j : Nat) (v : Int32) : (WS g σ).set 89 (g.1 89, .inl (g.2 0, 160, .inl (upd (σ.1 89) j v))) = WS g (si σ 89 j v) := rfl
theorem WS_w89 (g : Gm) (σ : Sg) (f : Nat → Int32) : (WS g σ).set 89 (g.1 89, .inl (g.2 0, 160, .inl f)) = WS g (sw σ 89 f) := rfl
theorem WS_a90 (g : Gm) (σ : Sg) : (WS g σ)[90]? = some (g.1 90, .inl (g.2 0, 81, .inl (σ.1 90))) := rfl
theorem WS_s90 (g : Gm) (σ : Sg) (j : Nat) (v : Int32) : (WS g σ).set 90 (g.1 90, .inl (g.2 0, 81, .inl (upd (σ.1 90) j v))) = WS g (si σ 90 j v) := rfl
theorem WS_w90 (g : Gm) (σ : Sg) (f : Nat → Int32) : (WS g σ).set 90 (g.1 90, .inl (g.2 0, 81, .inl f)) = WS g (sw σ 90 f) := rfl
theorem WS_a91 (g : Gm) (σ : Sg) : (WS g σ)[91]? = some (g.1 91, .inl (g.2 0, 160, .inl (σ.1 91))) := rfl
theorem WS_s91 (g : Gm) (σ : Sg) (j : Nat) (v : Int32) : (WS g σ).set 91 (g.1 91, .inl (g.2 0, 160, .inl (upd (σ.1 91) j v))) = WS g (si σ 91 j v) := rfl
theorem WS_w91 (g : Gm) (σ : Sg) (f : Nat → Int32) : (WS g σ).set 91 (g.1 91, .inl (g.2 0, 160, .inl f)) = WS g (sw σ 91 f) := rfl
