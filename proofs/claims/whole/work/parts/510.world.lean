def wC (ad : Nat → Nat) (Y : CY) (σ : MSt) : va_W := [
  (ad 0, .inr (11, FX11 ad σ)),
  (ad 1, .inr (9, FX9 ad σ)),
  (ad 2, .inl (Y.1, 700, .inl (σ.1 2))),
  (ad 3, .inl (Y.2.1, 700, .inl (σ.1 3))),
  (ad 4, .inl (Y.2.1, 700, .inl (σ.1 4))),
  (ad 5, .inl (Y.2.1, 700, .inl (σ.1 5))),
  (ad 6, .inl (Y.2.1, 22, .inl (σ.1 6))),
  (ad 7, .inr (7, FX7 ad σ)),
  (ad 8, .inl (Y.2.1, 72, .inl (σ.1 8))),
  (ad 10, .inr (0, FX0 ad 10 σ)),
  (ad 11, .inl (Y.2.1, 8, .inl (σ.1 11))),
  (ad 12, .inl (Y.2.1, 64, .inl (σ.1 12))),
  (ad 13, .inl (Y.2.1, 12, .inl (σ.1 13))),
  (ad 14, .inl (Y.2.1, 12, .inl (σ.1 14))),
  (ad 15, .inl (Y.2.1, 12, .inl (σ.1 15))),
  (ad 16, .inl (Y.2.1, 20, .inl (σ.1 16))),
  (ad 17, .inr (4, FX4 ad 17 σ)),
  (ad 18, .inl (Y.2.1, 64, .inl (σ.1 18))),
  (ad 19, .inl (Y.2.1, 64, .inl (σ.1 19))),
  (ad 20, .inl (Y.2.1, 3, .inl (σ.1 20))),
  (ad 21, .inl (Y.2.1, 3, .inl (σ.1 21))),
  (ad 22, .inl (Y.2.2.1, 64, .inr (.inl (σ.2 22)))),
  (ad 30, .inr (0, FX0 ad 30 σ)),
  (ad 31, .inl (Y.2.1, 8, .inl (σ.1 31))),
  (ad 32, .inl (Y.2.1, 64, .inl (σ.1 32))),
  (ad 33, .inl (Y.2.1, 12, .inl (σ.1 33))),
  (ad 34, .inl (Y.2.1, 12, .inl (σ.1 34))),
  (ad 35, .inl (Y.2.1, 12, .inl (σ.1 35))),
  (ad 36, .inl (Y.2.1, 20, .inl (σ.1 36))),
  (ad 37, .inr (4, FX4 ad 37 σ)),
  (ad 38, .inl (Y.2.1, 64, .inl (σ.1 38))),
  (ad 39, .inl (Y.2.1, 64, .inl (σ.1 39))),
  (ad 40, .inl (Y.2.1, 3, .inl (σ.1 40))),
  (ad 41, .inl (Y.2.1, 3, .inl (σ.1 41))),
  (ad 42, .inl (Y.2.2.1, 64, .inr (.inl (σ.2 42)))),
  (ad 50, .inr (5, FX5 ad 50 σ)),
  (ad 51, .inl (Y.2.1, 8, .inl (σ.1 51))),
  (ad 52, .inl (Y.2.1, 8, .inl (σ.1 52))),
  (ad 53, .inl (Y.2.1, 8, .inl (σ.1 53))),
  (ad 54, .inr (5, FX5 ad 54 σ)),
  (ad 55, .inl (Y.2.1, 8, .inl (σ.1 55))),
  (ad 56, .inl (Y.2.1, 8, .inl (σ.1 56))),
  (ad 57, .inl (Y.2.1, 8, .inl (σ.1 57))),
  (ad 58, .inr (5, FX5 ad 58 σ)),
  (ad 59, .inl (Y.2.1, 8, .inl (σ.1 59))),
  (ad 60, .inl (Y.2.1, 8, .inl (σ.1 60))),
  (ad 61, .inl (Y.2.1, 8, .inl (σ.1 61))),
  (ad 62, .inr (2, FX2 ad σ)),
  (ad 63, .inl (Y.2.1, 20, .inl (σ.1 63))),
  (ad 64, .inl (Y.2.1, 20, .inl (σ.1 64))),
  (ad 65, .inl (Y.2.1, 20, .inl (σ.1 65))),
  (ad 66, .inl (Y.2.1, 20, .inl (σ.1 66))),
  (ad 67, .inr (3, FX3 ad σ)),
  (ad 68, .inl (Y.2.1, 8, .inl (σ.1 68))),
  (ad 69, .inl (Y.2.1, 64, .inl (σ.1 69))),
  (ad 70, .inr (8, FX8 ad 70 σ)),
  (ad 71, .inr (1, FX1 ad σ)),
  (ad 72, .inr (8, FX8 ad 72 σ)),
  (ad 73, .inr (10, FX10 ad σ)),
  (ad 74, .inl (Y.2.1, 8, .inl (σ.1 74))),
  (ad 75, .inl (Y.2.1, 8, .inl (σ.1 75))),
  (ad 76, .inl (Y.2.1, 488, .inl (σ.1 76))),
  (ad 77, .inl (Y.2.1, 488, .inl (σ.1 77))),
  (ad 78, .inr (6, FX6 ad σ)),
  (ad 79, .inl (Y.2.1, 24, .inl (σ.1 79))),
  (ad 80, .inl (Y.2.1, 24, .inl (σ.1 80))),
  (ad 81, .inl (Y.2.2.2.1, 24, .inl (σ.1 81))),
  (ad 82, .inl (Y.2.1, 24, .inl (σ.1 82))),
  (ad 83, .inl (Y.2.2.2.1, 24, .inl (σ.1 83)))]
def wM (ad : Nat → Nat) (Y : CY) (σ : MSt) : va_W := [
  (ad 0, .inr (12, FX12 ad σ)),
  (ad 1, .inl (Y.2.1, 700, .inl (σ.1 1))),
  (ad 2, .inl (Y.2.1, 18, .inl (σ.1 2))),
  (ad 3, .inl (Y.2.1, 16, .inl (σ.1 3))),
  (ad 4, .inl (Y.2.1, 24, .inl (σ.1 4))),
  (ad 5, .inl (Y.2.1, 24, .inl (σ.1 5))),
  (ad 6, .inl (Y.2.1, 24, .inl (σ.1 6))),
  (ad 7, .inl (Y.2.1, 24, .inl (σ.1 7))),
  (ad 8, .inl (Y.2.1, 24, .inl (σ.1 8))),
  (ad 9, .inl (Y.2.1, 24, .inl (σ.1 9))),
  (ad 10, .inl (Y.2.1, 40, .inl (σ.1 10))),
  (ad 11, .inl (Y.2.1, 6, .inl (σ.1 11))),
  (ad 12, .inl (Y.2.1, 6, .inl (σ.1 12))),
  (ad 13, .inl (Y.2.1, 128, .inl (σ.1 13))),
  (ad 14, .inl (Y.2.1, 128, .inl (σ.1 14))),
  (ad 15, .inl (Y.2.2.1, 7, .inr (.inl (σ.2 15)))),
  (ad 16, .inl (Y.2.2.1, 64, .inr (.inl (σ.2 16)))),
  (ad 17, .inl (Y.2.1, 24, .inl (σ.1 17))),
  (ad 18, .inl (Y.2.1, 24, .inl (σ.1 18))),
  (ad 19, .inl (Y.2.1, 24, .inl (σ.1 19))),
  (ad 20, .inl (Y.2.1, 24, .inl (σ.1 20))),
  (ad 21, .inl (Y.2.1, 24, .inl (σ.1 21))),
  (ad 22, .inl (Y.2.1, 24, .inl (σ.1 22))),
  (ad 23, .inl (Y.2.1, 24, .inl (σ.1 23))),
  (ad 24, .inl (Y.2.1, 24, .inl (σ.1 24))),
  (ad 25, .inl (Y.2.1, 24, .inl (σ.1 25))),
  (ad 26, .inl (Y.2.1, 192, .inl (σ.1 26))),
  (ad 27, .inl (Y.2.1, 192, .inl (σ.1 27))),
  (ad 28, .inl (Y.2.1, 192, .inl (σ.1 28))),
  (ad 29, .inl (Y.2.1, 504, .inl (σ.1 29))),
  (ad 30, .inl (Y.2.1, 504, .inl (σ.1 30))),
  (ad 31, .inl (Y.2.1, 8, .inl (σ.1 31))),
  (ad 32, .inl (Y.2.1, 8, .inl (σ.1 32))),
  (ad 33, .inl (Y.2.1, 8, .inl (σ.1 33))),
  (ad 34, .inl (Y.2.1, 24, .inl (σ.1 34))),
  (ad 35, .inl (Y.2.1, 24, .inl (σ.1 35))),
  (ad 36, .inl (Y.2.2.2.1, 24, .inl (σ.1 36))),
  (ad 37, .inl (Y.2.1, 24, .inl (σ.1 37))),
  (ad 38, .inl (Y.2.2.2.1, 24, .inl (σ.1 38)))]
set_option maxHeartbeats 4000000 in
theorem WC_0 (ad : Nat → Nat) (Y : CY) (X : va_W) : HO ad (fun σ => wC ad Y σ ++ X) 0 11 (FX11 ad) := by
  refine ⟨0, fun σ => rfl, fun σ j v h => ?_, fun σ j v h => ?_, fun σ j t h7 h ht => ?_⟩
  · match j, h with
    | 0, h => exact absurd (Option.some.inj h) (by intro q; cases q)
    | 1, h => exact absurd (Option.some.inj h) (by intro q; cases q)
    | 2, h => exact absurd (Option.some.inj h) (by intro q; cases q)
    | 3, h => exact absurd (Option.some.inj h) (by intro q; cases q)
    | 4, h => exact absurd (Option.some.inj h) (by intro q; cases q)
    | 5, h => exact absurd (Option.some.inj h) (by intro q; cases q)
    | 6, h => exact absurd (Option.some.inj h) (by intro q; cases q)
    | 7, h => exact absurd (Option.some.inj h) (by intro q; cases q)
    | 8, h => exact absurd (Option.some.inj h) (by intro q; cases q)
    | 9, h => exact absurd (Option.some.inj h) (by intro q; cases q)
    | 10, h => exact absurd (Option.some.inj h) (by intro q; cases q)
    | 11, h => rfl
    | 12, h => rfl
    | 13, h => rfl
    | j + 14, h => cases h
  · match j, h with
    | 0, h => exact absurd (Option.some.inj h) (by intro q; cases q)
    | 1, h => exact absurd (Option.some.inj h) (by intro q; cases q)
    | 2, h => exact absurd (Option.some.inj h) (by intro q; cases q)
    | 3, h => exact absurd (Option.some.inj h) (by intro q; cases q)
    | 4, h => exact absurd (Option.some.inj h) (by intro q; cases q)
    | 5, h => exact absurd (Option.some.inj h) (by intro q; cases q)
    | 6, h => exact absurd (Option.some.inj h) (by intro q; cases q)
    | 7, h => exact absurd (Option.some.inj h) (by intro q; cases q)
    | 8, h => exact absurd (Option.some.inj h) (by intro q; cases q)
    | 9, h => exact absurd (Option.some.inj h) (by intro q; cases q)
    | 10, h => exact absurd (Option.some.inj h) (by intro q; cases q)
    | 11, h => exact absurd (Option.some.inj h) (by intro q; cases q)
    | 12, h => exact absurd (Option.some.inj h) (by intro q; cases q)
    | 13, h => exact absurd (Option.some.inj h) (by intro q; cases q)
    | j + 14, h => cases h
  · exact absurd h7.1 (by decide)
set_option maxHeartbeats 4000000 in
theorem WC_1 (ad : Nat → Nat) (Y : CY) (X : va_W) : HO ad (fun σ => wC ad Y σ ++ X) 1 9 (FX9 ad) := by
  refine ⟨1, fun σ => rfl, fun σ j v h => ?_, fun σ j v h => ?_, fun σ j t h7 h ht => ?_⟩
  · match j, h with
    | 0, h => exact absurd (Option.some.inj h) (by intro q; cases q)
    | 1, h => exact absurd (Option.some.inj h) (by intro q; cases q)
    | 2, h => exact absurd (Option.some.inj h) (by intro q; cases q)
    | 3, h => exact absurd (Option.some.inj h) (by intro q; cases q)
    | 4, h => exact absurd (Option.some.inj h) (by intro q; cases q)
    | 5, h => rfl
    | 6, h => rfl
    | 7, h => rfl
    | 8, h => rfl
    | j + 9, h => cases h
  · match j, h with
    | 0, h => exact absurd (Option.some.inj h) (by intro q; cases q)
    | 1, h => exact absurd (Option.some.inj h) (by intro q; cases q)
    | 2, h => exact absurd (Option.some.inj h) (by intro q; cases q)
    | 3, h => exact absurd (Option.some.inj h) (by intro q; cases q)
    | 4, h => exact absurd (Option.some.inj h) (by intro q; cases q)
    | 5, h => exact absurd (Option.some.inj h) (by intro q; cases q)
    | 6, h => exact absurd (Option.some.inj h) (by intro q; cases q)
    | 7, h => exact absurd (Option.some.inj h) (by intro q; cases q)
    | 8, h => exact absurd (Option.some.inj h) (by intro q; cases q)
    | j + 9, h => cases h
  · exact absurd h7.1 (by decide)
set_option maxHeartbeats 4000000 in
theorem WC_2 (ad : Nat → Nat) (Y : CY) (X : va_W) : HA ad (fun σ => wC ad Y σ ++ X) 2 Y.1 700 := by
  exact ⟨2, fun σ => rfl, fun σ i v => rfl⟩
set_option maxHeartbeats 4000000 in
theorem WC_3 (ad : Nat → Nat) (Y : CY) (X : va_W) : HA ad (fun σ => wC ad Y σ ++ X) 3 Y.2.1 700 := by
  exact ⟨3, fun σ => rfl, fun σ i v => rfl⟩
set_option maxHeartbeats 4000000 in
theorem WC_4 (ad : Nat → Nat) (Y : CY) (X : va_W) : HA ad (fun σ => wC ad Y σ ++ X) 4 Y.2.1 700 := by
  exact ⟨4, fun σ => rfl, fun σ i v => rfl⟩
set_option maxHeartbeats 4000000 in
theorem WC_5 (ad : Nat → Nat) (Y : CY) (X : va_W) : HA ad (fun σ => wC ad Y σ ++ X) 5 Y.2.1 700 := by
  exact ⟨5, fun σ => rfl, fun σ i v => rfl⟩
set_option maxHeartbeats 4000000 in
theorem WC_6 (ad : Nat → Nat) (Y : CY) (X : va_W) : HA ad (fun σ => wC ad Y σ ++ X) 6 Y.2.1 22 := by
  exact ⟨6, fun σ => rfl, fun σ i v => rfl⟩
set_option maxHeartbeats 4000000 in
theorem WC_7 (ad : Nat → Nat) (Y : CY) (X : va_W) : HO ad (fun σ => wC ad Y σ ++ X) 7 7 (FX7 ad) := by
  refine ⟨7, fun σ => rfl, fun σ j v h => ?_, fun σ j v h => ?_, fun σ j t h7 h ht => ?_⟩
  · match j, h with
    | 0, h => exact absurd (Option.some.inj h) (by intro q; cases q)
    | 1, h => exact absurd (Option.some.inj h) (by unfold k_rf; split <;> (intro q; cases q))
    | 2, h => rfl
    | 3, h => rfl
    | 4, h => rfl
    | 5, h => rfl
    | 6, h => exact absurd (Option.some.inj h) (by intro q; cases q)
    | 7, h => rfl
    | 8, h => rfl
    | 9, h => rfl
    | 10, h => rfl
    | 11, h => rfl
    | j + 12, h => cases h
  · match j, h with
    | 0, h => exact absurd (Option.some.inj h) (by intro q; cases q)
    | 1, h => exact absurd (Option.some.inj h) (by unfold k_rf; split <;> (intro q; cases q))
    | 2, h => exact absurd (Option.some.inj h) (by intro q; cases q)
    | 3, h => exact absurd (Option.some.inj h) (by intro q; cases q)
    | 4, h => exact absurd (Option.some.inj h) (by intro q; cases q)
    | 5, h => exact absurd (Option.some.inj h) (by intro q; cases q)
    | 6, h => exact absurd (Option.some.inj h) (by intro q; cases q)
    | 7, h => exact absurd (Option.some.inj h) (by intro q; cases q)
    | 8, h => exact absurd (Option.some.inj h) (by intro q; cases q)
    | 9, h => exact absurd (Option.some.inj h) (by intro q; cases q)
    | 10, h => exact absurd (Option.some.inj h) (by intro q; cases q)
    | 11, h => exact absurd (Option.some.inj h) (by intro q; cases q)
    | j + 12, h => cases h
  · obtain ⟨_, rfl⟩ := h7; (rcases ht with rfl | rfl <;> rfl)
set_option maxHeartbeats 4000000 in
theorem WC_8 (ad : Nat → Nat) (Y : CY) (X : va_W) : HA ad (fun σ => wC ad Y σ ++ X) 8 Y.2.1 72 := by
  exact ⟨8, fun σ => rfl, fun σ i v => rfl⟩
set_option maxHeartbeats 4000000 in
theorem WC_62 (ad : Nat → Nat) (Y : CY) (X : va_W) : HO ad (fun σ => wC ad Y σ ++ X) 62 2 (FX2 ad) := by
  refine ⟨47, fun σ => rfl, fun σ j v h => ?_, fun σ j v h => ?_, fun σ j t h7 h ht => ?_⟩
  · match j, h with
    | 0, h => exact absurd (Option.some.inj h) (by intro q; cases q)
    | 1, h => exact absurd (Option.some.inj h) (by intro q; cases q)
    | 2, h => exact absurd (Option.some.inj h) (by intro q; cases q)
    | 3, h => exact absurd (Option.some.inj h) (by intro q; cases q)
    | 4, h => exact absurd (Option.some.inj h) (by intro q; cases q)
    | 5, h => rfl
    | j + 6, h => cases h
  · match j, h with
    | 0, h => exact absurd (Option.some.inj h) (by intro q; cases q)
    | 1, h => exact absurd (Option.some.inj h) (by intro q; cases q)
    | 2, h => exact absurd (Option.some.inj h) (by intro q; cases q)
    | 3, h => exact absurd (Option.some.inj h) (by intro q; cases q)
    | 4, h => exact absurd (Option.some.inj h) (by intro q; cases q)
    | 5, h => exact absurd (Option.some.inj h) (by intro q; cases q)
    | j + 6, h => cases h
  · exact absurd h7.1 (by decide)
set_option maxHeartbeats 4000000 in
theorem WC_63 (ad : Nat → Nat) (Y : CY) (X : va_W) : HA ad (fun σ => wC ad Y σ ++ X) 63 Y.2.1 20 := by
  exact ⟨48, fun σ => rfl, fun σ i v => rfl⟩
set_option maxHeartbeats 4000000 in
theorem WC_64 (ad : Nat → Nat) (Y : CY) (X : va_W) : HA ad (fun σ => wC ad Y σ ++ X) 64 Y.2.1 20 := by
  exact ⟨49, fun σ => rfl, fun σ i v => rfl⟩
set_option maxHeartbeats 4000000 in
theorem WC_65 (ad : Nat → Nat) (Y : CY) (X : va_W) : HA ad (fun σ => wC ad Y σ ++ X) 65 Y.2.1 20 := by
  exact ⟨50, fun σ => rfl, fun σ i v => rfl⟩
set_option maxHeartbeats 4000000 in
theorem WC_66 (ad : Nat → Nat) (Y : CY) (X : va_W) : HA ad (fun σ => wC ad Y σ ++ X) 66 Y.2.1 20 := by
  exact ⟨51, fun σ => rfl, fun σ i v => rfl⟩
set_option maxHeartbeats 4000000 in
theorem WC_67 (ad : Nat → Nat) (Y : CY) (X : va_W) : HO ad (fun σ => wC ad Y σ ++ X) 67 3 (FX3 ad) := by
  refine ⟨52, fun σ => rfl, fun σ j v h => ?_, fun σ j v h => ?_, fun σ j t h7 h ht => ?_⟩
  · match j, h with
    | 0, h => exact absurd (Option.some.inj h) (by intro q; cases q)
    | 1, h => exact absurd (Option.some.inj h) (by intro q; cases q)
    | 2, h => exact absurd (Option.some.inj h) (by intro q; cases q)
    | 3, h => exact absurd (Option.some.inj h) (by intro q; cases q)
    | 4, h => exact absurd (Option.some.inj h) (by intro q; cases q)
    | j + 5, h => cases h
  · match j, h with
    | 0, h => exact absurd (Option.some.inj h) (by intro q; cases q)
    | 1, h => exact absurd (Option.some.inj h) (by intro q; cases q)
    | 2, h => exact absurd (Option.some.inj h) (by intro q; cases q)
    | 3, h => exact absurd (Option.some.inj h) (by intro q; cases q)
    | 4, h => exact absurd (Option.some.inj h) (by intro q; cases q)
    | j + 5, h => cases h
  · exact absurd h7.1 (by decide)
set_option maxHeartbeats 4000000 in
theorem WC_68 (ad : Nat → Nat) (Y : CY) (X : va_W) : HA ad (fun σ => wC ad Y σ ++ X) 68 Y.2.1 8 := by
  exact ⟨53, fun σ => rfl, fun σ i v => rfl⟩
set_option maxHeartbeats 4000000 in
theorem WC_69 (ad : Nat → Nat) (Y : CY) (X : va_W) : HA ad (fun σ => wC ad Y σ ++ X) 69 Y.2.1 64 := by
  exact ⟨54, fun σ => rfl, fun σ i v => rfl⟩
set_option maxHeartbeats 4000000 in
theorem WC_71 (ad : Nat → Nat) (Y : CY) (X : va_W) : HO ad (fun σ => wC ad Y σ ++ X) 71 1 (FX1 ad) := by
  refine ⟨56, fun σ => rfl, fun σ j v h => ?_, fun σ j v h => ?_, fun σ j t h7 h ht => ?_⟩
  · match j, h with
    | 0, h => exact absurd (Option.some.inj h) (by intro q; cases q)
    | 1, h => exact absurd (Option.some.inj h) (by intro q; cases q)
    | 2, h => exact absurd (Option.some.inj h) (by intro q; cases q)
    | 3, h => exact absurd (Option.some.inj h) (by intro q; cases q)
    | 4, h => rfl
    | 5, h => rfl
    | 6, h => rfl
    | 7, h => rfl
    | 8, h => rfl
    | j + 9, h => cases h
  · match j, h with
    | 0, h => exact absurd (Option.some.inj h) (by intro q; cases q)
    | 1, h => exact absurd (Option.some.inj h) (by intro q; cases q)
    | 2, h => exact absurd (Option.some.inj h) (by intro q; cases q)
    | 3, h => exact absurd (Option.some.inj h) (by intro q; cases q)
    | 4, h => exact absurd (Option.some.inj h) (by intro q; cases q)
    | 5, h => exact absurd (Option.some.inj h) (by intro q; cases q)
    | 6, h => exact absurd (Option.some.inj h) (by intro q; cases q)
    | 7, h => exact absurd (Option.some.inj h) (by intro q; cases q)
    | 8, h => exact absurd (Option.some.inj h) (by intro q; cases q)
    | j + 9, h => cases h
  · exact absurd h7.1 (by decide)
set_option maxHeartbeats 4000000 in
theorem WC_73 (ad : Nat → Nat) (Y : CY) (X : va_W) : HO ad (fun σ => wC ad Y σ ++ X) 73 10 (FX10 ad) := by
  refine ⟨58, fun σ => rfl, fun σ j v h => ?_, fun σ j v h => ?_, fun σ j t h7 h ht => ?_⟩
  · match j, h with
    | 0, h => exact absurd (Option.some.inj h) (by intro q; cases q)
    | 1, h => exact absurd (Option.some.inj h) (by intro q; cases q)
    | 2, h => exact absurd (Option.some.inj h) (by intro q; cases q)
    | 3, h => exact absurd (Option.some.inj h) (by intro q; cases q)
    | 4, h => exact absurd (Option.some.inj h) (by intro q; cases q)
    | 5, h => exact absurd (Option.some.inj h) (by intro q; cases q)
    | 6, h => exact absurd (Option.some.inj h) (by intro q; cases q)
    | j + 7, h => cases h
  · match j, h with
    | 0, h => exact absurd (Option.some.inj h) (by intro q; cases q)
    | 1, h => exact absurd (Option.some.inj h) (by intro q; cases q)
    | 2, h => exact absurd (Option.some.inj h) (by intro q; cases q)
    | 3, h => exact absurd (Option.some.inj h) (by intro q; cases q)
    | 4, h => exact absurd (Option.some.inj h) (by intro q; cases q)
    | 5, h => exact absurd (Option.some.inj h) (by intro q; cases q)
    | 6, h => exact absurd (Option.some.inj h) (by intro q; cases q)
    | j + 7, h => cases h
  · exact absurd h7.1 (by decide)
set_option maxHeartbeats 4000000 in
theorem WC_74 (ad : Nat → Nat) (Y : CY) (X : va_W) : HA ad (fun σ => wC ad Y σ ++ X) 74 Y.2.1 8 := by
  exact ⟨59, fun σ => rfl, fun σ i v => rfl⟩
set_option maxHeartbeats 4000000 in
theorem WC_75 (ad : Nat → Nat) (Y : CY) (X : va_W) : HA ad (fun σ => wC ad Y σ ++ X) 75 Y.2.1 8 := by
  exact ⟨60, fun σ => rfl, fun σ i v => rfl⟩
set_option maxHeartbeats 4000000 in
theorem WC_76 (ad : Nat → Nat) (Y : CY) (X : va_W) : HA ad (fun σ => wC ad Y σ ++ X) 76 Y.2.1 488 := by
  exact ⟨61, fun σ => rfl, fun σ i v => rfl⟩
set_option maxHeartbeats 4000000 in
theorem WC_77 (ad : Nat → Nat) (Y : CY) (X : va_W) : HA ad (fun σ => wC ad Y σ ++ X) 77 Y.2.1 488 := by
  exact ⟨62, fun σ => rfl, fun σ i v => rfl⟩
set_option maxHeartbeats 4000000 in
theorem WC_78 (ad : Nat → Nat) (Y : CY) (X : va_W) : HO ad (fun σ => wC ad Y σ ++ X) 78 6 (FX6 ad) := by
  refine ⟨63, fun σ => rfl, fun σ j v h => ?_, fun σ j v h => ?_, fun σ j t h7 h ht => ?_⟩
  · match j, h with
    | 0, h => exact absurd (Option.some.inj h) (by intro q; cases q)
    | 1, h => exact absurd (Option.some.inj h) (by intro q; cases q)
    | 2, h => exact absurd (Option.some.inj h) (by intro q; cases q)
    | 3, h => exact absurd (Option.some.inj h) (by intro q; cases q)
    | 4, h => exact absurd (Option.some.inj h) (by intro q; cases q)
    | 5, h => exact absurd (Option.some.inj h) (by intro q; cases q)
    | 6, h => exact absurd (Option.some.inj h) (by intro q; cases q)
    | 7, h => rfl
    | 8, h => rfl
    | j + 9, h => cases h
  · match j, h with
    | 0, h => exact absurd (Option.some.inj h) (by intro q; cases q)
    | 1, h => exact absurd (Option.some.inj h) (by intro q; cases q)
    | 2, h => exact absurd (Option.some.inj h) (by intro q; cases q)
    | 3, h => exact absurd (Option.some.inj h) (by intro q; cases q)
    | 4, h => exact absurd (Option.some.inj h) (by intro q; cases q)
    | 5, h => exact absurd (Option.some.inj h) (by intro q; cases q)
    | 6, h => exact absurd (Option.some.inj h) (by intro q; cases q)
    | 7, h => exact absurd (Option.some.inj h) (by intro q; cases q)
    | 8, h => exact absurd (Option.some.inj h) (by intro q; cases q)
    | j + 9, h => cases h
  · exact absurd h7.1 (by decide)
set_option maxHeartbeats 4000000 in
theorem WC_79 (ad : Nat → Nat) (Y : CY) (X : va_W) : HA ad (fun σ => wC ad Y σ ++ X) 79 Y.2.1 24 := by
  exact ⟨64, fun σ => rfl, fun σ i v => rfl⟩
set_option maxHeartbeats 4000000 in
theorem WC_80 (ad : Nat → Nat) (Y : CY) (X : va_W) : HA ad (fun σ => wC ad Y σ ++ X) 80 Y.2.1 24 := by
  exact ⟨65, fun σ => rfl, fun σ i v => rfl⟩
set_option maxHeartbeats 4000000 in
theorem WC_81 (ad : Nat → Nat) (Y : CY) (X : va_W) : HA ad (fun σ => wC ad Y σ ++ X) 81 Y.2.2.2.1 24 := by
  exact ⟨66, fun σ => rfl, fun σ i v => rfl⟩
set_option maxHeartbeats 4000000 in
theorem WC_82 (ad : Nat → Nat) (Y : CY) (X : va_W) : HA ad (fun σ => wC ad Y σ ++ X) 82 Y.2.1 24 := by
  exact ⟨67, fun σ => rfl, fun σ i v => rfl⟩
set_option maxHeartbeats 4000000 in
theorem WC_83 (ad : Nat → Nat) (Y : CY) (X : va_W) : HA ad (fun σ => wC ad Y σ ++ X) 83 Y.2.2.2.1 24 := by
  exact ⟨68, fun σ => rfl, fun σ i v => rfl⟩
set_option maxHeartbeats 4000000 in
theorem WC_10 (ad : Nat → Nat) (Y : CY) (X : va_W) : HO ad (fun σ => wC ad Y σ ++ X) 10 0 (FX0 ad 10) := by
  refine ⟨9, fun σ => rfl, fun σ j v h => ?_, fun σ j v h => ?_, fun σ j t h7 h ht => ?_⟩
  · match j, h with
    | 0, h => exact absurd (Option.some.inj h) (by intro q; cases q)
    | 1, h => exact absurd (Option.some.inj h) (by intro q; cases q)
    | 2, h => exact absurd (Option.some.inj h) (by intro q; cases q)
    | 3, h => exact absurd (Option.some.inj h) (by intro q; cases q)
    | 4, h => exact absurd (Option.some.inj h) (by intro q; cases q)
    | 5, h => exact absurd (Option.some.inj h) (by intro q; cases q)
    | 6, h => exact absurd (Option.some.inj h) (by intro q; cases q)
    | 7, h => rfl
    | 8, h => rfl
    | 9, h => rfl
    | 10, h => rfl
    | 11, h => rfl
    | 12, h => rfl
    | 13, h => rfl
    | 14, h => rfl
    | j + 15, h => cases h
  · match j, h with
    | 0, h => exact absurd (Option.some.inj h) (by intro q; cases q)
    | 1, h => exact absurd (Option.some.inj h) (by intro q; cases q)
    | 2, h => exact absurd (Option.some.inj h) (by intro q; cases q)
    | 3, h => exact absurd (Option.some.inj h) (by intro q; cases q)
    | 4, h => exact absurd (Option.some.inj h) (by intro q; cases q)
    | 5, h => exact absurd (Option.some.inj h) (by intro q; cases q)
    | 6, h => exact absurd (Option.some.inj h) (by intro q; cases q)
    | 7, h => exact absurd (Option.some.inj h) (by intro q; cases q)
    | 8, h => exact absurd (Option.some.inj h) (by intro q; cases q)
    | 9, h => exact absurd (Option.some.inj h) (by intro q; cases q)
    | 10, h => exact absurd (Option.some.inj h) (by intro q; cases q)
    | 11, h => exact absurd (Option.some.inj h) (by intro q; cases q)
    | 12, h => exact absurd (Option.some.inj h) (by intro q; cases q)
    | 13, h => exact absurd (Option.some.inj h) (by intro q; cases q)
    | 14, h => exact absurd (Option.some.inj h) (by intro q; cases q)
    | j + 15, h => cases h
  · exact absurd h7.1 (by decide)
set_option maxHeartbeats 4000000 in
theorem WC_11 (ad : Nat → Nat) (Y : CY) (X : va_W) : HA ad (fun σ => wC ad Y σ ++ X) 11 Y.2.1 8 := by
  exact ⟨10, fun σ => rfl, fun σ i v => rfl⟩
set_option maxHeartbeats 4000000 in
theorem WC_12 (ad : Nat → Nat) (Y : CY) (X : va_W) : HA ad (fun σ => wC ad Y σ ++ X) 12 Y.2.1 64 := by
  exact ⟨11, fun σ => rfl, fun σ i v => rfl⟩
set_option maxHeartbeats 4000000 in
theorem WC_13 (ad : Nat → Nat) (Y : CY) (X : va_W) : HA ad (fun σ => wC ad Y σ ++ X) 13 Y.2.1 12 := by
  exact ⟨12, fun σ => rfl, fun σ i v => rfl⟩
set_option maxHeartbeats 4000000 in
theorem WC_14 (ad : Nat → Nat) (Y : CY) (X : va_W) : HA ad (fun σ => wC ad Y σ ++ X) 14 Y.2.1 12 := by
  exact ⟨13, fun σ => rfl, fun σ i v => rfl⟩
set_option maxHeartbeats 4000000 in
theorem WC_15 (ad : Nat → Nat) (Y : CY) (X : va_W) : HA ad (fun σ => wC ad Y σ ++ X) 15 Y.2.1 12 := by
  exact ⟨14, fun σ => rfl, fun σ i v => rfl⟩
set_option maxHeartbeats 4000000 in
theorem WC_16 (ad : Nat → Nat) (Y : CY) (X : va_W) : HA ad (fun σ => wC ad Y σ ++ X) 16 Y.2.1 20 := by
  exact ⟨15, fun σ => rfl, fun σ i v => rfl⟩
set_option maxHeartbeats 4000000 in
theorem WC_17 (ad : Nat → Nat) (Y : CY) (X : va_W) : HO ad (fun σ => wC ad Y σ ++ X) 17 4 (FX4 ad 17) := by
  refine ⟨16, fun σ => rfl, fun σ j v h => ?_, fun σ j v h => ?_, fun σ j t h7 h ht => ?_⟩
  · match j, h with
    | 0, h => exact absurd (Option.some.inj h) (by intro q; cases q)
    | 1, h => exact absurd (Option.some.inj h) (by intro q; cases q)
    | 2, h => exact absurd (Option.some.inj h) (by intro q; cases q)
    | 3, h => exact absurd (Option.some.inj h) (by intro q; cases q)
    | 4, h => exact absurd (Option.some.inj h) (by intro q; cases q)
    | 5, h => rfl
    | j + 6, h => cases h
  · match j, h with
    | 0, h => exact absurd (Option.some.inj h) (by intro q; cases q)
    | 1, h => exact absurd (Option.some.inj h) (by intro q; cases q)
    | 2, h => exact absurd (Option.some.inj h) (by intro q; cases q)
    | 3, h => exact absurd (Option.some.inj h) (by intro q; cases q)
    | 4, h => exact absurd (Option.some.inj h) (by intro q; cases q)
    | 5, h => exact absurd (Option.some.inj h) (by intro q; cases q)
    | j + 6, h => cases h
  · exact absurd h7.1 (by decide)
set_option maxHeartbeats 4000000 in
theorem WC_18 (ad : Nat → Nat) (Y : CY) (X : va_W) : HA ad (fun σ => wC ad Y σ ++ X) 18 Y.2.1 64 := by
  exact ⟨17, fun σ => rfl, fun σ i v => rfl⟩
set_option maxHeartbeats 4000000 in
theorem WC_19 (ad : Nat → Nat) (Y : CY) (X : va_W) : HA ad (fun σ => wC ad Y σ ++ X) 19 Y.2.1 64 := by
  exact ⟨18, fun σ => rfl, fun σ i v => rfl⟩
set_option maxHeartbeats 4000000 in
theorem WC_20 (ad : Nat → Nat) (Y : CY) (X : va_W) : HA ad (fun σ => wC ad Y σ ++ X) 20 Y.2.1 3 := by
  exact ⟨19, fun σ => rfl, fun σ i v => rfl⟩
set_option maxHeartbeats 4000000 in
theorem WC_21 (ad : Nat → Nat) (Y : CY) (X : va_W) : HA ad (fun σ => wC ad Y σ ++ X) 21 Y.2.1 3 := by
  exact ⟨20, fun σ => rfl, fun σ i v => rfl⟩
set_option maxHeartbeats 4000000 in
theorem WC_22 (ad : Nat → Nat) (Y : CY) (X : va_W) : HL ad (fun σ => wC ad Y σ ++ X) 22 Y.2.2.1 64 := by
  exact ⟨21, fun σ => rfl, fun σ i v => rfl⟩
set_option maxHeartbeats 4000000 in
theorem WC_30 (ad : Nat → Nat) (Y : CY) (X : va_W) : HO ad (fun σ => wC ad Y σ ++ X) 30 0 (FX0 ad 30) := by
  refine ⟨22, fun σ => rfl, fun σ j v h => ?_, fun σ j v h => ?_, fun σ j t h7 h ht => ?_⟩
  · match j, h with
    | 0, h => exact absurd (Option.some.inj h) (by intro q; cases q)
    | 1, h => exact absurd (Option.some.inj h) (by intro q; cases q)
    | 2, h => exact absurd (Option.some.inj h) (by intro q; cases q)
    | 3, h => exact absurd (Option.some.inj h) (by intro q; cases q)
    | 4, h => exact absurd (Option.some.inj h) (by intro q; cases q)
    | 5, h => exact absurd (Option.some.inj h) (by intro q; cases q)
    | 6, h => exact absurd (Option.some.inj h) (by intro q; cases q)
    | 7, h => rfl
    | 8, h => rfl
    | 9, h => rfl
    | 10, h => rfl
    | 11, h => rfl
    | 12, h => rfl
    | 13, h => rfl
    | 14, h => rfl
    | j + 15, h => cases h
  · match j, h with
    | 0, h => exact absurd (Option.some.inj h) (by intro q; cases q)
    | 1, h => exact absurd (Option.some.inj h) (by intro q; cases q)
    | 2, h => exact absurd (Option.some.inj h) (by intro q; cases q)
    | 3, h => exact absurd (Option.some.inj h) (by intro q; cases q)
    | 4, h => exact absurd (Option.some.inj h) (by intro q; cases q)
    | 5, h => exact absurd (Option.some.inj h) (by intro q; cases q)
    | 6, h => exact absurd (Option.some.inj h) (by intro q; cases q)
    | 7, h => exact absurd (Option.some.inj h) (by intro q; cases q)
    | 8, h => exact absurd (Option.some.inj h) (by intro q; cases q)
    | 9, h => exact absurd (Option.some.inj h) (by intro q; cases q)
    | 10, h => exact absurd (Option.some.inj h) (by intro q; cases q)
    | 11, h => exact absurd (Option.some.inj h) (by intro q; cases q)
    | 12, h => exact absurd (Option.some.inj h) (by intro q; cases q)
    | 13, h => exact absurd (Option.some.inj h) (by intro q; cases q)
    | 14, h => exact absurd (Option.some.inj h) (by intro q; cases q)
    | j + 15, h => cases h
  · exact absurd h7.1 (by decide)
set_option maxHeartbeats 4000000 in
theorem WC_31 (ad : Nat → Nat) (Y : CY) (X : va_W) : HA ad (fun σ => wC ad Y σ ++ X) 31 Y.2.1 8 := by
  exact ⟨23, fun σ => rfl, fun σ i v => rfl⟩
set_option maxHeartbeats 4000000 in
theorem WC_32 (ad : Nat → Nat) (Y : CY) (X : va_W) : HA ad (fun σ => wC ad Y σ ++ X) 32 Y.2.1 64 := by
  exact ⟨24, fun σ => rfl, fun σ i v => rfl⟩
set_option maxHeartbeats 4000000 in
theorem WC_33 (ad : Nat → Nat) (Y : CY) (X : va_W) : HA ad (fun σ => wC ad Y σ ++ X) 33 Y.2.1 12 := by
  exact ⟨25, fun σ => rfl, fun σ i v => rfl⟩
set_option maxHeartbeats 4000000 in
theorem WC_34 (ad : Nat → Nat) (Y : CY) (X : va_W) : HA ad (fun σ => wC ad Y σ ++ X) 34 Y.2.1 12 := by
  exact ⟨26, fun σ => rfl, fun σ i v => rfl⟩
set_option maxHeartbeats 4000000 in
theorem WC_35 (ad : Nat → Nat) (Y : CY) (X : va_W) : HA ad (fun σ => wC ad Y σ ++ X) 35 Y.2.1 12 := by
  exact ⟨27, fun σ => rfl, fun σ i v => rfl⟩
set_option maxHeartbeats 4000000 in
theorem WC_36 (ad : Nat → Nat) (Y : CY) (X : va_W) : HA ad (fun σ => wC ad Y σ ++ X) 36 Y.2.1 20 := by
  exact ⟨28, fun σ => rfl, fun σ i v => rfl⟩
set_option maxHeartbeats 4000000 in
theorem WC_37 (ad : Nat → Nat) (Y : CY) (X : va_W) : HO ad (fun σ => wC ad Y σ ++ X) 37 4 (FX4 ad 37) := by
  refine ⟨29, fun σ => rfl, fun σ j v h => ?_, fun σ j v h => ?_, fun σ j t h7 h ht => ?_⟩
  · match j, h with
    | 0, h => exact absurd (Option.some.inj h) (by intro q; cases q)
    | 1, h => exact absurd (Option.some.inj h) (by intro q; cases q)
    | 2, h => exact absurd (Option.some.inj h) (by intro q; cases q)
    | 3, h => exact absurd (Option.some.inj h) (by intro q; cases q)
    | 4, h => exact absurd (Option.some.inj h) (by intro q; cases q)
    | 5, h => rfl
    | j + 6, h => cases h
  · match j, h with
    | 0, h => exact absurd (Option.some.inj h) (by intro q; cases q)
    | 1, h => exact absurd (Option.some.inj h) (by intro q; cases q)
    | 2, h => exact absurd (Option.some.inj h) (by intro q; cases q)
    | 3, h => exact absurd (Option.some.inj h) (by intro q; cases q)
    | 4, h => exact absurd (Option.some.inj h) (by intro q; cases q)
    | 5, h => exact absurd (Option.some.inj h) (by intro q; cases q)
    | j + 6, h => cases h
  · exact absurd h7.1 (by decide)
set_option maxHeartbeats 4000000 in
theorem WC_38 (ad : Nat → Nat) (Y : CY) (X : va_W) : HA ad (fun σ => wC ad Y σ ++ X) 38 Y.2.1 64 := by
  exact ⟨30, fun σ => rfl, fun σ i v => rfl⟩
set_option maxHeartbeats 4000000 in
theorem WC_39 (ad : Nat → Nat) (Y : CY) (X : va_W) : HA ad (fun σ => wC ad Y σ ++ X) 39 Y.2.1 64 := by
  exact ⟨31, fun σ => rfl, fun σ i v => rfl⟩
set_option maxHeartbeats 4000000 in
theorem WC_40 (ad : Nat → Nat) (Y : CY) (X : va_W) : HA ad (fun σ => wC ad Y σ ++ X) 40 Y.2.1 3 := by
  exact ⟨32, fun σ => rfl, fun σ i v => rfl⟩
set_option maxHeartbeats 4000000 in
theorem WC_41 (ad : Nat → Nat) (Y : CY) (X : va_W) : HA ad (fun σ => wC ad Y σ ++ X) 41 Y.2.1 3 := by
  exact ⟨33, fun σ => rfl, fun σ i v => rfl⟩
set_option maxHeartbeats 4000000 in
theorem WC_42 (ad : Nat → Nat) (Y : CY) (X : va_W) : HL ad (fun σ => wC ad Y σ ++ X) 42 Y.2.2.1 64 := by
  exact ⟨34, fun σ => rfl, fun σ i v => rfl⟩
set_option maxHeartbeats 4000000 in
theorem WC_50 (ad : Nat → Nat) (Y : CY) (X : va_W) : HO ad (fun σ => wC ad Y σ ++ X) 50 5 (FX5 ad 50) := by
  refine ⟨35, fun σ => rfl, fun σ j v h => ?_, fun σ j v h => ?_, fun σ j t h7 h ht => ?_⟩
  · match j, h with
    | 0, h => exact absurd (Option.some.inj h) (by intro q; cases q)
    | 1, h => exact absurd (Option.some.inj h) (by intro q; cases q)
    | 2, h => exact absurd (Option.some.inj h) (by intro q; cases q)
    | 3, h => rfl
    | 4, h => rfl
    | 5, h => rfl
    | 6, h => rfl
    | 7, h => rfl
    | 8, h => exact absurd (Option.some.inj h) (by intro q; cases q)
    | 9, h => rfl
    | 10, h => rfl
    | 11, h => rfl
    | j + 12, h => cases h
  · match j, h with
    | 0, h => exact absurd (Option.some.inj h) (by intro q; cases q)
    | 1, h => exact absurd (Option.some.inj h) (by intro q; cases q)
    | 2, h => exact absurd (Option.some.inj h) (by intro q; cases q)
    | 3, h => exact absurd (Option.some.inj h) (by intro q; cases q)
    | 4, h => exact absurd (Option.some.inj h) (by intro q; cases q)
    | 5, h => exact absurd (Option.some.inj h) (by intro q; cases q)
    | 6, h => exact absurd (Option.some.inj h) (by intro q; cases q)
    | 7, h => exact absurd (Option.some.inj h) (by intro q; cases q)
    | 8, h => rfl
    | 9, h => exact absurd (Option.some.inj h) (by intro q; cases q)
    | 10, h => exact absurd (Option.some.inj h) (by intro q; cases q)
    | 11, h => exact absurd (Option.some.inj h) (by intro q; cases q)
    | j + 12, h => cases h
  · exact absurd h7.1 (by decide)
set_option maxHeartbeats 4000000 in
theorem WC_51 (ad : Nat → Nat) (Y : CY) (X : va_W) : HA ad (fun σ => wC ad Y σ ++ X) 51 Y.2.1 8 := by
  exact ⟨36, fun σ => rfl, fun σ i v => rfl⟩
set_option maxHeartbeats 4000000 in
theorem WC_52 (ad : Nat → Nat) (Y : CY) (X : va_W) : HA ad (fun σ => wC ad Y σ ++ X) 52 Y.2.1 8 := by
  exact ⟨37, fun σ => rfl, fun σ i v => rfl⟩
set_option maxHeartbeats 4000000 in
theorem WC_53 (ad : Nat → Nat) (Y : CY) (X : va_W) : HA ad (fun σ => wC ad Y σ ++ X) 53 Y.2.1 8 := by
  exact ⟨38, fun σ => rfl, fun σ i v => rfl⟩
set_option maxHeartbeats 4000000 in
theorem WC_54 (ad : Nat → Nat) (Y : CY) (X : va_W) : HO ad (fun σ => wC ad Y σ ++ X) 54 5 (FX5 ad 54) := by
  refine ⟨39, fun σ => rfl, fun σ j v h => ?_, fun σ j v h => ?_, fun σ j t h7 h ht => ?_⟩
  · match j, h with
    | 0, h => exact absurd (Option.some.inj h) (by intro q; cases q)
    | 1, h => exact absurd (Option.some.inj h) (by intro q; cases q)
    | 2, h => exact absurd (Option.some.inj h) (by intro q; cases q)
    | 3, h => rfl
    | 4, h => rfl
    | 5, h => rfl
    | 6, h => rfl
    | 7, h => rfl
    | 8, h => exact absurd (Option.some.inj h) (by intro q; cases q)
    | 9, h => rfl
    | 10, h => rfl
    | 11, h => rfl
    | j + 12, h => cases h
  · match j, h with
    | 0, h => exact absurd (Option.some.inj h) (by intro q; cases q)
    | 1, h => exact absurd (Option.some.inj h) (by intro q; cases q)
    | 2, h => exact absurd (Option.some.inj h) (by intro q; cases q)
    | 3, h => exact absurd (Option.some.inj h) (by intro q; cases q)
    | 4, h => exact absurd (Option.some.inj h) (by intro q; cases q)
    | 5, h => exact absurd (Option.some.inj h) (by intro q; cases q)
    | 6, h => exact absurd (Option.some.inj h) (by intro q; cases q)
    | 7, h => exact absurd (Option.some.inj h) (by intro q; cases q)
    | 8, h => rfl
    | 9, h => exact absurd (Option.some.inj h) (by intro q; cases q)
    | 10, h => exact absurd (Option.some.inj h) (by intro q; cases q)
    | 11, h => exact absurd (Option.some.inj h) (by intro q; cases q)
    | j + 12, h => cases h
  · exact absurd h7.1 (by decide)
set_option maxHeartbeats 4000000 in
theorem WC_55 (ad : Nat → Nat) (Y : CY) (X : va_W) : HA ad (fun σ => wC ad Y σ ++ X) 55 Y.2.1 8 := by
  exact ⟨40, fun σ => rfl, fun σ i v => rfl⟩
set_option maxHeartbeats 4000000 in
theorem WC_56 (ad : Nat → Nat) (Y : CY) (X : va_W) : HA ad (fun σ => wC ad Y σ ++ X) 56 Y.2.1 8 := by
  exact ⟨41, fun σ => rfl, fun σ i v => rfl⟩
set_option maxHeartbeats 4000000 in
theorem WC_57 (ad : Nat → Nat) (Y : CY) (X : va_W) : HA ad (fun σ => wC ad Y σ ++ X) 57 Y.2.1 8 := by
  exact ⟨42, fun σ => rfl, fun σ i v => rfl⟩
set_option maxHeartbeats 4000000 in
theorem WC_58 (ad : Nat → Nat) (Y : CY) (X : va_W) : HO ad (fun σ => wC ad Y σ ++ X) 58 5 (FX5 ad 58) := by
  refine ⟨43, fun σ => rfl, fun σ j v h => ?_, fun σ j v h => ?_, fun σ j t h7 h ht => ?_⟩
  · match j, h with
    | 0, h => exact absurd (Option.some.inj h) (by intro q; cases q)
    | 1, h => exact absurd (Option.some.inj h) (by intro q; cases q)
    | 2, h => exact absurd (Option.some.inj h) (by intro q; cases q)
    | 3, h => rfl
    | 4, h => rfl
    | 5, h => rfl
    | 6, h => rfl
    | 7, h => rfl
    | 8, h => exact absurd (Option.some.inj h) (by intro q; cases q)
    | 9, h => rfl
    | 10, h => rfl
    | 11, h => rfl
    | j + 12, h => cases h
  · match j, h with
    | 0, h => exact absurd (Option.some.inj h) (by intro q; cases q)
    | 1, h => exact absurd (Option.some.inj h) (by intro q; cases q)
    | 2, h => exact absurd (Option.some.inj h) (by intro q; cases q)
    | 3, h => exact absurd (Option.some.inj h) (by intro q; cases q)
    | 4, h => exact absurd (Option.some.inj h) (by intro q; cases q)
    | 5, h => exact absurd (Option.some.inj h) (by intro q; cases q)
    | 6, h => exact absurd (Option.some.inj h) (by intro q; cases q)
    | 7, h => exact absurd (Option.some.inj h) (by intro q; cases q)
    | 8, h => rfl
    | 9, h => exact absurd (Option.some.inj h) (by intro q; cases q)
    | 10, h => exact absurd (Option.some.inj h) (by intro q; cases q)
    | 11, h => exact absurd (Option.some.inj h) (by intro q; cases q)
    | j + 12, h => cases h
  · exact absurd h7.1 (by decide)
set_option maxHeartbeats 4000000 in
theorem WC_59 (ad : Nat → Nat) (Y : CY) (X : va_W) : HA ad (fun σ => wC ad Y σ ++ X) 59 Y.2.1 8 := by
  exact ⟨44, fun σ => rfl, fun σ i v => rfl⟩
set_option maxHeartbeats 4000000 in
theorem WC_60 (ad : Nat → Nat) (Y : CY) (X : va_W) : HA ad (fun σ => wC ad Y σ ++ X) 60 Y.2.1 8 := by
  exact ⟨45, fun σ => rfl, fun σ i v => rfl⟩
set_option maxHeartbeats 4000000 in
theorem WC_61 (ad : Nat → Nat) (Y : CY) (X : va_W) : HA ad (fun σ => wC ad Y σ ++ X) 61 Y.2.1 8 := by
  exact ⟨46, fun σ => rfl, fun σ i v => rfl⟩
set_option maxHeartbeats 4000000 in
theorem WC_70 (ad : Nat → Nat) (Y : CY) (X : va_W) : HO ad (fun σ => wC ad Y σ ++ X) 70 8 (FX8 ad 70) := by
  refine ⟨55, fun σ => rfl, fun σ j v h => ?_, fun σ j v h => ?_, fun σ j t h7 h ht => ?_⟩
  · match j, h with
    | 0, h => rfl
    | 1, h => rfl
    | 2, h => rfl
    | 3, h => rfl
    | 4, h => rfl
    | 5, h => rfl
    | 6, h => rfl
    | 7, h => rfl
    | j + 8, h => cases h
  · match j, h with
    | 0, h => exact absurd (Option.some.inj h) (by intro q; cases q)
    | 1, h => exact absurd (Option.some.inj h) (by intro q; cases q)
    | 2, h => exact absurd (Option.some.inj h) (by intro q; cases q)
    | 3, h => exact absurd (Option.some.inj h) (by intro q; cases q)
    | 4, h => exact absurd (Option.some.inj h) (by intro q; cases q)
    | 5, h => exact absurd (Option.some.inj h) (by intro q; cases q)
    | 6, h => exact absurd (Option.some.inj h) (by intro q; cases q)
    | 7, h => exact absurd (Option.some.inj h) (by intro q; cases q)
    | j + 8, h => cases h
  · exact absurd h7.1 (by decide)
set_option maxHeartbeats 4000000 in
theorem WC_72 (ad : Nat → Nat) (Y : CY) (X : va_W) : HO ad (fun σ => wC ad Y σ ++ X) 72 8 (FX8 ad 72) := by
  refine ⟨57, fun σ => rfl, fun σ j v h => ?_, fun σ j v h => ?_, fun σ j t h7 h ht => ?_⟩
  · match j, h with
    | 0, h => rfl
    | 1, h => rfl
    | 2, h => rfl
    | 3, h => rfl
    | 4, h => rfl
    | 5, h => rfl
    | 6, h => rfl
    | 7, h => rfl
    | j + 8, h => cases h
  · match j, h with
    | 0, h => exact absurd (Option.some.inj h) (by intro q; cases q)
    | 1, h => exact absurd (Option.some.inj h) (by intro q; cases q)
    | 2, h => exact absurd (Option.some.inj h) (by intro q; cases q)
    | 3, h => exact absurd (Option.some.inj h) (by intro q; cases q)
    | 4, h => exact absurd (Option.some.inj h) (by intro q; cases q)
    | 5, h => exact absurd (Option.some.inj h) (by intro q; cases q)
    | 6, h => exact absurd (Option.some.inj h) (by intro q; cases q)
    | 7, h => exact absurd (Option.some.inj h) (by intro q; cases q)
    | j + 8, h => cases h
  · exact absurd h7.1 (by decide)
set_option maxHeartbeats 4000000 in
theorem WM_0 (ad : Nat → Nat) (Y : CY) (X : va_W) : HO ad (fun σ => wM ad Y σ ++ X) 0 12 (FX12 ad) := by
  refine ⟨0, fun σ => rfl, fun σ j v h => ?_, fun σ j v h => ?_, fun σ j t h7 h ht => ?_⟩
  · match j, h with
    | 0, h => rfl
    | 1, h => exact absurd (Option.some.inj h) (by intro q; cases q)
    | 2, h => rfl
    | 3, h => exact absurd (Option.some.inj h) (by intro q; cases q)
    | 4, h => exact absurd (Option.some.inj h) (by intro q; cases q)
    | 5, h => exact absurd (Option.some.inj h) (by intro q; cases q)
    | 6, h => exact absurd (Option.some.inj h) (by intro q; cases q)
    | 7, h => exact absurd (Option.some.inj h) (by intro q; cases q)
    | 8, h => exact absurd (Option.some.inj h) (by intro q; cases q)
    | 9, h => exact absurd (Option.some.inj h) (by intro q; cases q)
    | 10, h => exact absurd (Option.some.inj h) (by intro q; cases q)
    | 11, h => exact absurd (Option.some.inj h) (by intro q; cases q)
    | 12, h => exact absurd (Option.some.inj h) (by intro q; cases q)
    | 13, h => exact absurd (Option.some.inj h) (by intro q; cases q)
    | 14, h => exact absurd (Option.some.inj h) (by intro q; cases q)
    | 15, h => exact absurd (Option.some.inj h) (by intro q; cases q)
    | 16, h => rfl
    | 17, h => rfl
    | 18, h => rfl
    | 19, h => rfl
    | 20, h => rfl
    | 21, h => rfl
    | 22, h => rfl
    | 23, h => rfl
    | 24, h => rfl
    | 25, h => rfl
    | 26, h => rfl
    | 27, h => rfl
    | 28, h => rfl
    | 29, h => exact absurd (Option.some.inj h) (by intro q; cases q)
    | 30, h => exact absurd (Option.some.inj h) (by intro q; cases q)
    | 31, h => rfl
    | 32, h => exact absurd (Option.some.inj h) (by intro q; cases q)
    | 33, h => exact absurd (Option.some.inj h) (by intro q; cases q)
    | 34, h => exact absurd (Option.some.inj h) (by intro q; cases q)
    | 35, h => exact absurd (Option.some.inj h) (by intro q; cases q)
    | 36, h => exact absurd (Option.some.inj h) (by intro q; cases q)
    | 37, h => exact absurd (Option.some.inj h) (by intro q; cases q)
    | 38, h => exact absurd (Option.some.inj h) (by intro q; cases q)
    | 39, h => exact absurd (Option.some.inj h) (by intro q; cases q)
    | 40, h => exact absurd (Option.some.inj h) (by intro q; cases q)
    | 41, h => exact absurd (Option.some.inj h) (by intro q; cases q)
    | 42, h => exact absurd (Option.some.inj h) (by intro q; cases q)
    | 43, h => exact absurd (Option.some.inj h) (by intro q; cases q)
    | 44, h => rfl
    | 45, h => rfl
    | 46, h => rfl
    | 47, h => rfl
    | 48, h => rfl
    | 49, h => rfl
    | 50, h => rfl
    | 51, h => rfl
    | 52, h => rfl
    | 53, h => rfl
    | 54, h => exact absurd (Option.some.inj h) (by intro q; cases q)
    | 55, h => exact absurd (Option.some.inj h) (by intro q; cases q)
    | 56, h => exact absurd (Option.some.inj h) (by intro q; cases q)
    | 57, h => exact absurd (Option.some.inj h) (by intro q; cases q)
    | 58, h => exact absurd (Option.some.inj h) (by intro q; cases q)
    | 59, h => rfl
    | 60, h => rfl
    | 61, h => exact absurd (Option.some.inj h) (by intro q; cases q)
    | 62, h => exact absurd (Option.some.inj h) (by intro q; cases q)
    | 63, h => exact absurd (Option.some.inj h) (by intro q; cases q)
    | 64, h => exact absurd (Option.some.inj h) (by intro q; cases q)
    | 65, h => exact absurd (Option.some.inj h) (by intro q; cases q)
    | j + 66, h => cases h
  · match j, h with
    | 0, h => exact absurd (Option.some.inj h) (by intro q; cases q)
    | 1, h => exact absurd (Option.some.inj h) (by intro q; cases q)
    | 2, h => exact absurd (Option.some.inj h) (by intro q; cases q)
    | 3, h => exact absurd (Option.some.inj h) (by intro q; cases q)
    | 4, h => exact absurd (Option.some.inj h) (by intro q; cases q)
    | 5, h => exact absurd (Option.some.inj h) (by intro q; cases q)
    | 6, h => exact absurd (Option.some.inj h) (by intro q; cases q)
    | 7, h => exact absurd (Option.some.inj h) (by intro q; cases q)
    | 8, h => exact absurd (Option.some.inj h) (by intro q; cases q)
    | 9, h => exact absurd (Option.some.inj h) (by intro q; cases q)
    | 10, h => exact absurd (Option.some.inj h) (by intro q; cases q)
    | 11, h => exact absurd (Option.some.inj h) (by intro q; cases q)
    | 12, h => exact absurd (Option.some.inj h) (by intro q; cases q)
    | 13, h => exact absurd (Option.some.inj h) (by intro q; cases q)
    | 14, h => exact absurd (Option.some.inj h) (by intro q; cases q)
    | 15, h => exact absurd (Option.some.inj h) (by intro q; cases q)
    | 16, h => exact absurd (Option.some.inj h) (by intro q; cases q)
    | 17, h => exact absurd (Option.some.inj h) (by intro q; cases q)
    | 18, h => exact absurd (Option.some.inj h) (by intro q; cases q)
    | 19, h => exact absurd (Option.some.inj h) (by intro q; cases q)
    | 20, h => exact absurd (Option.some.inj h) (by intro q; cases q)
    | 21, h => exact absurd (Option.some.inj h) (by intro q; cases q)
    | 22, h => exact absurd (Option.some.inj h) (by intro q; cases q)
    | 23, h => exact absurd (Option.some.inj h) (by intro q; cases q)
    | 24, h => exact absurd (Option.some.inj h) (by intro q; cases q)
    | 25, h => exact absurd (Option.some.inj h) (by intro q; cases q)
    | 26, h => exact absurd (Option.some.inj h) (by intro q; cases q)
    | 27, h => exact absurd (Option.some.inj h) (by intro q; cases q)
    | 28, h => exact absurd (Option.some.inj h) (by intro q; cases q)
    | 29, h => exact absurd (Option.some.inj h) (by intro q; cases q)
    | 30, h => exact absurd (Option.some.inj h) (by intro q; cases q)
    | 31, h => exact absurd (Option.some.inj h) (by intro q; cases q)
    | 32, h => exact absurd (Option.some.inj h) (by intro q; cases q)
    | 33, h => exact absurd (Option.some.inj h) (by intro q; cases q)
    | 34, h => exact absurd (Option.some.inj h) (by intro q; cases q)
    | 35, h => exact absurd (Option.some.inj h) (by intro q; cases q)
    | 36, h => exact absurd (Option.some.inj h) (by intro q; cases q)
    | 37, h => exact absurd (Option.some.inj h) (by intro q; cases q)
    | 38, h => exact absurd (Option.some.inj h) (by intro q; cases q)
    | 39, h => exact absurd (Option.some.inj h) (by intro q; cases q)
    | 40, h => exact absurd (Option.some.inj h) (by intro q; cases q)
    | 41, h => exact absurd (Option.some.inj h) (by intro q; cases q)
    | 42, h => exact absurd (Option.some.inj h) (by intro q; cases q)
    | 43, h => exact absurd (Option.some.inj h) (by intro q; cases q)
    | 44, h => exact absurd (Option.some.inj h) (by intro q; cases q)
    | 45, h => exact absurd (Option.some.inj h) (by intro q; cases q)
    | 46, h => exact absurd (Option.some.inj h) (by intro q; cases q)
    | 47, h => exact absurd (Option.some.inj h) (by intro q; cases q)
    | 48, h => exact absurd (Option.some.inj h) (by intro q; cases q)
    | 49, h => exact absurd (Option.some.inj h) (by intro q; cases q)
    | 50, h => exact absurd (Option.some.inj h) (by intro q; cases q)
    | 51, h => exact absurd (Option.some.inj h) (by intro q; cases q)
    | 52, h => exact absurd (Option.some.inj h) (by intro q; cases q)
    | 53, h => exact absurd (Option.some.inj h) (by intro q; cases q)
    | 54, h => exact absurd (Option.some.inj h) (by intro q; cases q)
    | 55, h => exact absurd (Option.some.inj h) (by intro q; cases q)
    | 56, h => exact absurd (Option.some.inj h) (by intro q; cases q)
    | 57, h => exact absurd (Option.some.inj h) (by intro q; cases q)
    | 58, h => exact absurd (Option.some.inj h) (by intro q; cases q)
    | 59, h => exact absurd (Option.some.inj h) (by intro q; cases q)
    | 60, h => exact absurd (Option.some.inj h) (by intro q; cases q)
    | 61, h => exact absurd (Option.some.inj h) (by intro q; cases q)
    | 62, h => exact absurd (Option.some.inj h) (by intro q; cases q)
    | 63, h => exact absurd (Option.some.inj h) (by intro q; cases q)
    | 64, h => exact absurd (Option.some.inj h) (by intro q; cases q)
    | 65, h => exact absurd (Option.some.inj h) (by intro q; cases q)
    | j + 66, h => cases h
  · exact absurd h7.1 (by decide)
set_option maxHeartbeats 4000000 in
theorem WM_1 (ad : Nat → Nat) (Y : CY) (X : va_W) : HA ad (fun σ => wM ad Y σ ++ X) 1 Y.2.1 700 := by
  exact ⟨1, fun σ => rfl, fun σ i v => rfl⟩
set_option maxHeartbeats 4000000 in
theorem WM_2 (ad : Nat → Nat) (Y : CY) (X : va_W) : HA ad (fun σ => wM ad Y σ ++ X) 2 Y.2.1 18 := by
  exact ⟨2, fun σ => rfl, fun σ i v => rfl⟩
set_option maxHeartbeats 4000000 in
theorem WM_3 (ad : Nat → Nat) (Y : CY) (X : va_W) : HA ad (fun σ => wM ad Y σ ++ X) 3 Y.2.1 16 := by
  exact ⟨3, fun σ => rfl, fun σ i v => rfl⟩
set_option maxHeartbeats 4000000 in
theorem WM_4 (ad : Nat → Nat) (Y : CY) (X : va_W) : HA ad (fun σ => wM ad Y σ ++ X) 4 Y.2.1 24 := by
  exact ⟨4, fun σ => rfl, fun σ i v => rfl⟩
set_option maxHeartbeats 4000000 in
theorem WM_5 (ad : Nat → Nat) (Y : CY) (X : va_W) : HA ad (fun σ => wM ad Y σ ++ X) 5 Y.2.1 24 := by
  exact ⟨5, fun σ => rfl, fun σ i v => rfl⟩
set_option maxHeartbeats 4000000 in
theorem WM_6 (ad : Nat → Nat) (Y : CY) (X : va_W) : HA ad (fun σ => wM ad Y σ ++ X) 6 Y.2.1 24 := by
  exact ⟨6, fun σ => rfl, fun σ i v => rfl⟩
set_option maxHeartbeats 4000000 in
theorem WM_7 (ad : Nat → Nat) (Y : CY) (X : va_W) : HA ad (fun σ => wM ad Y σ ++ X) 7 Y.2.1 24 := by
  exact ⟨7, fun σ => rfl, fun σ i v => rfl⟩
set_option maxHeartbeats 4000000 in
theorem WM_8 (ad : Nat → Nat) (Y : CY) (X : va_W) : HA ad (fun σ => wM ad Y σ ++ X) 8 Y.2.1 24 := by
  exact ⟨8, fun σ => rfl, fun σ i v => rfl⟩
set_option maxHeartbeats 4000000 in
theorem WM_9 (ad : Nat → Nat) (Y : CY) (X : va_W) : HA ad (fun σ => wM ad Y σ ++ X) 9 Y.2.1 24 := by
  exact ⟨9, fun σ => rfl, fun σ i v => rfl⟩
set_option maxHeartbeats 4000000 in
theorem WM_10 (ad : Nat → Nat) (Y : CY) (X : va_W) : HA ad (fun σ => wM ad Y σ ++ X) 10 Y.2.1 40 := by
  exact ⟨10, fun σ => rfl, fun σ i v => rfl⟩
set_option maxHeartbeats 4000000 in
theorem WM_11 (ad : Nat → Nat) (Y : CY) (X : va_W) : HA ad (fun σ => wM ad Y σ ++ X) 11 Y.2.1 6 := by
  exact ⟨11, fun σ => rfl, fun σ i v => rfl⟩
set_option maxHeartbeats 4000000 in
theorem WM_12 (ad : Nat → Nat) (Y : CY) (X : va_W) : HA ad (fun σ => wM ad Y σ ++ X) 12 Y.2.1 6 := by
  exact ⟨12, fun σ => rfl, fun σ i v => rfl⟩
set_option maxHeartbeats 4000000 in
theorem WM_13 (ad : Nat → Nat) (Y : CY) (X : va_W) : HA ad (fun σ => wM ad Y σ ++ X) 13 Y.2.1 128 := by
  exact ⟨13, fun σ => rfl, fun σ i v => rfl⟩
set_option maxHeartbeats 4000000 in
theorem WM_14 (ad : Nat → Nat) (Y : CY) (X : va_W) : HA ad (fun σ => wM ad Y σ ++ X) 14 Y.2.1 128 := by
  exact ⟨14, fun σ => rfl, fun σ i v => rfl⟩
set_option maxHeartbeats 4000000 in
theorem WM_15 (ad : Nat → Nat) (Y : CY) (X : va_W) : HL ad (fun σ => wM ad Y σ ++ X) 15 Y.2.2.1 7 := by
  exact ⟨15, fun σ => rfl, fun σ i v => rfl⟩
set_option maxHeartbeats 4000000 in
theorem WM_16 (ad : Nat → Nat) (Y : CY) (X : va_W) : HL ad (fun σ => wM ad Y σ ++ X) 16 Y.2.2.1 64 := by
  exact ⟨16, fun σ => rfl, fun σ i v => rfl⟩
set_option maxHeartbeats 4000000 in
theorem WM_17 (ad : Nat → Nat) (Y : CY) (X : va_W) : HA ad (fun σ => wM ad Y σ ++ X) 17 Y.2.1 24 := by
  exact ⟨17, fun σ => rfl, fun σ i v => rfl⟩
set_option maxHeartbeats 4000000 in
theorem WM_18 (ad : Nat → Nat) (Y : CY) (X : va_W) : HA ad (fun σ => wM ad Y σ ++ X) 18 Y.2.1 24 := by
  exact ⟨18, fun σ => rfl, fun σ i v => rfl⟩
set_option maxHeartbeats 4000000 in
theorem WM_19 (ad : Nat → Nat) (Y : CY) (X : va_W) : HA ad (fun σ => wM ad Y σ ++ X) 19 Y.2.1 24 := by
  exact ⟨19, fun σ => rfl, fun σ i v => rfl⟩
set_option maxHeartbeats 4000000 in
theorem WM_20 (ad : Nat → Nat) (Y : CY) (X : va_W) : HA ad (fun σ => wM ad Y σ ++ X) 20 Y.2.1 24 := by
  exact ⟨20, fun σ => rfl, fun σ i v => rfl⟩
set_option maxHeartbeats 4000000 in
theorem WM_21 (ad : Nat → Nat) (Y : CY) (X : va_W) : HA ad (fun σ => wM ad Y σ ++ X) 21 Y.2.1 24 := by
  exact ⟨21, fun σ => rfl, fun σ i v => rfl⟩
set_option maxHeartbeats 4000000 in
theorem WM_22 (ad : Nat → Nat) (Y : CY) (X : va_W) : HA ad (fun σ => wM ad Y σ ++ X) 22 Y.2.1 24 := by
  exact ⟨22, fun σ => rfl, fun σ i v => rfl⟩
set_option maxHeartbeats 4000000 in
theorem WM_23 (ad : Nat → Nat) (Y : CY) (X : va_W) : HA ad (fun σ => wM ad Y σ ++ X) 23 Y.2.1 24 := by
  exact ⟨23, fun σ => rfl, fun σ i v => rfl⟩
set_option maxHeartbeats 4000000 in
theorem WM_24 (ad : Nat → Nat) (Y : CY) (X : va_W) : HA ad (fun σ => wM ad Y σ ++ X) 24 Y.2.1 24 := by
  exact ⟨24, fun σ => rfl, fun σ i v => rfl⟩
set_option maxHeartbeats 4000000 in
theorem WM_25 (ad : Nat → Nat) (Y : CY) (X : va_W) : HA ad (fun σ => wM ad Y σ ++ X) 25 Y.2.1 24 := by
  exact ⟨25, fun σ => rfl, fun σ i v => rfl⟩
set_option maxHeartbeats 4000000 in
theorem WM_26 (ad : Nat → Nat) (Y : CY) (X : va_W) : HA ad (fun σ => wM ad Y σ ++ X) 26 Y.2.1 192 := by
  exact ⟨26, fun σ => rfl, fun σ i v => rfl⟩
set_option maxHeartbeats 4000000 in
theorem WM_27 (ad : Nat → Nat) (Y : CY) (X : va_W) : HA ad (fun σ => wM ad Y σ ++ X) 27 Y.2.1 192 := by
  exact ⟨27, fun σ => rfl, fun σ i v => rfl⟩
set_option maxHeartbeats 4000000 in
theorem WM_28 (ad : Nat → Nat) (Y : CY) (X : va_W) : HA ad (fun σ => wM ad Y σ ++ X) 28 Y.2.1 192 := by
  exact ⟨28, fun σ => rfl, fun σ i v => rfl⟩
set_option maxHeartbeats 4000000 in
theorem WM_29 (ad : Nat → Nat) (Y : CY) (X : va_W) : HA ad (fun σ => wM ad Y σ ++ X) 29 Y.2.1 504 := by
  exact ⟨29, fun σ => rfl, fun σ i v => rfl⟩
set_option maxHeartbeats 4000000 in
theorem WM_30 (ad : Nat → Nat) (Y : CY) (X : va_W) : HA ad (fun σ => wM ad Y σ ++ X) 30 Y.2.1 504 := by
  exact ⟨30, fun σ => rfl, fun σ i v => rfl⟩
set_option maxHeartbeats 4000000 in
theorem WM_31 (ad : Nat → Nat) (Y : CY) (X : va_W) : HA ad (fun σ => wM ad Y σ ++ X) 31 Y.2.1 8 := by
  exact ⟨31, fun σ => rfl, fun σ i v => rfl⟩
set_option maxHeartbeats 4000000 in
theorem WM_32 (ad : Nat → Nat) (Y : CY) (X : va_W) : HA ad (fun σ => wM ad Y σ ++ X) 32 Y.2.1 8 := by
  exact ⟨32, fun σ => rfl, fun σ i v => rfl⟩
set_option maxHeartbeats 4000000 in
theorem WM_33 (ad : Nat → Nat) (Y : CY) (X : va_W) : HA ad (fun σ => wM ad Y σ ++ X) 33 Y.2.1 8 := by
  exact ⟨33, fun σ => rfl, fun σ i v => rfl⟩
set_option maxHeartbeats 4000000 in
theorem WM_34 (ad : Nat → Nat) (Y : CY) (X : va_W) : HA ad (fun σ => wM ad Y σ ++ X) 34 Y.2.1 24 := by
  exact ⟨34, fun σ => rfl, fun σ i v => rfl⟩
set_option maxHeartbeats 4000000 in
theorem WM_35 (ad : Nat → Nat) (Y : CY) (X : va_W) : HA ad (fun σ => wM ad Y σ ++ X) 35 Y.2.1 24 := by
  exact ⟨35, fun σ => rfl, fun σ i v => rfl⟩
set_option maxHeartbeats 4000000 in
theorem WM_36 (ad : Nat → Nat) (Y : CY) (X : va_W) : HA ad (fun σ => wM ad Y σ ++ X) 36 Y.2.2.2.1 24 := by
  exact ⟨36, fun σ => rfl, fun σ i v => rfl⟩
set_option maxHeartbeats 4000000 in
theorem WM_37 (ad : Nat → Nat) (Y : CY) (X : va_W) : HA ad (fun σ => wM ad Y σ ++ X) 37 Y.2.1 24 := by
  exact ⟨37, fun σ => rfl, fun σ i v => rfl⟩
set_option maxHeartbeats 4000000 in
theorem WM_38 (ad : Nat → Nat) (Y : CY) (X : va_W) : HA ad (fun σ => wM ad Y σ ++ X) 38 Y.2.2.2.1 24 := by
  exact ⟨38, fun σ => rfl, fun σ i v => rfl⟩
theorem layC (ad : Nat → Nat) (Y : CY) (X : va_W) : LayC ad (fun σ => wC ad Y σ ++ X) Y := ⟨WC_0 ad Y X, WC_1 ad Y X, WC_2 ad Y X, WC_3 ad Y X, WC_4 ad Y X, WC_5 ad Y X, WC_6 ad Y X, WC_7 ad Y X, WC_8 ad Y X, WC_62 ad Y X, WC_63 ad Y X, WC_64 ad Y X, WC_65 ad Y X, WC_66 ad Y X, WC_67 ad Y X, WC_68 ad Y X, WC_69 ad Y X, WC_71 ad Y X, WC_73 ad Y X, WC_74 ad Y X, WC_75 ad Y X, WC_76 ad Y X, WC_77 ad Y X, WC_78 ad Y X, WC_79 ad Y X, WC_80 ad Y X, WC_81 ad Y X, WC_82 ad Y X, WC_83 ad Y X, ⟨WC_10 ad Y X, WC_11 ad Y X, WC_12 ad Y X, WC_13 ad Y X, WC_14 ad Y X, WC_15 ad Y X, WC_16 ad Y X, ⟨WC_17 ad Y X, WC_18 ad Y X, WC_19 ad Y X, WC_20 ad Y X, WC_21 ad Y X, WC_22 ad Y X⟩⟩, ⟨WC_30 ad Y X, WC_31 ad Y X, WC_32 ad Y X, WC_33 ad Y X, WC_34 ad Y X, WC_35 ad Y X, WC_36 ad Y X, ⟨WC_37 ad Y X, WC_38 ad Y X, WC_39 ad Y X, WC_40 ad Y X, WC_41 ad Y X, WC_42 ad Y X⟩⟩, ⟨WC_50 ad Y X, WC_51 ad Y X, WC_52 ad Y X, WC_53 ad Y X⟩, ⟨WC_54 ad Y X, WC_55 ad Y X, WC_56 ad Y X, WC_57 ad Y X⟩, ⟨WC_58 ad Y X, WC_59 ad Y X, WC_60 ad Y X, WC_61 ad Y X⟩, WC_70 ad Y X, WC_72 ad Y X⟩
theorem layM0 (ad : Nat → Nat) (Y : CY) (X : va_W) : LayM ad (fun σ => wM ad Y σ ++ X) Y := ⟨WM_0 ad Y X, WM_1 ad Y X, WM_2 ad Y X, WM_3 ad Y X, WM_4 ad Y X, WM_5 ad Y X, WM_6 ad Y X, WM_7 ad Y X, WM_8 ad Y X, WM_9 ad Y X, WM_10 ad Y X, WM_11 ad Y X, WM_12 ad Y X, WM_13 ad Y X, WM_14 ad Y X, WM_15 ad Y X, WM_16 ad Y X, WM_17 ad Y X, WM_18 ad Y X, WM_19 ad Y X, WM_20 ad Y X, WM_21 ad Y X, WM_22 ad Y X, WM_23 ad Y X, WM_24 ad Y X, WM_25 ad Y X, WM_26 ad Y X, WM_27 ad Y X, WM_28 ad Y X, WM_29 ad Y X, WM_30 ad Y X, WM_31 ad Y X, WM_32 ad Y X, WM_33 ad Y X, WM_34 ad Y X, WM_35 ad Y X, WM_36 ad Y X, WM_37 ad Y X, WM_38 ad Y X⟩
theorem LayM_pre {ad : Nat → Nat} {w : MSt → va_W} {Y : CY} (pre : va_W) (h : LayM ad w Y) : LayM ad (fun σ => pre ++ w σ) Y := ⟨HO_pre pre (h.1), HA_pre pre (h.2.1), HA_pre pre (h.2.2.1), HA_pre pre (h.2.2.2.1), HA_pre pre (h.2.2.2.2.1), HA_pre pre (h.2.2.2.2.2.1), HA_pre pre (h.2.2.2.2.2.2.1), HA_pre pre (h.2.2.2.2.2.2.2.1), HA_pre pre (h.2.2.2.2.2.2.2.2.1), HA_pre pre (h.2.2.2.2.2.2.2.2.2.1), HA_pre pre (h.2.2.2.2.2.2.2.2.2.2.1), HA_pre pre (h.2.2.2.2.2.2.2.2.2.2.2.1), HA_pre pre (h.2.2.2.2.2.2.2.2.2.2.2.2.1), HA_pre pre (h.2.2.2.2.2.2.2.2.2.2.2.2.2.1), HA_pre pre (h.2.2.2.2.2.2.2.2.2.2.2.2.2.2.1), HL_pre pre (h.2.2.2.2.2.2.2.2.2.2.2.2.2.2.2.1), HL_pre pre (h.2.2.2.2.2.2.2.2.2.2.2.2.2.2.2.2.1), HA_pre pre (h.2.2.2.2.2.2.2.2.2.2.2.2.2.2.2.2.2.1), HA_pre pre (h.2.2.2.2.2.2.2.2.2.2.2.2.2.2.2.2.2.2.1), HA_pre pre (h.2.2.2.2.2.2.2.2.2.2.2.2.2.2.2.2.2.2.2.1), HA_pre pre (h.2.2.2.2.2.2.2.2.2.2.2.2.2.2.2.2.2.2.2.2.1), HA_pre pre (h.2.2.2.2.2.2.2.2.2.2.2.2.2.2.2.2.2.2.2.2.2.1), HA_pre pre (h.2.2.2.2.2.2.2.2.2.2.2.2.2.2.2.2.2.2.2.2.2.2.1), HA_pre pre (h.2.2.2.2.2.2.2.2.2.2.2.2.2.2.2.2.2.2.2.2.2.2.2.1), HA_pre pre (h.2.2.2.2.2.2.2.2.2.2.2.2.2.2.2.2.2.2.2.2.2.2.2.2.1), HA_pre pre (h.2.2.2.2.2.2.2.2.2.2.2.2.2.2.2.2.2.2.2.2.2.2.2.2.2.1), HA_pre pre (h.2.2.2.2.2.2.2.2.2.2.2.2.2.2.2.2.2.2.2.2.2.2.2.2.2.2.1), HA_pre pre (h.2.2.2.2.2.2.2.2.2.2.2.2.2.2.2.2.2.2.2.2.2.2.2.2.2.2.2.1), HA_pre pre (h.2.2.2.2.2.2.2.2.2.2.2.2.2.2.2.2.2.2.2.2.2.2.2.2.2.2.2.2.1), HA_pre pre (h.2.2.2.2.2.2.2.2.2.2.2.2.2.2.2.2.2.2.2.2.2.2.2.2.2.2.2.2.2.1), HA_pre pre (h.2.2.2.2.2.2.2.2.2.2.2.2.2.2.2.2.2.2.2.2.2.2.2.2.2.2.2.2.2.2.1), HA_pre pre (h.2.2.2.2.2.2.2.2.2.2.2.2.2.2.2.2.2.2.2.2.2.2.2.2.2.2.2.2.2.2.2.1), HA_pre pre (h.2.2.2.2.2.2.2.2.2.2.2.2.2.2.2.2.2.2.2.2.2.2.2.2.2.2.2.2.2.2.2.2.1), HA_pre pre (h.2.2.2.2.2.2.2.2.2.2.2.2.2.2.2.2.2.2.2.2.2.2.2.2.2.2.2.2.2.2.2.2.2.1), HA_pre pre (h.2.2.2.2.2.2.2.2.2.2.2.2.2.2.2.2.2.2.2.2.2.2.2.2.2.2.2.2.2.2.2.2.2.2.1), HA_pre pre (h.2.2.2.2.2.2.2.2.2.2.2.2.2.2.2.2.2.2.2.2.2.2.2.2.2.2.2.2.2.2.2.2.2.2.2.1), HA_pre pre (h.2.2.2.2.2.2.2.2.2.2.2.2.2.2.2.2.2.2.2.2.2.2.2.2.2.2.2.2.2.2.2.2.2.2.2.2.1), HA_pre pre (h.2.2.2.2.2.2.2.2.2.2.2.2.2.2.2.2.2.2.2.2.2.2.2.2.2.2.2.2.2.2.2.2.2.2.2.2.2.1), HA_pre pre (h.2.2.2.2.2.2.2.2.2.2.2.2.2.2.2.2.2.2.2.2.2.2.2.2.2.2.2.2.2.2.2.2.2.2.2.2.2.2)⟩
theorem layM (ad : Nat → Nat) (Y : CY) (pre X : va_W) : LayM ad (fun σ => pre ++ (wM ad Y σ ++ X)) Y := LayM_pre pre (layM0 ad Y X)
