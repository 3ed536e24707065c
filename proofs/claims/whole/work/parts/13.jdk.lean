/-! String.length and String.charAt of the one literal, over any world -/
section KJDK
variable (l : Launch) (G : va_G) (Y : CY) (w : MSt → va_W) (σ : MSt)
def rmJ_a : Room := { frames := 0, cells := 0, slots := 0, locals := 0 }
def rmJ_b : Room := { frames := 1, cells := 0, slots := 0, locals := 22 }
def rmJ_c : Room := { frames := 2, cells := 0, slots := 0, locals := 43 }
def rmJ_d : Room := { frames := 3, cells := 0, slots := 0, locals := 64 }
set_option maxRecDepth 20000 in
theorem cJ_coder : k_Mi l yJ0_coder_7d493 wsJ0_coder_7d493 rmJ_a G Y w [.ref Y.2.2.2.2.1] σ 0 σ := by
  refine k_ofi (own := RJ0) (cc := cJ0_coder_7d493) (maxL := 1) (some .byte) (by decide) rfl rfl (Nat.le_of_ble_eq_true rfl) ?_
  intro p e s m below meth c A C ls hl hw
  have hx := C.1
  have hb := C.2.1
  have hown := C.2.2.2.2.1
  have hts := C.2.2.2.2.2.1
  have hE := C.2.2.2.2.2.2.2.2.2
  have hl : lv_has ls 1 [(0, .ref Y.2.2.2.2.1)] := hl
  refine va_gets hx hb hE.2.2.2.1 hw.2.2 hown (hts (.fieldLink RJ0 38 "java/lang/String" "COMPACT_STRINGS" "Z") (by decide +kernel)) (fun _ h => h) dJ0_coder_7d493_0 ?_
  refine lv_if_eq (tgt := 13) hx hb dJ0_coder_7d493_3 (by decide) (fun h => absurd h (by decide)) (fun h => ?_)
  refine lv_aload_n hx hb dJ0_coder_7d493_6 rfl (lv_at hl 0 rfl) ?_
  refine vk_getf hx hb (hE.1.1 0 (by decide)).2.1 hw.2.2 hown (hts (.fieldLink RJ0 15 "java/lang/String" "coder" "B") (by decide +kernel)) (fun _ h => h) dJ0_coder_7d493_7 ?_
  refine lv_goto (tgt := 14) hx hb dJ0_coder_7d493_10 (by decide) ?_
  exact k_zret C hw rfl rfl dJ0_coder_7d493_14
set_option maxRecDepth 20000 in
theorem cJ_isLatin1 : k_Mi l yJ0_isLatin1_aae02 wsJ0_isLatin1_aae02 rmJ_a G Y w [.ref Y.2.2.2.2.1] σ 1 σ := by
  refine k_ofi (own := RJ0) (cc := cJ0_isLatin1_aae02) (maxL := 1) (some .boolean) (by decide) rfl rfl (Nat.le_of_ble_eq_true rfl) ?_
  intro p e s m below meth c A C ls hl hw
  have hx := C.1
  have hb := C.2.1
  have hown := C.2.2.2.2.1
  have hts := C.2.2.2.2.2.1
  have hE := C.2.2.2.2.2.2.2.2.2
  have hl : lv_has ls 1 [(0, .ref Y.2.2.2.2.1)] := hl
  refine va_gets hx hb hE.2.2.2.1 hw.2.2 hown (hts (.fieldLink RJ0 38 "java/lang/String" "COMPACT_STRINGS" "Z") (by decide +kernel)) (fun _ h => h) dJ0_isLatin1_aae02_0 ?_
  refine lv_if_eq (tgt := 17) hx hb dJ0_isLatin1_aae02_3 (by decide) (fun h => absurd h (by decide)) (fun h => ?_)
  refine lv_aload_n hx hb dJ0_isLatin1_aae02_6 rfl (lv_at hl 0 rfl) ?_
  refine vk_getf hx hb (hE.1.1 0 (by decide)).2.1 hw.2.2 hown (hts (.fieldLink RJ0 15 "java/lang/String" "coder" "B") (by decide +kernel)) (fun _ h => h) dJ0_isLatin1_aae02_7 ?_
  refine lv_if_ne (tgt := 17) hx hb dJ0_isLatin1_aae02_10 (by decide) (fun h => absurd rfl h) (fun h => ?_)
  refine lv_iconst (v := 1) hx hb dJ0_isLatin1_aae02_13 (by decide) ?_
  refine lv_goto (tgt := 18) hx hb dJ0_isLatin1_aae02_14 (by decide) ?_
  exact k_zret C hw rfl rfl dJ0_isLatin1_aae02_18
set_option maxRecDepth 20000 in
theorem cJ_length : k_Mi l yJ0_length_8abf5 wsJ0_length_8abf5 rmJ_b G Y w [.ref Y.2.2.2.2.1] σ 106 σ := by
  refine k_ofi (own := RJ0) (cc := cJ0_length_8abf5) (maxL := 1) (some .int) (by decide) rfl rfl (Nat.le_of_ble_eq_true rfl) ?_
  intro p e s m below meth c A C ls hl hw
  have hx := C.1
  have hb := C.2.1
  have hown := C.2.2.2.2.1
  have hts := C.2.2.2.2.2.1
  have hE := C.2.2.2.2.2.2.2.2.2
  have hl : lv_has ls 1 [(0, .ref Y.2.2.2.2.1)] := hl
  refine lv_aload_n hx hb dJ0_length_8abf5_0 rfl (lv_at hl 0 rfl) ?_
  refine vk_getf hx hb (hE.1.1 0 (by decide)).2.2.1 hw.2.2 hown (hts (.fieldLink RJ0 9 "java/lang/String" "value" "[B") (by decide +kernel)) (fun _ h => h) dJ0_length_8abf5_1 ?_
  refine va_tlen hx hb (hE.1.1 0 (by decide)).2.2.2 hw.2.2 (v := 106) rfl dJ0_length_8abf5_4 ?_
  refine lv_aload_n hx hb dJ0_length_8abf5_5 rfl (lv_at hl 0 rfl) ?_
  refine k_callVi C hw (cJ_coder l G Y w σ) (cwV 0 hts gJ0_length_8abf5_J0_coder_7d493 rfl rfl rfl (by decide +kernel) ⟨Nat.le_of_ble_eq_true rfl, Nat.le_of_ble_eq_true rfl⟩) (vk_recv (i := 0) hE.1 (by decide) hw.2.2) rfl hl.1 rfl (Nat.le_of_ble_eq_true rfl) dJ0_length_8abf5_6 (fun H locs hw => ?_)
  refine lv_ishr hx hb dJ0_length_8abf5_9 ?_
  exact k_iret C hw (by rw [sb_shr0]) dJ0_length_8abf5_10
set_option maxRecDepth 20000 in
theorem cJ_check3 (i n : Int32) (hi : ¬ i < 0) (hn : i < n) (r : Value) (hr : r = .null ∨ ∃ t, r = .ref t) : k_Mi l yJ3_checkIndex_8e157 wsJ3_checkIndex_8e157 rmJ_a G Y w [.int i, .int n, r] σ i σ := by
  refine k_ofi (own := RJ3) (cc := cJ3_checkIndex_8e157) (maxL := 3) (some .int) (by decide) rfl rfl ?_ ?_
  · rcases hr with rfl | ⟨t, rfl⟩ <;> exact Nat.le_of_ble_eq_true rfl
  intro p e s m below meth c A C ls hl hw
  have hx := C.1
  have hb := C.2.1
  have hl : lv_has ls 3 [(0, .int i), (1, .int n)] := lv_sub hl [0, 1] rfl
  refine lv_iload_n hx hb dJ3_checkIndex_8e157_0 rfl (lv_at hl 0 rfl) ?_
  refine lv_if_lt (tgt := 9) hx hb dJ3_checkIndex_8e157_1 (by decide) (fun h => absurd h hi) (fun h => ?_)
  refine lv_iload_n hx hb dJ3_checkIndex_8e157_4 rfl (lv_at hl 0 rfl) ?_
  refine lv_iload_n hx hb dJ3_checkIndex_8e157_5 rfl (lv_at hl 1 rfl) ?_
  refine lv_icmp_lt (tgt := 16) hx hb dJ3_checkIndex_8e157_6 (by decide) (fun h => ?_) (fun h => absurd hn h)
  refine lv_iload_n hx hb dJ3_checkIndex_8e157_16 rfl (lv_at hl 0 rfl) ?_
  exact k_iret C hw rfl dJ3_checkIndex_8e157_17
set_option maxRecDepth 20000 in
theorem cJ_check0 (i n : Int32) (hi : ¬ i < 0) (hn : i < n) : k_Mv l yJ0_checkIndex_df160 wsJ0_checkIndex_df160 rmJ_b G Y w [.int i, .int n] σ σ := by
  refine k_ofv (own := RJ0) (cc := cJ0_checkIndex_df160) (maxL := 2) none (by decide) rfl rfl (Nat.le_of_ble_eq_true rfl) ?_
  intro p e s m below meth c A C ls hl hw
  have hx := C.1
  have hb := C.2.1
  have hown := C.2.2.2.2.1
  have hts := C.2.2.2.2.2.1
  have hE := C.2.2.2.2.2.2.2.2.2
  have hl : lv_has ls 2 [(0, .int i), (1, .int n)] := hl
  refine lv_iload_n hx hb dJ0_checkIndex_df160_0 rfl (lv_at hl 0 rfl) ?_
  refine lv_iload_n hx hb dJ0_checkIndex_df160_1 rfl (lv_at hl 1 rfl) ?_
  have go : ∀ r : Value, (r = .null ∨ ∃ t, r = .ref t) → r.category = 1 → W p l e rmJ_b s m [Value.int i, Value.int n].toArray below meth c s.heap [] 0 0 (MQ below (k_Qv G w A σ) [Value.int i, Value.int n].toArray s 0 0 A) (F0 m 5 ls [r, .int n, .int i]) := by
    intro r hr hcat
    refine k_callSi C hw (cJ_check3 l G Y w σ i n hi hn r hr) (va_cwS 3 hts gJ0_checkIndex_df160_J3_checkIndex_8e157 rfl rfl rfl (by decide +kernel) ⟨Nat.le_of_ble_eq_true rfl, Nat.le_of_ble_eq_true rfl⟩) rfl hl.1 rfl (Nat.le_of_ble_eq_true rfl) dJ0_checkIndex_df160_5 (fun H locs hw => ?_)
    refine lv_pop hx hb dJ0_checkIndex_df160_8 rfl ?_
    exact k_vret C hw rfl dJ0_checkIndex_df160_9
  rcases hE.2.2.2.2 with hZ | ⟨t, hZ⟩
  · exact va_gets hx hb hZ hw.2.2 hown (hts (.fieldLink RJ0 1053 "jdk/internal/util/Preconditions" "SIOOBE_FORMATTER" "Ljava/util/function/BiFunction;") (by decide +kernel)) (fun _ h => h) dJ0_checkIndex_df160_2 (go .null (Or.inl rfl) rfl)
  · exact va_gets hx hb hZ hw.2.2 hown (hts (.fieldLink RJ0 1053 "jdk/internal/util/Preconditions" "SIOOBE_FORMATTER" "Ljava/util/function/BiFunction;") (by decide +kernel)) (fun _ h => h) dJ0_checkIndex_df160_2 (go (.ref t) (Or.inr ⟨t, rfl⟩) rfl)
def k_chr (i : Int32) : Int32 := (k_byt.getD i.toNatClampNeg 0 &&& 255)
set_option maxRecDepth 20000 in
theorem cJ_charAt1 (i : Int32) (hi : k_inb i 106 = true) : k_Mi l yJ1_charAt_3b067 wsJ1_charAt_3b067 rmJ_c G Y w [.ref Y.2.2.2.2.2, .int i] σ (k_chr i) σ := by
  have hi0 : ¬ i < 0 := fun q => (k_inE hi) (Or.inl q)
  have hi1 : i < 106 := by
    have h := hi
    unfold k_inb at h
    rw [Bool.and_eq_true, decide_eq_true_eq, decide_eq_true_eq] at h
    rw [Int32.lt_iff_toInt_lt]
    exact h.2
  refine k_ofi (own := RJ1) (cc := cJ1_charAt_3b067) (maxL := 2) (some .char) (by decide) rfl rfl (Nat.le_of_ble_eq_true rfl) ?_
  intro p e s m below meth c A C ls hl hw
  have hx := C.1
  have hb := C.2.1
  have hown := C.2.2.2.2.1
  have hts := C.2.2.2.2.2.1
  have hE := C.2.2.2.2.2.2.2.2.2
  have hl : lv_has ls 2 [(0, .ref Y.2.2.2.2.2), (1, .int i)] := hl
  refine lv_iload_n hx hb dJ1_charAt_3b067_0 rfl (lv_at hl 1 rfl) ?_
  refine lv_aload_n hx hb dJ1_charAt_3b067_1 rfl (lv_at hl 0 rfl) ?_
  refine va_tlen hx hb (hE.1.1 0 (by decide)).2.2.2 hw.2.2 (v := 106) rfl dJ1_charAt_3b067_2 ?_
  refine k_callSv C hw (cJ_check0 l G Y w σ i 106 hi0 hi1) (va_cwS 2 hts gJ1_charAt_3b067_J0_checkIndex_df160 rfl rfl rfl (by decide +kernel) ⟨Nat.le_of_ble_eq_true rfl, Nat.le_of_ble_eq_true rfl⟩) rfl hl.1 rfl (Nat.le_of_ble_eq_true rfl) dJ1_charAt_3b067_3 (fun H locs hw => ?_)
  refine lv_aload_n hx hb dJ1_charAt_3b067_6 rfl (lv_at hl 0 rfl) ?_
  refine lv_iload_n hx hb dJ1_charAt_3b067_7 rfl (lv_at hl 1 rfl) ?_
  refine va_tb hx hb (hE.1.1 0 (by decide)).2.2.2 hw.2.2 (k_inE hi) rfl dJ1_charAt_3b067_8 ?_
  refine lv_sipush (v := 255) hx hb dJ1_charAt_3b067_9 (by decide) ?_
  refine lv_iand hx hb dJ1_charAt_3b067_12 ?_
  refine lv_i2c (v := k_chr i) hx hb dJ1_charAt_3b067_13 (sc_c2 _) ?_
  exact k_zret C hw (sc_nar _) rfl dJ1_charAt_3b067_14
set_option maxRecDepth 20000 in
theorem cJ_charAt (i : Int32) (hi : k_inb i 106 = true) : k_Mi l yJ0_charAt_5068e wsJ0_charAt_5068e rmJ_d G Y w [.ref Y.2.2.2.2.1, .int i] σ (k_chr i) σ := by
  refine k_ofi (own := RJ0) (cc := cJ0_charAt_5068e) (maxL := 2) (some .char) (by decide) rfl rfl (Nat.le_of_ble_eq_true rfl) ?_
  intro p e s m below meth c A C ls hl hw
  have hx := C.1
  have hb := C.2.1
  have hown := C.2.2.2.2.1
  have hts := C.2.2.2.2.2.1
  have hE := C.2.2.2.2.2.2.2.2.2
  have hl : lv_has ls 2 [(0, .ref Y.2.2.2.2.1), (1, .int i)] := hl
  refine lv_aload_n hx hb dJ0_charAt_5068e_0 rfl (lv_at hl 0 rfl) ?_
  refine k_callVi C hw (cJ_isLatin1 l G Y w σ) (cwV 0 hts gJ0_charAt_5068e_J0_isLatin1_aae02 rfl rfl rfl (by decide +kernel) ⟨Nat.le_of_ble_eq_true rfl, Nat.le_of_ble_eq_true rfl⟩) (vk_recv (i := 0) hE.1 (by decide) hw.2.2) rfl hl.1 rfl (Nat.le_of_ble_eq_true rfl) dJ0_charAt_5068e_1 (fun H locs hw => ?_)
  refine lv_if_eq (tgt := 16) hx hb dJ0_charAt_5068e_4 (by decide) (fun h => absurd h (by decide)) (fun h => ?_)
  refine lv_aload_n hx hb dJ0_charAt_5068e_7 rfl (lv_at hl 0 rfl) ?_
  refine vk_getf hx hb (hE.1.1 0 (by decide)).2.2.1 hw.2.2 hown (hts (.fieldLink RJ0 9 "java/lang/String" "value" "[B") (by decide +kernel)) (fun _ h => h) dJ0_charAt_5068e_8 ?_
  refine lv_iload_n hx hb dJ0_charAt_5068e_11 rfl (lv_at hl 1 rfl) ?_
  refine k_callSi C hw (cJ_charAt1 l G Y w σ i hi) (va_cwS 2 hts gJ0_charAt_5068e_J1_charAt_3b067 rfl rfl rfl (by decide +kernel) ⟨Nat.le_of_ble_eq_true rfl, Nat.le_of_ble_eq_true rfl⟩) rfl hl.1 rfl (Nat.le_of_ble_eq_true rfl) dJ0_charAt_5068e_12 (fun H locs hw => ?_)
  exact k_zret C hw (sc_nar _) rfl dJ0_charAt_5068e_15
end KJDK
