def f_X7_rankOf_b153   (σ : MSt) : Option (Int32 × MSt) :=
  some ((0 : Int32), σ)
def f_X7_rankOf_b150   (σ : MSt) : Option (Int32 × MSt) :=
  some ((6 : Int32), σ)
def f_X7_rankOf_b148   (σ : MSt) : Option (Int32 × MSt) :=
  some ((5 : Int32), σ)
def f_X7_rankOf_b146   (σ : MSt) : Option (Int32 × MSt) :=
  some ((4 : Int32), σ)
def f_X7_rankOf  (p1 : Int32) (σ : MSt) : Option (Int32 × MSt) :=
  if p1 = (22 : Int32) then
  (some ((1 : Int32), σ))
  else if p1 = (23 : Int32) then
  (some ((2 : Int32), σ))
  else if p1 = (24 : Int32) then
  (some ((3 : Int32), σ))
  else if p1 = (25 : Int32) then
  (f_X7_rankOf_b153 σ)
  else if p1 = (26 : Int32) then
  (f_X7_rankOf_b153 σ)
  else if p1 = (27 : Int32) then
  (f_X7_rankOf_b153 σ)
  else if p1 = (28 : Int32) then
  (f_X7_rankOf_b153 σ)
  else if p1 = (29 : Int32) then
  (f_X7_rankOf_b153 σ)
  else if p1 = (30 : Int32) then
  (f_X7_rankOf_b153 σ)
  else if p1 = (31 : Int32) then
  (f_X7_rankOf_b153 σ)
  else if p1 = (32 : Int32) then
  (f_X7_rankOf_b153 σ)
  else if p1 = (33 : Int32) then
  (f_X7_rankOf_b153 σ)
  else if p1 = (34 : Int32) then
  (f_X7_rankOf_b153 σ)
  else if p1 = (35 : Int32) then
  (f_X7_rankOf_b153 σ)
  else if p1 = (36 : Int32) then
  (f_X7_rankOf_b153 σ)
  else if p1 = (37 : Int32) then
  (f_X7_rankOf_b153 σ)
  else if p1 = (38 : Int32) then
  (f_X7_rankOf_b153 σ)
  else if p1 = (39 : Int32) then
  (f_X7_rankOf_b153 σ)
  else if p1 = (40 : Int32) then
  (f_X7_rankOf_b153 σ)
  else if p1 = (41 : Int32) then
  (f_X7_rankOf_b153 σ)
  else if p1 = (42 : Int32) then
  (f_X7_rankOf_b153 σ)
  else if p1 = (43 : Int32) then
  (f_X7_rankOf_b148 σ)
  else if p1 = (44 : Int32) then
  (f_X7_rankOf_b148 σ)
  else if p1 = (45 : Int32) then
  (f_X7_rankOf_b150 σ)
  else if p1 = (46 : Int32) then
  (f_X7_rankOf_b150 σ)
  else if p1 = (47 : Int32) then
  (f_X7_rankOf_b146 σ)
  else if p1 = (48 : Int32) then
  (f_X7_rankOf_b146 σ)
  else if p1 = (49 : Int32) then
  (f_X7_rankOf_b146 σ)
  else if p1 = (50 : Int32) then
  (f_X7_rankOf_b146 σ)
  else if p1 = (51 : Int32) then
  (f_X7_rankOf_b146 σ)
  else if p1 = (52 : Int32) then
  (f_X7_rankOf_b146 σ)
  else 
  (f_X7_rankOf_b153 σ)
def rmX7_rankOf : Room := { frames := 0, cells := 0, slots := 0, locals := 0 }
set_option maxHeartbeats 4000000 in
set_option maxRecDepth 100000 in
theorem c_X7_rankOf (l : Launch) (G : va_G) (Y : CY) (w : MSt → va_W) (ad : Nat → Nat)  (LC : LayC ad w Y) (p1 : Int32) (σ : MSt) (r : Int32) (σ' : MSt) (hf : f_X7_rankOf p1 σ = some (r, σ')) : k_Mi l yX7_rankOf wsX7_rankOf rmX7_rankOf G Y w [.int p1] σ r σ' := by
  refine k_ofi (own := RX7) (cc := cX7_rankOf) (maxL := 1) (some .int) (by decide) rfl rfl (Nat.le_of_ble_eq_true rfl) ?_
  intro p e s m below meth c A C ls hl hw
  have hx := C.1
  have hb := C.2.1
  have hown := C.2.2.2.2.1
  have hts := C.2.2.2.2.2.1
  have hks := C.2.2.2.2.2.2.1
  have hl : lv_has ls 1 [(0, .int p1)] := hl
  have b153 : ∀ (σ : MSt) (H : Heap) (locs : List Loc) (ls : Array Slot), lv_has ls 1 [] → k_W G w A s.heap σ H locs → f_X7_rankOf_b153 σ = some (r, σ') → W p l e rmX7_rankOf s m [.int p1].toArray below meth c H locs 0 0 (MQ below (k_Qi G w A r σ') [.int p1].toArray s 0 0 A) (F0 m 153 ls []) := by
    intro σ H locs ls hl hw hf
    unfold f_X7_rankOf_b153 at hf
    refine lv_iconst (v := (0 : Int32)) hx hb dX7_rankOf_153 (by decide) ?_
    exact k_iret C hw hf dX7_rankOf_154
  have b150 : ∀ (σ : MSt) (H : Heap) (locs : List Loc) (ls : Array Slot), lv_has ls 1 [] → k_W G w A s.heap σ H locs → f_X7_rankOf_b150 σ = some (r, σ') → W p l e rmX7_rankOf s m [.int p1].toArray below meth c H locs 0 0 (MQ below (k_Qi G w A r σ') [.int p1].toArray s 0 0 A) (F0 m 150 ls []) := by
    intro σ H locs ls hl hw hf
    unfold f_X7_rankOf_b150 at hf
    refine lv_bipush (v := (6 : Int32)) hx hb dX7_rankOf_150 (by decide) ?_
    exact k_iret C hw hf dX7_rankOf_152
  have b148 : ∀ (σ : MSt) (H : Heap) (locs : List Loc) (ls : Array Slot), lv_has ls 1 [] → k_W G w A s.heap σ H locs → f_X7_rankOf_b148 σ = some (r, σ') → W p l e rmX7_rankOf s m [.int p1].toArray below meth c H locs 0 0 (MQ below (k_Qi G w A r σ') [.int p1].toArray s 0 0 A) (F0 m 148 ls []) := by
    intro σ H locs ls hl hw hf
    unfold f_X7_rankOf_b148 at hf
    refine lv_iconst (v := (5 : Int32)) hx hb dX7_rankOf_148 (by decide) ?_
    exact k_iret C hw hf dX7_rankOf_149
  have b146 : ∀ (σ : MSt) (H : Heap) (locs : List Loc) (ls : Array Slot), lv_has ls 1 [] → k_W G w A s.heap σ H locs → f_X7_rankOf_b146 σ = some (r, σ') → W p l e rmX7_rankOf s m [.int p1].toArray below meth c H locs 0 0 (MQ below (k_Qi G w A r σ') [.int p1].toArray s 0 0 A) (F0 m 146 ls []) := by
    intro σ H locs ls hl hw hf
    unfold f_X7_rankOf_b146 at hf
    refine lv_iconst (v := (4 : Int32)) hx hb dX7_rankOf_146 (by decide) ?_
    exact k_iret C hw hf dX7_rankOf_147
  unfold f_X7_rankOf at hf
  refine lv_iload_n hx hb dX7_rankOf_0 rfl (lv_at hl 0 rfl) ?_
  by_cases h22 : p1 = (22 : Int32)
  · have hf := k_ifT h22 hf
    refine lv_tableIn (tgt := 140) hx hb dX7_rankOf_1 (by rw [h22]; decide) (by rw [h22]; decide) (by rw [h22]; rfl) (by decide) ?_
    refine lv_iconst (v := (1 : Int32)) hx hb dX7_rankOf_140 (by decide) ?_
    exact k_iret C hw hf dX7_rankOf_141
  have hf := k_ifF h22 hf
  by_cases h23 : p1 = (23 : Int32)
  · have hf := k_ifT h23 hf
    refine lv_tableIn (tgt := 142) hx hb dX7_rankOf_1 (by rw [h23]; decide) (by rw [h23]; decide) (by rw [h23]; rfl) (by decide) ?_
    refine lv_iconst (v := (2 : Int32)) hx hb dX7_rankOf_142 (by decide) ?_
    exact k_iret C hw hf dX7_rankOf_143
  have hf := k_ifF h23 hf
  by_cases h24 : p1 = (24 : Int32)
  · have hf := k_ifT h24 hf
    refine lv_tableIn (tgt := 144) hx hb dX7_rankOf_1 (by rw [h24]; decide) (by rw [h24]; decide) (by rw [h24]; rfl) (by decide) ?_
    refine lv_iconst (v := (3 : Int32)) hx hb dX7_rankOf_144 (by decide) ?_
    exact k_iret C hw hf dX7_rankOf_145
  have hf := k_ifF h24 hf
  by_cases h25 : p1 = (25 : Int32)
  · have hf := k_ifT h25 hf
    refine lv_tableIn (tgt := 153) hx hb dX7_rankOf_1 (by rw [h25]; decide) (by rw [h25]; decide) (by rw [h25]; rfl) (by decide) ?_
    exact b153 σ _ _ _ (lv_sub hl [] rfl) hw hf
  have hf := k_ifF h25 hf
  by_cases h26 : p1 = (26 : Int32)
  · have hf := k_ifT h26 hf
    refine lv_tableIn (tgt := 153) hx hb dX7_rankOf_1 (by rw [h26]; decide) (by rw [h26]; decide) (by rw [h26]; rfl) (by decide) ?_
    exact b153 σ _ _ _ (lv_sub hl [] rfl) hw hf
  have hf := k_ifF h26 hf
  by_cases h27 : p1 = (27 : Int32)
  · have hf := k_ifT h27 hf
    refine lv_tableIn (tgt := 153) hx hb dX7_rankOf_1 (by rw [h27]; decide) (by rw [h27]; decide) (by rw [h27]; rfl) (by decide) ?_
    exact b153 σ _ _ _ (lv_sub hl [] rfl) hw hf
  have hf := k_ifF h27 hf
  by_cases h28 : p1 = (28 : Int32)
  · have hf := k_ifT h28 hf
    refine lv_tableIn (tgt := 153) hx hb dX7_rankOf_1 (by rw [h28]; decide) (by rw [h28]; decide) (by rw [h28]; rfl) (by decide) ?_
    exact b153 σ _ _ _ (lv_sub hl [] rfl) hw hf
  have hf := k_ifF h28 hf
  by_cases h29 : p1 = (29 : Int32)
  · have hf := k_ifT h29 hf
    refine lv_tableIn (tgt := 153) hx hb dX7_rankOf_1 (by rw [h29]; decide) (by rw [h29]; decide) (by rw [h29]; rfl) (by decide) ?_
    exact b153 σ _ _ _ (lv_sub hl [] rfl) hw hf
  have hf := k_ifF h29 hf
  by_cases h30 : p1 = (30 : Int32)
  · have hf := k_ifT h30 hf
    refine lv_tableIn (tgt := 153) hx hb dX7_rankOf_1 (by rw [h30]; decide) (by rw [h30]; decide) (by rw [h30]; rfl) (by decide) ?_
    exact b153 σ _ _ _ (lv_sub hl [] rfl) hw hf
  have hf := k_ifF h30 hf
  by_cases h31 : p1 = (31 : Int32)
  · have hf := k_ifT h31 hf
    refine lv_tableIn (tgt := 153) hx hb dX7_rankOf_1 (by rw [h31]; decide) (by rw [h31]; decide) (by rw [h31]; rfl) (by decide) ?_
    exact b153 σ _ _ _ (lv_sub hl [] rfl) hw hf
  have hf := k_ifF h31 hf
  by_cases h32 : p1 = (32 : Int32)
  · have hf := k_ifT h32 hf
    refine lv_tableIn (tgt := 153) hx hb dX7_rankOf_1 (by rw [h32]; decide) (by rw [h32]; decide) (by rw [h32]; rfl) (by decide) ?_
    exact b153 σ _ _ _ (lv_sub hl [] rfl) hw hf
  have hf := k_ifF h32 hf
  by_cases h33 : p1 = (33 : Int32)
  · have hf := k_ifT h33 hf
    refine lv_tableIn (tgt := 153) hx hb dX7_rankOf_1 (by rw [h33]; decide) (by rw [h33]; decide) (by rw [h33]; rfl) (by decide) ?_
    exact b153 σ _ _ _ (lv_sub hl [] rfl) hw hf
  have hf := k_ifF h33 hf
  by_cases h34 : p1 = (34 : Int32)
  · have hf := k_ifT h34 hf
    refine lv_tableIn (tgt := 153) hx hb dX7_rankOf_1 (by rw [h34]; decide) (by rw [h34]; decide) (by rw [h34]; rfl) (by decide) ?_
    exact b153 σ _ _ _ (lv_sub hl [] rfl) hw hf
  have hf := k_ifF h34 hf
  by_cases h35 : p1 = (35 : Int32)
  · have hf := k_ifT h35 hf
    refine lv_tableIn (tgt := 153) hx hb dX7_rankOf_1 (by rw [h35]; decide) (by rw [h35]; decide) (by rw [h35]; rfl) (by decide) ?_
    exact b153 σ _ _ _ (lv_sub hl [] rfl) hw hf
  have hf := k_ifF h35 hf
  by_cases h36 : p1 = (36 : Int32)
  · have hf := k_ifT h36 hf
    refine lv_tableIn (tgt := 153) hx hb dX7_rankOf_1 (by rw [h36]; decide) (by rw [h36]; decide) (by rw [h36]; rfl) (by decide) ?_
    exact b153 σ _ _ _ (lv_sub hl [] rfl) hw hf
  have hf := k_ifF h36 hf
  by_cases h37 : p1 = (37 : Int32)
  · have hf := k_ifT h37 hf
    refine lv_tableIn (tgt := 153) hx hb dX7_rankOf_1 (by rw [h37]; decide) (by rw [h37]; decide) (by rw [h37]; rfl) (by decide) ?_
    exact b153 σ _ _ _ (lv_sub hl [] rfl) hw hf
  have hf := k_ifF h37 hf
  by_cases h38 : p1 = (38 : Int32)
  · have hf := k_ifT h38 hf
    refine lv_tableIn (tgt := 153) hx hb dX7_rankOf_1 (by rw [h38]; decide) (by rw [h38]; decide) (by rw [h38]; rfl) (by decide) ?_
    exact b153 σ _ _ _ (lv_sub hl [] rfl) hw hf
  have hf := k_ifF h38 hf
  by_cases h39 : p1 = (39 : Int32)
  · have hf := k_ifT h39 hf
    refine lv_tableIn (tgt := 153) hx hb dX7_rankOf_1 (by rw [h39]; decide) (by rw [h39]; decide) (by rw [h39]; rfl) (by decide) ?_
    exact b153 σ _ _ _ (lv_sub hl [] rfl) hw hf
  have hf := k_ifF h39 hf
  by_cases h40 : p1 = (40 : Int32)
  · have hf := k_ifT h40 hf
    refine lv_tableIn (tgt := 153) hx hb dX7_rankOf_1 (by rw [h40]; decide) (by rw [h40]; decide) (by rw [h40]; rfl) (by decide) ?_
    exact b153 σ _ _ _ (lv_sub hl [] rfl) hw hf
  have hf := k_ifF h40 hf
  by_cases h41 : p1 = (41 : Int32)
  · have hf := k_ifT h41 hf
    refine lv_tableIn (tgt := 153) hx hb dX7_rankOf_1 (by rw [h41]; decide) (by rw [h41]; decide) (by rw [h41]; rfl) (by decide) ?_
    exact b153 σ _ _ _ (lv_sub hl [] rfl) hw hf
  have hf := k_ifF h41 hf
  by_cases h42 : p1 = (42 : Int32)
  · have hf := k_ifT h42 hf
    refine lv_tableIn (tgt := 153) hx hb dX7_rankOf_1 (by rw [h42]; decide) (by rw [h42]; decide) (by rw [h42]; rfl) (by decide) ?_
    exact b153 σ _ _ _ (lv_sub hl [] rfl) hw hf
  have hf := k_ifF h42 hf
  by_cases h43 : p1 = (43 : Int32)
  · have hf := k_ifT h43 hf
    refine lv_tableIn (tgt := 148) hx hb dX7_rankOf_1 (by rw [h43]; decide) (by rw [h43]; decide) (by rw [h43]; rfl) (by decide) ?_
    exact b148 σ _ _ _ (lv_sub hl [] rfl) hw hf
  have hf := k_ifF h43 hf
  by_cases h44 : p1 = (44 : Int32)
  · have hf := k_ifT h44 hf
    refine lv_tableIn (tgt := 148) hx hb dX7_rankOf_1 (by rw [h44]; decide) (by rw [h44]; decide) (by rw [h44]; rfl) (by decide) ?_
    exact b148 σ _ _ _ (lv_sub hl [] rfl) hw hf
  have hf := k_ifF h44 hf
  by_cases h45 : p1 = (45 : Int32)
  · have hf := k_ifT h45 hf
    refine lv_tableIn (tgt := 150) hx hb dX7_rankOf_1 (by rw [h45]; decide) (by rw [h45]; decide) (by rw [h45]; rfl) (by decide) ?_
    exact b150 σ _ _ _ (lv_sub hl [] rfl) hw hf
  have hf := k_ifF h45 hf
  by_cases h46 : p1 = (46 : Int32)
  · have hf := k_ifT h46 hf
    refine lv_tableIn (tgt := 150) hx hb dX7_rankOf_1 (by rw [h46]; decide) (by rw [h46]; decide) (by rw [h46]; rfl) (by decide) ?_
    exact b150 σ _ _ _ (lv_sub hl [] rfl) hw hf
  have hf := k_ifF h46 hf
  by_cases h47 : p1 = (47 : Int32)
  · have hf := k_ifT h47 hf
    refine lv_tableIn (tgt := 146) hx hb dX7_rankOf_1 (by rw [h47]; decide) (by rw [h47]; decide) (by rw [h47]; rfl) (by decide) ?_
    exact b146 σ _ _ _ (lv_sub hl [] rfl) hw hf
  have hf := k_ifF h47 hf
  by_cases h48 : p1 = (48 : Int32)
  · have hf := k_ifT h48 hf
    refine lv_tableIn (tgt := 146) hx hb dX7_rankOf_1 (by rw [h48]; decide) (by rw [h48]; decide) (by rw [h48]; rfl) (by decide) ?_
    exact b146 σ _ _ _ (lv_sub hl [] rfl) hw hf
  have hf := k_ifF h48 hf
  by_cases h49 : p1 = (49 : Int32)
  · have hf := k_ifT h49 hf
    refine lv_tableIn (tgt := 146) hx hb dX7_rankOf_1 (by rw [h49]; decide) (by rw [h49]; decide) (by rw [h49]; rfl) (by decide) ?_
    exact b146 σ _ _ _ (lv_sub hl [] rfl) hw hf
  have hf := k_ifF h49 hf
  by_cases h50 : p1 = (50 : Int32)
  · have hf := k_ifT h50 hf
    refine lv_tableIn (tgt := 146) hx hb dX7_rankOf_1 (by rw [h50]; decide) (by rw [h50]; decide) (by rw [h50]; rfl) (by decide) ?_
    exact b146 σ _ _ _ (lv_sub hl [] rfl) hw hf
  have hf := k_ifF h50 hf
  by_cases h51 : p1 = (51 : Int32)
  · have hf := k_ifT h51 hf
    refine lv_tableIn (tgt := 146) hx hb dX7_rankOf_1 (by rw [h51]; decide) (by rw [h51]; decide) (by rw [h51]; rfl) (by decide) ?_
    exact b146 σ _ _ _ (lv_sub hl [] rfl) hw hf
  have hf := k_ifF h51 hf
  by_cases h52 : p1 = (52 : Int32)
  · have hf := k_ifT h52 hf
    refine lv_tableIn (tgt := 146) hx hb dX7_rankOf_1 (by rw [h52]; decide) (by rw [h52]; decide) (by rw [h52]; rfl) (by decide) ?_
    exact b146 σ _ _ _ (lv_sub hl [] rfl) hw hf
  have hf := k_ifF h52 hf
  refine lv_tableOut (tgt := 153) hx hb dX7_rankOf_1 (k_tout (fun k q1 q2 q3 => ?_)) (by decide) ?_
  · have q4 : p1 = Int32.ofInt k := by rw [← q3, Int32.ofInt_toInt]
    have q5 : k = 22 ∨ k = 23 ∨ k = 24 ∨ k = 25 ∨ k = 26 ∨ k = 27 ∨ k = 28 ∨ k = 29 ∨ k = 30 ∨ k = 31 ∨ k = 32 ∨ k = 33 ∨ k = 34 ∨ k = 35 ∨ k = 36 ∨ k = 37 ∨ k = 38 ∨ k = 39 ∨ k = 40 ∨ k = 41 ∨ k = 42 ∨ k = 43 ∨ k = 44 ∨ k = 45 ∨ k = 46 ∨ k = 47 ∨ k = 48 ∨ k = 49 ∨ k = 50 ∨ k = 51 ∨ k = 52 := by omega
    rcases q5 with rfl | rfl | rfl | rfl | rfl | rfl | rfl | rfl | rfl | rfl | rfl | rfl | rfl | rfl | rfl | rfl | rfl | rfl | rfl | rfl | rfl | rfl | rfl | rfl | rfl | rfl | rfl | rfl | rfl | rfl | rfl
    · exact h22 q4
    · exact h23 q4
    · exact h24 q4
    · exact h25 q4
    · exact h26 q4
    · exact h27 q4
    · exact h28 q4
    · exact h29 q4
    · exact h30 q4
    · exact h31 q4
    · exact h32 q4
    · exact h33 q4
    · exact h34 q4
    · exact h35 q4
    · exact h36 q4
    · exact h37 q4
    · exact h38 q4
    · exact h39 q4
    · exact h40 q4
    · exact h41 q4
    · exact h42 q4
    · exact h43 q4
    · exact h44 q4
    · exact h45 q4
    · exact h46 q4
    · exact h47 q4
    · exact h48 q4
    · exact h49 q4
    · exact h50 q4
    · exact h51 q4
    · exact h52 q4
  exact b153 σ _ _ _ (lv_sub hl [] rfl) hw hf
def f_X7_tellDownTo_b74   (σ : MSt) : Option MSt :=
  some σ
def f_X7_tellDownTo_b0_s  (r0 : Int32 → MSt → Option MSt) (x1 : Int32) (σ : MSt) : Option MSt :=
  if (σ.1 7 7) ≤ 0 then
  (f_X7_tellDownTo_b74 σ)
  else
  (k_ck (k_inb ((σ.1 7 7) - (1 : Int32)) 72) <|
  if (σ.1 8 (((σ.1 7 7) - (1 : Int32))).toNatClampNeg) = (41 : Int32) then
  (f_X7_tellDownTo_b74 σ)
  else
  (k_ck (k_inb ((σ.1 7 7) - (1 : Int32)) 72) <|
  k_bd (f_X7_rankOf (σ.1 8 (((σ.1 7 7) - (1 : Int32))).toNatClampNeg) σ) fun q2 σ1 =>
  if q2 < x1 then
  (f_X7_tellDownTo_b74 σ1)
  else
  (k_nm (mI σ1 7 7 ((σ1.1 7 7) - (1 : Int32))) fun σ3 =>
  k_ck (k_ch (σ3.1 7 1)) <|
  k_nm (σ3.1 7 1).toNatClampNeg fun o1052 =>
  k_ck (k_inb (σ3.1 7 7) 72) <|
  k_bv (f_X4_add (o1052 + 7) (σ3.1 8 ((σ3.1 7 7)).toNatClampNeg) (0 : Int32) σ3) fun σ4 =>
  r0 x1 σ4)))
def f_X7_tellDownTo_b0  : Nat → Int32 → MSt → Option MSt
  | 0 => fun _ _ => none
  | n + 1 => f_X7_tellDownTo_b0_s (f_X7_tellDownTo_b0 n)
def f_X7_tellDownTo  (p1 : Int32) (σ : MSt) : Option MSt :=
  f_X7_tellDownTo_b0 FU p1 σ
def rmX7_tellDownTo : Room := { frames := 1, cells := 0, slots := 0, locals := 22 }
set_option maxHeartbeats 4000000 in
set_option maxRecDepth 100000 in
theorem c_X7_tellDownTo (l : Launch) (G : va_G) (Y : CY) (w : MSt → va_W) (ad : Nat → Nat)  (LC : LayC ad w Y) (p1 : Int32) (σ : MSt) (σ' : MSt) (hf : f_X7_tellDownTo p1 σ = some σ') : k_Mv l yX7_tellDownTo wsX7_tellDownTo rmX7_tellDownTo G Y w [.ref (ad 7), .int p1] σ σ' := by
  refine k_ofv (own := RX7) (cc := cX7_tellDownTo) (maxL := 2) none (by decide) rfl rfl (Nat.le_of_ble_eq_true rfl) ?_
  intro p e s m below meth c A C ls hl hw
  have hx := C.1
  have hb := C.2.1
  have hown := C.2.2.2.2.1
  have hts := C.2.2.2.2.2.1
  have hks := C.2.2.2.2.2.2.1
  have hl : lv_has ls 2 [(0, .ref (ad 7)), (1, .int p1)] := hl
  have b74 : ∀ (σ : MSt) (H : Heap) (locs : List Loc) (ls : Array Slot), lv_has ls 2 [] → k_W G w A s.heap σ H locs → f_X7_tellDownTo_b74 σ = some σ' → W p l e rmX7_tellDownTo s m [.ref (ad 7), .int p1].toArray below meth c H locs 0 0 (MQ below (k_Qv G w A σ') [.ref (ad 7), .int p1].toArray s 0 0 A) (F0 m 74 ls []) := by
    intro σ H locs ls hl hw hf
    unfold f_X7_tellDownTo_b74 at hf
    exact k_vret C hw hf dX7_tellDownTo_74
  have b0 : ∀ (n0 : Nat) (x1 : Int32) (σ : MSt) (H : Heap) (locs : List Loc) (ls : Array Slot), lv_has ls 2 [(0, .ref (ad 7)), (1, .int x1)] → k_W G w A s.heap σ H locs → f_X7_tellDownTo_b0 n0 x1 σ = some σ' → W p l e rmX7_tellDownTo s m [.ref (ad 7), .int p1].toArray below meth c H locs 0 0 (MQ below (k_Qv G w A σ') [.ref (ad 7), .int p1].toArray s 0 0 A) (F0 m 0 ls []) := by
    intro n0
    induction n0 with
    | zero =>
      intro x1 σ H locs ls hl hw hf
      have hf : (none : Option MSt) = some σ' := hf
      cases hf
    | succ n0 ih0 =>
      intro x1 σ H locs ls hl hw hf
      have hf : f_X7_tellDownTo_b0_s (f_X7_tellDownTo_b0 n0) x1 σ = some σ' := hf
      unfold f_X7_tellDownTo_b0_s at hf
      refine lv_aload_n hx hb dX7_tellDownTo_0 rfl (lv_at hl 0 rfl) ?_
      refine k_get C hw (LC_7 LC) (ci := 7) rfl k_in7 7 (by decide) lk7_158 (v := .int (σ.1 7 7)) rfl dX7_tellDownTo_1 ?_
      refine lv_if_le (tgt := 74) hx hb dX7_tellDownTo_4 (by decide) (fun h => ?_) (fun h => ?_)
      · have hf := k_ifT h hf
        exact b74 σ _ _ _ (lv_sub hl [] rfl) hw hf
      · have hf := k_ifF h hf
        refine lv_aload_n hx hb dX7_tellDownTo_7 rfl (lv_at hl 0 rfl) ?_
        refine k_get C hw (LC_7 LC) (ci := 7) rfl k_in7 6 (by decide) lk7_9 (v := .ref (ad 8)) rfl dX7_tellDownTo_8 ?_
        refine lv_aload_n hx hb dX7_tellDownTo_11 rfl (lv_at hl 0 rfl) ?_
        refine k_get C hw (LC_7 LC) (ci := 7) rfl k_in7 7 (by decide) lk7_158 (v := .int (σ.1 7 7)) rfl dX7_tellDownTo_12 ?_
        refine lv_iconst (v := (1 : Int32)) hx hb dX7_tellDownTo_15 (by decide) ?_
        refine lv_isub hx hb dX7_tellDownTo_16 ?_
        obtain ⟨hi, hf⟩ := k_ckE hf
        refine k_iald C hw (LC_8 LC) hi dX7_tellDownTo_17 ?_
        refine lv_bipush (v := (41 : Int32)) hx hb dX7_tellDownTo_18 (by decide) ?_
        refine lv_icmp_eq (tgt := 74) hx hb dX7_tellDownTo_20 (by decide) (fun h => ?_) (fun h => ?_)
        · have hf := k_ifT h hf
          exact b74 σ _ _ _ (lv_sub hl [] rfl) hw hf
        · have hf := k_ifF h hf
          refine lv_aload_n hx hb dX7_tellDownTo_23 rfl (lv_at hl 0 rfl) ?_
          refine k_get C hw (LC_7 LC) (ci := 7) rfl k_in7 6 (by decide) lk7_9 (v := .ref (ad 8)) rfl dX7_tellDownTo_24 ?_
          refine lv_aload_n hx hb dX7_tellDownTo_27 rfl (lv_at hl 0 rfl) ?_
          refine k_get C hw (LC_7 LC) (ci := 7) rfl k_in7 7 (by decide) lk7_158 (v := .int (σ.1 7 7)) rfl dX7_tellDownTo_28 ?_
          refine lv_iconst (v := (1 : Int32)) hx hb dX7_tellDownTo_31 (by decide) ?_
          refine lv_isub hx hb dX7_tellDownTo_32 ?_
          obtain ⟨hi, hf⟩ := k_ckE hf
          refine k_iald C hw (LC_8 LC) hi dX7_tellDownTo_33 ?_
          obtain ⟨q2, σ1, hq, hf⟩ := k_bdE hf
          refine k_callSi C hw (c_X7_rankOf l G Y w ad LC (σ.1 8 (((σ.1 7 7) - (1 : Int32))).toNatClampNeg) σ q2 σ1 hq) (va_cwS 1 hts gX7_tellDownTo_X7_rankOf rfl rfl rfl (by decide +kernel) ⟨Nat.le_of_ble_eq_true rfl, Nat.le_of_ble_eq_true rfl⟩) rfl hl.1 rfl (Nat.le_of_ble_eq_true rfl) dX7_tellDownTo_34 (fun H locs hw => ?_)
          refine lv_iload_n hx hb dX7_tellDownTo_37 rfl (lv_at hl 1 rfl) ?_
          refine lv_icmp_lt (tgt := 74) hx hb dX7_tellDownTo_38 (by decide) (fun h => ?_) (fun h => ?_)
          · have hf := k_ifT h hf
            exact b74 σ1 _ _ _ (lv_sub hl [] rfl) hw hf
          · have hf := k_ifF h hf
            refine lv_aload_n hx hb dX7_tellDownTo_41 rfl (lv_at hl 0 rfl) ?_
            refine lv_dup hx hb dX7_tellDownTo_42 rfl ?_
            refine k_get C hw (LC_7 LC) (ci := 7) rfl k_in7 7 (by decide) lk7_158 (v := .int (σ1.1 7 7)) rfl dX7_tellDownTo_43 ?_
            refine lv_iconst (v := (1 : Int32)) hx hb dX7_tellDownTo_46 (by decide) ?_
            refine lv_isub hx hb dX7_tellDownTo_47 ?_
            refine k_put C hw (LC_7 LC) (ci := 7) rfl k_in7 tyX7 tyX7_ok nmX7 7 (by decide) lk7_158 rfl ⟨rfl, rfl⟩ rfl dX7_tellDownTo_48 (fun σ3 eq H locs hw => ?_)
            have hf := k_nmE eq hf
            refine lv_aload_n hx hb dX7_tellDownTo_51 rfl (lv_at hl 0 rfl) ?_
            obtain ⟨hc, hf⟩ := k_ckE hf
            obtain ⟨o1052, eo⟩ : ∃ y : Nat, y = (σ3.1 7 1).toNatClampNeg := ⟨_, rfl⟩
            have hf := k_nmE eo hf
            have Lo1052 := k_chL LC hc eo
            refine k_get C hw (LC_7 LC) (ci := 7) rfl k_in7 1 (by decide) lk7_19 (v := .ref (ad o1052)) (congrArg some (k_chR hc eo)) dX7_tellDownTo_52 ?_
            refine k_getN C hw (LX0_o Lo1052) (ci := 0) rfl k_in0 6 (by decide) ln7_143 (v := .ref (ad (o1052 + 7))) rfl dX7_tellDownTo_55 ?_
            refine lv_aload_n hx hb dX7_tellDownTo_58 rfl (lv_at hl 0 rfl) ?_
            refine k_get C hw (LC_7 LC) (ci := 7) rfl k_in7 6 (by decide) lk7_9 (v := .ref (ad 8)) rfl dX7_tellDownTo_59 ?_
            refine lv_aload_n hx hb dX7_tellDownTo_62 rfl (lv_at hl 0 rfl) ?_
            refine k_get C hw (LC_7 LC) (ci := 7) rfl k_in7 7 (by decide) lk7_158 (v := .int (σ3.1 7 7)) rfl dX7_tellDownTo_63 ?_
            obtain ⟨hi, hf⟩ := k_ckE hf
            refine k_iald C hw (LC_8 LC) hi dX7_tellDownTo_66 ?_
            refine lv_iconst (v := (0 : Int32)) hx hb dX7_tellDownTo_67 (by decide) ?_
            obtain ⟨σ4, hq, hf⟩ := k_bvE hf
            refine k_callVv C hw (c_X4_add l G Y w ad (o1052 + 7) (LX0_laws Lo1052) (σ3.1 8 ((σ3.1 7 7)).toNatClampNeg) (0 : Int32) σ3 σ4 hq) (cwV 2 hts gX7_tellDownTo_X4_add rfl rfl rfl (by decide +kernel) ⟨Nat.le_of_ble_eq_true rfl, Nat.le_of_ble_eq_true rfl⟩) (k_recv C hw (LX4_o (LX0_laws Lo1052)) rfl) rfl hl.1 rfl (Nat.le_of_ble_eq_true rfl) dX7_tellDownTo_68 (fun H locs hw => ?_)
            refine lv_goto (tgt := 0) hx hb dX7_tellDownTo_71 (by decide) ?_
            exact ih0 x1 σ4 _ _ _ (lv_sub hl [0, 1] rfl) hw hf
  unfold f_X7_tellDownTo at hf
  exact b0 FU p1 σ _ _ _ (lv_sub hl [0, 1] rfl) hw hf
def f_X7_closeOne_b22   (σ : MSt) : Option MSt :=
  k_nm (mI σ 7 9 ((σ.1 7 9) - (1 : Int32))) fun σ1 =>
  some σ1
def f_X7_closeOne   (σ : MSt) : Option MSt :=
  k_bv (f_X7_tellDownTo (1 : Int32) σ) fun σ2 =>
  if (σ2.1 7 7) ≤ 0 then
  (f_X7_closeOne_b22 σ2)
  else
  (k_nm (mI σ2 7 7 ((σ2.1 7 7) - (1 : Int32))) fun σ3 =>
  f_X7_closeOne_b22 σ3)
def rmX7_closeOne : Room := { frames := 2, cells := 0, slots := 0, locals := 43 }
set_option maxHeartbeats 4000000 in
set_option maxRecDepth 100000 in
theorem c_X7_closeOne (l : Launch) (G : va_G) (Y : CY) (w : MSt → va_W) (ad : Nat → Nat)  (LC : LayC ad w Y)  (σ : MSt) (σ' : MSt) (hf : f_X7_closeOne σ = some σ') : k_Mv l yX7_closeOne wsX7_closeOne rmX7_closeOne G Y w [.ref (ad 7)] σ σ' := by
  refine k_ofv (own := RX7) (cc := cX7_closeOne) (maxL := 1) none (by decide) rfl rfl (Nat.le_of_ble_eq_true rfl) ?_
  intro p e s m below meth c A C ls hl hw
  have hx := C.1
  have hb := C.2.1
  have hown := C.2.2.2.2.1
  have hts := C.2.2.2.2.2.1
  have hks := C.2.2.2.2.2.2.1
  have hl : lv_has ls 1 [(0, .ref (ad 7))] := hl
  have b22 : ∀ (σ : MSt) (H : Heap) (locs : List Loc) (ls : Array Slot), lv_has ls 1 [(0, .ref (ad 7))] → k_W G w A s.heap σ H locs → f_X7_closeOne_b22 σ = some σ' → W p l e rmX7_closeOne s m [.ref (ad 7)].toArray below meth c H locs 0 0 (MQ below (k_Qv G w A σ') [.ref (ad 7)].toArray s 0 0 A) (F0 m 22 ls []) := by
    intro σ H locs ls hl hw hf
    unfold f_X7_closeOne_b22 at hf
    refine lv_aload_n hx hb dX7_closeOne_22 rfl (lv_at hl 0 rfl) ?_
    refine lv_dup hx hb dX7_closeOne_23 rfl ?_
    refine k_get C hw (LC_7 LC) (ci := 7) rfl k_in7 9 (by decide) lk7_161 (v := .int (σ.1 7 9)) rfl dX7_closeOne_24 ?_
    refine lv_iconst (v := (1 : Int32)) hx hb dX7_closeOne_27 (by decide) ?_
    refine lv_isub hx hb dX7_closeOne_28 ?_
    refine k_put C hw (LC_7 LC) (ci := 7) rfl k_in7 tyX7 tyX7_ok nmX7 9 (by decide) lk7_161 rfl ⟨rfl, rfl⟩ rfl dX7_closeOne_29 (fun σ1 eq H locs hw => ?_)
    have hf := k_nmE eq hf
    exact k_vret C hw hf dX7_closeOne_32
  unfold f_X7_closeOne at hf
  refine lv_aload_n hx hb dX7_closeOne_0 rfl (lv_at hl 0 rfl) ?_
  refine lv_iconst (v := (1 : Int32)) hx hb dX7_closeOne_1 (by decide) ?_
  obtain ⟨σ2, hq, hf⟩ := k_bvE hf
  refine k_callVv C hw (c_X7_tellDownTo l G Y w ad LC (1 : Int32) σ σ2 hq) (cwV 1 hts gX7_closeOne_X7_tellDownTo rfl rfl rfl (by decide +kernel) ⟨Nat.le_of_ble_eq_true rfl, Nat.le_of_ble_eq_true rfl⟩) (k_recv C hw (LC_7 LC) rfl) rfl hl.1 rfl (Nat.le_of_ble_eq_true rfl) dX7_closeOne_2 (fun H locs hw => ?_)
  refine lv_aload_n hx hb dX7_closeOne_5 rfl (lv_at hl 0 rfl) ?_
  refine k_get C hw (LC_7 LC) (ci := 7) rfl k_in7 7 (by decide) lk7_158 (v := .int (σ2.1 7 7)) rfl dX7_closeOne_6 ?_
  refine lv_if_le (tgt := 22) hx hb dX7_closeOne_9 (by decide) (fun h => ?_) (fun h => ?_)
  · have hf := k_ifT h hf
    exact b22 σ2 _ _ _ (lv_sub hl [0] rfl) hw hf
  · have hf := k_ifF h hf
    refine lv_aload_n hx hb dX7_closeOne_12 rfl (lv_at hl 0 rfl) ?_
    refine lv_dup hx hb dX7_closeOne_13 rfl ?_
    refine k_get C hw (LC_7 LC) (ci := 7) rfl k_in7 7 (by decide) lk7_158 (v := .int (σ2.1 7 7)) rfl dX7_closeOne_14 ?_
    refine lv_iconst (v := (1 : Int32)) hx hb dX7_closeOne_17 (by decide) ?_
    refine lv_isub hx hb dX7_closeOne_18 ?_
    refine k_put C hw (LC_7 LC) (ci := 7) rfl k_in7 tyX7 tyX7_ok nmX7 7 (by decide) lk7_158 rfl ⟨rfl, rfl⟩ rfl dX7_closeOne_19 (fun σ3 eq H locs hw => ?_)
    have hf := k_nmE eq hf
    exact b22 σ3 _ _ _ (lv_sub hl [0] rfl) hw hf
def f_X7_readOperator_b118  (y1 : Int32) (σ : MSt) : Option MSt :=
  k_ck (k_bo y1) <|
  k_nm (mI σ 7 11 y1) fun σ1 =>
  some σ1
def f_X7_readOperator_b113   (σ : MSt) : Option MSt :=
  f_X7_readOperator_b118 (1 : Int32) σ
def f_X7_readOperator_b86  (x1 : Int32) (σ : MSt) : Option MSt :=
  k_bv (f_X7_countKnot σ) fun σ1 =>
  k_bv (f_X7_letWait x1 σ1) fun σ2 =>
  k_nm (mI σ2 7 10 (1 : Int32)) fun σ3 =>
  if x1 = (22 : Int32) then
  (f_X7_readOperator_b113 σ3)
  else
  (if x1 = (23 : Int32) then
  (f_X7_readOperator_b113 σ3)
  else
  (f_X7_readOperator_b118 (0 : Int32) σ3))
def f_X7_readOperator_b48  (x1 : Int32) (x2 : Int32) (x3 : Int32) (y1 : Int32) (σ : MSt) : Option MSt :=
  k_bv (f_X7_tellDownTo y1 σ) fun σ1 =>
  if x3 = 0 then
  (f_X7_readOperator_b86 x1 σ1)
  else
  (if (σ1.1 7 7) ≤ 0 then
  (f_X7_readOperator_b86 x1 σ1)
  else
  (k_ck (k_inb ((σ1.1 7 7) - (1 : Int32)) 72) <|
  k_bd (f_X7_rankOf (σ1.1 8 (((σ1.1 7 7) - (1 : Int32))).toNatClampNeg) σ1) fun q3 σ2 =>
  if q3 = x2 then
  (k_bv (f_X7_fail (1 : Int32) σ2) fun σ4 =>
  some σ4)
  else
  (f_X7_readOperator_b86 x1 σ2)))
def f_X7_readOperator_b35  (x1 : Int32) (x2 : Int32) (y0 : Int32) (σ : MSt) : Option MSt :=
  if y0 = 0 then
  (f_X7_readOperator_b48 x1 x2 y0 x2 σ)
  else
  (f_X7_readOperator_b48 x1 x2 y0 (x2 + (1 : Int32)) σ)
def f_X7_readOperator_b15   (σ : MSt) : Option MSt :=
  k_bv (f_X7_fail (1 : Int32) σ) fun σ1 =>
  some σ1
def f_X7_readOperator  (p1 : Int32) (σ : MSt) : Option MSt :=
  k_bd (f_X7_rankOf p1 σ) fun q3 σ2 =>
  if q3 = 0 then
  (f_X7_readOperator_b15 σ2)
  else
  (if p1 = (24 : Int32) then
  (f_X7_readOperator_b15 σ2)
  else
  (k_bd (f_X7_rankOf (49 : Int32) σ2) fun q5 σ4 =>
  if q3 = q5 then
  (f_X7_readOperator_b35 p1 q3 (1 : Int32) σ4)
  else
  (f_X7_readOperator_b35 p1 q3 (0 : Int32) σ4)))
def rmX7_readOperator : Room := { frames := 2, cells := 0, slots := 0, locals := 43 }
set_option maxHeartbeats 4000000 in
set_option maxRecDepth 100000 in
theorem c_X7_readOperator (l : Launch) (G : va_G) (Y : CY) (w : MSt → va_W) (ad : Nat → Nat)  (LC : LayC ad w Y) (p1 : Int32) (σ : MSt) (σ' : MSt) (hf : f_X7_readOperator p1 σ = some σ') : k_Mv l yX7_readOperator wsX7_readOperator rmX7_readOperator G Y w [.ref (ad 7), .int p1] σ σ' := by
  refine k_ofv (own := RX7) (cc := cX7_readOperator) (maxL := 4) none (by decide) rfl rfl (Nat.le_of_ble_eq_true rfl) ?_
  intro p e s m below meth c A C ls hl hw
  have hx := C.1
  have hb := C.2.1
  have hown := C.2.2.2.2.1
  have hts := C.2.2.2.2.2.1
  have hks := C.2.2.2.2.2.2.1
  have hl : lv_has ls 4 [(0, .ref (ad 7)), (1, .int p1)] := hl
  have b118 : ∀ (y1 : Int32) (σ : MSt) (H : Heap) (locs : List Loc) (ls : Array Slot), lv_has ls 4 [] → k_W G w A s.heap σ H locs → f_X7_readOperator_b118 y1 σ = some σ' → W p l e rmX7_readOperator s m [.ref (ad 7), .int p1].toArray below meth c H locs 0 0 (MQ below (k_Qv G w A σ') [.ref (ad 7), .int p1].toArray s 0 0 A) (F0 m 118 ls [.int y1, .ref (ad 7)]) := by
    intro y1 σ H locs ls hl hw hf
    unfold f_X7_readOperator_b118 at hf
    obtain ⟨hz, hf⟩ := k_ckE hf
    refine k_put C hw (LC_7 LC) (ci := 7) rfl k_in7 tyX7 tyX7_ok nmX7 11 (by decide) lk7_168 rfl (k_boE hz) rfl dX7_readOperator_118 (fun σ1 eq H locs hw => ?_)
    have hf := k_nmE eq hf
    exact k_vret C hw hf dX7_readOperator_121
  have b113 : ∀ (σ : MSt) (H : Heap) (locs : List Loc) (ls : Array Slot), lv_has ls 4 [] → k_W G w A s.heap σ H locs → f_X7_readOperator_b113 σ = some σ' → W p l e rmX7_readOperator s m [.ref (ad 7), .int p1].toArray below meth c H locs 0 0 (MQ below (k_Qv G w A σ') [.ref (ad 7), .int p1].toArray s 0 0 A) (F0 m 113 ls [.ref (ad 7)]) := by
    intro σ H locs ls hl hw hf
    unfold f_X7_readOperator_b113 at hf
    refine lv_iconst (v := (1 : Int32)) hx hb dX7_readOperator_113 (by decide) ?_
    refine lv_goto (tgt := 118) hx hb dX7_readOperator_114 (by decide) ?_
    exact b118 (1 : Int32) σ _ _ _ (lv_sub hl [] rfl) hw hf
  have b86 : ∀ (x1 : Int32) (σ : MSt) (H : Heap) (locs : List Loc) (ls : Array Slot), lv_has ls 4 [(0, .ref (ad 7)), (1, .int x1)] → k_W G w A s.heap σ H locs → f_X7_readOperator_b86 x1 σ = some σ' → W p l e rmX7_readOperator s m [.ref (ad 7), .int p1].toArray below meth c H locs 0 0 (MQ below (k_Qv G w A σ') [.ref (ad 7), .int p1].toArray s 0 0 A) (F0 m 86 ls []) := by
    intro x1 σ H locs ls hl hw hf
    unfold f_X7_readOperator_b86 at hf
    refine lv_aload_n hx hb dX7_readOperator_86 rfl (lv_at hl 0 rfl) ?_
    obtain ⟨σ1, hq, hf⟩ := k_bvE hf
    refine k_callVv C hw (c_X7_countKnot l G Y w ad LC σ σ1 hq) (cwV 0 hts gX7_readOperator_X7_countKnot rfl rfl rfl (by decide +kernel) ⟨Nat.le_of_ble_eq_true rfl, Nat.le_of_ble_eq_true rfl⟩) (k_recv C hw (LC_7 LC) rfl) rfl hl.1 rfl (Nat.le_of_ble_eq_true rfl) dX7_readOperator_87 (fun H locs hw => ?_)
    refine lv_aload_n hx hb dX7_readOperator_90 rfl (lv_at hl 0 rfl) ?_
    refine lv_iload_n hx hb dX7_readOperator_91 rfl (lv_at hl 1 rfl) ?_
    obtain ⟨σ2, hq, hf⟩ := k_bvE hf
    refine k_callVv C hw (c_X7_letWait l G Y w ad LC x1 σ1 σ2 hq) (cwV 1 hts gX7_readOperator_X7_letWait rfl rfl rfl (by decide +kernel) ⟨Nat.le_of_ble_eq_true rfl, Nat.le_of_ble_eq_true rfl⟩) (k_recv C hw (LC_7 LC) rfl) rfl hl.1 rfl (Nat.le_of_ble_eq_true rfl) dX7_readOperator_92 (fun H locs hw => ?_)
    refine lv_aload_n hx hb dX7_readOperator_95 rfl (lv_at hl 0 rfl) ?_
    refine lv_iconst (v := (1 : Int32)) hx hb dX7_readOperator_96 (by decide) ?_
    refine k_put C hw (LC_7 LC) (ci := 7) rfl k_in7 tyX7 tyX7_ok nmX7 10 (by decide) lk7_164 rfl ⟨rfl, rfl⟩ rfl dX7_readOperator_97 (fun σ3 eq H locs hw => ?_)
    have hf := k_nmE eq hf
    refine lv_aload_n hx hb dX7_readOperator_100 rfl (lv_at hl 0 rfl) ?_
    refine lv_iload_n hx hb dX7_readOperator_101 rfl (lv_at hl 1 rfl) ?_
    refine lv_bipush (v := (22 : Int32)) hx hb dX7_readOperator_102 (by decide) ?_
    refine lv_icmp_eq (tgt := 113) hx hb dX7_readOperator_104 (by decide) (fun h => ?_) (fun h => ?_)
    · have hf := k_ifT h hf
      exact b113 σ3 _ _ _ (lv_sub hl [] rfl) hw hf
    · have hf := k_ifF h hf
      refine lv_iload_n hx hb dX7_readOperator_107 rfl (lv_at hl 1 rfl) ?_
      refine lv_bipush (v := (23 : Int32)) hx hb dX7_readOperator_108 (by decide) ?_
      refine lv_icmp_ne (tgt := 117) hx hb dX7_readOperator_110 (by decide) (fun h => ?_) (fun h => ?_)
      · have hf := k_ifF h hf
        refine lv_iconst (v := (0 : Int32)) hx hb dX7_readOperator_117 (by decide) ?_
        exact b118 (0 : Int32) σ3 _ _ _ (lv_sub hl [] rfl) hw hf
      · have hf := k_ifT h hf
        exact b113 σ3 _ _ _ (lv_sub hl [] rfl) hw hf
  have b48 : ∀ (x1 : Int32) (x2 : Int32) (x3 : Int32) (y1 : Int32) (σ : MSt) (H : Heap) (locs : List Loc) (ls : Array Slot), lv_has ls 4 [(0, .ref (ad 7)), (1, .int x1), (2, .int x2), (3, .int x3)] → k_W G w A s.heap σ H locs → f_X7_readOperator_b48 x1 x2 x3 y1 σ = some σ' → W p l e rmX7_readOperator s m [.ref (ad 7), .int p1].toArray below meth c H locs 0 0 (MQ below (k_Qv G w A σ') [.ref (ad 7), .int p1].toArray s 0 0 A) (F0 m 48 ls [.int y1, .ref (ad 7)]) := by
    intro x1 x2 x3 y1 σ H locs ls hl hw hf
    unfold f_X7_readOperator_b48 at hf
    obtain ⟨σ1, hq, hf⟩ := k_bvE hf
    refine k_callVv C hw (c_X7_tellDownTo l G Y w ad LC y1 σ σ1 hq) (cwV 1 hts gX7_readOperator_X7_tellDownTo rfl rfl rfl (by decide +kernel) ⟨Nat.le_of_ble_eq_true rfl, Nat.le_of_ble_eq_true rfl⟩) (k_recv C hw (LC_7 LC) rfl) rfl hl.1 rfl (Nat.le_of_ble_eq_true rfl) dX7_readOperator_48 (fun H locs hw => ?_)
    refine lv_iload_n hx hb dX7_readOperator_51 rfl (lv_at hl 3 rfl) ?_
    refine lv_if_eq (tgt := 86) hx hb dX7_readOperator_52 (by decide) (fun h => ?_) (fun h => ?_)
    · have hf := k_ifT h hf
      exact b86 x1 σ1 _ _ _ (lv_sub hl [0, 1] rfl) hw hf
    · have hf := k_ifF h hf
      refine lv_aload_n hx hb dX7_readOperator_55 rfl (lv_at hl 0 rfl) ?_
      refine k_get C hw (LC_7 LC) (ci := 7) rfl k_in7 7 (by decide) lk7_158 (v := .int (σ1.1 7 7)) rfl dX7_readOperator_56 ?_
      refine lv_if_le (tgt := 86) hx hb dX7_readOperator_59 (by decide) (fun h => ?_) (fun h => ?_)
      · have hf := k_ifT h hf
        exact b86 x1 σ1 _ _ _ (lv_sub hl [0, 1] rfl) hw hf
      · have hf := k_ifF h hf
        refine lv_aload_n hx hb dX7_readOperator_62 rfl (lv_at hl 0 rfl) ?_
        refine k_get C hw (LC_7 LC) (ci := 7) rfl k_in7 6 (by decide) lk7_9 (v := .ref (ad 8)) rfl dX7_readOperator_63 ?_
        refine lv_aload_n hx hb dX7_readOperator_66 rfl (lv_at hl 0 rfl) ?_
        refine k_get C hw (LC_7 LC) (ci := 7) rfl k_in7 7 (by decide) lk7_158 (v := .int (σ1.1 7 7)) rfl dX7_readOperator_67 ?_
        refine lv_iconst (v := (1 : Int32)) hx hb dX7_readOperator_70 (by decide) ?_
        refine lv_isub hx hb dX7_readOperator_71 ?_
        obtain ⟨hi, hf⟩ := k_ckE hf
        refine k_iald C hw (LC_8 LC) hi dX7_readOperator_72 ?_
        obtain ⟨q3, σ2, hq, hf⟩ := k_bdE hf
        refine k_callSi C hw (c_X7_rankOf l G Y w ad LC (σ1.1 8 (((σ1.1 7 7) - (1 : Int32))).toNatClampNeg) σ1 q3 σ2 hq) (va_cwS 1 hts gX7_readOperator_X7_rankOf rfl rfl rfl (by decide +kernel) ⟨Nat.le_of_ble_eq_true rfl, Nat.le_of_ble_eq_true rfl⟩) rfl hl.1 rfl (Nat.le_of_ble_eq_true rfl) dX7_readOperator_73 (fun H locs hw => ?_)
        refine lv_iload_n hx hb dX7_readOperator_76 rfl (lv_at hl 2 rfl) ?_
        refine lv_icmp_ne (tgt := 86) hx hb dX7_readOperator_77 (by decide) (fun h => ?_) (fun h => ?_)
        · have hf := k_ifF h hf
          exact b86 x1 σ2 _ _ _ (lv_sub hl [0, 1] rfl) hw hf
        · have hf := k_ifT h hf
          refine lv_aload_n hx hb dX7_readOperator_80 rfl (lv_at hl 0 rfl) ?_
          refine lv_iconst (v := (1 : Int32)) hx hb dX7_readOperator_81 (by decide) ?_
          obtain ⟨σ4, hq, hf⟩ := k_bvE hf
          refine k_callVv C hw (c_X7_fail l G Y w ad LC (1 : Int32) σ2 σ4 hq) (cwV 1 hts gX7_readOperator_X7_fail rfl rfl rfl (by decide +kernel) ⟨Nat.le_of_ble_eq_true rfl, Nat.le_of_ble_eq_true rfl⟩) (k_recv C hw (LC_7 LC) rfl) rfl hl.1 rfl (Nat.le_of_ble_eq_true rfl) dX7_readOperator_82 (fun H locs hw => ?_)
          exact k_vret C hw hf dX7_readOperator_85
  have b35 : ∀ (x1 : Int32) (x2 : Int32) (y0 : Int32) (σ : MSt) (H : Heap) (locs : List Loc) (ls : Array Slot), lv_has ls 4 [(0, .ref (ad 7)), (1, .int x1), (2, .int x2)] → k_W G w A s.heap σ H locs → f_X7_readOperator_b35 x1 x2 y0 σ = some σ' → W p l e rmX7_readOperator s m [.ref (ad 7), .int p1].toArray below meth c H locs 0 0 (MQ below (k_Qv G w A σ') [.ref (ad 7), .int p1].toArray s 0 0 A) (F0 m 35 ls [.int y0]) := by
    intro x1 x2 y0 σ H locs ls hl hw hf
    unfold f_X7_readOperator_b35 at hf
    refine lv_istore_n (lv' := [(3, .int y0), (0, .ref (ad 7)), (1, .int x1), (2, .int x2)]) hx hb dX7_readOperator_35 rfl hl (by decide) rfl (fun ls hl => ?_)
    refine lv_aload_n hx hb dX7_readOperator_36 rfl (lv_at hl 1 rfl) ?_
    refine lv_iload_n hx hb dX7_readOperator_37 rfl (lv_at hl 0 rfl) ?_
    refine lv_if_eq (tgt := 47) hx hb dX7_readOperator_38 (by decide) (fun h => ?_) (fun h => ?_)
    · have hf := k_ifT h hf
      refine lv_iload_n hx hb dX7_readOperator_47 rfl (lv_at hl 3 rfl) ?_
      exact b48 x1 x2 y0 x2 σ _ _ _ (lv_sub hl [1, 2, 3, 0] rfl) hw hf
    · have hf := k_ifF h hf
      refine lv_iload_n hx hb dX7_readOperator_41 rfl (lv_at hl 3 rfl) ?_
      refine lv_iconst (v := (1 : Int32)) hx hb dX7_readOperator_42 (by decide) ?_
      refine lv_iadd hx hb dX7_readOperator_43 ?_
      refine lv_goto (tgt := 48) hx hb dX7_readOperator_44 (by decide) ?_
      exact b48 x1 x2 y0 (x2 + (1 : Int32)) σ _ _ _ (lv_sub hl [1, 2, 3, 0] rfl) hw hf
  have b15 : ∀ (σ : MSt) (H : Heap) (locs : List Loc) (ls : Array Slot), lv_has ls 4 [(0, .ref (ad 7))] → k_W G w A s.heap σ H locs → f_X7_readOperator_b15 σ = some σ' → W p l e rmX7_readOperator s m [.ref (ad 7), .int p1].toArray below meth c H locs 0 0 (MQ below (k_Qv G w A σ') [.ref (ad 7), .int p1].toArray s 0 0 A) (F0 m 15 ls []) := by
    intro σ H locs ls hl hw hf
    unfold f_X7_readOperator_b15 at hf
    refine lv_aload_n hx hb dX7_readOperator_15 rfl (lv_at hl 0 rfl) ?_
    refine lv_iconst (v := (1 : Int32)) hx hb dX7_readOperator_16 (by decide) ?_
    obtain ⟨σ1, hq, hf⟩ := k_bvE hf
    refine k_callVv C hw (c_X7_fail l G Y w ad LC (1 : Int32) σ σ1 hq) (cwV 1 hts gX7_readOperator_X7_fail rfl rfl rfl (by decide +kernel) ⟨Nat.le_of_ble_eq_true rfl, Nat.le_of_ble_eq_true rfl⟩) (k_recv C hw (LC_7 LC) rfl) rfl hl.1 rfl (Nat.le_of_ble_eq_true rfl) dX7_readOperator_17 (fun H locs hw => ?_)
    exact k_vret C hw hf dX7_readOperator_20
  unfold f_X7_readOperator at hf
  refine lv_iload_n hx hb dX7_readOperator_0 rfl (lv_at hl 1 rfl) ?_
  obtain ⟨q3, σ2, hq, hf⟩ := k_bdE hf
  refine k_callSi C hw (c_X7_rankOf l G Y w ad LC p1 σ q3 σ2 hq) (va_cwS 1 hts gX7_readOperator_X7_rankOf rfl rfl rfl (by decide +kernel) ⟨Nat.le_of_ble_eq_true rfl, Nat.le_of_ble_eq_true rfl⟩) rfl hl.1 rfl (Nat.le_of_ble_eq_true rfl) dX7_readOperator_1 (fun H locs hw => ?_)
  refine lv_istore_n (lv' := [(2, .int q3), (0, .ref (ad 7)), (1, .int p1)]) hx hb dX7_readOperator_4 rfl hl (by decide) rfl (fun ls hl => ?_)
  refine lv_iload_n hx hb dX7_readOperator_5 rfl (lv_at hl 0 rfl) ?_
  refine lv_if_eq (tgt := 15) hx hb dX7_readOperator_6 (by decide) (fun h => ?_) (fun h => ?_)
  · have hf := k_ifT h hf
    exact b15 σ2 _ _ _ (lv_sub hl [1] rfl) hw hf
  · have hf := k_ifF h hf
    refine lv_iload_n hx hb dX7_readOperator_9 rfl (lv_at hl 2 rfl) ?_
    refine lv_bipush (v := (24 : Int32)) hx hb dX7_readOperator_10 (by decide) ?_
    refine lv_icmp_ne (tgt := 21) hx hb dX7_readOperator_12 (by decide) (fun h => ?_) (fun h => ?_)
    · have hf := k_ifF h hf
      refine lv_iload_n hx hb dX7_readOperator_21 rfl (lv_at hl 0 rfl) ?_
      refine lv_bipush (v := (49 : Int32)) hx hb dX7_readOperator_22 (by decide) ?_
      obtain ⟨q5, σ4, hq, hf⟩ := k_bdE hf
      refine k_callSi C hw (c_X7_rankOf l G Y w ad LC (49 : Int32) σ2 q5 σ4 hq) (va_cwS 1 hts gX7_readOperator_X7_rankOf rfl rfl rfl (by decide +kernel) ⟨Nat.le_of_ble_eq_true rfl, Nat.le_of_ble_eq_true rfl⟩) rfl hl.1 rfl (Nat.le_of_ble_eq_true rfl) dX7_readOperator_24 (fun H locs hw => ?_)
      refine lv_icmp_ne (tgt := 34) hx hb dX7_readOperator_27 (by decide) (fun h => ?_) (fun h => ?_)
      · have hf := k_ifF h hf
        refine lv_iconst (v := (0 : Int32)) hx hb dX7_readOperator_34 (by decide) ?_
        exact b35 p1 q3 (0 : Int32) σ4 _ _ _ (lv_sub hl [1, 2, 0] rfl) hw hf
      · have hf := k_ifT h hf
        refine lv_iconst (v := (1 : Int32)) hx hb dX7_readOperator_30 (by decide) ?_
        refine lv_goto (tgt := 35) hx hb dX7_readOperator_31 (by decide) ?_
        exact b35 p1 q3 (1 : Int32) σ4 _ _ _ (lv_sub hl [1, 2, 0] rfl) hw hf
    · have hf := k_ifT h hf
      exact b15 σ2 _ _ _ (lv_sub hl [1] rfl) hw hf
def f_X7_readExpression_b127   (σ : MSt) : Option MSt :=
  k_bv (f_X7_tellDownTo (0 : Int32) σ) fun σ1 =>
  some σ1
def f_X7_readExpression_b121  (r22 : Int32 → MSt → Option MSt) (x1 : Int32) (σ : MSt) : Option MSt :=
  k_nm (x1 + (1 : Int32)) fun u1 =>
  r22 u1 σ
def f_X7_readExpression_b104  (r22 : Int32 → MSt → Option MSt) (x1 : Int32) (σ : MSt) : Option MSt :=
  if (σ.1 7 4) = 0 then
  (k_nm (mI σ 7 2 ((σ.1 7 2) + (1 : Int32))) fun σ1 =>
  f_X7_readExpression_b121 r22 x1 σ1)
  else
  (f_X7_readExpression_b121 r22 x1 σ)
def f_X7_readExpression_b99  (r22 : Int32 → MSt → Option MSt) (x1 : Int32) (x2 : Int32) (σ : MSt) : Option MSt :=
  k_bv (f_X7_readOperator x2 σ) fun σ1 =>
  f_X7_readExpression_b104 r22 x1 σ1
def f_X7_readExpression_b79  (r22 : Int32 → MSt → Option MSt) (x1 : Int32) (x2 : Int32) (σ : MSt) : Option MSt :=
  if x2 = (42 : Int32) then
  (if (σ.1 7 9) ≤ 0 then
  (f_X7_readExpression_b99 r22 x1 x2 σ)
  else
  (k_bv (f_X7_closeOne σ) fun σ1 =>
  f_X7_readExpression_b104 r22 x1 σ1))
  else
  (f_X7_readExpression_b99 r22 x1 x2 σ)
def f_X7_readExpression_b22_s  (r22 : Int32 → MSt → Option MSt) (x1 : Int32) (σ : MSt) : Option MSt :=
  if (700 : Int32) < x1 then
  (f_X7_readExpression_b127 σ)
  else
  (if (σ.1 7 4) = 0 then
  (k_bd (f_X9_sortOf (σ.1 7 2) σ) fun q2 σ1 =>
  if (σ1.1 7 10) = 0 then
  (if q2 = (40 : Int32) then
  (if (σ1.1 7 9) = 0 then
  (f_X7_readExpression_b127 σ1)
  else
  (f_X7_readExpression_b79 r22 x1 q2 σ1))
  else
  (f_X7_readExpression_b79 r22 x1 q2 σ1))
  else
  (k_bv (f_X7_readOperand q2 σ1) fun σ3 =>
  f_X7_readExpression_b104 r22 x1 σ3))
  else
  (f_X7_readExpression_b127 σ))
def f_X7_readExpression_b22  : Nat → Int32 → MSt → Option MSt
  | 0 => fun _ _ => none
  | n + 1 => f_X7_readExpression_b22_s (f_X7_readExpression_b22 n)
def f_X7_readExpression   (σ : MSt) : Option MSt :=
  k_nm (mI σ 7 7 (0 : Int32)) fun σ4 =>
  k_nm (mI σ4 7 9 (0 : Int32)) fun σ5 =>
  k_nm (mI σ5 7 10 (1 : Int32)) fun σ6 =>
  k_nm (mI σ6 7 11 (1 : Int32)) fun σ7 =>
  f_X7_readExpression_b22 FU (0 : Int32) σ7
def rmX7_readExpression : Room := { frames := 3, cells := 0, slots := 0, locals := 66 }
set_option maxHeartbeats 4000000 in
set_option maxRecDepth 100000 in
theorem c_X7_readExpression (l : Launch) (G : va_G) (Y : CY) (w : MSt → va_W) (ad : Nat → Nat)  (LC : LayC ad w Y)  (σ : MSt) (σ' : MSt) (hf : f_X7_readExpression σ = some σ') : k_Mv l yX7_readExpression wsX7_readExpression rmX7_readExpression G Y w [.ref (ad 7)] σ σ' := by
  refine k_ofv (own := RX7) (cc := cX7_readExpression) (maxL := 3) none (by decide) rfl rfl (Nat.le_of_ble_eq_true rfl) ?_
  intro p e s m below meth c A C ls hl hw
  have hx := C.1
  have hb := C.2.1
  have hown := C.2.2.2.2.1
  have hts := C.2.2.2.2.2.1
  have hks := C.2.2.2.2.2.2.1
  have hl : lv_has ls 3 [(0, .ref (ad 7))] := hl
  have b127 : ∀ (σ : MSt) (H : Heap) (locs : List Loc) (ls : Array Slot), lv_has ls 3 [(0, .ref (ad 7))] → k_W G w A s.heap σ H locs → f_X7_readExpression_b127 σ = some σ' → W p l e rmX7_readExpression s m [.ref (ad 7)].toArray below meth c H locs 0 0 (MQ below (k_Qv G w A σ') [.ref (ad 7)].toArray s 0 0 A) (F0 m 127 ls []) := by
    intro σ H locs ls hl hw hf
    unfold f_X7_readExpression_b127 at hf
    refine lv_aload_n hx hb dX7_readExpression_127 rfl (lv_at hl 0 rfl) ?_
    refine lv_iconst (v := (0 : Int32)) hx hb dX7_readExpression_128 (by decide) ?_
    obtain ⟨σ1, hq, hf⟩ := k_bvE hf
    refine k_callVv C hw (c_X7_tellDownTo l G Y w ad LC (0 : Int32) σ σ1 hq) (cwV 1 hts gX7_readExpression_X7_tellDownTo rfl rfl rfl (by decide +kernel) ⟨Nat.le_of_ble_eq_true rfl, Nat.le_of_ble_eq_true rfl⟩) (k_recv C hw (LC_7 LC) rfl) rfl hl.1 rfl (Nat.le_of_ble_eq_true rfl) dX7_readExpression_129 (fun H locs hw => ?_)
    exact k_vret C hw hf dX7_readExpression_132
  have b22 : ∀ (n22 : Nat) (x1 : Int32) (σ : MSt) (H : Heap) (locs : List Loc) (ls : Array Slot), lv_has ls 3 [(0, .ref (ad 7)), (1, .int x1)] → k_W G w A s.heap σ H locs → f_X7_readExpression_b22 n22 x1 σ = some σ' → W p l e rmX7_readExpression s m [.ref (ad 7)].toArray below meth c H locs 0 0 (MQ below (k_Qv G w A σ') [.ref (ad 7)].toArray s 0 0 A) (F0 m 22 ls []) := by
    intro n22
    induction n22 with
    | zero =>
      intro x1 σ H locs ls hl hw hf
      have hf : (none : Option MSt) = some σ' := hf
      cases hf
    | succ n22 ih22 =>
      have b121 : ∀ (x1 : Int32) (σ : MSt) (H : Heap) (locs : List Loc) (ls : Array Slot), lv_has ls 3 [(0, .ref (ad 7)), (1, .int x1)] → k_W G w A s.heap σ H locs → f_X7_readExpression_b121 (f_X7_readExpression_b22 n22) x1 σ = some σ' → W p l e rmX7_readExpression s m [.ref (ad 7)].toArray below meth c H locs 0 0 (MQ below (k_Qv G w A σ') [.ref (ad 7)].toArray s 0 0 A) (F0 m 121 ls []) := by
        intro x1 σ H locs ls hl hw hf
        unfold f_X7_readExpression_b121 at hf
        obtain ⟨u1, ex⟩ : ∃ y : Int32, y = (x1 + (1 : Int32)) := ⟨_, rfl⟩
        have hf := k_nmE ex hf
        refine lv_iinc (v := u1) (lv' := [(1, .int u1), (0, .ref (ad 7))]) hx hb dX7_readExpression_121 hl (k := 1) rfl (by rw [ex]; rfl) (by decide) rfl (fun ls hl => ?_)
        refine lv_goto (tgt := 22) hx hb dX7_readExpression_124 (by decide) ?_
        exact ih22 u1 σ _ _ _ (lv_sub hl [1, 0] rfl) hw hf
      have b104 : ∀ (x1 : Int32) (σ : MSt) (H : Heap) (locs : List Loc) (ls : Array Slot), lv_has ls 3 [(0, .ref (ad 7)), (1, .int x1)] → k_W G w A s.heap σ H locs → f_X7_readExpression_b104 (f_X7_readExpression_b22 n22) x1 σ = some σ' → W p l e rmX7_readExpression s m [.ref (ad 7)].toArray below meth c H locs 0 0 (MQ below (k_Qv G w A σ') [.ref (ad 7)].toArray s 0 0 A) (F0 m 104 ls []) := by
        intro x1 σ H locs ls hl hw hf
        unfold f_X7_readExpression_b104 at hf
        refine lv_aload_n hx hb dX7_readExpression_104 rfl (lv_at hl 0 rfl) ?_
        refine k_get C hw (LC_7 LC) (ci := 7) rfl k_in7 4 (by decide) lk7_35 (v := .int (σ.1 7 4)) rfl dX7_readExpression_105 ?_
        refine lv_if_ne (tgt := 121) hx hb dX7_readExpression_108 (by decide) (fun h => ?_) (fun h => ?_)
        · have hf := k_ifF h hf
          exact b121 x1 σ _ _ _ (lv_sub hl [0, 1] rfl) hw hf
        · have hf := k_ifT h hf
          refine lv_aload_n hx hb dX7_readExpression_111 rfl (lv_at hl 0 rfl) ?_
          refine lv_dup hx hb dX7_readExpression_112 rfl ?_
          refine k_get C hw (LC_7 LC) (ci := 7) rfl k_in7 2 (by decide) lk7_28 (v := .int (σ.1 7 2)) rfl dX7_readExpression_113 ?_
          refine lv_iconst (v := (1 : Int32)) hx hb dX7_readExpression_116 (by decide) ?_
          refine lv_iadd hx hb dX7_readExpression_117 ?_
          refine k_put C hw (LC_7 LC) (ci := 7) rfl k_in7 tyX7 tyX7_ok nmX7 2 (by decide) lk7_28 rfl ⟨rfl, rfl⟩ rfl dX7_readExpression_118 (fun σ1 eq H locs hw => ?_)
          have hf := k_nmE eq hf
          exact b121 x1 σ1 _ _ _ (lv_sub hl [0, 1] rfl) hw hf
      have b99 : ∀ (x1 : Int32) (x2 : Int32) (σ : MSt) (H : Heap) (locs : List Loc) (ls : Array Slot), lv_has ls 3 [(0, .ref (ad 7)), (1, .int x1), (2, .int x2)] → k_W G w A s.heap σ H locs → f_X7_readExpression_b99 (f_X7_readExpression_b22 n22) x1 x2 σ = some σ' → W p l e rmX7_readExpression s m [.ref (ad 7)].toArray below meth c H locs 0 0 (MQ below (k_Qv G w A σ') [.ref (ad 7)].toArray s 0 0 A) (F0 m 99 ls []) := by
        intro x1 x2 σ H locs ls hl hw hf
        unfold f_X7_readExpression_b99 at hf
        refine lv_aload_n hx hb dX7_readExpression_99 rfl (lv_at hl 0 rfl) ?_
        refine lv_iload_n hx hb dX7_readExpression_100 rfl (lv_at hl 2 rfl) ?_
        obtain ⟨σ1, hq, hf⟩ := k_bvE hf
        refine k_callVv C hw (c_X7_readOperator l G Y w ad LC x2 σ σ1 hq) (cwV 1 hts gX7_readExpression_X7_readOperator rfl rfl rfl (by decide +kernel) ⟨Nat.le_of_ble_eq_true rfl, Nat.le_of_ble_eq_true rfl⟩) (k_recv C hw (LC_7 LC) rfl) rfl hl.1 rfl (Nat.le_of_ble_eq_true rfl) dX7_readExpression_101 (fun H locs hw => ?_)
        exact b104 x1 σ1 _ _ _ (lv_sub hl [0, 1] rfl) hw hf
      have b79 : ∀ (x1 : Int32) (x2 : Int32) (σ : MSt) (H : Heap) (locs : List Loc) (ls : Array Slot), lv_has ls 3 [(0, .ref (ad 7)), (1, .int x1), (2, .int x2)] → k_W G w A s.heap σ H locs → f_X7_readExpression_b79 (f_X7_readExpression_b22 n22) x1 x2 σ = some σ' → W p l e rmX7_readExpression s m [.ref (ad 7)].toArray below meth c H locs 0 0 (MQ below (k_Qv G w A σ') [.ref (ad 7)].toArray s 0 0 A) (F0 m 79 ls []) := by
        intro x1 x2 σ H locs ls hl hw hf
        unfold f_X7_readExpression_b79 at hf
        refine lv_iload_n hx hb dX7_readExpression_79 rfl (lv_at hl 2 rfl) ?_
        refine lv_bipush (v := (42 : Int32)) hx hb dX7_readExpression_80 (by decide) ?_
        refine lv_icmp_ne (tgt := 99) hx hb dX7_readExpression_82 (by decide) (fun h => ?_) (fun h => ?_)
        · have hf := k_ifF h hf
          exact b99 x1 x2 σ _ _ _ (lv_sub hl [0, 1, 2] rfl) hw hf
        · have hf := k_ifT h hf
          refine lv_aload_n hx hb dX7_readExpression_85 rfl (lv_at hl 0 rfl) ?_
          refine k_get C hw (LC_7 LC) (ci := 7) rfl k_in7 9 (by decide) lk7_161 (v := .int (σ.1 7 9)) rfl dX7_readExpression_86 ?_
          refine lv_if_le (tgt := 99) hx hb dX7_readExpression_89 (by decide) (fun h => ?_) (fun h => ?_)
          · have hf := k_ifT h hf
            exact b99 x1 x2 σ _ _ _ (lv_sub hl [0, 1, 2] rfl) hw hf
          · have hf := k_ifF h hf
            refine lv_aload_n hx hb dX7_readExpression_92 rfl (lv_at hl 0 rfl) ?_
            obtain ⟨σ1, hq, hf⟩ := k_bvE hf
            refine k_callVv C hw (c_X7_closeOne l G Y w ad LC σ σ1 hq) (cwV 0 hts gX7_readExpression_X7_closeOne rfl rfl rfl (by decide +kernel) ⟨Nat.le_of_ble_eq_true rfl, Nat.le_of_ble_eq_true rfl⟩) (k_recv C hw (LC_7 LC) rfl) rfl hl.1 rfl (Nat.le_of_ble_eq_true rfl) dX7_readExpression_93 (fun H locs hw => ?_)
            refine lv_goto (tgt := 104) hx hb dX7_readExpression_96 (by decide) ?_
            exact b104 x1 σ1 _ _ _ (lv_sub hl [0, 1] rfl) hw hf
      intro x1 σ H locs ls hl hw hf
      have hf : f_X7_readExpression_b22_s (f_X7_readExpression_b22 n22) x1 σ = some σ' := hf
      unfold f_X7_readExpression_b22_s at hf
      refine lv_iload_n hx hb dX7_readExpression_22 rfl (lv_at hl 1 rfl) ?_
      refine lv_sipush (v := (700 : Int32)) hx hb dX7_readExpression_23 (by decide) ?_
      refine lv_icmp_gt (tgt := 127) hx hb dX7_readExpression_26 (by decide) (fun h => ?_) (fun h => ?_)
      · have hf := k_ifT h hf
        exact b127 σ _ _ _ (lv_sub hl [0] rfl) hw hf
      · have hf := k_ifF h hf
        refine lv_aload_n hx hb dX7_readExpression_29 rfl (lv_at hl 0 rfl) ?_
        refine k_get C hw (LC_7 LC) (ci := 7) rfl k_in7 4 (by decide) lk7_35 (v := .int (σ.1 7 4)) rfl dX7_readExpression_30 ?_
        refine lv_if_ne (tgt := 127) hx hb dX7_readExpression_33 (by decide) (fun h => ?_) (fun h => ?_)
        · have hf := k_ifF h hf
          exact b127 σ _ _ _ (lv_sub hl [0] rfl) hw hf
        · have hf := k_ifT h hf
          refine lv_aload_n hx hb dX7_readExpression_36 rfl (lv_at hl 0 rfl) ?_
          refine k_get C hw (LC_7 LC) (ci := 7) rfl k_in7 0 (by decide) lk7_15 (v := .ref (ad 1)) rfl dX7_readExpression_37 ?_
          refine lv_aload_n hx hb dX7_readExpression_40 rfl (lv_at hl 0 rfl) ?_
          refine k_get C hw (LC_7 LC) (ci := 7) rfl k_in7 2 (by decide) lk7_28 (v := .int (σ.1 7 2)) rfl dX7_readExpression_41 ?_
          obtain ⟨q2, σ1, hq, hf⟩ := k_bdE hf
          refine k_callVi C hw (c_X9_sortOf l G Y w ad LC (σ.1 7 2) σ q2 σ1 hq) (cwV 1 hts gX7_readExpression_X9_sortOf rfl rfl rfl (by decide +kernel) ⟨Nat.le_of_ble_eq_true rfl, Nat.le_of_ble_eq_true rfl⟩) (k_recv C hw (LC_1 LC) rfl) rfl hl.1 rfl (Nat.le_of_ble_eq_true rfl) dX7_readExpression_44 (fun H locs hw => ?_)
          refine lv_istore_n (lv' := [(2, .int q2), (0, .ref (ad 7)), (1, .int x1)]) hx hb dX7_readExpression_47 rfl hl (by decide) rfl (fun ls hl => ?_)
          refine lv_aload_n hx hb dX7_readExpression_48 rfl (lv_at hl 1 rfl) ?_
          refine k_get C hw (LC_7 LC) (ci := 7) rfl k_in7 10 (by decide) lk7_164 (v := .int (σ1.1 7 10)) rfl dX7_readExpression_49 ?_
          refine lv_if_eq (tgt := 63) hx hb dX7_readExpression_52 (by decide) (fun h => ?_) (fun h => ?_)
          · have hf := k_ifT h hf
            refine lv_iload_n hx hb dX7_readExpression_63 rfl (lv_at hl 0 rfl) ?_
            refine lv_bipush (v := (40 : Int32)) hx hb dX7_readExpression_64 (by decide) ?_
            refine lv_icmp_ne (tgt := 79) hx hb dX7_readExpression_66 (by decide) (fun h => ?_) (fun h => ?_)
            · have hf := k_ifF h hf
              exact b79 x1 q2 σ1 _ _ _ (lv_sub hl [1, 2, 0] rfl) hw hf
            · have hf := k_ifT h hf
              refine lv_aload_n hx hb dX7_readExpression_69 rfl (lv_at hl 1 rfl) ?_
              refine k_get C hw (LC_7 LC) (ci := 7) rfl k_in7 9 (by decide) lk7_161 (v := .int (σ1.1 7 9)) rfl dX7_readExpression_70 ?_
              refine lv_if_ne (tgt := 79) hx hb dX7_readExpression_73 (by decide) (fun h => ?_) (fun h => ?_)
              · have hf := k_ifF h hf
                exact b79 x1 q2 σ1 _ _ _ (lv_sub hl [1, 2, 0] rfl) hw hf
              · have hf := k_ifT h hf
                refine lv_goto (tgt := 127) hx hb dX7_readExpression_76 (by decide) ?_
                exact b127 σ1 _ _ _ (lv_sub hl [1] rfl) hw hf
          · have hf := k_ifF h hf
            refine lv_aload_n hx hb dX7_readExpression_55 rfl (lv_at hl 1 rfl) ?_
            refine lv_iload_n hx hb dX7_readExpression_56 rfl (lv_at hl 0 rfl) ?_
            obtain ⟨σ3, hq, hf⟩ := k_bvE hf
            refine k_callVv C hw (c_X7_readOperand l G Y w ad LC q2 σ1 σ3 hq) (cwV 1 hts gX7_readExpression_X7_readOperand rfl rfl rfl (by decide +kernel) ⟨Nat.le_of_ble_eq_true rfl, Nat.le_of_ble_eq_true rfl⟩) (k_recv C hw (LC_7 LC) rfl) rfl hl.1 rfl (Nat.le_of_ble_eq_true rfl) dX7_readExpression_57 (fun H locs hw => ?_)
            refine lv_goto (tgt := 104) hx hb dX7_readExpression_60 (by decide) ?_
            exact b104 x1 σ3 _ _ _ (lv_sub hl [1, 2] rfl) hw hf
  unfold f_X7_readExpression at hf
  refine lv_aload_n hx hb dX7_readExpression_0 rfl (lv_at hl 0 rfl) ?_
  refine lv_iconst (v := (0 : Int32)) hx hb dX7_readExpression_1 (by decide) ?_
  refine k_put C hw (LC_7 LC) (ci := 7) rfl k_in7 tyX7 tyX7_ok nmX7 7 (by decide) lk7_158 rfl ⟨rfl, rfl⟩ rfl dX7_readExpression_2 (fun σ4 eq H locs hw => ?_)
  have hf := k_nmE eq hf
  refine lv_aload_n hx hb dX7_readExpression_5 rfl (lv_at hl 0 rfl) ?_
  refine lv_iconst (v := (0 : Int32)) hx hb dX7_readExpression_6 (by decide) ?_
  refine k_put C hw (LC_7 LC) (ci := 7) rfl k_in7 tyX7 tyX7_ok nmX7 9 (by decide) lk7_161 rfl ⟨rfl, rfl⟩ rfl dX7_readExpression_7 (fun σ5 eq H locs hw => ?_)
  have hf := k_nmE eq hf
  refine lv_aload_n hx hb dX7_readExpression_10 rfl (lv_at hl 0 rfl) ?_
  refine lv_iconst (v := (1 : Int32)) hx hb dX7_readExpression_11 (by decide) ?_
  refine k_put C hw (LC_7 LC) (ci := 7) rfl k_in7 tyX7 tyX7_ok nmX7 10 (by decide) lk7_164 rfl ⟨rfl, rfl⟩ rfl dX7_readExpression_12 (fun σ6 eq H locs hw => ?_)
  have hf := k_nmE eq hf
  refine lv_aload_n hx hb dX7_readExpression_15 rfl (lv_at hl 0 rfl) ?_
  refine lv_iconst (v := (1 : Int32)) hx hb dX7_readExpression_16 (by decide) ?_
  refine k_put C hw (LC_7 LC) (ci := 7) rfl k_in7 tyX7 tyX7_ok nmX7 11 (by decide) lk7_168 rfl ⟨rfl, rfl⟩ rfl dX7_readExpression_17 (fun σ7 eq H locs hw => ?_)
  have hf := k_nmE eq hf
  refine lv_iconst (v := (0 : Int32)) hx hb dX7_readExpression_20 (by decide) ?_
  refine lv_istore_n (lv' := [(1, .int (0 : Int32)), (0, .ref (ad 7))]) hx hb dX7_readExpression_21 rfl hl (by decide) rfl (fun ls hl => ?_)
  exact b22 FU (0 : Int32) σ7 _ _ _ (lv_sub hl [1, 0] rfl) hw hf
def f_X7_readLaw_b34   (σ : MSt) : Option MSt :=
  k_bv (f_X7_fail (1 : Int32) σ) fun σ1 =>
  some σ1
def f_X7_readLaw   (σ : MSt) : Option MSt :=
  k_nm (mI σ 7 2 ((σ.1 7 2) + (1 : Int32))) fun σ2 =>
  k_bd (f_X9_sortOf (σ2.1 7 2) σ2) fun q4 σ3 =>
  k_nm (q4 - (19 : Int32)) fun u5 =>
  if u5 < 0 then
  (f_X7_readLaw_b34 σ3)
  else
  (if u5 ≤ (2 : Int32) then
  (k_bd (f_X9_sortOf (σ3.1 7 2) σ3) fun q7 σ6 =>
  k_bv (f_X7_needOnce q7 σ6) fun σ8 =>
  k_nm (mI σ8 7 2 ((σ8.1 7 2) + (1 : Int32))) fun σ9 =>
  k_ck (k_ch (σ9.1 7 1)) <|
  k_nm (σ9.1 7 1).toNatClampNeg fun o1066 =>
  k_bv (f_X4_begin (o1066 + 7) u5 σ9) fun σ10 =>
  k_bv (f_X7_readExpression σ10) fun σ11 =>
  k_ck (k_ch (σ11.1 7 1)) <|
  k_nm (σ11.1 7 1).toNatClampNeg fun o1081 =>
  k_bv (f_X4_end (o1081 + 7) u5 σ11) fun σ12 =>
  some σ12)
  else
  (f_X7_readLaw_b34 σ3))
def rmX7_readLaw : Room := { frames := 4, cells := 0, slots := 0, locals := 88 }
set_option maxHeartbeats 4000000 in
set_option maxRecDepth 100000 in
theorem c_X7_readLaw (l : Launch) (G : va_G) (Y : CY) (w : MSt → va_W) (ad : Nat → Nat)  (LC : LayC ad w Y)  (σ : MSt) (σ' : MSt) (hf : f_X7_readLaw σ = some σ') : k_Mv l yX7_readLaw wsX7_readLaw rmX7_readLaw G Y w [.ref (ad 7)] σ σ' := by
  refine k_ofv (own := RX7) (cc := cX7_readLaw) (maxL := 2) none (by decide) rfl rfl (Nat.le_of_ble_eq_true rfl) ?_
  intro p e s m below meth c A C ls hl hw
  have hx := C.1
  have hb := C.2.1
  have hown := C.2.2.2.2.1
  have hts := C.2.2.2.2.2.1
  have hks := C.2.2.2.2.2.2.1
  have hl : lv_has ls 2 [(0, .ref (ad 7))] := hl
  have b34 : ∀ (σ : MSt) (H : Heap) (locs : List Loc) (ls : Array Slot), lv_has ls 2 [(0, .ref (ad 7))] → k_W G w A s.heap σ H locs → f_X7_readLaw_b34 σ = some σ' → W p l e rmX7_readLaw s m [.ref (ad 7)].toArray below meth c H locs 0 0 (MQ below (k_Qv G w A σ') [.ref (ad 7)].toArray s 0 0 A) (F0 m 34 ls []) := by
    intro σ H locs ls hl hw hf
    unfold f_X7_readLaw_b34 at hf
    refine lv_aload_n hx hb dX7_readLaw_34 rfl (lv_at hl 0 rfl) ?_
    refine lv_iconst (v := (1 : Int32)) hx hb dX7_readLaw_35 (by decide) ?_
    obtain ⟨σ1, hq, hf⟩ := k_bvE hf
    refine k_callVv C hw (c_X7_fail l G Y w ad LC (1 : Int32) σ σ1 hq) (cwV 1 hts gX7_readLaw_X7_fail rfl rfl rfl (by decide +kernel) ⟨Nat.le_of_ble_eq_true rfl, Nat.le_of_ble_eq_true rfl⟩) (k_recv C hw (LC_7 LC) rfl) rfl hl.1 rfl (Nat.le_of_ble_eq_true rfl) dX7_readLaw_36 (fun H locs hw => ?_)
    exact k_vret C hw hf dX7_readLaw_39
  unfold f_X7_readLaw at hf
  refine lv_aload_n hx hb dX7_readLaw_0 rfl (lv_at hl 0 rfl) ?_
  refine lv_dup hx hb dX7_readLaw_1 rfl ?_
  refine k_get C hw (LC_7 LC) (ci := 7) rfl k_in7 2 (by decide) lk7_28 (v := .int (σ.1 7 2)) rfl dX7_readLaw_2 ?_
  refine lv_iconst (v := (1 : Int32)) hx hb dX7_readLaw_5 (by decide) ?_
  refine lv_iadd hx hb dX7_readLaw_6 ?_
  refine k_put C hw (LC_7 LC) (ci := 7) rfl k_in7 tyX7 tyX7_ok nmX7 2 (by decide) lk7_28 rfl ⟨rfl, rfl⟩ rfl dX7_readLaw_7 (fun σ2 eq H locs hw => ?_)
  have hf := k_nmE eq hf
  refine lv_aload_n hx hb dX7_readLaw_10 rfl (lv_at hl 0 rfl) ?_
  refine k_get C hw (LC_7 LC) (ci := 7) rfl k_in7 0 (by decide) lk7_15 (v := .ref (ad 1)) rfl dX7_readLaw_11 ?_
  refine lv_aload_n hx hb dX7_readLaw_14 rfl (lv_at hl 0 rfl) ?_
  refine k_get C hw (LC_7 LC) (ci := 7) rfl k_in7 2 (by decide) lk7_28 (v := .int (σ2.1 7 2)) rfl dX7_readLaw_15 ?_
  obtain ⟨q4, σ3, hq, hf⟩ := k_bdE hf
  refine k_callVi C hw (c_X9_sortOf l G Y w ad LC (σ2.1 7 2) σ2 q4 σ3 hq) (cwV 1 hts gX7_readLaw_X9_sortOf rfl rfl rfl (by decide +kernel) ⟨Nat.le_of_ble_eq_true rfl, Nat.le_of_ble_eq_true rfl⟩) (k_recv C hw (LC_1 LC) rfl) rfl hl.1 rfl (Nat.le_of_ble_eq_true rfl) dX7_readLaw_18 (fun H locs hw => ?_)
  refine lv_bipush (v := (19 : Int32)) hx hb dX7_readLaw_21 (by decide) ?_
  refine lv_isub hx hb dX7_readLaw_23 ?_
  refine lv_topi (fun u5 ex => ?_)
  have hf := k_nmE ex hf
  refine lv_istore_n (lv' := [(1, .int u5), (0, .ref (ad 7))]) hx hb dX7_readLaw_24 rfl hl (by decide) rfl (fun ls hl => ?_)
  refine lv_iload_n hx hb dX7_readLaw_25 rfl (lv_at hl 0 rfl) ?_
  refine lv_if_lt (tgt := 34) hx hb dX7_readLaw_26 (by decide) (fun h => ?_) (fun h => ?_)
  · have hf := k_ifT h hf
    exact b34 σ3 _ _ _ (lv_sub hl [1] rfl) hw hf
  · have hf := k_ifF h hf
    refine lv_iload_n hx hb dX7_readLaw_29 rfl (lv_at hl 0 rfl) ?_
    refine lv_iconst (v := (2 : Int32)) hx hb dX7_readLaw_30 (by decide) ?_
    refine lv_icmp_le (tgt := 40) hx hb dX7_readLaw_31 (by decide) (fun h => ?_) (fun h => ?_)
    · have hf := k_ifT h hf
      refine lv_aload_n hx hb dX7_readLaw_40 rfl (lv_at hl 1 rfl) ?_
      refine lv_aload_n hx hb dX7_readLaw_41 rfl (lv_at hl 1 rfl) ?_
      refine k_get C hw (LC_7 LC) (ci := 7) rfl k_in7 0 (by decide) lk7_15 (v := .ref (ad 1)) rfl dX7_readLaw_42 ?_
      refine lv_aload_n hx hb dX7_readLaw_45 rfl (lv_at hl 1 rfl) ?_
      refine k_get C hw (LC_7 LC) (ci := 7) rfl k_in7 2 (by decide) lk7_28 (v := .int (σ3.1 7 2)) rfl dX7_readLaw_46 ?_
      obtain ⟨q7, σ6, hq, hf⟩ := k_bdE hf
      refine k_callVi C hw (c_X9_sortOf l G Y w ad LC (σ3.1 7 2) σ3 q7 σ6 hq) (cwV 1 hts gX7_readLaw_X9_sortOf rfl rfl rfl (by decide +kernel) ⟨Nat.le_of_ble_eq_true rfl, Nat.le_of_ble_eq_true rfl⟩) (k_recv C hw (LC_1 LC) rfl) rfl hl.1 rfl (Nat.le_of_ble_eq_true rfl) dX7_readLaw_49 (fun H locs hw => ?_)
      obtain ⟨σ8, hq, hf⟩ := k_bvE hf
      refine k_callVv C hw (c_X7_needOnce l G Y w ad LC q7 σ6 σ8 hq) (cwV 1 hts gX7_readLaw_X7_needOnce rfl rfl rfl (by decide +kernel) ⟨Nat.le_of_ble_eq_true rfl, Nat.le_of_ble_eq_true rfl⟩) (k_recv C hw (LC_7 LC) rfl) rfl hl.1 rfl (Nat.le_of_ble_eq_true rfl) dX7_readLaw_52 (fun H locs hw => ?_)
      refine lv_aload_n hx hb dX7_readLaw_55 rfl (lv_at hl 1 rfl) ?_
      refine lv_dup hx hb dX7_readLaw_56 rfl ?_
      refine k_get C hw (LC_7 LC) (ci := 7) rfl k_in7 2 (by decide) lk7_28 (v := .int (σ8.1 7 2)) rfl dX7_readLaw_57 ?_
      refine lv_iconst (v := (1 : Int32)) hx hb dX7_readLaw_60 (by decide) ?_
      refine lv_iadd hx hb dX7_readLaw_61 ?_
      refine k_put C hw (LC_7 LC) (ci := 7) rfl k_in7 tyX7 tyX7_ok nmX7 2 (by decide) lk7_28 rfl ⟨rfl, rfl⟩ rfl dX7_readLaw_62 (fun σ9 eq H locs hw => ?_)
      have hf := k_nmE eq hf
      refine lv_aload_n hx hb dX7_readLaw_65 rfl (lv_at hl 1 rfl) ?_
      obtain ⟨hc, hf⟩ := k_ckE hf
      obtain ⟨o1066, eo⟩ : ∃ y : Nat, y = (σ9.1 7 1).toNatClampNeg := ⟨_, rfl⟩
      have hf := k_nmE eo hf
      have Lo1066 := k_chL LC hc eo
      refine k_get C hw (LC_7 LC) (ci := 7) rfl k_in7 1 (by decide) lk7_19 (v := .ref (ad o1066)) (congrArg some (k_chR hc eo)) dX7_readLaw_66 ?_
      refine k_getN C hw (LX0_o Lo1066) (ci := 0) rfl k_in0 6 (by decide) ln7_143 (v := .ref (ad (o1066 + 7))) rfl dX7_readLaw_69 ?_
      refine lv_iload_n hx hb dX7_readLaw_72 rfl (lv_at hl 0 rfl) ?_
      obtain ⟨σ10, hq, hf⟩ := k_bvE hf
      refine k_callVv C hw (c_X4_begin l G Y w ad (o1066 + 7) (LX0_laws Lo1066) u5 σ9 σ10 hq) (cwV 1 hts gX7_readLaw_X4_begin rfl rfl rfl (by decide +kernel) ⟨Nat.le_of_ble_eq_true rfl, Nat.le_of_ble_eq_true rfl⟩) (k_recv C hw (LX4_o (LX0_laws Lo1066)) rfl) rfl hl.1 rfl (Nat.le_of_ble_eq_true rfl) dX7_readLaw_73 (fun H locs hw => ?_)
      refine lv_aload_n hx hb dX7_readLaw_76 rfl (lv_at hl 1 rfl) ?_
      obtain ⟨σ11, hq, hf⟩ := k_bvE hf
      refine k_callVv C hw (c_X7_readExpression l G Y w ad LC σ10 σ11 hq) (cwV 0 hts gX7_readLaw_X7_readExpression rfl rfl rfl (by decide +kernel) ⟨Nat.le_of_ble_eq_true rfl, Nat.le_of_ble_eq_true rfl⟩) (k_recv C hw (LC_7 LC) rfl) rfl hl.1 rfl (Nat.le_of_ble_eq_true rfl) dX7_readLaw_77 (fun H locs hw => ?_)
      refine lv_aload_n hx hb dX7_readLaw_80 rfl (lv_at hl 1 rfl) ?_
      obtain ⟨hc, hf⟩ := k_ckE hf
      obtain ⟨o1081, eo⟩ : ∃ y : Nat, y = (σ11.1 7 1).toNatClampNeg := ⟨_, rfl⟩
      have hf := k_nmE eo hf
      have Lo1081 := k_chL LC hc eo
      refine k_get C hw (LC_7 LC) (ci := 7) rfl k_in7 1 (by decide) lk7_19 (v := .ref (ad o1081)) (congrArg some (k_chR hc eo)) dX7_readLaw_81 ?_
      refine k_getN C hw (LX0_o Lo1081) (ci := 0) rfl k_in0 6 (by decide) ln7_143 (v := .ref (ad (o1081 + 7))) rfl dX7_readLaw_84 ?_
      refine lv_iload_n hx hb dX7_readLaw_87 rfl (lv_at hl 0 rfl) ?_
      obtain ⟨σ12, hq, hf⟩ := k_bvE hf
      refine k_callVv C hw (c_X4_end l G Y w ad (o1081 + 7) (LX0_laws Lo1081) u5 σ11 σ12 hq) (cwV 1 hts gX7_readLaw_X4_end rfl rfl rfl (by decide +kernel) ⟨Nat.le_of_ble_eq_true rfl, Nat.le_of_ble_eq_true rfl⟩) (k_recv C hw (LX4_o (LX0_laws Lo1081)) rfl) rfl hl.1 rfl (Nat.le_of_ble_eq_true rfl) dX7_readLaw_88 (fun H locs hw => ?_)
      exact k_vret C hw hf dX7_readLaw_91
    · have hf := k_ifF h hf
      exact b34 σ3 _ _ _ (lv_sub hl [1] rfl) hw hf
def f_X7_readLine_b146   (σ : MSt) : Option MSt :=
  k_nm (mI σ 7 2 ((σ.1 7 2) + (1 : Int32))) fun σ1 =>
  some σ1
def f_X7_readLine_b125   (σ : MSt) : Option MSt :=
  k_bd (f_X9_sortOf (σ.1 7 2) σ) fun q2 σ1 =>
  if q2 = (40 : Int32) then
  (f_X7_readLine_b146 σ1)
  else
  (k_bv (f_X7_fail (1 : Int32) σ1) fun σ3 =>
  f_X7_readLine_b146 σ3)
def f_X7_readLine_b95   (σ : MSt) : Option MSt :=
  k_bd (f_X9_sortOf (σ.1 7 2) σ) fun q2 σ1 =>
  k_bv (f_X7_readSetting q2 σ1) fun σ3 =>
  f_X7_readLine_b125 σ3
def f_X7_readLine   (σ : MSt) : Option MSt :=
  k_bd (f_X9_sortOf (σ.1 7 2) σ) fun q5 σ4 =>
  if q5 = (10 : Int32) then
  (k_bv (f_X7_readBay σ4) fun σ6 =>
  f_X7_readLine_b125 σ6)
  else if q5 = (11 : Int32) then
  (k_bv (f_X7_readLane σ4) fun σ7 =>
  f_X7_readLine_b125 σ7)
  else if q5 = (12 : Int32) then
  (k_bv (f_X7_readDeed σ4) fun σ8 =>
  f_X7_readLine_b125 σ8)
  else if q5 = (13 : Int32) then
  (k_bv (f_X7_readWind σ4) fun σ9 =>
  f_X7_readLine_b125 σ9)
  else if q5 = (14 : Int32) then
  (k_bv (f_X7_readShip σ4) fun σ10 =>
  f_X7_readLine_b125 σ10)
  else if q5 = (15 : Int32) then
  (f_X7_readLine_b95 σ4)
  else if q5 = (16 : Int32) then
  (f_X7_readLine_b95 σ4)
  else if q5 = (17 : Int32) then
  (f_X7_readLine_b95 σ4)
  else if q5 = (18 : Int32) then
  (k_bv (f_X7_readLaw σ4) fun σ11 =>
  f_X7_readLine_b125 σ11)
  else 
  (k_bv (f_X7_fail (1 : Int32) σ4) fun σ12 =>
  f_X7_readLine_b125 σ12)
def rmX7_readLine : Room := { frames := 5, cells := 0, slots := 0, locals := 109 }
set_option maxHeartbeats 4000000 in
set_option maxRecDepth 100000 in
theorem c_X7_readLine (l : Launch) (G : va_G) (Y : CY) (w : MSt → va_W) (ad : Nat → Nat)  (LC : LayC ad w Y)  (σ : MSt) (σ' : MSt) (hf : f_X7_readLine σ = some σ') : k_Mv l yX7_readLine wsX7_readLine rmX7_readLine G Y w [.ref (ad 7)] σ σ' := by
  refine k_ofv (own := RX7) (cc := cX7_readLine) (maxL := 1) none (by decide) rfl rfl (Nat.le_of_ble_eq_true rfl) ?_
  intro p e s m below meth c A C ls hl hw
  have hx := C.1
  have hb := C.2.1
  have hown := C.2.2.2.2.1
  have hts := C.2.2.2.2.2.1
  have hks := C.2.2.2.2.2.2.1
  have hl : lv_has ls 1 [(0, .ref (ad 7))] := hl
  have b146 : ∀ (σ : MSt) (H : Heap) (locs : List Loc) (ls : Array Slot), lv_has ls 1 [(0, .ref (ad 7))] → k_W G w A s.heap σ H locs → f_X7_readLine_b146 σ = some σ' → W p l e rmX7_readLine s m [.ref (ad 7)].toArray below meth c H locs 0 0 (MQ below (k_Qv G w A σ') [.ref (ad 7)].toArray s 0 0 A) (F0 m 146 ls []) := by
    intro σ H locs ls hl hw hf
    unfold f_X7_readLine_b146 at hf
    refine lv_aload_n hx hb dX7_readLine_146 rfl (lv_at hl 0 rfl) ?_
    refine lv_dup hx hb dX7_readLine_147 rfl ?_
    refine k_get C hw (LC_7 LC) (ci := 7) rfl k_in7 2 (by decide) lk7_28 (v := .int (σ.1 7 2)) rfl dX7_readLine_148 ?_
    refine lv_iconst (v := (1 : Int32)) hx hb dX7_readLine_151 (by decide) ?_
    refine lv_iadd hx hb dX7_readLine_152 ?_
    refine k_put C hw (LC_7 LC) (ci := 7) rfl k_in7 tyX7 tyX7_ok nmX7 2 (by decide) lk7_28 rfl ⟨rfl, rfl⟩ rfl dX7_readLine_153 (fun σ1 eq H locs hw => ?_)
    have hf := k_nmE eq hf
    exact k_vret C hw hf dX7_readLine_156
  have b125 : ∀ (σ : MSt) (H : Heap) (locs : List Loc) (ls : Array Slot), lv_has ls 1 [(0, .ref (ad 7))] → k_W G w A s.heap σ H locs → f_X7_readLine_b125 σ = some σ' → W p l e rmX7_readLine s m [.ref (ad 7)].toArray below meth c H locs 0 0 (MQ below (k_Qv G w A σ') [.ref (ad 7)].toArray s 0 0 A) (F0 m 125 ls []) := by
    intro σ H locs ls hl hw hf
    unfold f_X7_readLine_b125 at hf
    refine lv_aload_n hx hb dX7_readLine_125 rfl (lv_at hl 0 rfl) ?_
    refine k_get C hw (LC_7 LC) (ci := 7) rfl k_in7 0 (by decide) lk7_15 (v := .ref (ad 1)) rfl dX7_readLine_126 ?_
    refine lv_aload_n hx hb dX7_readLine_129 rfl (lv_at hl 0 rfl) ?_
    refine k_get C hw (LC_7 LC) (ci := 7) rfl k_in7 2 (by decide) lk7_28 (v := .int (σ.1 7 2)) rfl dX7_readLine_130 ?_
    obtain ⟨q2, σ1, hq, hf⟩ := k_bdE hf
    refine k_callVi C hw (c_X9_sortOf l G Y w ad LC (σ.1 7 2) σ q2 σ1 hq) (cwV 1 hts gX7_readLine_X9_sortOf rfl rfl rfl (by decide +kernel) ⟨Nat.le_of_ble_eq_true rfl, Nat.le_of_ble_eq_true rfl⟩) (k_recv C hw (LC_1 LC) rfl) rfl hl.1 rfl (Nat.le_of_ble_eq_true rfl) dX7_readLine_133 (fun H locs hw => ?_)
    refine lv_bipush (v := (40 : Int32)) hx hb dX7_readLine_136 (by decide) ?_
    refine lv_icmp_eq (tgt := 146) hx hb dX7_readLine_138 (by decide) (fun h => ?_) (fun h => ?_)
    · have hf := k_ifT h hf
      exact b146 σ1 _ _ _ (lv_sub hl [0] rfl) hw hf
    · have hf := k_ifF h hf
      refine lv_aload_n hx hb dX7_readLine_141 rfl (lv_at hl 0 rfl) ?_
      refine lv_iconst (v := (1 : Int32)) hx hb dX7_readLine_142 (by decide) ?_
      obtain ⟨σ3, hq, hf⟩ := k_bvE hf
      refine k_callVv C hw (c_X7_fail l G Y w ad LC (1 : Int32) σ1 σ3 hq) (cwV 1 hts gX7_readLine_X7_fail rfl rfl rfl (by decide +kernel) ⟨Nat.le_of_ble_eq_true rfl, Nat.le_of_ble_eq_true rfl⟩) (k_recv C hw (LC_7 LC) rfl) rfl hl.1 rfl (Nat.le_of_ble_eq_true rfl) dX7_readLine_143 (fun H locs hw => ?_)
      exact b146 σ3 _ _ _ (lv_sub hl [0] rfl) hw hf
  have b95 : ∀ (σ : MSt) (H : Heap) (locs : List Loc) (ls : Array Slot), lv_has ls 1 [(0, .ref (ad 7))] → k_W G w A s.heap σ H locs → f_X7_readLine_b95 σ = some σ' → W p l e rmX7_readLine s m [.ref (ad 7)].toArray below meth c H locs 0 0 (MQ below (k_Qv G w A σ') [.ref (ad 7)].toArray s 0 0 A) (F0 m 95 ls []) := by
    intro σ H locs ls hl hw hf
    unfold f_X7_readLine_b95 at hf
    refine lv_aload_n hx hb dX7_readLine_95 rfl (lv_at hl 0 rfl) ?_
    refine lv_aload_n hx hb dX7_readLine_96 rfl (lv_at hl 0 rfl) ?_
    refine k_get C hw (LC_7 LC) (ci := 7) rfl k_in7 0 (by decide) lk7_15 (v := .ref (ad 1)) rfl dX7_readLine_97 ?_
    refine lv_aload_n hx hb dX7_readLine_100 rfl (lv_at hl 0 rfl) ?_
    refine k_get C hw (LC_7 LC) (ci := 7) rfl k_in7 2 (by decide) lk7_28 (v := .int (σ.1 7 2)) rfl dX7_readLine_101 ?_
    obtain ⟨q2, σ1, hq, hf⟩ := k_bdE hf
    refine k_callVi C hw (c_X9_sortOf l G Y w ad LC (σ.1 7 2) σ q2 σ1 hq) (cwV 1 hts gX7_readLine_X9_sortOf rfl rfl rfl (by decide +kernel) ⟨Nat.le_of_ble_eq_true rfl, Nat.le_of_ble_eq_true rfl⟩) (k_recv C hw (LC_1 LC) rfl) rfl hl.1 rfl (Nat.le_of_ble_eq_true rfl) dX7_readLine_104 (fun H locs hw => ?_)
    obtain ⟨σ3, hq, hf⟩ := k_bvE hf
    refine k_callVv C hw (c_X7_readSetting l G Y w ad LC q2 σ1 σ3 hq) (cwV 1 hts gX7_readLine_X7_readSetting rfl rfl rfl (by decide +kernel) ⟨Nat.le_of_ble_eq_true rfl, Nat.le_of_ble_eq_true rfl⟩) (k_recv C hw (LC_7 LC) rfl) rfl hl.1 rfl (Nat.le_of_ble_eq_true rfl) dX7_readLine_107 (fun H locs hw => ?_)
    refine lv_goto (tgt := 125) hx hb dX7_readLine_110 (by decide) ?_
    exact b125 σ3 _ _ _ (lv_sub hl [0] rfl) hw hf
  unfold f_X7_readLine at hf
  refine lv_aload_n hx hb dX7_readLine_0 rfl (lv_at hl 0 rfl) ?_
  refine k_get C hw (LC_7 LC) (ci := 7) rfl k_in7 0 (by decide) lk7_15 (v := .ref (ad 1)) rfl dX7_readLine_1 ?_
  refine lv_aload_n hx hb dX7_readLine_4 rfl (lv_at hl 0 rfl) ?_
  refine k_get C hw (LC_7 LC) (ci := 7) rfl k_in7 2 (by decide) lk7_28 (v := .int (σ.1 7 2)) rfl dX7_readLine_5 ?_
  obtain ⟨q5, σ4, hq, hf⟩ := k_bdE hf
  refine k_callVi C hw (c_X9_sortOf l G Y w ad LC (σ.1 7 2) σ q5 σ4 hq) (cwV 1 hts gX7_readLine_X9_sortOf rfl rfl rfl (by decide +kernel) ⟨Nat.le_of_ble_eq_true rfl, Nat.le_of_ble_eq_true rfl⟩) (k_recv C hw (LC_1 LC) rfl) rfl hl.1 rfl (Nat.le_of_ble_eq_true rfl) dX7_readLine_8 (fun H locs hw => ?_)
  by_cases h10 : q5 = (10 : Int32)
  · have hf := k_ifT h10 hf
    refine lv_tableIn (tgt := 60) hx hb dX7_readLine_11 (by rw [h10]; decide) (by rw [h10]; decide) (by rw [h10]; rfl) (by decide) ?_
    refine lv_aload_n hx hb dX7_readLine_60 rfl (lv_at hl 0 rfl) ?_
    obtain ⟨σ6, hq, hf⟩ := k_bvE hf
    refine k_callVv C hw (c_X7_readBay l G Y w ad LC σ4 σ6 hq) (cwV 0 hts gX7_readLine_X7_readBay rfl rfl rfl (by decide +kernel) ⟨Nat.le_of_ble_eq_true rfl, Nat.le_of_ble_eq_true rfl⟩) (k_recv C hw (LC_7 LC) rfl) rfl hl.1 rfl (Nat.le_of_ble_eq_true rfl) dX7_readLine_61 (fun H locs hw => ?_)
    refine lv_goto (tgt := 125) hx hb dX7_readLine_64 (by decide) ?_
    exact b125 σ6 _ _ _ (lv_sub hl [0] rfl) hw hf
  have hf := k_ifF h10 hf
  by_cases h11 : q5 = (11 : Int32)
  · have hf := k_ifT h11 hf
    refine lv_tableIn (tgt := 67) hx hb dX7_readLine_11 (by rw [h11]; decide) (by rw [h11]; decide) (by rw [h11]; rfl) (by decide) ?_
    refine lv_aload_n hx hb dX7_readLine_67 rfl (lv_at hl 0 rfl) ?_
    obtain ⟨σ7, hq, hf⟩ := k_bvE hf
    refine k_callVv C hw (c_X7_readLane l G Y w ad LC σ4 σ7 hq) (cwV 0 hts gX7_readLine_X7_readLane rfl rfl rfl (by decide +kernel) ⟨Nat.le_of_ble_eq_true rfl, Nat.le_of_ble_eq_true rfl⟩) (k_recv C hw (LC_7 LC) rfl) rfl hl.1 rfl (Nat.le_of_ble_eq_true rfl) dX7_readLine_68 (fun H locs hw => ?_)
    refine lv_goto (tgt := 125) hx hb dX7_readLine_71 (by decide) ?_
    exact b125 σ7 _ _ _ (lv_sub hl [0] rfl) hw hf
  have hf := k_ifF h11 hf
  by_cases h12 : q5 = (12 : Int32)
  · have hf := k_ifT h12 hf
    refine lv_tableIn (tgt := 74) hx hb dX7_readLine_11 (by rw [h12]; decide) (by rw [h12]; decide) (by rw [h12]; rfl) (by decide) ?_
    refine lv_aload_n hx hb dX7_readLine_74 rfl (lv_at hl 0 rfl) ?_
    obtain ⟨σ8, hq, hf⟩ := k_bvE hf
    refine k_callVv C hw (c_X7_readDeed l G Y w ad LC σ4 σ8 hq) (cwV 0 hts gX7_readLine_X7_readDeed rfl rfl rfl (by decide +kernel) ⟨Nat.le_of_ble_eq_true rfl, Nat.le_of_ble_eq_true rfl⟩) (k_recv C hw (LC_7 LC) rfl) rfl hl.1 rfl (Nat.le_of_ble_eq_true rfl) dX7_readLine_75 (fun H locs hw => ?_)
    refine lv_goto (tgt := 125) hx hb dX7_readLine_78 (by decide) ?_
    exact b125 σ8 _ _ _ (lv_sub hl [0] rfl) hw hf
  have hf := k_ifF h12 hf
  by_cases h13 : q5 = (13 : Int32)
  · have hf := k_ifT h13 hf
    refine lv_tableIn (tgt := 81) hx hb dX7_readLine_11 (by rw [h13]; decide) (by rw [h13]; decide) (by rw [h13]; rfl) (by decide) ?_
    refine lv_aload_n hx hb dX7_readLine_81 rfl (lv_at hl 0 rfl) ?_
    obtain ⟨σ9, hq, hf⟩ := k_bvE hf
    refine k_callVv C hw (c_X7_readWind l G Y w ad LC σ4 σ9 hq) (cwV 0 hts gX7_readLine_X7_readWind rfl rfl rfl (by decide +kernel) ⟨Nat.le_of_ble_eq_true rfl, Nat.le_of_ble_eq_true rfl⟩) (k_recv C hw (LC_7 LC) rfl) rfl hl.1 rfl (Nat.le_of_ble_eq_true rfl) dX7_readLine_82 (fun H locs hw => ?_)
    refine lv_goto (tgt := 125) hx hb dX7_readLine_85 (by decide) ?_
    exact b125 σ9 _ _ _ (lv_sub hl [0] rfl) hw hf
  have hf := k_ifF h13 hf
  by_cases h14 : q5 = (14 : Int32)
  · have hf := k_ifT h14 hf
    refine lv_tableIn (tgt := 88) hx hb dX7_readLine_11 (by rw [h14]; decide) (by rw [h14]; decide) (by rw [h14]; rfl) (by decide) ?_
    refine lv_aload_n hx hb dX7_readLine_88 rfl (lv_at hl 0 rfl) ?_
    obtain ⟨σ10, hq, hf⟩ := k_bvE hf
    refine k_callVv C hw (c_X7_readShip l G Y w ad LC σ4 σ10 hq) (cwV 0 hts gX7_readLine_X7_readShip rfl rfl rfl (by decide +kernel) ⟨Nat.le_of_ble_eq_true rfl, Nat.le_of_ble_eq_true rfl⟩) (k_recv C hw (LC_7 LC) rfl) rfl hl.1 rfl (Nat.le_of_ble_eq_true rfl) dX7_readLine_89 (fun H locs hw => ?_)
    refine lv_goto (tgt := 125) hx hb dX7_readLine_92 (by decide) ?_
    exact b125 σ10 _ _ _ (lv_sub hl [0] rfl) hw hf
  have hf := k_ifF h14 hf
  by_cases h15 : q5 = (15 : Int32)
  · have hf := k_ifT h15 hf
    refine lv_tableIn (tgt := 95) hx hb dX7_readLine_11 (by rw [h15]; decide) (by rw [h15]; decide) (by rw [h15]; rfl) (by decide) ?_
    exact b95 σ4 _ _ _ (lv_sub hl [0] rfl) hw hf
  have hf := k_ifF h15 hf
  by_cases h16 : q5 = (16 : Int32)
  · have hf := k_ifT h16 hf
    refine lv_tableIn (tgt := 95) hx hb dX7_readLine_11 (by rw [h16]; decide) (by rw [h16]; decide) (by rw [h16]; rfl) (by decide) ?_
    exact b95 σ4 _ _ _ (lv_sub hl [0] rfl) hw hf
  have hf := k_ifF h16 hf
  by_cases h17 : q5 = (17 : Int32)
  · have hf := k_ifT h17 hf
    refine lv_tableIn (tgt := 95) hx hb dX7_readLine_11 (by rw [h17]; decide) (by rw [h17]; decide) (by rw [h17]; rfl) (by decide) ?_
    exact b95 σ4 _ _ _ (lv_sub hl [0] rfl) hw hf
  have hf := k_ifF h17 hf
  by_cases h18 : q5 = (18 : Int32)
  · have hf := k_ifT h18 hf
    refine lv_tableIn (tgt := 113) hx hb dX7_readLine_11 (by rw [h18]; decide) (by rw [h18]; decide) (by rw [h18]; rfl) (by decide) ?_
    refine lv_aload_n hx hb dX7_readLine_113 rfl (lv_at hl 0 rfl) ?_
    obtain ⟨σ11, hq, hf⟩ := k_bvE hf
    refine k_callVv C hw (c_X7_readLaw l G Y w ad LC σ4 σ11 hq) (cwV 0 hts gX7_readLine_X7_readLaw rfl rfl rfl (by decide +kernel) ⟨Nat.le_of_ble_eq_true rfl, Nat.le_of_ble_eq_true rfl⟩) (k_recv C hw (LC_7 LC) rfl) rfl hl.1 rfl (Nat.le_of_ble_eq_true rfl) dX7_readLine_114 (fun H locs hw => ?_)
    refine lv_goto (tgt := 125) hx hb dX7_readLine_117 (by decide) ?_
    exact b125 σ11 _ _ _ (lv_sub hl [0] rfl) hw hf
  have hf := k_ifF h18 hf
  refine lv_tableOut (tgt := 120) hx hb dX7_readLine_11 (k_tout (fun k q1 q2 q3 => ?_)) (by decide) ?_
  · have q4 : q5 = Int32.ofInt k := by rw [← q3, Int32.ofInt_toInt]
    have q5 : k = 10 ∨ k = 11 ∨ k = 12 ∨ k = 13 ∨ k = 14 ∨ k = 15 ∨ k = 16 ∨ k = 17 ∨ k = 18 := by omega
    rcases q5 with rfl | rfl | rfl | rfl | rfl | rfl | rfl | rfl | rfl
    · exact h10 q4
    · exact h11 q4
    · exact h12 q4
    · exact h13 q4
    · exact h14 q4
    · exact h15 q4
    · exact h16 q4
    · exact h17 q4
    · exact h18 q4
  refine lv_aload_n hx hb dX7_readLine_120 rfl (lv_at hl 0 rfl) ?_
  refine lv_iconst (v := (1 : Int32)) hx hb dX7_readLine_121 (by decide) ?_
  obtain ⟨σ12, hq, hf⟩ := k_bvE hf
  refine k_callVv C hw (c_X7_fail l G Y w ad LC (1 : Int32) σ4 σ12 hq) (cwV 1 hts gX7_readLine_X7_fail rfl rfl rfl (by decide +kernel) ⟨Nat.le_of_ble_eq_true rfl, Nat.le_of_ble_eq_true rfl⟩) (k_recv C hw (LC_7 LC) rfl) rfl hl.1 rfl (Nat.le_of_ble_eq_true rfl) dX7_readLine_122 (fun H locs hw => ?_)
  exact b125 σ12 _ _ _ (lv_sub hl [0] rfl) hw hf
def f_X7_read_b72 (o1 : Nat) (x2 : Int32) (σ : MSt) : Option (Int32 × MSt) :=
  some (x2, σ)
def f_X7_read_b34_s (o1 : Nat) (r34 : Int32 → MSt → Option (Int32 × MSt)) (x2 : Int32) (σ : MSt) : Option (Int32 × MSt) :=
  if (700 : Int32) ≤ x2 then
  (f_X7_read_b72 o1 x2 σ)
  else
  (if (σ.1 7 4) = 0 then
  (k_bd (f_X9_sortOf (σ.1 7 2) σ) fun q2 σ1 =>
  if q2 = 0 then
  (f_X7_read_b72 o1 x2 σ1)
  else
  (k_bv (f_X7_readLine σ1) fun σ3 =>
  k_nm (x2 + (1 : Int32)) fun u4 =>
  r34 u4 σ3))
  else
  (f_X7_read_b72 o1 x2 σ))
def f_X7_read_b34 (o1 : Nat) : Nat → Int32 → MSt → Option (Int32 × MSt)
  | 0 => fun _ _ => none
  | n + 1 => f_X7_read_b34_s o1 (f_X7_read_b34 o1 n)
def f_X7_read (o1 : Nat)  (σ : MSt) : Option (Int32 × MSt) :=
  k_ck (k_tg o1) <|
  k_nm (mI σ 7 1 (Int32.ofNat o1)) fun σ5 =>
  k_ck (k_ch (σ5.1 7 1)) <|
  k_nm (σ5.1 7 1).toNatClampNeg fun o1006 =>
  k_bv (f_X0_clear o1006 σ5) fun σ6 =>
  k_nm (mI σ6 7 2 (0 : Int32)) fun σ7 =>
  k_nm (mI σ7 7 3 (0 : Int32)) fun σ8 =>
  k_nm (mI σ8 7 4 (0 : Int32)) fun σ9 =>
  k_nm (mI σ9 7 8 (0 : Int32)) fun σ10 =>
  f_X7_read_b34 o1 FU (0 : Int32) σ10
def rmX7_read : Room := { frames := 6, cells := 0, slots := 0, locals := 129 }
set_option maxHeartbeats 4000000 in
set_option maxRecDepth 100000 in
theorem c_X7_read (l : Launch) (G : va_G) (Y : CY) (w : MSt → va_W) (ad : Nat → Nat) (o1 : Nat) (LC : LayC ad w Y) (L1 : LayX0 ad w Y o1)  (σ : MSt) (r : Int32) (σ' : MSt) (hf : f_X7_read o1 σ = some (r, σ')) : k_Mi l yX7_read wsX7_read rmX7_read G Y w [.ref (ad 7), .ref (ad o1)] σ r σ' := by
  refine k_ofi (own := RX7) (cc := cX7_read) (maxL := 3) (some .int) (by decide) rfl rfl (Nat.le_of_ble_eq_true rfl) ?_
  intro p e s m below meth c A C ls hl hw
  have hx := C.1
  have hb := C.2.1
  have hown := C.2.2.2.2.1
  have hts := C.2.2.2.2.2.1
  have hks := C.2.2.2.2.2.2.1
  have hl : lv_has ls 3 [(0, .ref (ad 7)), (1, .ref (ad o1))] := hl
  have b72 : ∀ (x2 : Int32) (σ : MSt) (H : Heap) (locs : List Loc) (ls : Array Slot), lv_has ls 3 [(2, .int x2)] → k_W G w A s.heap σ H locs → f_X7_read_b72 o1 x2 σ = some (r, σ') → W p l e rmX7_read s m [.ref (ad 7), .ref (ad o1)].toArray below meth c H locs 0 0 (MQ below (k_Qi G w A r σ') [.ref (ad 7), .ref (ad o1)].toArray s 0 0 A) (F0 m 72 ls []) := by
    intro x2 σ H locs ls hl hw hf
    unfold f_X7_read_b72 at hf
    refine lv_iload_n hx hb dX7_read_72 rfl (lv_at hl 0 rfl) ?_
    exact k_iret C hw hf dX7_read_73
  have b34 : ∀ (n34 : Nat) (x2 : Int32) (σ : MSt) (H : Heap) (locs : List Loc) (ls : Array Slot), lv_has ls 3 [(0, .ref (ad 7)), (2, .int x2)] → k_W G w A s.heap σ H locs → f_X7_read_b34 o1 n34 x2 σ = some (r, σ') → W p l e rmX7_read s m [.ref (ad 7), .ref (ad o1)].toArray below meth c H locs 0 0 (MQ below (k_Qi G w A r σ') [.ref (ad 7), .ref (ad o1)].toArray s 0 0 A) (F0 m 34 ls []) := by
    intro n34
    induction n34 with
    | zero =>
      intro x2 σ H locs ls hl hw hf
      have hf : (none : Option (Int32 × MSt)) = some (r, σ') := hf
      cases hf
    | succ n34 ih34 =>
      intro x2 σ H locs ls hl hw hf
      have hf : f_X7_read_b34_s o1 (f_X7_read_b34 o1 n34) x2 σ = some (r, σ') := hf
      unfold f_X7_read_b34_s at hf
      refine lv_iload_n hx hb dX7_read_34 rfl (lv_at hl 1 rfl) ?_
      refine lv_sipush (v := (700 : Int32)) hx hb dX7_read_35 (by decide) ?_
      refine lv_icmp_ge (tgt := 72) hx hb dX7_read_38 (by decide) (fun h => ?_) (fun h => ?_)
      · have hf := k_ifT h hf
        exact b72 x2 σ _ _ _ (lv_sub hl [1] rfl) hw hf
      · have hf := k_ifF h hf
        refine lv_aload_n hx hb dX7_read_41 rfl (lv_at hl 0 rfl) ?_
        refine k_get C hw (LC_7 LC) (ci := 7) rfl k_in7 4 (by decide) lk7_35 (v := .int (σ.1 7 4)) rfl dX7_read_42 ?_
        refine lv_if_ne (tgt := 72) hx hb dX7_read_45 (by decide) (fun h => ?_) (fun h => ?_)
        · have hf := k_ifF h hf
          exact b72 x2 σ _ _ _ (lv_sub hl [1] rfl) hw hf
        · have hf := k_ifT h hf
          refine lv_aload_n hx hb dX7_read_48 rfl (lv_at hl 0 rfl) ?_
          refine k_get C hw (LC_7 LC) (ci := 7) rfl k_in7 0 (by decide) lk7_15 (v := .ref (ad 1)) rfl dX7_read_49 ?_
          refine lv_aload_n hx hb dX7_read_52 rfl (lv_at hl 0 rfl) ?_
          refine k_get C hw (LC_7 LC) (ci := 7) rfl k_in7 2 (by decide) lk7_28 (v := .int (σ.1 7 2)) rfl dX7_read_53 ?_
          obtain ⟨q2, σ1, hq, hf⟩ := k_bdE hf
          refine k_callVi C hw (c_X9_sortOf l G Y w ad LC (σ.1 7 2) σ q2 σ1 hq) (cwV 1 hts gX7_read_X9_sortOf rfl rfl rfl (by decide +kernel) ⟨Nat.le_of_ble_eq_true rfl, Nat.le_of_ble_eq_true rfl⟩) (k_recv C hw (LC_1 LC) rfl) rfl hl.1 rfl (Nat.le_of_ble_eq_true rfl) dX7_read_56 (fun H locs hw => ?_)
          refine lv_if_eq (tgt := 72) hx hb dX7_read_59 (by decide) (fun h => ?_) (fun h => ?_)
          · have hf := k_ifT h hf
            exact b72 x2 σ1 _ _ _ (lv_sub hl [1] rfl) hw hf
          · have hf := k_ifF h hf
            refine lv_aload_n hx hb dX7_read_62 rfl (lv_at hl 0 rfl) ?_
            obtain ⟨σ3, hq, hf⟩ := k_bvE hf
            refine k_callVv C hw (c_X7_readLine l G Y w ad LC σ1 σ3 hq) (cwV 0 hts gX7_read_X7_readLine rfl rfl rfl (by decide +kernel) ⟨Nat.le_of_ble_eq_true rfl, Nat.le_of_ble_eq_true rfl⟩) (k_recv C hw (LC_7 LC) rfl) rfl hl.1 rfl (Nat.le_of_ble_eq_true rfl) dX7_read_63 (fun H locs hw => ?_)
            obtain ⟨u4, ex⟩ : ∃ y : Int32, y = (x2 + (1 : Int32)) := ⟨_, rfl⟩
            have hf := k_nmE ex hf
            refine lv_iinc (v := u4) (lv' := [(2, .int u4), (0, .ref (ad 7))]) hx hb dX7_read_66 hl (k := 1) rfl (by rw [ex]; rfl) (by decide) rfl (fun ls hl => ?_)
            refine lv_goto (tgt := 34) hx hb dX7_read_69 (by decide) ?_
            exact ih34 u4 σ3 _ _ _ (lv_sub hl [1, 0] rfl) hw hf
  unfold f_X7_read at hf
  refine lv_aload_n hx hb dX7_read_0 rfl (lv_at hl 0 rfl) ?_
  refine lv_aload_n hx hb dX7_read_1 rfl (lv_at hl 1 rfl) ?_
  obtain ⟨ht, hf⟩ := k_ckE hf
  refine k_putR C hw (LC_7 LC) (ci := 7) rfl k_in7 tyX7 tyX7_ok nmX7 1 (by decide) lk7_19 rfl (decide_eq_true_eq.mp ht) ⟨rfl, rfl⟩ ⟨rfl, rfl⟩ rfl dX7_read_2 (fun σ5 eq H locs hw => ?_)
  have hf := k_nmE eq hf
  refine lv_aload_n hx hb dX7_read_5 rfl (lv_at hl 0 rfl) ?_
  obtain ⟨hc, hf⟩ := k_ckE hf
  obtain ⟨o1006, eo⟩ : ∃ y : Nat, y = (σ5.1 7 1).toNatClampNeg := ⟨_, rfl⟩
  have hf := k_nmE eo hf
  have Lo1006 := k_chL LC hc eo
  refine k_get C hw (LC_7 LC) (ci := 7) rfl k_in7 1 (by decide) lk7_19 (v := .ref (ad o1006)) (congrArg some (k_chR hc eo)) dX7_read_6 ?_
  obtain ⟨σ6, hq, hf⟩ := k_bvE hf
  refine k_callNv C hw (c_X0_clear l G Y w ad o1006 Lo1006 σ5 σ6 hq) ⟨va_cnB 0 hts gX7_read_X0_clear_n23 rfl rfl rfl (hks.2 _ lm7_23) (hts (.initialized RX0) (by decide +kernel)) (by decide +kernel) ⟨Nat.le_of_ble_eq_true rfl, Nat.le_of_ble_eq_true rfl⟩, hts (.instanceMethod yX0_clear) (by decide +kernel), hts (.selects RX0 yX0_clear yX0_clear) (by decide +kernel)⟩ (k_recv C hw (LX0_o Lo1006) rfl) rfl hl.1 rfl (Nat.le_of_ble_eq_true rfl) dX7_read_9 (fun H locs hw => ?_)
  refine lv_aload_n hx hb dX7_read_12 rfl (lv_at hl 0 rfl) ?_
  refine lv_iconst (v := (0 : Int32)) hx hb dX7_read_13 (by decide) ?_
  refine k_put C hw (LC_7 LC) (ci := 7) rfl k_in7 tyX7 tyX7_ok nmX7 2 (by decide) lk7_28 rfl ⟨rfl, rfl⟩ rfl dX7_read_14 (fun σ7 eq H locs hw => ?_)
  have hf := k_nmE eq hf
  refine lv_aload_n hx hb dX7_read_17 rfl (lv_at hl 0 rfl) ?_
  refine lv_iconst (v := (0 : Int32)) hx hb dX7_read_18 (by decide) ?_
  refine k_put C hw (LC_7 LC) (ci := 7) rfl k_in7 tyX7 tyX7_ok nmX7 3 (by decide) lk7_32 rfl ⟨rfl, rfl⟩ rfl dX7_read_19 (fun σ8 eq H locs hw => ?_)
  have hf := k_nmE eq hf
  refine lv_aload_n hx hb dX7_read_22 rfl (lv_at hl 0 rfl) ?_
  refine lv_iconst (v := (0 : Int32)) hx hb dX7_read_23 (by decide) ?_
  refine k_put C hw (LC_7 LC) (ci := 7) rfl k_in7 tyX7 tyX7_ok nmX7 4 (by decide) lk7_35 rfl ⟨rfl, rfl⟩ rfl dX7_read_24 (fun σ9 eq H locs hw => ?_)
  have hf := k_nmE eq hf
  refine lv_aload_n hx hb dX7_read_27 rfl (lv_at hl 0 rfl) ?_
  refine lv_iconst (v := (0 : Int32)) hx hb dX7_read_28 (by decide) ?_
  refine k_put C hw (LC_7 LC) (ci := 7) rfl k_in7 tyX7 tyX7_ok nmX7 8 (by decide) lk7_38 rfl ⟨rfl, rfl⟩ rfl dX7_read_29 (fun σ10 eq H locs hw => ?_)
  have hf := k_nmE eq hf
  refine lv_iconst (v := (0 : Int32)) hx hb dX7_read_32 (by decide) ?_
  refine lv_istore_n (lv' := [(2, .int (0 : Int32)), (0, .ref (ad 7)), (1, .ref (ad o1))]) hx hb dX7_read_33 rfl hl (by decide) rfl (fun ls hl => ?_)
  exact b34 FU (0 : Int32) σ10 _ _ _ (lv_sub hl [1, 0] rfl) hw hf
def f_X9_placeOf_b25  (y0 : Int32) (σ : MSt) : Option (Int32 × MSt) :=
  some (y0, σ)
def f_X9_placeOf_b21   (σ : MSt) : Option (Int32 × MSt) :=
  f_X9_placeOf_b25 (σ.1 1 6) σ
def f_X9_placeOf  (p1 : Int32) (σ : MSt) : Option (Int32 × MSt) :=
  if p1 < 0 then
  (f_X9_placeOf_b21 σ)
  else
  (if (σ.1 1 7) ≤ p1 then
  (f_X9_placeOf_b21 σ)
  else
  (k_ck (k_inb p1 700) <|
  f_X9_placeOf_b25 (σ.1 5 (p1).toNatClampNeg) σ))
def rmX9_placeOf : Room := { frames := 0, cells := 0, slots := 0, locals := 0 }
set_option maxHeartbeats 4000000 in
set_option maxRecDepth 100000 in
theorem c_X9_placeOf (l : Launch) (G : va_G) (Y : CY) (w : MSt → va_W) (ad : Nat → Nat)  (LC : LayC ad w Y) (p1 : Int32) (σ : MSt) (r : Int32) (σ' : MSt) (hf : f_X9_placeOf p1 σ = some (r, σ')) : k_Mi l yX9_placeOf wsX9_placeOf rmX9_placeOf G Y w [.ref (ad 1), .int p1] σ r σ' := by
  refine k_ofi (own := RX9) (cc := cX9_placeOf) (maxL := 2) (some .int) (by decide) rfl rfl (Nat.le_of_ble_eq_true rfl) ?_
  intro p e s m below meth c A C ls hl hw
  have hx := C.1
  have hb := C.2.1
  have hown := C.2.2.2.2.1
  have hts := C.2.2.2.2.2.1
  have hks := C.2.2.2.2.2.2.1
  have hl : lv_has ls 2 [(0, .ref (ad 1)), (1, .int p1)] := hl
  have b25 : ∀ (y0 : Int32) (σ : MSt) (H : Heap) (locs : List Loc) (ls : Array Slot), lv_has ls 2 [] → k_W G w A s.heap σ H locs → f_X9_placeOf_b25 y0 σ = some (r, σ') → W p l e rmX9_placeOf s m [.ref (ad 1), .int p1].toArray below meth c H locs 0 0 (MQ below (k_Qi G w A r σ') [.ref (ad 1), .int p1].toArray s 0 0 A) (F0 m 25 ls [.int y0]) := by
    intro y0 σ H locs ls hl hw hf
    unfold f_X9_placeOf_b25 at hf
    exact k_iret C hw hf dX9_placeOf_25
  have b21 : ∀ (σ : MSt) (H : Heap) (locs : List Loc) (ls : Array Slot), lv_has ls 2 [(0, .ref (ad 1))] → k_W G w A s.heap σ H locs → f_X9_placeOf_b21 σ = some (r, σ') → W p l e rmX9_placeOf s m [.ref (ad 1), .int p1].toArray below meth c H locs 0 0 (MQ below (k_Qi G w A r σ') [.ref (ad 1), .int p1].toArray s 0 0 A) (F0 m 21 ls []) := by
    intro σ H locs ls hl hw hf
    unfold f_X9_placeOf_b21 at hf
    refine lv_aload_n hx hb dX9_placeOf_21 rfl (lv_at hl 0 rfl) ?_
    refine k_get C hw (LC_1 LC) (ci := 9) rfl k_in9 6 (by decide) lk9_50 (v := .int (σ.1 1 6)) rfl dX9_placeOf_22 ?_
    exact b25 (σ.1 1 6) σ _ _ _ (lv_sub hl [] rfl) hw hf
  unfold f_X9_placeOf at hf
  refine lv_iload_n hx hb dX9_placeOf_0 rfl (lv_at hl 1 rfl) ?_
  refine lv_if_lt (tgt := 21) hx hb dX9_placeOf_1 (by decide) (fun h => ?_) (fun h => ?_)
  · have hf := k_ifT h hf
    exact b21 σ _ _ _ (lv_sub hl [0] rfl) hw hf
  · have hf := k_ifF h hf
    refine lv_iload_n hx hb dX9_placeOf_4 rfl (lv_at hl 1 rfl) ?_
    refine lv_aload_n hx hb dX9_placeOf_5 rfl (lv_at hl 0 rfl) ?_
    refine k_get C hw (LC_1 LC) (ci := 9) rfl k_in9 7 (by decide) lk9_52 (v := .int (σ.1 1 7)) rfl dX9_placeOf_6 ?_
    refine lv_icmp_ge (tgt := 21) hx hb dX9_placeOf_9 (by decide) (fun h => ?_) (fun h => ?_)
    · have hf := k_ifT h hf
      exact b21 σ _ _ _ (lv_sub hl [0] rfl) hw hf
    · have hf := k_ifF h hf
      refine lv_aload_n hx hb dX9_placeOf_12 rfl (lv_at hl 0 rfl) ?_
      refine k_get C hw (LC_1 LC) (ci := 9) rfl k_in9 3 (by decide) lk9_22 (v := .ref (ad 5)) rfl dX9_placeOf_13 ?_
      refine lv_iload_n hx hb dX9_placeOf_16 rfl (lv_at hl 1 rfl) ?_
      obtain ⟨hi, hf⟩ := k_ckE hf
      refine k_iald C hw (LC_5 LC) hi dX9_placeOf_17 ?_
      refine lv_goto (tgt := 25) hx hb dX9_placeOf_18 (by decide) ?_
      exact b25 (σ.1 5 (p1).toNatClampNeg) σ _ _ _ (lv_sub hl [] rfl) hw hf
def f_X7_faultPlace_b22  (y0 : Int32) (σ : MSt) : Option (Int32 × MSt) :=
  some (y0, σ)
def f_X7_faultPlace   (σ : MSt) : Option (Int32 × MSt) :=
  if (σ.1 7 4) = 0 then
  (f_X7_faultPlace_b22 (-1 : Int32) σ)
  else
  (k_bd (f_X9_placeOf (σ.1 7 5) σ) fun q2 σ1 =>
  f_X7_faultPlace_b22 q2 σ1)
def rmX7_faultPlace : Room := { frames := 1, cells := 0, slots := 0, locals := 21 }
set_option maxHeartbeats 4000000 in
set_option maxRecDepth 100000 in
theorem c_X7_faultPlace (l : Launch) (G : va_G) (Y : CY) (w : MSt → va_W) (ad : Nat → Nat)  (LC : LayC ad w Y)  (σ : MSt) (r : Int32) (σ' : MSt) (hf : f_X7_faultPlace σ = some (r, σ')) : k_Mi l yX7_faultPlace wsX7_faultPlace rmX7_faultPlace G Y w [.ref (ad 7)] σ r σ' := by
  refine k_ofi (own := RX7) (cc := cX7_faultPlace) (maxL := 1) (some .int) (by decide) rfl rfl (Nat.le_of_ble_eq_true rfl) ?_
  intro p e s m below meth c A C ls hl hw
  have hx := C.1
  have hb := C.2.1
  have hown := C.2.2.2.2.1
  have hts := C.2.2.2.2.2.1
  have hks := C.2.2.2.2.2.2.1
  have hl : lv_has ls 1 [(0, .ref (ad 7))] := hl
  have b22 : ∀ (y0 : Int32) (σ : MSt) (H : Heap) (locs : List Loc) (ls : Array Slot), lv_has ls 1 [] → k_W G w A s.heap σ H locs → f_X7_faultPlace_b22 y0 σ = some (r, σ') → W p l e rmX7_faultPlace s m [.ref (ad 7)].toArray below meth c H locs 0 0 (MQ below (k_Qi G w A r σ') [.ref (ad 7)].toArray s 0 0 A) (F0 m 22 ls [.int y0]) := by
    intro y0 σ H locs ls hl hw hf
    unfold f_X7_faultPlace_b22 at hf
    exact k_iret C hw hf dX7_faultPlace_22
  unfold f_X7_faultPlace at hf
  refine lv_aload_n hx hb dX7_faultPlace_0 rfl (lv_at hl 0 rfl) ?_
  refine k_get C hw (LC_7 LC) (ci := 7) rfl k_in7 4 (by decide) lk7_35 (v := .int (σ.1 7 4)) rfl dX7_faultPlace_1 ?_
  refine lv_if_ne (tgt := 11) hx hb dX7_faultPlace_4 (by decide) (fun h => ?_) (fun h => ?_)
  · have hf := k_ifF h hf
    refine lv_aload_n hx hb dX7_faultPlace_11 rfl (lv_at hl 0 rfl) ?_
    refine k_get C hw (LC_7 LC) (ci := 7) rfl k_in7 0 (by decide) lk7_15 (v := .ref (ad 1)) rfl dX7_faultPlace_12 ?_
    refine lv_aload_n hx hb dX7_faultPlace_15 rfl (lv_at hl 0 rfl) ?_
    refine k_get C hw (LC_7 LC) (ci := 7) rfl k_in7 5 (by decide) lk7_50 (v := .int (σ.1 7 5)) rfl dX7_faultPlace_16 ?_
    obtain ⟨q2, σ1, hq, hf⟩ := k_bdE hf
    refine k_callVi C hw (c_X9_placeOf l G Y w ad LC (σ.1 7 5) σ q2 σ1 hq) (cwV 1 hts gX7_faultPlace_X9_placeOf rfl rfl rfl (by decide +kernel) ⟨Nat.le_of_ble_eq_true rfl, Nat.le_of_ble_eq_true rfl⟩) (k_recv C hw (LC_1 LC) rfl) rfl hl.1 rfl (Nat.le_of_ble_eq_true rfl) dX7_faultPlace_19 (fun H locs hw => ?_)
    exact b22 q2 σ1 _ _ _ (lv_sub hl [] rfl) hw hf
  · have hf := k_ifT h hf
    refine lv_iconst (v := (-1 : Int32)) hx hb dX7_faultPlace_7 (by decide) ?_
    refine lv_goto (tgt := 22) hx hb dX7_faultPlace_8 (by decide) ?_
    exact b22 (-1 : Int32) σ _ _ _ (lv_sub hl [] rfl) hw hf
def f_X9_hasRoomFor_b17  (y0 : Int32) (σ : MSt) : Option (Int32 × MSt) :=
  k_ck (k_bo y0) <|
  some (y0, σ)
def f_X9_hasRoomFor  (p1 : Int32) (σ : MSt) : Option (Int32 × MSt) :=
  if (700 : Int32) < ((σ.1 1 5) + p1) then
  (f_X9_hasRoomFor_b17 (0 : Int32) σ)
  else
  (f_X9_hasRoomFor_b17 (1 : Int32) σ)
def rmX9_hasRoomFor : Room := { frames := 0, cells := 0, slots := 0, locals := 0 }
set_option maxHeartbeats 4000000 in
set_option maxRecDepth 100000 in
theorem c_X9_hasRoomFor (l : Launch) (G : va_G) (Y : CY) (w : MSt → va_W) (ad : Nat → Nat)  (LC : LayC ad w Y) (p1 : Int32) (σ : MSt) (r : Int32) (σ' : MSt) (hf : f_X9_hasRoomFor p1 σ = some (r, σ')) : k_Mi l yX9_hasRoomFor wsX9_hasRoomFor rmX9_hasRoomFor G Y w [.ref (ad 1), .int p1] σ r σ' := by
  refine k_ofi (own := RX9) (cc := cX9_hasRoomFor) (maxL := 2) (some .boolean) (by decide) rfl rfl (Nat.le_of_ble_eq_true rfl) ?_
  intro p e s m below meth c A C ls hl hw
  have hx := C.1
  have hb := C.2.1
  have hown := C.2.2.2.2.1
  have hts := C.2.2.2.2.2.1
  have hks := C.2.2.2.2.2.2.1
  have hl : lv_has ls 2 [(0, .ref (ad 1)), (1, .int p1)] := hl
  have b17 : ∀ (y0 : Int32) (σ : MSt) (H : Heap) (locs : List Loc) (ls : Array Slot), lv_has ls 2 [] → k_W G w A s.heap σ H locs → f_X9_hasRoomFor_b17 y0 σ = some (r, σ') → W p l e rmX9_hasRoomFor s m [.ref (ad 1), .int p1].toArray below meth c H locs 0 0 (MQ below (k_Qi G w A r σ') [.ref (ad 1), .int p1].toArray s 0 0 A) (F0 m 17 ls [.int y0]) := by
    intro y0 σ H locs ls hl hw hf
    unfold f_X9_hasRoomFor_b17 at hf
    obtain ⟨hz, hf⟩ := k_ckE hf
    exact k_zret C hw (k_boE hz).1 hf dX9_hasRoomFor_17
  unfold f_X9_hasRoomFor at hf
  refine lv_aload_n hx hb dX9_hasRoomFor_0 rfl (lv_at hl 0 rfl) ?_
  refine k_get C hw (LC_1 LC) (ci := 9) rfl k_in9 5 (by decide) lk9_40 (v := .int (σ.1 1 5)) rfl dX9_hasRoomFor_1 ?_
  refine lv_iload_n hx hb dX9_hasRoomFor_4 rfl (lv_at hl 1 rfl) ?_
  refine lv_iadd hx hb dX9_hasRoomFor_5 ?_
  refine lv_sipush (v := (700 : Int32)) hx hb dX9_hasRoomFor_6 (by decide) ?_
  refine lv_icmp_gt (tgt := 16) hx hb dX9_hasRoomFor_9 (by decide) (fun h => ?_) (fun h => ?_)
  · have hf := k_ifT h hf
    refine lv_iconst (v := (0 : Int32)) hx hb dX9_hasRoomFor_16 (by decide) ?_
    exact b17 (0 : Int32) σ _ _ _ (lv_sub hl [] rfl) hw hf
  · have hf := k_ifF h hf
    refine lv_iconst (v := (1 : Int32)) hx hb dX9_hasRoomFor_12 (by decide) ?_
    refine lv_goto (tgt := 17) hx hb dX9_hasRoomFor_13 (by decide) ?_
    exact b17 (1 : Int32) σ _ _ _ (lv_sub hl [] rfl) hw hf
def f_X9_add_b46   (σ : MSt) : Option MSt :=
  some σ
def f_X9_add_b3_s  (r3 : Int32 → Int32 → MSt → Option MSt) (x1 : Int32) (x2 : Int32) (σ : MSt) : Option MSt :=
  if x2 < 0 then
  (f_X9_add_b46 σ)
  else
  (if (700 : Int32) ≤ (σ.1 1 5) then
  (f_X9_add_b46 σ)
  else
  (k_ck (k_inb (σ.1 1 5) 700) <|
  k_nm (mI σ 2 ((σ.1 1 5)).toNatClampNeg (vp_nar .byte (((x1 >>> (x2 &&& 31))).toInt8.toInt32))) fun σ1 =>
  k_nm (mI σ1 1 5 ((σ1.1 1 5) + (1 : Int32))) fun σ2 =>
  k_nm (x2 + (-8 : Int32)) fun u3 =>
  r3 x1 u3 σ2))
def f_X9_add_b3  : Nat → Int32 → Int32 → MSt → Option MSt
  | 0 => fun _ _ _ => none
  | n + 1 => f_X9_add_b3_s (f_X9_add_b3 n)
def f_X9_add  (p1 : Int32) (σ : MSt) : Option MSt :=
  f_X9_add_b3 FU p1 (24 : Int32) σ
def rmX9_add : Room := { frames := 0, cells := 0, slots := 0, locals := 0 }
set_option maxHeartbeats 4000000 in
set_option maxRecDepth 100000 in
theorem c_X9_add (l : Launch) (G : va_G) (Y : CY) (w : MSt → va_W) (ad : Nat → Nat)  (LC : LayC ad w Y) (p1 : Int32) (σ : MSt) (σ' : MSt) (hf : f_X9_add p1 σ = some σ') : k_Mv l yX9_add wsX9_add rmX9_add G Y w [.ref (ad 1), .int p1] σ σ' := by
  refine k_ofv (own := RX9) (cc := cX9_add) (maxL := 3) none (by decide) rfl rfl (Nat.le_of_ble_eq_true rfl) ?_
  intro p e s m below meth c A C ls hl hw
  have hx := C.1
  have hb := C.2.1
  have hown := C.2.2.2.2.1
  have hts := C.2.2.2.2.2.1
  have hks := C.2.2.2.2.2.2.1
  have hl : lv_has ls 3 [(0, .ref (ad 1)), (1, .int p1)] := hl
  have b46 : ∀ (σ : MSt) (H : Heap) (locs : List Loc) (ls : Array Slot), lv_has ls 3 [] → k_W G w A s.heap σ H locs → f_X9_add_b46 σ = some σ' → W p l e rmX9_add s m [.ref (ad 1), .int p1].toArray below meth c H locs 0 0 (MQ below (k_Qv G w A σ') [.ref (ad 1), .int p1].toArray s 0 0 A) (F0 m 46 ls []) := by
    intro σ H locs ls hl hw hf
    unfold f_X9_add_b46 at hf
    exact k_vret C hw hf dX9_add_46
  have b3 : ∀ (n3 : Nat) (x1 : Int32) (x2 : Int32) (σ : MSt) (H : Heap) (locs : List Loc) (ls : Array Slot), lv_has ls 3 [(0, .ref (ad 1)), (1, .int x1), (2, .int x2)] → k_W G w A s.heap σ H locs → f_X9_add_b3 n3 x1 x2 σ = some σ' → W p l e rmX9_add s m [.ref (ad 1), .int p1].toArray below meth c H locs 0 0 (MQ below (k_Qv G w A σ') [.ref (ad 1), .int p1].toArray s 0 0 A) (F0 m 3 ls []) := by
    intro n3
    induction n3 with
    | zero =>
      intro x1 x2 σ H locs ls hl hw hf
      have hf : (none : Option MSt) = some σ' := hf
      cases hf
    | succ n3 ih3 =>
      intro x1 x2 σ H locs ls hl hw hf
      have hf : f_X9_add_b3_s (f_X9_add_b3 n3) x1 x2 σ = some σ' := hf
      unfold f_X9_add_b3_s at hf
      refine lv_iload_n hx hb dX9_add_3 rfl (lv_at hl 2 rfl) ?_
      refine lv_if_lt (tgt := 46) hx hb dX9_add_4 (by decide) (fun h => ?_) (fun h => ?_)
      · have hf := k_ifT h hf
        exact b46 σ _ _ _ (lv_sub hl [] rfl) hw hf
      · have hf := k_ifF h hf
        refine lv_aload_n hx hb dX9_add_7 rfl (lv_at hl 0 rfl) ?_
        refine k_get C hw (LC_1 LC) (ci := 9) rfl k_in9 5 (by decide) lk9_40 (v := .int (σ.1 1 5)) rfl dX9_add_8 ?_
        refine lv_sipush (v := (700 : Int32)) hx hb dX9_add_11 (by decide) ?_
        refine lv_icmp_ge (tgt := 46) hx hb dX9_add_14 (by decide) (fun h => ?_) (fun h => ?_)
        · have hf := k_ifT h hf
          exact b46 σ _ _ _ (lv_sub hl [] rfl) hw hf
        · have hf := k_ifF h hf
          refine lv_aload_n hx hb dX9_add_17 rfl (lv_at hl 0 rfl) ?_
          refine k_get C hw (LC_1 LC) (ci := 9) rfl k_in9 0 (by decide) lk9_9 (v := .ref (ad 2)) rfl dX9_add_18 ?_
          refine lv_aload_n hx hb dX9_add_21 rfl (lv_at hl 0 rfl) ?_
          refine k_get C hw (LC_1 LC) (ci := 9) rfl k_in9 5 (by decide) lk9_40 (v := .int (σ.1 1 5)) rfl dX9_add_22 ?_
          refine lv_iload_n hx hb dX9_add_25 rfl (lv_at hl 1 rfl) ?_
          refine lv_iload_n hx hb dX9_add_26 rfl (lv_at hl 2 rfl) ?_
          refine lv_ishr hx hb dX9_add_27 ?_
          refine lv_i2b (v := (((x1 >>> (x2 &&& 31))).toInt8.toInt32)) hx hb dX9_add_28 rfl ?_
          obtain ⟨hi, hf⟩ := k_ckE hf
          refine k_bast C hw (LC_2 LC) hi dX9_add_29 (fun σ1 eq H locs hw => ?_)
          have hf := k_nmE eq hf
          refine lv_aload_n hx hb dX9_add_30 rfl (lv_at hl 0 rfl) ?_
          refine lv_dup hx hb dX9_add_31 rfl ?_
          refine k_get C hw (LC_1 LC) (ci := 9) rfl k_in9 5 (by decide) lk9_40 (v := .int (σ1.1 1 5)) rfl dX9_add_32 ?_
          refine lv_iconst (v := (1 : Int32)) hx hb dX9_add_35 (by decide) ?_
          refine lv_iadd hx hb dX9_add_36 ?_
          refine k_put C hw (LC_1 LC) (ci := 9) rfl k_in9 tyX9 tyX9_ok nmX9 5 (by decide) lk9_40 rfl ⟨rfl, rfl⟩ rfl dX9_add_37 (fun σ2 eq H locs hw => ?_)
          have hf := k_nmE eq hf
          obtain ⟨u3, ex⟩ : ∃ y : Int32, y = (x2 + (-8 : Int32)) := ⟨_, rfl⟩
          have hf := k_nmE ex hf
          refine lv_iinc (v := u3) (lv' := [(2, .int u3), (0, .ref (ad 1)), (1, .int x1)]) hx hb dX9_add_40 hl (k := 2) rfl (by rw [ex]; rfl) (by decide) rfl (fun ls hl => ?_)
          refine lv_goto (tgt := 3) hx hb dX9_add_43 (by decide) ?_
          exact ih3 x1 u3 σ2 _ _ _ (lv_sub hl [1, 2, 0] rfl) hw hf
  unfold f_X9_add at hf
  refine lv_bipush (v := (24 : Int32)) hx hb dX9_add_0 (by decide) ?_
  refine lv_istore_n (lv' := [(2, .int (24 : Int32)), (0, .ref (ad 1)), (1, .int p1)]) hx hb dX9_add_2 rfl hl (by decide) rfl (fun ls hl => ?_)
  exact b3 FU p1 (24 : Int32) σ _ _ _ (lv_sub hl [1, 2, 0] rfl) hw hf
def f_X9_isLetter_b17  (y0 : Int32) (σ : MSt) : Option (Int32 × MSt) :=
  k_ck (k_bo y0) <|
  some (y0, σ)
def f_X9_isLetter_b16   (σ : MSt) : Option (Int32 × MSt) :=
  f_X9_isLetter_b17 (0 : Int32) σ
def f_X9_isLetter  (p1 : Int32) (σ : MSt) : Option (Int32 × MSt) :=
  if p1 < (97 : Int32) then
  (f_X9_isLetter_b16 σ)
  else
  (if (122 : Int32) < p1 then
  (f_X9_isLetter_b16 σ)
  else
  (f_X9_isLetter_b17 (1 : Int32) σ))
def rmX9_isLetter : Room := { frames := 0, cells := 0, slots := 0, locals := 0 }
set_option maxHeartbeats 4000000 in
set_option maxRecDepth 100000 in
theorem c_X9_isLetter (l : Launch) (G : va_G) (Y : CY) (w : MSt → va_W) (ad : Nat → Nat)  (LC : LayC ad w Y) (p1 : Int32) (σ : MSt) (r : Int32) (σ' : MSt) (hf : f_X9_isLetter p1 σ = some (r, σ')) : k_Mi l yX9_isLetter wsX9_isLetter rmX9_isLetter G Y w [.int p1] σ r σ' := by
  refine k_ofi (own := RX9) (cc := cX9_isLetter) (maxL := 1) (some .boolean) (by decide) rfl rfl (Nat.le_of_ble_eq_true rfl) ?_
  intro p e s m below meth c A C ls hl hw
  have hx := C.1
  have hb := C.2.1
  have hown := C.2.2.2.2.1
  have hts := C.2.2.2.2.2.1
  have hks := C.2.2.2.2.2.2.1
  have hl : lv_has ls 1 [(0, .int p1)] := hl
  have b17 : ∀ (y0 : Int32) (σ : MSt) (H : Heap) (locs : List Loc) (ls : Array Slot), lv_has ls 1 [] → k_W G w A s.heap σ H locs → f_X9_isLetter_b17 y0 σ = some (r, σ') → W p l e rmX9_isLetter s m [.int p1].toArray below meth c H locs 0 0 (MQ below (k_Qi G w A r σ') [.int p1].toArray s 0 0 A) (F0 m 17 ls [.int y0]) := by
    intro y0 σ H locs ls hl hw hf
    unfold f_X9_isLetter_b17 at hf
    obtain ⟨hz, hf⟩ := k_ckE hf
    exact k_zret C hw (k_boE hz).1 hf dX9_isLetter_17
  have b16 : ∀ (σ : MSt) (H : Heap) (locs : List Loc) (ls : Array Slot), lv_has ls 1 [] → k_W G w A s.heap σ H locs → f_X9_isLetter_b16 σ = some (r, σ') → W p l e rmX9_isLetter s m [.int p1].toArray below meth c H locs 0 0 (MQ below (k_Qi G w A r σ') [.int p1].toArray s 0 0 A) (F0 m 16 ls []) := by
    intro σ H locs ls hl hw hf
    unfold f_X9_isLetter_b16 at hf
    refine lv_iconst (v := (0 : Int32)) hx hb dX9_isLetter_16 (by decide) ?_
    exact b17 (0 : Int32) σ _ _ _ (lv_sub hl [] rfl) hw hf
  unfold f_X9_isLetter at hf
  refine lv_iload_n hx hb dX9_isLetter_0 rfl (lv_at hl 0 rfl) ?_
  refine lv_bipush (v := (97 : Int32)) hx hb dX9_isLetter_1 (by decide) ?_
  refine lv_icmp_lt (tgt := 16) hx hb dX9_isLetter_3 (by decide) (fun h => ?_) (fun h => ?_)
  · have hf := k_ifT h hf
    exact b16 σ _ _ _ (lv_sub hl [] rfl) hw hf
  · have hf := k_ifF h hf
    refine lv_iload_n hx hb dX9_isLetter_6 rfl (lv_at hl 0 rfl) ?_
    refine lv_bipush (v := (122 : Int32)) hx hb dX9_isLetter_7 (by decide) ?_
    refine lv_icmp_gt (tgt := 16) hx hb dX9_isLetter_9 (by decide) (fun h => ?_) (fun h => ?_)
    · have hf := k_ifT h hf
      exact b16 σ _ _ _ (lv_sub hl [] rfl) hw hf
    · have hf := k_ifF h hf
      refine lv_iconst (v := (1 : Int32)) hx hb dX9_isLetter_12 (by decide) ?_
      refine lv_goto (tgt := 17) hx hb dX9_isLetter_13 (by decide) ?_
      exact b17 (1 : Int32) σ _ _ _ (lv_sub hl [] rfl) hw hf
def f_X9_addToken_b50   (σ : MSt) : Option MSt :=
  some σ
def f_X9_addToken  (p1 : Int32) (p2 : Int32) (p3 : Int32) (σ : MSt) : Option MSt :=
  if (700 : Int32) ≤ (σ.1 1 7) then
  (f_X9_addToken_b50 σ)
  else
  (k_ck (k_inb (σ.1 1 7) 700) <|
  k_nm (mI σ 3 ((σ.1 1 7)).toNatClampNeg p1) fun σ1 =>
  k_ck (k_inb (σ1.1 1 7) 700) <|
  k_nm (mI σ1 4 ((σ1.1 1 7)).toNatClampNeg p2) fun σ2 =>
  k_ck (k_inb (σ2.1 1 7) 700) <|
  k_nm (mI σ2 5 ((σ2.1 1 7)).toNatClampNeg p3) fun σ3 =>
  k_nm (mI σ3 1 7 ((σ3.1 1 7) + (1 : Int32))) fun σ4 =>
  f_X9_addToken_b50 σ4)
def rmX9_addToken : Room := { frames := 0, cells := 0, slots := 0, locals := 0 }
set_option maxHeartbeats 4000000 in
set_option maxRecDepth 100000 in
theorem c_X9_addToken (l : Launch) (G : va_G) (Y : CY) (w : MSt → va_W) (ad : Nat → Nat)  (LC : LayC ad w Y) (p1 : Int32) (p2 : Int32) (p3 : Int32) (σ : MSt) (σ' : MSt) (hf : f_X9_addToken p1 p2 p3 σ = some σ') : k_Mv l yX9_addToken wsX9_addToken rmX9_addToken G Y w [.ref (ad 1), .int p1, .int p2, .int p3] σ σ' := by
  refine k_ofv (own := RX9) (cc := cX9_addToken) (maxL := 4) none (by decide) rfl rfl (Nat.le_of_ble_eq_true rfl) ?_
  intro p e s m below meth c A C ls hl hw
  have hx := C.1
  have hb := C.2.1
  have hown := C.2.2.2.2.1
  have hts := C.2.2.2.2.2.1
  have hks := C.2.2.2.2.2.2.1
  have hl : lv_has ls 4 [(0, .ref (ad 1)), (1, .int p1), (2, .int p2), (3, .int p3)] := hl
  have b50 : ∀ (σ : MSt) (H : Heap) (locs : List Loc) (ls : Array Slot), lv_has ls 4 [] → k_W G w A s.heap σ H locs → f_X9_addToken_b50 σ = some σ' → W p l e rmX9_addToken s m [.ref (ad 1), .int p1, .int p2, .int p3].toArray below meth c H locs 0 0 (MQ below (k_Qv G w A σ') [.ref (ad 1), .int p1, .int p2, .int p3].toArray s 0 0 A) (F0 m 50 ls []) := by
    intro σ H locs ls hl hw hf
    unfold f_X9_addToken_b50 at hf
    exact k_vret C hw hf dX9_addToken_50
  unfold f_X9_addToken at hf
  refine lv_aload_n hx hb dX9_addToken_0 rfl (lv_at hl 0 rfl) ?_
  refine k_get C hw (LC_1 LC) (ci := 9) rfl k_in9 7 (by decide) lk9_52 (v := .int (σ.1 1 7)) rfl dX9_addToken_1 ?_
  refine lv_sipush (v := (700 : Int32)) hx hb dX9_addToken_4 (by decide) ?_
  refine lv_icmp_ge (tgt := 50) hx hb dX9_addToken_7 (by decide) (fun h => ?_) (fun h => ?_)
  · have hf := k_ifT h hf
    exact b50 σ _ _ _ (lv_sub hl [] rfl) hw hf
  · have hf := k_ifF h hf
    refine lv_aload_n hx hb dX9_addToken_10 rfl (lv_at hl 0 rfl) ?_
    refine k_get C hw (LC_1 LC) (ci := 9) rfl k_in9 1 (by decide) lk9_15 (v := .ref (ad 3)) rfl dX9_addToken_11 ?_
    refine lv_aload_n hx hb dX9_addToken_14 rfl (lv_at hl 0 rfl) ?_
    refine k_get C hw (LC_1 LC) (ci := 9) rfl k_in9 7 (by decide) lk9_52 (v := .int (σ.1 1 7)) rfl dX9_addToken_15 ?_
    refine lv_iload_n hx hb dX9_addToken_18 rfl (lv_at hl 1 rfl) ?_
    obtain ⟨hi, hf⟩ := k_ckE hf
    refine k_iast C hw (LC_3 LC) hi dX9_addToken_19 (fun σ1 eq H locs hw => ?_)
    have hf := k_nmE eq hf
    refine lv_aload_n hx hb dX9_addToken_20 rfl (lv_at hl 0 rfl) ?_
    refine k_get C hw (LC_1 LC) (ci := 9) rfl k_in9 2 (by decide) lk9_19 (v := .ref (ad 4)) rfl dX9_addToken_21 ?_
    refine lv_aload_n hx hb dX9_addToken_24 rfl (lv_at hl 0 rfl) ?_
    refine k_get C hw (LC_1 LC) (ci := 9) rfl k_in9 7 (by decide) lk9_52 (v := .int (σ1.1 1 7)) rfl dX9_addToken_25 ?_
    refine lv_iload_n hx hb dX9_addToken_28 rfl (lv_at hl 2 rfl) ?_
    obtain ⟨hi, hf⟩ := k_ckE hf
    refine k_iast C hw (LC_4 LC) hi dX9_addToken_29 (fun σ2 eq H locs hw => ?_)
    have hf := k_nmE eq hf
    refine lv_aload_n hx hb dX9_addToken_30 rfl (lv_at hl 0 rfl) ?_
    refine k_get C hw (LC_1 LC) (ci := 9) rfl k_in9 3 (by decide) lk9_22 (v := .ref (ad 5)) rfl dX9_addToken_31 ?_
    refine lv_aload_n hx hb dX9_addToken_34 rfl (lv_at hl 0 rfl) ?_
    refine k_get C hw (LC_1 LC) (ci := 9) rfl k_in9 7 (by decide) lk9_52 (v := .int (σ2.1 1 7)) rfl dX9_addToken_35 ?_
    refine lv_iload_n hx hb dX9_addToken_38 rfl (lv_at hl 3 rfl) ?_
    obtain ⟨hi, hf⟩ := k_ckE hf
    refine k_iast C hw (LC_5 LC) hi dX9_addToken_39 (fun σ3 eq H locs hw => ?_)
    have hf := k_nmE eq hf
    refine lv_aload_n hx hb dX9_addToken_40 rfl (lv_at hl 0 rfl) ?_
    refine lv_dup hx hb dX9_addToken_41 rfl ?_
    refine k_get C hw (LC_1 LC) (ci := 9) rfl k_in9 7 (by decide) lk9_52 (v := .int (σ3.1 1 7)) rfl dX9_addToken_42 ?_
    refine lv_iconst (v := (1 : Int32)) hx hb dX9_addToken_45 (by decide) ?_
    refine lv_iadd hx hb dX9_addToken_46 ?_
    refine k_put C hw (LC_1 LC) (ci := 9) rfl k_in9 tyX9 tyX9_ok nmX9 7 (by decide) lk9_52 rfl ⟨rfl, rfl⟩ rfl dX9_addToken_47 (fun σ4 eq H locs hw => ?_)
    have hf := k_nmE eq hf
    exact b50 σ4 _ _ _ (lv_sub hl [] rfl) hw hf
def f_X9_sortOfWord_b2_s  (r2 : Int32 → Int32 → MSt → Option (Int32 × MSt)) (x1 : Int32) (x2 : Int32) (σ : MSt) : Option (Int32 × MSt) :=
  if (22 : Int32) ≤ x2 then
  (some ((2 : Int32), σ))
  else
  (k_ck (k_inb x2 22) <|
  if (σ.1 6 (x2).toNatClampNeg) = x1 then
  (some (((10 : Int32) + x2), σ))
  else
  (k_nm (x2 + (1 : Int32)) fun u1 =>
  r2 x1 u1 σ))
def f_X9_sortOfWord_b2  : Nat → Int32 → Int32 → MSt → Option (Int32 × MSt)
  | 0 => fun _ _ _ => none
  | n + 1 => f_X9_sortOfWord_b2_s (f_X9_sortOfWord_b2 n)
def f_X9_sortOfWord  (p1 : Int32) (σ : MSt) : Option (Int32 × MSt) :=
  f_X9_sortOfWord_b2 FU p1 (0 : Int32) σ
def rmX9_sortOfWord : Room := { frames := 0, cells := 0, slots := 0, locals := 0 }
set_option maxHeartbeats 4000000 in
set_option maxRecDepth 100000 in
theorem c_X9_sortOfWord (l : Launch) (G : va_G) (Y : CY) (w : MSt → va_W) (ad : Nat → Nat)  (LC : LayC ad w Y) (p1 : Int32) (σ : MSt) (r : Int32) (σ' : MSt) (hf : f_X9_sortOfWord p1 σ = some (r, σ')) : k_Mi l yX9_sortOfWord wsX9_sortOfWord rmX9_sortOfWord G Y w [.ref (ad 1), .int p1] σ r σ' := by
  refine k_ofi (own := RX9) (cc := cX9_sortOfWord) (maxL := 3) (some .int) (by decide) rfl rfl (Nat.le_of_ble_eq_true rfl) ?_
  intro p e s m below meth c A C ls hl hw
  have hx := C.1
  have hb := C.2.1
  have hown := C.2.2.2.2.1
  have hts := C.2.2.2.2.2.1
  have hks := C.2.2.2.2.2.2.1
  have hl : lv_has ls 3 [(0, .ref (ad 1)), (1, .int p1)] := hl
  have b2 : ∀ (n2 : Nat) (x1 : Int32) (x2 : Int32) (σ : MSt) (H : Heap) (locs : List Loc) (ls : Array Slot), lv_has ls 3 [(0, .ref (ad 1)), (1, .int x1), (2, .int x2)] → k_W G w A s.heap σ H locs → f_X9_sortOfWord_b2 n2 x1 x2 σ = some (r, σ') → W p l e rmX9_sortOfWord s m [.ref (ad 1), .int p1].toArray below meth c H locs 0 0 (MQ below (k_Qi G w A r σ') [.ref (ad 1), .int p1].toArray s 0 0 A) (F0 m 2 ls []) := by
    intro n2
    induction n2 with
    | zero =>
      intro x1 x2 σ H locs ls hl hw hf
      have hf : (none : Option (Int32 × MSt)) = some (r, σ') := hf
      cases hf
    | succ n2 ih2 =>
      intro x1 x2 σ H locs ls hl hw hf
      have hf : f_X9_sortOfWord_b2_s (f_X9_sortOfWord_b2 n2) x1 x2 σ = some (r, σ') := hf
      unfold f_X9_sortOfWord_b2_s at hf
      refine lv_iload_n hx hb dX9_sortOfWord_2 rfl (lv_at hl 2 rfl) ?_
      refine lv_bipush (v := (22 : Int32)) hx hb dX9_sortOfWord_3 (by decide) ?_
      refine lv_icmp_ge (tgt := 29) hx hb dX9_sortOfWord_5 (by decide) (fun h => ?_) (fun h => ?_)
      · have hf := k_ifT h hf
        refine lv_iconst (v := (2 : Int32)) hx hb dX9_sortOfWord_29 (by decide) ?_
        exact k_iret C hw hf dX9_sortOfWord_30
      · have hf := k_ifF h hf
        refine lv_aload_n hx hb dX9_sortOfWord_8 rfl (lv_at hl 0 rfl) ?_
        refine k_get C hw (LC_1 LC) (ci := 9) rfl k_in9 4 (by decide) lk9_25 (v := .ref (ad 6)) rfl dX9_sortOfWord_9 ?_
        refine lv_iload_n hx hb dX9_sortOfWord_12 rfl (lv_at hl 2 rfl) ?_
        obtain ⟨hi, hf⟩ := k_ckE hf
        refine k_iald C hw (LC_6 LC) hi dX9_sortOfWord_13 ?_
        refine lv_iload_n hx hb dX9_sortOfWord_14 rfl (lv_at hl 1 rfl) ?_
        refine lv_icmp_ne (tgt := 23) hx hb dX9_sortOfWord_15 (by decide) (fun h => ?_) (fun h => ?_)
        · have hf := k_ifF h hf
          obtain ⟨u1, ex⟩ : ∃ y : Int32, y = (x2 + (1 : Int32)) := ⟨_, rfl⟩
          have hf := k_nmE ex hf
          refine lv_iinc (v := u1) (lv' := [(2, .int u1), (0, .ref (ad 1)), (1, .int x1)]) hx hb dX9_sortOfWord_23 hl (k := 2) rfl (by rw [ex]; rfl) (by decide) rfl (fun ls hl => ?_)
          refine lv_goto (tgt := 2) hx hb dX9_sortOfWord_26 (by decide) ?_
          exact ih2 x1 u1 σ _ _ _ (lv_sub hl [1, 2, 0] rfl) hw hf
        · have hf := k_ifT h hf
          refine lv_bipush (v := (10 : Int32)) hx hb dX9_sortOfWord_18 (by decide) ?_
          refine lv_iload_n hx hb dX9_sortOfWord_20 rfl (lv_at hl 2 rfl) ?_
          refine lv_iadd hx hb dX9_sortOfWord_21 ?_
          exact k_iret C hw hf dX9_sortOfWord_22
  unfold f_X9_sortOfWord at hf
  refine lv_iconst (v := (0 : Int32)) hx hb dX9_sortOfWord_0 (by decide) ?_
  refine lv_istore_n (lv' := [(2, .int (0 : Int32)), (0, .ref (ad 1)), (1, .int p1)]) hx hb dX9_sortOfWord_1 rfl hl (by decide) rfl (fun ls hl => ?_)
  exact b2 FU p1 (0 : Int32) σ _ _ _ (lv_sub hl [1, 2, 0] rfl) hw hf
def f_X9_cutWord_b117   (σ : MSt) : Option MSt :=
  some σ
def f_X9_cutWord_b85  (x1 : Int32) (x2 : Int32) (σ : MSt) : Option MSt :=
  if ((σ.1 1 8) - x1) ≤ (6 : Int32) then
  (k_bd (f_X9_sortOfWord x2 σ) fun q2 σ1 =>
  k_bv (f_X9_addToken q2 x2 x1 σ1) fun σ3 =>
  f_X9_cutWord_b117 σ3)
  else
  (k_bv (f_X9_addToken (1 : Int32) (0 : Int32) x1 σ) fun σ4 =>
  f_X9_cutWord_b117 σ4)
def f_X9_cutWord_b72  (r7 : Int32 → Int32 → MSt → Option MSt) (x1 : Int32) (x2 : Int32) (σ : MSt) : Option MSt :=
  k_nm (mI σ 1 8 ((σ.1 1 8) + (1 : Int32))) fun σ1 =>
  r7 x1 x2 σ1
def f_X9_cutWord_b7_s  (r7 : Int32 → Int32 → MSt → Option MSt) (x1 : Int32) (x2 : Int32) (σ : MSt) : Option MSt :=
  if (σ.1 1 6) ≤ (σ.1 1 8) then
  (f_X9_cutWord_b85 x1 x2 σ)
  else
  (k_ck (k_inb (σ.1 1 8) 700) <|
  k_bd (f_X9_isLetter (σ.1 2 ((σ.1 1 8)).toNatClampNeg) σ) fun q2 σ1 =>
  if q2 = 0 then
  (f_X9_cutWord_b85 x1 x2 σ1)
  else
  (if (6 : Int32) ≤ ((σ1.1 1 8) - x1) then
  (f_X9_cutWord_b72 r7 x1 x2 σ1)
  else
  (k_ck (k_inb (σ1.1 1 8) 700) <|
  k_nm (x2 ||| ((((σ1.1 2 ((σ1.1 1 8)).toNatClampNeg) - (97 : Int32)) + (1 : Int32)) <<< (((5 : Int32) * ((5 : Int32) - ((σ1.1 1 8) - x1))) &&& 31))) fun u3 =>
  f_X9_cutWord_b72 r7 x1 u3 σ1)))
def f_X9_cutWord_b7  : Nat → Int32 → Int32 → MSt → Option MSt
  | 0 => fun _ _ _ => none
  | n + 1 => f_X9_cutWord_b7_s (f_X9_cutWord_b7 n)
def f_X9_cutWord   (σ : MSt) : Option MSt :=
  k_nm (σ.1 1 8) fun u4 =>
  f_X9_cutWord_b7 FU u4 (0 : Int32) σ
def rmX9_cutWord : Room := { frames := 1, cells := 0, slots := 0, locals := 23 }
set_option maxHeartbeats 4000000 in
set_option maxRecDepth 100000 in
theorem c_X9_cutWord (l : Launch) (G : va_G) (Y : CY) (w : MSt → va_W) (ad : Nat → Nat)  (LC : LayC ad w Y)  (σ : MSt) (σ' : MSt) (hf : f_X9_cutWord σ = some σ') : k_Mv l yX9_cutWord wsX9_cutWord rmX9_cutWord G Y w [.ref (ad 1)] σ σ' := by
  refine k_ofv (own := RX9) (cc := cX9_cutWord) (maxL := 3) none (by decide) rfl rfl (Nat.le_of_ble_eq_true rfl) ?_
  intro p e s m below meth c A C ls hl hw
  have hx := C.1
  have hb := C.2.1
  have hown := C.2.2.2.2.1
  have hts := C.2.2.2.2.2.1
  have hks := C.2.2.2.2.2.2.1
  have hl : lv_has ls 3 [(0, .ref (ad 1))] := hl
  have b117 : ∀ (σ : MSt) (H : Heap) (locs : List Loc) (ls : Array Slot), lv_has ls 3 [] → k_W G w A s.heap σ H locs → f_X9_cutWord_b117 σ = some σ' → W p l e rmX9_cutWord s m [.ref (ad 1)].toArray below meth c H locs 0 0 (MQ below (k_Qv G w A σ') [.ref (ad 1)].toArray s 0 0 A) (F0 m 117 ls []) := by
    intro σ H locs ls hl hw hf
    unfold f_X9_cutWord_b117 at hf
    exact k_vret C hw hf dX9_cutWord_117
  have b85 : ∀ (x1 : Int32) (x2 : Int32) (σ : MSt) (H : Heap) (locs : List Loc) (ls : Array Slot), lv_has ls 3 [(0, .ref (ad 1)), (1, .int x1), (2, .int x2)] → k_W G w A s.heap σ H locs → f_X9_cutWord_b85 x1 x2 σ = some σ' → W p l e rmX9_cutWord s m [.ref (ad 1)].toArray below meth c H locs 0 0 (MQ below (k_Qv G w A σ') [.ref (ad 1)].toArray s 0 0 A) (F0 m 85 ls []) := by
    intro x1 x2 σ H locs ls hl hw hf
    unfold f_X9_cutWord_b85 at hf
    refine lv_aload_n hx hb dX9_cutWord_85 rfl (lv_at hl 0 rfl) ?_
    refine k_get C hw (LC_1 LC) (ci := 9) rfl k_in9 8 (by decide) lk9_55 (v := .int (σ.1 1 8)) rfl dX9_cutWord_86 ?_
    refine lv_iload_n hx hb dX9_cutWord_89 rfl (lv_at hl 1 rfl) ?_
    refine lv_isub hx hb dX9_cutWord_90 ?_
    refine lv_bipush (v := (6 : Int32)) hx hb dX9_cutWord_91 (by decide) ?_
    refine lv_icmp_le (tgt := 106) hx hb dX9_cutWord_93 (by decide) (fun h => ?_) (fun h => ?_)
    · have hf := k_ifT h hf
      refine lv_aload_n hx hb dX9_cutWord_106 rfl (lv_at hl 0 rfl) ?_
      refine lv_aload_n hx hb dX9_cutWord_107 rfl (lv_at hl 0 rfl) ?_
      refine lv_iload_n hx hb dX9_cutWord_108 rfl (lv_at hl 2 rfl) ?_
      obtain ⟨q2, σ1, hq, hf⟩ := k_bdE hf
      refine k_callVi C hw (c_X9_sortOfWord l G Y w ad LC x2 σ q2 σ1 hq) (cwV 1 hts gX9_cutWord_X9_sortOfWord rfl rfl rfl (by decide +kernel) ⟨Nat.le_of_ble_eq_true rfl, Nat.le_of_ble_eq_true rfl⟩) (k_recv C hw (LC_1 LC) rfl) rfl hl.1 rfl (Nat.le_of_ble_eq_true rfl) dX9_cutWord_109 (fun H locs hw => ?_)
      refine lv_iload_n hx hb dX9_cutWord_112 rfl (lv_at hl 2 rfl) ?_
      refine lv_iload_n hx hb dX9_cutWord_113 rfl (lv_at hl 1 rfl) ?_
      obtain ⟨σ3, hq, hf⟩ := k_bvE hf
      refine k_callVv C hw (c_X9_addToken l G Y w ad LC q2 x2 x1 σ1 σ3 hq) (cwV 3 hts gX9_cutWord_X9_addToken rfl rfl rfl (by decide +kernel) ⟨Nat.le_of_ble_eq_true rfl, Nat.le_of_ble_eq_true rfl⟩) (k_recv C hw (LC_1 LC) rfl) rfl hl.1 rfl (Nat.le_of_ble_eq_true rfl) dX9_cutWord_114 (fun H locs hw => ?_)
      exact b117 σ3 _ _ _ (lv_sub hl [] rfl) hw hf
    · have hf := k_ifF h hf
      refine lv_aload_n hx hb dX9_cutWord_96 rfl (lv_at hl 0 rfl) ?_
      refine lv_iconst (v := (1 : Int32)) hx hb dX9_cutWord_97 (by decide) ?_
      refine lv_iconst (v := (0 : Int32)) hx hb dX9_cutWord_98 (by decide) ?_
      refine lv_iload_n hx hb dX9_cutWord_99 rfl (lv_at hl 1 rfl) ?_
      obtain ⟨σ4, hq, hf⟩ := k_bvE hf
      refine k_callVv C hw (c_X9_addToken l G Y w ad LC (1 : Int32) (0 : Int32) x1 σ σ4 hq) (cwV 3 hts gX9_cutWord_X9_addToken rfl rfl rfl (by decide +kernel) ⟨Nat.le_of_ble_eq_true rfl, Nat.le_of_ble_eq_true rfl⟩) (k_recv C hw (LC_1 LC) rfl) rfl hl.1 rfl (Nat.le_of_ble_eq_true rfl) dX9_cutWord_100 (fun H locs hw => ?_)
      refine lv_goto (tgt := 117) hx hb dX9_cutWord_103 (by decide) ?_
      exact b117 σ4 _ _ _ (lv_sub hl [] rfl) hw hf
  have b7 : ∀ (n7 : Nat) (x1 : Int32) (x2 : Int32) (σ : MSt) (H : Heap) (locs : List Loc) (ls : Array Slot), lv_has ls 3 [(0, .ref (ad 1)), (1, .int x1), (2, .int x2)] → k_W G w A s.heap σ H locs → f_X9_cutWord_b7 n7 x1 x2 σ = some σ' → W p l e rmX9_cutWord s m [.ref (ad 1)].toArray below meth c H locs 0 0 (MQ below (k_Qv G w A σ') [.ref (ad 1)].toArray s 0 0 A) (F0 m 7 ls []) := by
    intro n7
    induction n7 with
    | zero =>
      intro x1 x2 σ H locs ls hl hw hf
      have hf : (none : Option MSt) = some σ' := hf
      cases hf
    | succ n7 ih7 =>
      have b72 : ∀ (x1 : Int32) (x2 : Int32) (σ : MSt) (H : Heap) (locs : List Loc) (ls : Array Slot), lv_has ls 3 [(0, .ref (ad 1)), (1, .int x1), (2, .int x2)] → k_W G w A s.heap σ H locs → f_X9_cutWord_b72 (f_X9_cutWord_b7 n7) x1 x2 σ = some σ' → W p l e rmX9_cutWord s m [.ref (ad 1)].toArray below meth c H locs 0 0 (MQ below (k_Qv G w A σ') [.ref (ad 1)].toArray s 0 0 A) (F0 m 72 ls []) := by
        intro x1 x2 σ H locs ls hl hw hf
        unfold f_X9_cutWord_b72 at hf
        refine lv_aload_n hx hb dX9_cutWord_72 rfl (lv_at hl 0 rfl) ?_
        refine lv_dup hx hb dX9_cutWord_73 rfl ?_
        refine k_get C hw (LC_1 LC) (ci := 9) rfl k_in9 8 (by decide) lk9_55 (v := .int (σ.1 1 8)) rfl dX9_cutWord_74 ?_
        refine lv_iconst (v := (1 : Int32)) hx hb dX9_cutWord_77 (by decide) ?_
        refine lv_iadd hx hb dX9_cutWord_78 ?_
        refine k_put C hw (LC_1 LC) (ci := 9) rfl k_in9 tyX9 tyX9_ok nmX9 8 (by decide) lk9_55 rfl ⟨rfl, rfl⟩ rfl dX9_cutWord_79 (fun σ1 eq H locs hw => ?_)
        have hf := k_nmE eq hf
        refine lv_goto (tgt := 7) hx hb dX9_cutWord_82 (by decide) ?_
        exact ih7 x1 x2 σ1 _ _ _ (lv_sub hl [0, 1, 2] rfl) hw hf
      intro x1 x2 σ H locs ls hl hw hf
      have hf : f_X9_cutWord_b7_s (f_X9_cutWord_b7 n7) x1 x2 σ = some σ' := hf
      unfold f_X9_cutWord_b7_s at hf
      refine lv_aload_n hx hb dX9_cutWord_7 rfl (lv_at hl 0 rfl) ?_
      refine k_get C hw (LC_1 LC) (ci := 9) rfl k_in9 8 (by decide) lk9_55 (v := .int (σ.1 1 8)) rfl dX9_cutWord_8 ?_
      refine lv_aload_n hx hb dX9_cutWord_11 rfl (lv_at hl 0 rfl) ?_
      refine k_get C hw (LC_1 LC) (ci := 9) rfl k_in9 6 (by decide) lk9_50 (v := .int (σ.1 1 6)) rfl dX9_cutWord_12 ?_
      refine lv_icmp_ge (tgt := 85) hx hb dX9_cutWord_15 (by decide) (fun h => ?_) (fun h => ?_)
      · have hf := k_ifT h hf
        exact b85 x1 x2 σ _ _ _ (lv_sub hl [0, 1, 2] rfl) hw hf
      · have hf := k_ifF h hf
        refine lv_aload_n hx hb dX9_cutWord_18 rfl (lv_at hl 0 rfl) ?_
        refine k_get C hw (LC_1 LC) (ci := 9) rfl k_in9 0 (by decide) lk9_9 (v := .ref (ad 2)) rfl dX9_cutWord_19 ?_
        refine lv_aload_n hx hb dX9_cutWord_22 rfl (lv_at hl 0 rfl) ?_
        refine k_get C hw (LC_1 LC) (ci := 9) rfl k_in9 8 (by decide) lk9_55 (v := .int (σ.1 1 8)) rfl dX9_cutWord_23 ?_
        obtain ⟨hi, hf⟩ := k_ckE hf
        refine k_bald C hw (LC_2 LC) hi dX9_cutWord_26 ?_
        obtain ⟨q2, σ1, hq, hf⟩ := k_bdE hf
        refine k_callSi C hw (c_X9_isLetter l G Y w ad LC (σ.1 2 ((σ.1 1 8)).toNatClampNeg) σ q2 σ1 hq) (va_cwS 1 hts gX9_cutWord_X9_isLetter rfl rfl rfl (by decide +kernel) ⟨Nat.le_of_ble_eq_true rfl, Nat.le_of_ble_eq_true rfl⟩) rfl hl.1 rfl (Nat.le_of_ble_eq_true rfl) dX9_cutWord_27 (fun H locs hw => ?_)
        refine lv_if_eq (tgt := 85) hx hb dX9_cutWord_30 (by decide) (fun h => ?_) (fun h => ?_)
        · have hf := k_ifT h hf
          exact b85 x1 x2 σ1 _ _ _ (lv_sub hl [0, 1, 2] rfl) hw hf
        · have hf := k_ifF h hf
          refine lv_aload_n hx hb dX9_cutWord_33 rfl (lv_at hl 0 rfl) ?_
          refine k_get C hw (LC_1 LC) (ci := 9) rfl k_in9 8 (by decide) lk9_55 (v := .int (σ1.1 1 8)) rfl dX9_cutWord_34 ?_
          refine lv_iload_n hx hb dX9_cutWord_37 rfl (lv_at hl 1 rfl) ?_
          refine lv_isub hx hb dX9_cutWord_38 ?_
          refine lv_bipush (v := (6 : Int32)) hx hb dX9_cutWord_39 (by decide) ?_
          refine lv_icmp_ge (tgt := 72) hx hb dX9_cutWord_41 (by decide) (fun h => ?_) (fun h => ?_)
          · have hf := k_ifT h hf
            exact b72 x1 x2 σ1 _ _ _ (lv_sub hl [0, 1, 2] rfl) hw hf
          · have hf := k_ifF h hf
            refine lv_iload_n hx hb dX9_cutWord_44 rfl (lv_at hl 2 rfl) ?_
            refine lv_aload_n hx hb dX9_cutWord_45 rfl (lv_at hl 0 rfl) ?_
            refine k_get C hw (LC_1 LC) (ci := 9) rfl k_in9 0 (by decide) lk9_9 (v := .ref (ad 2)) rfl dX9_cutWord_46 ?_
            refine lv_aload_n hx hb dX9_cutWord_49 rfl (lv_at hl 0 rfl) ?_
            refine k_get C hw (LC_1 LC) (ci := 9) rfl k_in9 8 (by decide) lk9_55 (v := .int (σ1.1 1 8)) rfl dX9_cutWord_50 ?_
            obtain ⟨hi, hf⟩ := k_ckE hf
            refine k_bald C hw (LC_2 LC) hi dX9_cutWord_53 ?_
            refine lv_bipush (v := (97 : Int32)) hx hb dX9_cutWord_54 (by decide) ?_
            refine lv_isub hx hb dX9_cutWord_56 ?_
            refine lv_iconst (v := (1 : Int32)) hx hb dX9_cutWord_57 (by decide) ?_
            refine lv_iadd hx hb dX9_cutWord_58 ?_
            refine lv_iconst (v := (5 : Int32)) hx hb dX9_cutWord_59 (by decide) ?_
            refine lv_iconst (v := (5 : Int32)) hx hb dX9_cutWord_60 (by decide) ?_
            refine lv_aload_n hx hb dX9_cutWord_61 rfl (lv_at hl 0 rfl) ?_
            refine k_get C hw (LC_1 LC) (ci := 9) rfl k_in9 8 (by decide) lk9_55 (v := .int (σ1.1 1 8)) rfl dX9_cutWord_62 ?_
            refine lv_iload_n hx hb dX9_cutWord_65 rfl (lv_at hl 1 rfl) ?_
            refine lv_isub hx hb dX9_cutWord_66 ?_
            refine lv_isub hx hb dX9_cutWord_67 ?_
            refine lv_imul hx hb dX9_cutWord_68 ?_
            refine lv_ishl hx hb dX9_cutWord_69 ?_
            refine lv_ior hx hb dX9_cutWord_70 ?_
            refine lv_topi (fun u3 ex => ?_)
            have hf := k_nmE ex hf
            refine lv_istore_n (lv' := [(2, .int u3), (0, .ref (ad 1)), (1, .int x1)]) hx hb dX9_cutWord_71 rfl hl (by decide) rfl (fun ls hl => ?_)
            exact b72 x1 u3 σ1 _ _ _ (lv_sub hl [1, 2, 0] rfl) hw hf
  unfold f_X9_cutWord at hf
  refine lv_aload_n hx hb dX9_cutWord_0 rfl (lv_at hl 0 rfl) ?_
  refine k_get C hw (LC_1 LC) (ci := 9) rfl k_in9 8 (by decide) lk9_55 (v := .int (σ.1 1 8)) rfl dX9_cutWord_1 ?_
  refine lv_topi (fun u4 ex => ?_)
  have hf := k_nmE ex hf
  refine lv_istore_n (lv' := [(1, .int u4), (0, .ref (ad 1))]) hx hb dX9_cutWord_4 rfl hl (by decide) rfl (fun ls hl => ?_)
  refine lv_iconst (v := (0 : Int32)) hx hb dX9_cutWord_5 (by decide) ?_
  refine lv_istore_n (lv' := [(2, .int (0 : Int32)), (1, .int u4), (0, .ref (ad 1))]) hx hb dX9_cutWord_6 rfl hl (by decide) rfl (fun ls hl => ?_)
  exact b7 FU u4 (0 : Int32) σ _ _ _ (lv_sub hl [2, 1, 0] rfl) hw hf
def f_X9_isDigit_b17  (y0 : Int32) (σ : MSt) : Option (Int32 × MSt) :=
  k_ck (k_bo y0) <|
  some (y0, σ)
def f_X9_isDigit_b16   (σ : MSt) : Option (Int32 × MSt) :=
  f_X9_isDigit_b17 (0 : Int32) σ
def f_X9_isDigit  (p1 : Int32) (σ : MSt) : Option (Int32 × MSt) :=
  if p1 < (48 : Int32) then
  (f_X9_isDigit_b16 σ)
  else
  (if (57 : Int32) < p1 then
  (f_X9_isDigit_b16 σ)
  else
  (f_X9_isDigit_b17 (1 : Int32) σ))
def rmX9_isDigit : Room := { frames := 0, cells := 0, slots := 0, locals := 0 }
set_option maxHeartbeats 4000000 in
set_option maxRecDepth 100000 in
theorem c_X9_isDigit (l : Launch) (G : va_G) (Y : CY) (w : MSt → va_W) (ad : Nat → Nat)  (LC : LayC ad w Y) (p1 : Int32) (σ : MSt) (r : Int32) (σ' : MSt) (hf : f_X9_isDigit p1 σ = some (r, σ')) : k_Mi l yX9_isDigit wsX9_isDigit rmX9_isDigit G Y w [.int p1] σ r σ' := by
  refine k_ofi (own := RX9) (cc := cX9_isDigit) (maxL := 1) (some .boolean) (by decide) rfl rfl (Nat.le_of_ble_eq_true rfl) ?_
  intro p e s m below meth c A C ls hl hw
  have hx := C.1
  have hb := C.2.1
  have hown := C.2.2.2.2.1
  have hts := C.2.2.2.2.2.1
  have hks := C.2.2.2.2.2.2.1
  have hl : lv_has ls 1 [(0, .int p1)] := hl
  have b17 : ∀ (y0 : Int32) (σ : MSt) (H : Heap) (locs : List Loc) (ls : Array Slot), lv_has ls 1 [] → k_W G w A s.heap σ H locs → f_X9_isDigit_b17 y0 σ = some (r, σ') → W p l e rmX9_isDigit s m [.int p1].toArray below meth c H locs 0 0 (MQ below (k_Qi G w A r σ') [.int p1].toArray s 0 0 A) (F0 m 17 ls [.int y0]) := by
    intro y0 σ H locs ls hl hw hf
    unfold f_X9_isDigit_b17 at hf
    obtain ⟨hz, hf⟩ := k_ckE hf
    exact k_zret C hw (k_boE hz).1 hf dX9_isDigit_17
  have b16 : ∀ (σ : MSt) (H : Heap) (locs : List Loc) (ls : Array Slot), lv_has ls 1 [] → k_W G w A s.heap σ H locs → f_X9_isDigit_b16 σ = some (r, σ') → W p l e rmX9_isDigit s m [.int p1].toArray below meth c H locs 0 0 (MQ below (k_Qi G w A r σ') [.int p1].toArray s 0 0 A) (F0 m 16 ls []) := by
    intro σ H locs ls hl hw hf
    unfold f_X9_isDigit_b16 at hf
    refine lv_iconst (v := (0 : Int32)) hx hb dX9_isDigit_16 (by decide) ?_
    exact b17 (0 : Int32) σ _ _ _ (lv_sub hl [] rfl) hw hf
  unfold f_X9_isDigit at hf
  refine lv_iload_n hx hb dX9_isDigit_0 rfl (lv_at hl 0 rfl) ?_
  refine lv_bipush (v := (48 : Int32)) hx hb dX9_isDigit_1 (by decide) ?_
  refine lv_icmp_lt (tgt := 16) hx hb dX9_isDigit_3 (by decide) (fun h => ?_) (fun h => ?_)
  · have hf := k_ifT h hf
    exact b16 σ _ _ _ (lv_sub hl [] rfl) hw hf
  · have hf := k_ifF h hf
    refine lv_iload_n hx hb dX9_isDigit_6 rfl (lv_at hl 0 rfl) ?_
    refine lv_bipush (v := (57 : Int32)) hx hb dX9_isDigit_7 (by decide) ?_
    refine lv_icmp_gt (tgt := 16) hx hb dX9_isDigit_9 (by decide) (fun h => ?_) (fun h => ?_)
    · have hf := k_ifT h hf
      exact b16 σ _ _ _ (lv_sub hl [] rfl) hw hf
    · have hf := k_ifF h hf
      refine lv_iconst (v := (1 : Int32)) hx hb dX9_isDigit_12 (by decide) ?_
      refine lv_goto (tgt := 17) hx hb dX9_isDigit_13 (by decide) ?_
      exact b17 (1 : Int32) σ _ _ _ (lv_sub hl [] rfl) hw hf
def f_X9_cutNumber_b69  (x1 : Int32) (x2 : Int32) (σ : MSt) : Option MSt :=
  k_bv (f_X9_addToken (3 : Int32) x2 x1 σ) fun σ1 =>
  some σ1
def f_X9_cutNumber_b7_s  (r7 : Int32 → Int32 → MSt → Option MSt) (x1 : Int32) (x2 : Int32) (σ : MSt) : Option MSt :=
  if (σ.1 1 6) ≤ (σ.1 1 8) then
  (f_X9_cutNumber_b69 x1 x2 σ)
  else
  (k_ck (k_inb (σ.1 1 8) 700) <|
  k_bd (f_X9_isDigit (σ.1 2 ((σ.1 1 8)).toNatClampNeg) σ) fun q2 σ1 =>
  if q2 = 0 then
  (f_X9_cutNumber_b69 x1 x2 σ1)
  else
  (k_ck (k_inb (σ1.1 1 8) 700) <|
  k_nm (k_min (1000000 : Int32) (((x2 * (10 : Int32)) + (σ1.1 2 ((σ1.1 1 8)).toNatClampNeg)) - (48 : Int32))) fun u3 =>
  k_nm (mI σ1 1 8 ((σ1.1 1 8) + (1 : Int32))) fun σ4 =>
  r7 x1 u3 σ4))
def f_X9_cutNumber_b7  : Nat → Int32 → Int32 → MSt → Option MSt
  | 0 => fun _ _ _ => none
  | n + 1 => f_X9_cutNumber_b7_s (f_X9_cutNumber_b7 n)
def f_X9_cutNumber   (σ : MSt) : Option MSt :=
  k_nm (σ.1 1 8) fun u5 =>
  f_X9_cutNumber_b7 FU u5 (0 : Int32) σ
def rmX9_cutNumber : Room := { frames := 1, cells := 0, slots := 0, locals := 23 }
set_option maxHeartbeats 4000000 in
set_option maxRecDepth 100000 in
theorem c_X9_cutNumber (l : Launch) (G : va_G) (Y : CY) (w : MSt → va_W) (ad : Nat → Nat)  (LC : LayC ad w Y)  (σ : MSt) (σ' : MSt) (hf : f_X9_cutNumber σ = some σ') : k_Mv l yX9_cutNumber wsX9_cutNumber rmX9_cutNumber G Y w [.ref (ad 1)] σ σ' := by
  refine k_ofv (own := RX9) (cc := cX9_cutNumber) (maxL := 3) none (by decide) rfl rfl (Nat.le_of_ble_eq_true rfl) ?_
  intro p e s m below meth c A C ls hl hw
  have hx := C.1
  have hb := C.2.1
  have hown := C.2.2.2.2.1
  have hts := C.2.2.2.2.2.1
  have hks := C.2.2.2.2.2.2.1
  have hl : lv_has ls 3 [(0, .ref (ad 1))] := hl
  have b69 : ∀ (x1 : Int32) (x2 : Int32) (σ : MSt) (H : Heap) (locs : List Loc) (ls : Array Slot), lv_has ls 3 [(0, .ref (ad 1)), (1, .int x1), (2, .int x2)] → k_W G w A s.heap σ H locs → f_X9_cutNumber_b69 x1 x2 σ = some σ' → W p l e rmX9_cutNumber s m [.ref (ad 1)].toArray below meth c H locs 0 0 (MQ below (k_Qv G w A σ') [.ref (ad 1)].toArray s 0 0 A) (F0 m 69 ls []) := by
    intro x1 x2 σ H locs ls hl hw hf
    unfold f_X9_cutNumber_b69 at hf
    refine lv_aload_n hx hb dX9_cutNumber_69 rfl (lv_at hl 0 rfl) ?_
    refine lv_iconst (v := (3 : Int32)) hx hb dX9_cutNumber_70 (by decide) ?_
    refine lv_iload_n hx hb dX9_cutNumber_71 rfl (lv_at hl 2 rfl) ?_
    refine lv_iload_n hx hb dX9_cutNumber_72 rfl (lv_at hl 1 rfl) ?_
    obtain ⟨σ1, hq, hf⟩ := k_bvE hf
    refine k_callVv C hw (c_X9_addToken l G Y w ad LC (3 : Int32) x2 x1 σ σ1 hq) (cwV 3 hts gX9_cutNumber_X9_addToken rfl rfl rfl (by decide +kernel) ⟨Nat.le_of_ble_eq_true rfl, Nat.le_of_ble_eq_true rfl⟩) (k_recv C hw (LC_1 LC) rfl) rfl hl.1 rfl (Nat.le_of_ble_eq_true rfl) dX9_cutNumber_73 (fun H locs hw => ?_)
    exact k_vret C hw hf dX9_cutNumber_76
  have b7 : ∀ (n7 : Nat) (x1 : Int32) (x2 : Int32) (σ : MSt) (H : Heap) (locs : List Loc) (ls : Array Slot), lv_has ls 3 [(0, .ref (ad 1)), (1, .int x1), (2, .int x2)] → k_W G w A s.heap σ H locs → f_X9_cutNumber_b7 n7 x1 x2 σ = some σ' → W p l e rmX9_cutNumber s m [.ref (ad 1)].toArray below meth c H locs 0 0 (MQ below (k_Qv G w A σ') [.ref (ad 1)].toArray s 0 0 A) (F0 m 7 ls []) := by
    intro n7
    induction n7 with
    | zero =>
      intro x1 x2 σ H locs ls hl hw hf
      have hf : (none : Option MSt) = some σ' := hf
      cases hf
    | succ n7 ih7 =>
      intro x1 x2 σ H locs ls hl hw hf
      have hf : f_X9_cutNumber_b7_s (f_X9_cutNumber_b7 n7) x1 x2 σ = some σ' := hf
      unfold f_X9_cutNumber_b7_s at hf
      refine lv_aload_n hx hb dX9_cutNumber_7 rfl (lv_at hl 0 rfl) ?_
      refine k_get C hw (LC_1 LC) (ci := 9) rfl k_in9 8 (by decide) lk9_55 (v := .int (σ.1 1 8)) rfl dX9_cutNumber_8 ?_
      refine lv_aload_n hx hb dX9_cutNumber_11 rfl (lv_at hl 0 rfl) ?_
      refine k_get C hw (LC_1 LC) (ci := 9) rfl k_in9 6 (by decide) lk9_50 (v := .int (σ.1 1 6)) rfl dX9_cutNumber_12 ?_
      refine lv_icmp_ge (tgt := 69) hx hb dX9_cutNumber_15 (by decide) (fun h => ?_) (fun h => ?_)
      · have hf := k_ifT h hf
        exact b69 x1 x2 σ _ _ _ (lv_sub hl [0, 1, 2] rfl) hw hf
      · have hf := k_ifF h hf
        refine lv_aload_n hx hb dX9_cutNumber_18 rfl (lv_at hl 0 rfl) ?_
        refine k_get C hw (LC_1 LC) (ci := 9) rfl k_in9 0 (by decide) lk9_9 (v := .ref (ad 2)) rfl dX9_cutNumber_19 ?_
        refine lv_aload_n hx hb dX9_cutNumber_22 rfl (lv_at hl 0 rfl) ?_
        refine k_get C hw (LC_1 LC) (ci := 9) rfl k_in9 8 (by decide) lk9_55 (v := .int (σ.1 1 8)) rfl dX9_cutNumber_23 ?_
        obtain ⟨hi, hf⟩ := k_ckE hf
        refine k_bald C hw (LC_2 LC) hi dX9_cutNumber_26 ?_
        obtain ⟨q2, σ1, hq, hf⟩ := k_bdE hf
        refine k_callSi C hw (c_X9_isDigit l G Y w ad LC (σ.1 2 ((σ.1 1 8)).toNatClampNeg) σ q2 σ1 hq) (va_cwS 1 hts gX9_cutNumber_X9_isDigit rfl rfl rfl (by decide +kernel) ⟨Nat.le_of_ble_eq_true rfl, Nat.le_of_ble_eq_true rfl⟩) rfl hl.1 rfl (Nat.le_of_ble_eq_true rfl) dX9_cutNumber_27 (fun H locs hw => ?_)
        refine lv_if_eq (tgt := 69) hx hb dX9_cutNumber_30 (by decide) (fun h => ?_) (fun h => ?_)
        · have hf := k_ifT h hf
          exact b69 x1 x2 σ1 _ _ _ (lv_sub hl [0, 1, 2] rfl) hw hf
        · have hf := k_ifF h hf
          refine lv_ldc (v := (1000000 : Int32)) hx hb hown (hks.ts _ ck9_83) dX9_cutNumber_33 ?_
          refine lv_iload_n hx hb dX9_cutNumber_35 rfl (lv_at hl 2 rfl) ?_
          refine lv_bipush (v := (10 : Int32)) hx hb dX9_cutNumber_36 (by decide) ?_
          refine lv_imul hx hb dX9_cutNumber_38 ?_
          refine lv_aload_n hx hb dX9_cutNumber_39 rfl (lv_at hl 0 rfl) ?_
          refine k_get C hw (LC_1 LC) (ci := 9) rfl k_in9 0 (by decide) lk9_9 (v := .ref (ad 2)) rfl dX9_cutNumber_40 ?_
          refine lv_aload_n hx hb dX9_cutNumber_43 rfl (lv_at hl 0 rfl) ?_
          refine k_get C hw (LC_1 LC) (ci := 9) rfl k_in9 8 (by decide) lk9_55 (v := .int (σ1.1 1 8)) rfl dX9_cutNumber_44 ?_
          obtain ⟨hi, hf⟩ := k_ckE hf
          refine k_bald C hw (LC_2 LC) hi dX9_cutNumber_47 ?_
          refine lv_iadd hx hb dX9_cutNumber_48 ?_
          refine lv_bipush (v := (48 : Int32)) hx hb dX9_cutNumber_49 (by decide) ?_
          refine lv_isub hx hb dX9_cutNumber_51 ?_
          refine k_mmin C hl.1 ml9_44 ms_Lib_Math_min_name mi_Math mc_Lib_Math_min_name (Nat.le_of_ble_eq_true rfl) (Nat.le_of_ble_eq_true rfl) dX9_cutNumber_52 ?_
          refine lv_topi (fun u3 ex => ?_)
          have hf := k_nmE ex hf
          refine lv_istore_n (lv' := [(2, .int u3), (0, .ref (ad 1)), (1, .int x1)]) hx hb dX9_cutNumber_55 rfl hl (by decide) rfl (fun ls hl => ?_)
          refine lv_aload_n hx hb dX9_cutNumber_56 rfl (lv_at hl 1 rfl) ?_
          refine lv_dup hx hb dX9_cutNumber_57 rfl ?_
          refine k_get C hw (LC_1 LC) (ci := 9) rfl k_in9 8 (by decide) lk9_55 (v := .int (σ1.1 1 8)) rfl dX9_cutNumber_58 ?_
          refine lv_iconst (v := (1 : Int32)) hx hb dX9_cutNumber_61 (by decide) ?_
          refine lv_iadd hx hb dX9_cutNumber_62 ?_
          refine k_put C hw (LC_1 LC) (ci := 9) rfl k_in9 tyX9 tyX9_ok nmX9 8 (by decide) lk9_55 rfl ⟨rfl, rfl⟩ rfl dX9_cutNumber_63 (fun σ4 eq H locs hw => ?_)
          have hf := k_nmE eq hf
          refine lv_goto (tgt := 7) hx hb dX9_cutNumber_66 (by decide) ?_
          exact ih7 x1 u3 σ4 _ _ _ (lv_sub hl [1, 2, 0] rfl) hw hf
  unfold f_X9_cutNumber at hf
  refine lv_aload_n hx hb dX9_cutNumber_0 rfl (lv_at hl 0 rfl) ?_
  refine k_get C hw (LC_1 LC) (ci := 9) rfl k_in9 8 (by decide) lk9_55 (v := .int (σ.1 1 8)) rfl dX9_cutNumber_1 ?_
  refine lv_topi (fun u5 ex => ?_)
  have hf := k_nmE ex hf
  refine lv_istore_n (lv' := [(1, .int u5), (0, .ref (ad 1))]) hx hb dX9_cutNumber_4 rfl hl (by decide) rfl (fun ls hl => ?_)
  refine lv_iconst (v := (0 : Int32)) hx hb dX9_cutNumber_5 (by decide) ?_
  refine lv_istore_n (lv' := [(2, .int (0 : Int32)), (1, .int u5), (0, .ref (ad 1))]) hx hb dX9_cutNumber_6 rfl hl (by decide) rfl (fun ls hl => ?_)
  exact b7 FU u5 (0 : Int32) σ _ _ _ (lv_sub hl [2, 1, 0] rfl) hw hf
def f_X9_sortOfPair_b48  (y0 : Int32) (σ : MSt) : Option (Int32 × MSt) :=
  some (y0, σ)
def f_X9_sortOfPair_b47   (σ : MSt) : Option (Int32 × MSt) :=
  f_X9_sortOfPair_b48 (1 : Int32) σ
def f_X9_sortOfPair_b30  (x0 : Int32) (x1 : Int32) (σ : MSt) : Option (Int32 × MSt) :=
  if x0 = (62 : Int32) then
  (if x1 = (61 : Int32) then
  (f_X9_sortOfPair_b48 (51 : Int32) σ)
  else
  (f_X9_sortOfPair_b47 σ))
  else
  (f_X9_sortOfPair_b47 σ)
def f_X9_sortOfPair_b15  (x0 : Int32) (x1 : Int32) (σ : MSt) : Option (Int32 × MSt) :=
  if x0 = (60 : Int32) then
  (if x1 = (62 : Int32) then
  (some ((50 : Int32), σ))
  else
  (f_X9_sortOfPair_b30 x0 x1 σ))
  else
  (f_X9_sortOfPair_b30 x0 x1 σ)
def f_X9_sortOfPair  (p1 : Int32) (p2 : Int32) (σ : MSt) : Option (Int32 × MSt) :=
  if p1 = (60 : Int32) then
  (if p2 = (61 : Int32) then
  (some ((48 : Int32), σ))
  else
  (f_X9_sortOfPair_b15 p1 p2 σ))
  else
  (f_X9_sortOfPair_b15 p1 p2 σ)
def rmX9_sortOfPair : Room := { frames := 0, cells := 0, slots := 0, locals := 0 }
set_option maxHeartbeats 4000000 in
set_option maxRecDepth 100000 in
theorem c_X9_sortOfPair (l : Launch) (G : va_G) (Y : CY) (w : MSt → va_W) (ad : Nat → Nat)  (LC : LayC ad w Y) (p1 : Int32) (p2 : Int32) (σ : MSt) (r : Int32) (σ' : MSt) (hf : f_X9_sortOfPair p1 p2 σ = some (r, σ')) : k_Mi l yX9_sortOfPair wsX9_sortOfPair rmX9_sortOfPair G Y w [.int p1, .int p2] σ r σ' := by
  refine k_ofi (own := RX9) (cc := cX9_sortOfPair) (maxL := 2) (some .int) (by decide) rfl rfl (Nat.le_of_ble_eq_true rfl) ?_
  intro p e s m below meth c A C ls hl hw
  have hx := C.1
  have hb := C.2.1
  have hown := C.2.2.2.2.1
  have hts := C.2.2.2.2.2.1
  have hks := C.2.2.2.2.2.2.1
  have hl : lv_has ls 2 [(0, .int p1), (1, .int p2)] := hl
  have b48 : ∀ (y0 : Int32) (σ : MSt) (H : Heap) (locs : List Loc) (ls : Array Slot), lv_has ls 2 [] → k_W G w A s.heap σ H locs → f_X9_sortOfPair_b48 y0 σ = some (r, σ') → W p l e rmX9_sortOfPair s m [.int p1, .int p2].toArray below meth c H locs 0 0 (MQ below (k_Qi G w A r σ') [.int p1, .int p2].toArray s 0 0 A) (F0 m 48 ls [.int y0]) := by
    intro y0 σ H locs ls hl hw hf
    unfold f_X9_sortOfPair_b48 at hf
    exact k_iret C hw hf dX9_sortOfPair_48
  have b47 : ∀ (σ : MSt) (H : Heap) (locs : List Loc) (ls : Array Slot), lv_has ls 2 [] → k_W G w A s.heap σ H locs → f_X9_sortOfPair_b47 σ = some (r, σ') → W p l e rmX9_sortOfPair s m [.int p1, .int p2].toArray below meth c H locs 0 0 (MQ below (k_Qi G w A r σ') [.int p1, .int p2].toArray s 0 0 A) (F0 m 47 ls []) := by
    intro σ H locs ls hl hw hf
    unfold f_X9_sortOfPair_b47 at hf
    refine lv_iconst (v := (1 : Int32)) hx hb dX9_sortOfPair_47 (by decide) ?_
    exact b48 (1 : Int32) σ _ _ _ (lv_sub hl [] rfl) hw hf
  have b30 : ∀ (x0 : Int32) (x1 : Int32) (σ : MSt) (H : Heap) (locs : List Loc) (ls : Array Slot), lv_has ls 2 [(0, .int x0), (1, .int x1)] → k_W G w A s.heap σ H locs → f_X9_sortOfPair_b30 x0 x1 σ = some (r, σ') → W p l e rmX9_sortOfPair s m [.int p1, .int p2].toArray below meth c H locs 0 0 (MQ below (k_Qi G w A r σ') [.int p1, .int p2].toArray s 0 0 A) (F0 m 30 ls []) := by
    intro x0 x1 σ H locs ls hl hw hf
    unfold f_X9_sortOfPair_b30 at hf
    refine lv_iload_n hx hb dX9_sortOfPair_30 rfl (lv_at hl 0 rfl) ?_
    refine lv_bipush (v := (62 : Int32)) hx hb dX9_sortOfPair_31 (by decide) ?_
    refine lv_icmp_ne (tgt := 47) hx hb dX9_sortOfPair_33 (by decide) (fun h => ?_) (fun h => ?_)
    · have hf := k_ifF h hf
      exact b47 σ _ _ _ (lv_sub hl [] rfl) hw hf
    · have hf := k_ifT h hf
      refine lv_iload_n hx hb dX9_sortOfPair_36 rfl (lv_at hl 1 rfl) ?_
      refine lv_bipush (v := (61 : Int32)) hx hb dX9_sortOfPair_37 (by decide) ?_
      refine lv_icmp_ne (tgt := 47) hx hb dX9_sortOfPair_39 (by decide) (fun h => ?_) (fun h => ?_)
      · have hf := k_ifF h hf
        exact b47 σ _ _ _ (lv_sub hl [] rfl) hw hf
      · have hf := k_ifT h hf
        refine lv_bipush (v := (51 : Int32)) hx hb dX9_sortOfPair_42 (by decide) ?_
        refine lv_goto (tgt := 48) hx hb dX9_sortOfPair_44 (by decide) ?_
        exact b48 (51 : Int32) σ _ _ _ (lv_sub hl [] rfl) hw hf
  have b15 : ∀ (x0 : Int32) (x1 : Int32) (σ : MSt) (H : Heap) (locs : List Loc) (ls : Array Slot), lv_has ls 2 [(0, .int x0), (1, .int x1)] → k_W G w A s.heap σ H locs → f_X9_sortOfPair_b15 x0 x1 σ = some (r, σ') → W p l e rmX9_sortOfPair s m [.int p1, .int p2].toArray below meth c H locs 0 0 (MQ below (k_Qi G w A r σ') [.int p1, .int p2].toArray s 0 0 A) (F0 m 15 ls []) := by
    intro x0 x1 σ H locs ls hl hw hf
    unfold f_X9_sortOfPair_b15 at hf
    refine lv_iload_n hx hb dX9_sortOfPair_15 rfl (lv_at hl 0 rfl) ?_
    refine lv_bipush (v := (60 : Int32)) hx hb dX9_sortOfPair_16 (by decide) ?_
    refine lv_icmp_ne (tgt := 30) hx hb dX9_sortOfPair_18 (by decide) (fun h => ?_) (fun h => ?_)
    · have hf := k_ifF h hf
      exact b30 x0 x1 σ _ _ _ (lv_sub hl [0, 1] rfl) hw hf
    · have hf := k_ifT h hf
      refine lv_iload_n hx hb dX9_sortOfPair_21 rfl (lv_at hl 1 rfl) ?_
      refine lv_bipush (v := (62 : Int32)) hx hb dX9_sortOfPair_22 (by decide) ?_
      refine lv_icmp_ne (tgt := 30) hx hb dX9_sortOfPair_24 (by decide) (fun h => ?_) (fun h => ?_)
      · have hf := k_ifF h hf
        exact b30 x0 x1 σ _ _ _ (lv_sub hl [0, 1] rfl) hw hf
      · have hf := k_ifT h hf
        refine lv_bipush (v := (50 : Int32)) hx hb dX9_sortOfPair_27 (by decide) ?_
        exact k_iret C hw hf dX9_sortOfPair_29
  unfold f_X9_sortOfPair at hf
  refine lv_iload_n hx hb dX9_sortOfPair_0 rfl (lv_at hl 0 rfl) ?_
  refine lv_bipush (v := (60 : Int32)) hx hb dX9_sortOfPair_1 (by decide) ?_
  refine lv_icmp_ne (tgt := 15) hx hb dX9_sortOfPair_3 (by decide) (fun h => ?_) (fun h => ?_)
  · have hf := k_ifF h hf
    exact b15 p1 p2 σ _ _ _ (lv_sub hl [0, 1] rfl) hw hf
  · have hf := k_ifT h hf
    refine lv_iload_n hx hb dX9_sortOfPair_6 rfl (lv_at hl 1 rfl) ?_
    refine lv_bipush (v := (61 : Int32)) hx hb dX9_sortOfPair_7 (by decide) ?_
    refine lv_icmp_ne (tgt := 15) hx hb dX9_sortOfPair_9 (by decide) (fun h => ?_) (fun h => ?_)
    · have hf := k_ifF h hf
      exact b15 p1 p2 σ _ _ _ (lv_sub hl [0, 1] rfl) hw hf
    · have hf := k_ifT h hf
      refine lv_bipush (v := (48 : Int32)) hx hb dX9_sortOfPair_12 (by decide) ?_
      exact k_iret C hw hf dX9_sortOfPair_14
def f_X9_sortOfSign_b138   (σ : MSt) : Option (Int32 × MSt) :=
  some ((1 : Int32), σ)
def f_X9_sortOfSign  (p1 : Int32) (σ : MSt) : Option (Int32 × MSt) :=
  if p1 = (40 : Int32) then
  (some ((41 : Int32), σ))
  else if p1 = (41 : Int32) then
  (some ((42 : Int32), σ))
  else if p1 = (42 : Int32) then
  (some ((45 : Int32), σ))
  else if p1 = (43 : Int32) then
  (some ((43 : Int32), σ))
  else if p1 = (44 : Int32) then
  (f_X9_sortOfSign_b138 σ)
  else if p1 = (45 : Int32) then
  (some ((44 : Int32), σ))
  else if p1 = (46 : Int32) then
  (f_X9_sortOfSign_b138 σ)
  else if p1 = (47 : Int32) then
  (some ((46 : Int32), σ))
  else if p1 = (48 : Int32) then
  (f_X9_sortOfSign_b138 σ)
  else if p1 = (49 : Int32) then
  (f_X9_sortOfSign_b138 σ)
  else if p1 = (50 : Int32) then
  (f_X9_sortOfSign_b138 σ)
  else if p1 = (51 : Int32) then
  (f_X9_sortOfSign_b138 σ)
  else if p1 = (52 : Int32) then
  (f_X9_sortOfSign_b138 σ)
  else if p1 = (53 : Int32) then
  (f_X9_sortOfSign_b138 σ)
  else if p1 = (54 : Int32) then
  (f_X9_sortOfSign_b138 σ)
  else if p1 = (55 : Int32) then
  (f_X9_sortOfSign_b138 σ)
  else if p1 = (56 : Int32) then
  (f_X9_sortOfSign_b138 σ)
  else if p1 = (57 : Int32) then
  (f_X9_sortOfSign_b138 σ)
  else if p1 = (58 : Int32) then
  (f_X9_sortOfSign_b138 σ)
  else if p1 = (59 : Int32) then
  (some ((40 : Int32), σ))
  else if p1 = (60 : Int32) then
  (some ((47 : Int32), σ))
  else if p1 = (61 : Int32) then
  (some ((49 : Int32), σ))
  else if p1 = (62 : Int32) then
  (some ((52 : Int32), σ))
  else 
  (f_X9_sortOfSign_b138 σ)
def rmX9_sortOfSign : Room := { frames := 0, cells := 0, slots := 0, locals := 0 }
set_option maxHeartbeats 4000000 in
set_option maxRecDepth 100000 in
theorem c_X9_sortOfSign (l : Launch) (G : va_G) (Y : CY) (w : MSt → va_W) (ad : Nat → Nat)  (LC : LayC ad w Y) (p1 : Int32) (σ : MSt) (r : Int32) (σ' : MSt) (hf : f_X9_sortOfSign p1 σ = some (r, σ')) : k_Mi l yX9_sortOfSign wsX9_sortOfSign rmX9_sortOfSign G Y w [.int p1] σ r σ' := by
  refine k_ofi (own := RX9) (cc := cX9_sortOfSign) (maxL := 1) (some .int) (by decide) rfl rfl (Nat.le_of_ble_eq_true rfl) ?_
  intro p e s m below meth c A C ls hl hw
  have hx := C.1
  have hb := C.2.1
  have hown := C.2.2.2.2.1
  have hts := C.2.2.2.2.2.1
  have hks := C.2.2.2.2.2.2.1
  have hl : lv_has ls 1 [(0, .int p1)] := hl
  have b138 : ∀ (σ : MSt) (H : Heap) (locs : List Loc) (ls : Array Slot), lv_has ls 1 [] → k_W G w A s.heap σ H locs → f_X9_sortOfSign_b138 σ = some (r, σ') → W p l e rmX9_sortOfSign s m [.int p1].toArray below meth c H locs 0 0 (MQ below (k_Qi G w A r σ') [.int p1].toArray s 0 0 A) (F0 m 138 ls []) := by
    intro σ H locs ls hl hw hf
    unfold f_X9_sortOfSign_b138 at hf
    refine lv_iconst (v := (1 : Int32)) hx hb dX9_sortOfSign_138 (by decide) ?_
    exact k_iret C hw hf dX9_sortOfSign_139
  unfold f_X9_sortOfSign at hf
  refine lv_iload_n hx hb dX9_sortOfSign_0 rfl (lv_at hl 0 rfl) ?_
  by_cases h40 : p1 = (40 : Int32)
  · have hf := k_ifT h40 hf
    refine lv_tableIn (tgt := 111) hx hb dX9_sortOfSign_1 (by rw [h40]; decide) (by rw [h40]; decide) (by rw [h40]; rfl) (by decide) ?_
    refine lv_bipush (v := (41 : Int32)) hx hb dX9_sortOfSign_111 (by decide) ?_
    exact k_iret C hw hf dX9_sortOfSign_113
  have hf := k_ifF h40 hf
  by_cases h41 : p1 = (41 : Int32)
  · have hf := k_ifT h41 hf
    refine lv_tableIn (tgt := 114) hx hb dX9_sortOfSign_1 (by rw [h41]; decide) (by rw [h41]; decide) (by rw [h41]; rfl) (by decide) ?_
    refine lv_bipush (v := (42 : Int32)) hx hb dX9_sortOfSign_114 (by decide) ?_
    exact k_iret C hw hf dX9_sortOfSign_116
  have hf := k_ifF h41 hf
  by_cases h42 : p1 = (42 : Int32)
  · have hf := k_ifT h42 hf
    refine lv_tableIn (tgt := 123) hx hb dX9_sortOfSign_1 (by rw [h42]; decide) (by rw [h42]; decide) (by rw [h42]; rfl) (by decide) ?_
    refine lv_bipush (v := (45 : Int32)) hx hb dX9_sortOfSign_123 (by decide) ?_
    exact k_iret C hw hf dX9_sortOfSign_125
  have hf := k_ifF h42 hf
  by_cases h43 : p1 = (43 : Int32)
  · have hf := k_ifT h43 hf
    refine lv_tableIn (tgt := 117) hx hb dX9_sortOfSign_1 (by rw [h43]; decide) (by rw [h43]; decide) (by rw [h43]; rfl) (by decide) ?_
    refine lv_bipush (v := (43 : Int32)) hx hb dX9_sortOfSign_117 (by decide) ?_
    exact k_iret C hw hf dX9_sortOfSign_119
  have hf := k_ifF h43 hf
  by_cases h44 : p1 = (44 : Int32)
  · have hf := k_ifT h44 hf
    refine lv_tableIn (tgt := 138) hx hb dX9_sortOfSign_1 (by rw [h44]; decide) (by rw [h44]; decide) (by rw [h44]; rfl) (by decide) ?_
    exact b138 σ _ _ _ (lv_sub hl [] rfl) hw hf
  have hf := k_ifF h44 hf
  by_cases h45 : p1 = (45 : Int32)
  · have hf := k_ifT h45 hf
    refine lv_tableIn (tgt := 120) hx hb dX9_sortOfSign_1 (by rw [h45]; decide) (by rw [h45]; decide) (by rw [h45]; rfl) (by decide) ?_
    refine lv_bipush (v := (44 : Int32)) hx hb dX9_sortOfSign_120 (by decide) ?_
    exact k_iret C hw hf dX9_sortOfSign_122
  have hf := k_ifF h45 hf
  by_cases h46 : p1 = (46 : Int32)
  · have hf := k_ifT h46 hf
    refine lv_tableIn (tgt := 138) hx hb dX9_sortOfSign_1 (by rw [h46]; decide) (by rw [h46]; decide) (by rw [h46]; rfl) (by decide) ?_
    exact b138 σ _ _ _ (lv_sub hl [] rfl) hw hf
  have hf := k_ifF h46 hf
  by_cases h47 : p1 = (47 : Int32)
  · have hf := k_ifT h47 hf
    refine lv_tableIn (tgt := 126) hx hb dX9_sortOfSign_1 (by rw [h47]; decide) (by rw [h47]; decide) (by rw [h47]; rfl) (by decide) ?_
    refine lv_bipush (v := (46 : Int32)) hx hb dX9_sortOfSign_126 (by decide) ?_
    exact k_iret C hw hf dX9_sortOfSign_128
  have hf := k_ifF h47 hf
  by_cases h48 : p1 = (48 : Int32)
  · have hf := k_ifT h48 hf
    refine lv_tableIn (tgt := 138) hx hb dX9_sortOfSign_1 (by rw [h48]; decide) (by rw [h48]; decide) (by rw [h48]; rfl) (by decide) ?_
    exact b138 σ _ _ _ (lv_sub hl [] rfl) hw hf
  have hf := k_ifF h48 hf
  by_cases h49 : p1 = (49 : Int32)
  · have hf := k_ifT h49 hf
    refine lv_tableIn (tgt := 138) hx hb dX9_sortOfSign_1 (by rw [h49]; decide) (by rw [h49]; decide) (by rw [h49]; rfl) (by decide) ?_
    exact b138 σ _ _ _ (lv_sub hl [] rfl) hw hf
  have hf := k_ifF h49 hf
  by_cases h50 : p1 = (50 : Int32)
  · have hf := k_ifT h50 hf
    refine lv_tableIn (tgt := 138) hx hb dX9_sortOfSign_1 (by rw [h50]; decide) (by rw [h50]; decide) (by rw [h50]; rfl) (by decide) ?_
    exact b138 σ _ _ _ (lv_sub hl [] rfl) hw hf
  have hf := k_ifF h50 hf
  by_cases h51 : p1 = (51 : Int32)
  · have hf := k_ifT h51 hf
    refine lv_tableIn (tgt := 138) hx hb dX9_sortOfSign_1 (by rw [h51]; decide) (by rw [h51]; decide) (by rw [h51]; rfl) (by decide) ?_
    exact b138 σ _ _ _ (lv_sub hl [] rfl) hw hf
  have hf := k_ifF h51 hf
  by_cases h52 : p1 = (52 : Int32)
  · have hf := k_ifT h52 hf
    refine lv_tableIn (tgt := 138) hx hb dX9_sortOfSign_1 (by rw [h52]; decide) (by rw [h52]; decide) (by rw [h52]; rfl) (by decide) ?_
    exact b138 σ _ _ _ (lv_sub hl [] rfl) hw hf
  have hf := k_ifF h52 hf
  by_cases h53 : p1 = (53 : Int32)
  · have hf := k_ifT h53 hf
    refine lv_tableIn (tgt := 138) hx hb dX9_sortOfSign_1 (by rw [h53]; decide) (by rw [h53]; decide) (by rw [h53]; rfl) (by decide) ?_
    exact b138 σ _ _ _ (lv_sub hl [] rfl) hw hf
  have hf := k_ifF h53 hf
  by_cases h54 : p1 = (54 : Int32)
  · have hf := k_ifT h54 hf
    refine lv_tableIn (tgt := 138) hx hb dX9_sortOfSign_1 (by rw [h54]; decide) (by rw [h54]; decide) (by rw [h54]; rfl) (by decide) ?_
    exact b138 σ _ _ _ (lv_sub hl [] rfl) hw hf
  have hf := k_ifF h54 hf
  by_cases h55 : p1 = (55 : Int32)
  · have hf := k_ifT h55 hf
    refine lv_tableIn (tgt := 138) hx hb dX9_sortOfSign_1 (by rw [h55]; decide) (by rw [h55]; decide) (by rw [h55]; rfl) (by decide) ?_
    exact b138 σ _ _ _ (lv_sub hl [] rfl) hw hf
  have hf := k_ifF h55 hf
  by_cases h56 : p1 = (56 : Int32)
  · have hf := k_ifT h56 hf
    refine lv_tableIn (tgt := 138) hx hb dX9_sortOfSign_1 (by rw [h56]; decide) (by rw [h56]; decide) (by rw [h56]; rfl) (by decide) ?_
    exact b138 σ _ _ _ (lv_sub hl [] rfl) hw hf
  have hf := k_ifF h56 hf
  by_cases h57 : p1 = (57 : Int32)
  · have hf := k_ifT h57 hf
    refine lv_tableIn (tgt := 138) hx hb dX9_sortOfSign_1 (by rw [h57]; decide) (by rw [h57]; decide) (by rw [h57]; rfl) (by decide) ?_
    exact b138 σ _ _ _ (lv_sub hl [] rfl) hw hf
  have hf := k_ifF h57 hf
  by_cases h58 : p1 = (58 : Int32)
  · have hf := k_ifT h58 hf
    refine lv_tableIn (tgt := 138) hx hb dX9_sortOfSign_1 (by rw [h58]; decide) (by rw [h58]; decide) (by rw [h58]; rfl) (by decide) ?_
    exact b138 σ _ _ _ (lv_sub hl [] rfl) hw hf
  have hf := k_ifF h58 hf
  by_cases h59 : p1 = (59 : Int32)
  · have hf := k_ifT h59 hf
    refine lv_tableIn (tgt := 108) hx hb dX9_sortOfSign_1 (by rw [h59]; decide) (by rw [h59]; decide) (by rw [h59]; rfl) (by decide) ?_
    refine lv_bipush (v := (40 : Int32)) hx hb dX9_sortOfSign_108 (by decide) ?_
    exact k_iret C hw hf dX9_sortOfSign_110
  have hf := k_ifF h59 hf
  by_cases h60 : p1 = (60 : Int32)
  · have hf := k_ifT h60 hf
    refine lv_tableIn (tgt := 129) hx hb dX9_sortOfSign_1 (by rw [h60]; decide) (by rw [h60]; decide) (by rw [h60]; rfl) (by decide) ?_
    refine lv_bipush (v := (47 : Int32)) hx hb dX9_sortOfSign_129 (by decide) ?_
    exact k_iret C hw hf dX9_sortOfSign_131
  have hf := k_ifF h60 hf
  by_cases h61 : p1 = (61 : Int32)
  · have hf := k_ifT h61 hf
    refine lv_tableIn (tgt := 132) hx hb dX9_sortOfSign_1 (by rw [h61]; decide) (by rw [h61]; decide) (by rw [h61]; rfl) (by decide) ?_
    refine lv_bipush (v := (49 : Int32)) hx hb dX9_sortOfSign_132 (by decide) ?_
    exact k_iret C hw hf dX9_sortOfSign_134
  have hf := k_ifF h61 hf
  by_cases h62 : p1 = (62 : Int32)
  · have hf := k_ifT h62 hf
    refine lv_tableIn (tgt := 135) hx hb dX9_sortOfSign_1 (by rw [h62]; decide) (by rw [h62]; decide) (by rw [h62]; rfl) (by decide) ?_
    refine lv_bipush (v := (52 : Int32)) hx hb dX9_sortOfSign_135 (by decide) ?_
    exact k_iret C hw hf dX9_sortOfSign_137
  have hf := k_ifF h62 hf
  refine lv_tableOut (tgt := 138) hx hb dX9_sortOfSign_1 (k_tout (fun k q1 q2 q3 => ?_)) (by decide) ?_
  · have q4 : p1 = Int32.ofInt k := by rw [← q3, Int32.ofInt_toInt]
    have q5 : k = 40 ∨ k = 41 ∨ k = 42 ∨ k = 43 ∨ k = 44 ∨ k = 45 ∨ k = 46 ∨ k = 47 ∨ k = 48 ∨ k = 49 ∨ k = 50 ∨ k = 51 ∨ k = 52 ∨ k = 53 ∨ k = 54 ∨ k = 55 ∨ k = 56 ∨ k = 57 ∨ k = 58 ∨ k = 59 ∨ k = 60 ∨ k = 61 ∨ k = 62 := by omega
    rcases q5 with rfl | rfl | rfl | rfl | rfl | rfl | rfl | rfl | rfl | rfl | rfl | rfl | rfl | rfl | rfl | rfl | rfl | rfl | rfl | rfl | rfl | rfl | rfl
    · exact h40 q4
    · exact h41 q4
    · exact h42 q4
    · exact h43 q4
    · exact h44 q4
    · exact h45 q4
    · exact h46 q4
    · exact h47 q4
    · exact h48 q4
    · exact h49 q4
    · exact h50 q4
    · exact h51 q4
    · exact h52 q4
    · exact h53 q4
    · exact h54 q4
    · exact h55 q4
    · exact h56 q4
    · exact h57 q4
    · exact h58 q4
    · exact h59 q4
    · exact h60 q4
    · exact h61 q4
    · exact h62 q4
  exact b138 σ _ _ _ (lv_sub hl [] rfl) hw hf
def f_X9_cutSign_b76  (x2 : Int32) (x4 : Int32) (σ : MSt) : Option MSt :=
  k_bv (f_X9_addToken x4 (0 : Int32) x2 σ) fun σ1 =>
  some σ1
def f_X9_cutSign_b33  (x1 : Int32) (x2 : Int32) (y0 : Int32) (σ : MSt) : Option MSt :=
  k_nm (mI σ 1 8 ((σ.1 1 8) + (1 : Int32))) fun σ1 =>
  k_bd (f_X9_sortOfPair x1 y0 σ1) fun q3 σ2 =>
  if q3 = (1 : Int32) then
  (k_bd (f_X9_sortOfSign x1 σ2) fun q6 σ5 =>
  f_X9_cutSign_b76 x2 q6 σ5)
  else
  (k_nm (mI σ2 1 8 ((σ2.1 1 8) + (1 : Int32))) fun σ4 =>
  f_X9_cutSign_b76 x2 q3 σ4)
def f_X9_cutSign  (p1 : Int32) (σ : MSt) : Option MSt :=
  k_nm (σ.1 1 8) fun u7 =>
  if (σ.1 1 6) ≤ ((σ.1 1 8) + (1 : Int32)) then
  (f_X9_cutSign_b33 p1 u7 (0 : Int32) σ)
  else
  (k_ck (k_inb ((σ.1 1 8) + (1 : Int32)) 700) <|
  f_X9_cutSign_b33 p1 u7 (σ.1 2 (((σ.1 1 8) + (1 : Int32))).toNatClampNeg) σ)
def rmX9_cutSign : Room := { frames := 1, cells := 0, slots := 0, locals := 23 }
set_option maxHeartbeats 4000000 in
set_option maxRecDepth 100000 in
theorem c_X9_cutSign (l : Launch) (G : va_G) (Y : CY) (w : MSt → va_W) (ad : Nat → Nat)  (LC : LayC ad w Y) (p1 : Int32) (σ : MSt) (σ' : MSt) (hf : f_X9_cutSign p1 σ = some σ') : k_Mv l yX9_cutSign wsX9_cutSign rmX9_cutSign G Y w [.ref (ad 1), .int p1] σ σ' := by
  refine k_ofv (own := RX9) (cc := cX9_cutSign) (maxL := 5) none (by decide) rfl rfl (Nat.le_of_ble_eq_true rfl) ?_
  intro p e s m below meth c A C ls hl hw
  have hx := C.1
  have hb := C.2.1
  have hown := C.2.2.2.2.1
  have hts := C.2.2.2.2.2.1
  have hks := C.2.2.2.2.2.2.1
  have hl : lv_has ls 5 [(0, .ref (ad 1)), (1, .int p1)] := hl
  have b76 : ∀ (x2 : Int32) (x4 : Int32) (σ : MSt) (H : Heap) (locs : List Loc) (ls : Array Slot), lv_has ls 5 [(0, .ref (ad 1)), (2, .int x2), (4, .int x4)] → k_W G w A s.heap σ H locs → f_X9_cutSign_b76 x2 x4 σ = some σ' → W p l e rmX9_cutSign s m [.ref (ad 1), .int p1].toArray below meth c H locs 0 0 (MQ below (k_Qv G w A σ') [.ref (ad 1), .int p1].toArray s 0 0 A) (F0 m 76 ls []) := by
    intro x2 x4 σ H locs ls hl hw hf
    unfold f_X9_cutSign_b76 at hf
    refine lv_aload_n hx hb dX9_cutSign_76 rfl (lv_at hl 0 rfl) ?_
    refine lv_iload hx hb dX9_cutSign_77 (lv_at hl 2 rfl) ?_
    refine lv_iconst (v := (0 : Int32)) hx hb dX9_cutSign_79 (by decide) ?_
    refine lv_iload_n hx hb dX9_cutSign_80 rfl (lv_at hl 1 rfl) ?_
    obtain ⟨σ1, hq, hf⟩ := k_bvE hf
    refine k_callVv C hw (c_X9_addToken l G Y w ad LC x4 (0 : Int32) x2 σ σ1 hq) (cwV 3 hts gX9_cutSign_X9_addToken rfl rfl rfl (by decide +kernel) ⟨Nat.le_of_ble_eq_true rfl, Nat.le_of_ble_eq_true rfl⟩) (k_recv C hw (LC_1 LC) rfl) rfl hl.1 rfl (Nat.le_of_ble_eq_true rfl) dX9_cutSign_81 (fun H locs hw => ?_)
    exact k_vret C hw hf dX9_cutSign_84
  have b33 : ∀ (x1 : Int32) (x2 : Int32) (y0 : Int32) (σ : MSt) (H : Heap) (locs : List Loc) (ls : Array Slot), lv_has ls 5 [(0, .ref (ad 1)), (1, .int x1), (2, .int x2)] → k_W G w A s.heap σ H locs → f_X9_cutSign_b33 x1 x2 y0 σ = some σ' → W p l e rmX9_cutSign s m [.ref (ad 1), .int p1].toArray below meth c H locs 0 0 (MQ below (k_Qv G w A σ') [.ref (ad 1), .int p1].toArray s 0 0 A) (F0 m 33 ls [.int y0]) := by
    intro x1 x2 y0 σ H locs ls hl hw hf
    unfold f_X9_cutSign_b33 at hf
    refine lv_istore_n (lv' := [(3, .int y0), (0, .ref (ad 1)), (1, .int x1), (2, .int x2)]) hx hb dX9_cutSign_33 rfl hl (by decide) rfl (fun ls hl => ?_)
    refine lv_aload_n hx hb dX9_cutSign_34 rfl (lv_at hl 1 rfl) ?_
    refine lv_dup hx hb dX9_cutSign_35 rfl ?_
    refine k_get C hw (LC_1 LC) (ci := 9) rfl k_in9 8 (by decide) lk9_55 (v := .int (σ.1 1 8)) rfl dX9_cutSign_36 ?_
    refine lv_iconst (v := (1 : Int32)) hx hb dX9_cutSign_39 (by decide) ?_
    refine lv_iadd hx hb dX9_cutSign_40 ?_
    refine k_put C hw (LC_1 LC) (ci := 9) rfl k_in9 tyX9 tyX9_ok nmX9 8 (by decide) lk9_55 rfl ⟨rfl, rfl⟩ rfl dX9_cutSign_41 (fun σ1 eq H locs hw => ?_)
    have hf := k_nmE eq hf
    refine lv_iload_n hx hb dX9_cutSign_44 rfl (lv_at hl 2 rfl) ?_
    refine lv_iload_n hx hb dX9_cutSign_45 rfl (lv_at hl 0 rfl) ?_
    obtain ⟨q3, σ2, hq, hf⟩ := k_bdE hf
    refine k_callSi C hw (c_X9_sortOfPair l G Y w ad LC x1 y0 σ1 q3 σ2 hq) (va_cwS 2 hts gX9_cutSign_X9_sortOfPair rfl rfl rfl (by decide +kernel) ⟨Nat.le_of_ble_eq_true rfl, Nat.le_of_ble_eq_true rfl⟩) rfl hl.1 rfl (Nat.le_of_ble_eq_true rfl) dX9_cutSign_46 (fun H locs hw => ?_)
    refine lv_istore (lv' := [(4, .int q3), (3, .int y0), (0, .ref (ad 1)), (1, .int x1), (2, .int x2)]) hx hb dX9_cutSign_49 hl (by decide) rfl (fun ls hl => ?_)
    refine lv_iload hx hb dX9_cutSign_51 (lv_at hl 0 rfl) ?_
    refine lv_iconst (v := (1 : Int32)) hx hb dX9_cutSign_53 (by decide) ?_
    refine lv_icmp_ne (tgt := 66) hx hb dX9_cutSign_54 (by decide) (fun h => ?_) (fun h => ?_)
    · have hf := k_ifF h hf
      refine lv_aload_n hx hb dX9_cutSign_66 rfl (lv_at hl 2 rfl) ?_
      refine lv_dup hx hb dX9_cutSign_67 rfl ?_
      refine k_get C hw (LC_1 LC) (ci := 9) rfl k_in9 8 (by decide) lk9_55 (v := .int (σ2.1 1 8)) rfl dX9_cutSign_68 ?_
      refine lv_iconst (v := (1 : Int32)) hx hb dX9_cutSign_71 (by decide) ?_
      refine lv_iadd hx hb dX9_cutSign_72 ?_
      refine k_put C hw (LC_1 LC) (ci := 9) rfl k_in9 tyX9 tyX9_ok nmX9 8 (by decide) lk9_55 rfl ⟨rfl, rfl⟩ rfl dX9_cutSign_73 (fun σ4 eq H locs hw => ?_)
      have hf := k_nmE eq hf
      exact b76 x2 q3 σ4 _ _ _ (lv_sub hl [2, 4, 0] rfl) hw hf
    · have hf := k_ifT h hf
      refine lv_iload_n hx hb dX9_cutSign_57 rfl (lv_at hl 3 rfl) ?_
      obtain ⟨q6, σ5, hq, hf⟩ := k_bdE hf
      refine k_callSi C hw (c_X9_sortOfSign l G Y w ad LC x1 σ2 q6 σ5 hq) (va_cwS 1 hts gX9_cutSign_X9_sortOfSign rfl rfl rfl (by decide +kernel) ⟨Nat.le_of_ble_eq_true rfl, Nat.le_of_ble_eq_true rfl⟩) rfl hl.1 rfl (Nat.le_of_ble_eq_true rfl) dX9_cutSign_58 (fun H locs hw => ?_)
      refine lv_istore (lv' := [(4, .int q6), (3, .int y0), (0, .ref (ad 1)), (1, .int x1), (2, .int x2)]) hx hb dX9_cutSign_61 hl (by decide) rfl (fun ls hl => ?_)
      refine lv_goto (tgt := 76) hx hb dX9_cutSign_63 (by decide) ?_
      exact b76 x2 q6 σ5 _ _ _ (lv_sub hl [2, 4, 0] rfl) hw hf
  unfold f_X9_cutSign at hf
  refine lv_aload_n hx hb dX9_cutSign_0 rfl (lv_at hl 0 rfl) ?_
  refine k_get C hw (LC_1 LC) (ci := 9) rfl k_in9 8 (by decide) lk9_55 (v := .int (σ.1 1 8)) rfl dX9_cutSign_1 ?_
  refine lv_topi (fun u7 ex => ?_)
  have hf := k_nmE ex hf
  refine lv_istore_n (lv' := [(2, .int u7), (0, .ref (ad 1)), (1, .int p1)]) hx hb dX9_cutSign_4 rfl hl (by decide) rfl (fun ls hl => ?_)
  refine lv_aload_n hx hb dX9_cutSign_5 rfl (lv_at hl 1 rfl) ?_
  refine k_get C hw (LC_1 LC) (ci := 9) rfl k_in9 8 (by decide) lk9_55 (v := .int (σ.1 1 8)) rfl dX9_cutSign_6 ?_
  refine lv_iconst (v := (1 : Int32)) hx hb dX9_cutSign_9 (by decide) ?_
  refine lv_iadd hx hb dX9_cutSign_10 ?_
  refine lv_aload_n hx hb dX9_cutSign_11 rfl (lv_at hl 1 rfl) ?_
  refine k_get C hw (LC_1 LC) (ci := 9) rfl k_in9 6 (by decide) lk9_50 (v := .int (σ.1 1 6)) rfl dX9_cutSign_12 ?_
  refine lv_icmp_ge (tgt := 32) hx hb dX9_cutSign_15 (by decide) (fun h => ?_) (fun h => ?_)
  · have hf := k_ifT h hf
    refine lv_iconst (v := (0 : Int32)) hx hb dX9_cutSign_32 (by decide) ?_
    exact b33 p1 u7 (0 : Int32) σ _ _ _ (lv_sub hl [1, 2, 0] rfl) hw hf
  · have hf := k_ifF h hf
    refine lv_aload_n hx hb dX9_cutSign_18 rfl (lv_at hl 1 rfl) ?_
    refine k_get C hw (LC_1 LC) (ci := 9) rfl k_in9 0 (by decide) lk9_9 (v := .ref (ad 2)) rfl dX9_cutSign_19 ?_
    refine lv_aload_n hx hb dX9_cutSign_22 rfl (lv_at hl 1 rfl) ?_
    refine k_get C hw (LC_1 LC) (ci := 9) rfl k_in9 8 (by decide) lk9_55 (v := .int (σ.1 1 8)) rfl dX9_cutSign_23 ?_
    refine lv_iconst (v := (1 : Int32)) hx hb dX9_cutSign_26 (by decide) ?_
    refine lv_iadd hx hb dX9_cutSign_27 ?_
    obtain ⟨hi, hf⟩ := k_ckE hf
    refine k_bald C hw (LC_2 LC) hi dX9_cutSign_28 ?_
    refine lv_goto (tgt := 33) hx hb dX9_cutSign_29 (by decide) ?_
    exact b33 p1 u7 (σ.1 2 (((σ.1 1 8) + (1 : Int32))).toNatClampNeg) σ _ _ _ (lv_sub hl [1, 2, 0] rfl) hw hf
def f_X9_cut_b121   (σ : MSt) : Option MSt :=
  some σ
def f_X9_cut_b115  (r29 : Int32 → MSt → Option MSt) (x2 : Int32) (σ : MSt) : Option MSt :=
  k_nm (x2 + (1 : Int32)) fun u1 =>
  r29 u1 σ
def f_X9_cut_b69  (r29 : Int32 → MSt → Option MSt) (x2 : Int32) (σ : MSt) : Option MSt :=
  k_nm (mI σ 1 8 ((σ.1 1 8) + (1 : Int32))) fun σ1 =>
  f_X9_cut_b115 r29 x2 σ1
def f_X9_cut_b29_s  (r29 : Int32 → MSt → Option MSt) (x2 : Int32) (σ : MSt) : Option MSt :=
  if (700 : Int32) ≤ x2 then
  (f_X9_cut_b121 σ)
  else
  (if (σ.1 1 6) ≤ (σ.1 1 8) then
  (f_X9_cut_b121 σ)
  else
  (k_ck (k_inb (σ.1 1 8) 700) <|
  k_nm (σ.1 2 ((σ.1 1 8)).toNatClampNeg) fun u1 =>
  if u1 = (10 : Int32) then
  (f_X9_cut_b69 r29 x2 σ)
  else
  (if u1 = (32 : Int32) then
  (f_X9_cut_b69 r29 x2 σ)
  else
  (k_bd (f_X9_isLetter u1 σ) fun q3 σ2 =>
  if q3 = 0 then
  (k_bd (f_X9_isDigit u1 σ2) fun q5 σ4 =>
  if q5 = 0 then
  (k_bv (f_X9_cutSign u1 σ4) fun σ6 =>
  f_X9_cut_b115 r29 x2 σ6)
  else
  (k_bv (f_X9_cutNumber σ4) fun σ7 =>
  f_X9_cut_b115 r29 x2 σ7))
  else
  (k_bv (f_X9_cutWord σ2) fun σ8 =>
  f_X9_cut_b115 r29 x2 σ8)))))
def f_X9_cut_b29  : Nat → Int32 → MSt → Option MSt
  | 0 => fun _ _ => none
  | n + 1 => f_X9_cut_b29_s (f_X9_cut_b29 n)
def f_X9_cut  (p1 : Int32) (σ : MSt) : Option MSt :=
  k_nm (mI σ 1 6 (k_min p1 (σ.1 1 5))) fun σ9 =>
  k_nm (mI σ9 1 5 (0 : Int32)) fun σ10 =>
  k_nm (mI σ10 1 7 (0 : Int32)) fun σ11 =>
  k_nm (mI σ11 1 8 (0 : Int32)) fun σ12 =>
  f_X9_cut_b29 FU (0 : Int32) σ12
def rmX9_cut : Room := { frames := 2, cells := 0, slots := 0, locals := 47 }
set_option maxHeartbeats 4000000 in
set_option maxRecDepth 100000 in
theorem c_X9_cut (l : Launch) (G : va_G) (Y : CY) (w : MSt → va_W) (ad : Nat → Nat)  (LC : LayC ad w Y) (p1 : Int32) (σ : MSt) (σ' : MSt) (hf : f_X9_cut p1 σ = some σ') : k_Mv l yX9_cut wsX9_cut rmX9_cut G Y w [.ref (ad 1), .int p1] σ σ' := by
  refine k_ofv (own := RX9) (cc := cX9_cut) (maxL := 4) none (by decide) rfl rfl (Nat.le_of_ble_eq_true rfl) ?_
  intro p e s m below meth c A C ls hl hw
  have hx := C.1
  have hb := C.2.1
  have hown := C.2.2.2.2.1
  have hts := C.2.2.2.2.2.1
  have hks := C.2.2.2.2.2.2.1
  have hl : lv_has ls 4 [(0, .ref (ad 1)), (1, .int p1)] := hl
  have b121 : ∀ (σ : MSt) (H : Heap) (locs : List Loc) (ls : Array Slot), lv_has ls 4 [] → k_W G w A s.heap σ H locs → f_X9_cut_b121 σ = some σ' → W p l e rmX9_cut s m [.ref (ad 1), .int p1].toArray below meth c H locs 0 0 (MQ below (k_Qv G w A σ') [.ref (ad 1), .int p1].toArray s 0 0 A) (F0 m 121 ls []) := by
    intro σ H locs ls hl hw hf
    unfold f_X9_cut_b121 at hf
    exact k_vret C hw hf dX9_cut_121
  have b29 : ∀ (n29 : Nat) (x2 : Int32) (σ : MSt) (H : Heap) (locs : List Loc) (ls : Array Slot), lv_has ls 4 [(0, .ref (ad 1)), (2, .int x2)] → k_W G w A s.heap σ H locs → f_X9_cut_b29 n29 x2 σ = some σ' → W p l e rmX9_cut s m [.ref (ad 1), .int p1].toArray below meth c H locs 0 0 (MQ below (k_Qv G w A σ') [.ref (ad 1), .int p1].toArray s 0 0 A) (F0 m 29 ls []) := by
    intro n29
    induction n29 with
    | zero =>
      intro x2 σ H locs ls hl hw hf
      have hf : (none : Option MSt) = some σ' := hf
      cases hf
    | succ n29 ih29 =>
      have b115 : ∀ (x2 : Int32) (σ : MSt) (H : Heap) (locs : List Loc) (ls : Array Slot), lv_has ls 4 [(0, .ref (ad 1)), (2, .int x2)] → k_W G w A s.heap σ H locs → f_X9_cut_b115 (f_X9_cut_b29 n29) x2 σ = some σ' → W p l e rmX9_cut s m [.ref (ad 1), .int p1].toArray below meth c H locs 0 0 (MQ below (k_Qv G w A σ') [.ref (ad 1), .int p1].toArray s 0 0 A) (F0 m 115 ls []) := by
        intro x2 σ H locs ls hl hw hf
        unfold f_X9_cut_b115 at hf
        obtain ⟨u1, ex⟩ : ∃ y : Int32, y = (x2 + (1 : Int32)) := ⟨_, rfl⟩
        have hf := k_nmE ex hf
        refine lv_iinc (v := u1) (lv' := [(2, .int u1), (0, .ref (ad 1))]) hx hb dX9_cut_115 hl (k := 1) rfl (by rw [ex]; rfl) (by decide) rfl (fun ls hl => ?_)
        refine lv_goto (tgt := 29) hx hb dX9_cut_118 (by decide) ?_
        exact ih29 u1 σ _ _ _ (lv_sub hl [1, 0] rfl) hw hf
      have b69 : ∀ (x2 : Int32) (σ : MSt) (H : Heap) (locs : List Loc) (ls : Array Slot), lv_has ls 4 [(0, .ref (ad 1)), (2, .int x2)] → k_W G w A s.heap σ H locs → f_X9_cut_b69 (f_X9_cut_b29 n29) x2 σ = some σ' → W p l e rmX9_cut s m [.ref (ad 1), .int p1].toArray below meth c H locs 0 0 (MQ below (k_Qv G w A σ') [.ref (ad 1), .int p1].toArray s 0 0 A) (F0 m 69 ls []) := by
        intro x2 σ H locs ls hl hw hf
        unfold f_X9_cut_b69 at hf
        refine lv_aload_n hx hb dX9_cut_69 rfl (lv_at hl 0 rfl) ?_
        refine lv_dup hx hb dX9_cut_70 rfl ?_
        refine k_get C hw (LC_1 LC) (ci := 9) rfl k_in9 8 (by decide) lk9_55 (v := .int (σ.1 1 8)) rfl dX9_cut_71 ?_
        refine lv_iconst (v := (1 : Int32)) hx hb dX9_cut_74 (by decide) ?_
        refine lv_iadd hx hb dX9_cut_75 ?_
        refine k_put C hw (LC_1 LC) (ci := 9) rfl k_in9 tyX9 tyX9_ok nmX9 8 (by decide) lk9_55 rfl ⟨rfl, rfl⟩ rfl dX9_cut_76 (fun σ1 eq H locs hw => ?_)
        have hf := k_nmE eq hf
        refine lv_goto (tgt := 115) hx hb dX9_cut_79 (by decide) ?_
        exact b115 x2 σ1 _ _ _ (lv_sub hl [0, 1] rfl) hw hf
      intro x2 σ H locs ls hl hw hf
      have hf : f_X9_cut_b29_s (f_X9_cut_b29 n29) x2 σ = some σ' := hf
      unfold f_X9_cut_b29_s at hf
      refine lv_iload_n hx hb dX9_cut_29 rfl (lv_at hl 1 rfl) ?_
      refine lv_sipush (v := (700 : Int32)) hx hb dX9_cut_30 (by decide) ?_
      refine lv_icmp_ge (tgt := 121) hx hb dX9_cut_33 (by decide) (fun h => ?_) (fun h => ?_)
      · have hf := k_ifT h hf
        exact b121 σ _ _ _ (lv_sub hl [] rfl) hw hf
      · have hf := k_ifF h hf
        refine lv_aload_n hx hb dX9_cut_36 rfl (lv_at hl 0 rfl) ?_
        refine k_get C hw (LC_1 LC) (ci := 9) rfl k_in9 8 (by decide) lk9_55 (v := .int (σ.1 1 8)) rfl dX9_cut_37 ?_
        refine lv_aload_n hx hb dX9_cut_40 rfl (lv_at hl 0 rfl) ?_
        refine k_get C hw (LC_1 LC) (ci := 9) rfl k_in9 6 (by decide) lk9_50 (v := .int (σ.1 1 6)) rfl dX9_cut_41 ?_
        refine lv_icmp_ge (tgt := 121) hx hb dX9_cut_44 (by decide) (fun h => ?_) (fun h => ?_)
        · have hf := k_ifT h hf
          exact b121 σ _ _ _ (lv_sub hl [] rfl) hw hf
        · have hf := k_ifF h hf
          refine lv_aload_n hx hb dX9_cut_47 rfl (lv_at hl 0 rfl) ?_
          refine k_get C hw (LC_1 LC) (ci := 9) rfl k_in9 0 (by decide) lk9_9 (v := .ref (ad 2)) rfl dX9_cut_48 ?_
          refine lv_aload_n hx hb dX9_cut_51 rfl (lv_at hl 0 rfl) ?_
          refine k_get C hw (LC_1 LC) (ci := 9) rfl k_in9 8 (by decide) lk9_55 (v := .int (σ.1 1 8)) rfl dX9_cut_52 ?_
          obtain ⟨hi, hf⟩ := k_ckE hf
          refine k_bald C hw (LC_2 LC) hi dX9_cut_55 ?_
          refine lv_topi (fun u1 ex => ?_)
          have hf := k_nmE ex hf
          refine lv_istore_n (lv' := [(3, .int u1), (0, .ref (ad 1)), (2, .int x2)]) hx hb dX9_cut_56 rfl hl (by decide) rfl (fun ls hl => ?_)
          refine lv_iload_n hx hb dX9_cut_57 rfl (lv_at hl 0 rfl) ?_
          refine lv_bipush (v := (10 : Int32)) hx hb dX9_cut_58 (by decide) ?_
          refine lv_icmp_eq (tgt := 69) hx hb dX9_cut_60 (by decide) (fun h => ?_) (fun h => ?_)
          · have hf := k_ifT h hf
            exact b69 x2 σ _ _ _ (lv_sub hl [1, 2] rfl) hw hf
          · have hf := k_ifF h hf
            refine lv_iload_n hx hb dX9_cut_63 rfl (lv_at hl 0 rfl) ?_
            refine lv_bipush (v := (32 : Int32)) hx hb dX9_cut_64 (by decide) ?_
            refine lv_icmp_ne (tgt := 82) hx hb dX9_cut_66 (by decide) (fun h => ?_) (fun h => ?_)
            · have hf := k_ifF h hf
              refine lv_iload_n hx hb dX9_cut_82 rfl (lv_at hl 0 rfl) ?_
              obtain ⟨q3, σ2, hq, hf⟩ := k_bdE hf
              refine k_callSi C hw (c_X9_isLetter l G Y w ad LC u1 σ q3 σ2 hq) (va_cwS 1 hts gX9_cut_X9_isLetter rfl rfl rfl (by decide +kernel) ⟨Nat.le_of_ble_eq_true rfl, Nat.le_of_ble_eq_true rfl⟩) rfl hl.1 rfl (Nat.le_of_ble_eq_true rfl) dX9_cut_83 (fun H locs hw => ?_)
              refine lv_if_eq (tgt := 96) hx hb dX9_cut_86 (by decide) (fun h => ?_) (fun h => ?_)
              · have hf := k_ifT h hf
                refine lv_iload_n hx hb dX9_cut_96 rfl (lv_at hl 0 rfl) ?_
                obtain ⟨q5, σ4, hq, hf⟩ := k_bdE hf
                refine k_callSi C hw (c_X9_isDigit l G Y w ad LC u1 σ2 q5 σ4 hq) (va_cwS 1 hts gX9_cut_X9_isDigit rfl rfl rfl (by decide +kernel) ⟨Nat.le_of_ble_eq_true rfl, Nat.le_of_ble_eq_true rfl⟩) rfl hl.1 rfl (Nat.le_of_ble_eq_true rfl) dX9_cut_97 (fun H locs hw => ?_)
                refine lv_if_eq (tgt := 110) hx hb dX9_cut_100 (by decide) (fun h => ?_) (fun h => ?_)
                · have hf := k_ifT h hf
                  refine lv_aload_n hx hb dX9_cut_110 rfl (lv_at hl 1 rfl) ?_
                  refine lv_iload_n hx hb dX9_cut_111 rfl (lv_at hl 0 rfl) ?_
                  obtain ⟨σ6, hq, hf⟩ := k_bvE hf
                  refine k_callVv C hw (c_X9_cutSign l G Y w ad LC u1 σ4 σ6 hq) (cwV 1 hts gX9_cut_X9_cutSign rfl rfl rfl (by decide +kernel) ⟨Nat.le_of_ble_eq_true rfl, Nat.le_of_ble_eq_true rfl⟩) (k_recv C hw (LC_1 LC) rfl) rfl hl.1 rfl (Nat.le_of_ble_eq_true rfl) dX9_cut_112 (fun H locs hw => ?_)
                  exact b115 x2 σ6 _ _ _ (lv_sub hl [1, 2] rfl) hw hf
                · have hf := k_ifF h hf
                  refine lv_aload_n hx hb dX9_cut_103 rfl (lv_at hl 1 rfl) ?_
                  obtain ⟨σ7, hq, hf⟩ := k_bvE hf
                  refine k_callVv C hw (c_X9_cutNumber l G Y w ad LC σ4 σ7 hq) (cwV 0 hts gX9_cut_X9_cutNumber rfl rfl rfl (by decide +kernel) ⟨Nat.le_of_ble_eq_true rfl, Nat.le_of_ble_eq_true rfl⟩) (k_recv C hw (LC_1 LC) rfl) rfl hl.1 rfl (Nat.le_of_ble_eq_true rfl) dX9_cut_104 (fun H locs hw => ?_)
                  refine lv_goto (tgt := 115) hx hb dX9_cut_107 (by decide) ?_
                  exact b115 x2 σ7 _ _ _ (lv_sub hl [1, 2] rfl) hw hf
              · have hf := k_ifF h hf
                refine lv_aload_n hx hb dX9_cut_89 rfl (lv_at hl 1 rfl) ?_
                obtain ⟨σ8, hq, hf⟩ := k_bvE hf
                refine k_callVv C hw (c_X9_cutWord l G Y w ad LC σ2 σ8 hq) (cwV 0 hts gX9_cut_X9_cutWord rfl rfl rfl (by decide +kernel) ⟨Nat.le_of_ble_eq_true rfl, Nat.le_of_ble_eq_true rfl⟩) (k_recv C hw (LC_1 LC) rfl) rfl hl.1 rfl (Nat.le_of_ble_eq_true rfl) dX9_cut_90 (fun H locs hw => ?_)
                refine lv_goto (tgt := 115) hx hb dX9_cut_93 (by decide) ?_
                exact b115 x2 σ8 _ _ _ (lv_sub hl [1, 2] rfl) hw hf
            · have hf := k_ifT h hf
              exact b69 x2 σ _ _ _ (lv_sub hl [1, 2] rfl) hw hf
  unfold f_X9_cut at hf
  refine lv_aload_n hx hb dX9_cut_0 rfl (lv_at hl 0 rfl) ?_
  refine lv_iload_n hx hb dX9_cut_1 rfl (lv_at hl 1 rfl) ?_
  refine lv_aload_n hx hb dX9_cut_2 rfl (lv_at hl 0 rfl) ?_
  refine k_get C hw (LC_1 LC) (ci := 9) rfl k_in9 5 (by decide) lk9_40 (v := .int (σ.1 1 5)) rfl dX9_cut_3 ?_
  refine k_mmin C hl.1 ml9_44 ms_Lib_Math_min_name mi_Math mc_Lib_Math_min_name (Nat.le_of_ble_eq_true rfl) (Nat.le_of_ble_eq_true rfl) dX9_cut_6 ?_
  refine k_put C hw (LC_1 LC) (ci := 9) rfl k_in9 tyX9 tyX9_ok nmX9 6 (by decide) lk9_50 rfl ⟨rfl, rfl⟩ rfl dX9_cut_9 (fun σ9 eq H locs hw => ?_)
  have hf := k_nmE eq hf
  refine lv_aload_n hx hb dX9_cut_12 rfl (lv_at hl 0 rfl) ?_
  refine lv_iconst (v := (0 : Int32)) hx hb dX9_cut_13 (by decide) ?_
  refine k_put C hw (LC_1 LC) (ci := 9) rfl k_in9 tyX9 tyX9_ok nmX9 5 (by decide) lk9_40 rfl ⟨rfl, rfl⟩ rfl dX9_cut_14 (fun σ10 eq H locs hw => ?_)
  have hf := k_nmE eq hf
  refine lv_aload_n hx hb dX9_cut_17 rfl (lv_at hl 0 rfl) ?_
  refine lv_iconst (v := (0 : Int32)) hx hb dX9_cut_18 (by decide) ?_
  refine k_put C hw (LC_1 LC) (ci := 9) rfl k_in9 tyX9 tyX9_ok nmX9 7 (by decide) lk9_52 rfl ⟨rfl, rfl⟩ rfl dX9_cut_19 (fun σ11 eq H locs hw => ?_)
  have hf := k_nmE eq hf
  refine lv_aload_n hx hb dX9_cut_22 rfl (lv_at hl 0 rfl) ?_
  refine lv_iconst (v := (0 : Int32)) hx hb dX9_cut_23 (by decide) ?_
  refine k_put C hw (LC_1 LC) (ci := 9) rfl k_in9 tyX9 tyX9_ok nmX9 8 (by decide) lk9_55 rfl ⟨rfl, rfl⟩ rfl dX9_cut_24 (fun σ12 eq H locs hw => ?_)
  have hf := k_nmE eq hf
  refine lv_iconst (v := (0 : Int32)) hx hb dX9_cut_27 (by decide) ?_
  refine lv_istore_n (lv' := [(2, .int (0 : Int32)), (0, .ref (ad 1)), (1, .int p1)]) hx hb dX9_cut_28 rfl hl (by decide) rfl (fun ls hl => ?_)
  exact b29 FU (0 : Int32) σ12 _ _ _ (lv_sub hl [1, 0] rfl) hw hf
