/-! THE KIT OF THIS PROOF: a state of numbers alone (rows of ints and of longs by the number of a cell), worlds as a family over it, rows of the walk over such a family. -/
abbrev MSt : Type := (Nat → Nat → Int32) × (Nat → Nat → Int64)
def mI (σ : MSt) (o j : Nat) (v : Int32) : MSt := (va_up σ.1 o (upd (σ.1 o) j v), σ.2)
def mJ (σ : MSt) (o j : Nat) (v : Int64) : MSt := (σ.1, va_up σ.2 o (vp_updL (σ.2 o) j v))
abbrev CY : Type := ClassId × ClassId × ClassId × ClassId × Nat × Nat
abbrev k_tys (Y : CY) : List (ClassId × FieldType) := [(Y.1, .byte), (Y.2.1, .int), (Y.2.2.1, .long), (Y.2.2.2.1, .boolean)]
def k_rf (ad : Nat → Nat) (x : Int32) : Value := if x = 0 then .null else .ref (ad x.toNatClampNeg)
-- pure words
def k_ck {α : Type} (b : Bool) (X : Option α) : Option α := if b = true then X else none
theorem k_ckE {α : Type} {b : Bool} {X : Option α} {r : α} (h : k_ck b X = some r) : b = true ∧ X = some r := by
  cases b with
  | true => exact ⟨rfl, h⟩
  | false => cases h
def k_nm {α β : Type} (e : α) (k : α → β) : β := k e
theorem k_nmE {α β : Type} {e x : α} {k : α → β} {r : β} (ex : x = e) (h : k_nm e k = r) : k x = r := by subst ex; exact h
def k_bd {α : Type} (o : Option (Int32 × MSt)) (k : Int32 → MSt → Option α) : Option α := match o with
  | some (r, s) => k r s
  | none => none
theorem k_bdE {α : Type} {o : Option (Int32 × MSt)} {k : Int32 → MSt → Option α} {x : α} (h : k_bd o k = some x) : ∃ r s, o = some (r, s) ∧ k r s = some x := by
  match o, h with
  | some (r, s), h => exact ⟨r, s, rfl, h⟩
  | none, h => cases h
def k_bl {α : Type} (o : Option (Int64 × MSt)) (k : Int64 → MSt → Option α) : Option α := match o with
  | some (r, s) => k r s
  | none => none
theorem k_blE {α : Type} {o : Option (Int64 × MSt)} {k : Int64 → MSt → Option α} {x : α} (h : k_bl o k = some x) : ∃ r s, o = some (r, s) ∧ k r s = some x := by
  match o, h with
  | some (r, s), h => exact ⟨r, s, rfl, h⟩
  | none, h => cases h
def k_bv {α : Type} (o : Option MSt) (k : MSt → Option α) : Option α := match o with
  | some s => k s
  | none => none
theorem k_bvE {α : Type} {o : Option MSt} {k : MSt → Option α} {x : α} (h : k_bv o k = some x) : ∃ s, o = some s ∧ k s = some x := by
  match o, h with
  | some s, h => exact ⟨s, rfl, h⟩
  | none, h => cases h
theorem k_ifT {α : Type} {q : Prop} [Decidable q] {A B r : α} (h : q) (hf : (if q then A else B) = r) : A = r := by rw [if_pos h] at hf; exact hf
theorem k_ifF {α : Type} {q : Prop} [Decidable q] {A B r : α} (h : ¬ q) (hf : (if q then A else B) = r) : B = r := by rw [if_neg h] at hf; exact hf
def k_inb (i : Int32) (n : Nat) : Bool := decide (0 ≤ i.toInt) && decide (i.toInt < (n : Int))
theorem k_inE {i : Int32} {n : Nat} (h : k_inb i n = true) : vp_in i n := by
  unfold k_inb at h
  rw [Bool.and_eq_true, decide_eq_true_eq, decide_eq_true_eq] at h
  exact vp_in_iff.mpr h
def k_bo (v : Int32) : Bool := decide (v = 0 ∨ v = 1)
theorem k_boE {v : Int32} (h : k_bo v = true) : narrow .boolean (.int v) = .int v ∧ fits .boolean (.int v) = true := by
  unfold k_bo at h
  rcases decide_eq_true_eq.mp h with rfl | rfl <;> exact ⟨rfl, rfl⟩
def k_nz (v : Int32) : Bool := decide (¬ v = 0)
theorem k_nzE {v : Int32} (h : k_nz v = true) : ¬ v = 0 := decide_eq_true_eq.mp h
def k_nzl (v : Int64) : Bool := decide (¬ v = 0)
theorem k_nzlE {v : Int64} (h : k_nzl v = true) : ¬ v = 0 := decide_eq_true_eq.mp h
def k_max (x y : Int32) : Int32 := if x < y then y else x
def k_min (x y : Int32) : Int32 := if y < x then y else x
def k_abs (x : Int32) : Int32 := if 0 ≤ x then x else 0 - x
def k_lmax (x y : Int64) : Int64 := if y < x then x else y
def k_lmin (x y : Int64) : Int64 := if y < x then y else x
def k_labs (x : Int64) : Int64 := if 0 < x then x else -x
def k_rem (x y : Int32) : Int32 := x - x / y * y
def k_lrem (x y : Int64) : Int64 := x - x / y * y
def FU : Nat := 1024
def k_TL : List Cond := wsX00 ++ (wsX10 ++ (wsX20 ++ (wsX30 ++ (wsX40 ++ (wsX50 ++ (wsX60 ++ (wsX70 ++ (wsX80 ++ (wsX90 ++ (wsX100 ++ (wsX110 ++ (wsX120))))))))))))
def k_TG : List Cond := [
  .fieldLink RX4 9 "MoodAnchor$Laws" "sorts" "[I",
  .fieldLink RX4 15 "MoodAnchor$Laws" "values" "[I",
  .fieldLink RX4 18 "MoodAnchor$Laws" "from" "[I",
  .fieldLink RX4 21 "MoodAnchor$Laws" "to" "[I",
  .fieldLink RX4 24 "MoodAnchor$Laws" "stack" "[J",
  .fieldLink RX4 28 "MoodAnchor$Laws" "size" "I",
  .fieldLink RX0 15 "MoodAnchor$Chart" "lengths" "[I",
  .fieldLink RX0 33 "MoodAnchor$Chart" "laws" "LMoodAnchor$Laws;",
  .fieldLink RX0 41 "MoodAnchor$Chart" "bays" "I",
  .fieldLink RX0 45 "MoodAnchor$Chart" "lanes" "I",
  .fieldLink RX0 48 "MoodAnchor$Chart" "deeds" "I",
  .fieldLink RX0 51 "MoodAnchor$Chart" "winds" "I",
  .fieldLink RX0 54 "MoodAnchor$Chart" "ship" "I",
  .fieldLink RX0 57 "MoodAnchor$Chart" "reach" "I",
  .fieldLink RX0 60 "MoodAnchor$Chart" "trust" "I",
  .fieldLink RX0 63 "MoodAnchor$Chart" "seed" "I",
  .fieldLink RX0 9 "MoodAnchor$Chart" "names" "[I",
  .fieldLink RX0 18 "MoodAnchor$Chart" "deedBay" "[I",
  .fieldLink RX0 21 "MoodAnchor$Chart" "deedDate" "[I",
  .fieldLink RX0 24 "MoodAnchor$Chart" "deedJoy" "[I",
  .fieldLink RX0 27 "MoodAnchor$Chart" "gales" "[I",
  .fieldLink RX5 9 "MoodAnchor$Log" "joys" "[I",
  .fieldLink RX5 15 "MoodAnchor$Log" "many" "[I",
  .fieldLink RX5 18 "MoodAnchor$Log" "latest" "[I",
  .fieldLink RX5 21 "MoodAnchor$Log" "lies" "I",
  .fieldLink RX5 25 "MoodAnchor$Log" "heads" "I",
  .fieldLink RX5 28 "MoodAnchor$Log" "arrives" "I",
  .fieldLink RX1 12 "MoodAnchor$Days" "trial" "LMoodAnchor$Log;",
  .fieldLink RX1 21 "MoodAnchor$Days" "scene" "LMoodAnchor$Scene;",
  .fieldLink RX1 25 "MoodAnchor$Days" "chart" "LMoodAnchor$Chart;",
  .fieldLink RX1 29 "MoodAnchor$Days" "log" "LMoodAnchor$Log;",
  .fieldLink RX5 31 "MoodAnchor$Log" "date" "I",
  .fieldLink RX5 40 "MoodAnchor$Log" "copyDown" "Z",
  .fieldLink RX5 47 "MoodAnchor$Log" "drawn" "J",
  .fieldLink RX5 51 "MoodAnchor$Log" "held" "I",
  .fieldLink RX5 54 "MoodAnchor$Log" "adrift" "I",
  .fieldLink RX5 57 "MoodAnchor$Log" "atSea" "I",
  .fieldLink RX1 36 "MoodAnchor$Days" "byNumbers" "Z",
  .fieldLink RX1 40 "MoodAnchor$Days" "drawsWinds" "Z",
  .fieldLink RX1 43 "MoodAnchor$Days" "isCalm" "Z",
  .fieldLink RX1 46 "MoodAnchor$Days" "isJoyful" "Z",
  .fieldLink RX1 49 "MoodAnchor$Days" "lostDeed" "I",
  .methodLink RX5 60 Lib.Math.min.name,
  .static Lib.Math.min.name,
  .initialized "java/lang/Math",
  .code Lib.Math.min.name Lib.Math.min.code 2 (some .int),
  .constantLong RX5 69 (1103515245),
  .constantLong RX5 71 (12345),
  .constantLong RX5 73 (2147483647),
  .constantLong RX5 75 (65536),
  .fieldLink RX8 9 "MoodAnchor$Scene" "joys" "I",
  .fieldLink RX8 15 "MoodAnchor$Scene" "many" "I",
  .fieldLink RX8 18 "MoodAnchor$Scene" "latest" "I",
  .fieldLink RX8 42 "MoodAnchor$Scene" "date" "I",
  .fieldLink RX8 45 "MoodAnchor$Scene" "gale" "I",
  .fieldLink RX8 48 "MoodAnchor$Scene" "here" "I",
  .methodLink RX8 33 Lib.Math.min.name,
  .fieldLink RX8 51 "MoodAnchor$Scene" "last" "I",
  .fieldLink RX8 54 "MoodAnchor$Scene" "mood" "I",
  .constantLong RX4 41 (-9223372036854775808),
  .constantLong RX4 73 (1000000000000),
  .constantLong RX4 75 (-1000000000000),
  .constantLong RX4 49 (100),
  .methodLink RX4 51 Lib.MathLoose.min_long.x,
  .static Lib.MathLoose.min_long.x,
  .code Lib.MathLoose.min_long.x Lib.MathLoose.min_long.code 4 (some .long),
  .methodLink RX4 57 Lib.MathLoose.max_long.x,
  .static Lib.MathLoose.max_long.x,
  .code Lib.MathLoose.max_long.x Lib.MathLoose.max_long.code 4 (some .long),
  .constantLong RX4 63 (9),
  .methodLink RX5 66 Lib.Math.max.name,
  .static Lib.Math.max.name,
  .code Lib.Math.max.name Lib.Math.max.code 2 (some .int),
  .fieldLink RX2 9 "MoodAnchor$Doings" "what" "[I",
  .fieldLink RX2 15 "MoodAnchor$Doings" "bays" "[I",
  .fieldLink RX2 18 "MoodAnchor$Doings" "joys" "[I",
  .fieldLink RX2 21 "MoodAnchor$Doings" "latest" "[I",
  .fieldLink RX2 24 "MoodAnchor$Doings" "log" "LMoodAnchor$Log;",
  .fieldLink RX2 28 "MoodAnchor$Doings" "size" "I",
  .fieldLink RX3 12 "MoodAnchor$Foresight" "scene" "LMoodAnchor$Scene;",
  .fieldLink RX3 18 "MoodAnchor$Foresight" "nights" "[I",
  .fieldLink RX3 22 "MoodAnchor$Foresight" "rests" "[I",
  .fieldLink RX3 25 "MoodAnchor$Foresight" "chart" "LMoodAnchor$Chart;",
  .fieldLink RX3 29 "MoodAnchor$Foresight" "log" "LMoodAnchor$Log;",
  .methodLink RX8 39 Lib.Math.max.name,
  .fieldLink RX6 9 "MoodAnchor$Notes" "bays" "[I",
  .fieldLink RX6 15 "MoodAnchor$Notes" "dates" "[I",
  .fieldLink RX6 18 "MoodAnchor$Notes" "held" "[Z",
  .fieldLink RX6 22 "MoodAnchor$Notes" "strikes" "[I",
  .fieldLink RX6 25 "MoodAnchor$Notes" "stands" "[Z",
  .fieldLink RX6 28 "MoodAnchor$Notes" "chart" "LMoodAnchor$Chart;",
  .fieldLink RX6 32 "MoodAnchor$Notes" "foresight" "LMoodAnchor$Foresight;",
  .fieldLink RX6 36 "MoodAnchor$Notes" "by" "I",
  .fieldLink RX6 40 "MoodAnchor$Notes" "size" "I",
  .methodLink RX6 43 Lib.Math.min.name,
  .methodLink RX6 83 Lib.Math.abs.name,
  .static Lib.Math.abs.name,
  .code Lib.Math.abs.name Lib.Math.abs.code 1 (some .int),
  .fieldLink RX7 9 "MoodAnchor$Reader" "waiting" "[I",
  .fieldLink RX7 15 "MoodAnchor$Reader" "tape" "LMoodAnchor$Tape;",
  .fieldLink RX9 52 "MoodAnchor$Tape" "tokens" "I",
  .fieldLink RX9 15 "MoodAnchor$Tape" "sorts" "[I",
  .fieldLink RX7 35 "MoodAnchor$Reader" "fault" "I",
  .fieldLink RX7 28 "MoodAnchor$Reader" "at" "I",
  .fieldLink RX7 50 "MoodAnchor$Reader" "faultAt" "I",
  .fieldLink RX9 19 "MoodAnchor$Tape" "values" "[I",
  .fieldLink RX7 19 "MoodAnchor$Reader" "chart" "LMoodAnchor$Chart;",
  .fieldLink RX7 32 "MoodAnchor$Reader" "told" "I",
  .constant RX7 139 (99999),
  .fieldLink RX7 38 "MoodAnchor$Reader" "knots" "I",
  .fieldLink RX7 158 "MoodAnchor$Reader" "waits" "I",
  .fieldLink RX7 164 "MoodAnchor$Reader" "wantsOperand" "Z",
  .fieldLink RX7 161 "MoodAnchor$Reader" "open" "I",
  .fieldLink RX7 168 "MoodAnchor$Reader" "notMayStand" "Z",
  .fieldLink RX9 22 "MoodAnchor$Tape" "places" "[I",
  .fieldLink RX9 50 "MoodAnchor$Tape" "length" "I",
  .fieldLink RX9 9 "MoodAnchor$Tape" "bytes" "[B",
  .fieldLink RX9 25 "MoodAnchor$Tape" "words" "[I",
  .fieldLink RX9 40 "MoodAnchor$Tape" "size" "I",
  .fieldLink RX9 55 "MoodAnchor$Tape" "at" "I",
  .constant RX9 83 (1000000),
  .methodLink RX9 44 Lib.Math.min.name,
  .fieldLink RX10 9 "MoodAnchor$Ways" "dates" "[I",
  .fieldLink RX10 15 "MoodAnchor$Ways" "lanes" "[I",
  .fieldLink RX10 18 "MoodAnchor$Ways" "mornings" "[I",
  .fieldLink RX10 21 "MoodAnchor$Ways" "seen" "[I",
  .fieldLink RX10 24 "MoodAnchor$Ways" "chart" "LMoodAnchor$Chart;",
  .fieldLink RX10 28 "MoodAnchor$Ways" "log" "LMoodAnchor$Log;",
  .fieldLink RX10 32 "MoodAnchor$Ways" "foresight" "LMoodAnchor$Foresight;",
  .methodLink RX10 86 Lib.Math.min.name,
  .methodLink RX10 48 Lib.Math.max.name,
  .fieldLink RX11 10 "MoodAnchor" "tape" "LMoodAnchor$Tape;",
  .fieldLink RX11 21 "MoodAnchor" "reader" "LMoodAnchor$Reader;",
  .fieldLink RX11 28 "MoodAnchor" "chart" "LMoodAnchor$Chart;",
  .fieldLink RX11 32 "MoodAnchor" "draft" "LMoodAnchor$Chart;",
  .fieldLink RX11 38 "MoodAnchor" "log" "LMoodAnchor$Log;",
  .fieldLink RX11 42 "MoodAnchor" "image" "LMoodAnchor$Log;",
  .fieldLink RX11 50 "MoodAnchor" "doings" "LMoodAnchor$Doings;",
  .fieldLink RX11 59 "MoodAnchor" "foresight" "LMoodAnchor$Foresight;",
  .fieldLink RX11 66 "MoodAnchor" "days" "LMoodAnchor$Days;",
  .fieldLink RX11 75 "MoodAnchor" "ways" "LMoodAnchor$Ways;",
  .fieldLink RX11 84 "MoodAnchor" "notes" "LMoodAnchor$Notes;",
  .fieldLink RX11 92 "MoodAnchor" "hasImage" "Z",
  .fieldLink RX11 96 "MoodAnchor" "faultSort" "I",
  .fieldLink RX11 100 "MoodAnchor" "faultPlace" "I",
  .constantLong RX11 192 (-9223372036854775808),
  .constantLong RX11 290 (-1),
  .methodLink RX11 375 Lib.Math.max.name,
  .fieldLink RX12 63 "MoodAnchorModel" "date" "[I",
  .fieldLink RX12 66 "MoodAnchorModel" "lies" "[I",
  .fieldLink RX12 13 "MoodAnchorModel" "number" "[I",
  .fieldLink RX12 69 "MoodAnchorModel" "sails" "[I",
  .fieldLink RX12 72 "MoodAnchorModel" "arrives" "[I",
  .fieldLink RX12 75 "MoodAnchorModel" "copied" "[I",
  .fieldLink RX12 78 "MoodAnchorModel" "heldMany" "[I",
  .fieldLink RX12 81 "MoodAnchorModel" "adrift" "[I",
  .fieldLink RX12 84 "MoodAnchorModel" "atSea" "[I",
  .fieldLink RX12 87 "MoodAnchorModel" "drawn" "[I",
  .fieldLink RX12 90 "MoodAnchorModel" "joys" "[I",
  .fieldLink RX12 93 "MoodAnchorModel" "many" "[I",
  .fieldLink RX12 96 "MoodAnchorModel" "latest" "[I",
  .fieldLink RX12 7 "MoodAnchorModel" "tape" "[I",
  .fieldLink RX12 16 "MoodAnchorModel" "bayName" "[I",
  .fieldLink RX12 19 "MoodAnchorModel" "laneA" "[I",
  .fieldLink RX12 22 "MoodAnchorModel" "laneB" "[I",
  .fieldLink RX12 25 "MoodAnchorModel" "laneDays" "[I",
  .fieldLink RX12 28 "MoodAnchorModel" "deedAt" "[I",
  .fieldLink RX12 31 "MoodAnchorModel" "deedOn" "[I",
  .fieldLink RX12 34 "MoodAnchorModel" "deedJoy" "[I",
  .fieldLink RX12 37 "MoodAnchorModel" "windOf" "[I",
  .fieldLink RX12 40 "MoodAnchorModel" "sumFrom" "[I",
  .fieldLink RX12 43 "MoodAnchorModel" "sumTo" "[I",
  .fieldLink RX12 46 "MoodAnchorModel" "knotSort" "[I",
  .fieldLink RX12 49 "MoodAnchorModel" "knotValue" "[I",
  .fieldLink RX12 52 "MoodAnchorModel" "lastPlace" "I",
  .fieldLink RX12 56 "MoodAnchorModel" "names" "[J",
  .fieldLink RX12 60 "MoodAnchorModel" "worked" "[J",
  .fieldLink RX12 99 "MoodAnchorModel" "tryDeed" "I",
  .fieldLink RX12 102 "MoodAnchorModel" "joyOf" "I",
  .fieldLink RX12 105 "MoodAnchorModel" "windDrawn" "I",
  .fieldLink RX12 108 "MoodAnchorModel" "morning" "[I",
  .fieldLink RX12 111 "MoodAnchorModel" "arrival" "[I",
  .fieldLink RX12 114 "MoodAnchorModel" "lanesTo" "[I",
  .fieldLink RX12 117 "MoodAnchorModel" "reached" "[I",
  .fieldLink RX12 120 "MoodAnchorModel" "nights" "[I",
  .fieldLink RX12 123 "MoodAnchorModel" "knownBy" "I",
  .fieldLink RX12 126 "MoodAnchorModel" "noteBay" "[I",
  .fieldLink RX12 129 "MoodAnchorModel" "noteDate" "[I",
  .fieldLink RX12 132 "MoodAnchorModel" "noteHeld" "[Z",
  .fieldLink RX12 136 "MoodAnchorModel" "outs" "[I",
  .fieldLink RX12 139 "MoodAnchorModel" "isOut" "[Z",
  .fieldLink RX12 145 "MoodAnchorModel" "thrown" "I",
  .fieldLink RX12 148 "MoodAnchorModel" "taped" "I",
  .fieldLink RX12 151 "MoodAnchorModel" "at" "I",
  .fieldLink RX12 154 "MoodAnchorModel" "size" "I",
  .fieldLink RX12 161 "MoodAnchorModel" "place" "I",
  .fieldLink RX12 174 "MoodAnchorModel" "value" "I",
  .fieldLink RX12 164 "MoodAnchorModel" "sort" "I",
  .constant RX12 183 (99999),
  .fieldLink RX12 199 "MoodAnchorModel" "fault" "I",
  .fieldLink RX12 202 "MoodAnchorModel" "faultPlace" "I",
  .fieldLink RX12 261 "MoodAnchorModel" "counted" "I",
  .fieldLink RX12 288 "MoodAnchorModel" "open" "I",
  .fieldLink RX12 228 "MoodAnchorModel" "told" "I",
  .fieldLink RX12 255 "MoodAnchorModel" "lines" "I",
  .fieldLink RX12 294 "MoodAnchorModel" "lastFault" "I",
  .fieldLink RX12 301 "MoodAnchorModel" "notes" "I",
  .fieldLink RX12 304 "MoodAnchorModel" "hasImage" "Z",
  .fieldLink RX12 308 "MoodAnchorModel" "undoMany" "I",
  .fieldLink RX12 314 "MoodAnchorModel" "workedMany" "I",
  .methodLink RX12 321 Lib.MathLoose.abs_long.x,
  .static Lib.MathLoose.abs_long.x,
  .code Lib.MathLoose.abs_long.x Lib.MathLoose.abs_long.code 2 (some .long),
  .constantLong RX12 327 (1000000000000),
  .constantLong RX12 329 (-1000000000000),
  .fieldLink RX12 334 "MoodAnchorModel" "tryWhat" "I",
  .fieldLink RX12 337 "MoodAnchorModel" "joyIs" "I",
  .methodLink RX12 340 Lib.Math.min.name,
  .constantLong RX12 350 (100),
  .constantLong RX12 352 (10),
  .methodLink RX12 354 Lib.MathLoose.min_long.x,
  .methodLink RX12 357 Lib.MathLoose.max_long.x,
  .fieldLink RX12 370 "MoodAnchorModel" "seenJoys" "I",
  .fieldLink RX12 373 "MoodAnchorModel" "seenMany" "I",
  .fieldLink RX12 376 "MoodAnchorModel" "seenLatest" "I",
  .methodLink RX12 385 Lib.Math.max.name,
  .constantLong RX12 395 (9),
  .constant RX12 397 (1103515245),
  .constant RX12 400 (2147483647),
  .constantLong RX12 433 (-9223372036854775808),
  .constantLong RX12 462 (-1),
  .methodLink RX12 490 Lib.Math.abs.name]
def k_NF : List (String × Nat × String × String × String) := [
  ("MoodAnchor", 111, "MoodAnchor$Tape", "size", "I"),
  ("MoodAnchor", 121, "MoodAnchor$Reader", "fault", "I"),
  ("MoodAnchor", 358, "MoodAnchor$Laws", "size", "I"),
  ("MoodAnchor$Foresight", 75, "MoodAnchor$Chart", "deedBay", "[I"),
  ("MoodAnchor", 170, "MoodAnchor$Chart", "deedBay", "[I"),
  ("MoodAnchor$Days", 81, "MoodAnchor$Chart", "deedBay", "[I"),
  ("MoodAnchor$Notes", 87, "MoodAnchor$Chart", "deedBay", "[I"),
  ("MoodAnchor$Foresight", 78, "MoodAnchor$Chart", "deedDate", "[I"),
  ("MoodAnchor$Days", 74, "MoodAnchor$Chart", "deedDate", "[I"),
  ("MoodAnchor", 173, "MoodAnchor$Chart", "deedDate", "[I"),
  ("MoodAnchor$Notes", 76, "MoodAnchor$Chart", "deedDate", "[I"),
  ("MoodAnchor$Foresight", 81, "MoodAnchor$Chart", "deedJoy", "[I"),
  ("MoodAnchor", 176, "MoodAnchor$Chart", "deedJoy", "[I"),
  ("MoodAnchor$Days", 84, "MoodAnchor$Chart", "deedJoy", "[I"),
  ("MoodAnchor$Foresight", 41, "MoodAnchor$Chart", "laws", "LMoodAnchor$Laws;"),
  ("MoodAnchor$Days", 135, "MoodAnchor$Chart", "laws", "LMoodAnchor$Laws;"),
  ("MoodAnchor$Reader", 143, "MoodAnchor$Chart", "laws", "LMoodAnchor$Laws;"),
  ("MoodAnchor", 214, "MoodAnchor$Chart", "laws", "LMoodAnchor$Laws;"),
  ("MoodAnchor$Ways", 65, "MoodAnchor$Chart", "bays", "I"),
  ("MoodAnchor$Reader", 81, "MoodAnchor$Chart", "bays", "I"),
  ("MoodAnchor$Foresight", 92, "MoodAnchor$Chart", "bays", "I"),
  ("MoodAnchor", 274, "MoodAnchor$Chart", "bays", "I"),
  ("MoodAnchor$Reader", 97, "MoodAnchor$Chart", "lanes", "I"),
  ("MoodAnchor", 350, "MoodAnchor$Chart", "lanes", "I"),
  ("MoodAnchor$Foresight", 72, "MoodAnchor$Chart", "deeds", "I"),
  ("MoodAnchor$Reader", 115, "MoodAnchor$Chart", "deeds", "I"),
  ("MoodAnchor$Days", 69, "MoodAnchor$Chart", "deeds", "I"),
  ("MoodAnchor", 352, "MoodAnchor$Chart", "deeds", "I"),
  ("MoodAnchor$Reader", 121, "MoodAnchor$Chart", "winds", "I"),
  ("MoodAnchor", 355, "MoodAnchor$Chart", "winds", "I"),
  ("MoodAnchor$Reader", 130, "MoodAnchor$Chart", "ship", "I"),
  ("MoodAnchor$Ways", 84, "MoodAnchor$Chart", "reach", "I"),
  ("MoodAnchor$Reader", 133, "MoodAnchor$Chart", "reach", "I"),
  ("MoodAnchor$Days", 122, "MoodAnchor$Chart", "trust", "I"),
  ("MoodAnchor$Reader", 136, "MoodAnchor$Chart", "trust", "I"),
  ("MoodAnchor", 292, "MoodAnchor$Chart", "trust", "I"),
  ("MoodAnchor$Log", 44, "MoodAnchor$Chart", "seed", "I"),
  ("MoodAnchor$Reader", 140, "MoodAnchor$Chart", "seed", "I"),
  ("MoodAnchor$Scene", 24, "MoodAnchor$Log", "joys", "[I"),
  ("MoodAnchor", 145, "MoodAnchor$Log", "joys", "[I"),
  ("MoodAnchor$Doings", 39, "MoodAnchor$Log", "joys", "[I"),
  ("MoodAnchor$Scene", 29, "MoodAnchor$Log", "many", "[I"),
  ("MoodAnchor", 152, "MoodAnchor$Log", "many", "[I"),
  ("MoodAnchor$Doings", 51, "MoodAnchor$Log", "many", "[I"),
  ("MoodAnchor$Scene", 31, "MoodAnchor$Log", "latest", "[I"),
  ("MoodAnchor$Doings", 42, "MoodAnchor$Log", "latest", "[I"),
  ("MoodAnchor$Ways", 45, "MoodAnchor$Log", "date", "I"),
  ("MoodAnchor$Foresight", 61, "MoodAnchor$Log", "date", "I"),
  ("MoodAnchor$Days", 78, "MoodAnchor$Log", "date", "I"),
  ("MoodAnchor", 204, "MoodAnchor$Log", "date", "I"),
  ("MoodAnchor$Ways", 74, "MoodAnchor$Log", "lies", "I"),
  ("MoodAnchor", 155, "MoodAnchor$Log", "lies", "I"),
  ("MoodAnchor$Days", 112, "MoodAnchor$Log", "lies", "I"),
  ("MoodAnchor$Ways", 36, "MoodAnchor$Log", "heads", "I"),
  ("MoodAnchor$Days", 91, "MoodAnchor$Log", "heads", "I"),
  ("MoodAnchor", 228, "MoodAnchor$Log", "heads", "I"),
  ("MoodAnchor$Ways", 42, "MoodAnchor$Log", "arrives", "I"),
  ("MoodAnchor$Days", 94, "MoodAnchor$Log", "arrives", "I"),
  ("MoodAnchor", 238, "MoodAnchor$Log", "arrives", "I"),
  ("MoodAnchor$Days", 60, "MoodAnchor$Log", "copyDown", "Z"),
  ("MoodAnchor$Doings", 47, "MoodAnchor$Log", "copyDown", "Z"),
  ("MoodAnchor", 247, "MoodAnchor$Log", "copyDown", "Z"),
  ("MoodAnchor$Days", 56, "MoodAnchor$Log", "drawn", "J"),
  ("MoodAnchor", 337, "MoodAnchor$Log", "drawn", "J"),
  ("MoodAnchor$Days", 125, "MoodAnchor$Log", "held", "I"),
  ("MoodAnchor", 366, "MoodAnchor$Log", "held", "I"),
  ("MoodAnchor$Days", 63, "MoodAnchor$Log", "adrift", "I"),
  ("MoodAnchor", 369, "MoodAnchor$Log", "adrift", "I"),
  ("MoodAnchor$Days", 109, "MoodAnchor$Log", "atSea", "I"),
  ("MoodAnchor", 372, "MoodAnchor$Log", "atSea", "I"),
  ("MoodAnchor", 362, "MoodAnchor$Doings", "size", "I"),
  ("MoodAnchor$Laws", 43, "MoodAnchor$Scene", "joys", "I"),
  ("MoodAnchor$Laws", 46, "MoodAnchor$Scene", "last", "I"),
  ("MoodAnchor$Laws", 60, "MoodAnchor$Scene", "gale", "I"),
  ("MoodAnchor$Foresight", 53, "MoodAnchor$Scene", "mood", "I"),
  ("MoodAnchor$Laws", 32, "MoodAnchor$Scene", "mood", "I"),
  ("MoodAnchor", 211, "MoodAnchor$Scene", "mood", "I"),
  ("MoodAnchor", 194, "MoodAnchor$Foresight", "scene", "LMoodAnchor$Scene;"),
  ("MoodAnchor", 287, "MoodAnchor$Foresight", "nights", "[I"),
  ("MoodAnchor", 307, "MoodAnchor$Foresight", "rests", "[I"),
  ("MoodAnchor", 334, "MoodAnchor$Days", "trial", "LMoodAnchor$Log;"),
  ("MoodAnchor", 268, "MoodAnchor$Ways", "dates", "[I"),
  ("MoodAnchor", 271, "MoodAnchor$Ways", "lanes", "[I"),
  ("MoodAnchor", 310, "MoodAnchor$Notes", "size", "I"),
  ("MoodAnchor", 318, "MoodAnchor$Notes", "by", "I")]
def k_TN : List Cond := k_NF.map (fun q => Cond.fieldLinkNest q.1 q.2.1 q.2.2.1 q.2.2.2.1 q.2.2.2.2 "MoodAnchor")
def k_NM : List (String × Nat × MethodName) := [(RX0, 32, yX4_init), (RX0, 40, yX4_clear), (RX1, 20, yX8_init), (RX3, 11, yX8_init), (RX7, 23, yX0_clear)]
def k_TM : List Cond := k_NM.map (fun q => Cond.methodLinkNest q.1 q.2.1 q.2.2 "MoodAnchor")
def k_TT : List Cond := (k_TL ++ k_TG) ++ (k_TN ++ k_TM)
set_option maxRecDepth 20000 in
theorem k_good : (k_TL ++ k_TG).all goodWord = true := by decide +kernel
set_option maxRecDepth 20000 in
theorem k_ont : k_TT.all Cond.onTables = true := by decide +kernel
theorem k_move {w : Cond} (hw : w ∈ k_TT) {s U : State} (hW : s.WarmedH U.vm) (h : va_Nw w s) : va_Nw w U := by
  rcases List.mem_append.mp hw with h1 | h1
  · exact word_at hW (good_of_word (List.all_eq_true.mp k_good w h1)) h
  · rcases List.mem_append.mp h1 with h1 | h1
    · obtain ⟨q, -, rfl⟩ := List.mem_map.mp h1
      exact va_Nw.warmF hW h
    · obtain ⟨q, -, rfl⟩ := List.mem_map.mp h1
      exact va_Nw.warmM hW h
theorem k_tabs {w : Cond} (hw : w ∈ k_TT) : w.onTables = true := List.all_eq_true.mp k_ont w hw
def k_K (G : va_G) (Y : CY) (U : State) : Prop := va_K G vwCl (k_tys Y) U ∧ ∀ w ∈ k_TT, va_Nw w U
theorem k_K.moved {G : va_G} {Y : CY} {s U : State} (hW : s.WarmedH U.vm) (h : k_K G Y s) : k_K G Y U := ⟨va_K.moved hW.alike h.1, fun w hw => k_move hw hW (h.2 w hw)⟩
theorem k_K.same {G : va_G} {Y : CY} {s U : State} (hv : s.vm = U.vm) (h : k_K G Y s) : k_K G Y U := ⟨va_K.moved (by rw [hv]; exact Vm.Alike.refl U.vm) h.1, fun w hw => va_Nw.same (k_tabs hw) hv (h.2 w hw)⟩
theorem k_K.ts {G : va_G} {Y : CY} {s : State} {args : Array Value} (h : k_K G Y s) : ∀ w ∈ k_TT, w.before args s = true := fun w hw => va_Nw.use (k_tabs hw) (h.2 w hw)
/-- the literal of the words, as bytes, and what is known of it in every heap: its cell Y.2.2.2.2.1, its row Y.2.2.2.2.2; neither is ours -/
def k_byt : List Int32 := [98, 97, 121, 32, 108, 97, 110, 101, 32, 100, 101, 101, 100, 32, 119, 105, 110, 100, 32, 115, 104, 105, 112, 32, 114, 101, 97, 99, 104, 32, 116, 114, 117, 115, 116, 32, 115, 101, 101, 100, 32, 108, 97, 119, 32, 102, 111, 110, 100, 32, 104, 111, 108, 100, 32, 103, 97, 105, 110, 32, 111, 114, 32, 97, 110, 100, 32, 110, 111, 116, 32, 106, 111, 121, 115, 32, 108, 97, 115, 116, 32, 109, 97, 110, 121, 32, 103, 97, 108, 101, 32, 100, 97, 116, 101, 32, 109, 111, 111, 100, 32, 104, 101, 114, 101, 32]
def k_txt : String := "bay lane deed wind ship reach trust seed law fond hold gain or and not joys last many gale date mood here "
def k_E (Y : CY) (A : Nat → Prop) (U : State) (H : Heap) : Prop := vk_S 1 [106] [k_byt] (fun _ => Y.2.2.2.2.1) (fun _ => Y.2.2.2.2.2) A U H ∧ vk_R "MoodAnchorModel" 188 k_txt Y.2.2.2.2.1 U ∧ vk_R "MoodAnchor$Tape" 28 k_txt Y.2.2.2.2.1 U ∧ va_Z "java/lang/String" "COMPACT_STRINGS" "Z" (.int 1) A U H ∧ va_Zq "jdk/internal/util/Preconditions" "SIOOBE_FORMATTER" "Ljava/util/function/BiFunction;" A U H
theorem k_E.warm {Y : CY} {A : Nat → Prop} {s U : State} {H : Heap} (hW : s.WarmedH U.vm) (h : k_E Y A s H) : k_E Y A U H := ⟨h.1.moved hW.alike, h.2.1.warm hW, h.2.2.1.warm hW, h.2.2.2.1.moved hW.alike, h.2.2.2.2.moved hW.alike⟩
theorem k_E.same {Y : CY} {A : Nat → Prop} {s U : State} {H : Heap} (hv : s.vm = U.vm) (h : k_E Y A s H) : k_E Y A U H := by
  have hv2 : s.vm.Alike U.vm := by rw [hv]; exact Vm.Alike.refl U.vm
  exact ⟨h.1.moved hv2, h.2.1.same hv.symm, h.2.2.1.same hv.symm, h.2.2.2.1.moved hv2, h.2.2.2.2.moved hv2⟩
theorem k_E.to {Y : CY} {A B : Nat → Prop} {s : State} {H H1 : Heap} (hq : ∀ a : Nat, a < H.size → ¬ A a → H1[a]? = H[a]?) (hAB : ∀ q, B q → A q) (h : k_E Y A s H) : k_E Y B s H1 := ⟨(h.1.kept hq).narrow hAB, h.2.1, h.2.2.1, (h.2.2.2.1.kept hq).narrow hAB, (h.2.2.2.2.kept hq).narrow hAB⟩
def k_W (G : va_G) (w : MSt → va_W) (A : Nat → Prop) (H0 : Heap) (σ : MSt) (H : Heap) (locs : List Loc) : Prop := va_P G vwCl (w σ) H ∧ va_D A (w σ) ∧ va_S A H0 H locs
def k_C (p : Program) (s : State) (m : MethodId) (args : Array Value) (meth : Method) (c : Code) (cc : ByteArray) (own : String) (ret : Option FieldType) (Ts : List Cond) (nL : Nat) (G : va_G) (Y : CY) (A : Nat → Prop) : Prop :=
  p.tables.exec = Jvm.exec ∧ c.code = cc ∧ meth.sig.returnType = ret ∧ c.maxLocals = nL ∧ s.vm.findClass own = some m.cls ∧ (∀ w ∈ Ts, w.before args s = true) ∧ k_K G Y s ∧ meth.locks = false ∧ (∀ q, s.heap.size ≤ q → A q) ∧ k_E Y A s s.heap
def k_P (G : va_G) (Y : CY) (w : MSt → va_W) (σ : MSt) (sz : Nat) (av : List Value) : Array Value → State → Prop := va_Pc av (fun U => U.heap.size = sz ∧ va_P G vwCl (w σ) U.heap ∧ k_K G Y U ∧ va_D (fun _ => True) (w σ) ∧ k_E Y (va_A (w σ) sz) U U.heap)
theorem k_P.blind {G : va_G} {Y : CY} {w : MSt → va_W} {σ : MSt} {sz : Nat} {av : List Value} : FrameBlind (k_P G Y w σ sz av) := by
  intro a U g mk h
  obtain ⟨h1, h2, h3, h4, h5, h6⟩ := h
  exact ⟨h1, h2, h3, k_K.same (s := U) (U := U.calling g mk a) rfl h4, h5, k_E.same (s := U) (U := U.calling g mk a) rfl h6⟩
def k_B (G : va_G) (w : MSt → va_W) (A : Nat → Prop) (u : MSt) (t : State) : Prop := va_P G vwCl (w u) t.heap ∧ va_D A (w u)
abbrev k_Qi (G : va_G) (w : MSt → va_W) (A : Nat → Prop) (r : Int32) (σ' : MSt) := va_Qi (fun (r' : Int32) (u : MSt) => r' = r ∧ u = σ') (k_B G w A) A
abbrev k_Ql (G : va_G) (w : MSt → va_W) (A : Nat → Prop) (r : Int64) (σ' : MSt) := va_Ql (fun (r' : Int64) (u : MSt) => r' = r ∧ u = σ') (k_B G w A) A
abbrev k_Qv (G : va_G) (w : MSt → va_W) (A : Nat → Prop) (σ' : MSt) := va_Qv (fun (u : MSt) => u = σ') (k_B G w A) A
def k_Mi (l : Launch) (y : MethodName) (ws : List Cond) (rm : Room) (G : va_G) (Y : CY) (w : MSt → va_W) (av : List Value) (σ : MSt) (r : Int32) (σ' : MSt) : Prop := ∀ sz, Met l y ws rm (k_P G Y w σ sz av) (k_Qi G w (va_A (w σ) sz) r σ') 0 0 (va_A (w σ) sz)
def k_Ml (l : Launch) (y : MethodName) (ws : List Cond) (rm : Room) (G : va_G) (Y : CY) (w : MSt → va_W) (av : List Value) (σ : MSt) (r : Int64) (σ' : MSt) : Prop := ∀ sz, Met l y ws rm (k_P G Y w σ sz av) (k_Ql G w (va_A (w σ) sz) r σ') 0 0 (va_A (w σ) sz)
def k_Mv (l : Launch) (y : MethodName) (ws : List Cond) (rm : Room) (G : va_G) (Y : CY) (w : MSt → va_W) (av : List Value) (σ σ' : MSt) : Prop := ∀ sz, Met l y ws rm (k_P G Y w σ sz av) (k_Qv G w (va_A (w σ) sz) σ') 0 0 (va_A (w σ) sz)
-- where things lie
def HO (ad : Nat → Nat) (w : MSt → va_W) (o ci : Nat) (F : MSt → List Value) : Prop := ∃ k : Nat, (∀ σ, (w σ)[k]? = some (ad o, .inr (ci, F σ))) ∧ (∀ σ j v, (F σ)[j]? = some (.int (σ.1 o j)) → (w σ).set k (ad o, .inr (ci, (F σ).set j (.int v))) = w (mI σ o j v)) ∧ (∀ σ j v, (F σ)[j]? = some (.long (σ.2 o j)) → (w σ).set k (ad o, .inr (ci, (F σ).set j (.long v))) = w (mJ σ o j v)) ∧ (∀ σ j t, o = 7 ∧ j = 1 → (F σ)[j]? = some (k_rf ad (σ.1 o j)) → t = 10 ∨ t = 30 → (w σ).set k (ad o, .inr (ci, (F σ).set j (.ref (ad t)))) = w (mI σ o j (Int32.ofNat t)))
def HA (ad : Nat → Nat) (w : MSt → va_W) (a : Nat) (cA : ClassId) (n : Nat) : Prop := ∃ k : Nat, (∀ σ, (w σ)[k]? = some (ad a, .inl (cA, n, .inl (σ.1 a)))) ∧ ∀ σ i v, (w σ).set k (ad a, .inl (cA, n, .inl (upd (σ.1 a) i v))) = w (mI σ a i v)
def HL (ad : Nat → Nat) (w : MSt → va_W) (a : Nat) (cA : ClassId) (n : Nat) : Prop := ∃ k : Nat, (∀ σ, (w σ)[k]? = some (ad a, .inl (cA, n, .inr (.inl (σ.2 a))))) ∧ ∀ σ i v, (w σ).set k (ad a, .inl (cA, n, .inr (.inl (vp_updL (σ.2 a) i v)))) = w (mJ σ a i v)
section KROWS
variable {p : Program} {l : Launch} {e : Env} {R : Room} {s : State} {m : MethodId} {args : Array Value} {below : List Frame} {meth : Method} {c : Code} {H : Heap} {locs : List Loc} {cells slots : Nat} {Q : State → Prop}
variable {cc : ByteArray} {own : String} {ret : Option FieldType} {Ts : List Cond} {nL : Nat} {G : va_G} {Y : CY} {A : Nat → Prop} {w : MSt → va_W} {ad : Nat → Nat} {σ : MSt} {pc : Nat} {ls : Array Slot} {rest : List Value}
theorem k_recv (C : k_C p s m args meth c cc own ret Ts nL G Y A) (hw : k_W G w A s.heap σ H locs) {o ci N : Nat} {F : MSt → List Value} (L : HO ad w o ci F) {Cn : String} {T : u_T} (hc : vwCl[ci]? = some (Cn, T, N)) : ∃ cell : Cell, H[ad o]? = some cell ∧ cell.vm.isStatics = false ∧ s.vm.findClass Cn = some cell.cls := by
  obtain ⟨k, h1, -⟩ := L
  exact va_recv C.2.2.2.2.2.2.1.1 hw.1 hc (h1 σ)
theorem k_get (C : k_C p s m args meth c cc own ret Ts nL G Y A) (hw : k_W G w A s.heap σ H locs) {o ci N index : Nat} {F : MSt → List Value} (L : HO ad w o ci F) {Cn : String} {T : u_T} (hc : vwCl[ci]? = some (Cn, T, N)) (hin : ∀ x ∈ u_ws Cn T N, x ∈ k_TT) (j : Nat) (hj : j < N) (hlk : Cond.fieldLink own index (T j).1 (T j).2.1 (T j).2.2.1 ∈ k_TT) {v : Value} (hv : (F σ)[j]? = some v) (hd : decode cc pc = .ok (.getfield index, 3))
    (kk : W p l e R s m args below meth c H locs cells slots Q (F0 m (pc + 3) ls (v :: rest))) : W p l e R s m args below meth c H locs cells slots Q (F0 m pc ls (.ref (ad o) :: rest)) := by
  obtain ⟨k, h1, -⟩ := L
  exact va_get C.1 C.2.1 C.2.2.2.2.2.2.1.ts hin C.2.2.2.2.1 C.2.2.2.2.2.2.1.1 hw.1 k (h1 σ) hc j hj (C.2.2.2.2.2.2.1.ts _ hlk) (fun _ h => h) hv hd kk
theorem k_getN (C : k_C p s m args meth c cc own ret Ts nL G Y A) (hw : k_W G w A s.heap σ H locs) {o ci N index : Nat} {F : MSt → List Value} (L : HO ad w o ci F) {Cn : String} {T : u_T} (hc : vwCl[ci]? = some (Cn, T, N)) (hin : ∀ x ∈ u_ws Cn T N, x ∈ k_TT) (j : Nat) (hj : j < N) (hlk : Cond.fieldLinkNest own index (T j).1 (T j).2.1 (T j).2.2.1 "MoodAnchor" ∈ k_TT) {v : Value} (hv : (F σ)[j]? = some v) (hd : decode cc pc = .ok (.getfield index, 3))
    (kk : W p l e R s m args below meth c H locs cells slots Q (F0 m (pc + 3) ls (v :: rest))) : W p l e R s m args below meth c H locs cells slots Q (F0 m pc ls (.ref (ad o) :: rest)) := by
  obtain ⟨k, h1, -⟩ := L
  exact va_getN C.1 C.2.1 C.2.2.2.2.2.2.1.ts hin C.2.2.2.2.1 C.2.2.2.2.2.2.1.1 hw.1 k (h1 σ) hc j hj (C.2.2.2.2.2.2.1.ts _ hlk) (fun _ h => h) hv hd kk
theorem k_put (C : k_C p s m args meth c cc own ret Ts nL G Y A) (hw : k_W G w A s.heap σ H locs) {o ci N index : Nat} {F : MSt → List Value} (L : HO ad w o ci F) {Cn : String} {T : u_T} (hc : vwCl[ci]? = some (Cn, T, N)) (hin : ∀ x ∈ u_ws Cn T N, x ∈ k_TT) (ty0 : Nat → FieldType) (hty : ∀ k, k < N → parseFieldDescriptor (T k).2.2.1 = some (ty0 k)) (hnm : ∀ a, a < N → ∀ b, b < N → a ≠ b → (T a).2.1 ≠ (T b).2.1) (j : Nat) (hj : j < N) (hlk : Cond.fieldLink own index (T j).1 (T j).2.1 (T j).2.2.1 ∈ k_TT) (hfin : (T j).2.2.2 = false) {v : Int32} (hn : narrow (ty0 j) (.int v) = .int v ∧ fits (ty0 j) (.int v) = true) (hv : (F σ)[j]? = some (.int (σ.1 o j))) (hd : decode cc pc = .ok (.putfield index, 3))
    (kk : ∀ (σ1 : MSt), σ1 = mI σ o j v → ∀ (H1 : Heap) (locs1 : List Loc), k_W G w A s.heap σ1 H1 locs1 → W p l e R s m args below meth c H1 locs1 cells slots Q (F0 m (pc + 3) ls rest)) : W p l e R s m args below meth c H locs cells slots Q (F0 m pc ls (.int v :: .ref (ad o) :: rest)) := by
  obtain ⟨k, h1, h2, -⟩ := L
  refine va_put C.1 C.2.1 C.2.2.2.2.2.2.1.ts hin ty0 hty hnm C.2.2.2.2.1 C.2.2.2.2.2.2.1.1 hw.1 hw.2.1 hw.2.2 k (h1 σ) hc j hj (C.2.2.2.2.2.2.1.ts _ hlk) (fun _ h => h) hfin (hty j hj) hn.1 hn.2 (List.getElem?_eq_some_iff.mp hv).1 hd (fun H1 locs1 q1 q2 q3 => ?_)
  rw [h2 σ j v hv] at q1 q2
  exact kk _ rfl H1 locs1 ⟨q1, q2, q3⟩
theorem k_putN (C : k_C p s m args meth c cc own ret Ts nL G Y A) (hw : k_W G w A s.heap σ H locs) {o ci N index : Nat} {F : MSt → List Value} (L : HO ad w o ci F) {Cn : String} {T : u_T} (hc : vwCl[ci]? = some (Cn, T, N)) (hin : ∀ x ∈ u_ws Cn T N, x ∈ k_TT) (ty0 : Nat → FieldType) (hty : ∀ k, k < N → parseFieldDescriptor (T k).2.2.1 = some (ty0 k)) (hnm : ∀ a, a < N → ∀ b, b < N → a ≠ b → (T a).2.1 ≠ (T b).2.1) (j : Nat) (hj : j < N) (hlk : Cond.fieldLinkNest own index (T j).1 (T j).2.1 (T j).2.2.1 "MoodAnchor" ∈ k_TT) (hfin : (T j).2.2.2 = false) {v : Int32} (hn : narrow (ty0 j) (.int v) = .int v ∧ fits (ty0 j) (.int v) = true) (hv : (F σ)[j]? = some (.int (σ.1 o j))) (hd : decode cc pc = .ok (.putfield index, 3))
    (kk : ∀ (σ1 : MSt), σ1 = mI σ o j v → ∀ (H1 : Heap) (locs1 : List Loc), k_W G w A s.heap σ1 H1 locs1 → W p l e R s m args below meth c H1 locs1 cells slots Q (F0 m (pc + 3) ls rest)) : W p l e R s m args below meth c H locs cells slots Q (F0 m pc ls (.int v :: .ref (ad o) :: rest)) := by
  obtain ⟨k, h1, h2, -⟩ := L
  refine va_putN C.1 C.2.1 C.2.2.2.2.2.2.1.ts hin ty0 hty hnm C.2.2.2.2.1 C.2.2.2.2.2.2.1.1 hw.1 hw.2.1 hw.2.2 k (h1 σ) hc j hj (C.2.2.2.2.2.2.1.ts _ hlk) (fun _ h => h) hfin (hty j hj) hn.1 hn.2 (List.getElem?_eq_some_iff.mp hv).1 hd (fun H1 locs1 q1 q2 q3 => ?_)
  rw [h2 σ j v hv] at q1 q2
  exact kk _ rfl H1 locs1 ⟨q1, q2, q3⟩
theorem k_putJ (C : k_C p s m args meth c cc own ret Ts nL G Y A) (hw : k_W G w A s.heap σ H locs) {o ci N index : Nat} {F : MSt → List Value} (L : HO ad w o ci F) {Cn : String} {T : u_T} (hc : vwCl[ci]? = some (Cn, T, N)) (hin : ∀ x ∈ u_ws Cn T N, x ∈ k_TT) (ty0 : Nat → FieldType) (hty : ∀ k, k < N → parseFieldDescriptor (T k).2.2.1 = some (ty0 k)) (hnm : ∀ a, a < N → ∀ b, b < N → a ≠ b → (T a).2.1 ≠ (T b).2.1) (j : Nat) (hj : j < N) (hlk : Cond.fieldLink own index (T j).1 (T j).2.1 (T j).2.2.1 ∈ k_TT) (hfin : (T j).2.2.2 = false) {v : Int64} (hn : narrow (ty0 j) (.long v) = .long v ∧ fits (ty0 j) (.long v) = true) (hv : (F σ)[j]? = some (.long (σ.2 o j))) (hd : decode cc pc = .ok (.putfield index, 3))
    (kk : ∀ (σ1 : MSt), σ1 = mJ σ o j v → ∀ (H1 : Heap) (locs1 : List Loc), k_W G w A s.heap σ1 H1 locs1 → W p l e R s m args below meth c H1 locs1 cells slots Q (F0 m (pc + 3) ls rest)) : W p l e R s m args below meth c H locs cells slots Q (F0 m pc ls (.long v :: .ref (ad o) :: rest)) := by
  obtain ⟨k, h1, -, h2, -⟩ := L
  refine va_put C.1 C.2.1 C.2.2.2.2.2.2.1.ts hin ty0 hty hnm C.2.2.2.2.1 C.2.2.2.2.2.2.1.1 hw.1 hw.2.1 hw.2.2 k (h1 σ) hc j hj (C.2.2.2.2.2.2.1.ts _ hlk) (fun _ h => h) hfin (hty j hj) hn.1 hn.2 (List.getElem?_eq_some_iff.mp hv).1 hd (fun H1 locs1 q1 q2 q3 => ?_)
  rw [h2 σ j v hv] at q1 q2
  exact kk _ rfl H1 locs1 ⟨q1, q2, q3⟩
theorem k_putJN (C : k_C p s m args meth c cc own ret Ts nL G Y A) (hw : k_W G w A s.heap σ H locs) {o ci N index : Nat} {F : MSt → List Value} (L : HO ad w o ci F) {Cn : String} {T : u_T} (hc : vwCl[ci]? = some (Cn, T, N)) (hin : ∀ x ∈ u_ws Cn T N, x ∈ k_TT) (ty0 : Nat → FieldType) (hty : ∀ k, k < N → parseFieldDescriptor (T k).2.2.1 = some (ty0 k)) (hnm : ∀ a, a < N → ∀ b, b < N → a ≠ b → (T a).2.1 ≠ (T b).2.1) (j : Nat) (hj : j < N) (hlk : Cond.fieldLinkNest own index (T j).1 (T j).2.1 (T j).2.2.1 "MoodAnchor" ∈ k_TT) (hfin : (T j).2.2.2 = false) {v : Int64} (hn : narrow (ty0 j) (.long v) = .long v ∧ fits (ty0 j) (.long v) = true) (hv : (F σ)[j]? = some (.long (σ.2 o j))) (hd : decode cc pc = .ok (.putfield index, 3))
    (kk : ∀ (σ1 : MSt), σ1 = mJ σ o j v → ∀ (H1 : Heap) (locs1 : List Loc), k_W G w A s.heap σ1 H1 locs1 → W p l e R s m args below meth c H1 locs1 cells slots Q (F0 m (pc + 3) ls rest)) : W p l e R s m args below meth c H locs cells slots Q (F0 m pc ls (.long v :: .ref (ad o) :: rest)) := by
  obtain ⟨k, h1, -, h2, -⟩ := L
  refine va_putN C.1 C.2.1 C.2.2.2.2.2.2.1.ts hin ty0 hty hnm C.2.2.2.2.1 C.2.2.2.2.2.2.1.1 hw.1 hw.2.1 hw.2.2 k (h1 σ) hc j hj (C.2.2.2.2.2.2.1.ts _ hlk) (fun _ h => h) hfin (hty j hj) hn.1 hn.2 (List.getElem?_eq_some_iff.mp hv).1 hd (fun H1 locs1 q1 q2 q3 => ?_)
  rw [h2 σ j v hv] at q1 q2
  exact kk _ rfl H1 locs1 ⟨q1, q2, q3⟩
theorem k_putR (C : k_C p s m args meth c cc own ret Ts nL G Y A) (hw : k_W G w A s.heap σ H locs) {o ci N index : Nat} {F : MSt → List Value} (L : HO ad w o ci F) {Cn : String} {T : u_T} (hc : vwCl[ci]? = some (Cn, T, N)) (hin : ∀ x ∈ u_ws Cn T N, x ∈ k_TT) (ty0 : Nat → FieldType) (hty : ∀ k, k < N → parseFieldDescriptor (T k).2.2.1 = some (ty0 k)) (hnm : ∀ a, a < N → ∀ b, b < N → a ≠ b → (T a).2.1 ≠ (T b).2.1) (j : Nat) (hj : j < N) (hlk : Cond.fieldLink own index (T j).1 (T j).2.1 (T j).2.2.1 ∈ k_TT) (hfin : (T j).2.2.2 = false) {t : Nat} (ht : t = 10 ∨ t = 30) (h71 : o = 7 ∧ j = 1) (hn : narrow (ty0 j) (.ref (ad t)) = .ref (ad t) ∧ fits (ty0 j) (.ref (ad t)) = true) (hv : (F σ)[j]? = some (k_rf ad (σ.1 o j))) (hd : decode cc pc = .ok (.putfield index, 3))
    (kk : ∀ (σ1 : MSt), σ1 = mI σ o j (Int32.ofNat t) → ∀ (H1 : Heap) (locs1 : List Loc), k_W G w A s.heap σ1 H1 locs1 → W p l e R s m args below meth c H1 locs1 cells slots Q (F0 m (pc + 3) ls rest)) : W p l e R s m args below meth c H locs cells slots Q (F0 m pc ls (.ref (ad t) :: .ref (ad o) :: rest)) := by
  obtain ⟨k, h1, -, -, h2⟩ := L
  refine va_put C.1 C.2.1 C.2.2.2.2.2.2.1.ts hin ty0 hty hnm C.2.2.2.2.1 C.2.2.2.2.2.2.1.1 hw.1 hw.2.1 hw.2.2 k (h1 σ) hc j hj (C.2.2.2.2.2.2.1.ts _ hlk) (fun _ h => h) hfin (hty j hj) hn.1 hn.2 (List.getElem?_eq_some_iff.mp hv).1 hd (fun H1 locs1 q1 q2 q3 => ?_)
  rw [h2 σ j t h71 hv ht] at q1 q2
  exact kk _ rfl H1 locs1 ⟨q1, q2, q3⟩
theorem k_iald (C : k_C p s m args meth c cc own ret Ts nL G Y A) (hw : k_W G w A s.heap σ H locs) {a n : Nat} (L : HA ad w a Y.2.1 n) {i : Int32} (hi : k_inb i n = true) (hd : decode cc pc = .ok (.iaload, 1))
    (kk : W p l e R s m args below meth c H locs cells slots Q (F0 m (pc + 1) ls (.int (σ.1 a i.toNatClampNeg) :: rest))) : W p l e R s m args below meth c H locs cells slots Q (F0 m pc ls (.int i :: .ref (ad a) :: rest)) := by
  obtain ⟨k, h1, -⟩ := L
  exact va_iald C.1 C.2.1 C.2.2.2.2.2.2.1.1 hw.1 k 1 (h1 σ) rfl (k_inE hi) hd kk
theorem k_bald (C : k_C p s m args meth c cc own ret Ts nL G Y A) (hw : k_W G w A s.heap σ H locs) {a n : Nat} (L : HA ad w a Y.1 n) {i : Int32} (hi : k_inb i n = true) (hd : decode cc pc = .ok (.baload, 1))
    (kk : W p l e R s m args below meth c H locs cells slots Q (F0 m (pc + 1) ls (.int (σ.1 a i.toNatClampNeg) :: rest))) : W p l e R s m args below meth c H locs cells slots Q (F0 m pc ls (.int i :: .ref (ad a) :: rest)) := by
  obtain ⟨k, h1, -⟩ := L
  exact va_bald C.1 C.2.1 C.2.2.2.2.2.2.1.1 hw.1 k 0 (h1 σ) rfl (k_inE hi) hd kk
theorem k_zald (C : k_C p s m args meth c cc own ret Ts nL G Y A) (hw : k_W G w A s.heap σ H locs) {a n : Nat} (L : HA ad w a Y.2.2.2.1 n) {i : Int32} (hi : k_inb i n = true) (hd : decode cc pc = .ok (.baload, 1))
    (kk : W p l e R s m args below meth c H locs cells slots Q (F0 m (pc + 1) ls (.int (σ.1 a i.toNatClampNeg) :: rest))) : W p l e R s m args below meth c H locs cells slots Q (F0 m pc ls (.int i :: .ref (ad a) :: rest)) := by
  obtain ⟨k, h1, -⟩ := L
  exact va_zald C.1 C.2.1 C.2.2.2.2.2.2.1.1 hw.1 k 3 (h1 σ) rfl (k_inE hi) hd kk
theorem k_lald (C : k_C p s m args meth c cc own ret Ts nL G Y A) (hw : k_W G w A s.heap σ H locs) {a n : Nat} (L : HL ad w a Y.2.2.1 n) {i : Int32} (hi : k_inb i n = true) (hd : decode cc pc = .ok (.laload, 1))
    (kk : W p l e R s m args below meth c H locs cells slots Q (F0 m (pc + 1) ls (.long (σ.2 a i.toNatClampNeg) :: rest))) : W p l e R s m args below meth c H locs cells slots Q (F0 m pc ls (.int i :: .ref (ad a) :: rest)) := by
  obtain ⟨k, h1, -⟩ := L
  exact va_lald C.1 C.2.1 C.2.2.2.2.2.2.1.1 hw.1 k 2 (h1 σ) rfl (k_inE hi) hd kk
theorem k_iast (C : k_C p s m args meth c cc own ret Ts nL G Y A) (hw : k_W G w A s.heap σ H locs) {a n : Nat} (L : HA ad w a Y.2.1 n) {i x : Int32} (hi : k_inb i n = true) (hd : decode cc pc = .ok (.iastore, 1))
    (kk : ∀ (σ1 : MSt), σ1 = mI σ a i.toNatClampNeg x → ∀ (H1 : Heap) (locs1 : List Loc), k_W G w A s.heap σ1 H1 locs1 → W p l e R s m args below meth c H1 locs1 cells slots Q (F0 m (pc + 1) ls rest)) : W p l e R s m args below meth c H locs cells slots Q (F0 m pc ls (.int x :: .int i :: .ref (ad a) :: rest)) := by
  obtain ⟨k, h1, h2⟩ := L
  refine va_iast C.1 C.2.1 C.2.2.2.2.2.2.1.1 hw.1 hw.2.1 hw.2.2 k 1 (h1 σ) rfl (k_inE hi) hd (fun H1 locs1 q1 q2 q3 => ?_)
  rw [h2] at q1 q2
  exact kk _ rfl H1 locs1 ⟨q1, q2, q3⟩
theorem k_bast (C : k_C p s m args meth c cc own ret Ts nL G Y A) (hw : k_W G w A s.heap σ H locs) {a n : Nat} (L : HA ad w a Y.1 n) {i x : Int32} (hi : k_inb i n = true) (hd : decode cc pc = .ok (.bastore, 1))
    (kk : ∀ (σ1 : MSt), σ1 = mI σ a i.toNatClampNeg (vp_nar .byte x) → ∀ (H1 : Heap) (locs1 : List Loc), k_W G w A s.heap σ1 H1 locs1 → W p l e R s m args below meth c H1 locs1 cells slots Q (F0 m (pc + 1) ls rest)) : W p l e R s m args below meth c H locs cells slots Q (F0 m pc ls (.int x :: .int i :: .ref (ad a) :: rest)) := by
  obtain ⟨k, h1, h2⟩ := L
  refine va_bast C.1 C.2.1 C.2.2.2.2.2.2.1.1 hw.1 hw.2.1 hw.2.2 k 0 (h1 σ) rfl (k_inE hi) hd (fun H1 locs1 q1 q2 q3 => ?_)
  rw [h2] at q1 q2
  exact kk _ rfl H1 locs1 ⟨q1, q2, q3⟩
theorem k_zast (C : k_C p s m args meth c cc own ret Ts nL G Y A) (hw : k_W G w A s.heap σ H locs) {a n : Nat} (L : HA ad w a Y.2.2.2.1 n) {i x : Int32} (hi : k_inb i n = true) (hd : decode cc pc = .ok (.bastore, 1))
    (kk : ∀ (σ1 : MSt), σ1 = mI σ a i.toNatClampNeg (vp_nar .boolean x) → ∀ (H1 : Heap) (locs1 : List Loc), k_W G w A s.heap σ1 H1 locs1 → W p l e R s m args below meth c H1 locs1 cells slots Q (F0 m (pc + 1) ls rest)) : W p l e R s m args below meth c H locs cells slots Q (F0 m pc ls (.int x :: .int i :: .ref (ad a) :: rest)) := by
  obtain ⟨k, h1, h2⟩ := L
  refine va_zast C.1 C.2.1 C.2.2.2.2.2.2.1.1 hw.1 hw.2.1 hw.2.2 k 3 (h1 σ) rfl (k_inE hi) hd (fun H1 locs1 q1 q2 q3 => ?_)
  rw [h2] at q1 q2
  exact kk _ rfl H1 locs1 ⟨q1, q2, q3⟩
theorem k_last (C : k_C p s m args meth c cc own ret Ts nL G Y A) (hw : k_W G w A s.heap σ H locs) {a n : Nat} (L : HL ad w a Y.2.2.1 n) {i : Int32} {x : Int64} (hi : k_inb i n = true) (hd : decode cc pc = .ok (.lastore, 1))
    (kk : ∀ (σ1 : MSt), σ1 = mJ σ a i.toNatClampNeg x → ∀ (H1 : Heap) (locs1 : List Loc), k_W G w A s.heap σ1 H1 locs1 → W p l e R s m args below meth c H1 locs1 cells slots Q (F0 m (pc + 1) ls rest)) : W p l e R s m args below meth c H locs cells slots Q (F0 m pc ls (.long x :: .int i :: .ref (ad a) :: rest)) := by
  obtain ⟨k, h1, h2⟩ := L
  refine va_last C.1 C.2.1 C.2.2.2.2.2.2.1.1 hw.1 hw.2.1 hw.2.2 k 2 (h1 σ) rfl (k_inE hi) hd (fun H1 locs1 q1 q2 q3 => ?_)
  rw [h2] at q1 q2
  exact kk _ rfl H1 locs1 ⟨q1, q2, q3⟩
theorem k_alen (C : k_C p s m args meth c cc own ret Ts nL G Y A) (hw : k_W G w A s.heap σ H locs) {a n : Nat} (L : HA ad w a Y.2.1 n) {v : Int32} (hv : Int32.ofNat n = v) (hd : decode cc pc = .ok (.arraylength, 1))
    (kk : W p l e R s m args below meth c H locs cells slots Q (F0 m (pc + 1) ls (.int v :: rest))) : W p l e R s m args below meth c H locs cells slots Q (F0 m pc ls (.ref (ad a) :: rest)) := by
  obtain ⟨k, h1, -⟩ := L
  exact va_alen C.1 C.2.1 C.2.2.2.2.2.2.1.1 hw.1 k 1 (h1 σ) rfl hv hd kk
theorem k_irem (C : k_C p s m args meth c cc own ret Ts nL G Y A) {x y : Int32} (hd : decode cc pc = .ok (.irem, 1)) (hne : ¬ y = 0) (kk : W p l e R s m args below meth c H locs cells slots Q (F0 m (pc + 1) ls (.int (k_rem x y) :: rest))) : W p l e R s m args below meth c H locs cells slots Q (F0 m pc ls (.int y :: .int x :: rest)) := lv_irem C.1 C.2.1 hd hne kk
theorem k_lremr (C : k_C p s m args meth c cc own ret Ts nL G Y A) {x y : Int64} (hd : decode cc pc = .ok (.lrem, 1)) (hne : ¬ y = 0) (kk : W p l e R s m args below meth c H locs cells slots Q (F0 m (pc + 1) ls (.long (k_lrem x y) :: rest))) : W p l e R s m args below meth c H locs cells slots Q (F0 m pc ls (.long y :: .long x :: rest)) := lv_lrem C.1 C.2.1 hd hne kk
theorem k_mmax (C : k_C p s m args meth c cc own ret Ts nL G Y A) (hs : ls.size = nL) {index : Nat} (hlk : Cond.methodLink own index Lib.Math.max.name ∈ k_TT) (hst : Cond.static Lib.Math.max.name ∈ k_TT) (hin : Cond.initialized "java/lang/Math" ∈ k_TT) (hco : Cond.code Lib.Math.max.name Lib.Math.max.code 2 (some .int) ∈ k_TT) (hF : 1 ≤ R.frames) (hR : (rest.map fun v => v.category).sum + 13 ≤ R.locals) {x y : Int32} (hd : decode cc pc = .ok (.invokestatic index, 3)) (kk : W p l e R s m args below meth c H locs 0 0 Q (F0 m (pc + 3) ls (.int (k_max x y) :: rest))) : W p l e R s m args below meth c H locs 0 0 Q (F0 m pc ls (.int y :: .int x :: rest)) :=
  va_mmax C.1 C.2.1 (C.2.2.2.1.trans hs.symm) C.2.2.2.2.1 (C.2.2.2.2.2.2.1.ts _ hlk) (C.2.2.2.2.2.2.1.ts _ hst) (C.2.2.2.2.2.2.1.ts _ hin) (C.2.2.2.2.2.2.1.ts _ hco) hF hR (Nat.zero_le _) (Nat.zero_le _) hd kk
theorem k_mmin (C : k_C p s m args meth c cc own ret Ts nL G Y A) (hs : ls.size = nL) {index : Nat} (hlk : Cond.methodLink own index Lib.Math.min.name ∈ k_TT) (hst : Cond.static Lib.Math.min.name ∈ k_TT) (hin : Cond.initialized "java/lang/Math" ∈ k_TT) (hco : Cond.code Lib.Math.min.name Lib.Math.min.code 2 (some .int) ∈ k_TT) (hF : 1 ≤ R.frames) (hR : (rest.map fun v => v.category).sum + 13 ≤ R.locals) {x y : Int32} (hd : decode cc pc = .ok (.invokestatic index, 3)) (kk : W p l e R s m args below meth c H locs 0 0 Q (F0 m (pc + 3) ls (.int (k_min x y) :: rest))) : W p l e R s m args below meth c H locs 0 0 Q (F0 m pc ls (.int y :: .int x :: rest)) :=
  va_mmin C.1 C.2.1 (C.2.2.2.1.trans hs.symm) C.2.2.2.2.1 (C.2.2.2.2.2.2.1.ts _ hlk) (C.2.2.2.2.2.2.1.ts _ hst) (C.2.2.2.2.2.2.1.ts _ hin) (C.2.2.2.2.2.2.1.ts _ hco) hF hR (Nat.zero_le _) (Nat.zero_le _) hd kk
theorem k_mabs (C : k_C p s m args meth c cc own ret Ts nL G Y A) (hs : ls.size = nL) {index : Nat} (hlk : Cond.methodLink own index Lib.Math.abs.name ∈ k_TT) (hst : Cond.static Lib.Math.abs.name ∈ k_TT) (hin : Cond.initialized "java/lang/Math" ∈ k_TT) (hco : Cond.code Lib.Math.abs.name Lib.Math.abs.code 1 (some .int) ∈ k_TT) (hF : 1 ≤ R.frames) (hR : (rest.map fun v => v.category).sum + 13 ≤ R.locals) {x : Int32} (hd : decode cc pc = .ok (.invokestatic index, 3)) (kk : W p l e R s m args below meth c H locs 0 0 Q (F0 m (pc + 3) ls (.int (k_abs x) :: rest))) : W p l e R s m args below meth c H locs 0 0 Q (F0 m pc ls (.int x :: rest)) :=
  va_mabs C.1 C.2.1 (C.2.2.2.1.trans hs.symm) C.2.2.2.2.1 (C.2.2.2.2.2.2.1.ts _ hlk) (C.2.2.2.2.2.2.1.ts _ hst) (C.2.2.2.2.2.2.1.ts _ hin) (C.2.2.2.2.2.2.1.ts _ hco) hF hR (Nat.zero_le _) (Nat.zero_le _) hd kk
theorem k_mmaxl (C : k_C p s m args meth c cc own ret Ts nL G Y A) (hs : ls.size = nL) {index : Nat} (hlk : Cond.methodLink own index Lib.MathLoose.max_long.x ∈ k_TT) (hst : Cond.static Lib.MathLoose.max_long.x ∈ k_TT) (hin : Cond.initialized "java/lang/Math" ∈ k_TT) (hco : Cond.code Lib.MathLoose.max_long.x Lib.MathLoose.max_long.code 4 (some .long) ∈ k_TT) (hF : 1 ≤ R.frames) (hR : (rest.map fun v => v.category).sum + 15 ≤ R.locals) {x y : Int64} (hd : decode cc pc = .ok (.invokestatic index, 3)) (kk : W p l e R s m args below meth c H locs 0 0 Q (F0 m (pc + 3) ls (.long (k_lmax x y) :: rest))) : W p l e R s m args below meth c H locs 0 0 Q (F0 m pc ls (.long y :: .long x :: rest)) :=
  va_mmax_long C.1 C.2.1 (C.2.2.2.1.trans hs.symm) C.2.2.2.2.1 (C.2.2.2.2.2.2.1.ts _ hlk) (C.2.2.2.2.2.2.1.ts _ hst) (C.2.2.2.2.2.2.1.ts _ hin) (C.2.2.2.2.2.2.1.ts _ hco) hF hR (Nat.zero_le _) (Nat.zero_le _) hd kk
theorem k_mminl (C : k_C p s m args meth c cc own ret Ts nL G Y A) (hs : ls.size = nL) {index : Nat} (hlk : Cond.methodLink own index Lib.MathLoose.min_long.x ∈ k_TT) (hst : Cond.static Lib.MathLoose.min_long.x ∈ k_TT) (hin : Cond.initialized "java/lang/Math" ∈ k_TT) (hco : Cond.code Lib.MathLoose.min_long.x Lib.MathLoose.min_long.code 4 (some .long) ∈ k_TT) (hF : 1 ≤ R.frames) (hR : (rest.map fun v => v.category).sum + 15 ≤ R.locals) {x y : Int64} (hd : decode cc pc = .ok (.invokestatic index, 3)) (kk : W p l e R s m args below meth c H locs 0 0 Q (F0 m (pc + 3) ls (.long (k_lmin x y) :: rest))) : W p l e R s m args below meth c H locs 0 0 Q (F0 m pc ls (.long y :: .long x :: rest)) :=
  va_mmin_long C.1 C.2.1 (C.2.2.2.1.trans hs.symm) C.2.2.2.2.1 (C.2.2.2.2.2.2.1.ts _ hlk) (C.2.2.2.2.2.2.1.ts _ hst) (C.2.2.2.2.2.2.1.ts _ hin) (C.2.2.2.2.2.2.1.ts _ hco) hF hR (Nat.zero_le _) (Nat.zero_le _) hd kk
theorem k_mabsl (C : k_C p s m args meth c cc own ret Ts nL G Y A) (hs : ls.size = nL) {index : Nat} (hlk : Cond.methodLink own index Lib.MathLoose.abs_long.x ∈ k_TT) (hst : Cond.static Lib.MathLoose.abs_long.x ∈ k_TT) (hin : Cond.initialized "java/lang/Math" ∈ k_TT) (hco : Cond.code Lib.MathLoose.abs_long.x Lib.MathLoose.abs_long.code 2 (some .long) ∈ k_TT) (hF : 1 ≤ R.frames) (hR : (rest.map fun v => v.category).sum + 13 ≤ R.locals) {x : Int64} (hd : decode cc pc = .ok (.invokestatic index, 3)) (kk : W p l e R s m args below meth c H locs 0 0 Q (F0 m (pc + 3) ls (.long (k_labs x) :: rest))) : W p l e R s m args below meth c H locs 0 0 Q (F0 m pc ls (.long x :: rest)) :=
  va_mabs_long C.1 C.2.1 (C.2.2.2.1.trans hs.symm) C.2.2.2.2.1 (C.2.2.2.2.2.2.1.ts _ hlk) (C.2.2.2.2.2.2.1.ts _ hst) (C.2.2.2.2.2.2.1.ts _ hin) (C.2.2.2.2.2.2.1.ts _ hco) hF hR (Nat.zero_le _) (Nat.zero_le _) hd kk
-- ends
theorem k_iret (C : k_C p s m args meth c cc own (some .int) Ts nL G Y A) (hw : k_W G w A s.heap σ H locs) {v r : Int32} {σ' : MSt} (hf : (some (v, σ) : Option (Int32 × MSt)) = some (r, σ')) (hd : decode cc pc = .ok (.ireturn, 1)) : W p l e R s m args below meth c H locs 0 0 (MQ below (k_Qi G w A r σ') args s 0 0 A) (F0 m pc ls [.int v]) := by
  cases hf
  have hlocks : meth.locks = false := C.2.2.2.2.2.2.2.1
  exact W.iret C.1 C.2.1 C.2.2.1 (fun t ht hW => ⟨⟨_, _, rfl, ⟨rfl, rfl⟩, by rw [ht]; exact hw.1, hw.2.1⟩, hw.2.2.F ht⟩) hw.2.2.2.2 hd
theorem k_zret {ty : FieldType} (C : k_C p s m args meth c cc own (some ty) Ts nL G Y A) (hw : k_W G w A s.heap σ H locs) {v r : Int32} {σ' : MSt} (hn : narrow ty (.int v) = .int v) (hf : (some (v, σ) : Option (Int32 × MSt)) = some (r, σ')) (hd : decode cc pc = .ok (.ireturn, 1)) : W p l e R s m args below meth c H locs 0 0 (MQ below (k_Qi G w A r σ') args s 0 0 A) (F0 m pc ls [.int v]) := by
  cases hf
  have hlocks : meth.locks = false := C.2.2.2.2.2.2.2.1
  exact W.zret C.1 C.2.1 C.2.2.1 hn (fun t ht hW => ⟨⟨_, _, rfl, ⟨rfl, rfl⟩, by rw [ht]; exact hw.1, hw.2.1⟩, hw.2.2.F ht⟩) hw.2.2.2.2 hd
theorem k_lret (C : k_C p s m args meth c cc own (some .long) Ts nL G Y A) (hw : k_W G w A s.heap σ H locs) {v r : Int64} {σ' : MSt} (hf : (some (v, σ) : Option (Int64 × MSt)) = some (r, σ')) (hd : decode cc pc = .ok (.lreturn, 1)) : W p l e R s m args below meth c H locs 0 0 (MQ below (k_Ql G w A r σ') args s 0 0 A) (F0 m pc ls [.long v]) := by
  cases hf
  have hlocks : meth.locks = false := C.2.2.2.2.2.2.2.1
  exact W.lret C.1 C.2.1 C.2.2.1 (fun t ht hW => ⟨⟨_, _, rfl, ⟨rfl, rfl⟩, by rw [ht]; exact hw.1, hw.2.1⟩, hw.2.2.F ht⟩) hw.2.2.2.2 hd
theorem k_vret (C : k_C p s m args meth c cc own none Ts nL G Y A) (hw : k_W G w A s.heap σ H locs) {σ' : MSt} (hf : (some σ : Option MSt) = some σ') (hd : decode cc pc = .ok (.return_, 1)) : W p l e R s m args below meth c H locs 0 0 (MQ below (k_Qv G w A σ') args s 0 0 A) (F0 m pc ls []) := by
  cases hf
  have hlocks : meth.locks = false := C.2.2.2.2.2.2.2.1
  exact W.vret C.1 C.2.1 C.2.2.1 (fun t ht hW => ⟨⟨_, rfl, rfl, by rw [ht]; exact hw.1, hw.2.1⟩, hw.2.2.F ht⟩) hw.2.2.2.2 hd
-- calls
theorem k_free (C : k_C p s m args meth c cc own ret Ts nL G Y A) (hw : k_W G w A s.heap σ H locs) : ∀ q, va_A (w σ) H.size q → A q := by
  intro q h
  rcases h with ⟨k, e, h⟩ | h
  · exact hw.2.1.2 k _ h
  · exact C.2.2.2.2.2.2.2.2.1 q (Nat.le_trans hw.2.2.1 h)
theorem k_pre (C : k_C p s m args meth c cc own ret Ts nL G Y A) (hw : k_W G w A s.heap σ H locs) {av : List Value} : ∀ U : State, U.heap = H → s.WarmedH U.vm → k_P G Y w σ H.size av av.toArray U := fun U hU hW => ⟨rfl, by rw [hU], by rw [hU]; exact hw.1, C.2.2.2.2.2.2.1.moved hW, hw.2.1.weaken (fun _ _ _ _ => trivial), by rw [hU]; exact ((C.2.2.2.2.2.2.2.2.2).to hw.2.2.2.1 (k_free C hw)).warm hW⟩
theorem k_back (C : k_C p s m args meth c cc own ret Ts nL G Y A) (hw : k_W G w A s.heap σ H locs) {u σ' : MSt} {t : State} {H1 : Heap} {locs1 : List Loc} (ht : t.heap = H1) (hu : u = σ') (hB : k_B G w (va_A (w σ) H.size) u t) (hS : va_S A s.heap H1 locs1) : k_W G w A s.heap σ' H1 locs1 := by
  subst hu
  exact ⟨by rw [← ht]; exact hB.1, hB.2.weaken (fun k q _ h => k_free C hw _ h), hS⟩
theorem k_callVi (C : k_C p s m args meth c cc own ret Ts nL G Y A) (hw : k_W G w A s.heap σ H locs) {y : MethodName} {ws : List Cond} {rm : Room} {b : Nat} {As st : List Value} {r : Int32} {σ' : MSt} (hM : k_Mi l y ws rm G Y w (.ref b :: As) σ r σ') {Cn : String} {index maxL n : Nat} {bytes : ByteArray} {rt : Option FieldType} (cw : CallW R s args own Cn index y bytes maxL rt ws rm 0 0 n) (hrc : ∃ cell : Cell, H[b]? = some cell ∧ cell.vm.isStatics = false ∧ s.vm.findClass Cn = some cell.cls) (hn : As.length = n) (hsz : ls.size = nL) (hst : st = As.reverse ++ .ref b :: rest) (hroom : (rest.map fun v => v.category).sum ≤ 8) (hd : decode cc pc = .ok (.invokevirtual index, 3))
    (kk : ∀ (H1 : Heap) (locs1 : List Loc), k_W G w A s.heap σ' H1 locs1 → W p l e R s m args below meth c H1 locs1 0 0 Q (F0 m (pc + 3) ls (.int r :: rest))) : W p l e R s m args below meth c H locs 0 0 Q (F0 m pc ls st) := by
  subst hst
  refine va_calli (va_runV (As := As) (rest := rest) ⟨C.1, C.2.1, C.2.2.2.1, C.2.2.2.2.1, C.2.2.2.2.2.1⟩ (hM H.size) cw ⟨k_P.blind, hrc, k_pre C hw⟩ rfl hn hsz rfl (lv_room hroom) hd ⟨Nat.zero_le _, Nat.zero_le _⟩) hw.2.2 (fun q _ h => k_free C hw q h) (k_free C hw) (fun r1 u t H1 locs1 ht hvm hq hB hz1 hk1 hS => ?_)
  obtain ⟨rfl, hu⟩ := hq
  exact kk H1 locs1 (k_back C hw ht hu hB hS)
theorem k_callViL (C : k_C p s m args meth c cc own ret Ts nL G Y A) (hw : k_W G w A s.heap σ H locs) {y : MethodName} {ws : List Cond} {rm : Room} {b : Nat} {As st : List Value} {r : Int32} {σ' : MSt} (hM : k_Mi l y ws rm G Y w (.ref b :: As) σ r σ') {Cn : String} {index maxL n : Nat} {bytes : ByteArray} {rt : Option FieldType} (cw : CallW R s args own Cn index y bytes maxL rt ws rm 0 0 n) (hrc : ∃ cell : Cell, H[b]? = some cell ∧ cell.vm.isStatics = false ∧ s.vm.findClass Cn = some cell.cls) (hn : As.length = n) (hsz : ls.size = nL) (hst : st = As.reverse ++ .ref b :: rest) (hroom : (rest.map fun v => v.category).sum ≤ 8) (hcs : cells ≤ R.cells ∧ slots ≤ R.slots) (hd : decode cc pc = .ok (.invokevirtual index, 3))
    (kk : ∀ (H1 : Heap) (locs1 : List Loc), k_W G w A s.heap σ' H1 locs1 → W p l e R s m args below meth c H1 locs1 cells slots Q (F0 m (pc + 3) ls (.int r :: rest))) : W p l e R s m args below meth c H locs cells slots Q (F0 m pc ls st) := by
  subst hst
  refine va_calli (va_runV (As := As) (rest := rest) ⟨C.1, C.2.1, C.2.2.2.1, C.2.2.2.2.1, C.2.2.2.2.2.1⟩ (hM H.size) cw ⟨k_P.blind, hrc, k_pre C hw⟩ rfl hn hsz rfl (lv_room hroom) hd hcs) hw.2.2 (fun q _ h => k_free C hw q h) (k_free C hw) (fun r1 u t H1 locs1 ht hvm hq hB hz1 hk1 hS => ?_)
  obtain ⟨rfl, hu⟩ := hq
  exact kk H1 locs1 (k_back C hw ht hu hB hS)
theorem k_callVl (C : k_C p s m args meth c cc own ret Ts nL G Y A) (hw : k_W G w A s.heap σ H locs) {y : MethodName} {ws : List Cond} {rm : Room} {b : Nat} {As st : List Value} {r : Int64} {σ' : MSt} (hM : k_Ml l y ws rm G Y w (.ref b :: As) σ r σ') {Cn : String} {index maxL n : Nat} {bytes : ByteArray} {rt : Option FieldType} (cw : CallW R s args own Cn index y bytes maxL rt ws rm 0 0 n) (hrc : ∃ cell : Cell, H[b]? = some cell ∧ cell.vm.isStatics = false ∧ s.vm.findClass Cn = some cell.cls) (hn : As.length = n) (hsz : ls.size = nL) (hst : st = As.reverse ++ .ref b :: rest) (hroom : (rest.map fun v => v.category).sum ≤ 8) (hd : decode cc pc = .ok (.invokevirtual index, 3))
    (kk : ∀ (H1 : Heap) (locs1 : List Loc), k_W G w A s.heap σ' H1 locs1 → W p l e R s m args below meth c H1 locs1 0 0 Q (F0 m (pc + 3) ls (.long r :: rest))) : W p l e R s m args below meth c H locs 0 0 Q (F0 m pc ls st) := by
  subst hst
  refine va_calll (va_runV (As := As) (rest := rest) ⟨C.1, C.2.1, C.2.2.2.1, C.2.2.2.2.1, C.2.2.2.2.2.1⟩ (hM H.size) cw ⟨k_P.blind, hrc, k_pre C hw⟩ rfl hn hsz rfl (lv_room hroom) hd ⟨Nat.zero_le _, Nat.zero_le _⟩) hw.2.2 (fun q _ h => k_free C hw q h) (k_free C hw) (fun r1 u t H1 locs1 ht hvm hq hB hz1 hk1 hS => ?_)
  obtain ⟨rfl, hu⟩ := hq
  exact kk H1 locs1 (k_back C hw ht hu hB hS)
theorem k_callVlL (C : k_C p s m args meth c cc own ret Ts nL G Y A) (hw : k_W G w A s.heap σ H locs) {y : MethodName} {ws : List Cond} {rm : Room} {b : Nat} {As st : List Value} {r : Int64} {σ' : MSt} (hM : k_Ml l y ws rm G Y w (.ref b :: As) σ r σ') {Cn : String} {index maxL n : Nat} {bytes : ByteArray} {rt : Option FieldType} (cw : CallW R s args own Cn index y bytes maxL rt ws rm 0 0 n) (hrc : ∃ cell : Cell, H[b]? = some cell ∧ cell.vm.isStatics = false ∧ s.vm.findClass Cn = some cell.cls) (hn : As.length = n) (hsz : ls.size = nL) (hst : st = As.reverse ++ .ref b :: rest) (hroom : (rest.map fun v => v.category).sum ≤ 8) (hcs : cells ≤ R.cells ∧ slots ≤ R.slots) (hd : decode cc pc = .ok (.invokevirtual index, 3))
    (kk : ∀ (H1 : Heap) (locs1 : List Loc), k_W G w A s.heap σ' H1 locs1 → W p l e R s m args below meth c H1 locs1 cells slots Q (F0 m (pc + 3) ls (.long r :: rest))) : W p l e R s m args below meth c H locs cells slots Q (F0 m pc ls st) := by
  subst hst
  refine va_calll (va_runV (As := As) (rest := rest) ⟨C.1, C.2.1, C.2.2.2.1, C.2.2.2.2.1, C.2.2.2.2.2.1⟩ (hM H.size) cw ⟨k_P.blind, hrc, k_pre C hw⟩ rfl hn hsz rfl (lv_room hroom) hd hcs) hw.2.2 (fun q _ h => k_free C hw q h) (k_free C hw) (fun r1 u t H1 locs1 ht hvm hq hB hz1 hk1 hS => ?_)
  obtain ⟨rfl, hu⟩ := hq
  exact kk H1 locs1 (k_back C hw ht hu hB hS)
theorem k_callVv (C : k_C p s m args meth c cc own ret Ts nL G Y A) (hw : k_W G w A s.heap σ H locs) {y : MethodName} {ws : List Cond} {rm : Room} {b : Nat} {As st : List Value} {σ' : MSt} (hM : k_Mv l y ws rm G Y w (.ref b :: As) σ σ') {Cn : String} {index maxL n : Nat} {bytes : ByteArray} {rt : Option FieldType} (cw : CallW R s args own Cn index y bytes maxL rt ws rm 0 0 n) (hrc : ∃ cell : Cell, H[b]? = some cell ∧ cell.vm.isStatics = false ∧ s.vm.findClass Cn = some cell.cls) (hn : As.length = n) (hsz : ls.size = nL) (hst : st = As.reverse ++ .ref b :: rest) (hroom : (rest.map fun v => v.category).sum ≤ 8) (hd : decode cc pc = .ok (.invokevirtual index, 3))
    (kk : ∀ (H1 : Heap) (locs1 : List Loc), k_W G w A s.heap σ' H1 locs1 → W p l e R s m args below meth c H1 locs1 0 0 Q (F0 m (pc + 3) ls rest)) : W p l e R s m args below meth c H locs 0 0 Q (F0 m pc ls st) := by
  subst hst
  refine va_callv (va_runV (As := As) (rest := rest) ⟨C.1, C.2.1, C.2.2.2.1, C.2.2.2.2.1, C.2.2.2.2.2.1⟩ (hM H.size) cw ⟨k_P.blind, hrc, k_pre C hw⟩ rfl hn hsz rfl (lv_room hroom) hd ⟨Nat.zero_le _, Nat.zero_le _⟩) hw.2.2 (fun q _ h => k_free C hw q h) (k_free C hw) (fun u t H1 locs1 ht hvm hq hB hz1 hk1 hS => ?_)
  exact kk H1 locs1 (k_back C hw ht hq hB hS)
theorem k_callVvL (C : k_C p s m args meth c cc own ret Ts nL G Y A) (hw : k_W G w A s.heap σ H locs) {y : MethodName} {ws : List Cond} {rm : Room} {b : Nat} {As st : List Value} {σ' : MSt} (hM : k_Mv l y ws rm G Y w (.ref b :: As) σ σ') {Cn : String} {index maxL n : Nat} {bytes : ByteArray} {rt : Option FieldType} (cw : CallW R s args own Cn index y bytes maxL rt ws rm 0 0 n) (hrc : ∃ cell : Cell, H[b]? = some cell ∧ cell.vm.isStatics = false ∧ s.vm.findClass Cn = some cell.cls) (hn : As.length = n) (hsz : ls.size = nL) (hst : st = As.reverse ++ .ref b :: rest) (hroom : (rest.map fun v => v.category).sum ≤ 8) (hcs : cells ≤ R.cells ∧ slots ≤ R.slots) (hd : decode cc pc = .ok (.invokevirtual index, 3))
    (kk : ∀ (H1 : Heap) (locs1 : List Loc), k_W G w A s.heap σ' H1 locs1 → W p l e R s m args below meth c H1 locs1 cells slots Q (F0 m (pc + 3) ls rest)) : W p l e R s m args below meth c H locs cells slots Q (F0 m pc ls st) := by
  subst hst
  refine va_callv (va_runV (As := As) (rest := rest) ⟨C.1, C.2.1, C.2.2.2.1, C.2.2.2.2.1, C.2.2.2.2.2.1⟩ (hM H.size) cw ⟨k_P.blind, hrc, k_pre C hw⟩ rfl hn hsz rfl (lv_room hroom) hd hcs) hw.2.2 (fun q _ h => k_free C hw q h) (k_free C hw) (fun u t H1 locs1 ht hvm hq hB hz1 hk1 hS => ?_)
  exact kk H1 locs1 (k_back C hw ht hq hB hS)
theorem k_callNv (C : k_C p s m args meth c cc own ret Ts nL G Y A) (hw : k_W G w A s.heap σ H locs) {y : MethodName} {ws : List Cond} {rm : Room} {b : Nat} {As st : List Value} {σ' : MSt} (hM : k_Mv l y ws rm G Y w (.ref b :: As) σ σ') {Cn : String} {index maxL n : Nat} {bytes : ByteArray} {rt : Option FieldType} (cw : va_CN R s args own index y "MoodAnchor" bytes maxL rt ws rm 0 0 n ∧ (Cond.instanceMethod y).before args s = true ∧ (Cond.selects Cn y y).before args s = true) (hrc : ∃ cell : Cell, H[b]? = some cell ∧ cell.vm.isStatics = false ∧ s.vm.findClass Cn = some cell.cls) (hn : As.length = n) (hsz : ls.size = nL) (hst : st = As.reverse ++ .ref b :: rest) (hroom : (rest.map fun v => v.category).sum ≤ 8) (hd : decode cc pc = .ok (.invokevirtual index, 3))
    (kk : ∀ (H1 : Heap) (locs1 : List Loc), k_W G w A s.heap σ' H1 locs1 → W p l e R s m args below meth c H1 locs1 0 0 Q (F0 m (pc + 3) ls rest)) : W p l e R s m args below meth c H locs 0 0 Q (F0 m pc ls st) := by
  subst hst
  refine va_callv (va_runVN (As := As) (rest := rest) ⟨C.1, C.2.1, C.2.2.2.1, C.2.2.2.2.1, C.2.2.2.2.2.1⟩ (hM H.size) cw ⟨k_P.blind, hrc, k_pre C hw⟩ rfl hn hsz rfl (lv_room hroom) hd ⟨Nat.zero_le _, Nat.zero_le _⟩) hw.2.2 (fun q _ h => k_free C hw q h) (k_free C hw) (fun u t H1 locs1 ht hvm hq hB hz1 hk1 hS => ?_)
  exact kk H1 locs1 (k_back C hw ht hq hB hS)
theorem k_callSi (C : k_C p s m args meth c cc own ret Ts nL G Y A) (hw : k_W G w A s.heap σ H locs) {y : MethodName} {ws : List Cond} {rm : Room} {As st : List Value} {r : Int32} {σ' : MSt} (hM : k_Mi l y ws rm G Y w As σ r σ') {index maxL n : Nat} {bytes : ByteArray} {rt : Option FieldType} (cw : CallB R s args own index y bytes maxL rt ws rm 0 0 n ∧ (Cond.static y).before args s = true) (hn : As.length = n) (hsz : ls.size = nL) (hst : st = As.reverse ++ rest) (hroom : (rest.map fun v => v.category).sum ≤ 8) (hd : decode cc pc = .ok (.invokestatic index, 3))
    (kk : ∀ (H1 : Heap) (locs1 : List Loc), k_W G w A s.heap σ' H1 locs1 → W p l e R s m args below meth c H1 locs1 0 0 Q (F0 m (pc + 3) ls (.int r :: rest))) : W p l e R s m args below meth c H locs 0 0 Q (F0 m pc ls st) := by
  subst hst
  refine va_calli (va_runS (As := As) (rest := rest) ⟨C.1, C.2.1, C.2.2.2.1, C.2.2.2.2.1, C.2.2.2.2.2.1⟩ (hM H.size) cw ⟨k_P.blind, k_pre C hw⟩ rfl hn hsz rfl (lv_room hroom) hd ⟨Nat.zero_le _, Nat.zero_le _⟩) hw.2.2 (fun q _ h => k_free C hw q h) (k_free C hw) (fun r1 u t H1 locs1 ht hvm hq hB hz1 hk1 hS => ?_)
  obtain ⟨rfl, hu⟩ := hq
  exact kk H1 locs1 (k_back C hw ht hu hB hS)
theorem k_callSl (C : k_C p s m args meth c cc own ret Ts nL G Y A) (hw : k_W G w A s.heap σ H locs) {y : MethodName} {ws : List Cond} {rm : Room} {As st : List Value} {r : Int64} {σ' : MSt} (hM : k_Ml l y ws rm G Y w As σ r σ') {index maxL n : Nat} {bytes : ByteArray} {rt : Option FieldType} (cw : CallB R s args own index y bytes maxL rt ws rm 0 0 n ∧ (Cond.static y).before args s = true) (hn : As.length = n) (hsz : ls.size = nL) (hst : st = As.reverse ++ rest) (hroom : (rest.map fun v => v.category).sum ≤ 8) (hd : decode cc pc = .ok (.invokestatic index, 3))
    (kk : ∀ (H1 : Heap) (locs1 : List Loc), k_W G w A s.heap σ' H1 locs1 → W p l e R s m args below meth c H1 locs1 0 0 Q (F0 m (pc + 3) ls (.long r :: rest))) : W p l e R s m args below meth c H locs 0 0 Q (F0 m pc ls st) := by
  subst hst
  refine va_calll (va_runS (As := As) (rest := rest) ⟨C.1, C.2.1, C.2.2.2.1, C.2.2.2.2.1, C.2.2.2.2.2.1⟩ (hM H.size) cw ⟨k_P.blind, k_pre C hw⟩ rfl hn hsz rfl (lv_room hroom) hd ⟨Nat.zero_le _, Nat.zero_le _⟩) hw.2.2 (fun q _ h => k_free C hw q h) (k_free C hw) (fun r1 u t H1 locs1 ht hvm hq hB hz1 hk1 hS => ?_)
  obtain ⟨rfl, hu⟩ := hq
  exact kk H1 locs1 (k_back C hw ht hu hB hS)
theorem k_callSv (C : k_C p s m args meth c cc own ret Ts nL G Y A) (hw : k_W G w A s.heap σ H locs) {y : MethodName} {ws : List Cond} {rm : Room} {As st : List Value} {σ' : MSt} (hM : k_Mv l y ws rm G Y w As σ σ') {index maxL n : Nat} {bytes : ByteArray} {rt : Option FieldType} (cw : CallB R s args own index y bytes maxL rt ws rm 0 0 n ∧ (Cond.static y).before args s = true) (hn : As.length = n) (hsz : ls.size = nL) (hst : st = As.reverse ++ rest) (hroom : (rest.map fun v => v.category).sum ≤ 8) (hd : decode cc pc = .ok (.invokestatic index, 3))
    (kk : ∀ (H1 : Heap) (locs1 : List Loc), k_W G w A s.heap σ' H1 locs1 → W p l e R s m args below meth c H1 locs1 0 0 Q (F0 m (pc + 3) ls rest)) : W p l e R s m args below meth c H locs 0 0 Q (F0 m pc ls st) := by
  subst hst
  refine va_callv (va_runS (As := As) (rest := rest) ⟨C.1, C.2.1, C.2.2.2.1, C.2.2.2.2.1, C.2.2.2.2.2.1⟩ (hM H.size) cw ⟨k_P.blind, k_pre C hw⟩ rfl hn hsz rfl (lv_room hroom) hd ⟨Nat.zero_le _, Nat.zero_le _⟩) hw.2.2 (fun q _ h => k_free C hw q h) (k_free C hw) (fun u t H1 locs1 ht hvm hq hB hz1 hk1 hS => ?_)
  exact kk H1 locs1 (k_back C hw ht hq hB hS)
theorem k_look0 {x : Int32} {k : Int} (h : ¬ x = Int32.ofInt k) : ¬ x.toInt = k := fun e => h (by rw [← e, Int32.ofInt_toInt])
theorem k_tout {x : Int32} {lo hi : Int} (h : ∀ k : Int, lo ≤ k → k ≤ hi → ¬ x.toInt = k) : x.toInt < lo ∨ hi < x.toInt := by
  by_cases q : x.toInt < lo
  · exact Or.inl q
  · by_cases q2 : hi < x.toInt
    · exact Or.inr q2
    · exact absurd rfl (h x.toInt (by omega) (by omega))
end KROWS
section KENTRY
variable {l : Launch} {y : MethodName} {ws ws' : List Cond} {rm : Room} {G : va_G} {Y : CY} {w : MSt → va_W} {av : List Value} {σ σ' : MSt} {cc : ByteArray} {maxL : Nat}
theorem k_ent {own : String} (ret : Option FieldType) (ho : y.cls = own) {p : Program} {e : Env} {s : State} {m : MethodId} {below : List Frame} {meth : Method} {c : Code} {s₁ : State} (B : BodyLoose p l y (headSpec ws rm) cc maxL ret e s m av.toArray below meth c s₁) (hml : c.maxLocals = maxL) (hK : k_K G Y s) (hP : va_P G vwCl (w σ) s.heap) (hD0 : va_D (fun _ => True) (w σ)) (hE : k_E Y (va_A (w σ) s.heap.size) s s.heap) : k_C p s m av.toArray meth c cc own ret ws maxL G Y (va_A (w σ) s.heap.size) ∧ k_W G w (va_A (w σ) s.heap.size) s.heap σ s.heap [] :=
  ⟨⟨B.exec, B.bytes, B.returns, hml, ho ▸ findClass_of_methodNamed B.named, atoms_spec (ws := ws) B.pre, hK, B.notSynchronized, fun q h => Or.inr h, hE⟩, hP, hD0.self, va_S.rf⟩
theorem k_ofi {own : String} {r : Int32} (ret : Option FieldType) (hy : plainName y.cls = true) (ho : y.cls = own) (hws : ws = Cond.code y cc maxL ret :: ws') (hl : (lg_sl av).length ≤ maxL)
    (body : ∀ (p : Program) (e : Env) (s : State) (m : MethodId) (below : List Frame) (meth : Method) (c : Code) (A : Nat → Prop), k_C p s m av.toArray meth c cc own ret ws maxL G Y A → ∀ ls : Array Slot, lv_has ls maxL (lv_args 0 av) → k_W G w A s.heap σ s.heap [] → W p l e rm s m av.toArray below meth c s.heap [] 0 0 (MQ below (k_Qi G w A r σ') av.toArray s 0 0 A) (F0 m 0 ls [])) : k_Mi l y ws rm G Y w av σ r σ' := by
  intro sz
  refine Met.ofW (cc := cc) (maxL := maxL) (ret := ret) hy hws ?_
  intro p e s m args below meth c s₁ B hml hv
  obtain ⟨rfl, rfl, hP, hK, hD0, hE⟩ := hv
  have h := k_ent (w := w) (σ := σ) (G := G) (Y := Y) (own := own) ret ho B hml hK hP hD0 hE
  rw [lg_entry_eq]
  exact body p e s m below meth c _ h.1 _ (lv_entry av hl) h.2
theorem k_ofl {own : String} {r : Int64} (ret : Option FieldType) (hy : plainName y.cls = true) (ho : y.cls = own) (hws : ws = Cond.code y cc maxL ret :: ws') (hl : (lg_sl av).length ≤ maxL)
    (body : ∀ (p : Program) (e : Env) (s : State) (m : MethodId) (below : List Frame) (meth : Method) (c : Code) (A : Nat → Prop), k_C p s m av.toArray meth c cc own ret ws maxL G Y A → ∀ ls : Array Slot, lv_has ls maxL (lv_args 0 av) → k_W G w A s.heap σ s.heap [] → W p l e rm s m av.toArray below meth c s.heap [] 0 0 (MQ below (k_Ql G w A r σ') av.toArray s 0 0 A) (F0 m 0 ls [])) : k_Ml l y ws rm G Y w av σ r σ' := by
  intro sz
  refine Met.ofW (cc := cc) (maxL := maxL) (ret := ret) hy hws ?_
  intro p e s m args below meth c s₁ B hml hv
  obtain ⟨rfl, rfl, hP, hK, hD0, hE⟩ := hv
  have h := k_ent (w := w) (σ := σ) (G := G) (Y := Y) (own := own) ret ho B hml hK hP hD0 hE
  rw [lg_entry_eq]
  exact body p e s m below meth c _ h.1 _ (lv_entry av hl) h.2
theorem k_ofv {own : String} (ret : Option FieldType) (hy : plainName y.cls = true) (ho : y.cls = own) (hws : ws = Cond.code y cc maxL ret :: ws') (hl : (lg_sl av).length ≤ maxL)
    (body : ∀ (p : Program) (e : Env) (s : State) (m : MethodId) (below : List Frame) (meth : Method) (c : Code) (A : Nat → Prop), k_C p s m av.toArray meth c cc own ret ws maxL G Y A → ∀ ls : Array Slot, lv_has ls maxL (lv_args 0 av) → k_W G w A s.heap σ s.heap [] → W p l e rm s m av.toArray below meth c s.heap [] 0 0 (MQ below (k_Qv G w A σ') av.toArray s 0 0 A) (F0 m 0 ls [])) : k_Mv l y ws rm G Y w av σ σ' := by
  intro sz
  refine Met.ofW (cc := cc) (maxL := maxL) (ret := ret) hy hws ?_
  intro p e s m args below meth c s₁ B hml hv
  obtain ⟨rfl, rfl, hP, hK, hD0, hE⟩ := hv
  have h := k_ent (w := w) (σ := σ) (G := G) (Y := Y) (own := own) ret ho B hml hK hP hD0 hE
  rw [lg_entry_eq]
  exact body p e s m below meth c _ h.1 _ (lv_entry av hl) h.2
end KENTRY
theorem HO_pre {ad : Nat → Nat} {w : MSt → va_W} {o ci : Nat} {F : MSt → List Value} (pre : va_W) (h : HO ad w o ci F) : HO ad (fun σ => pre ++ w σ) o ci F := by
  obtain ⟨k, h1, h2, h3, h4⟩ := h
  have e : ∀ σ x, (pre ++ w σ).set (pre.length + k) x = pre ++ (w σ).set k x := fun σ x => by rw [List.set_append_right _ _ (Nat.le_add_right _ _), Nat.add_sub_cancel_left]
  refine ⟨pre.length + k, fun σ => ?_, fun σ j v h => ?_, fun σ j v h => ?_, fun σ j t h7 h ht => ?_⟩
  · show (pre ++ w σ)[pre.length + k]? = _
    rw [List.getElem?_append_right (Nat.le_add_right _ _), Nat.add_sub_cancel_left]
    exact h1 σ
  · show (pre ++ w σ).set _ _ = _
    rw [e, h2 σ j v h]
  · show (pre ++ w σ).set _ _ = _
    rw [e, h3 σ j v h]
  · show (pre ++ w σ).set _ _ = _
    rw [e, h4 σ j t h7 h ht]
theorem HA_pre {ad : Nat → Nat} {w : MSt → va_W} {a n : Nat} {cA : ClassId} (pre : va_W) (h : HA ad w a cA n) : HA ad (fun σ => pre ++ w σ) a cA n := by
  obtain ⟨k, h1, h2⟩ := h
  refine ⟨pre.length + k, fun σ => ?_, fun σ i v => ?_⟩
  · show (pre ++ w σ)[pre.length + k]? = _
    rw [List.getElem?_append_right (Nat.le_add_right _ _), Nat.add_sub_cancel_left]
    exact h1 σ
  · show (pre ++ w σ).set _ _ = _
    rw [List.set_append_right _ _ (Nat.le_add_right _ _), Nat.add_sub_cancel_left, h2]
theorem HL_pre {ad : Nat → Nat} {w : MSt → va_W} {a n : Nat} {cA : ClassId} (pre : va_W) (h : HL ad w a cA n) : HL ad (fun σ => pre ++ w σ) a cA n := by
  obtain ⟨k, h1, h2⟩ := h
  refine ⟨pre.length + k, fun σ => ?_, fun σ i v => ?_⟩
  · show (pre ++ w σ)[pre.length + k]? = _
    rw [List.getElem?_append_right (Nat.le_add_right _ _), Nat.add_sub_cancel_left]
    exact h1 σ
  · show (pre ++ w σ).set _ _ = _
    rw [List.set_append_right _ _ (Nat.le_add_right _ _), Nat.add_sub_cancel_left, h2]

