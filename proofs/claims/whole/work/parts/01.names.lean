/-! ===== BEGIN words of one list among another's, by their places ===== -/
theorem goodIn_r {big : List Cond} (ws : List Cond) (ps : List Nat) (hp : ws = ps.filterMap (fun i => big[i]?)) (h : ws.all goodWord = true) : GoodIn big ws := by
  intro w hw
  have h1 := List.all_eq_true.mp h w hw
  rw [hp] at hw
  obtain ⟨i, -, hi⟩ := List.mem_filterMap.mp hw
  have hm : w ∈ big := by first | exact List.mem_of_getElem? hi | exact List.getElem?_mem hi
  exact ⟨hm, good_of_word h1⟩
theorem goodIn_app {big a b : List Cond} (ha : GoodIn big a) (hb : GoodIn big b) : GoodIn big (a ++ b) := fun w h => (List.mem_append.mp h).elim (ha w) (hb w)
theorem goodIn_ca {big a b : List Cond} {c : Cond} (ha : GoodIn big (c :: a)) (hb : GoodIn big b) : GoodIn big (c :: (a ++ b)) := fun w h => (List.mem_cons.mp h).elim (fun e => ha w (List.mem_cons.mpr (Or.inl e))) (fun h => (List.mem_append.mp h).elim (fun h => ha w (List.mem_cons.mpr (Or.inr h))) (hb w))
theorem goodIn_sub {big ws : List Cond} (hm : ∀ w ∈ ws, w ∈ big) (h : ws.all goodWord = true) : GoodIn big ws := fun w hw => ⟨hm w hw, good_of_word (List.all_eq_true.mp h w hw)⟩
/-! ===== END ===== -/

/-! ===== BEGIN printed: names, fields, word lists, decode rows ===== -/
def RX0 : String := "SquarePlanes$Bundle"
def TX0 : u_T := fun k => match k with
  | 0 => ("SquarePlanes$Bundle", "planes", "LSquarePlanes$Planes;", true)
  | 1 => ("SquarePlanes$Bundle", "count", "I", false)
  | 2 => ("SquarePlanes$Bundle", "spreadUpper", "I", false)
  | 3 => ("SquarePlanes$Bundle", "spreadLower", "I", false)
  | 4 => ("SquarePlanes$Bundle", "centreSolution", "I", false)
  | 5 => ("SquarePlanes$Bundle", "version", "I", false)
  | 6 => ("SquarePlanes$Bundle", "isHeld", "[Z", true)
  | 7 => ("SquarePlanes$Bundle", "axes", "[I", true)
  | 8 => ("SquarePlanes$Bundle", "firstSolutions", "[I", true)
  | 9 => ("SquarePlanes$Bundle", "farUpper", "I", false)
  | _ => ("SquarePlanes$Bundle", "farLower", "I", false)
def tyX0 : Nat → FieldType := fun k => match k with
  | 0 => .object "SquarePlanes$Planes"
  | 1 => .int
  | 2 => .int
  | 3 => .int
  | 4 => .int
  | 5 => .int
  | 6 => .array .boolean
  | 7 => .array .int
  | 8 => .array .int
  | 9 => .int
  | _ => .int
abbrev wsX00 : List Cond := u_ws RX0 TX0 11
theorem nmX0 : ∀ a, a < 11 → ∀ b, b < 11 → a ≠ b → (TX0 a).2.1 ≠ (TX0 b).2.1 := by decide +kernel
theorem tyX0_ok : ∀ k, k < 11 → parseFieldDescriptor (TX0 k).2.2.1 = some (tyX0 k) := by decide +kernel
abbrev cX0_init : ByteArray := prog_2_method_1_code
def yX0_init : MethodName := ⟨RX0, "<init>", "(LSquarePlanes$Planes;)V"⟩
abbrev cX0_refresh : ByteArray := prog_2_method_2_code
def yX0_refresh : MethodName := ⟨RX0, "refresh", "(LSquarePlanes$Ranking;)V"⟩
abbrev cX0_gather : ByteArray := prog_2_method_3_code
def yX0_gather : MethodName := ⟨RX0, "gather", "(LSquarePlanes$Ranking;)V"⟩
abbrev cX0_findFarthest : ByteArray := prog_2_method_4_code
def yX0_findFarthest : MethodName := ⟨RX0, "findFarthest", "(I)V"⟩
def RX1 : String := "SquarePlanes$Planes"
def TX1 : u_T := fun k => match k with
  | 0 => ("SquarePlanes$Planes", "poles", "LSquarePlanes$Poles;", true)
  | 1 => ("SquarePlanes$Planes", "poleCount", "I", true)
  | 2 => ("SquarePlanes$Planes", "pairCount", "I", true)
  | 3 => ("SquarePlanes$Planes", "lesser", "[I", true)
  | 4 => ("SquarePlanes$Planes", "greater", "[I", true)
  | 5 => ("SquarePlanes$Planes", "axisOf", "[I", true)
  | 6 => ("SquarePlanes$Planes", "axisXs", "[I", true)
  | 7 => ("SquarePlanes$Planes", "axisYs", "[I", true)
  | 8 => ("SquarePlanes$Planes", "axisZs", "[I", true)
  | 9 => ("SquarePlanes$Planes", "axisSquares", "[I", true)
  | 10 => ("SquarePlanes$Planes", "axisCount", "I", false)
  | _ => ("SquarePlanes$Planes", "poleSigns", "[I", true)
def tyX1 : Nat → FieldType := fun k => match k with
  | 0 => .object "SquarePlanes$Poles"
  | 1 => .int
  | 2 => .int
  | 3 => .array .int
  | 4 => .array .int
  | 5 => .array .int
  | 6 => .array .int
  | 7 => .array .int
  | 8 => .array .int
  | 9 => .array .int
  | 10 => .int
  | _ => .array .int
abbrev wsX10 : List Cond := u_ws RX1 TX1 12
theorem nmX1 : ∀ a, a < 12 → ∀ b, b < 12 → a ≠ b → (TX1 a).2.1 ≠ (TX1 b).2.1 := by decide +kernel
theorem tyX1_ok : ∀ k, k < 12 → parseFieldDescriptor (TX1 k).2.2.1 = some (tyX1 k) := by decide +kernel
abbrev cX1_init : ByteArray := prog_3_method_1_code
def yX1_init : MethodName := ⟨RX1, "<init>", "(LSquarePlanes$Poles;I)V"⟩
abbrev cX1_countPairs : ByteArray := prog_3_method_2_code
def yX1_countPairs : MethodName := ⟨RX1, "countPairs", "(LSquarePlanes$Poles;I)I"⟩
abbrev cX1_fillPairs : ByteArray := prog_3_method_3_code
def yX1_fillPairs : MethodName := ⟨RX1, "fillPairs", "()V"⟩
abbrev cX1_axisNumber : ByteArray := prog_3_method_4_code
def yX1_axisNumber : MethodName := ⟨RX1, "axisNumber", "(II)I"⟩
abbrev cX1_heldAxis : ByteArray := prog_3_method_5_code
def yX1_heldAxis : MethodName := ⟨RX1, "heldAxis", "(III)I"⟩
abbrev cX1_solutionCount : ByteArray := prog_3_method_6_code
def yX1_solutionCount : MethodName := ⟨RX1, "solutionCount", "()I"⟩
abbrev cX1_hasSolution : ByteArray := prog_3_method_7_code
def yX1_hasSolution : MethodName := ⟨RX1, "hasSolution", "(I)Z"⟩
abbrev cX1_find : ByteArray := prog_3_method_8_code
def yX1_find : MethodName := ⟨RX1, "find", "(II)I"⟩
abbrev cX1_signAlong : ByteArray := prog_3_method_9_code
def yX1_signAlong : MethodName := ⟨RX1, "signAlong", "(IIII)I"⟩
abbrev cX1_lookAlong : ByteArray := prog_3_method_10_code
def yX1_lookAlong : MethodName := ⟨RX1, "lookAlong", "(III)V"⟩
abbrev cX1_seenSign : ByteArray := prog_3_method_11_code
def yX1_seenSign : MethodName := ⟨RX1, "seenSign", "(I)I"⟩
abbrev cX1_seenPairSign : ByteArray := prog_3_method_12_code
def yX1_seenPairSign : MethodName := ⟨RX1, "seenPairSign", "(I)I"⟩
abbrev cX1_sense : ByteArray := prog_3_method_13_code
def yX1_sense : MethodName := ⟨RX1, "sense", "(I)I"⟩
abbrev cX1_axisDot : ByteArray := prog_3_method_14_code
def yX1_axisDot : MethodName := ⟨RX1, "axisDot", "(II)I"⟩
abbrev cX1_apartUpper : ByteArray := prog_3_method_15_code
def yX1_apartUpper : MethodName := ⟨RX1, "apartUpper", "(II)I"⟩
abbrev cX1_apartLower : ByteArray := prog_3_method_16_code
def yX1_apartLower : MethodName := ⟨RX1, "apartLower", "(II)I"⟩
def RX2 : String := "SquarePlanes$Poles"
def TX2 : u_T := fun k => match k with
  | 0 => ("SquarePlanes$Poles", "xs", "[I", true)
  | 1 => ("SquarePlanes$Poles", "ys", "[I", true)
  | 2 => ("SquarePlanes$Poles", "zs", "[I", true)
  | 3 => ("SquarePlanes$Poles", "countUpTo", "[I", true)
  | _ => ("SquarePlanes$Poles", "count", "I", false)
def tyX2 : Nat → FieldType := fun k => match k with
  | 0 => .array .int
  | 1 => .array .int
  | 2 => .array .int
  | 3 => .array .int
  | _ => .int
abbrev wsX20 : List Cond := u_ws RX2 TX2 5
theorem nmX2 : ∀ a, a < 5 → ∀ b, b < 5 → a ≠ b → (TX2 a).2.1 ≠ (TX2 b).2.1 := by decide +kernel
theorem tyX2_ok : ∀ k, k < 5 → parseFieldDescriptor (TX2 k).2.2.1 = some (tyX2 k) := by decide +kernel
abbrev cX2_init : ByteArray := prog_4_method_1_code
def yX2_init : MethodName := ⟨RX2, "<init>", "()V"⟩
abbrev cX2_addShell : ByteArray := prog_4_method_2_code
def yX2_addShell : MethodName := ⟨RX2, "addShell", "(II)V"⟩
abbrev cX2_reaches : ByteArray := prog_4_method_3_code
def yX2_reaches : MethodName := ⟨RX2, "reaches", "(IIII)Z"⟩
abbrev cX2_addIfPole : ByteArray := prog_4_method_4_code
def yX2_addIfPole : MethodName := ⟨RX2, "addIfPole", "(III)V"⟩
abbrev cX2_find : ByteArray := prog_4_method_5_code
def yX2_find : MethodName := ⟨RX2, "find", "(IIII)I"⟩
abbrev cX2_dot : ByteArray := prog_4_method_6_code
def yX2_dot : MethodName := ⟨RX2, "dot", "(IIII)I"⟩
abbrev cX2_areSquare : ByteArray := prog_4_method_7_code
def yX2_areSquare : MethodName := ⟨RX2, "areSquare", "(II)Z"⟩
def RX3 : String := "SquarePlanes$Ranking"
def TX3 : u_T := fun k => match k with
  | 0 => ("SquarePlanes$Ranking", "planes", "LSquarePlanes$Planes;", true)
  | 1 => ("SquarePlanes$Ranking", "bundle", "LSquarePlanes$Bundle;", true)
  | 2 => ("SquarePlanes$Ranking", "misfits", "[I", true)
  | 3 => ("SquarePlanes$Ranking", "nodals", "[I", true)
  | 4 => ("SquarePlanes$Ranking", "order", "[I", true)
  | 5 => ("SquarePlanes$Ranking", "places", "[I", true)
  | 6 => ("SquarePlanes$Ranking", "keptCount", "I", false)
  | 7 => ("SquarePlanes$Ranking", "least", "I", false)
  | 8 => ("SquarePlanes$Ranking", "version", "I", false)
  | 9 => ("SquarePlanes$Ranking", "counted", "[I", true)
  | _ => ("SquarePlanes$Ranking", "begins", "[I", true)
def tyX3 : Nat → FieldType := fun k => match k with
  | 0 => .object "SquarePlanes$Planes"
  | 1 => .object "SquarePlanes$Bundle"
  | 2 => .array .int
  | 3 => .array .int
  | 4 => .array .int
  | 5 => .array .int
  | 6 => .int
  | 7 => .int
  | 8 => .int
  | 9 => .array .int
  | _ => .array .int
abbrev wsX30 : List Cond := u_ws RX3 TX3 11
theorem nmX3 : ∀ a, a < 11 → ∀ b, b < 11 → a ≠ b → (TX3 a).2.1 ≠ (TX3 b).2.1 := by decide +kernel
theorem tyX3_ok : ∀ k, k < 11 → parseFieldDescriptor (TX3 k).2.2.1 = some (tyX3 k) := by decide +kernel
abbrev cX3_init : ByteArray := prog_5_method_1_code
def yX3_init : MethodName := ⟨RX3, "<init>", "(LSquarePlanes$Planes;)V"⟩
abbrev cX3_refresh : ByteArray := prog_5_method_2_code
def yX3_refresh : MethodName := ⟨RX3, "refresh", "(LSquarePlanes$Stations;I)V"⟩
abbrev cX3_addStation : ByteArray := prog_5_method_3_code
def yX3_addStation : MethodName := ⟨RX3, "addStation", "(LSquarePlanes$Stations;I)V"⟩
abbrev cX3_isKept : ByteArray := prog_5_method_4_code
def yX3_isKept : MethodName := ⟨RX3, "isKept", "(II)Z"⟩
abbrev cX3_rank : ByteArray := prog_5_method_5_code
def yX3_rank : MethodName := ⟨RX3, "rank", "(I)I"⟩
abbrev cX3_findBegins : ByteArray := prog_5_method_6_code
def yX3_findBegins : MethodName := ⟨RX3, "findBegins", "(I)V"⟩
abbrev cX3_placeKept : ByteArray := prog_5_method_7_code
def yX3_placeKept : MethodName := ⟨RX3, "placeKept", "(I)V"⟩
abbrev cX3_keptWithSign : ByteArray := prog_5_method_8_code
def yX3_keptWithSign : MethodName := ⟨RX3, "keptWithSign", "(IIII)I"⟩
abbrev cX3_countMisfitsWith : ByteArray := prog_5_method_9_code
def yX3_countMisfitsWith : MethodName := ⟨RX3, "countMisfitsWith", "(LSquarePlanes$Stations;II)V"⟩
abbrev cX3_lowestCounted : ByteArray := prog_5_method_10_code
def yX3_lowestCounted : MethodName := ⟨RX3, "lowestCounted", "()I"⟩
abbrev cX3_countedFrom : ByteArray := prog_5_method_11_code
def yX3_countedFrom : MethodName := ⟨RX3, "countedFrom", "(II)I"⟩
def RX4 : String := "SquarePlanes$Stations"
def TX4 : u_T := fun k => match k with
  | 0 => ("SquarePlanes$Stations", "there", "[Z", true)
  | 1 => ("SquarePlanes$Stations", "xs", "[I", true)
  | 2 => ("SquarePlanes$Stations", "ys", "[I", true)
  | 3 => ("SquarePlanes$Stations", "zs", "[I", true)
  | 4 => ("SquarePlanes$Stations", "signs", "[I", true)
  | _ => ("SquarePlanes$Stations", "weights", "[I", true)
def tyX4 : Nat → FieldType := fun k => match k with
  | 0 => .array .boolean
  | 1 => .array .int
  | 2 => .array .int
  | 3 => .array .int
  | 4 => .array .int
  | _ => .array .int
abbrev wsX40 : List Cond := u_ws RX4 TX4 6
theorem nmX4 : ∀ a, a < 6 → ∀ b, b < 6 → a ≠ b → (TX4 a).2.1 ≠ (TX4 b).2.1 := by decide +kernel
theorem tyX4_ok : ∀ k, k < 6 → parseFieldDescriptor (TX4 k).2.2.1 = some (tyX4 k) := by decide +kernel
abbrev cX4_init : ByteArray := prog_6_method_1_code
def yX4_init : MethodName := ⟨RX4, "<init>", "()V"⟩
abbrev cX4_has : ByteArray := prog_6_method_2_code
def yX4_has : MethodName := ⟨RX4, "has", "(I)Z"⟩
abbrev cX4_isSigned : ByteArray := prog_6_method_3_code
def yX4_isSigned : MethodName := ⟨RX4, "isSigned", "(I)Z"⟩
abbrev cX4_put : ByteArray := prog_6_method_4_code
def yX4_put : MethodName := ⟨RX4, "put", "(IIII)V"⟩
abbrev cX4_count : ByteArray := prog_6_method_5_code
def yX4_count : MethodName := ⟨RX4, "count", "()I"⟩
abbrev cX4_signedWeight : ByteArray := prog_6_method_6_code
def yX4_signedWeight : MethodName := ⟨RX4, "signedWeight", "()I"⟩
abbrev cX4_countAgainst : ByteArray := prog_6_method_7_code
def yX4_countAgainst : MethodName := ⟨RX4, "countAgainst", "(LSquarePlanes$Planes;I)I"⟩
abbrev cX4_turnAll : ByteArray := prog_6_method_8_code
def yX4_turnAll : MethodName := ⟨RX4, "turnAll", "(I)I"⟩
abbrev cX4_turnOne : ByteArray := prog_6_method_9_code
def yX4_turnOne : MethodName := ⟨RX4, "turnOne", "(II)Z"⟩
abbrev cX4_aim : ByteArray := prog_6_method_10_code
def yX4_aim : MethodName := ⟨RX4, "aim", "(IIII)V"⟩
def RX5 : String := "SquarePlanes"
def TX5 : u_T := fun k => match k with
  | 0 => ("SquarePlanes", "stations", "LSquarePlanes$Stations;", true)
  | 1 => ("SquarePlanes", "poles", "LSquarePlanes$Poles;", true)
  | 2 => ("SquarePlanes", "rankings", "[LSquarePlanes$Ranking;", true)
  | 3 => ("SquarePlanes", "current", "LSquarePlanes$Ranking;", false)
  | 4 => ("SquarePlanes", "sizeNow", "I", false)
  | 5 => ("SquarePlanes", "extraNow", "I", false)
  | _ => ("SquarePlanes", "version", "I", false)
def tyX5 : Nat → FieldType := fun k => match k with
  | 0 => .object "SquarePlanes$Stations"
  | 1 => .object "SquarePlanes$Poles"
  | 2 => .array (.object "SquarePlanes$Ranking")
  | 3 => .object "SquarePlanes$Ranking"
  | 4 => .int
  | 5 => .int
  | _ => .int
abbrev wsX50 : List Cond := u_ws RX5 TX5 7
theorem nmX5 : ∀ a, a < 7 → ∀ b, b < 7 → a ≠ b → (TX5 a).2.1 ≠ (TX5 b).2.1 := by decide +kernel
theorem tyX5_ok : ∀ k, k < 7 → parseFieldDescriptor (TX5 k).2.2.1 = some (tyX5 k) := by decide +kernel
abbrev cX5_init : ByteArray := prog_1_method_1_code
def yX5_init : MethodName := ⟨RX5, "<init>", "()V"⟩
abbrev cX5_station : ByteArray := prog_1_method_2_code
def yX5_station : MethodName := ⟨RX5, "station", "(IIII)I"⟩
abbrev cX5_sign : ByteArray := prog_1_method_3_code
def yX5_sign : MethodName := ⟨RX5, "sign", "(II)I"⟩
abbrev cX5_weigh : ByteArray := prog_1_method_4_code
def yX5_weigh : MethodName := ⟨RX5, "weigh", "(II)I"⟩
abbrev cX5_drop : ByteArray := prog_1_method_5_code
def yX5_drop : MethodName := ⟨RX5, "drop", "(I)I"⟩
abbrev cX5_turn : ByteArray := prog_1_method_6_code
def yX5_turn : MethodName := ⟨RX5, "turn", "(I)I"⟩
abbrev cX5_ofStation : ByteArray := prog_1_method_7_code
def yX5_ofStation : MethodName := ⟨RX5, "ofStation", "(II)I"⟩
abbrev cX5_size : ByteArray := prog_1_method_8_code
def yX5_size : MethodName := ⟨RX5, "size", "(I)I"⟩
abbrev cX5_extra : ByteArray := prog_1_method_9_code
def yX5_extra : MethodName := ⟨RX5, "extra", "(I)I"⟩
abbrev cX5_pole : ByteArray := prog_1_method_10_code
def yX5_pole : MethodName := ⟨RX5, "pole", "(II)I"⟩
abbrev cX5_poleOf : ByteArray := prog_1_method_11_code
def yX5_poleOf : MethodName := ⟨RX5, "poleOf", "(III)I"⟩
abbrev cX5_pair : ByteArray := prog_1_method_12_code
def yX5_pair : MethodName := ⟨RX5, "pair", "(II)I"⟩
abbrev cX5_pairOf : ByteArray := prog_1_method_13_code
def yX5_pairOf : MethodName := ⟨RX5, "pairOf", "(II)I"⟩
abbrev cX5_solution : ByteArray := prog_1_method_14_code
def yX5_solution : MethodName := ⟨RX5, "solution", "(II)I"⟩
abbrev cX5_signAt : ByteArray := prog_1_method_15_code
def yX5_signAt : MethodName := ⟨RX5, "signAt", "(IIII)I"⟩
abbrev cX5_kept : ByteArray := prog_1_method_16_code
def yX5_kept : MethodName := ⟨RX5, "kept", "(I)I"⟩
abbrev cX5_axis : ByteArray := prog_1_method_17_code
def yX5_axis : MethodName := ⟨RX5, "axis", "(II)I"⟩
abbrev cX5_apart : ByteArray := prog_1_method_18_code
def yX5_apart : MethodName := ⟨RX5, "apart", "(III)J"⟩
abbrev cX5_spread : ByteArray := prog_1_method_19_code
def yX5_spread : MethodName := ⟨RX5, "spread", "(I)J"⟩
abbrev cX5_centre : ByteArray := prog_1_method_20_code
def yX5_centre : MethodName := ⟨RX5, "centre", "()I"⟩
abbrev cX5_without : ByteArray := prog_1_method_21_code
def yX5_without : MethodName := ⟨RX5, "without", "(II)I"⟩
abbrev cX5_turned : ByteArray := prog_1_method_22_code
def yX5_turned : MethodName := ⟨RX5, "turned", "(II)I"⟩
abbrev cX5_foretold : ByteArray := prog_1_method_23_code
def yX5_foretold : MethodName := ⟨RX5, "foretold", "(IIII)I"⟩
abbrev cX5_many : ByteArray := prog_1_method_24_code
def yX5_many : MethodName := ⟨RX5, "many", "(I)I"⟩
abbrev cX5_isPole : ByteArray := prog_1_method_25_code
def yX5_isPole : MethodName := ⟨RX5, "isPole", "(I)Z"⟩
abbrev cX5_rankingOfSize : ByteArray := prog_1_method_26_code
def yX5_rankingOfSize : MethodName := ⟨RX5, "rankingOfSize", "(I)LSquarePlanes$Ranking;"⟩
abbrev cX5_rankingNow : ByteArray := prog_1_method_27_code
def yX5_rankingNow : MethodName := ⟨RX5, "rankingNow", "()LSquarePlanes$Ranking;"⟩
abbrev cX5_bundleNow : ByteArray := prog_1_method_28_code
def yX5_bundleNow : MethodName := ⟨RX5, "bundleNow", "()LSquarePlanes$Bundle;"⟩
abbrev cX5_keptAtStation : ByteArray := prog_1_method_29_code
def yX5_keptAtStation : MethodName := ⟨RX5, "keptAtStation", "(II)I"⟩
abbrev cX5_wouldBe : ByteArray := prog_1_method_30_code
def yX5_wouldBe : MethodName := ⟨RX5, "wouldBe", "(III)I"⟩
abbrev cX5_isTriple : ByteArray := prog_1_method_31_code
def yX5_isTriple : MethodName := ⟨RX5, "isTriple", "(III)Z"⟩
abbrev cX5_isNumber : ByteArray := prog_1_method_32_code
def yX5_isNumber : MethodName := ⟨RX5, "isNumber", "(I)Z"⟩
abbrev cX5_signOf : ByteArray := prog_1_method_33_code
def yX5_signOf : MethodName := ⟨RX5, "signOf", "(I)I"⟩
abbrev cX5_commonDivisor : ByteArray := prog_1_method_34_code
def yX5_commonDivisor : MethodName := ⟨RX5, "commonDivisor", "(II)I"⟩
abbrev cX5_signedDivisor : ByteArray := prog_1_method_35_code
def yX5_signedDivisor : MethodName := ⟨RX5, "signedDivisor", "(III)I"⟩
abbrev cX5_leastTerm : ByteArray := prog_1_method_36_code
def yX5_leastTerm : MethodName := ⟨RX5, "leastTerm", "(III)J"⟩
abbrev cX5_isGreater : ByteArray := prog_1_method_37_code
def yX5_isGreater : MethodName := ⟨RX5, "isGreater", "(IIII)Z"⟩
def RX6 : String := "SquarePlanesModel"
def TX6 : u_T := fun k => match k with
  | 0 => ("SquarePlanesModel", "isThere", "[Z", true)
  | 1 => ("SquarePlanesModel", "stationX", "[I", true)
  | 2 => ("SquarePlanesModel", "stationY", "[I", true)
  | 3 => ("SquarePlanesModel", "stationZ", "[I", true)
  | 4 => ("SquarePlanesModel", "told", "[I", true)
  | 5 => ("SquarePlanesModel", "weight", "[I", true)
  | 6 => ("SquarePlanesModel", "size", "I", false)
  | 7 => ("SquarePlanesModel", "extra", "I", false)
  | 8 => ("SquarePlanesModel", "poles", "I", false)
  | 9 => ("SquarePlanesModel", "poleX", "[I", true)
  | 10 => ("SquarePlanesModel", "poleY", "[I", true)
  | 11 => ("SquarePlanesModel", "poleZ", "[I", true)
  | 12 => ("SquarePlanesModel", "pairs", "I", false)
  | 13 => ("SquarePlanesModel", "lesser", "[I", true)
  | 14 => ("SquarePlanesModel", "greater", "[I", true)
  | 15 => ("SquarePlanesModel", "isKnown", "Z", false)
  | 16 => ("SquarePlanesModel", "least", "I", false)
  | 17 => ("SquarePlanesModel", "kept", "I", false)
  | 18 => ("SquarePlanesModel", "misfit", "[I", true)
  | 19 => ("SquarePlanesModel", "nodal", "[I", true)
  | 20 => ("SquarePlanesModel", "order", "[I", true)
  | 21 => ("SquarePlanesModel", "placeOf", "[I", true)
  | 22 => ("SquarePlanesModel", "axisX", "I", false)
  | 23 => ("SquarePlanesModel", "axisY", "I", false)
  | 24 => ("SquarePlanesModel", "axisZ", "I", false)
  | 25 => ("SquarePlanesModel", "axes", "I", false)
  | 26 => ("SquarePlanesModel", "unlikeX", "[I", true)
  | 27 => ("SquarePlanesModel", "unlikeY", "[I", true)
  | 28 => ("SquarePlanesModel", "unlikeZ", "[I", true)
  | 29 => ("SquarePlanesModel", "farUp", "[J", true)
  | 30 => ("SquarePlanesModel", "farDown", "[J", true)
  | _ => ("SquarePlanesModel", "axisOf", "[I", true)
def tyX6 : Nat → FieldType := fun k => match k with
  | 0 => .array .boolean
  | 1 => .array .int
  | 2 => .array .int
  | 3 => .array .int
  | 4 => .array .int
  | 5 => .array .int
  | 6 => .int
  | 7 => .int
  | 8 => .int
  | 9 => .array .int
  | 10 => .array .int
  | 11 => .array .int
  | 12 => .int
  | 13 => .array .int
  | 14 => .array .int
  | 15 => .boolean
  | 16 => .int
  | 17 => .int
  | 18 => .array .int
  | 19 => .array .int
  | 20 => .array .int
  | 21 => .array .int
  | 22 => .int
  | 23 => .int
  | 24 => .int
  | 25 => .int
  | 26 => .array .int
  | 27 => .array .int
  | 28 => .array .int
  | 29 => .array .long
  | 30 => .array .long
  | _ => .array .int
abbrev wsX60 : List Cond := u_ws RX6 TX6 32
theorem nmX6 : ∀ a, a < 32 → ∀ b, b < 32 → a ≠ b → (TX6 a).2.1 ≠ (TX6 b).2.1 := by decide +kernel
theorem tyX6_ok : ∀ k, k < 32 → parseFieldDescriptor (TX6 k).2.2.1 = some (tyX6 k) := by decide +kernel
abbrev cX6_init : ByteArray := prog_8_method_1_code
def yX6_init : MethodName := ⟨RX6, "<init>", "()V"⟩
abbrev cX6_within : ByteArray := prog_8_method_2_code
def yX6_within : MethodName := ⟨RX6, "within", "(III)Z"⟩
abbrev cX6_isTriple : ByteArray := prog_8_method_3_code
def yX6_isTriple : MethodName := ⟨RX6, "isTriple", "(III)Z"⟩
abbrev cX6_greaterSize : ByteArray := prog_8_method_4_code
def yX6_greaterSize : MethodName := ⟨RX6, "greaterSize", "(II)I"⟩
abbrev cX6_common : ByteArray := prog_8_method_5_code
def yX6_common : MethodName := ⟨RX6, "common", "(II)I"⟩
abbrev cX6_signOf : ByteArray := prog_8_method_6_code
def yX6_signOf : MethodName := ⟨RX6, "signOf", "(I)I"⟩
abbrev cX6_leading : ByteArray := prog_8_method_7_code
def yX6_leading : MethodName := ⟨RX6, "leading", "(III)I"⟩
abbrev cX6_isStation : ByteArray := prog_8_method_8_code
def yX6_isStation : MethodName := ⟨RX6, "isStation", "(I)Z"⟩
abbrev cX6_station : ByteArray := prog_8_method_9_code
def yX6_station : MethodName := ⟨RX6, "station", "(IIII)I"⟩
abbrev cX6_sign : ByteArray := prog_8_method_10_code
def yX6_sign : MethodName := ⟨RX6, "sign", "(II)I"⟩
abbrev cX6_weigh : ByteArray := prog_8_method_11_code
def yX6_weigh : MethodName := ⟨RX6, "weigh", "(II)I"⟩
abbrev cX6_stations : ByteArray := prog_8_method_12_code
def yX6_stations : MethodName := ⟨RX6, "stations", "()I"⟩
abbrev cX6_drop : ByteArray := prog_8_method_13_code
def yX6_drop : MethodName := ⟨RX6, "drop", "(I)I"⟩
abbrev cX6_turn : ByteArray := prog_8_method_14_code
def yX6_turn : MethodName := ⟨RX6, "turn", "(I)I"⟩
abbrev cX6_turns : ByteArray := prog_8_method_15_code
def yX6_turns : MethodName := ⟨RX6, "turns", "(II)Z"⟩
abbrev cX6_ofStation : ByteArray := prog_8_method_16_code
def yX6_ofStation : MethodName := ⟨RX6, "ofStation", "(II)I"⟩
abbrev cX6_manyAt : ByteArray := prog_8_method_17_code
def yX6_manyAt : MethodName := ⟨RX6, "manyAt", "(IZ)I"⟩
abbrev cX6_makePoles : ByteArray := prog_8_method_18_code
def yX6_makePoles : MethodName := ⟨RX6, "makePoles", "()V"⟩
abbrev cX6_addPoles : ByteArray := prog_8_method_19_code
def yX6_addPoles : MethodName := ⟨RX6, "addPoles", "(II)V"⟩
abbrev cX6_size : ByteArray := prog_8_method_20_code
def yX6_size : MethodName := ⟨RX6, "size", "(I)I"⟩
abbrev cX6_extra : ByteArray := prog_8_method_21_code
def yX6_extra : MethodName := ⟨RX6, "extra", "(I)I"⟩
abbrev cX6_isPole : ByteArray := prog_8_method_22_code
def yX6_isPole : MethodName := ⟨RX6, "isPole", "(I)Z"⟩
abbrev cX6_pole : ByteArray := prog_8_method_23_code
def yX6_pole : MethodName := ⟨RX6, "pole", "(II)I"⟩
abbrev cX6_poleOf : ByteArray := prog_8_method_24_code
def yX6_poleOf : MethodName := ⟨RX6, "poleOf", "(III)I"⟩
abbrev cX6_pair : ByteArray := prog_8_method_25_code
def yX6_pair : MethodName := ⟨RX6, "pair", "(II)I"⟩
abbrev cX6_pairOf : ByteArray := prog_8_method_26_code
def yX6_pairOf : MethodName := ⟨RX6, "pairOf", "(II)I"⟩
abbrev cX6_isSolution : ByteArray := prog_8_method_27_code
def yX6_isSolution : MethodName := ⟨RX6, "isSolution", "(I)Z"⟩
abbrev cX6_poleSign : ByteArray := prog_8_method_28_code
def yX6_poleSign : MethodName := ⟨RX6, "poleSign", "(IIII)I"⟩
abbrev cX6_signHere : ByteArray := prog_8_method_29_code
def yX6_signHere : MethodName := ⟨RX6, "signHere", "(IIII)I"⟩
abbrev cX6_measures : ByteArray := prog_8_method_30_code
def yX6_measures : MethodName := ⟨RX6, "measures", "()V"⟩
abbrev cX6_knows : ByteArray := prog_8_method_31_code
def yX6_knows : MethodName := ⟨RX6, "knows", "()V"⟩
abbrev cX6_against : ByteArray := prog_8_method_32_code
def yX6_against : MethodName := ⟨RX6, "against", "(I)I"⟩
abbrev cX6_solution : ByteArray := prog_8_method_33_code
def yX6_solution : MethodName := ⟨RX6, "solution", "(II)I"⟩
abbrev cX6_signAt : ByteArray := prog_8_method_34_code
def yX6_signAt : MethodName := ⟨RX6, "signAt", "(IIII)I"⟩
abbrev cX6_kept : ByteArray := prog_8_method_35_code
def yX6_kept : MethodName := ⟨RX6, "kept", "(I)I"⟩
abbrev cX6_findAxis : ByteArray := prog_8_method_36_code
def yX6_findAxis : MethodName := ⟨RX6, "findAxis", "(I)V"⟩
abbrev cX6_axis : ByteArray := prog_8_method_37_code
def yX6_axis : MethodName := ⟨RX6, "axis", "(II)I"⟩
abbrev cX6_findAxes : ByteArray := prog_8_method_38_code
def yX6_findAxes : MethodName := ⟨RX6, "findAxes", "()V"⟩
abbrev cX6_square : ByteArray := prog_8_method_39_code
def yX6_square : MethodName := ⟨RX6, "square", "(I)I"⟩
abbrev cX6_inLeastTerms : ByteArray := prog_8_method_40_code
def yX6_inLeastTerms : MethodName := ⟨RX6, "inLeastTerms", "(JJI)J"⟩
abbrev cX6_apart : ByteArray := prog_8_method_41_code
def yX6_apart : MethodName := ⟨RX6, "apart", "(III)J"⟩
abbrev cX6_spread : ByteArray := prog_8_method_42_code
def yX6_spread : MethodName := ⟨RX6, "spread", "(I)J"⟩
abbrev cX6_centre : ByteArray := prog_8_method_43_code
def yX6_centre : MethodName := ⟨RX6, "centre", "()I"⟩
abbrev cX6_tellMeasures : ByteArray := prog_8_method_44_code
def yX6_tellMeasures : MethodName := ⟨RX6, "tellMeasures", "(I)I"⟩
abbrev cX6_without : ByteArray := prog_8_method_45_code
def yX6_without : MethodName := ⟨RX6, "without", "(II)I"⟩
abbrev cX6_turned : ByteArray := prog_8_method_46_code
def yX6_turned : MethodName := ⟨RX6, "turned", "(II)I"⟩
abbrev cX6_foretold : ByteArray := prog_8_method_47_code
def yX6_foretold : MethodName := ⟨RX6, "foretold", "(IIII)I"⟩
abbrev cX6_weights : ByteArray := prog_8_method_48_code
def yX6_weights : MethodName := ⟨RX6, "weights", "()I"⟩
abbrev cX6_many : ByteArray := prog_8_method_49_code
def yX6_many : MethodName := ⟨RX6, "many", "(I)I"⟩
def RJ9 : String := "java/lang/Math"
def TJ9 : u_T := fun k => match k with
  | _ => ("", "", "", false)
def tyJ9 : Nat → FieldType := fun k => match k with
  | _ => .int
abbrev wsJ90 : List Cond := u_ws RJ9 TJ9 0
theorem nmJ9 : ∀ a, a < 0 → ∀ b, b < 0 → a ≠ b → (TJ9 a).2.1 ≠ (TJ9 b).2.1 := by decide +kernel
theorem tyJ9_ok : ∀ k, k < 0 → parseFieldDescriptor (TJ9 k).2.2.1 = some (tyJ9 k) := by decide +kernel
abbrev cJ9_abs_0f7a4 : ByteArray := prog_9_method_59_code
def yJ9_abs_0f7a4 : MethodName := ⟨RJ9, "abs", "(I)I"⟩
abbrev cJ9_max_7cf53 : ByteArray := prog_9_method_65_code
def yJ9_max_7cf53 : MethodName := ⟨RJ9, "max", "(II)I"⟩
abbrev cJ9_min_7cf53 : ByteArray := prog_9_method_69_code
def yJ9_min_7cf53 : MethodName := ⟨RJ9, "min", "(II)I"⟩
def RJ7 : String := "java/util/Arrays"
def TJ7 : u_T := fun k => match k with
  | _ => ("", "", "", false)
def tyJ7 : Nat → FieldType := fun k => match k with
  | _ => .int
abbrev wsJ70 : List Cond := u_ws RJ7 TJ7 0
theorem nmJ7 : ∀ a, a < 0 → ∀ b, b < 0 → a ≠ b → (TJ7 a).2.1 ≠ (TJ7 b).2.1 := by decide +kernel
theorem tyJ7_ok : ∀ k, k < 0 → parseFieldDescriptor (TJ7 k).2.2.1 = some (tyJ7 k) := by decide +kernel
abbrev cJ7_fill_53178 : ByteArray := prog_10_method_103_code
def yJ7_fill_53178 : MethodName := ⟨RJ7, "fill", "([II)V"⟩
def RL : String := "SquarePlanesLaw"
abbrev cL_law : ByteArray := code
def yL_law : MethodName := ⟨RL, "law", "([I)Z"⟩
def wsL_law_r1 : List Cond := [Cond.classLink RL 7 RX5, Cond.instantiable RX5 7, Cond.initialized RX5, Cond.classLink RL 10 RX6, Cond.instantiable RX6 32, Cond.initialized RX6, Cond.methodLink RL 9 yX5_init, Cond.instanceMethod yX5_init, Cond.code yX5_init cX5_init 1 none, Cond.methodLink RX5 5 objectInit, Cond.instanceMethod objectInit, Cond.code objectInit ⟨#[0xb1]⟩ 1 none, Cond.classLink RX5 11 RX4, Cond.instantiable RX4 6, Cond.initialized RX4, Cond.fieldLink RX5 14 "SquarePlanes" "stations" "LSquarePlanes$Stations;", Cond.classLink RX5 18 RX2, Cond.instantiable RX2 5, Cond.initialized RX2, Cond.fieldLink RX5 21 "SquarePlanes" "poles" "LSquarePlanes$Poles;", Cond.classLink RX5 25 RX3, Cond.fieldLink RX5 27 "SquarePlanes" "rankings" "[LSquarePlanes$Ranking;", Cond.fieldLink RX5 31 "SquarePlanes" "sizeNow" "I", Cond.instantiable RX3 11]
def wsL_law_r2 : List Cond := [Cond.initialized RX3, Cond.classLink RX5 35 RX1, Cond.instantiable RX1 12, Cond.initialized RX1, Cond.fieldLink RX5 37 "SquarePlanes$Poles" "countUpTo" "[I", Cond.fieldLink RX5 47 "SquarePlanes" "current" "LSquarePlanes$Ranking;", Cond.fieldLink RX5 51 "SquarePlanes" "extraNow" "I", Cond.fieldLink RX5 54 "SquarePlanes" "version" "I", Cond.instanceMethod yX4_init, Cond.code yX4_init cX4_init 1 none, Cond.methodLink RX4 3 objectInit, Cond.arrayClass .boolean, Cond.fieldLink RX4 9 "SquarePlanes$Stations" "there" "[Z", Cond.arrayClass .int, Cond.fieldLink RX4 15 "SquarePlanes$Stations" "xs" "[I", Cond.fieldLink RX4 19 "SquarePlanes$Stations" "ys" "[I", Cond.fieldLink RX4 22 "SquarePlanes$Stations" "zs" "[I", Cond.fieldLink RX4 25 "SquarePlanes$Stations" "signs" "[I", Cond.fieldLink RX4 28 "SquarePlanes$Stations" "weights" "[I", Cond.methodLink RX5 20 yX2_init, Cond.instanceMethod yX2_init, Cond.code yX2_init cX2_init 4 none, Cond.methodLink RX2 3 objectInit, Cond.fieldLink RX2 9 "SquarePlanes$Poles" "xs" "[I"]
def wsL_law_r3 : List Cond := [Cond.fieldLink RX2 15 "SquarePlanes$Poles" "ys" "[I", Cond.fieldLink RX2 18 "SquarePlanes$Poles" "zs" "[I", Cond.fieldLink RX2 21 "SquarePlanes$Poles" "countUpTo" "[I", Cond.fieldLink RX2 28 "SquarePlanes$Poles" "count" "I", Cond.methodLink RX2 24 yX2_addShell, Cond.instanceMethod yX2_addShell, Cond.selects RX2 yX2_addShell yX2_addShell, Cond.code yX2_addShell cX2_addShell 6 none, Cond.methodLink RX2 32 yX2_reaches, Cond.static yX2_reaches, Cond.code yX2_reaches cX2_reaches 4 (some .boolean), Cond.methodLink RX2 40 Lib.Math.abs.name, Cond.static Lib.Math.abs.name, Cond.initialized "java/lang/Math", Cond.code Lib.Math.abs.name Lib.Math.abs.code 1 (some .int), Cond.methodLink RX2 36 yX2_addIfPole, Cond.instanceMethod yX2_addIfPole, Cond.selects RX2 yX2_addIfPole yX2_addIfPole, Cond.code yX2_addIfPole cX2_addIfPole 4 none, Cond.static yX5_signedDivisor, Cond.code yX5_signedDivisor cX5_signedDivisor 5 (some .int), Cond.methodLink RX5 252 yX5_commonDivisor, Cond.static yX5_commonDivisor, Cond.code yX5_commonDivisor cX5_commonDivisor 6 (some .int)]
def wsL_law_r4 : List Cond := [Cond.methodLink RX5 249 Lib.Math.abs.name, Cond.methodLink RX5 41 yX1_init, Cond.instanceMethod yX1_init, Cond.code yX1_init cX1_init 4 none, Cond.methodLink RX1 3 objectInit, Cond.fieldLink RX1 9 "SquarePlanes$Planes" "poles" "LSquarePlanes$Poles;", Cond.fieldLink RX1 15 "SquarePlanes$Planes" "poleCount" "I", Cond.fieldLink RX1 23 "SquarePlanes$Planes" "pairCount" "I", Cond.fieldLink RX1 26 "SquarePlanes$Planes" "lesser" "[I", Cond.fieldLink RX1 30 "SquarePlanes$Planes" "greater" "[I", Cond.fieldLink RX1 33 "SquarePlanes$Planes" "axisOf" "[I", Cond.fieldLink RX1 36 "SquarePlanes$Planes" "axisXs" "[I", Cond.fieldLink RX1 39 "SquarePlanes$Planes" "axisYs" "[I", Cond.fieldLink RX1 42 "SquarePlanes$Planes" "axisZs" "[I", Cond.fieldLink RX1 45 "SquarePlanes$Planes" "axisSquares" "[I", Cond.fieldLink RX1 48 "SquarePlanes$Planes" "poleSigns" "[I", Cond.methodLink RX1 19 yX1_countPairs, Cond.static yX1_countPairs, Cond.code yX1_countPairs cX1_countPairs 5 (some .int), Cond.methodLink RX1 58 yX2_areSquare, Cond.instanceMethod yX2_areSquare, Cond.selects RX2 yX2_areSquare yX2_areSquare, Cond.code yX2_areSquare cX2_areSquare 3 (some .boolean), Cond.methodLink RX2 50 yX2_dot]
def wsL_law_r5 : List Cond := [Cond.instanceMethod yX2_dot, Cond.selects RX2 yX2_dot yX2_dot, Cond.code yX2_dot cX2_dot 5 (some .int), Cond.methodLink RX1 51 yX1_fillPairs, Cond.instanceMethod yX1_fillPairs, Cond.selects RX1 yX1_fillPairs yX1_fillPairs, Cond.code yX1_fillPairs cX1_fillPairs 4 none, Cond.methodLink RX1 54 yX1_axisNumber, Cond.instanceMethod yX1_axisNumber, Cond.selects RX1 yX1_axisNumber yX1_axisNumber, Cond.code yX1_axisNumber cX1_axisNumber 7 (some .int), Cond.fieldLink RX1 64 "SquarePlanes$Poles" "ys" "[I", Cond.fieldLink RX1 67 "SquarePlanes$Poles" "zs" "[I", Cond.fieldLink RX1 70 "SquarePlanes$Poles" "xs" "[I", Cond.methodLink RX1 77 yX1_heldAxis, Cond.instanceMethod yX1_heldAxis, Cond.selects RX1 yX1_heldAxis yX1_heldAxis, Cond.code yX1_heldAxis cX1_heldAxis 5 (some .int), Cond.fieldLink RX1 80 "SquarePlanes$Planes" "axisCount" "I", Cond.methodLink RX5 44 yX3_init, Cond.instanceMethod yX3_init, Cond.code yX3_init cX3_init 2 none, Cond.methodLink RX3 3 objectInit, Cond.fieldLink RX3 9 "SquarePlanes$Ranking" "version" "I"]
def wsL_law_r6 : List Cond := [Cond.fieldLink RX3 15 "SquarePlanes$Ranking" "counted" "[I", Cond.fieldLink RX3 19 "SquarePlanes$Ranking" "begins" "[I", Cond.fieldLink RX3 22 "SquarePlanes$Ranking" "planes" "LSquarePlanes$Planes;", Cond.classLink RX3 26 RX0, Cond.instantiable RX0 11, Cond.initialized RX0, Cond.fieldLink RX3 31 "SquarePlanes$Ranking" "bundle" "LSquarePlanes$Bundle;", Cond.fieldLink RX3 41 "SquarePlanes$Ranking" "misfits" "[I", Cond.fieldLink RX3 44 "SquarePlanes$Planes" "pairCount" "I", Cond.fieldLink RX3 47 "SquarePlanes$Ranking" "nodals" "[I", Cond.fieldLink RX3 50 "SquarePlanes$Ranking" "order" "[I", Cond.fieldLink RX3 53 "SquarePlanes$Ranking" "places" "[I", Cond.methodLink RX3 28 yX0_init, Cond.instanceMethod yX0_init, Cond.code yX0_init cX0_init 2 none, Cond.methodLink RX0 1 objectInit, Cond.fieldLink RX0 7 "SquarePlanes$Bundle" "spreadLower" "I", Cond.fieldLink RX0 13 "SquarePlanes$Bundle" "version" "I", Cond.fieldLink RX0 16 "SquarePlanes$Bundle" "farLower" "I", Cond.fieldLink RX0 19 "SquarePlanes$Bundle" "planes" "LSquarePlanes$Planes;", Cond.fieldLink RX0 23 "SquarePlanes$Planes" "axisCount" "I", Cond.fieldLink RX0 28 "SquarePlanes$Bundle" "isHeld" "[Z", Cond.fieldLink RX0 32 "SquarePlanes$Bundle" "axes" "[I", Cond.fieldLink RX0 36 "SquarePlanes$Bundle" "firstSolutions" "[I"]
def wsL_law_r7 : List Cond := [Cond.methodLink RX3 35 yX1_solutionCount, Cond.instanceMethod yX1_solutionCount, Cond.selects RX1 yX1_solutionCount yX1_solutionCount, Cond.code yX1_solutionCount cX1_solutionCount 1 (some .int), Cond.methodLink RL 12 yX6_init, Cond.instanceMethod yX6_init, Cond.code yX6_init cX6_init 1 none, Cond.methodLink RX6 1 objectInit, Cond.fieldLink RX6 7 "SquarePlanesModel" "isThere" "[Z", Cond.fieldLink RX6 13 "SquarePlanesModel" "stationX" "[I", Cond.fieldLink RX6 17 "SquarePlanesModel" "stationY" "[I", Cond.fieldLink RX6 20 "SquarePlanesModel" "stationZ" "[I", Cond.fieldLink RX6 23 "SquarePlanesModel" "told" "[I", Cond.fieldLink RX6 26 "SquarePlanesModel" "weight" "[I", Cond.fieldLink RX6 29 "SquarePlanesModel" "size" "I", Cond.fieldLink RX6 33 "SquarePlanesModel" "poleX" "[I", Cond.fieldLink RX6 36 "SquarePlanesModel" "poleY" "[I", Cond.fieldLink RX6 39 "SquarePlanesModel" "poleZ" "[I", Cond.fieldLink RX6 42 "SquarePlanesModel" "lesser" "[I", Cond.fieldLink RX6 45 "SquarePlanesModel" "greater" "[I", Cond.fieldLink RX6 48 "SquarePlanesModel" "misfit" "[I", Cond.fieldLink RX6 51 "SquarePlanesModel" "nodal" "[I", Cond.fieldLink RX6 54 "SquarePlanesModel" "order" "[I", Cond.fieldLink RX6 57 "SquarePlanesModel" "placeOf" "[I"]
def wsL_law_r8 : List Cond := [Cond.fieldLink RX6 60 "SquarePlanesModel" "unlikeX" "[I", Cond.fieldLink RX6 63 "SquarePlanesModel" "unlikeY" "[I", Cond.fieldLink RX6 66 "SquarePlanesModel" "unlikeZ" "[I", Cond.arrayClass .long, Cond.fieldLink RX6 69 "SquarePlanesModel" "farUp" "[J", Cond.fieldLink RX6 73 "SquarePlanesModel" "farDown" "[J", Cond.fieldLink RX6 76 "SquarePlanesModel" "axisOf" "[I", Cond.methodLink RX6 79 yX6_makePoles, Cond.instanceMethod yX6_makePoles, Cond.selects RX6 yX6_makePoles yX6_makePoles, Cond.code yX6_makePoles cX6_makePoles 3 none, Cond.fieldLink RX6 123 "SquarePlanesModel" "poles" "I", Cond.fieldLink RX6 130 "SquarePlanesModel" "pairs" "I", Cond.fieldLink RX6 93 "SquarePlanesModel" "isKnown" "Z", Cond.methodLink RX6 126 yX6_addPoles, Cond.instanceMethod yX6_addPoles, Cond.selects RX6 yX6_addPoles yX6_addPoles, Cond.code yX6_addPoles cX6_addPoles 7 none, Cond.methodLink RX6 133 yX6_greaterSize, Cond.static yX6_greaterSize, Cond.code yX6_greaterSize cX6_greaterSize 4 (some .int), Cond.methodLink RX6 137 yX6_leading, Cond.static yX6_leading, Cond.code yX6_leading cX6_leading 3 (some .int)]
def wsL_law_r9 : List Cond := [Cond.methodLink RX6 86 yX6_signOf, Cond.static yX6_signOf, Cond.code yX6_signOf cX6_signOf 1 (some .int), Cond.methodLink RX6 141 yX6_common, Cond.static yX6_common, Cond.code yX6_common cX6_common 5 (some .int), Cond.methodLink RL 13 yX5_station, Cond.instanceMethod yX5_station, Cond.selects RX5 yX5_station yX5_station, Cond.code yX5_station cX5_station 6 (some .int), Cond.fieldLink RX5 61 "SquarePlanes$Stations" "there" "[Z", Cond.methodLink RX5 57 yX5_isTriple, Cond.static yX5_isTriple, Cond.code yX5_isTriple cX5_isTriple 3 (some .boolean), Cond.methodLink RX5 246 yX5_isNumber, Cond.static yX5_isNumber, Cond.code yX5_isNumber cX5_isNumber 1 (some .boolean), Cond.methodLink RX5 65 yX4_put, Cond.instanceMethod yX4_put, Cond.selects RX4 yX4_put yX4_put, Cond.code yX4_put cX4_put 5 none, Cond.methodLink RX4 31 yX4_aim, Cond.instanceMethod yX4_aim, Cond.selects RX4 yX4_aim yX4_aim]
def wsL_law_r10 : List Cond := [Cond.code yX4_aim cX4_aim 5 none, Cond.methodLink RL 17 yX6_station, Cond.instanceMethod yX6_station, Cond.selects RX6 yX6_station yX6_station, Cond.code yX6_station cX6_station 6 (some .int), Cond.methodLink RX6 82 yX6_within, Cond.static yX6_within, Cond.code yX6_within cX6_within 3 (some .boolean), Cond.methodLink RX6 90 yX6_isTriple, Cond.static yX6_isTriple, Cond.code yX6_isTriple cX6_isTriple 3 (some .boolean), Cond.methodLink RL 18 yX5_sign, Cond.instanceMethod yX5_sign, Cond.selects RX5 yX5_sign yX5_sign, Cond.code yX5_sign cX5_sign 4 (some .int), Cond.fieldLink RX5 73 "SquarePlanes$Stations" "signs" "[I", Cond.methodLink RX5 69 yX4_has, Cond.instanceMethod yX4_has, Cond.selects RX4 yX4_has yX4_has, Cond.code yX4_has cX4_has 2 (some .boolean), Cond.methodLink RL 22 yX6_sign, Cond.instanceMethod yX6_sign, Cond.selects RX6 yX6_sign yX6_sign, Cond.code yX6_sign cX6_sign 4 (some .int)]
def wsL_law_r11 : List Cond := [Cond.methodLink RX6 97 yX6_isStation, Cond.instanceMethod yX6_isStation, Cond.selects RX6 yX6_isStation yX6_isStation, Cond.code yX6_isStation cX6_isStation 2 (some .boolean), Cond.methodLink RL 23 yX5_weigh, Cond.instanceMethod yX5_weigh, Cond.selects RX5 yX5_weigh yX5_weigh, Cond.code yX5_weigh cX5_weigh 4 (some .int), Cond.fieldLink RX5 76 "SquarePlanes$Stations" "weights" "[I", Cond.methodLink RL 26 yX6_weigh, Cond.instanceMethod yX6_weigh, Cond.selects RX6 yX6_weigh yX6_weigh, Cond.code yX6_weigh cX6_weigh 4 (some .int), Cond.methodLink RL 27 yX5_drop, Cond.instanceMethod yX5_drop, Cond.selects RX5 yX5_drop yX5_drop, Cond.code yX5_drop cX5_drop 2 (some .int), Cond.methodLink RX5 79 yX4_count, Cond.instanceMethod yX4_count, Cond.selects RX4 yX4_count yX4_count, Cond.code yX4_count cX4_count 3 (some .int), Cond.methodLink RL 31 yX6_drop, Cond.instanceMethod yX6_drop, Cond.selects RX6 yX6_drop yX6_drop]
def wsL_law_r12 : List Cond := [Cond.code yX6_drop cX6_drop 2 (some .int), Cond.methodLink RX6 101 yX6_stations, Cond.instanceMethod yX6_stations, Cond.selects RX6 yX6_stations yX6_stations, Cond.code yX6_stations cX6_stations 3 (some .int), Cond.methodLink RL 32 yX5_turn, Cond.instanceMethod yX5_turn, Cond.selects RX5 yX5_turn yX5_turn, Cond.code yX5_turn cX5_turn 2 (some .int), Cond.methodLink RX5 83 yX4_turnAll, Cond.instanceMethod yX4_turnAll, Cond.selects RX4 yX4_turnAll yX4_turnAll, Cond.code yX4_turnAll cX4_turnAll 4 (some .int), Cond.methodLink RX4 45 yX4_turnOne, Cond.instanceMethod yX4_turnOne, Cond.selects RX4 yX4_turnOne yX4_turnOne, Cond.code yX4_turnOne cX4_turnOne 6 (some .boolean), Cond.methodLink RL 35 yX6_turn, Cond.instanceMethod yX6_turn, Cond.selects RX6 yX6_turn yX6_turn, Cond.code yX6_turn cX6_turn 4 (some .int), Cond.methodLink RX6 105 yX6_turns, Cond.instanceMethod yX6_turns, Cond.selects RX6 yX6_turns yX6_turns]
def wsL_law_r13 : List Cond := [Cond.code yX6_turns cX6_turns 6 (some .boolean), Cond.methodLink RL 36 yX5_ofStation, Cond.instanceMethod yX5_ofStation, Cond.selects RX5 yX5_ofStation yX5_ofStation, Cond.code yX5_ofStation cX5_ofStation 3 (some .int), Cond.fieldLink RX5 87 "SquarePlanes$Stations" "xs" "[I", Cond.fieldLink RX5 90 "SquarePlanes$Stations" "ys" "[I", Cond.fieldLink RX5 93 "SquarePlanes$Stations" "zs" "[I", Cond.methodLink RX5 96 yX5_keptAtStation, Cond.instanceMethod yX5_keptAtStation, Cond.selects RX5 yX5_keptAtStation yX5_keptAtStation, Cond.code yX5_keptAtStation cX5_keptAtStation 3 (some .int), Cond.methodLink RX5 144 yX5_rankingNow, Cond.instanceMethod yX5_rankingNow, Cond.selects RX5 yX5_rankingNow yX5_rankingNow, Cond.code yX5_rankingNow cX5_rankingNow 1 (some (.object "SquarePlanes$Ranking")), Cond.fieldLink RX5 223 "SquarePlanes$Ranking" "version" "I", Cond.methodLink RX5 224 yX3_refresh, Cond.instanceMethod yX3_refresh, Cond.selects RX3 yX3_refresh yX3_refresh, Cond.code yX3_refresh cX3_refresh 4 none, Cond.fieldLink RX3 72 "SquarePlanes$Ranking" "least" "I", Cond.methodLink RX3 75 Lib.Math.min.name, Cond.static Lib.Math.min.name]
def wsL_law_r14 : List Cond := [Cond.code Lib.Math.min.name Lib.Math.min.code 2 (some .int), Cond.methodLink RX3 56 yJ7_fill_53178, Cond.static yJ7_fill_53178, Cond.initialized RJ7, Cond.code yJ7_fill_53178 cJ7_fill_53178 4 none, Cond.methodLink RX3 62 yX4_isSigned, Cond.instanceMethod yX4_isSigned, Cond.selects RX4 yX4_isSigned yX4_isSigned, Cond.code yX4_isSigned cX4_isSigned 2 (some .boolean), Cond.methodLink RX3 68 yX3_addStation, Cond.instanceMethod yX3_addStation, Cond.selects RX3 yX3_addStation yX3_addStation, Cond.code yX3_addStation cX3_addStation 7 none, Cond.fieldLink RX3 88 "SquarePlanes$Stations" "xs" "[I", Cond.fieldLink RX3 91 "SquarePlanes$Stations" "ys" "[I", Cond.fieldLink RX3 94 "SquarePlanes$Stations" "zs" "[I", Cond.fieldLink RX3 101 "SquarePlanes$Stations" "weights" "[I", Cond.fieldLink RX3 104 "SquarePlanes$Stations" "signs" "[I", Cond.methodLink RX3 97 yX1_lookAlong, Cond.instanceMethod yX1_lookAlong, Cond.selects RX1 yX1_lookAlong yX1_lookAlong, Cond.code yX1_lookAlong cX1_lookAlong 5 none, Cond.methodLink RX1 87 yX2_dot, Cond.static yX5_signOf]
def wsL_law_r15 : List Cond := [Cond.code yX5_signOf cX5_signOf 1 (some .int), Cond.methodLink RX3 107 yX1_seenPairSign, Cond.instanceMethod yX1_seenPairSign, Cond.selects RX1 yX1_seenPairSign yX1_seenPairSign, Cond.code yX1_seenPairSign cX1_seenPairSign 2 (some .int), Cond.methodLink RX3 81 yX3_findBegins, Cond.instanceMethod yX3_findBegins, Cond.selects RX3 yX3_findBegins yX3_findBegins, Cond.code yX3_findBegins cX3_findBegins 3 none, Cond.fieldLink RX3 118 "SquarePlanes$Ranking" "keptCount" "I", Cond.methodLink RX3 111 yX3_isKept, Cond.instanceMethod yX3_isKept, Cond.selects RX3 yX3_isKept yX3_isKept, Cond.code yX3_isKept cX3_isKept 3 (some .boolean), Cond.methodLink RX3 115 yX3_rank, Cond.instanceMethod yX3_rank, Cond.selects RX3 yX3_rank yX3_rank, Cond.code yX3_rank cX3_rank 2 (some .int), Cond.methodLink RX3 85 yX3_placeKept, Cond.instanceMethod yX3_placeKept, Cond.selects RX3 yX3_placeKept yX3_placeKept, Cond.code yX3_placeKept cX3_placeKept 4 none, Cond.methodLink RX5 212 yX3_keptWithSign, Cond.instanceMethod yX3_keptWithSign]
def wsL_law_r16 : List Cond := [Cond.selects RX3 yX3_keptWithSign yX3_keptWithSign, Cond.code yX3_keptWithSign cX3_keptWithSign 7 (some .int), Cond.methodLink RX3 121 yX1_seenSign, Cond.instanceMethod yX1_seenSign, Cond.selects RX1 yX1_seenSign yX1_seenSign, Cond.code yX1_seenSign cX1_seenSign 2 (some .int), Cond.methodLink RX1 95 yX1_sense, Cond.static yX1_sense, Cond.code yX1_sense cX1_sense 1 (some .int), Cond.methodLink RX1 98 yX1_seenPairSign, Cond.methodLink RL 39 yX6_ofStation, Cond.instanceMethod yX6_ofStation, Cond.selects RX6 yX6_ofStation yX6_ofStation, Cond.code yX6_ofStation cX6_ofStation 3 (some .int), Cond.methodLink RX6 109 yX6_manyAt, Cond.instanceMethod yX6_manyAt, Cond.selects RX6 yX6_manyAt yX6_manyAt, Cond.code yX6_manyAt cX6_manyAt 6 (some .int), Cond.fieldLink RX6 116 "SquarePlanesModel" "kept" "I", Cond.methodLink RX6 113 yX6_knows, Cond.instanceMethod yX6_knows, Cond.selects RX6 yX6_knows yX6_knows, Cond.code yX6_knows cX6_knows 5 none, Cond.fieldLink RX6 153 "SquarePlanesModel" "least" "I"]
def wsL_law_r17 : List Cond := [Cond.fieldLink RX6 144 "SquarePlanesModel" "extra" "I", Cond.methodLink RX6 156 yX6_measures, Cond.instanceMethod yX6_measures, Cond.selects RX6 yX6_measures yX6_measures, Cond.code yX6_measures cX6_measures 4 none, Cond.methodLink RX6 119 yX6_signHere, Cond.instanceMethod yX6_signHere, Cond.selects RX6 yX6_signHere yX6_signHere, Cond.code yX6_signHere cX6_signHere 6 (some .int), Cond.methodLink RX6 150 yX6_poleSign, Cond.instanceMethod yX6_poleSign, Cond.selects RX6 yX6_poleSign yX6_poleSign, Cond.code yX6_poleSign cX6_poleSign 5 (some .int), Cond.methodLink RX6 159 yX6_findAxes, Cond.instanceMethod yX6_findAxes, Cond.selects RX6 yX6_findAxes yX6_findAxes, Cond.code yX6_findAxes cX6_findAxes 10 none, Cond.fieldLink RX6 181 "SquarePlanesModel" "axes" "I", Cond.fieldLink RX6 168 "SquarePlanesModel" "axisX" "I", Cond.fieldLink RX6 171 "SquarePlanesModel" "axisY" "I", Cond.fieldLink RX6 174 "SquarePlanesModel" "axisZ" "I", Cond.methodLink RX6 177 yX6_findAxis, Cond.instanceMethod yX6_findAxis, Cond.selects RX6 yX6_findAxis yX6_findAxis]
def wsL_law_r18 : List Cond := [Cond.code yX6_findAxis cX6_findAxis 8 none, Cond.methodLink RX6 184 yX6_square, Cond.instanceMethod yX6_square, Cond.selects RX6 yX6_square yX6_square, Cond.code yX6_square cX6_square 2 (some .int), Cond.methodLink RL 40 yX5_size, Cond.instanceMethod yX5_size, Cond.selects RX5 yX5_size yX5_size, Cond.code yX5_size cX5_size 3 (some .int), Cond.methodLink RX5 100 yX5_rankingOfSize, Cond.instanceMethod yX5_rankingOfSize, Cond.selects RX5 yX5_rankingOfSize yX5_rankingOfSize, Cond.code yX5_rankingOfSize cX5_rankingOfSize 3 (some (.object "SquarePlanes$Ranking")), Cond.methodLink RL 43 yX6_size, Cond.instanceMethod yX6_size, Cond.selects RX6 yX6_size yX6_size, Cond.code yX6_size cX6_size 3 (some .int), Cond.methodLink RL 44 yX5_extra, Cond.instanceMethod yX5_extra, Cond.selects RX5 yX5_extra yX5_extra, Cond.code yX5_extra cX5_extra 3 (some .int), Cond.methodLink RL 47 yX6_extra, Cond.instanceMethod yX6_extra, Cond.selects RX6 yX6_extra yX6_extra]
def wsL_law_r19 : List Cond := [Cond.code yX6_extra cX6_extra 3 (some .int), Cond.methodLink RL 48 yX5_pole, Cond.instanceMethod yX5_pole, Cond.selects RX5 yX5_pole yX5_pole, Cond.code yX5_pole cX5_pole 3 (some .int), Cond.fieldLink RX5 107 "SquarePlanes$Poles" "xs" "[I", Cond.fieldLink RX5 108 "SquarePlanes$Poles" "ys" "[I", Cond.fieldLink RX5 109 "SquarePlanes$Poles" "zs" "[I", Cond.methodLink RX5 104 yX5_isPole, Cond.instanceMethod yX5_isPole, Cond.selects RX5 yX5_isPole yX5_isPole, Cond.code yX5_isPole cX5_isPole 2 (some .boolean), Cond.methodLink RL 51 yX6_pole, Cond.instanceMethod yX6_pole, Cond.selects RX6 yX6_pole yX6_pole, Cond.code yX6_pole cX6_pole 3 (some .int), Cond.methodLink RX6 147 yX6_isPole, Cond.instanceMethod yX6_isPole, Cond.selects RX6 yX6_isPole yX6_isPole, Cond.code yX6_isPole cX6_isPole 2 (some .boolean), Cond.methodLink RL 52 yX5_poleOf, Cond.instanceMethod yX5_poleOf, Cond.selects RX5 yX5_poleOf yX5_poleOf, Cond.code yX5_poleOf cX5_poleOf 5 (some .int)]
def wsL_law_r20 : List Cond := [Cond.methodLink RX5 110 yX5_signedDivisor, Cond.methodLink RX5 114 yX2_find, Cond.instanceMethod yX2_find, Cond.selects RX2 yX2_find yX2_find, Cond.code yX2_find cX2_find 6 (some .int), Cond.methodLink RL 56 yX6_poleOf, Cond.instanceMethod yX6_poleOf, Cond.selects RX6 yX6_poleOf yX6_poleOf, Cond.code yX6_poleOf cX6_poleOf 6 (some .int), Cond.methodLink RL 57 yX5_pair, Cond.instanceMethod yX5_pair, Cond.selects RX5 yX5_pair yX5_pair, Cond.code yX5_pair cX5_pair 4 (some .int), Cond.fieldLink RX5 118 "SquarePlanes$Ranking" "planes" "LSquarePlanes$Planes;", Cond.fieldLink RX5 122 "SquarePlanes$Planes" "pairCount" "I", Cond.fieldLink RX5 125 "SquarePlanes$Planes" "lesser" "[I", Cond.fieldLink RX5 128 "SquarePlanes$Planes" "greater" "[I", Cond.methodLink RL 60 yX6_pair, Cond.instanceMethod yX6_pair, Cond.selects RX6 yX6_pair yX6_pair, Cond.code yX6_pair cX6_pair 3 (some .int), Cond.methodLink RL 61 yX5_pairOf, Cond.instanceMethod yX5_pairOf, Cond.selects RX5 yX5_pairOf yX5_pairOf]
def wsL_law_r21 : List Cond := [Cond.code yX5_pairOf cX5_pairOf 3 (some .int), Cond.methodLink RX5 131 Lib.Math.min.name, Cond.methodLink RX5 136 Lib.Math.max.name, Cond.static Lib.Math.max.name, Cond.code Lib.Math.max.name Lib.Math.max.code 2 (some .int), Cond.methodLink RX5 139 yX1_find, Cond.instanceMethod yX1_find, Cond.selects RX1 yX1_find yX1_find, Cond.code yX1_find cX1_find 4 (some .int), Cond.methodLink RL 64 yX6_pairOf, Cond.instanceMethod yX6_pairOf, Cond.selects RX6 yX6_pairOf yX6_pairOf, Cond.code yX6_pairOf cX6_pairOf 4 (some .int), Cond.methodLink RL 65 yX5_solution, Cond.instanceMethod yX5_solution, Cond.selects RX5 yX5_solution yX5_solution, Cond.code yX5_solution cX5_solution 4 (some .int), Cond.fieldLink RX5 148 "SquarePlanes$Ranking" "misfits" "[I", Cond.fieldLink RX5 151 "SquarePlanes$Ranking" "nodals" "[I", Cond.fieldLink RX5 161 "SquarePlanes$Ranking" "places" "[I", Cond.methodLink RX5 141 yX1_hasSolution, Cond.instanceMethod yX1_hasSolution, Cond.selects RX1 yX1_hasSolution yX1_hasSolution, Cond.code yX1_hasSolution cX1_hasSolution 2 (some .boolean)]
def wsL_law_r22 : List Cond := [Cond.methodLink RX1 83 yX1_solutionCount, Cond.methodLink RX5 154 yX4_countAgainst, Cond.instanceMethod yX4_countAgainst, Cond.selects RX4 yX4_countAgainst yX4_countAgainst, Cond.code yX4_countAgainst cX4_countAgainst 5 (some .int), Cond.methodLink RX4 35 yX4_isSigned, Cond.methodLink RX4 39 yX1_signAlong, Cond.instanceMethod yX1_signAlong, Cond.selects RX1 yX1_signAlong yX1_signAlong, Cond.code yX1_signAlong cX1_signAlong 7 (some .int), Cond.methodLink RX5 158 yX1_signAlong, Cond.methodLink RL 68 yX6_solution, Cond.instanceMethod yX6_solution, Cond.selects RX6 yX6_solution yX6_solution, Cond.code yX6_solution cX6_solution 3 (some .int), Cond.methodLink RX6 162 yX6_isSolution, Cond.instanceMethod yX6_isSolution, Cond.selects RX6 yX6_isSolution yX6_isSolution, Cond.code yX6_isSolution cX6_isSolution 2 (some .boolean), Cond.methodLink RX6 165 yX6_against, Cond.instanceMethod yX6_against, Cond.selects RX6 yX6_against yX6_against, Cond.code yX6_against cX6_against 5 (some .int), Cond.methodLink RL 69 yX5_signAt]
def wsL_law_r23 : List Cond := [Cond.instanceMethod yX5_signAt, Cond.selects RX5 yX5_signAt yX5_signAt, Cond.code yX5_signAt cX5_signAt 6 (some .int), Cond.methodLink RL 72 yX6_signAt, Cond.instanceMethod yX6_signAt, Cond.selects RX6 yX6_signAt yX6_signAt, Cond.code yX6_signAt cX6_signAt 5 (some .int), Cond.methodLink RL 73 yX5_kept, Cond.instanceMethod yX5_kept, Cond.selects RX5 yX5_kept yX5_kept, Cond.code yX5_kept cX5_kept 3 (some .int), Cond.fieldLink RX5 164 "SquarePlanes$Ranking" "keptCount" "I", Cond.fieldLink RX5 167 "SquarePlanes$Ranking" "order" "[I", Cond.methodLink RL 76 yX6_kept, Cond.instanceMethod yX6_kept, Cond.selects RX6 yX6_kept yX6_kept, Cond.code yX6_kept cX6_kept 2 (some .int), Cond.methodLink RL 77 yX5_axis, Cond.instanceMethod yX5_axis, Cond.selects RX5 yX5_axis yX5_axis, Cond.code yX5_axis cX5_axis 5 (some .int), Cond.fieldLink RX5 170 "SquarePlanes$Planes" "axisOf" "[I", Cond.fieldLink RX5 173 "SquarePlanes$Planes" "axisXs" "[I", Cond.fieldLink RX5 176 "SquarePlanes$Planes" "axisYs" "[I"]
def wsL_law_r24 : List Cond := [Cond.fieldLink RX5 179 "SquarePlanes$Planes" "axisZs" "[I", Cond.methodLink RL 80 yX6_axis, Cond.instanceMethod yX6_axis, Cond.selects RX6 yX6_axis yX6_axis, Cond.code yX6_axis cX6_axis 3 (some .int), Cond.methodLink RL 81 yX5_apart, Cond.instanceMethod yX5_apart, Cond.selects RX5 yX5_apart yX5_apart, Cond.code yX5_apart cX5_apart 7 (some .long), Cond.constantLong RX5 182 (-9223372036854775808), Cond.methodLink RX5 184 yX1_apartUpper, Cond.instanceMethod yX1_apartUpper, Cond.selects RX1 yX1_apartUpper yX1_apartUpper, Cond.code yX1_apartUpper cX1_apartUpper 4 (some .int), Cond.methodLink RX1 101 yX1_axisDot, Cond.instanceMethod yX1_axisDot, Cond.selects RX1 yX1_axisDot yX1_axisDot, Cond.code yX1_axisDot cX1_axisDot 3 (some .int), Cond.methodLink RX1 104 yX1_apartLower, Cond.instanceMethod yX1_apartLower, Cond.selects RX1 yX1_apartLower yX1_apartLower, Cond.code yX1_apartLower cX1_apartLower 3 (some .int), Cond.methodLink RX5 187 yX1_apartLower, Cond.methodLink RX5 190 yX5_leastTerm]
def wsL_law_r25 : List Cond := [Cond.static yX5_leastTerm, Cond.code yX5_leastTerm cX5_leastTerm 4 (some .long), Cond.methodLink RL 85 yX6_apart, Cond.instanceMethod yX6_apart, Cond.selects RX6 yX6_apart yX6_apart, Cond.code yX6_apart cX6_apart 11 (some .long), Cond.constantLong RX6 187 (-9223372036854775808), Cond.methodLink RX6 189 yX6_inLeastTerms, Cond.static yX6_inLeastTerms, Cond.code yX6_inLeastTerms cX6_inLeastTerms 11 (some .long), Cond.methodLink RL 86 yX5_spread, Cond.instanceMethod yX5_spread, Cond.selects RX5 yX5_spread yX5_spread, Cond.code yX5_spread cX5_spread 3 (some .long), Cond.fieldLink RX5 198 "SquarePlanes$Bundle" "spreadUpper" "I", Cond.fieldLink RX5 203 "SquarePlanes$Bundle" "spreadLower" "I", Cond.methodLink RX5 194 yX5_bundleNow, Cond.instanceMethod yX5_bundleNow, Cond.selects RX5 yX5_bundleNow yX5_bundleNow, Cond.code yX5_bundleNow cX5_bundleNow 3 (some (.object "SquarePlanes$Bundle")), Cond.fieldLink RX5 228 "SquarePlanes$Ranking" "bundle" "LSquarePlanes$Bundle;", Cond.fieldLink RX5 232 "SquarePlanes$Bundle" "version" "I", Cond.methodLink RX5 233 yX0_refresh, Cond.instanceMethod yX0_refresh]
def wsL_law_r26 : List Cond := [Cond.selects RX0 yX0_refresh yX0_refresh, Cond.code yX0_refresh cX0_refresh 5 none, Cond.fieldLink RX0 43 "SquarePlanes$Bundle" "spreadUpper" "I", Cond.fieldLink RX0 46 "SquarePlanes$Bundle" "count" "I", Cond.fieldLink RX0 53 "SquarePlanes$Bundle" "farUpper" "I", Cond.fieldLink RX0 62 "SquarePlanes$Bundle" "centreSolution" "I", Cond.methodLink RX0 39 yX0_gather, Cond.instanceMethod yX0_gather, Cond.selects RX0 yX0_gather yX0_gather, Cond.code yX0_gather cX0_gather 5 none, Cond.fieldLink RX0 65 "SquarePlanes$Ranking" "keptCount" "I", Cond.fieldLink RX0 70 "SquarePlanes$Ranking" "order" "[I", Cond.fieldLink RX0 73 "SquarePlanes$Planes" "axisOf" "[I", Cond.methodLink RX0 49 yX0_findFarthest, Cond.instanceMethod yX0_findFarthest, Cond.selects RX0 yX0_findFarthest yX0_findFarthest, Cond.code yX0_findFarthest cX0_findFarthest 5 none, Cond.methodLink RX0 76 yX1_apartUpper, Cond.methodLink RX0 80 yX1_apartLower, Cond.static yX5_isGreater, Cond.code yX5_isGreater cX5_isGreater 4 (some .boolean), Cond.methodLink RL 90 yX6_spread, Cond.instanceMethod yX6_spread, Cond.selects RX6 yX6_spread yX6_spread]
def wsL_law_r27 : List Cond := [Cond.code yX6_spread cX6_spread 4 (some .long), Cond.methodLink RL 91 yX5_centre, Cond.instanceMethod yX5_centre, Cond.selects RX5 yX5_centre yX5_centre, Cond.code yX5_centre cX5_centre 1 (some .int), Cond.fieldLink RX5 206 "SquarePlanes$Bundle" "centreSolution" "I", Cond.methodLink RL 95 yX6_centre, Cond.instanceMethod yX6_centre, Cond.selects RX6 yX6_centre yX6_centre, Cond.code yX6_centre cX6_centre 5 (some .int), Cond.methodLink RL 96 yX5_without, Cond.instanceMethod yX5_without, Cond.selects RX5 yX5_without yX5_without, Cond.code yX5_without cX5_without 3 (some .int), Cond.methodLink RX5 209 yX5_wouldBe, Cond.instanceMethod yX5_wouldBe, Cond.selects RX5 yX5_wouldBe yX5_wouldBe, Cond.code yX5_wouldBe cX5_wouldBe 6 (some .int), Cond.methodLink RX5 236 yX3_countMisfitsWith, Cond.instanceMethod yX3_countMisfitsWith, Cond.selects RX3 yX3_countMisfitsWith yX3_countMisfitsWith, Cond.code yX3_countMisfitsWith cX3_countMisfitsWith 10 none, Cond.methodLink RX5 240 yX3_lowestCounted, Cond.instanceMethod yX3_lowestCounted]
def wsL_law_r28 : List Cond := [Cond.selects RX3 yX3_lowestCounted yX3_lowestCounted, Cond.code yX3_lowestCounted cX3_lowestCounted 2 (some .int), Cond.methodLink RX5 243 yX3_countedFrom, Cond.instanceMethod yX3_countedFrom, Cond.selects RX3 yX3_countedFrom yX3_countedFrom, Cond.code yX3_countedFrom cX3_countedFrom 5 (some .int), Cond.methodLink RL 99 yX6_without, Cond.instanceMethod yX6_without, Cond.selects RX6 yX6_without yX6_without, Cond.code yX6_without cX6_without 4 (some .int), Cond.methodLink RX6 193 yX6_tellMeasures, Cond.instanceMethod yX6_tellMeasures, Cond.selects RX6 yX6_tellMeasures yX6_tellMeasures, Cond.code yX6_tellMeasures cX6_tellMeasures 2 (some .int), Cond.methodLink RL 100 yX5_turned, Cond.instanceMethod yX5_turned, Cond.selects RX5 yX5_turned yX5_turned, Cond.code yX5_turned cX5_turned 4 (some .int), Cond.methodLink RL 103 yX6_turned, Cond.instanceMethod yX6_turned, Cond.selects RX6 yX6_turned yX6_turned, Cond.code yX6_turned cX6_turned 4 (some .int), Cond.methodLink RL 104 yX5_foretold, Cond.instanceMethod yX5_foretold]
def wsL_law_r29 : List Cond := [Cond.selects RX5 yX5_foretold yX5_foretold, Cond.code yX5_foretold cX5_foretold 5 (some .int), Cond.methodLink RL 107 yX6_foretold, Cond.instanceMethod yX6_foretold, Cond.selects RX6 yX6_foretold yX6_foretold, Cond.code yX6_foretold cX6_foretold 7 (some .int), Cond.methodLink RL 108 yX5_many, Cond.instanceMethod yX5_many, Cond.selects RX5 yX5_many yX5_many, Cond.code yX5_many cX5_many 2 (some .int), Cond.fieldLink RX5 215 "SquarePlanes$Ranking" "least" "I", Cond.fieldLink RX5 218 "SquarePlanes$Bundle" "count" "I", Cond.methodLink RX5 220 yX4_signedWeight, Cond.instanceMethod yX4_signedWeight, Cond.selects RX4 yX4_signedWeight yX4_signedWeight, Cond.code yX4_signedWeight cX4_signedWeight 3 (some .int), Cond.methodLink RL 111 yX6_many, Cond.instanceMethod yX6_many, Cond.selects RX6 yX6_many yX6_many, Cond.code yX6_many cX6_many 2 (some .int), Cond.methodLink RX6 196 yX6_foretold, Cond.methodLink RX6 199 yX6_weights, Cond.instanceMethod yX6_weights, Cond.selects RX6 yX6_weights yX6_weights]
def wsL_law_r30 : List Cond := [Cond.code yX6_weights cX6_weights 3 (some .int)]
def wsL_law : List Cond := (wsL_law_r1 ++ (wsL_law_r2 ++ (wsL_law_r3 ++ (wsL_law_r4 ++ (wsL_law_r5 ++ (wsL_law_r6 ++ (wsL_law_r7 ++ (wsL_law_r8 ++ (wsL_law_r9 ++ (wsL_law_r10 ++ (wsL_law_r11 ++ (wsL_law_r12 ++ (wsL_law_r13 ++ (wsL_law_r14 ++ (wsL_law_r15 ++ (wsL_law_r16 ++ (wsL_law_r17 ++ (wsL_law_r18 ++ (wsL_law_r19 ++ (wsL_law_r20 ++ (wsL_law_r21 ++ (wsL_law_r22 ++ (wsL_law_r23 ++ (wsL_law_r24 ++ (wsL_law_r25 ++ (wsL_law_r26 ++ (wsL_law_r27 ++ (wsL_law_r28 ++ (wsL_law_r29 ++ wsL_law_r30))))))))))))))))))))))))))))) ++ wsX50 ++ wsX60 ++ wsX40 ++ wsX20 ++ wsX30 ++ wsX10 ++ wsX00 ++ ([] : List Cond)
theorem inlX0 : ∀ w ∈ wsX00, w ∈ wsL_law := fun _ h => List.mem_append_left _ (List.mem_append_right _ h)
theorem inlX1 : ∀ w ∈ wsX10, w ∈ wsL_law := fun _ h => List.mem_append_left _ (List.mem_append_left _ (List.mem_append_right _ h))
theorem inlX2 : ∀ w ∈ wsX20, w ∈ wsL_law := fun _ h => List.mem_append_left _ (List.mem_append_left _ (List.mem_append_left _ (List.mem_append_left _ (List.mem_append_right _ h))))
theorem inlX3 : ∀ w ∈ wsX30, w ∈ wsL_law := fun _ h => List.mem_append_left _ (List.mem_append_left _ (List.mem_append_left _ (List.mem_append_right _ h)))
theorem inlX4 : ∀ w ∈ wsX40, w ∈ wsL_law := fun _ h => List.mem_append_left _ (List.mem_append_left _ (List.mem_append_left _ (List.mem_append_left _ (List.mem_append_left _ (List.mem_append_right _ h)))))
theorem inlX5 : ∀ w ∈ wsX50, w ∈ wsL_law := fun _ h => List.mem_append_left _ (List.mem_append_left _ (List.mem_append_left _ (List.mem_append_left _ (List.mem_append_left _ (List.mem_append_left _ (List.mem_append_left _ (List.mem_append_right _ h)))))))
theorem inlX6 : ∀ w ∈ wsX60, w ∈ wsL_law := fun _ h => List.mem_append_left _ (List.mem_append_left _ (List.mem_append_left _ (List.mem_append_left _ (List.mem_append_left _ (List.mem_append_left _ (List.mem_append_right _ h))))))
abbrev vwCl : List vw_C := [(RX0, TX0, 11), (RX1, TX1, 12), (RX2, TX2, 5), (RX3, TX3, 11), (RX4, TX4, 6), (RX5, TX5, 7), (RX6, TX6, 32)]
set_option maxRecDepth 20000 in
theorem ggL : GoodIn wsL_law wsL_law := goodIn_sub (fun _ h => h) (by decide +kernel)
theorem lfL_1 : ∀ w ∈ wsL_law_r1, w ∈ wsL_law := fun _ h => List.mem_append_left _ (List.mem_append_left _ (List.mem_append_left _ (List.mem_append_left _ (List.mem_append_left _ (List.mem_append_left _ (List.mem_append_left _ (List.mem_append_left _ (List.mem_append_left _ h))))))))
theorem lfL_2 : ∀ w ∈ wsL_law_r2, w ∈ wsL_law := fun _ h => List.mem_append_left _ (List.mem_append_left _ (List.mem_append_left _ (List.mem_append_left _ (List.mem_append_left _ (List.mem_append_left _ (List.mem_append_left _ (List.mem_append_left _ (List.mem_append_right _ (List.mem_append_left _ h)))))))))
theorem lfL_3 : ∀ w ∈ wsL_law_r3, w ∈ wsL_law := fun _ h => List.mem_append_left _ (List.mem_append_left _ (List.mem_append_left _ (List.mem_append_left _ (List.mem_append_left _ (List.mem_append_left _ (List.mem_append_left _ (List.mem_append_left _ (List.mem_append_right _ (List.mem_append_right _ (List.mem_append_left _ h))))))))))
theorem lfL_4 : ∀ w ∈ wsL_law_r4, w ∈ wsL_law := fun _ h => List.mem_append_left _ (List.mem_append_left _ (List.mem_append_left _ (List.mem_append_left _ (List.mem_append_left _ (List.mem_append_left _ (List.mem_append_left _ (List.mem_append_left _ (List.mem_append_right _ (List.mem_append_right _ (List.mem_append_right _ (List.mem_append_left _ h)))))))))))
theorem lfL_5 : ∀ w ∈ wsL_law_r5, w ∈ wsL_law := fun _ h => List.mem_append_left _ (List.mem_append_left _ (List.mem_append_left _ (List.mem_append_left _ (List.mem_append_left _ (List.mem_append_left _ (List.mem_append_left _ (List.mem_append_left _ (List.mem_append_right _ (List.mem_append_right _ (List.mem_append_right _ (List.mem_append_right _ (List.mem_append_left _ h))))))))))))
theorem lfL_6 : ∀ w ∈ wsL_law_r6, w ∈ wsL_law := fun _ h => List.mem_append_left _ (List.mem_append_left _ (List.mem_append_left _ (List.mem_append_left _ (List.mem_append_left _ (List.mem_append_left _ (List.mem_append_left _ (List.mem_append_left _ (List.mem_append_right _ (List.mem_append_right _ (List.mem_append_right _ (List.mem_append_right _ (List.mem_append_right _ (List.mem_append_left _ h)))))))))))))
theorem lfL_7 : ∀ w ∈ wsL_law_r7, w ∈ wsL_law := fun _ h => List.mem_append_left _ (List.mem_append_left _ (List.mem_append_left _ (List.mem_append_left _ (List.mem_append_left _ (List.mem_append_left _ (List.mem_append_left _ (List.mem_append_left _ (List.mem_append_right _ (List.mem_append_right _ (List.mem_append_right _ (List.mem_append_right _ (List.mem_append_right _ (List.mem_append_right _ (List.mem_append_left _ h))))))))))))))
theorem lfL_8 : ∀ w ∈ wsL_law_r8, w ∈ wsL_law := fun _ h => List.mem_append_left _ (List.mem_append_left _ (List.mem_append_left _ (List.mem_append_left _ (List.mem_append_left _ (List.mem_append_left _ (List.mem_append_left _ (List.mem_append_left _ (List.mem_append_right _ (List.mem_append_right _ (List.mem_append_right _ (List.mem_append_right _ (List.mem_append_right _ (List.mem_append_right _ (List.mem_append_right _ (List.mem_append_left _ h)))))))))))))))
theorem lfL_9 : ∀ w ∈ wsL_law_r9, w ∈ wsL_law := fun _ h => List.mem_append_left _ (List.mem_append_left _ (List.mem_append_left _ (List.mem_append_left _ (List.mem_append_left _ (List.mem_append_left _ (List.mem_append_left _ (List.mem_append_left _ (List.mem_append_right _ (List.mem_append_right _ (List.mem_append_right _ (List.mem_append_right _ (List.mem_append_right _ (List.mem_append_right _ (List.mem_append_right _ (List.mem_append_right _ (List.mem_append_left _ h))))))))))))))))
theorem lfL_10 : ∀ w ∈ wsL_law_r10, w ∈ wsL_law := fun _ h => List.mem_append_left _ (List.mem_append_left _ (List.mem_append_left _ (List.mem_append_left _ (List.mem_append_left _ (List.mem_append_left _ (List.mem_append_left _ (List.mem_append_left _ (List.mem_append_right _ (List.mem_append_right _ (List.mem_append_right _ (List.mem_append_right _ (List.mem_append_right _ (List.mem_append_right _ (List.mem_append_right _ (List.mem_append_right _ (List.mem_append_right _ (List.mem_append_left _ h)))))))))))))))))
theorem lfL_11 : ∀ w ∈ wsL_law_r11, w ∈ wsL_law := fun _ h => List.mem_append_left _ (List.mem_append_left _ (List.mem_append_left _ (List.mem_append_left _ (List.mem_append_left _ (List.mem_append_left _ (List.mem_append_left _ (List.mem_append_left _ (List.mem_append_right _ (List.mem_append_right _ (List.mem_append_right _ (List.mem_append_right _ (List.mem_append_right _ (List.mem_append_right _ (List.mem_append_right _ (List.mem_append_right _ (List.mem_append_right _ (List.mem_append_right _ (List.mem_append_left _ h))))))))))))))))))
theorem lfL_12 : ∀ w ∈ wsL_law_r12, w ∈ wsL_law := fun _ h => List.mem_append_left _ (List.mem_append_left _ (List.mem_append_left _ (List.mem_append_left _ (List.mem_append_left _ (List.mem_append_left _ (List.mem_append_left _ (List.mem_append_left _ (List.mem_append_right _ (List.mem_append_right _ (List.mem_append_right _ (List.mem_append_right _ (List.mem_append_right _ (List.mem_append_right _ (List.mem_append_right _ (List.mem_append_right _ (List.mem_append_right _ (List.mem_append_right _ (List.mem_append_right _ (List.mem_append_left _ h)))))))))))))))))))
theorem lfL_13 : ∀ w ∈ wsL_law_r13, w ∈ wsL_law := fun _ h => List.mem_append_left _ (List.mem_append_left _ (List.mem_append_left _ (List.mem_append_left _ (List.mem_append_left _ (List.mem_append_left _ (List.mem_append_left _ (List.mem_append_left _ (List.mem_append_right _ (List.mem_append_right _ (List.mem_append_right _ (List.mem_append_right _ (List.mem_append_right _ (List.mem_append_right _ (List.mem_append_right _ (List.mem_append_right _ (List.mem_append_right _ (List.mem_append_right _ (List.mem_append_right _ (List.mem_append_right _ (List.mem_append_left _ h))))))))))))))))))))
theorem lfL_14 : ∀ w ∈ wsL_law_r14, w ∈ wsL_law := fun _ h => List.mem_append_left _ (List.mem_append_left _ (List.mem_append_left _ (List.mem_append_left _ (List.mem_append_left _ (List.mem_append_left _ (List.mem_append_left _ (List.mem_append_left _ (List.mem_append_right _ (List.mem_append_right _ (List.mem_append_right _ (List.mem_append_right _ (List.mem_append_right _ (List.mem_append_right _ (List.mem_append_right _ (List.mem_append_right _ (List.mem_append_right _ (List.mem_append_right _ (List.mem_append_right _ (List.mem_append_right _ (List.mem_append_right _ (List.mem_append_left _ h)))))))))))))))))))))
theorem lfL_15 : ∀ w ∈ wsL_law_r15, w ∈ wsL_law := fun _ h => List.mem_append_left _ (List.mem_append_left _ (List.mem_append_left _ (List.mem_append_left _ (List.mem_append_left _ (List.mem_append_left _ (List.mem_append_left _ (List.mem_append_left _ (List.mem_append_right _ (List.mem_append_right _ (List.mem_append_right _ (List.mem_append_right _ (List.mem_append_right _ (List.mem_append_right _ (List.mem_append_right _ (List.mem_append_right _ (List.mem_append_right _ (List.mem_append_right _ (List.mem_append_right _ (List.mem_append_right _ (List.mem_append_right _ (List.mem_append_right _ (List.mem_append_left _ h))))))))))))))))))))))
theorem lfL_16 : ∀ w ∈ wsL_law_r16, w ∈ wsL_law := fun _ h => List.mem_append_left _ (List.mem_append_left _ (List.mem_append_left _ (List.mem_append_left _ (List.mem_append_left _ (List.mem_append_left _ (List.mem_append_left _ (List.mem_append_left _ (List.mem_append_right _ (List.mem_append_right _ (List.mem_append_right _ (List.mem_append_right _ (List.mem_append_right _ (List.mem_append_right _ (List.mem_append_right _ (List.mem_append_right _ (List.mem_append_right _ (List.mem_append_right _ (List.mem_append_right _ (List.mem_append_right _ (List.mem_append_right _ (List.mem_append_right _ (List.mem_append_right _ (List.mem_append_left _ h)))))))))))))))))))))))
theorem lfL_17 : ∀ w ∈ wsL_law_r17, w ∈ wsL_law := fun _ h => List.mem_append_left _ (List.mem_append_left _ (List.mem_append_left _ (List.mem_append_left _ (List.mem_append_left _ (List.mem_append_left _ (List.mem_append_left _ (List.mem_append_left _ (List.mem_append_right _ (List.mem_append_right _ (List.mem_append_right _ (List.mem_append_right _ (List.mem_append_right _ (List.mem_append_right _ (List.mem_append_right _ (List.mem_append_right _ (List.mem_append_right _ (List.mem_append_right _ (List.mem_append_right _ (List.mem_append_right _ (List.mem_append_right _ (List.mem_append_right _ (List.mem_append_right _ (List.mem_append_right _ (List.mem_append_left _ h))))))))))))))))))))))))
theorem lfL_18 : ∀ w ∈ wsL_law_r18, w ∈ wsL_law := fun _ h => List.mem_append_left _ (List.mem_append_left _ (List.mem_append_left _ (List.mem_append_left _ (List.mem_append_left _ (List.mem_append_left _ (List.mem_append_left _ (List.mem_append_left _ (List.mem_append_right _ (List.mem_append_right _ (List.mem_append_right _ (List.mem_append_right _ (List.mem_append_right _ (List.mem_append_right _ (List.mem_append_right _ (List.mem_append_right _ (List.mem_append_right _ (List.mem_append_right _ (List.mem_append_right _ (List.mem_append_right _ (List.mem_append_right _ (List.mem_append_right _ (List.mem_append_right _ (List.mem_append_right _ (List.mem_append_right _ (List.mem_append_left _ h)))))))))))))))))))))))))
theorem lfL_19 : ∀ w ∈ wsL_law_r19, w ∈ wsL_law := fun _ h => List.mem_append_left _ (List.mem_append_left _ (List.mem_append_left _ (List.mem_append_left _ (List.mem_append_left _ (List.mem_append_left _ (List.mem_append_left _ (List.mem_append_left _ (List.mem_append_right _ (List.mem_append_right _ (List.mem_append_right _ (List.mem_append_right _ (List.mem_append_right _ (List.mem_append_right _ (List.mem_append_right _ (List.mem_append_right _ (List.mem_append_right _ (List.mem_append_right _ (List.mem_append_right _ (List.mem_append_right _ (List.mem_append_right _ (List.mem_append_right _ (List.mem_append_right _ (List.mem_append_right _ (List.mem_append_right _ (List.mem_append_right _ (List.mem_append_left _ h))))))))))))))))))))))))))
theorem lfL_20 : ∀ w ∈ wsL_law_r20, w ∈ wsL_law := fun _ h => List.mem_append_left _ (List.mem_append_left _ (List.mem_append_left _ (List.mem_append_left _ (List.mem_append_left _ (List.mem_append_left _ (List.mem_append_left _ (List.mem_append_left _ (List.mem_append_right _ (List.mem_append_right _ (List.mem_append_right _ (List.mem_append_right _ (List.mem_append_right _ (List.mem_append_right _ (List.mem_append_right _ (List.mem_append_right _ (List.mem_append_right _ (List.mem_append_right _ (List.mem_append_right _ (List.mem_append_right _ (List.mem_append_right _ (List.mem_append_right _ (List.mem_append_right _ (List.mem_append_right _ (List.mem_append_right _ (List.mem_append_right _ (List.mem_append_right _ (List.mem_append_left _ h)))))))))))))))))))))))))))
theorem lfL_21 : ∀ w ∈ wsL_law_r21, w ∈ wsL_law := fun _ h => List.mem_append_left _ (List.mem_append_left _ (List.mem_append_left _ (List.mem_append_left _ (List.mem_append_left _ (List.mem_append_left _ (List.mem_append_left _ (List.mem_append_left _ (List.mem_append_right _ (List.mem_append_right _ (List.mem_append_right _ (List.mem_append_right _ (List.mem_append_right _ (List.mem_append_right _ (List.mem_append_right _ (List.mem_append_right _ (List.mem_append_right _ (List.mem_append_right _ (List.mem_append_right _ (List.mem_append_right _ (List.mem_append_right _ (List.mem_append_right _ (List.mem_append_right _ (List.mem_append_right _ (List.mem_append_right _ (List.mem_append_right _ (List.mem_append_right _ (List.mem_append_right _ (List.mem_append_left _ h))))))))))))))))))))))))))))
theorem lfL_22 : ∀ w ∈ wsL_law_r22, w ∈ wsL_law := fun _ h => List.mem_append_left _ (List.mem_append_left _ (List.mem_append_left _ (List.mem_append_left _ (List.mem_append_left _ (List.mem_append_left _ (List.mem_append_left _ (List.mem_append_left _ (List.mem_append_right _ (List.mem_append_right _ (List.mem_append_right _ (List.mem_append_right _ (List.mem_append_right _ (List.mem_append_right _ (List.mem_append_right _ (List.mem_append_right _ (List.mem_append_right _ (List.mem_append_right _ (List.mem_append_right _ (List.mem_append_right _ (List.mem_append_right _ (List.mem_append_right _ (List.mem_append_right _ (List.mem_append_right _ (List.mem_append_right _ (List.mem_append_right _ (List.mem_append_right _ (List.mem_append_right _ (List.mem_append_right _ (List.mem_append_left _ h)))))))))))))))))))))))))))))
theorem lfL_23 : ∀ w ∈ wsL_law_r23, w ∈ wsL_law := fun _ h => List.mem_append_left _ (List.mem_append_left _ (List.mem_append_left _ (List.mem_append_left _ (List.mem_append_left _ (List.mem_append_left _ (List.mem_append_left _ (List.mem_append_left _ (List.mem_append_right _ (List.mem_append_right _ (List.mem_append_right _ (List.mem_append_right _ (List.mem_append_right _ (List.mem_append_right _ (List.mem_append_right _ (List.mem_append_right _ (List.mem_append_right _ (List.mem_append_right _ (List.mem_append_right _ (List.mem_append_right _ (List.mem_append_right _ (List.mem_append_right _ (List.mem_append_right _ (List.mem_append_right _ (List.mem_append_right _ (List.mem_append_right _ (List.mem_append_right _ (List.mem_append_right _ (List.mem_append_right _ (List.mem_append_right _ (List.mem_append_left _ h))))))))))))))))))))))))))))))
theorem lfL_24 : ∀ w ∈ wsL_law_r24, w ∈ wsL_law := fun _ h => List.mem_append_left _ (List.mem_append_left _ (List.mem_append_left _ (List.mem_append_left _ (List.mem_append_left _ (List.mem_append_left _ (List.mem_append_left _ (List.mem_append_left _ (List.mem_append_right _ (List.mem_append_right _ (List.mem_append_right _ (List.mem_append_right _ (List.mem_append_right _ (List.mem_append_right _ (List.mem_append_right _ (List.mem_append_right _ (List.mem_append_right _ (List.mem_append_right _ (List.mem_append_right _ (List.mem_append_right _ (List.mem_append_right _ (List.mem_append_right _ (List.mem_append_right _ (List.mem_append_right _ (List.mem_append_right _ (List.mem_append_right _ (List.mem_append_right _ (List.mem_append_right _ (List.mem_append_right _ (List.mem_append_right _ (List.mem_append_right _ (List.mem_append_left _ h)))))))))))))))))))))))))))))))
theorem lfL_25 : ∀ w ∈ wsL_law_r25, w ∈ wsL_law := fun _ h => List.mem_append_left _ (List.mem_append_left _ (List.mem_append_left _ (List.mem_append_left _ (List.mem_append_left _ (List.mem_append_left _ (List.mem_append_left _ (List.mem_append_left _ (List.mem_append_right _ (List.mem_append_right _ (List.mem_append_right _ (List.mem_append_right _ (List.mem_append_right _ (List.mem_append_right _ (List.mem_append_right _ (List.mem_append_right _ (List.mem_append_right _ (List.mem_append_right _ (List.mem_append_right _ (List.mem_append_right _ (List.mem_append_right _ (List.mem_append_right _ (List.mem_append_right _ (List.mem_append_right _ (List.mem_append_right _ (List.mem_append_right _ (List.mem_append_right _ (List.mem_append_right _ (List.mem_append_right _ (List.mem_append_right _ (List.mem_append_right _ (List.mem_append_right _ (List.mem_append_left _ h))))))))))))))))))))))))))))))))
theorem lfL_26 : ∀ w ∈ wsL_law_r26, w ∈ wsL_law := fun _ h => List.mem_append_left _ (List.mem_append_left _ (List.mem_append_left _ (List.mem_append_left _ (List.mem_append_left _ (List.mem_append_left _ (List.mem_append_left _ (List.mem_append_left _ (List.mem_append_right _ (List.mem_append_right _ (List.mem_append_right _ (List.mem_append_right _ (List.mem_append_right _ (List.mem_append_right _ (List.mem_append_right _ (List.mem_append_right _ (List.mem_append_right _ (List.mem_append_right _ (List.mem_append_right _ (List.mem_append_right _ (List.mem_append_right _ (List.mem_append_right _ (List.mem_append_right _ (List.mem_append_right _ (List.mem_append_right _ (List.mem_append_right _ (List.mem_append_right _ (List.mem_append_right _ (List.mem_append_right _ (List.mem_append_right _ (List.mem_append_right _ (List.mem_append_right _ (List.mem_append_right _ (List.mem_append_left _ h)))))))))))))))))))))))))))))))))
theorem lfL_27 : ∀ w ∈ wsL_law_r27, w ∈ wsL_law := fun _ h => List.mem_append_left _ (List.mem_append_left _ (List.mem_append_left _ (List.mem_append_left _ (List.mem_append_left _ (List.mem_append_left _ (List.mem_append_left _ (List.mem_append_left _ (List.mem_append_right _ (List.mem_append_right _ (List.mem_append_right _ (List.mem_append_right _ (List.mem_append_right _ (List.mem_append_right _ (List.mem_append_right _ (List.mem_append_right _ (List.mem_append_right _ (List.mem_append_right _ (List.mem_append_right _ (List.mem_append_right _ (List.mem_append_right _ (List.mem_append_right _ (List.mem_append_right _ (List.mem_append_right _ (List.mem_append_right _ (List.mem_append_right _ (List.mem_append_right _ (List.mem_append_right _ (List.mem_append_right _ (List.mem_append_right _ (List.mem_append_right _ (List.mem_append_right _ (List.mem_append_right _ (List.mem_append_right _ (List.mem_append_left _ h))))))))))))))))))))))))))))))))))
theorem lfL_28 : ∀ w ∈ wsL_law_r28, w ∈ wsL_law := fun _ h => List.mem_append_left _ (List.mem_append_left _ (List.mem_append_left _ (List.mem_append_left _ (List.mem_append_left _ (List.mem_append_left _ (List.mem_append_left _ (List.mem_append_left _ (List.mem_append_right _ (List.mem_append_right _ (List.mem_append_right _ (List.mem_append_right _ (List.mem_append_right _ (List.mem_append_right _ (List.mem_append_right _ (List.mem_append_right _ (List.mem_append_right _ (List.mem_append_right _ (List.mem_append_right _ (List.mem_append_right _ (List.mem_append_right _ (List.mem_append_right _ (List.mem_append_right _ (List.mem_append_right _ (List.mem_append_right _ (List.mem_append_right _ (List.mem_append_right _ (List.mem_append_right _ (List.mem_append_right _ (List.mem_append_right _ (List.mem_append_right _ (List.mem_append_right _ (List.mem_append_right _ (List.mem_append_right _ (List.mem_append_right _ (List.mem_append_left _ h)))))))))))))))))))))))))))))))))))
theorem lfL_29 : ∀ w ∈ wsL_law_r29, w ∈ wsL_law := fun _ h => List.mem_append_left _ (List.mem_append_left _ (List.mem_append_left _ (List.mem_append_left _ (List.mem_append_left _ (List.mem_append_left _ (List.mem_append_left _ (List.mem_append_left _ (List.mem_append_right _ (List.mem_append_right _ (List.mem_append_right _ (List.mem_append_right _ (List.mem_append_right _ (List.mem_append_right _ (List.mem_append_right _ (List.mem_append_right _ (List.mem_append_right _ (List.mem_append_right _ (List.mem_append_right _ (List.mem_append_right _ (List.mem_append_right _ (List.mem_append_right _ (List.mem_append_right _ (List.mem_append_right _ (List.mem_append_right _ (List.mem_append_right _ (List.mem_append_right _ (List.mem_append_right _ (List.mem_append_right _ (List.mem_append_right _ (List.mem_append_right _ (List.mem_append_right _ (List.mem_append_right _ (List.mem_append_right _ (List.mem_append_right _ (List.mem_append_right _ (List.mem_append_left _ h))))))))))))))))))))))))))))))))))))
theorem lfL_30 : ∀ w ∈ wsL_law_r30, w ∈ wsL_law := fun _ h => List.mem_append_left _ (List.mem_append_left _ (List.mem_append_left _ (List.mem_append_left _ (List.mem_append_left _ (List.mem_append_left _ (List.mem_append_left _ (List.mem_append_left _ (List.mem_append_right _ (List.mem_append_right _ (List.mem_append_right _ (List.mem_append_right _ (List.mem_append_right _ (List.mem_append_right _ (List.mem_append_right _ (List.mem_append_right _ (List.mem_append_right _ (List.mem_append_right _ (List.mem_append_right _ (List.mem_append_right _ (List.mem_append_right _ (List.mem_append_right _ (List.mem_append_right _ (List.mem_append_right _ (List.mem_append_right _ (List.mem_append_right _ (List.mem_append_right _ (List.mem_append_right _ (List.mem_append_right _ (List.mem_append_right _ (List.mem_append_right _ (List.mem_append_right _ (List.mem_append_right _ (List.mem_append_right _ (List.mem_append_right _ (List.mem_append_right _ (List.mem_append_right _ (h)))))))))))))))))))))))))))))))))))))
