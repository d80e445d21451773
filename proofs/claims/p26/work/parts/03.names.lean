def RX0 : String := "Swapmere$AdaptivePolicy"
def TX0 : u_T := fun k => match k with
  | 0 => ("Swapmere$Policy", "frameCount", "I", false)
  | 1 => ("Swapmere$Policy", "faultCount", "I", false)
  | 2 => ("Swapmere$AdaptivePolicy", "t1", "LSwapmere$PageList;", true)
  | 3 => ("Swapmere$AdaptivePolicy", "t2", "LSwapmere$PageList;", true)
  | 4 => ("Swapmere$AdaptivePolicy", "b1", "LSwapmere$PageList;", true)
  | 5 => ("Swapmere$AdaptivePolicy", "b2", "LSwapmere$PageList;", true)
  | _ => ("Swapmere$AdaptivePolicy", "aim", "I", false)
def tyX0 : Nat → FieldType := fun k => match k with
  | 0 => .int
  | 1 => .int
  | 2 => .object "Swapmere$PageList"
  | 3 => .object "Swapmere$PageList"
  | 4 => .object "Swapmere$PageList"
  | 5 => .object "Swapmere$PageList"
  | _ => .int
theorem nmX0 : ∀ a, a < 7 → ∀ b, b < 7 → a ≠ b → (TX0 a).2.1 ≠ (TX0 b).2.1 := by decide +kernel
theorem tyX0_ok : ∀ k, k < 7 → parseFieldDescriptor (TX0 k).2.2.1 = some (tyX0 k) := by decide +kernel
abbrev cX0_init : ByteArray := prog_2_method_1_code
def yX0_init : MethodName := ⟨RX0, "<init>", "()V"⟩
abbrev cX0_forgetAll : ByteArray := prog_2_method_2_code
def yX0_forgetAll : MethodName := ⟨RX0, "forgetAll", "()V"⟩
abbrev cX0_touchKept : ByteArray := prog_2_method_3_code
def yX0_touchKept : MethodName := ⟨RX0, "touchKept", "(I)V"⟩
abbrev cX0_bringIn : ByteArray := prog_2_method_4_code
def yX0_bringIn : MethodName := ⟨RX0, "bringIn", "(I)V"⟩
abbrev cX0_keeps : ByteArray := prog_2_method_5_code
def yX0_keeps : MethodName := ⟨RX0, "keeps", "(I)Z"⟩
abbrev cX0_keptCount : ByteArray := prog_2_method_6_code
def yX0_keptCount : MethodName := ⟨RX0, "keptCount", "()I"⟩
abbrev cX0_nextVictim : ByteArray := prog_2_method_7_code
def yX0_nextVictim : MethodName := ⟨RX0, "nextVictim", "()I"⟩
abbrev cX0_numberOfListWith : ByteArray := prog_2_method_8_code
def yX0_numberOfListWith : MethodName := ⟨RX0, "numberOfListWith", "(I)I"⟩
abbrev cX0_makeRoomForUnknown : ByteArray := prog_2_method_9_code
def yX0_makeRoomForUnknown : MethodName := ⟨RX0, "makeRoomForUnknown", "()V"⟩
abbrev cX0_replace : ByteArray := prog_2_method_10_code
def yX0_replace : MethodName := ⟨RX0, "replace", "(Z)V"⟩
abbrev cX0_replacesFromT1 : ByteArray := prog_2_method_11_code
def yX0_replacesFromT1 : MethodName := ⟨RX0, "replacesFromT1", "(Z)Z"⟩
abbrev cX0_shift : ByteArray := prog_2_method_12_code
def yX0_shift : MethodName := ⟨RX0, "shift", "(II)I"⟩
abbrev cX0_sizeOfAll : ByteArray := prog_2_method_13_code
def yX0_sizeOfAll : MethodName := ⟨RX0, "sizeOfAll", "()I"⟩
def RX1 : String := "Swapmere$ByRecency"
def TX1 : u_T := fun k => match k with
  | _ => ("", "", "", false)
def tyX1 : Nat → FieldType := fun k => match k with
  | _ => .int
theorem nmX1 : ∀ a, a < 0 → ∀ b, b < 0 → a ≠ b → (TX1 a).2.1 ≠ (TX1 b).2.1 := by decide +kernel
theorem tyX1_ok : ∀ k, k < 0 → parseFieldDescriptor (TX1 k).2.2.1 = some (tyX1 k) := by decide +kernel
abbrev cX1_init : ByteArray := prog_3_method_1_code
def yX1_init : MethodName := ⟨RX1, "<init>", "()V"⟩
abbrev cX1_keeps : ByteArray := prog_3_method_2_code
def yX1_keeps : MethodName := ⟨RX1, "keeps", "(I)Z"⟩
abbrev cX1_keptCount : ByteArray := prog_3_method_3_code
def yX1_keptCount : MethodName := ⟨RX1, "keptCount", "()I"⟩
abbrev cX1_nextVictim : ByteArray := prog_3_method_4_code
def yX1_nextVictim : MethodName := ⟨RX1, "nextVictim", "()I"⟩
abbrev cX1_renew : ByteArray := prog_3_method_5_code
def yX1_renew : MethodName := ⟨RX1, "renew", "(I)V"⟩
abbrev cX1_exchange : ByteArray := prog_3_method_6_code
def yX1_exchange : MethodName := ⟨RX1, "exchange", "(I)I"⟩
def RX2 : String := "Swapmere$ClockPolicy"
def TX2 : u_T := fun k => match k with
  | 0 => ("Swapmere$Policy", "frameCount", "I", false)
  | 1 => ("Swapmere$Policy", "faultCount", "I", false)
  | 2 => ("Swapmere$ClockPolicy", "pages", "[I", true)
  | 3 => ("Swapmere$ClockPolicy", "bits", "[Z", true)
  | 4 => ("Swapmere$ClockPolicy", "used", "I", false)
  | _ => ("Swapmere$ClockPolicy", "handFrame", "I", false)
def tyX2 : Nat → FieldType := fun k => match k with
  | 0 => .int
  | 1 => .int
  | 2 => .array .int
  | 3 => .array .boolean
  | 4 => .int
  | _ => .int
theorem nmX2 : ∀ a, a < 6 → ∀ b, b < 6 → a ≠ b → (TX2 a).2.1 ≠ (TX2 b).2.1 := by decide +kernel
theorem tyX2_ok : ∀ k, k < 6 → parseFieldDescriptor (TX2 k).2.2.1 = some (tyX2 k) := by decide +kernel
abbrev cX2_init : ByteArray := prog_4_method_1_code
def yX2_init : MethodName := ⟨RX2, "<init>", "()V"⟩
abbrev cX2_forgetAll : ByteArray := prog_4_method_2_code
def yX2_forgetAll : MethodName := ⟨RX2, "forgetAll", "()V"⟩
abbrev cX2_touchKept : ByteArray := prog_4_method_3_code
def yX2_touchKept : MethodName := ⟨RX2, "touchKept", "(I)V"⟩
abbrev cX2_bringIn : ByteArray := prog_4_method_4_code
def yX2_bringIn : MethodName := ⟨RX2, "bringIn", "(I)V"⟩
abbrev cX2_keeps : ByteArray := prog_4_method_5_code
def yX2_keeps : MethodName := ⟨RX2, "keeps", "(I)Z"⟩
abbrev cX2_keptCount : ByteArray := prog_4_method_6_code
def yX2_keptCount : MethodName := ⟨RX2, "keptCount", "()I"⟩
abbrev cX2_nextVictim : ByteArray := prog_4_method_7_code
def yX2_nextVictim : MethodName := ⟨RX2, "nextVictim", "()I"⟩
abbrev cX2_hasBitSet : ByteArray := prog_4_method_8_code
def yX2_hasBitSet : MethodName := ⟨RX2, "hasBitSet", "(I)Z"⟩
abbrev cX2_clearBitsAtHand : ByteArray := prog_4_method_9_code
def yX2_clearBitsAtHand : MethodName := ⟨RX2, "clearBitsAtHand", "()V"⟩
abbrev cX2_put : ByteArray := prog_4_method_10_code
def yX2_put : MethodName := ⟨RX2, "put", "(II)V"⟩
abbrev cX2_frameAfter : ByteArray := prog_4_method_11_code
def yX2_frameAfter : MethodName := ⟨RX2, "frameAfter", "(I)I"⟩
abbrev cX2_frameOf : ByteArray := prog_4_method_12_code
def yX2_frameOf : MethodName := ⟨RX2, "frameOf", "(I)I"⟩
def RX3 : String := "Swapmere$Hindsight"
def TX3 : u_T := fun k => match k with
  | 0 => ("Swapmere$Hindsight", "nextTouch", "[I", true)
  | 1 => ("Swapmere$Hindsight", "nextOfPage", "[I", true)
  | _ => ("Swapmere$Hindsight", "nextOfFrame", "[I", true)
def tyX3 : Nat → FieldType := fun k => match k with
  | 0 => .array .int
  | 1 => .array .int
  | _ => .array .int
theorem nmX3 : ∀ a, a < 3 → ∀ b, b < 3 → a ≠ b → (TX3 a).2.1 ≠ (TX3 b).2.1 := by decide +kernel
theorem tyX3_ok : ∀ k, k < 3 → parseFieldDescriptor (TX3 k).2.2.1 = some (tyX3 k) := by decide +kernel
abbrev cX3_init : ByteArray := prog_5_method_1_code
def yX3_init : MethodName := ⟨RX3, "<init>", "()V"⟩
abbrev cX3_fewestFaults : ByteArray := prog_5_method_2_code
def yX3_fewestFaults : MethodName := ⟨RX3, "fewestFaults", "(LSwapmere$History;I)I"⟩
abbrev cX3_findNextTouches : ByteArray := prog_5_method_3_code
def yX3_findNextTouches : MethodName := ⟨RX3, "findNextTouches", "(LSwapmere$History;)V"⟩
abbrev cX3_frameWaitingFor : ByteArray := prog_5_method_4_code
def yX3_frameWaitingFor : MethodName := ⟨RX3, "frameWaitingFor", "(II)I"⟩
abbrev cX3_farthest : ByteArray := prog_5_method_5_code
def yX3_farthest : MethodName := ⟨RX3, "farthest", "(I)I"⟩
def RX4 : String := "Swapmere$History"
def TX4 : u_T := fun k => match k with
  | 0 => ("Swapmere$History", "pages", "[I", true)
  | 1 => ("Swapmere$History", "setSizes", "[I", true)
  | 2 => ("Swapmere$History", "latestTouch", "[I", true)
  | 3 => ("Swapmere$History", "touchesAtDepth", "[I", true)
  | 4 => ("Swapmere$History", "window", "I", false)
  | 5 => ("Swapmere$History", "count", "I", false)
  | _ => ("Swapmere$History", "setSizeSum", "I", false)
def tyX4 : Nat → FieldType := fun k => match k with
  | 0 => .array .int
  | 1 => .array .int
  | 2 => .array .int
  | 3 => .array .int
  | 4 => .int
  | 5 => .int
  | _ => .int
theorem nmX4 : ∀ a, a < 7 → ∀ b, b < 7 → a ≠ b → (TX4 a).2.1 ≠ (TX4 b).2.1 := by decide +kernel
theorem tyX4_ok : ∀ k, k < 7 → parseFieldDescriptor (TX4 k).2.2.1 = some (tyX4 k) := by decide +kernel
abbrev cX4_init : ByteArray := prog_6_method_1_code
def yX4_init : MethodName := ⟨RX4, "<init>", "()V"⟩
abbrev cX4_startWith : ByteArray := prog_6_method_2_code
def yX4_startWith : MethodName := ⟨RX4, "startWith", "(I)V"⟩
abbrev cX4_record : ByteArray := prog_6_method_3_code
def yX4_record : MethodName := ⟨RX4, "record", "(I)V"⟩
abbrev cX4_faultsOfRecency : ByteArray := prog_6_method_4_code
def yX4_faultsOfRecency : MethodName := ⟨RX4, "faultsOfRecency", "(I)I"⟩
abbrev cX4_noteDepth : ByteArray := prog_6_method_5_code
def yX4_noteDepth : MethodName := ⟨RX4, "noteDepth", "(I)V"⟩
abbrev cX4_pagesTouchedSince : ByteArray := prog_6_method_6_code
def yX4_pagesTouchedSince : MethodName := ⟨RX4, "pagesTouchedSince", "(I)I"⟩
def RX5 : String := "Swapmere$PageList"
def TX5 : u_T := fun k => match k with
  | 0 => ("Swapmere$PageList", "pages", "[I", true)
  | _ => ("Swapmere$PageList", "count", "I", false)
def tyX5 : Nat → FieldType := fun k => match k with
  | 0 => .array .int
  | _ => .int
theorem nmX5 : ∀ a, a < 2 → ∀ b, b < 2 → a ≠ b → (TX5 a).2.1 ≠ (TX5 b).2.1 := by decide +kernel
theorem tyX5_ok : ∀ k, k < 2 → parseFieldDescriptor (TX5 k).2.2.1 = some (tyX5 k) := by decide +kernel
abbrev cX5_init : ByteArray := prog_7_method_1_code
def yX5_init : MethodName := ⟨RX5, "<init>", "()V"⟩
abbrev cX5_empty : ByteArray := prog_7_method_2_code
def yX5_empty : MethodName := ⟨RX5, "empty", "()V"⟩
abbrev cX5_contains : ByteArray := prog_7_method_3_code
def yX5_contains : MethodName := ⟨RX5, "contains", "(I)Z"⟩
abbrev cX5_leastRecent : ByteArray := prog_7_method_4_code
def yX5_leastRecent : MethodName := ⟨RX5, "leastRecent", "()I"⟩
abbrev cX5_addMostRecent : ByteArray := prog_7_method_5_code
def yX5_addMostRecent : MethodName := ⟨RX5, "addMostRecent", "(I)V"⟩
abbrev cX5_drop : ByteArray := prog_7_method_6_code
def yX5_drop : MethodName := ⟨RX5, "drop", "(I)V"⟩
abbrev cX5_dropLeastRecent : ByteArray := prog_7_method_7_code
def yX5_dropLeastRecent : MethodName := ⟨RX5, "dropLeastRecent", "()I"⟩
def RX6 : String := "Swapmere$Policy"
def TX6 : u_T := fun k => match k with
  | _ => ("", "", "", false)
def tyX6 : Nat → FieldType := fun k => match k with
  | _ => .int
theorem nmX6 : ∀ a, a < 0 → ∀ b, b < 0 → a ≠ b → (TX6 a).2.1 ≠ (TX6 b).2.1 := by decide +kernel
theorem tyX6_ok : ∀ k, k < 0 → parseFieldDescriptor (TX6 k).2.2.1 = some (tyX6 k) := by decide +kernel
abbrev cX6_init : ByteArray := prog_8_method_1_code
def yX6_init : MethodName := ⟨RX6, "<init>", "()V"⟩
abbrev cX6_startWith : ByteArray := prog_8_method_2_code
def yX6_startWith : MethodName := ⟨RX6, "startWith", "(I)V"⟩
abbrev cX6_see : ByteArray := prog_8_method_3_code
def yX6_see : MethodName := ⟨RX6, "see", "(I)Z"⟩
abbrev cX6_afterTouch : ByteArray := prog_8_method_10_code
def yX6_afterTouch : MethodName := ⟨RX6, "afterTouch", "(I)V"⟩
def RX7 : String := "Swapmere$RecencyPolicy"
def TX7 : u_T := fun k => match k with
  | 0 => ("Swapmere$ByRecency", "kept", "LSwapmere$PageList;", true)
  | 1 => ("Swapmere$Policy", "frameCount", "I", false)
  | 2 => ("Swapmere$Policy", "faultCount", "I", false)
  | 3 => ("Swapmere$RecencyPolicy", "evictionOf", "[I", true)
  | 4 => ("Swapmere$RecencyPolicy", "latestDistance", "[I", true)
  | 5 => ("Swapmere$RecencyPolicy", "refaultsAt", "[I", true)
  | _ => ("Swapmere$RecencyPolicy", "evictions", "I", false)
def tyX7 : Nat → FieldType := fun k => match k with
  | 0 => .object "Swapmere$PageList"
  | 1 => .int
  | 2 => .int
  | 3 => .array .int
  | 4 => .array .int
  | 5 => .array .int
  | _ => .int
theorem nmX7 : ∀ a, a < 7 → ∀ b, b < 7 → a ≠ b → (TX7 a).2.1 ≠ (TX7 b).2.1 := by decide +kernel
theorem tyX7_ok : ∀ k, k < 7 → parseFieldDescriptor (TX7 k).2.2.1 = some (tyX7 k) := by decide +kernel
abbrev cX7_init : ByteArray := prog_9_method_1_code
def yX7_init : MethodName := ⟨RX7, "<init>", "()V"⟩
abbrev cX7_forgetAll : ByteArray := prog_9_method_2_code
def yX7_forgetAll : MethodName := ⟨RX7, "forgetAll", "()V"⟩
abbrev cX7_touchKept : ByteArray := prog_9_method_3_code
def yX7_touchKept : MethodName := ⟨RX7, "touchKept", "(I)V"⟩
abbrev cX7_bringIn : ByteArray := prog_9_method_4_code
def yX7_bringIn : MethodName := ⟨RX7, "bringIn", "(I)V"⟩
abbrev cX7_noteRefault : ByteArray := prog_9_method_5_code
def yX7_noteRefault : MethodName := ⟨RX7, "noteRefault", "(I)V"⟩
abbrev cX7_refaultsUpTo : ByteArray := prog_9_method_6_code
def yX7_refaultsUpTo : MethodName := ⟨RX7, "refaultsUpTo", "(I)I"⟩
def RX8 : String := "Swapmere$StridePolicy"
def TX8 : u_T := fun k => match k with
  | 0 => ("Swapmere$ByRecency", "kept", "LSwapmere$PageList;", true)
  | 1 => ("Swapmere$Policy", "frameCount", "I", false)
  | 2 => ("Swapmere$Policy", "faultCount", "I", false)
  | 3 => ("Swapmere$StridePolicy", "awaited", "[Z", true)
  | 4 => ("Swapmere$StridePolicy", "prefetchCount", "I", false)
  | 5 => ("Swapmere$StridePolicy", "usefulCount", "I", false)
  | 6 => ("Swapmere$StridePolicy", "seen", "I", false)
  | 7 => ("Swapmere$StridePolicy", "last", "I", false)
  | 8 => ("Swapmere$StridePolicy", "secondLast", "I", false)
  | _ => ("Swapmere$StridePolicy", "thirdLast", "I", false)
def tyX8 : Nat → FieldType := fun k => match k with
  | 0 => .object "Swapmere$PageList"
  | 1 => .int
  | 2 => .int
  | 3 => .array .boolean
  | 4 => .int
  | 5 => .int
  | 6 => .int
  | 7 => .int
  | 8 => .int
  | _ => .int
theorem nmX8 : ∀ a, a < 10 → ∀ b, b < 10 → a ≠ b → (TX8 a).2.1 ≠ (TX8 b).2.1 := by decide +kernel
theorem tyX8_ok : ∀ k, k < 10 → parseFieldDescriptor (TX8 k).2.2.1 = some (tyX8 k) := by decide +kernel
abbrev cX8_init : ByteArray := prog_10_method_1_code
def yX8_init : MethodName := ⟨RX8, "<init>", "()V"⟩
abbrev cX8_forgetAll : ByteArray := prog_10_method_2_code
def yX8_forgetAll : MethodName := ⟨RX8, "forgetAll", "()V"⟩
abbrev cX8_touchKept : ByteArray := prog_10_method_3_code
def yX8_touchKept : MethodName := ⟨RX8, "touchKept", "(I)V"⟩
abbrev cX8_bringIn : ByteArray := prog_10_method_4_code
def yX8_bringIn : MethodName := ⟨RX8, "bringIn", "(I)V"⟩
abbrev cX8_afterTouch : ByteArray := prog_10_method_5_code
def yX8_afterTouch : MethodName := ⟨RX8, "afterTouch", "(I)V"⟩
abbrev cX8_pageAhead : ByteArray := prog_10_method_6_code
def yX8_pageAhead : MethodName := ⟨RX8, "pageAhead", "()I"⟩
def RX9 : String := "Swapmere"
def TX9 : u_T := fun k => match k with
  | 0 => ("Swapmere", "recency", "LSwapmere$RecencyPolicy;", true)
  | 1 => ("Swapmere", "clock", "LSwapmere$ClockPolicy;", true)
  | 2 => ("Swapmere", "adaptive", "LSwapmere$AdaptivePolicy;", true)
  | 3 => ("Swapmere", "strides", "LSwapmere$StridePolicy;", true)
  | 4 => ("Swapmere", "history", "LSwapmere$History;", true)
  | 5 => ("Swapmere", "hindsight", "LSwapmere$Hindsight;", true)
  | _ => ("Swapmere", "frames", "I", false)
def tyX9 : Nat → FieldType := fun k => match k with
  | 0 => .object "Swapmere$RecencyPolicy"
  | 1 => .object "Swapmere$ClockPolicy"
  | 2 => .object "Swapmere$AdaptivePolicy"
  | 3 => .object "Swapmere$StridePolicy"
  | 4 => .object "Swapmere$History"
  | 5 => .object "Swapmere$Hindsight"
  | _ => .int
theorem nmX9 : ∀ a, a < 7 → ∀ b, b < 7 → a ≠ b → (TX9 a).2.1 ≠ (TX9 b).2.1 := by decide +kernel
theorem tyX9_ok : ∀ k, k < 7 → parseFieldDescriptor (TX9 k).2.2.1 = some (tyX9 k) := by decide +kernel
abbrev cX9_init : ByteArray := prog_1_method_1_code
def yX9_init : MethodName := ⟨RX9, "<init>", "()V"⟩
abbrev cX9_begin : ByteArray := prog_1_method_2_code
def yX9_begin : MethodName := ⟨RX9, "begin", "(II)V"⟩
abbrev cX9_touch : ByteArray := prog_1_method_3_code
def yX9_touch : MethodName := ⟨RX9, "touch", "(I)I"⟩
abbrev cX9_touchRun : ByteArray := prog_1_method_4_code
def yX9_touchRun : MethodName := ⟨RX9, "touchRun", "(III)I"⟩
abbrev cX9_touches : ByteArray := prog_1_method_5_code
def yX9_touches : MethodName := ⟨RX9, "touches", "()I"⟩
abbrev cX9_pageOf : ByteArray := prog_1_method_6_code
def yX9_pageOf : MethodName := ⟨RX9, "pageOf", "(I)I"⟩
abbrev cX9_faults : ByteArray := prog_1_method_7_code
def yX9_faults : MethodName := ⟨RX9, "faults", "(I)I"⟩
abbrev cX9_holds : ByteArray := prog_1_method_8_code
def yX9_holds : MethodName := ⟨RX9, "holds", "(II)Z"⟩
abbrev cX9_held : ByteArray := prog_1_method_9_code
def yX9_held : MethodName := ⟨RX9, "held", "(I)I"⟩
abbrev cX9_victim : ByteArray := prog_1_method_10_code
def yX9_victim : MethodName := ⟨RX9, "victim", "(I)I"⟩
abbrev cX9_hand : ByteArray := prog_1_method_11_code
def yX9_hand : MethodName := ⟨RX9, "hand", "()I"⟩
abbrev cX9_isReferenced : ByteArray := prog_1_method_12_code
def yX9_isReferenced : MethodName := ⟨RX9, "isReferenced", "(I)Z"⟩
abbrev cX9_listOf : ByteArray := prog_1_method_13_code
def yX9_listOf : MethodName := ⟨RX9, "listOf", "(I)I"⟩
abbrev cX9_listSize : ByteArray := prog_1_method_14_code
def yX9_listSize : MethodName := ⟨RX9, "listSize", "(I)I"⟩
abbrev cX9_target : ByteArray := prog_1_method_15_code
def yX9_target : MethodName := ⟨RX9, "target", "()I"⟩
abbrev cX9_prefetches : ByteArray := prog_1_method_16_code
def yX9_prefetches : MethodName := ⟨RX9, "prefetches", "()I"⟩
abbrev cX9_usefulPrefetches : ByteArray := prog_1_method_17_code
def yX9_usefulPrefetches : MethodName := ⟨RX9, "usefulPrefetches", "()I"⟩
abbrev cX9_refaults : ByteArray := prog_1_method_18_code
def yX9_refaults : MethodName := ⟨RX9, "refaults", "(I)I"⟩
abbrev cX9_workingSet : ByteArray := prog_1_method_20_code
def yX9_workingSet : MethodName := ⟨RX9, "workingSet", "(I)I"⟩
abbrev cX9_faultsWith : ByteArray := prog_1_method_22_code
def yX9_faultsWith : MethodName := ⟨RX9, "faultsWith", "(I)I"⟩
abbrev cX9_bestFaults : ByteArray := prog_1_method_23_code
def yX9_bestFaults : MethodName := ⟨RX9, "bestFaults", "(I)I"⟩
abbrev cX9_ratio : ByteArray := prog_1_method_24_code
def yX9_ratio : MethodName := ⟨RX9, "ratio", "(I)F"⟩
abbrev cX9_restart : ByteArray := prog_1_method_25_code
def yX9_restart : MethodName := ⟨RX9, "restart", "(II)V"⟩
abbrev cX9_showToAll : ByteArray := prog_1_method_26_code
def yX9_showToAll : MethodName := ⟨RX9, "showToAll", "(I)I"⟩
abbrev cX9_policyNumbered : ByteArray := prog_1_method_27_code
def yX9_policyNumbered : MethodName := ⟨RX9, "policyNumbered", "(I)LSwapmere$Policy;"⟩
abbrev cX9_listNumbered : ByteArray := prog_1_method_28_code
def yX9_listNumbered : MethodName := ⟨RX9, "listNumbered", "(I)LSwapmere$PageList;"⟩
abbrev cX9_isPage : ByteArray := prog_1_method_29_code
def yX9_isPage : MethodName := ⟨RX9, "isPage", "(I)Z"⟩
abbrev cX9_checkPage : ByteArray := prog_1_method_30_code
def yX9_checkPage : MethodName := ⟨RX9, "checkPage", "(I)V"⟩
abbrev cX9_checkFrames : ByteArray := prog_1_method_31_code
def yX9_checkFrames : MethodName := ⟨RX9, "checkFrames", "(I)V"⟩
abbrev cX9_checkRoomFor : ByteArray := prog_1_method_32_code
def yX9_checkRoomFor : MethodName := ⟨RX9, "checkRoomFor", "(I)V"⟩
abbrev cX9_checkTouch : ByteArray := prog_1_method_33_code
def yX9_checkTouch : MethodName := ⟨RX9, "checkTouch", "(I)V"⟩
def RX10 : String := "SwapmereModel"
def TX10 : u_T := fun k => match k with
  | _ => ("", "", "", false)
def tyX10 : Nat → FieldType := fun k => match k with
  | _ => .int
theorem nmX10 : ∀ a, a < 0 → ∀ b, b < 0 → a ≠ b → (TX10 a).2.1 ≠ (TX10 b).2.1 := by decide +kernel
theorem tyX10_ok : ∀ k, k < 0 → parseFieldDescriptor (TX10 k).2.2.1 = some (tyX10 k) := by decide +kernel
def RJx145de : String := "java/io/Serializable"
def TJx145de : u_T := fun k => match k with
  | _ => ("", "", "", false)
def tyJx145de : Nat → FieldType := fun k => match k with
  | _ => .int
theorem nmJx145de : ∀ a, a < 0 → ∀ b, b < 0 → a ≠ b → (TJx145de a).2.1 ≠ (TJx145de b).2.1 := by decide +kernel
theorem tyJx145de_ok : ∀ k, k < 0 → parseFieldDescriptor (TJx145de k).2.2.1 = some (tyJx145de k) := by decide +kernel
def RJ9 : String := "java/lang/Math"
def TJ9 : u_T := fun k => match k with
  | _ => ("", "", "", false)
def tyJ9 : Nat → FieldType := fun k => match k with
  | _ => .int
theorem nmJ9 : ∀ a, a < 0 → ∀ b, b < 0 → a ≠ b → (TJ9 a).2.1 ≠ (TJ9 b).2.1 := by decide +kernel
theorem tyJ9_ok : ∀ k, k < 0 → parseFieldDescriptor (TJ9 k).2.2.1 = some (tyJ9 k) := by decide +kernel
abbrev cJ9_max_7cf53 : ByteArray := prog_17_method_65_code
def yJ9_max_7cf53 : MethodName := ⟨RJ9, "max", "(II)I"⟩
abbrev cJ9_min_7cf53 : ByteArray := prog_17_method_69_code
def yJ9_min_7cf53 : MethodName := ⟨RJ9, "min", "(II)I"⟩
def RJ0 : String := "java/lang/String"
def TJ0 : u_T := fun k => match k with
  | _ => ("", "", "", false)
def tyJ0 : Nat → FieldType := fun k => match k with
  | _ => .int
theorem nmJ0 : ∀ a, a < 0 → ∀ b, b < 0 → a ≠ b → (TJ0 a).2.1 ≠ (TJ0 b).2.1 := by decide +kernel
theorem tyJ0_ok : ∀ k, k < 0 → parseFieldDescriptor (TJ0 k).2.2.1 = some (tyJ0 k) := by decide +kernel
def RJ7 : String := "java/util/Arrays"
def TJ7 : u_T := fun k => match k with
  | _ => ("", "", "", false)
def tyJ7 : Nat → FieldType := fun k => match k with
  | _ => .int
theorem nmJ7 : ∀ a, a < 0 → ∀ b, b < 0 → a ≠ b → (TJ7 a).2.1 ≠ (TJ7 b).2.1 := by decide +kernel
theorem tyJ7_ok : ∀ k, k < 0 → parseFieldDescriptor (TJ7 k).2.2.1 = some (tyJ7 k) := by decide +kernel
abbrev cJ7_fill_53178 : ByteArray := prog_21_method_103_code
def yJ7_fill_53178 : MethodName := ⟨RJ7, "fill", "([II)V"⟩
def RL : String := "SwapmereLaw"
abbrev cL_cell : ByteArray := method_2_code
def yL_cell : MethodName := ⟨RL, "cell", "([II)I"⟩
abbrev cL_low : ByteArray := method_3_code
def yL_low : MethodName := ⟨RL, "low", "(II)I"⟩
abbrev cL_begin : ByteArray := method_4_code
def yL_begin : MethodName := ⟨RL, "begin", "(LSwapmere;II)I"⟩
abbrev cL_touch : ByteArray := method_5_code
def yL_touch : MethodName := ⟨RL, "touch", "(LSwapmere;I)I"⟩
abbrev cL_touchRun : ByteArray := method_6_code
def yL_touchRun : MethodName := ⟨RL, "touchRun", "(LSwapmere;III)I"⟩
abbrev cL_victim : ByteArray := method_7_code
def yL_victim : MethodName := ⟨RL, "victim", "(LSwapmere;I)I"⟩
abbrev cL_act : ByteArray := method_8_code
def yL_act : MethodName := ⟨RL, "act", "(LSwapmere;I)I"⟩
abbrev cL_areAlike : ByteArray := method_9_code
def yL_areAlike : MethodName := ⟨RL, "areAlike", "(LSwapmere;LSwapmere;)Z"⟩
abbrev cL_isTouchSo : ByteArray := method_10_code
def yL_isTouchSo : MethodName := ⟨RL, "isTouchSo", "(LSwapmere;LSwapmere;I)Z"⟩
abbrev cL_isHeldSo : ByteArray := method_11_code
def yL_isHeldSo : MethodName := ⟨RL, "isHeldSo", "(LSwapmere;I)Z"⟩
abbrev cL_areCurvesSo : ByteArray := method_12_code
def yL_areCurvesSo : MethodName := ⟨RL, "areCurvesSo", "(LSwapmere;II)Z"⟩
abbrev cL_law : ByteArray := code
def yL_law : MethodName := ⟨RL, "law", "([I)Z"⟩
abbrev vwCl : List vw_C := [(RX0, TX0, 7), (RX2, TX2, 6), (RX3, TX3, 3), (RX4, TX4, 7), (RX5, TX5, 2), (RX7, TX7, 7), (RX8, TX8, 10), (RX9, TX9, 7)]
