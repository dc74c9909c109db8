def RX0 : String := "FirstSeconds$Heap"
def TX0 : u_T := fun k => match k with
  | 0 => ("FirstSeconds$Heap", "first", "[I", true)
  | 1 => ("FirstSeconds$Heap", "last", "[I", true)
  | 2 => ("FirstSeconds$Heap", "cells", "I", false)
  | 3 => ("FirstSeconds$Heap", "low", "I", false)
  | 4 => ("FirstSeconds$Heap", "high", "I", false)
  | _ => ("FirstSeconds$Heap", "quake", "I", false)
def tyX0 : Nat → FieldType := fun k => match k with
  | 0 => .array .int
  | 1 => .array .int
  | 2 => .int
  | 3 => .int
  | 4 => .int
  | _ => .int
abbrev wsX00 : List Cond := u_ws RX0 TX0 6
theorem nmX0 : ∀ a, a < 6 → ∀ b, b < 6 → a ≠ b → (TX0 a).2.1 ≠ (TX0 b).2.1 := by decide +kernel
theorem tyX0_ok : ∀ k, k < 6 → parseFieldDescriptor (TX0 k).2.2.1 = some (tyX0 k) := by decide +kernel
abbrev cX0_init : ByteArray := prog_2_method_1_code
def yX0_init : MethodName := ⟨RX0, "<init>", "()V"⟩
abbrev cX0_forget : ByteArray := prog_2_method_2_code
def yX0_forget : MethodName := ⟨RX0, "forget", "()V"⟩
abbrev cX0_clear : ByteArray := prog_2_method_3_code
def yX0_clear : MethodName := ⟨RX0, "clear", "()V"⟩
abbrev cX0_narrow : ByteArray := prog_2_method_4_code
def yX0_narrow : MethodName := ⟨RX0, "narrow", "(LFirstSeconds$Travels;III)V"⟩
abbrev cX0_countCells : ByteArray := prog_2_method_5_code
def yX0_countCells : MethodName := ⟨RX0, "countCells", "()V"⟩
abbrev cX0_measure : ByteArray := prog_2_method_6_code
def yX0_measure : MethodName := ⟨RX0, "measure", "(LFirstSeconds$Travels;II)V"⟩
abbrev cX0_has : ByteArray := prog_2_method_7_code
def yX0_has : MethodName := ⟨RX0, "has", "(I)Z"⟩
def RX1 : String := "FirstSeconds$Message"
def TX1 : u_T := fun k => match k with
  | _ => ("", "", "", false)
def tyX1 : Nat → FieldType := fun k => match k with
  | _ => .int
abbrev wsX10 : List Cond := u_ws RX1 TX1 0
theorem nmX1 : ∀ a, a < 0 → ∀ b, b < 0 → a ≠ b → (TX1 a).2.1 ≠ (TX1 b).2.1 := by decide +kernel
theorem tyX1_ok : ∀ k, k < 0 → parseFieldDescriptor (TX1 k).2.2.1 = some (tyX1 k) := by decide +kernel
def RX2 : String := "FirstSeconds$Pick"
def TX2 : u_T := fun k => match k with
  | 0 => ("FirstSeconds$Pick", "station", "I", true)
  | 1 => ("FirstSeconds$Pick", "tick", "I", true)
  | 2 => ("FirstSeconds$Pick", "strength", "I", true)
  | 3 => ("FirstSeconds$Pick", "kind", "I", true)
  | _ => ("FirstSeconds$Pick", "quake", "I", true)
def tyX2 : Nat → FieldType := fun k => match k with
  | 0 => .int
  | 1 => .int
  | 2 => .int
  | 3 => .int
  | _ => .int
abbrev wsX20 : List Cond := u_ws RX2 TX2 5
theorem nmX2 : ∀ a, a < 5 → ∀ b, b < 5 → a ≠ b → (TX2 a).2.1 ≠ (TX2 b).2.1 := by decide +kernel
theorem tyX2_ok : ∀ k, k < 5 → parseFieldDescriptor (TX2 k).2.2.1 = some (tyX2 k) := by decide +kernel
abbrev cX2_init : ByteArray := prog_4_method_1_code
def yX2_init : MethodName := ⟨RX2, "<init>", "(IIIII)V"⟩
def RX3 : String := "FirstSeconds$Quake"
def TX3 : u_T := fun k => match k with
  | 0 => ("FirstSeconds$Quake", "firstStation", "I", true)
  | 1 => ("FirstSeconds$Quake", "firstStrength", "I", true)
  | 2 => ("FirstSeconds$Quake", "ticks", "[I", true)
  | 3 => ("FirstSeconds$Quake", "heard", "I", false)
  | 4 => ("FirstSeconds$Quake", "told", "[I", true)
  | _ => ("FirstSeconds$Quake", "takenBack", "[I", true)
def tyX3 : Nat → FieldType := fun k => match k with
  | 0 => .int
  | 1 => .int
  | 2 => .array .int
  | 3 => .int
  | 4 => .array .int
  | _ => .array .int
abbrev wsX30 : List Cond := u_ws RX3 TX3 6
theorem nmX3 : ∀ a, a < 6 → ∀ b, b < 6 → a ≠ b → (TX3 a).2.1 ≠ (TX3 b).2.1 := by decide +kernel
theorem tyX3_ok : ∀ k, k < 6 → parseFieldDescriptor (TX3 k).2.2.1 = some (tyX3 k) := by decide +kernel
abbrev cX3_init : ByteArray := prog_5_method_1_code
def yX3_init : MethodName := ⟨RX3, "<init>", "(III)V"⟩
abbrev cX3_hears : ByteArray := prog_5_method_2_code
def yX3_hears : MethodName := ⟨RX3, "hears", "(I)Z"⟩
abbrev cX3_hear : ByteArray := prog_5_method_3_code
def yX3_hear : MethodName := ⟨RX3, "hear", "(II)V"⟩
def RX4 : String := "FirstSeconds$Row"
def TX4 : u_T := fun k => match k with
  | 0 => ("FirstSeconds$Row", "readings", "[I", true)
  | _ => ("FirstSeconds$Row", "size", "I", false)
def tyX4 : Nat → FieldType := fun k => match k with
  | 0 => .array .int
  | _ => .int
abbrev wsX40 : List Cond := u_ws RX4 TX4 2
theorem nmX4 : ∀ a, a < 2 → ∀ b, b < 2 → a ≠ b → (TX4 a).2.1 ≠ (TX4 b).2.1 := by decide +kernel
theorem tyX4_ok : ∀ k, k < 2 → parseFieldDescriptor (TX4 k).2.2.1 = some (tyX4 k) := by decide +kernel
abbrev cX4_init : ByteArray := prog_6_method_1_code
def yX4_init : MethodName := ⟨RX4, "<init>", "()V"⟩
def RX5 : String := "FirstSeconds$Station"
def TX5 : u_T := fun k => match k with
  | 0 => ("FirstSeconds$Station", "cell", "I", true)
  | 1 => ("FirstSeconds$Station", "row", "LFirstSeconds$Row;", true)
  | _ => ("FirstSeconds$Station", "deaf", "Z", false)
def tyX5 : Nat → FieldType := fun k => match k with
  | 0 => .int
  | 1 => .object "FirstSeconds$Row"
  | _ => .boolean
abbrev wsX50 : List Cond := u_ws RX5 TX5 3
theorem nmX5 : ∀ a, a < 3 → ∀ b, b < 3 → a ≠ b → (TX5 a).2.1 ≠ (TX5 b).2.1 := by decide +kernel
theorem tyX5_ok : ∀ k, k < 3 → parseFieldDescriptor (TX5 k).2.2.1 = some (tyX5 k) := by decide +kernel
abbrev cX5_init : ByteArray := prog_7_method_1_code
def yX5_init : MethodName := ⟨RX5, "<init>", "(I)V"⟩
def RX6 : String := "FirstSeconds$Town"
def TX6 : u_T := fun k => match k with
  | _ => ("FirstSeconds$Town", "cell", "I", true)
def tyX6 : Nat → FieldType := fun k => match k with
  | _ => .int
abbrev wsX60 : List Cond := u_ws RX6 TX6 1
theorem nmX6 : ∀ a, a < 1 → ∀ b, b < 1 → a ≠ b → (TX6 a).2.1 ≠ (TX6 b).2.1 := by decide +kernel
theorem tyX6_ok : ∀ k, k < 1 → parseFieldDescriptor (TX6 k).2.2.1 = some (tyX6 k) := by decide +kernel
abbrev cX6_init : ByteArray := prog_8_method_1_code
def yX6_init : MethodName := ⟨RX6, "<init>", "(I)V"⟩
def RX7 : String := "FirstSeconds$Travels"
def TX7 : u_T := fun k => match k with
  | _ => ("FirstSeconds$Travels", "ticks", "[I", true)
def tyX7 : Nat → FieldType := fun k => match k with
  | _ => .array .int
abbrev wsX70 : List Cond := u_ws RX7 TX7 1
theorem nmX7 : ∀ a, a < 1 → ∀ b, b < 1 → a ≠ b → (TX7 a).2.1 ≠ (TX7 b).2.1 := by decide +kernel
theorem tyX7_ok : ∀ k, k < 1 → parseFieldDescriptor (TX7 k).2.2.1 = some (tyX7 k) := by decide +kernel
abbrev cX7_init : ByteArray := prog_9_method_1_code
def yX7_init : MethodName := ⟨RX7, "<init>", "(I)V"⟩
abbrev cX7_reckon : ByteArray := prog_9_method_2_code
def yX7_reckon : MethodName := ⟨RX7, "reckon", "(I)V"⟩
abbrev cX7_between : ByteArray := prog_9_method_3_code
def yX7_between : MethodName := ⟨RX7, "between", "(II)I"⟩
abbrev cX7_root : ByteArray := prog_9_method_4_code
def yX7_root : MethodName := ⟨RX7, "root", "(I)I"⟩
def RX8 : String := "FirstSeconds"
def TX8 : u_T := fun k => match k with
  | 0 => ("FirstSeconds", "travels", "LFirstSeconds$Travels;", true)
  | 1 => ("FirstSeconds", "stations", "Ljava/util/ArrayList;", true)
  | 2 => ("FirstSeconds", "towns", "Ljava/util/ArrayList;", true)
  | 3 => ("FirstSeconds", "picks", "Ljava/util/ArrayList;", true)
  | 4 => ("FirstSeconds", "quakes", "Ljava/util/ArrayList;", true)
  | 5 => ("FirstSeconds", "kept", "Ljava/util/ArrayList;", true)
  | 6 => ("FirstSeconds", "heap", "LFirstSeconds$Heap;", true)
  | 7 => ("FirstSeconds", "needs", "[I", true)
  | 8 => ("FirstSeconds", "answered", "[I", true)
  | 9 => ("FirstSeconds", "latestFinding", "I", false)
  | 10 => ("FirstSeconds", "now", "I", false)
  | 11 => ("FirstSeconds", "error", "I", false)
  | 12 => ("FirstSeconds", "messages", "I", false)
  | _ => ("FirstSeconds", "latestAsked", "I", false)
def tyX8 : Nat → FieldType := fun k => match k with
  | 0 => .object "FirstSeconds$Travels"
  | 1 => .object "java/util/ArrayList"
  | 2 => .object "java/util/ArrayList"
  | 3 => .object "java/util/ArrayList"
  | 4 => .object "java/util/ArrayList"
  | 5 => .object "java/util/ArrayList"
  | 6 => .object "FirstSeconds$Heap"
  | 7 => .array .int
  | 8 => .array .int
  | 9 => .int
  | 10 => .int
  | 11 => .int
  | 12 => .int
  | _ => .int
abbrev wsX80 : List Cond := u_ws RX8 TX8 14
theorem nmX8 : ∀ a, a < 14 → ∀ b, b < 14 → a ≠ b → (TX8 a).2.1 ≠ (TX8 b).2.1 := by decide +kernel
theorem tyX8_ok : ∀ k, k < 14 → parseFieldDescriptor (TX8 k).2.2.1 = some (tyX8 k) := by decide +kernel
abbrev cX8_init : ByteArray := prog_1_method_1_code
def yX8_init : MethodName := ⟨RX8, "<init>", "()V"⟩
abbrev cX8_rule : ByteArray := prog_1_method_2_code
def yX8_rule : MethodName := ⟨RX8, "rule", "(II)I"⟩
abbrev cX8_station : ByteArray := prog_1_method_3_code
def yX8_station : MethodName := ⟨RX8, "station", "(I)I"⟩
abbrev cX8_town : ByteArray := prog_1_method_4_code
def yX8_town : MethodName := ⟨RX8, "town", "(I)I"⟩
abbrev cX8_travel : ByteArray := prog_1_method_6_code
def yX8_travel : MethodName := ⟨RX8, "travel", "(II)I"⟩
abbrev cX8_later : ByteArray := prog_1_method_7_code
def yX8_later : MethodName := ⟨RX8, "later", "(I)I"⟩
abbrev cX8_pick : ByteArray := prog_1_method_14_code
def yX8_pick : MethodName := ⟨RX8, "pick", "(III)I"⟩
abbrev cX8_quake : ByteArray := prog_1_method_17_code
def yX8_quake : MethodName := ⟨RX8, "quake", "(II)I"⟩
abbrev cX8_holds : ByteArray := prog_1_method_20_code
def yX8_holds : MethodName := ⟨RX8, "holds", "(III)I"⟩
abbrev cX8_late : ByteArray := prog_1_method_27_code
def yX8_late : MethodName := ⟨RX8, "late", "(II)I"⟩
abbrev cX8_left : ByteArray := prog_1_method_28_code
def yX8_left : MethodName := ⟨RX8, "left", "(II)I"⟩
abbrev cX8_count : ByteArray := prog_1_method_30_code
def yX8_count : MethodName := ⟨RX8, "count", "(I)I"⟩
abbrev cX8_isWithin : ByteArray := prog_1_method_34_code
def yX8_isWithin : MethodName := ⟨RX8, "isWithin", "(III)Z"⟩
abbrev cX8_isCell : ByteArray := prog_1_method_35_code
def yX8_isCell : MethodName := ⟨RX8, "isCell", "(I)Z"⟩
abbrev cX8_isStation : ByteArray := prog_1_method_36_code
def yX8_isStation : MethodName := ⟨RX8, "isStation", "(I)Z"⟩
abbrev cX8_isTown : ByteArray := prog_1_method_37_code
def yX8_isTown : MethodName := ⟨RX8, "isTown", "(I)Z"⟩
abbrev cX8_isQuake : ByteArray := prog_1_method_39_code
def yX8_isQuake : MethodName := ⟨RX8, "isQuake", "(I)Z"⟩
abbrev cX8_bits : ByteArray := prog_1_method_42_code
def yX8_bits : MethodName := ⟨RX8, "bits", "(I)I"⟩
abbrev cX8_takerOf : ByteArray := prog_1_method_45_code
def yX8_takerOf : MethodName := ⟨RX8, "takerOf", "(II)I"⟩
abbrev cX8_takes : ByteArray := prog_1_method_46_code
def yX8_takes : MethodName := ⟨RX8, "takes", "(III)Z"⟩
abbrev cX8_isOver : ByteArray := prog_1_method_47_code
def yX8_isOver : MethodName := ⟨RX8, "isOver", "(I)Z"⟩
abbrev cX8_heapOf : ByteArray := prog_1_method_48_code
def yX8_heapOf : MethodName := ⟨RX8, "heapOf", "(I)LFirstSeconds$Heap;"⟩
abbrev cX8_fillHeap : ByteArray := prog_1_method_49_code
def yX8_fillHeap : MethodName := ⟨RX8, "fillHeap", "(LFirstSeconds$Quake;II)V"⟩
abbrev cX8_earliestArrival : ByteArray := prog_1_method_51_code
def yX8_earliestArrival : MethodName := ⟨RX8, "earliestArrival", "(II)I"⟩
abbrev cX8_latestArrival : ByteArray := prog_1_method_52_code
def yX8_latestArrival : MethodName := ⟨RX8, "latestArrival", "(II)I"⟩
def RX9 : String := "FirstSecondsModel"
def TX9 : u_T := fun k => match k with
  | _ => ("", "", "", false)
def tyX9 : Nat → FieldType := fun k => match k with
  | _ => .int
abbrev wsX90 : List Cond := u_ws RX9 TX9 0
theorem nmX9 : ∀ a, a < 0 → ∀ b, b < 0 → a ≠ b → (TX9 a).2.1 ≠ (TX9 b).2.1 := by decide +kernel
theorem tyX9_ok : ∀ k, k < 0 → parseFieldDescriptor (TX9 k).2.2.1 = some (tyX9 k) := by decide +kernel
def RJx145de : String := "java/io/Serializable"
def TJx145de : u_T := fun k => match k with
  | _ => ("", "", "", false)
def tyJx145de : Nat → FieldType := fun k => match k with
  | _ => .int
abbrev wsJx145de0 : List Cond := u_ws RJx145de TJx145de 0
theorem nmJx145de : ∀ a, a < 0 → ∀ b, b < 0 → a ≠ b → (TJx145de a).2.1 ≠ (TJx145de b).2.1 := by decide +kernel
theorem tyJx145de_ok : ∀ k, k < 0 → parseFieldDescriptor (TJx145de k).2.2.1 = some (tyJx145de k) := by decide +kernel
def RJx8e188 : String := "java/lang/Cloneable"
def TJx8e188 : u_T := fun k => match k with
  | _ => ("", "", "", false)
def tyJx8e188 : Nat → FieldType := fun k => match k with
  | _ => .int
abbrev wsJx8e1880 : List Cond := u_ws RJx8e188 TJx8e188 0
theorem nmJx8e188 : ∀ a, a < 0 → ∀ b, b < 0 → a ≠ b → (TJx8e188 a).2.1 ≠ (TJx8e188 b).2.1 := by decide +kernel
theorem tyJx8e188_ok : ∀ k, k < 0 → parseFieldDescriptor (TJx8e188 k).2.2.1 = some (tyJx8e188 k) := by decide +kernel
def RJ6 : String := "java/lang/Integer"
def TJ6 : u_T := fun k => match k with
  | _ => ("", "", "", false)
def tyJ6 : Nat → FieldType := fun k => match k with
  | _ => .int
abbrev wsJ60 : List Cond := u_ws RJ6 TJ6 0
theorem nmJ6 : ∀ a, a < 0 → ∀ b, b < 0 → a ≠ b → (TJ6 a).2.1 ≠ (TJ6 b).2.1 := by decide +kernel
theorem tyJ6_ok : ∀ k, k < 0 → parseFieldDescriptor (TJ6 k).2.2.1 = some (tyJ6 k) := by decide +kernel
abbrev cJ6_numberOfLeadingZeros_0f7a4 : ByteArray := prog_14_method_47_code
def yJ6_numberOfLeadingZeros_0f7a4 : MethodName := ⟨RJ6, "numberOfLeadingZeros", "(I)I"⟩
def RJxab1ab : String := "java/lang/Iterable"
def TJxab1ab : u_T := fun k => match k with
  | _ => ("", "", "", false)
def tyJxab1ab : Nat → FieldType := fun k => match k with
  | _ => .int
abbrev wsJxab1ab0 : List Cond := u_ws RJxab1ab TJxab1ab 0
theorem nmJxab1ab : ∀ a, a < 0 → ∀ b, b < 0 → a ≠ b → (TJxab1ab a).2.1 ≠ (TJxab1ab b).2.1 := by decide +kernel
theorem tyJxab1ab_ok : ∀ k, k < 0 → parseFieldDescriptor (TJxab1ab k).2.2.1 = some (tyJxab1ab k) := by decide +kernel
def RJ9 : String := "java/lang/Math"
def TJ9 : u_T := fun k => match k with
  | _ => ("", "", "", false)
def tyJ9 : Nat → FieldType := fun k => match k with
  | _ => .int
abbrev wsJ90 : List Cond := u_ws RJ9 TJ9 0
theorem nmJ9 : ∀ a, a < 0 → ∀ b, b < 0 → a ≠ b → (TJ9 a).2.1 ≠ (TJ9 b).2.1 := by decide +kernel
theorem tyJ9_ok : ∀ k, k < 0 → parseFieldDescriptor (TJ9 k).2.2.1 = some (tyJ9 k) := by decide +kernel
abbrev cJ9_abs_0f7a4 : ByteArray := prog_16_method_59_code
def yJ9_abs_0f7a4 : MethodName := ⟨RJ9, "abs", "(I)I"⟩
abbrev cJ9_max_7cf53 : ByteArray := prog_16_method_65_code
def yJ9_max_7cf53 : MethodName := ⟨RJ9, "max", "(II)I"⟩
abbrev cJ9_min_7cf53 : ByteArray := prog_16_method_69_code
def yJ9_min_7cf53 : MethodName := ⟨RJ9, "min", "(II)I"⟩
def RJ10 : String := "java/lang/System"
def TJ10 : u_T := fun k => match k with
  | _ => ("", "", "", false)
def tyJ10 : Nat → FieldType := fun k => match k with
  | _ => .int
abbrev wsJ100 : List Cond := u_ws RJ10 TJ10 0
theorem nmJ10 : ∀ a, a < 0 → ∀ b, b < 0 → a ≠ b → (TJ10 a).2.1 ≠ (TJ10 b).2.1 := by decide +kernel
theorem tyJ10_ok : ∀ k, k < 0 → parseFieldDescriptor (TJ10 k).2.2.1 = some (tyJ10 k) := by decide +kernel
def RJxa1e45 : String := "java/util/AbstractCollection"
def TJxa1e45 : u_T := fun k => match k with
  | _ => ("", "", "", false)
def tyJxa1e45 : Nat → FieldType := fun k => match k with
  | _ => .int
abbrev wsJxa1e450 : List Cond := u_ws RJxa1e45 TJxa1e45 0
theorem nmJxa1e45 : ∀ a, a < 0 → ∀ b, b < 0 → a ≠ b → (TJxa1e45 a).2.1 ≠ (TJxa1e45 b).2.1 := by decide +kernel
theorem tyJxa1e45_ok : ∀ k, k < 0 → parseFieldDescriptor (TJxa1e45 k).2.2.1 = some (tyJxa1e45 k) := by decide +kernel
abbrev cJxa1e45_init_da8c8 : ByteArray := prog_18_method_1_code
def yJxa1e45_init_da8c8 : MethodName := ⟨RJxa1e45, "<init>", "()V"⟩
def RJxc12de : String := "java/util/AbstractList"
def TJxc12de : u_T := fun k => match k with
  | _ => ("", "", "", false)
def tyJxc12de : Nat → FieldType := fun k => match k with
  | _ => .int
abbrev wsJxc12de0 : List Cond := u_ws RJxc12de TJxc12de 0
theorem nmJxc12de : ∀ a, a < 0 → ∀ b, b < 0 → a ≠ b → (TJxc12de a).2.1 ≠ (TJxc12de b).2.1 := by decide +kernel
theorem tyJxc12de_ok : ∀ k, k < 0 → parseFieldDescriptor (TJxc12de k).2.2.1 = some (tyJxc12de k) := by decide +kernel
abbrev cJxc12de_init_da8c8 : ByteArray := prog_19_method_1_code
def yJxc12de_init_da8c8 : MethodName := ⟨RJxc12de, "<init>", "()V"⟩
def RJx4a65c : String := "java/util/ArrayList"
def TJx4a65c : u_T := fun k => match k with
  | 0 => ("java/util/AbstractList", "modCount", "I", false)
  | 1 => ("java/util/ArrayList", "elementData", "[Ljava/lang/Object;", false)
  | _ => ("java/util/ArrayList", "size", "I", false)
def tyJx4a65c : Nat → FieldType := fun k => match k with
  | 0 => .int
  | 1 => .array (.object "java/lang/Object")
  | _ => .int
abbrev wsJx4a65c0 : List Cond := u_ws RJx4a65c TJx4a65c 3
theorem nmJx4a65c : ∀ a, a < 3 → ∀ b, b < 3 → a ≠ b → (TJx4a65c a).2.1 ≠ (TJx4a65c b).2.1 := by decide +kernel
theorem tyJx4a65c_ok : ∀ k, k < 3 → parseFieldDescriptor (TJx4a65c k).2.2.1 = some (tyJx4a65c k) := by decide +kernel
abbrev cJx4a65c_init_da8c8 : ByteArray := prog_20_method_2_code
def yJx4a65c_init_da8c8 : MethodName := ⟨RJx4a65c, "<init>", "()V"⟩
abbrev cJx4a65c_grow_92f84 : ByteArray := prog_20_method_6_code
def yJx4a65c_grow_92f84 : MethodName := ⟨RJx4a65c, "grow", "(I)[Ljava/lang/Object;"⟩
abbrev cJx4a65c_grow_d5877 : ByteArray := prog_20_method_7_code
def yJx4a65c_grow_d5877 : MethodName := ⟨RJx4a65c, "grow", "()[Ljava/lang/Object;"⟩
abbrev cJx4a65c_size_8abf5 : ByteArray := prog_20_method_8_code
def yJx4a65c_size_8abf5 : MethodName := ⟨RJx4a65c, "size", "()I"⟩
abbrev cJx4a65c_isEmpty_aae02 : ByteArray := prog_20_method_9_code
def yJx4a65c_isEmpty_aae02 : MethodName := ⟨RJx4a65c, "isEmpty", "()Z"⟩
abbrev cJx4a65c_elementData_915e3 : ByteArray := prog_20_method_18_code
def yJx4a65c_elementData_915e3 : MethodName := ⟨RJx4a65c, "elementData", "(I)Ljava/lang/Object;"⟩
abbrev cJx4a65c_get_915e3 : ByteArray := prog_20_method_20_code
def yJx4a65c_get_915e3 : MethodName := ⟨RJx4a65c, "get", "(I)Ljava/lang/Object;"⟩
abbrev cJx4a65c_add_72be8 : ByteArray := prog_20_method_24_code
def yJx4a65c_add_72be8 : MethodName := ⟨RJx4a65c, "add", "(Ljava/lang/Object;[Ljava/lang/Object;I)V"⟩
abbrev cJx4a65c_add_9ea2d : ByteArray := prog_20_method_25_code
def yJx4a65c_add_9ea2d : MethodName := ⟨RJx4a65c, "add", "(Ljava/lang/Object;)Z"⟩
def RJ7 : String := "java/util/Arrays"
def TJ7 : u_T := fun k => match k with
  | _ => ("", "", "", false)
def tyJ7 : Nat → FieldType := fun k => match k with
  | _ => .int
abbrev wsJ70 : List Cond := u_ws RJ7 TJ7 0
theorem nmJ7 : ∀ a, a < 0 → ∀ b, b < 0 → a ≠ b → (TJ7 a).2.1 ≠ (TJ7 b).2.1 := by decide +kernel
theorem tyJ7_ok : ∀ k, k < 0 → parseFieldDescriptor (TJ7 k).2.2.1 = some (tyJ7 k) := by decide +kernel
abbrev cJ7_copyOf_1904c : ByteArray := prog_21_method_119_code
def yJ7_copyOf_1904c : MethodName := ⟨RJ7, "copyOf", "([Ljava/lang/Object;I)[Ljava/lang/Object;"⟩
abbrev cJ7_copyOf_6403c : ByteArray := prog_21_method_120_code
def yJ7_copyOf_6403c : MethodName := ⟨RJ7, "copyOf", "([Ljava/lang/Object;ILjava/lang/Class;)[Ljava/lang/Object;"⟩
def RJx5ef63 : String := "java/util/Collection"
def TJx5ef63 : u_T := fun k => match k with
  | _ => ("", "", "", false)
def tyJx5ef63 : Nat → FieldType := fun k => match k with
  | _ => .int
abbrev wsJx5ef630 : List Cond := u_ws RJx5ef63 TJx5ef63 0
theorem nmJx5ef63 : ∀ a, a < 0 → ∀ b, b < 0 → a ≠ b → (TJx5ef63 a).2.1 ≠ (TJx5ef63 b).2.1 := by decide +kernel
theorem tyJx5ef63_ok : ∀ k, k < 0 → parseFieldDescriptor (TJx5ef63 k).2.2.1 = some (tyJx5ef63 k) := by decide +kernel
def RJxbd725 : String := "java/util/List"
def TJxbd725 : u_T := fun k => match k with
  | _ => ("", "", "", false)
def tyJxbd725 : Nat → FieldType := fun k => match k with
  | _ => .int
abbrev wsJxbd7250 : List Cond := u_ws RJxbd725 TJxbd725 0
theorem nmJxbd725 : ∀ a, a < 0 → ∀ b, b < 0 → a ≠ b → (TJxbd725 a).2.1 ≠ (TJxbd725 b).2.1 := by decide +kernel
theorem tyJxbd725_ok : ∀ k, k < 0 → parseFieldDescriptor (TJxbd725 k).2.2.1 = some (tyJxbd725 k) := by decide +kernel
def RJ15 : String := "java/util/Objects"
def TJ15 : u_T := fun k => match k with
  | _ => ("", "", "", false)
def tyJ15 : Nat → FieldType := fun k => match k with
  | _ => .int
abbrev wsJ150 : List Cond := u_ws RJ15 TJ15 0
theorem nmJ15 : ∀ a, a < 0 → ∀ b, b < 0 → a ≠ b → (TJ15 a).2.1 ≠ (TJ15 b).2.1 := by decide +kernel
theorem tyJ15_ok : ∀ k, k < 0 → parseFieldDescriptor (TJ15 k).2.2.1 = some (tyJ15 k) := by decide +kernel
abbrev cJ15_checkIndex_7cf53 : ByteArray := prog_24_method_17_code
def yJ15_checkIndex_7cf53 : MethodName := ⟨RJ15, "checkIndex", "(II)I"⟩
def RJxf0a74 : String := "java/util/RandomAccess"
def TJxf0a74 : u_T := fun k => match k with
  | _ => ("", "", "", false)
def tyJxf0a74 : Nat → FieldType := fun k => match k with
  | _ => .int
abbrev wsJxf0a740 : List Cond := u_ws RJxf0a74 TJxf0a74 0
theorem nmJxf0a74 : ∀ a, a < 0 → ∀ b, b < 0 → a ≠ b → (TJxf0a74 a).2.1 ≠ (TJxf0a74 b).2.1 := by decide +kernel
theorem tyJxf0a74_ok : ∀ k, k < 0 → parseFieldDescriptor (TJxf0a74 k).2.2.1 = some (tyJxf0a74 k) := by decide +kernel
def RJxa66e6 : String := "java/util/SequencedCollection"
def TJxa66e6 : u_T := fun k => match k with
  | _ => ("", "", "", false)
def tyJxa66e6 : Nat → FieldType := fun k => match k with
  | _ => .int
abbrev wsJxa66e60 : List Cond := u_ws RJxa66e6 TJxa66e6 0
theorem nmJxa66e6 : ∀ a, a < 0 → ∀ b, b < 0 → a ≠ b → (TJxa66e6 a).2.1 ≠ (TJxa66e6 b).2.1 := by decide +kernel
theorem tyJxa66e6_ok : ∀ k, k < 0 → parseFieldDescriptor (TJxa66e6 k).2.2.1 = some (tyJxa66e6 k) := by decide +kernel
def RJ8 : String := "jdk/internal/util/ArraysSupport"
def TJ8 : u_T := fun k => match k with
  | _ => ("", "", "", false)
def tyJ8 : Nat → FieldType := fun k => match k with
  | _ => .int
abbrev wsJ80 : List Cond := u_ws RJ8 TJ8 0
theorem nmJ8 : ∀ a, a < 0 → ∀ b, b < 0 → a ≠ b → (TJ8 a).2.1 ≠ (TJ8 b).2.1 := by decide +kernel
theorem tyJ8_ok : ∀ k, k < 0 → parseFieldDescriptor (TJ8 k).2.2.1 = some (tyJ8 k) := by decide +kernel
abbrev cJ8_newLength_cabcc : ByteArray := prog_27_method_27_code
def yJ8_newLength_cabcc : MethodName := ⟨RJ8, "newLength", "(III)I"⟩
abbrev cJ8_hugeLength_7cf53 : ByteArray := prog_27_method_28_code
def yJ8_hugeLength_7cf53 : MethodName := ⟨RJ8, "hugeLength", "(II)I"⟩
def RJ3 : String := "jdk/internal/util/Preconditions"
def TJ3 : u_T := fun k => match k with
  | _ => ("", "", "", false)
def tyJ3 : Nat → FieldType := fun k => match k with
  | _ => .int
abbrev wsJ30 : List Cond := u_ws RJ3 TJ3 0
theorem nmJ3 : ∀ a, a < 0 → ∀ b, b < 0 → a ≠ b → (TJ3 a).2.1 ≠ (TJ3 b).2.1 := by decide +kernel
theorem tyJ3_ok : ∀ k, k < 0 → parseFieldDescriptor (TJ3 k).2.2.1 = some (tyJ3 k) := by decide +kernel
abbrev cJ3_checkIndex_8e157 : ByteArray := prog_28_method_11_code
def yJ3_checkIndex_8e157 : MethodName := ⟨RJ3, "checkIndex", "(IILjava/util/function/BiFunction;)I"⟩
def RL : String := "FirstSecondsLaw"
abbrev cL_low : ByteArray := method_2_code
def yL_low : MethodName := ⟨RL, "low", "(II)I"⟩
abbrev cL_cell : ByteArray := method_3_code
def yL_cell : MethodName := ⟨RL, "cell", "([II)I"⟩
abbrev cL_law : ByteArray := code
def yL_law : MethodName := ⟨RL, "law", "([I)Z"⟩
theorem dX0_init_0 : decode cX0_init 0 = .ok (.aload_n 0, 1) := by decide +kernel
theorem dX0_init_1 : decode cX0_init 1 = .ok (.invokespecial 3, 3) := by decide +kernel
theorem dX0_init_4 : decode cX0_init 4 = .ok (.aload_n 0, 1) := by decide +kernel
theorem dX0_init_5 : decode cX0_init 5 = .ok (.sipush 144, 3) := by decide +kernel
theorem dX0_init_8 : decode cX0_init 8 = .ok (.newarray .int, 2) := by decide +kernel
theorem dX0_init_10 : decode cX0_init 10 = .ok (.putfield 9, 3) := by decide +kernel
theorem dX0_init_13 : decode cX0_init 13 = .ok (.aload_n 0, 1) := by decide +kernel
theorem dX0_init_14 : decode cX0_init 14 = .ok (.sipush 144, 3) := by decide +kernel
theorem dX0_init_17 : decode cX0_init 17 = .ok (.newarray .int, 2) := by decide +kernel
theorem dX0_init_19 : decode cX0_init 19 = .ok (.putfield 15, 3) := by decide +kernel
theorem dX0_init_22 : decode cX0_init 22 = .ok (.aload_n 0, 1) := by decide +kernel
theorem dX0_init_23 : decode cX0_init 23 = .ok (.bipush (-9), 2) := by decide +kernel
theorem dX0_init_25 : decode cX0_init 25 = .ok (.putfield 18, 3) := by decide +kernel
theorem dX0_init_28 : decode cX0_init 28 = .ok (.return_, 1) := by decide +kernel
theorem dX0_forget_0 : decode cX0_forget 0 = .ok (.aload_n 0, 1) := by decide +kernel
theorem dX0_forget_1 : decode cX0_forget 1 = .ok (.bipush (-9), 2) := by decide +kernel
theorem dX0_forget_3 : decode cX0_forget 3 = .ok (.putfield 18, 3) := by decide +kernel
theorem dX0_forget_6 : decode cX0_forget 6 = .ok (.return_, 1) := by decide +kernel
theorem dX0_clear_0 : decode cX0_clear 0 = .ok (.aload_n 0, 1) := by decide +kernel
theorem dX0_clear_1 : decode cX0_clear 1 = .ok (.bipush (-9), 2) := by decide +kernel
theorem dX0_clear_3 : decode cX0_clear 3 = .ok (.putfield 18, 3) := by decide +kernel
theorem dX0_clear_6 : decode cX0_clear 6 = .ok (.iconst 0, 1) := by decide +kernel
theorem dX0_clear_7 : decode cX0_clear 7 = .ok (.istore_n 1, 1) := by decide +kernel
theorem dX0_clear_8 : decode cX0_clear 8 = .ok (.iload_n 1, 1) := by decide +kernel
theorem dX0_clear_9 : decode cX0_clear 9 = .ok (.sipush 144, 3) := by decide +kernel
theorem dX0_clear_12 : decode cX0_clear 12 = .ok (.if_icmp .ge 25, 3) := by decide +kernel
theorem dX0_clear_15 : decode cX0_clear 15 = .ok (.aload_n 0, 1) := by decide +kernel
theorem dX0_clear_16 : decode cX0_clear 16 = .ok (.getfield 9, 3) := by decide +kernel
theorem dX0_clear_19 : decode cX0_clear 19 = .ok (.iload_n 1, 1) := by decide +kernel
theorem dX0_clear_20 : decode cX0_clear 20 = .ok (.ldc 22, 2) := by decide +kernel
theorem dX0_clear_22 : decode cX0_clear 22 = .ok (.iastore, 1) := by decide +kernel
theorem dX0_clear_23 : decode cX0_clear 23 = .ok (.aload_n 0, 1) := by decide +kernel
theorem dX0_clear_24 : decode cX0_clear 24 = .ok (.getfield 15, 3) := by decide +kernel
theorem dX0_clear_27 : decode cX0_clear 27 = .ok (.iload_n 1, 1) := by decide +kernel
theorem dX0_clear_28 : decode cX0_clear 28 = .ok (.ldc 23, 2) := by decide +kernel
theorem dX0_clear_30 : decode cX0_clear 30 = .ok (.iastore, 1) := by decide +kernel
theorem dX0_clear_31 : decode cX0_clear 31 = .ok (.iinc 1 1, 3) := by decide +kernel
theorem dX0_clear_34 : decode cX0_clear 34 = .ok (.goto (-26), 3) := by decide +kernel
theorem dX0_clear_37 : decode cX0_clear 37 = .ok (.return_, 1) := by decide +kernel
theorem dX0_narrow_0 : decode cX0_narrow 0 = .ok (.iconst 0, 1) := by decide +kernel
theorem dX0_narrow_1 : decode cX0_narrow 1 = .ok (.istore 5, 2) := by decide +kernel
theorem dX0_narrow_3 : decode cX0_narrow 3 = .ok (.iload 5, 2) := by decide +kernel
theorem dX0_narrow_5 : decode cX0_narrow 5 = .ok (.sipush 144, 3) := by decide +kernel
theorem dX0_narrow_8 : decode cX0_narrow 8 = .ok (.if_icmp .ge 61, 3) := by decide +kernel
theorem dX0_narrow_11 : decode cX0_narrow 11 = .ok (.aload_n 1, 1) := by decide +kernel
theorem dX0_narrow_12 : decode cX0_narrow 12 = .ok (.iload 5, 2) := by decide +kernel
theorem dX0_narrow_14 : decode cX0_narrow 14 = .ok (.iload_n 2, 1) := by decide +kernel
theorem dX0_narrow_15 : decode cX0_narrow 15 = .ok (.invokevirtual 24, 3) := by decide +kernel
theorem dX0_narrow_18 : decode cX0_narrow 18 = .ok (.istore 6, 2) := by decide +kernel
theorem dX0_narrow_20 : decode cX0_narrow 20 = .ok (.aload_n 0, 1) := by decide +kernel
theorem dX0_narrow_21 : decode cX0_narrow 21 = .ok (.getfield 9, 3) := by decide +kernel
theorem dX0_narrow_24 : decode cX0_narrow 24 = .ok (.iload 5, 2) := by decide +kernel
theorem dX0_narrow_26 : decode cX0_narrow 26 = .ok (.aload_n 0, 1) := by decide +kernel
theorem dX0_narrow_27 : decode cX0_narrow 27 = .ok (.getfield 9, 3) := by decide +kernel
theorem dX0_narrow_30 : decode cX0_narrow 30 = .ok (.iload 5, 2) := by decide +kernel
theorem dX0_narrow_32 : decode cX0_narrow 32 = .ok (.iaload, 1) := by decide +kernel
theorem dX0_narrow_33 : decode cX0_narrow 33 = .ok (.iload_n 3, 1) := by decide +kernel
theorem dX0_narrow_34 : decode cX0_narrow 34 = .ok (.iload 6, 2) := by decide +kernel
theorem dX0_narrow_36 : decode cX0_narrow 36 = .ok (.isub, 1) := by decide +kernel
theorem dX0_narrow_37 : decode cX0_narrow 37 = .ok (.invokestatic 30, 3) := by decide +kernel
theorem dX0_narrow_40 : decode cX0_narrow 40 = .ok (.iastore, 1) := by decide +kernel
theorem dX0_narrow_41 : decode cX0_narrow 41 = .ok (.aload_n 0, 1) := by decide +kernel
theorem dX0_narrow_42 : decode cX0_narrow 42 = .ok (.getfield 15, 3) := by decide +kernel
theorem dX0_narrow_45 : decode cX0_narrow 45 = .ok (.iload 5, 2) := by decide +kernel
theorem dX0_narrow_47 : decode cX0_narrow 47 = .ok (.aload_n 0, 1) := by decide +kernel
theorem dX0_narrow_48 : decode cX0_narrow 48 = .ok (.getfield 15, 3) := by decide +kernel
theorem dX0_narrow_51 : decode cX0_narrow 51 = .ok (.iload 5, 2) := by decide +kernel
theorem dX0_narrow_53 : decode cX0_narrow 53 = .ok (.iaload, 1) := by decide +kernel
theorem dX0_narrow_54 : decode cX0_narrow 54 = .ok (.iload 4, 2) := by decide +kernel
theorem dX0_narrow_56 : decode cX0_narrow 56 = .ok (.iload 6, 2) := by decide +kernel
theorem dX0_narrow_58 : decode cX0_narrow 58 = .ok (.isub, 1) := by decide +kernel
theorem dX0_narrow_59 : decode cX0_narrow 59 = .ok (.invokestatic 35, 3) := by decide +kernel
theorem dX0_narrow_62 : decode cX0_narrow 62 = .ok (.iastore, 1) := by decide +kernel
theorem dX0_narrow_63 : decode cX0_narrow 63 = .ok (.iinc 5 1, 3) := by decide +kernel
theorem dX0_narrow_66 : decode cX0_narrow 66 = .ok (.goto (-63), 3) := by decide +kernel
theorem dX0_narrow_69 : decode cX0_narrow 69 = .ok (.return_, 1) := by decide +kernel
theorem dX0_countCells_0 : decode cX0_countCells 0 = .ok (.aload_n 0, 1) := by decide +kernel
theorem dX0_countCells_1 : decode cX0_countCells 1 = .ok (.iconst 0, 1) := by decide +kernel
theorem dX0_countCells_2 : decode cX0_countCells 2 = .ok (.putfield 38, 3) := by decide +kernel
theorem dX0_countCells_5 : decode cX0_countCells 5 = .ok (.iconst 0, 1) := by decide +kernel
theorem dX0_countCells_6 : decode cX0_countCells 6 = .ok (.istore_n 1, 1) := by decide +kernel
theorem dX0_countCells_7 : decode cX0_countCells 7 = .ok (.iload_n 1, 1) := by decide +kernel
theorem dX0_countCells_8 : decode cX0_countCells 8 = .ok (.sipush 144, 3) := by decide +kernel
theorem dX0_countCells_11 : decode cX0_countCells 11 = .ok (.if_icmp .ge 27, 3) := by decide +kernel
theorem dX0_countCells_14 : decode cX0_countCells 14 = .ok (.aload_n 0, 1) := by decide +kernel
theorem dX0_countCells_15 : decode cX0_countCells 15 = .ok (.iload_n 1, 1) := by decide +kernel
theorem dX0_countCells_16 : decode cX0_countCells 16 = .ok (.invokevirtual 41, 3) := by decide +kernel
theorem dX0_countCells_19 : decode cX0_countCells 19 = .ok (.ifCond .eq 13, 3) := by decide +kernel
theorem dX0_countCells_22 : decode cX0_countCells 22 = .ok (.aload_n 0, 1) := by decide +kernel
theorem dX0_countCells_23 : decode cX0_countCells 23 = .ok (.dup, 1) := by decide +kernel
theorem dX0_countCells_24 : decode cX0_countCells 24 = .ok (.getfield 38, 3) := by decide +kernel
theorem dX0_countCells_27 : decode cX0_countCells 27 = .ok (.iconst 1, 1) := by decide +kernel
theorem dX0_countCells_28 : decode cX0_countCells 28 = .ok (.iadd, 1) := by decide +kernel
theorem dX0_countCells_29 : decode cX0_countCells 29 = .ok (.putfield 38, 3) := by decide +kernel
theorem dX0_countCells_32 : decode cX0_countCells 32 = .ok (.iinc 1 1, 3) := by decide +kernel
theorem dX0_countCells_35 : decode cX0_countCells 35 = .ok (.goto (-28), 3) := by decide +kernel
theorem dX0_countCells_38 : decode cX0_countCells 38 = .ok (.return_, 1) := by decide +kernel
theorem dX0_measure_0 : decode cX0_measure 0 = .ok (.aload_n 0, 1) := by decide +kernel
theorem dX0_measure_1 : decode cX0_measure 1 = .ok (.bipush (-9), 2) := by decide +kernel
theorem dX0_measure_3 : decode cX0_measure 3 = .ok (.putfield 45, 3) := by decide +kernel
theorem dX0_measure_6 : decode cX0_measure 6 = .ok (.aload_n 0, 1) := by decide +kernel
theorem dX0_measure_7 : decode cX0_measure 7 = .ok (.bipush (-9), 2) := by decide +kernel
theorem dX0_measure_9 : decode cX0_measure 9 = .ok (.putfield 48, 3) := by decide +kernel
theorem dX0_measure_12 : decode cX0_measure 12 = .ok (.iconst 0, 1) := by decide +kernel
theorem dX0_measure_13 : decode cX0_measure 13 = .ok (.istore 4, 2) := by decide +kernel
theorem dX0_measure_15 : decode cX0_measure 15 = .ok (.iload 4, 2) := by decide +kernel
theorem dX0_measure_17 : decode cX0_measure 17 = .ok (.sipush 144, 3) := by decide +kernel
theorem dX0_measure_20 : decode cX0_measure 20 = .ok (.if_icmp .ge 76, 3) := by decide +kernel
theorem dX0_measure_23 : decode cX0_measure 23 = .ok (.aload_n 0, 1) := by decide +kernel
theorem dX0_measure_24 : decode cX0_measure 24 = .ok (.iload 4, 2) := by decide +kernel
theorem dX0_measure_26 : decode cX0_measure 26 = .ok (.invokevirtual 41, 3) := by decide +kernel
theorem dX0_measure_29 : decode cX0_measure 29 = .ok (.ifCond .ne 6, 3) := by decide +kernel
theorem dX0_measure_32 : decode cX0_measure 32 = .ok (.goto 58, 3) := by decide +kernel
theorem dX0_measure_35 : decode cX0_measure 35 = .ok (.iload_n 3, 1) := by decide +kernel
theorem dX0_measure_36 : decode cX0_measure 36 = .ok (.aload_n 1, 1) := by decide +kernel
theorem dX0_measure_37 : decode cX0_measure 37 = .ok (.iload 4, 2) := by decide +kernel
theorem dX0_measure_39 : decode cX0_measure 39 = .ok (.iload_n 2, 1) := by decide +kernel
theorem dX0_measure_40 : decode cX0_measure 40 = .ok (.invokevirtual 24, 3) := by decide +kernel
theorem dX0_measure_43 : decode cX0_measure 43 = .ok (.iconst 1, 1) := by decide +kernel
theorem dX0_measure_44 : decode cX0_measure 44 = .ok (.iadd, 1) := by decide +kernel
theorem dX0_measure_45 : decode cX0_measure 45 = .ok (.imul, 1) := by decide +kernel
theorem dX0_measure_46 : decode cX0_measure 46 = .ok (.invokestatic 51, 3) := by decide +kernel
theorem dX0_measure_49 : decode cX0_measure 49 = .ok (.istore 5, 2) := by decide +kernel
theorem dX0_measure_51 : decode cX0_measure 51 = .ok (.aload_n 0, 1) := by decide +kernel
theorem dX0_measure_52 : decode cX0_measure 52 = .ok (.getfield 45, 3) := by decide +kernel
theorem dX0_measure_55 : decode cX0_measure 55 = .ok (.bipush (-9), 2) := by decide +kernel
theorem dX0_measure_57 : decode cX0_measure 57 = .ok (.if_icmp .eq 12, 3) := by decide +kernel
theorem dX0_measure_60 : decode cX0_measure 60 = .ok (.iload 5, 2) := by decide +kernel
theorem dX0_measure_62 : decode cX0_measure 62 = .ok (.aload_n 0, 1) := by decide +kernel
theorem dX0_measure_63 : decode cX0_measure 63 = .ok (.getfield 45, 3) := by decide +kernel
theorem dX0_measure_66 : decode cX0_measure 66 = .ok (.if_icmp .ge 9, 3) := by decide +kernel
theorem dX0_measure_69 : decode cX0_measure 69 = .ok (.aload_n 0, 1) := by decide +kernel
theorem dX0_measure_70 : decode cX0_measure 70 = .ok (.iload 5, 2) := by decide +kernel
theorem dX0_measure_72 : decode cX0_measure 72 = .ok (.putfield 45, 3) := by decide +kernel
theorem dX0_measure_75 : decode cX0_measure 75 = .ok (.iload 5, 2) := by decide +kernel
theorem dX0_measure_77 : decode cX0_measure 77 = .ok (.aload_n 0, 1) := by decide +kernel
theorem dX0_measure_78 : decode cX0_measure 78 = .ok (.getfield 48, 3) := by decide +kernel
theorem dX0_measure_81 : decode cX0_measure 81 = .ok (.if_icmp .le 9, 3) := by decide +kernel
theorem dX0_measure_84 : decode cX0_measure 84 = .ok (.aload_n 0, 1) := by decide +kernel
theorem dX0_measure_85 : decode cX0_measure 85 = .ok (.iload 5, 2) := by decide +kernel
theorem dX0_measure_87 : decode cX0_measure 87 = .ok (.putfield 48, 3) := by decide +kernel
theorem dX0_measure_90 : decode cX0_measure 90 = .ok (.iinc 4 1, 3) := by decide +kernel
theorem dX0_measure_93 : decode cX0_measure 93 = .ok (.goto (-78), 3) := by decide +kernel
theorem dX0_measure_96 : decode cX0_measure 96 = .ok (.return_, 1) := by decide +kernel
theorem dX0_has_0 : decode cX0_has 0 = .ok (.aload_n 0, 1) := by decide +kernel
theorem dX0_has_1 : decode cX0_has 1 = .ok (.getfield 9, 3) := by decide +kernel
theorem dX0_has_4 : decode cX0_has 4 = .ok (.iload_n 1, 1) := by decide +kernel
theorem dX0_has_5 : decode cX0_has 5 = .ok (.iaload, 1) := by decide +kernel
theorem dX0_has_6 : decode cX0_has 6 = .ok (.aload_n 0, 1) := by decide +kernel
theorem dX0_has_7 : decode cX0_has 7 = .ok (.getfield 15, 3) := by decide +kernel
theorem dX0_has_10 : decode cX0_has 10 = .ok (.iload_n 1, 1) := by decide +kernel
theorem dX0_has_11 : decode cX0_has 11 = .ok (.iaload, 1) := by decide +kernel
theorem dX0_has_12 : decode cX0_has 12 = .ok (.if_icmp .gt 7, 3) := by decide +kernel
theorem dX0_has_15 : decode cX0_has 15 = .ok (.iconst 1, 1) := by decide +kernel
theorem dX0_has_16 : decode cX0_has 16 = .ok (.goto 4, 3) := by decide +kernel
theorem dX0_has_19 : decode cX0_has 19 = .ok (.iconst 0, 1) := by decide +kernel
theorem dX0_has_20 : decode cX0_has 20 = .ok (.ireturn, 1) := by decide +kernel
theorem dX2_init_0 : decode cX2_init 0 = .ok (.aload_n 0, 1) := by decide +kernel
theorem dX2_init_1 : decode cX2_init 1 = .ok (.invokespecial 3, 3) := by decide +kernel
theorem dX2_init_4 : decode cX2_init 4 = .ok (.aload_n 0, 1) := by decide +kernel
theorem dX2_init_5 : decode cX2_init 5 = .ok (.iload_n 1, 1) := by decide +kernel
theorem dX2_init_6 : decode cX2_init 6 = .ok (.putfield 9, 3) := by decide +kernel
theorem dX2_init_9 : decode cX2_init 9 = .ok (.aload_n 0, 1) := by decide +kernel
theorem dX2_init_10 : decode cX2_init 10 = .ok (.iload_n 2, 1) := by decide +kernel
theorem dX2_init_11 : decode cX2_init 11 = .ok (.putfield 15, 3) := by decide +kernel
theorem dX2_init_14 : decode cX2_init 14 = .ok (.aload_n 0, 1) := by decide +kernel
theorem dX2_init_15 : decode cX2_init 15 = .ok (.iload_n 3, 1) := by decide +kernel
theorem dX2_init_16 : decode cX2_init 16 = .ok (.putfield 18, 3) := by decide +kernel
theorem dX2_init_19 : decode cX2_init 19 = .ok (.aload_n 0, 1) := by decide +kernel
theorem dX2_init_20 : decode cX2_init 20 = .ok (.iload 4, 2) := by decide +kernel
theorem dX2_init_22 : decode cX2_init 22 = .ok (.putfield 21, 3) := by decide +kernel
theorem dX2_init_25 : decode cX2_init 25 = .ok (.aload_n 0, 1) := by decide +kernel
theorem dX2_init_26 : decode cX2_init 26 = .ok (.iload 5, 2) := by decide +kernel
theorem dX2_init_28 : decode cX2_init 28 = .ok (.putfield 24, 3) := by decide +kernel
theorem dX2_init_31 : decode cX2_init 31 = .ok (.return_, 1) := by decide +kernel
theorem dX3_init_0 : decode cX3_init 0 = .ok (.aload_n 0, 1) := by decide +kernel
theorem dX3_init_1 : decode cX3_init 1 = .ok (.invokespecial 3, 3) := by decide +kernel
theorem dX3_init_4 : decode cX3_init 4 = .ok (.aload_n 0, 1) := by decide +kernel
theorem dX3_init_5 : decode cX3_init 5 = .ok (.bipush 10, 2) := by decide +kernel
theorem dX3_init_7 : decode cX3_init 7 = .ok (.newarray .int, 2) := by decide +kernel
theorem dX3_init_9 : decode cX3_init 9 = .ok (.putfield 9, 3) := by decide +kernel
theorem dX3_init_12 : decode cX3_init 12 = .ok (.aload_n 0, 1) := by decide +kernel
theorem dX3_init_13 : decode cX3_init 13 = .ok (.bipush 6, 2) := by decide +kernel
theorem dX3_init_15 : decode cX3_init 15 = .ok (.newarray .int, 2) := by decide +kernel
theorem dX3_init_17 : decode cX3_init 17 = .ok (.putfield 15, 3) := by decide +kernel
theorem dX3_init_20 : decode cX3_init 20 = .ok (.aload_n 0, 1) := by decide +kernel
theorem dX3_init_21 : decode cX3_init 21 = .ok (.bipush 6, 2) := by decide +kernel
theorem dX3_init_23 : decode cX3_init 23 = .ok (.newarray .int, 2) := by decide +kernel
theorem dX3_init_25 : decode cX3_init 25 = .ok (.putfield 18, 3) := by decide +kernel
theorem dX3_init_28 : decode cX3_init 28 = .ok (.aload_n 0, 1) := by decide +kernel
theorem dX3_init_29 : decode cX3_init 29 = .ok (.iload_n 1, 1) := by decide +kernel
theorem dX3_init_30 : decode cX3_init 30 = .ok (.putfield 21, 3) := by decide +kernel
theorem dX3_init_33 : decode cX3_init 33 = .ok (.aload_n 0, 1) := by decide +kernel
theorem dX3_init_34 : decode cX3_init 34 = .ok (.iload_n 3, 1) := by decide +kernel
theorem dX3_init_35 : decode cX3_init 35 = .ok (.putfield 25, 3) := by decide +kernel
theorem dX3_init_38 : decode cX3_init 38 = .ok (.iconst 0, 1) := by decide +kernel
theorem dX3_init_39 : decode cX3_init 39 = .ok (.istore 4, 2) := by decide +kernel
theorem dX3_init_41 : decode cX3_init 41 = .ok (.iload 4, 2) := by decide +kernel
theorem dX3_init_43 : decode cX3_init 43 = .ok (.aload_n 0, 1) := by decide +kernel
theorem dX3_init_44 : decode cX3_init 44 = .ok (.getfield 9, 3) := by decide +kernel
theorem dX3_init_47 : decode cX3_init 47 = .ok (.arraylength, 1) := by decide +kernel
theorem dX3_init_48 : decode cX3_init 48 = .ok (.if_icmp .ge 17, 3) := by decide +kernel
theorem dX3_init_51 : decode cX3_init 51 = .ok (.aload_n 0, 1) := by decide +kernel
theorem dX3_init_52 : decode cX3_init 52 = .ok (.getfield 9, 3) := by decide +kernel
theorem dX3_init_55 : decode cX3_init 55 = .ok (.iload 4, 2) := by decide +kernel
theorem dX3_init_57 : decode cX3_init 57 = .ok (.iconst (-1), 1) := by decide +kernel
theorem dX3_init_58 : decode cX3_init 58 = .ok (.iastore, 1) := by decide +kernel
theorem dX3_init_59 : decode cX3_init 59 = .ok (.iinc 4 1, 3) := by decide +kernel
theorem dX3_init_62 : decode cX3_init 62 = .ok (.goto (-21), 3) := by decide +kernel
theorem dX3_init_65 : decode cX3_init 65 = .ok (.aload_n 0, 1) := by decide +kernel
theorem dX3_init_66 : decode cX3_init 66 = .ok (.iload_n 1, 1) := by decide +kernel
theorem dX3_init_67 : decode cX3_init 67 = .ok (.iload_n 2, 1) := by decide +kernel
theorem dX3_init_68 : decode cX3_init 68 = .ok (.invokevirtual 28, 3) := by decide +kernel
theorem dX3_init_71 : decode cX3_init 71 = .ok (.return_, 1) := by decide +kernel
theorem dX3_hears_0 : decode cX3_hears 0 = .ok (.aload_n 0, 1) := by decide +kernel
theorem dX3_hears_1 : decode cX3_hears 1 = .ok (.getfield 9, 3) := by decide +kernel
theorem dX3_hears_4 : decode cX3_hears 4 = .ok (.iload_n 1, 1) := by decide +kernel
theorem dX3_hears_5 : decode cX3_hears 5 = .ok (.iaload, 1) := by decide +kernel
theorem dX3_hears_6 : decode cX3_hears 6 = .ok (.iconst (-1), 1) := by decide +kernel
theorem dX3_hears_7 : decode cX3_hears 7 = .ok (.if_icmp .eq 7, 3) := by decide +kernel
theorem dX3_hears_10 : decode cX3_hears 10 = .ok (.iconst 1, 1) := by decide +kernel
theorem dX3_hears_11 : decode cX3_hears 11 = .ok (.goto 4, 3) := by decide +kernel
theorem dX3_hears_14 : decode cX3_hears 14 = .ok (.iconst 0, 1) := by decide +kernel
theorem dX3_hears_15 : decode cX3_hears 15 = .ok (.ireturn, 1) := by decide +kernel
theorem dX3_hear_0 : decode cX3_hear 0 = .ok (.aload_n 0, 1) := by decide +kernel
theorem dX3_hear_1 : decode cX3_hear 1 = .ok (.getfield 9, 3) := by decide +kernel
theorem dX3_hear_4 : decode cX3_hear 4 = .ok (.iload_n 1, 1) := by decide +kernel
theorem dX3_hear_5 : decode cX3_hear 5 = .ok (.iload_n 2, 1) := by decide +kernel
theorem dX3_hear_6 : decode cX3_hear 6 = .ok (.iastore, 1) := by decide +kernel
theorem dX3_hear_7 : decode cX3_hear 7 = .ok (.aload_n 0, 1) := by decide +kernel
theorem dX3_hear_8 : decode cX3_hear 8 = .ok (.dup, 1) := by decide +kernel
theorem dX3_hear_9 : decode cX3_hear 9 = .ok (.getfield 32, 3) := by decide +kernel
theorem dX3_hear_12 : decode cX3_hear 12 = .ok (.iconst 1, 1) := by decide +kernel
theorem dX3_hear_13 : decode cX3_hear 13 = .ok (.iadd, 1) := by decide +kernel
theorem dX3_hear_14 : decode cX3_hear 14 = .ok (.putfield 32, 3) := by decide +kernel
theorem dX3_hear_17 : decode cX3_hear 17 = .ok (.return_, 1) := by decide +kernel
theorem dX4_init_0 : decode cX4_init 0 = .ok (.aload_n 0, 1) := by decide +kernel
theorem dX4_init_1 : decode cX4_init 1 = .ok (.invokespecial 3, 3) := by decide +kernel
theorem dX4_init_4 : decode cX4_init 4 = .ok (.aload_n 0, 1) := by decide +kernel
theorem dX4_init_5 : decode cX4_init 5 = .ok (.bipush 30, 2) := by decide +kernel
theorem dX4_init_7 : decode cX4_init 7 = .ok (.newarray .int, 2) := by decide +kernel
theorem dX4_init_9 : decode cX4_init 9 = .ok (.putfield 9, 3) := by decide +kernel
theorem dX4_init_12 : decode cX4_init 12 = .ok (.aload_n 0, 1) := by decide +kernel
theorem dX4_init_13 : decode cX4_init 13 = .ok (.iconst (-1), 1) := by decide +kernel
theorem dX4_init_14 : decode cX4_init 14 = .ok (.putfield 15, 3) := by decide +kernel
theorem dX4_init_17 : decode cX4_init 17 = .ok (.return_, 1) := by decide +kernel
theorem dX5_init_0 : decode cX5_init 0 = .ok (.aload_n 0, 1) := by decide +kernel
theorem dX5_init_1 : decode cX5_init 1 = .ok (.invokespecial 1, 3) := by decide +kernel
theorem dX5_init_4 : decode cX5_init 4 = .ok (.aload_n 0, 1) := by decide +kernel
theorem dX5_init_5 : decode cX5_init 5 = .ok (.new 7, 3) := by decide +kernel
theorem dX5_init_8 : decode cX5_init 8 = .ok (.dup, 1) := by decide +kernel
theorem dX5_init_9 : decode cX5_init 9 = .ok (.invokespecial 9, 3) := by decide +kernel
theorem dX5_init_12 : decode cX5_init 12 = .ok (.putfield 10, 3) := by decide +kernel
theorem dX5_init_15 : decode cX5_init 15 = .ok (.aload_n 0, 1) := by decide +kernel
theorem dX5_init_16 : decode cX5_init 16 = .ok (.iload_n 1, 1) := by decide +kernel
theorem dX5_init_17 : decode cX5_init 17 = .ok (.putfield 16, 3) := by decide +kernel
theorem dX5_init_20 : decode cX5_init 20 = .ok (.return_, 1) := by decide +kernel
theorem dX6_init_0 : decode cX6_init 0 = .ok (.aload_n 0, 1) := by decide +kernel
theorem dX6_init_1 : decode cX6_init 1 = .ok (.invokespecial 1, 3) := by decide +kernel
theorem dX6_init_4 : decode cX6_init 4 = .ok (.aload_n 0, 1) := by decide +kernel
theorem dX6_init_5 : decode cX6_init 5 = .ok (.iload_n 1, 1) := by decide +kernel
theorem dX6_init_6 : decode cX6_init 6 = .ok (.putfield 7, 3) := by decide +kernel
theorem dX6_init_9 : decode cX6_init 9 = .ok (.return_, 1) := by decide +kernel
theorem dX7_init_0 : decode cX7_init 0 = .ok (.aload_n 0, 1) := by decide +kernel
theorem dX7_init_1 : decode cX7_init 1 = .ok (.invokespecial 3, 3) := by decide +kernel
theorem dX7_init_4 : decode cX7_init 4 = .ok (.aload_n 0, 1) := by decide +kernel
theorem dX7_init_5 : decode cX7_init 5 = .ok (.sipush 144, 3) := by decide +kernel
theorem dX7_init_8 : decode cX7_init 8 = .ok (.newarray .int, 2) := by decide +kernel
theorem dX7_init_10 : decode cX7_init 10 = .ok (.putfield 9, 3) := by decide +kernel
theorem dX7_init_13 : decode cX7_init 13 = .ok (.aload_n 0, 1) := by decide +kernel
theorem dX7_init_14 : decode cX7_init 14 = .ok (.iload_n 1, 1) := by decide +kernel
theorem dX7_init_15 : decode cX7_init 15 = .ok (.invokevirtual 15, 3) := by decide +kernel
theorem dX7_init_18 : decode cX7_init 18 = .ok (.return_, 1) := by decide +kernel
theorem dX7_reckon_0 : decode cX7_reckon 0 = .ok (.iconst 0, 1) := by decide +kernel
theorem dX7_reckon_1 : decode cX7_reckon 1 = .ok (.istore_n 2, 1) := by decide +kernel
theorem dX7_reckon_2 : decode cX7_reckon 2 = .ok (.iload_n 2, 1) := by decide +kernel
theorem dX7_reckon_3 : decode cX7_reckon 3 = .ok (.sipush 144, 3) := by decide +kernel
theorem dX7_reckon_6 : decode cX7_reckon 6 = .ok (.if_icmp .ge 40, 3) := by decide +kernel
theorem dX7_reckon_9 : decode cX7_reckon 9 = .ok (.iload_n 2, 1) := by decide +kernel
theorem dX7_reckon_10 : decode cX7_reckon 10 = .ok (.bipush 12, 2) := by decide +kernel
theorem dX7_reckon_12 : decode cX7_reckon 12 = .ok (.idiv, 1) := by decide +kernel
theorem dX7_reckon_13 : decode cX7_reckon 13 = .ok (.istore_n 3, 1) := by decide +kernel
theorem dX7_reckon_14 : decode cX7_reckon 14 = .ok (.iload_n 2, 1) := by decide +kernel
theorem dX7_reckon_15 : decode cX7_reckon 15 = .ok (.bipush 12, 2) := by decide +kernel
theorem dX7_reckon_17 : decode cX7_reckon 17 = .ok (.irem, 1) := by decide +kernel
theorem dX7_reckon_18 : decode cX7_reckon 18 = .ok (.istore 4, 2) := by decide +kernel
theorem dX7_reckon_20 : decode cX7_reckon 20 = .ok (.aload_n 0, 1) := by decide +kernel
theorem dX7_reckon_21 : decode cX7_reckon 21 = .ok (.getfield 9, 3) := by decide +kernel
theorem dX7_reckon_24 : decode cX7_reckon 24 = .ok (.iload_n 2, 1) := by decide +kernel
theorem dX7_reckon_25 : decode cX7_reckon 25 = .ok (.iload_n 1, 1) := by decide +kernel
theorem dX7_reckon_26 : decode cX7_reckon 26 = .ok (.iload_n 3, 1) := by decide +kernel
theorem dX7_reckon_27 : decode cX7_reckon 27 = .ok (.iload_n 3, 1) := by decide +kernel
theorem dX7_reckon_28 : decode cX7_reckon 28 = .ok (.imul, 1) := by decide +kernel
theorem dX7_reckon_29 : decode cX7_reckon 29 = .ok (.iload 4, 2) := by decide +kernel
theorem dX7_reckon_31 : decode cX7_reckon 31 = .ok (.iload 4, 2) := by decide +kernel
theorem dX7_reckon_33 : decode cX7_reckon 33 = .ok (.imul, 1) := by decide +kernel
theorem dX7_reckon_34 : decode cX7_reckon 34 = .ok (.iadd, 1) := by decide +kernel
theorem dX7_reckon_35 : decode cX7_reckon 35 = .ok (.imul, 1) := by decide +kernel
theorem dX7_reckon_36 : decode cX7_reckon 36 = .ok (.invokestatic 19, 3) := by decide +kernel
theorem dX7_reckon_39 : decode cX7_reckon 39 = .ok (.iastore, 1) := by decide +kernel
theorem dX7_reckon_40 : decode cX7_reckon 40 = .ok (.iinc 2 1, 3) := by decide +kernel
theorem dX7_reckon_43 : decode cX7_reckon 43 = .ok (.goto (-41), 3) := by decide +kernel
theorem dX7_reckon_46 : decode cX7_reckon 46 = .ok (.return_, 1) := by decide +kernel
theorem dX7_between_0 : decode cX7_between 0 = .ok (.iload_n 1, 1) := by decide +kernel
theorem dX7_between_1 : decode cX7_between 1 = .ok (.bipush 12, 2) := by decide +kernel
theorem dX7_between_3 : decode cX7_between 3 = .ok (.idiv, 1) := by decide +kernel
theorem dX7_between_4 : decode cX7_between 4 = .ok (.iload_n 2, 1) := by decide +kernel
theorem dX7_between_5 : decode cX7_between 5 = .ok (.bipush 12, 2) := by decide +kernel
theorem dX7_between_7 : decode cX7_between 7 = .ok (.idiv, 1) := by decide +kernel
theorem dX7_between_8 : decode cX7_between 8 = .ok (.isub, 1) := by decide +kernel
theorem dX7_between_9 : decode cX7_between 9 = .ok (.invokestatic 23, 3) := by decide +kernel
theorem dX7_between_12 : decode cX7_between 12 = .ok (.istore_n 3, 1) := by decide +kernel
theorem dX7_between_13 : decode cX7_between 13 = .ok (.iload_n 1, 1) := by decide +kernel
theorem dX7_between_14 : decode cX7_between 14 = .ok (.bipush 12, 2) := by decide +kernel
theorem dX7_between_16 : decode cX7_between 16 = .ok (.irem, 1) := by decide +kernel
theorem dX7_between_17 : decode cX7_between 17 = .ok (.iload_n 2, 1) := by decide +kernel
theorem dX7_between_18 : decode cX7_between 18 = .ok (.bipush 12, 2) := by decide +kernel
theorem dX7_between_20 : decode cX7_between 20 = .ok (.irem, 1) := by decide +kernel
theorem dX7_between_21 : decode cX7_between 21 = .ok (.isub, 1) := by decide +kernel
theorem dX7_between_22 : decode cX7_between 22 = .ok (.invokestatic 23, 3) := by decide +kernel
theorem dX7_between_25 : decode cX7_between 25 = .ok (.istore 4, 2) := by decide +kernel
theorem dX7_between_27 : decode cX7_between 27 = .ok (.aload_n 0, 1) := by decide +kernel
theorem dX7_between_28 : decode cX7_between 28 = .ok (.getfield 9, 3) := by decide +kernel
theorem dX7_between_31 : decode cX7_between 31 = .ok (.bipush 12, 2) := by decide +kernel
theorem dX7_between_33 : decode cX7_between 33 = .ok (.iload_n 3, 1) := by decide +kernel
theorem dX7_between_34 : decode cX7_between 34 = .ok (.imul, 1) := by decide +kernel
theorem dX7_between_35 : decode cX7_between 35 = .ok (.iload 4, 2) := by decide +kernel
theorem dX7_between_37 : decode cX7_between 37 = .ok (.iadd, 1) := by decide +kernel
theorem dX7_between_38 : decode cX7_between 38 = .ok (.iaload, 1) := by decide +kernel
theorem dX7_between_39 : decode cX7_between 39 = .ok (.ireturn, 1) := by decide +kernel
theorem dX7_root_0 : decode cX7_root 0 = .ok (.iconst 0, 1) := by decide +kernel
theorem dX7_root_1 : decode cX7_root 1 = .ok (.istore_n 1, 1) := by decide +kernel
theorem dX7_root_2 : decode cX7_root 2 = .ok (.sipush 256, 3) := by decide +kernel
theorem dX7_root_5 : decode cX7_root 5 = .ok (.istore_n 2, 1) := by decide +kernel
theorem dX7_root_6 : decode cX7_root 6 = .ok (.iload_n 2, 1) := by decide +kernel
theorem dX7_root_7 : decode cX7_root 7 = .ok (.ifCond .le 25, 3) := by decide +kernel
theorem dX7_root_10 : decode cX7_root 10 = .ok (.iload_n 1, 1) := by decide +kernel
theorem dX7_root_11 : decode cX7_root 11 = .ok (.iload_n 2, 1) := by decide +kernel
theorem dX7_root_12 : decode cX7_root 12 = .ok (.iadd, 1) := by decide +kernel
theorem dX7_root_13 : decode cX7_root 13 = .ok (.iload_n 1, 1) := by decide +kernel
theorem dX7_root_14 : decode cX7_root 14 = .ok (.iload_n 2, 1) := by decide +kernel
theorem dX7_root_15 : decode cX7_root 15 = .ok (.iadd, 1) := by decide +kernel
theorem dX7_root_16 : decode cX7_root 16 = .ok (.imul, 1) := by decide +kernel
theorem dX7_root_17 : decode cX7_root 17 = .ok (.iload_n 0, 1) := by decide +kernel
theorem dX7_root_18 : decode cX7_root 18 = .ok (.if_icmp .gt 7, 3) := by decide +kernel
theorem dX7_root_21 : decode cX7_root 21 = .ok (.iload_n 1, 1) := by decide +kernel
theorem dX7_root_22 : decode cX7_root 22 = .ok (.iload_n 2, 1) := by decide +kernel
theorem dX7_root_23 : decode cX7_root 23 = .ok (.iadd, 1) := by decide +kernel
theorem dX7_root_24 : decode cX7_root 24 = .ok (.istore_n 1, 1) := by decide +kernel
theorem dX7_root_25 : decode cX7_root 25 = .ok (.iload_n 2, 1) := by decide +kernel
theorem dX7_root_26 : decode cX7_root 26 = .ok (.iconst 2, 1) := by decide +kernel
theorem dX7_root_27 : decode cX7_root 27 = .ok (.idiv, 1) := by decide +kernel
theorem dX7_root_28 : decode cX7_root 28 = .ok (.istore_n 2, 1) := by decide +kernel
theorem dX7_root_29 : decode cX7_root 29 = .ok (.goto (-23), 3) := by decide +kernel
theorem dX7_root_32 : decode cX7_root 32 = .ok (.iload_n 1, 1) := by decide +kernel
theorem dX7_root_33 : decode cX7_root 33 = .ok (.ireturn, 1) := by decide +kernel
theorem dX8_init_0 : decode cX8_init 0 = .ok (.aload_n 0, 1) := by decide +kernel
theorem dX8_init_1 : decode cX8_init 1 = .ok (.invokespecial 3, 3) := by decide +kernel
theorem dX8_init_4 : decode cX8_init 4 = .ok (.aload_n 0, 1) := by decide +kernel
theorem dX8_init_5 : decode cX8_init 5 = .ok (.new 9, 3) := by decide +kernel
theorem dX8_init_8 : decode cX8_init 8 = .ok (.dup, 1) := by decide +kernel
theorem dX8_init_9 : decode cX8_init 9 = .ok (.bipush 100, 2) := by decide +kernel
theorem dX8_init_11 : decode cX8_init 11 = .ok (.invokespecial 11, 3) := by decide +kernel
theorem dX8_init_14 : decode cX8_init 14 = .ok (.putfield 14, 3) := by decide +kernel
theorem dX8_init_17 : decode cX8_init 17 = .ok (.aload_n 0, 1) := by decide +kernel
theorem dX8_init_18 : decode cX8_init 18 = .ok (.new 18, 3) := by decide +kernel
theorem dX8_init_21 : decode cX8_init 21 = .ok (.dup, 1) := by decide +kernel
theorem dX8_init_22 : decode cX8_init 22 = .ok (.invokespecial 20, 3) := by decide +kernel
theorem dX8_init_25 : decode cX8_init 25 = .ok (.putfield 21, 3) := by decide +kernel
theorem dX8_init_28 : decode cX8_init 28 = .ok (.aload_n 0, 1) := by decide +kernel
theorem dX8_init_29 : decode cX8_init 29 = .ok (.new 18, 3) := by decide +kernel
theorem dX8_init_32 : decode cX8_init 32 = .ok (.dup, 1) := by decide +kernel
theorem dX8_init_33 : decode cX8_init 33 = .ok (.invokespecial 20, 3) := by decide +kernel
theorem dX8_init_36 : decode cX8_init 36 = .ok (.putfield 25, 3) := by decide +kernel
theorem dX8_init_39 : decode cX8_init 39 = .ok (.aload_n 0, 1) := by decide +kernel
theorem dX8_init_40 : decode cX8_init 40 = .ok (.new 18, 3) := by decide +kernel
theorem dX8_init_43 : decode cX8_init 43 = .ok (.dup, 1) := by decide +kernel
theorem dX8_init_44 : decode cX8_init 44 = .ok (.invokespecial 20, 3) := by decide +kernel
theorem dX8_init_47 : decode cX8_init 47 = .ok (.putfield 28, 3) := by decide +kernel
theorem dX8_init_50 : decode cX8_init 50 = .ok (.aload_n 0, 1) := by decide +kernel
theorem dX8_init_51 : decode cX8_init 51 = .ok (.new 18, 3) := by decide +kernel
theorem dX8_init_54 : decode cX8_init 54 = .ok (.dup, 1) := by decide +kernel
theorem dX8_init_55 : decode cX8_init 55 = .ok (.invokespecial 20, 3) := by decide +kernel
theorem dX8_init_58 : decode cX8_init 58 = .ok (.putfield 31, 3) := by decide +kernel
theorem dX8_init_61 : decode cX8_init 61 = .ok (.aload_n 0, 1) := by decide +kernel
theorem dX8_init_62 : decode cX8_init 62 = .ok (.new 18, 3) := by decide +kernel
theorem dX8_init_65 : decode cX8_init 65 = .ok (.dup, 1) := by decide +kernel
theorem dX8_init_66 : decode cX8_init 66 = .ok (.invokespecial 20, 3) := by decide +kernel
theorem dX8_init_69 : decode cX8_init 69 = .ok (.putfield 34, 3) := by decide +kernel
theorem dX8_init_72 : decode cX8_init 72 = .ok (.aload_n 0, 1) := by decide +kernel
theorem dX8_init_73 : decode cX8_init 73 = .ok (.new 37, 3) := by decide +kernel
theorem dX8_init_76 : decode cX8_init 76 = .ok (.dup, 1) := by decide +kernel
theorem dX8_init_77 : decode cX8_init 77 = .ok (.invokespecial 39, 3) := by decide +kernel
theorem dX8_init_80 : decode cX8_init 80 = .ok (.putfield 40, 3) := by decide +kernel
theorem dX8_init_83 : decode cX8_init 83 = .ok (.aload_n 0, 1) := by decide +kernel
theorem dX8_init_84 : decode cX8_init 84 = .ok (.bipush 6, 2) := by decide +kernel
theorem dX8_init_86 : decode cX8_init 86 = .ok (.newarray .int, 2) := by decide +kernel
theorem dX8_init_88 : decode cX8_init 88 = .ok (.dup, 1) := by decide +kernel
theorem dX8_init_89 : decode cX8_init 89 = .ok (.iconst 0, 1) := by decide +kernel
theorem dX8_init_90 : decode cX8_init 90 = .ok (.iconst 0, 1) := by decide +kernel
theorem dX8_init_91 : decode cX8_init 91 = .ok (.iastore, 1) := by decide +kernel
theorem dX8_init_92 : decode cX8_init 92 = .ok (.dup, 1) := by decide +kernel
theorem dX8_init_93 : decode cX8_init 93 = .ok (.iconst 1, 1) := by decide +kernel
theorem dX8_init_94 : decode cX8_init 94 = .ok (.iconst 4, 1) := by decide +kernel
theorem dX8_init_95 : decode cX8_init 95 = .ok (.iastore, 1) := by decide +kernel
theorem dX8_init_96 : decode cX8_init 96 = .ok (.dup, 1) := by decide +kernel
theorem dX8_init_97 : decode cX8_init 97 = .ok (.iconst 2, 1) := by decide +kernel
theorem dX8_init_98 : decode cX8_init 98 = .ok (.bipush 8, 2) := by decide +kernel
theorem dX8_init_100 : decode cX8_init 100 = .ok (.iastore, 1) := by decide +kernel
theorem dX8_init_101 : decode cX8_init 101 = .ok (.dup, 1) := by decide +kernel
theorem dX8_init_102 : decode cX8_init 102 = .ok (.iconst 3, 1) := by decide +kernel
theorem dX8_init_103 : decode cX8_init 103 = .ok (.bipush 12, 2) := by decide +kernel
theorem dX8_init_105 : decode cX8_init 105 = .ok (.iastore, 1) := by decide +kernel
theorem dX8_init_106 : decode cX8_init 106 = .ok (.dup, 1) := by decide +kernel
theorem dX8_init_107 : decode cX8_init 107 = .ok (.iconst 4, 1) := by decide +kernel
theorem dX8_init_108 : decode cX8_init 108 = .ok (.bipush 16, 2) := by decide +kernel
theorem dX8_init_110 : decode cX8_init 110 = .ok (.iastore, 1) := by decide +kernel
theorem dX8_init_111 : decode cX8_init 111 = .ok (.dup, 1) := by decide +kernel
theorem dX8_init_112 : decode cX8_init 112 = .ok (.iconst 5, 1) := by decide +kernel
theorem dX8_init_113 : decode cX8_init 113 = .ok (.bipush 61, 2) := by decide +kernel
theorem dX8_init_115 : decode cX8_init 115 = .ok (.iastore, 1) := by decide +kernel
theorem dX8_init_116 : decode cX8_init 116 = .ok (.putfield 44, 3) := by decide +kernel
theorem dX8_init_119 : decode cX8_init 119 = .ok (.aload_n 0, 1) := by decide +kernel
theorem dX8_init_120 : decode cX8_init 120 = .ok (.bipush 6, 2) := by decide +kernel
theorem dX8_init_122 : decode cX8_init 122 = .ok (.newarray .int, 2) := by decide +kernel
theorem dX8_init_124 : decode cX8_init 124 = .ok (.putfield 48, 3) := by decide +kernel
theorem dX8_init_127 : decode cX8_init 127 = .ok (.aload_n 0, 1) := by decide +kernel
theorem dX8_init_128 : decode cX8_init 128 = .ok (.iconst 2, 1) := by decide +kernel
theorem dX8_init_129 : decode cX8_init 129 = .ok (.putfield 51, 3) := by decide +kernel
theorem dX8_init_132 : decode cX8_init 132 = .ok (.return_, 1) := by decide +kernel
theorem dX8_rule_0 : decode cX8_rule 0 = .ok (.iload_n 1, 1) := by decide +kernel
theorem dX8_rule_1 : decode cX8_rule 1 = .ok (.iconst 1, 1) := by decide +kernel
theorem dX8_rule_2 : decode cX8_rule 2 = .ok (.sipush 400, 3) := by decide +kernel
theorem dX8_rule_5 : decode cX8_rule 5 = .ok (.invokestatic 55, 3) := by decide +kernel
theorem dX8_rule_8 : decode cX8_rule 8 = .ok (.ifCond .eq 13, 3) := by decide +kernel
theorem dX8_rule_11 : decode cX8_rule 11 = .ok (.iload_n 2, 1) := by decide +kernel
theorem dX8_rule_12 : decode cX8_rule 12 = .ok (.iconst 0, 1) := by decide +kernel
theorem dX8_rule_13 : decode cX8_rule 13 = .ok (.bipush 50, 2) := by decide +kernel
theorem dX8_rule_15 : decode cX8_rule 15 = .ok (.invokestatic 55, 3) := by decide +kernel
theorem dX8_rule_18 : decode cX8_rule 18 = .ok (.ifCond .ne 5, 3) := by decide +kernel
theorem dX8_rule_21 : decode cX8_rule 21 = .ok (.iconst (-1), 1) := by decide +kernel
theorem dX8_rule_22 : decode cX8_rule 22 = .ok (.ireturn, 1) := by decide +kernel
theorem dX8_rule_23 : decode cX8_rule 23 = .ok (.aload_n 0, 1) := by decide +kernel
theorem dX8_rule_24 : decode cX8_rule 24 = .ok (.getfield 28, 3) := by decide +kernel
theorem dX8_rule_27 : decode cX8_rule 27 = .ok (.invokevirtual 59, 3) := by decide +kernel
theorem dX8_rule_30 : decode cX8_rule 30 = .ok (.ifCond .ne 6, 3) := by decide +kernel
theorem dX8_rule_33 : decode cX8_rule 33 = .ok (.bipush (-4), 2) := by decide +kernel
theorem dX8_rule_35 : decode cX8_rule 35 = .ok (.ireturn, 1) := by decide +kernel
theorem dX8_rule_36 : decode cX8_rule 36 = .ok (.aload_n 0, 1) := by decide +kernel
theorem dX8_rule_37 : decode cX8_rule 37 = .ok (.getfield 14, 3) := by decide +kernel
theorem dX8_rule_40 : decode cX8_rule 40 = .ok (.iload_n 1, 1) := by decide +kernel
theorem dX8_rule_41 : decode cX8_rule 41 = .ok (.invokevirtual 63, 3) := by decide +kernel
theorem dX8_rule_44 : decode cX8_rule 44 = .ok (.aload_n 0, 1) := by decide +kernel
theorem dX8_rule_45 : decode cX8_rule 45 = .ok (.iload_n 2, 1) := by decide +kernel
theorem dX8_rule_46 : decode cX8_rule 46 = .ok (.putfield 51, 3) := by decide +kernel
theorem dX8_rule_49 : decode cX8_rule 49 = .ok (.iconst 1, 1) := by decide +kernel
theorem dX8_rule_50 : decode cX8_rule 50 = .ok (.ireturn, 1) := by decide +kernel
theorem dX8_station_0 : decode cX8_station 0 = .ok (.iload_n 1, 1) := by decide +kernel
theorem dX8_station_1 : decode cX8_station 1 = .ok (.invokestatic 66, 3) := by decide +kernel
theorem dX8_station_4 : decode cX8_station 4 = .ok (.ifCond .ne 5, 3) := by decide +kernel
theorem dX8_station_7 : decode cX8_station 7 = .ok (.iconst (-1), 1) := by decide +kernel
theorem dX8_station_8 : decode cX8_station 8 = .ok (.ireturn, 1) := by decide +kernel
theorem dX8_station_9 : decode cX8_station 9 = .ok (.aload_n 0, 1) := by decide +kernel
theorem dX8_station_10 : decode cX8_station 10 = .ok (.getfield 21, 3) := by decide +kernel
theorem dX8_station_13 : decode cX8_station 13 = .ok (.invokevirtual 70, 3) := by decide +kernel
theorem dX8_station_16 : decode cX8_station 16 = .ok (.bipush 10, 2) := by decide +kernel
theorem dX8_station_18 : decode cX8_station 18 = .ok (.if_icmp .lt 6, 3) := by decide +kernel
theorem dX8_station_21 : decode cX8_station 21 = .ok (.bipush (-2), 2) := by decide +kernel
theorem dX8_station_23 : decode cX8_station 23 = .ok (.ireturn, 1) := by decide +kernel
theorem dX8_station_24 : decode cX8_station 24 = .ok (.aload_n 0, 1) := by decide +kernel
theorem dX8_station_25 : decode cX8_station 25 = .ok (.getfield 28, 3) := by decide +kernel
theorem dX8_station_28 : decode cX8_station 28 = .ok (.invokevirtual 59, 3) := by decide +kernel
theorem dX8_station_31 : decode cX8_station 31 = .ok (.ifCond .ne 6, 3) := by decide +kernel
theorem dX8_station_34 : decode cX8_station 34 = .ok (.bipush (-4), 2) := by decide +kernel
theorem dX8_station_36 : decode cX8_station 36 = .ok (.ireturn, 1) := by decide +kernel
theorem dX8_station_37 : decode cX8_station 37 = .ok (.aload_n 0, 1) := by decide +kernel
theorem dX8_station_38 : decode cX8_station 38 = .ok (.getfield 21, 3) := by decide +kernel
theorem dX8_station_41 : decode cX8_station 41 = .ok (.new 74, 3) := by decide +kernel
theorem dX8_station_44 : decode cX8_station 44 = .ok (.dup, 1) := by decide +kernel
theorem dX8_station_45 : decode cX8_station 45 = .ok (.iload_n 1, 1) := by decide +kernel
theorem dX8_station_46 : decode cX8_station 46 = .ok (.invokespecial 76, 3) := by decide +kernel
theorem dX8_station_49 : decode cX8_station 49 = .ok (.invokevirtual 77, 3) := by decide +kernel
theorem dX8_station_52 : decode cX8_station 52 = .ok (.pop, 1) := by decide +kernel
theorem dX8_station_53 : decode cX8_station 53 = .ok (.aload_n 0, 1) := by decide +kernel
theorem dX8_station_54 : decode cX8_station 54 = .ok (.getfield 21, 3) := by decide +kernel
theorem dX8_station_57 : decode cX8_station 57 = .ok (.invokevirtual 70, 3) := by decide +kernel
theorem dX8_station_60 : decode cX8_station 60 = .ok (.iconst 1, 1) := by decide +kernel
theorem dX8_station_61 : decode cX8_station 61 = .ok (.isub, 1) := by decide +kernel
theorem dX8_station_62 : decode cX8_station 62 = .ok (.ireturn, 1) := by decide +kernel
theorem dX8_town_0 : decode cX8_town 0 = .ok (.iload_n 1, 1) := by decide +kernel
theorem dX8_town_1 : decode cX8_town 1 = .ok (.invokestatic 66, 3) := by decide +kernel
theorem dX8_town_4 : decode cX8_town 4 = .ok (.ifCond .ne 5, 3) := by decide +kernel
theorem dX8_town_7 : decode cX8_town 7 = .ok (.iconst (-1), 1) := by decide +kernel
theorem dX8_town_8 : decode cX8_town 8 = .ok (.ireturn, 1) := by decide +kernel
theorem dX8_town_9 : decode cX8_town 9 = .ok (.aload_n 0, 1) := by decide +kernel
theorem dX8_town_10 : decode cX8_town 10 = .ok (.getfield 25, 3) := by decide +kernel
theorem dX8_town_13 : decode cX8_town 13 = .ok (.invokevirtual 70, 3) := by decide +kernel
theorem dX8_town_16 : decode cX8_town 16 = .ok (.bipush 6, 2) := by decide +kernel
theorem dX8_town_18 : decode cX8_town 18 = .ok (.if_icmp .lt 6, 3) := by decide +kernel
theorem dX8_town_21 : decode cX8_town 21 = .ok (.bipush (-2), 2) := by decide +kernel
theorem dX8_town_23 : decode cX8_town 23 = .ok (.ireturn, 1) := by decide +kernel
theorem dX8_town_24 : decode cX8_town 24 = .ok (.aload_n 0, 1) := by decide +kernel
theorem dX8_town_25 : decode cX8_town 25 = .ok (.getfield 25, 3) := by decide +kernel
theorem dX8_town_28 : decode cX8_town 28 = .ok (.new 81, 3) := by decide +kernel
theorem dX8_town_31 : decode cX8_town 31 = .ok (.dup, 1) := by decide +kernel
theorem dX8_town_32 : decode cX8_town 32 = .ok (.iload_n 1, 1) := by decide +kernel
theorem dX8_town_33 : decode cX8_town 33 = .ok (.invokespecial 83, 3) := by decide +kernel
theorem dX8_town_36 : decode cX8_town 36 = .ok (.invokevirtual 77, 3) := by decide +kernel
theorem dX8_town_39 : decode cX8_town 39 = .ok (.pop, 1) := by decide +kernel
theorem dX8_town_40 : decode cX8_town 40 = .ok (.aload_n 0, 1) := by decide +kernel
theorem dX8_town_41 : decode cX8_town 41 = .ok (.getfield 25, 3) := by decide +kernel
theorem dX8_town_44 : decode cX8_town 44 = .ok (.invokevirtual 70, 3) := by decide +kernel
theorem dX8_town_47 : decode cX8_town 47 = .ok (.iconst 1, 1) := by decide +kernel
theorem dX8_town_48 : decode cX8_town 48 = .ok (.isub, 1) := by decide +kernel
theorem dX8_town_49 : decode cX8_town 49 = .ok (.ireturn, 1) := by decide +kernel
theorem dX8_travel_0 : decode cX8_travel 0 = .ok (.iload_n 1, 1) := by decide +kernel
theorem dX8_travel_1 : decode cX8_travel 1 = .ok (.invokestatic 66, 3) := by decide +kernel
theorem dX8_travel_4 : decode cX8_travel 4 = .ok (.ifCond .eq 10, 3) := by decide +kernel
theorem dX8_travel_7 : decode cX8_travel 7 = .ok (.iload_n 2, 1) := by decide +kernel
theorem dX8_travel_8 : decode cX8_travel 8 = .ok (.invokestatic 66, 3) := by decide +kernel
theorem dX8_travel_11 : decode cX8_travel 11 = .ok (.ifCond .ne 5, 3) := by decide +kernel
theorem dX8_travel_14 : decode cX8_travel 14 = .ok (.iconst (-1), 1) := by decide +kernel
theorem dX8_travel_15 : decode cX8_travel 15 = .ok (.ireturn, 1) := by decide +kernel
theorem dX8_travel_16 : decode cX8_travel 16 = .ok (.aload_n 0, 1) := by decide +kernel
theorem dX8_travel_17 : decode cX8_travel 17 = .ok (.getfield 14, 3) := by decide +kernel
theorem dX8_travel_20 : decode cX8_travel 20 = .ok (.iload_n 1, 1) := by decide +kernel
theorem dX8_travel_21 : decode cX8_travel 21 = .ok (.iload_n 2, 1) := by decide +kernel
theorem dX8_travel_22 : decode cX8_travel 22 = .ok (.invokevirtual 98, 3) := by decide +kernel
theorem dX8_travel_25 : decode cX8_travel 25 = .ok (.ireturn, 1) := by decide +kernel
theorem dX8_later_0 : decode cX8_later 0 = .ok (.iload_n 1, 1) := by decide +kernel
theorem dX8_later_1 : decode cX8_later 1 = .ok (.iconst 0, 1) := by decide +kernel
theorem dX8_later_2 : decode cX8_later 2 = .ok (.ldc 102, 2) := by decide +kernel
theorem dX8_later_4 : decode cX8_later 4 = .ok (.aload_n 0, 1) := by decide +kernel
theorem dX8_later_5 : decode cX8_later 5 = .ok (.getfield 103, 3) := by decide +kernel
theorem dX8_later_8 : decode cX8_later 8 = .ok (.isub, 1) := by decide +kernel
theorem dX8_later_9 : decode cX8_later 9 = .ok (.invokestatic 55, 3) := by decide +kernel
theorem dX8_later_12 : decode cX8_later 12 = .ok (.ifCond .ne 5, 3) := by decide +kernel
theorem dX8_later_15 : decode cX8_later 15 = .ok (.iconst (-1), 1) := by decide +kernel
theorem dX8_later_16 : decode cX8_later 16 = .ok (.ireturn, 1) := by decide +kernel
theorem dX8_later_17 : decode cX8_later 17 = .ok (.aload_n 0, 1) := by decide +kernel
theorem dX8_later_18 : decode cX8_later 18 = .ok (.dup, 1) := by decide +kernel
theorem dX8_later_19 : decode cX8_later 19 = .ok (.getfield 103, 3) := by decide +kernel
theorem dX8_later_22 : decode cX8_later 22 = .ok (.iload_n 1, 1) := by decide +kernel
theorem dX8_later_23 : decode cX8_later 23 = .ok (.iadd, 1) := by decide +kernel
theorem dX8_later_24 : decode cX8_later 24 = .ok (.putfield 103, 3) := by decide +kernel
theorem dX8_later_27 : decode cX8_later 27 = .ok (.aload_n 0, 1) := by decide +kernel
theorem dX8_later_28 : decode cX8_later 28 = .ok (.getfield 40, 3) := by decide +kernel
theorem dX8_later_31 : decode cX8_later 31 = .ok (.invokevirtual 95, 3) := by decide +kernel
theorem dX8_later_34 : decode cX8_later 34 = .ok (.aload_n 0, 1) := by decide +kernel
theorem dX8_later_35 : decode cX8_later 35 = .ok (.getfield 103, 3) := by decide +kernel
theorem dX8_later_38 : decode cX8_later 38 = .ok (.ireturn, 1) := by decide +kernel
theorem dX8_pick_0 : decode cX8_pick 0 = .ok (.aload_n 0, 1) := by decide +kernel
theorem dX8_pick_1 : decode cX8_pick 1 = .ok (.iload_n 1, 1) := by decide +kernel
theorem dX8_pick_2 : decode cX8_pick 2 = .ok (.invokevirtual 84, 3) := by decide +kernel
theorem dX8_pick_5 : decode cX8_pick 5 = .ok (.ifCond .ne 5, 3) := by decide +kernel
theorem dX8_pick_8 : decode cX8_pick 8 = .ok (.iconst (-1), 1) := by decide +kernel
theorem dX8_pick_9 : decode cX8_pick 9 = .ok (.ireturn, 1) := by decide +kernel
theorem dX8_pick_10 : decode cX8_pick 10 = .ok (.iload_n 2, 1) := by decide +kernel
theorem dX8_pick_11 : decode cX8_pick 11 = .ok (.iconst 0, 1) := by decide +kernel
theorem dX8_pick_12 : decode cX8_pick 12 = .ok (.aload_n 0, 1) := by decide +kernel
theorem dX8_pick_13 : decode cX8_pick 13 = .ok (.getfield 103, 3) := by decide +kernel
theorem dX8_pick_16 : decode cX8_pick 16 = .ok (.invokestatic 55, 3) := by decide +kernel
theorem dX8_pick_19 : decode cX8_pick 19 = .ok (.ifCond .eq 13, 3) := by decide +kernel
theorem dX8_pick_22 : decode cX8_pick 22 = .ok (.iload_n 3, 1) := by decide +kernel
theorem dX8_pick_23 : decode cX8_pick 23 = .ok (.iconst 1, 1) := by decide +kernel
theorem dX8_pick_24 : decode cX8_pick 24 = .ok (.ldc 149, 2) := by decide +kernel
theorem dX8_pick_26 : decode cX8_pick 26 = .ok (.invokestatic 55, 3) := by decide +kernel
theorem dX8_pick_29 : decode cX8_pick 29 = .ok (.ifCond .ne 5, 3) := by decide +kernel
theorem dX8_pick_32 : decode cX8_pick 32 = .ok (.iconst (-1), 1) := by decide +kernel
theorem dX8_pick_33 : decode cX8_pick 33 = .ok (.ireturn, 1) := by decide +kernel
theorem dX8_pick_34 : decode cX8_pick 34 = .ok (.aload_n 0, 1) := by decide +kernel
theorem dX8_pick_35 : decode cX8_pick 35 = .ok (.getfield 28, 3) := by decide +kernel
theorem dX8_pick_38 : decode cX8_pick 38 = .ok (.invokevirtual 70, 3) := by decide +kernel
theorem dX8_pick_41 : decode cX8_pick 41 = .ok (.bipush 60, 2) := by decide +kernel
theorem dX8_pick_43 : decode cX8_pick 43 = .ok (.if_icmp .lt 6, 3) := by decide +kernel
theorem dX8_pick_46 : decode cX8_pick 46 = .ok (.bipush (-2), 2) := by decide +kernel
theorem dX8_pick_48 : decode cX8_pick 48 = .ok (.ireturn, 1) := by decide +kernel
theorem dX8_pick_49 : decode cX8_pick 49 = .ok (.aload_n 0, 1) := by decide +kernel
theorem dX8_pick_50 : decode cX8_pick 50 = .ok (.iload_n 1, 1) := by decide +kernel
theorem dX8_pick_51 : decode cX8_pick 51 = .ok (.iload_n 2, 1) := by decide +kernel
theorem dX8_pick_52 : decode cX8_pick 52 = .ok (.invokevirtual 150, 3) := by decide +kernel
theorem dX8_pick_55 : decode cX8_pick 55 = .ok (.istore 4, 2) := by decide +kernel
theorem dX8_pick_57 : decode cX8_pick 57 = .ok (.iload 4, 2) := by decide +kernel
theorem dX8_pick_59 : decode cX8_pick 59 = .ok (.bipush (-9), 2) := by decide +kernel
theorem dX8_pick_61 : decode cX8_pick 61 = .ok (.if_icmp .eq 51, 3) := by decide +kernel
theorem dX8_pick_64 : decode cX8_pick 64 = .ok (.aload_n 0, 1) := by decide +kernel
theorem dX8_pick_65 : decode cX8_pick 65 = .ok (.getfield 31, 3) := by decide +kernel
theorem dX8_pick_68 : decode cX8_pick 68 = .ok (.iload 4, 2) := by decide +kernel
theorem dX8_pick_70 : decode cX8_pick 70 = .ok (.invokevirtual 87, 3) := by decide +kernel
theorem dX8_pick_73 : decode cX8_pick 73 = .ok (.checkcast 153, 3) := by decide +kernel
theorem dX8_pick_76 : decode cX8_pick 76 = .ok (.iload_n 1, 1) := by decide +kernel
theorem dX8_pick_77 : decode cX8_pick 77 = .ok (.iload_n 2, 1) := by decide +kernel
theorem dX8_pick_78 : decode cX8_pick 78 = .ok (.invokevirtual 155, 3) := by decide +kernel
theorem dX8_pick_81 : decode cX8_pick 81 = .ok (.aload_n 0, 1) := by decide +kernel
theorem dX8_pick_82 : decode cX8_pick 82 = .ok (.getfield 40, 3) := by decide +kernel
theorem dX8_pick_85 : decode cX8_pick 85 = .ok (.invokevirtual 95, 3) := by decide +kernel
theorem dX8_pick_88 : decode cX8_pick 88 = .ok (.aload_n 0, 1) := by decide +kernel
theorem dX8_pick_89 : decode cX8_pick 89 = .ok (.getfield 28, 3) := by decide +kernel
theorem dX8_pick_92 : decode cX8_pick 92 = .ok (.new 159, 3) := by decide +kernel
theorem dX8_pick_95 : decode cX8_pick 95 = .ok (.dup, 1) := by decide +kernel
theorem dX8_pick_96 : decode cX8_pick 96 = .ok (.iload_n 1, 1) := by decide +kernel
theorem dX8_pick_97 : decode cX8_pick 97 = .ok (.iload_n 2, 1) := by decide +kernel
theorem dX8_pick_98 : decode cX8_pick 98 = .ok (.iload_n 3, 1) := by decide +kernel
theorem dX8_pick_99 : decode cX8_pick 99 = .ok (.iconst 1, 1) := by decide +kernel
theorem dX8_pick_100 : decode cX8_pick 100 = .ok (.iload 4, 2) := by decide +kernel
theorem dX8_pick_102 : decode cX8_pick 102 = .ok (.invokespecial 161, 3) := by decide +kernel
theorem dX8_pick_105 : decode cX8_pick 105 = .ok (.invokevirtual 77, 3) := by decide +kernel
theorem dX8_pick_108 : decode cX8_pick 108 = .ok (.pop, 1) := by decide +kernel
theorem dX8_pick_109 : decode cX8_pick 109 = .ok (.iload 4, 2) := by decide +kernel
theorem dX8_pick_111 : decode cX8_pick 111 = .ok (.ireturn, 1) := by decide +kernel
theorem dX8_pick_112 : decode cX8_pick 112 = .ok (.aload_n 0, 1) := by decide +kernel
theorem dX8_pick_113 : decode cX8_pick 113 = .ok (.getfield 31, 3) := by decide +kernel
theorem dX8_pick_116 : decode cX8_pick 116 = .ok (.invokevirtual 70, 3) := by decide +kernel
theorem dX8_pick_119 : decode cX8_pick 119 = .ok (.iconst 5, 1) := by decide +kernel
theorem dX8_pick_120 : decode cX8_pick 120 = .ok (.if_icmp .ge 57, 3) := by decide +kernel
theorem dX8_pick_123 : decode cX8_pick 123 = .ok (.aload_n 0, 1) := by decide +kernel
theorem dX8_pick_124 : decode cX8_pick 124 = .ok (.getfield 31, 3) := by decide +kernel
theorem dX8_pick_127 : decode cX8_pick 127 = .ok (.invokevirtual 70, 3) := by decide +kernel
theorem dX8_pick_130 : decode cX8_pick 130 = .ok (.istore 5, 2) := by decide +kernel
theorem dX8_pick_132 : decode cX8_pick 132 = .ok (.aload_n 0, 1) := by decide +kernel
theorem dX8_pick_133 : decode cX8_pick 133 = .ok (.getfield 31, 3) := by decide +kernel
theorem dX8_pick_136 : decode cX8_pick 136 = .ok (.new 153, 3) := by decide +kernel
theorem dX8_pick_139 : decode cX8_pick 139 = .ok (.dup, 1) := by decide +kernel
theorem dX8_pick_140 : decode cX8_pick 140 = .ok (.iload_n 1, 1) := by decide +kernel
theorem dX8_pick_141 : decode cX8_pick 141 = .ok (.iload_n 2, 1) := by decide +kernel
theorem dX8_pick_142 : decode cX8_pick 142 = .ok (.iload_n 3, 1) := by decide +kernel
theorem dX8_pick_143 : decode cX8_pick 143 = .ok (.invokespecial 164, 3) := by decide +kernel
theorem dX8_pick_146 : decode cX8_pick 146 = .ok (.invokevirtual 77, 3) := by decide +kernel
theorem dX8_pick_149 : decode cX8_pick 149 = .ok (.pop, 1) := by decide +kernel
theorem dX8_pick_150 : decode cX8_pick 150 = .ok (.aload_n 0, 1) := by decide +kernel
theorem dX8_pick_151 : decode cX8_pick 151 = .ok (.getfield 28, 3) := by decide +kernel
theorem dX8_pick_154 : decode cX8_pick 154 = .ok (.new 159, 3) := by decide +kernel
theorem dX8_pick_157 : decode cX8_pick 157 = .ok (.dup, 1) := by decide +kernel
theorem dX8_pick_158 : decode cX8_pick 158 = .ok (.iload_n 1, 1) := by decide +kernel
theorem dX8_pick_159 : decode cX8_pick 159 = .ok (.iload_n 2, 1) := by decide +kernel
theorem dX8_pick_160 : decode cX8_pick 160 = .ok (.iload_n 3, 1) := by decide +kernel
theorem dX8_pick_161 : decode cX8_pick 161 = .ok (.iconst 2, 1) := by decide +kernel
theorem dX8_pick_162 : decode cX8_pick 162 = .ok (.iload 5, 2) := by decide +kernel
theorem dX8_pick_164 : decode cX8_pick 164 = .ok (.invokespecial 161, 3) := by decide +kernel
theorem dX8_pick_167 : decode cX8_pick 167 = .ok (.invokevirtual 77, 3) := by decide +kernel
theorem dX8_pick_170 : decode cX8_pick 170 = .ok (.pop, 1) := by decide +kernel
theorem dX8_pick_171 : decode cX8_pick 171 = .ok (.bipush 10, 2) := by decide +kernel
theorem dX8_pick_173 : decode cX8_pick 173 = .ok (.iload 5, 2) := by decide +kernel
theorem dX8_pick_175 : decode cX8_pick 175 = .ok (.iadd, 1) := by decide +kernel
theorem dX8_pick_176 : decode cX8_pick 176 = .ok (.ireturn, 1) := by decide +kernel
theorem dX8_pick_177 : decode cX8_pick 177 = .ok (.aload_n 0, 1) := by decide +kernel
theorem dX8_pick_178 : decode cX8_pick 178 = .ok (.getfield 28, 3) := by decide +kernel
theorem dX8_pick_181 : decode cX8_pick 181 = .ok (.new 159, 3) := by decide +kernel
theorem dX8_pick_184 : decode cX8_pick 184 = .ok (.dup, 1) := by decide +kernel
theorem dX8_pick_185 : decode cX8_pick 185 = .ok (.iload_n 1, 1) := by decide +kernel
theorem dX8_pick_186 : decode cX8_pick 186 = .ok (.iload_n 2, 1) := by decide +kernel
theorem dX8_pick_187 : decode cX8_pick 187 = .ok (.iload_n 3, 1) := by decide +kernel
theorem dX8_pick_188 : decode cX8_pick 188 = .ok (.iconst 3, 1) := by decide +kernel
theorem dX8_pick_189 : decode cX8_pick 189 = .ok (.bipush (-9), 2) := by decide +kernel
theorem dX8_pick_191 : decode cX8_pick 191 = .ok (.invokespecial 161, 3) := by decide +kernel
theorem dX8_pick_194 : decode cX8_pick 194 = .ok (.invokevirtual 77, 3) := by decide +kernel
theorem dX8_pick_197 : decode cX8_pick 197 = .ok (.pop, 1) := by decide +kernel
theorem dX8_pick_198 : decode cX8_pick 198 = .ok (.bipush (-9), 2) := by decide +kernel
theorem dX8_pick_200 : decode cX8_pick 200 = .ok (.ireturn, 1) := by decide +kernel
theorem dX8_quake_0 : decode cX8_quake 0 = .ok (.aload_n 0, 1) := by decide +kernel
theorem dX8_quake_1 : decode cX8_quake 1 = .ok (.iload_n 1, 1) := by decide +kernel
theorem dX8_quake_2 : decode cX8_quake 2 = .ok (.invokevirtual 188, 3) := by decide +kernel
theorem dX8_quake_5 : decode cX8_quake 5 = .ok (.ifCond .ne 5, 3) := by decide +kernel
theorem dX8_quake_8 : decode cX8_quake 8 = .ok (.iconst (-1), 1) := by decide +kernel
theorem dX8_quake_9 : decode cX8_quake 9 = .ok (.ireturn, 1) := by decide +kernel
theorem dX8_quake_10 : decode cX8_quake 10 = .ok (.iload_n 2, 1) := by decide +kernel
theorem dX8_quake_11 : decode cX8_quake 11 = .ok (.tableswitch 89 0 4 #[33, 48, 57, 66, 75], 33) := by decide +kernel
theorem dX8_quake_44 : decode cX8_quake 44 = .ok (.aload_n 0, 1) := by decide +kernel
theorem dX8_quake_45 : decode cX8_quake 45 = .ok (.getfield 31, 3) := by decide +kernel
theorem dX8_quake_48 : decode cX8_quake 48 = .ok (.iload_n 1, 1) := by decide +kernel
theorem dX8_quake_49 : decode cX8_quake 49 = .ok (.invokevirtual 87, 3) := by decide +kernel
theorem dX8_quake_52 : decode cX8_quake 52 = .ok (.checkcast 153, 3) := by decide +kernel
theorem dX8_quake_55 : decode cX8_quake 55 = .ok (.getfield 191, 3) := by decide +kernel
theorem dX8_quake_58 : decode cX8_quake 58 = .ok (.ireturn, 1) := by decide +kernel
theorem dX8_quake_59 : decode cX8_quake 59 = .ok (.aload_n 0, 1) := by decide +kernel
theorem dX8_quake_60 : decode cX8_quake 60 = .ok (.iload_n 1, 1) := by decide +kernel
theorem dX8_quake_61 : decode cX8_quake 61 = .ok (.invokevirtual 194, 3) := by decide +kernel
theorem dX8_quake_64 : decode cX8_quake 64 = .ok (.getfield 198, 3) := by decide +kernel
theorem dX8_quake_67 : decode cX8_quake 67 = .ok (.ireturn, 1) := by decide +kernel
theorem dX8_quake_68 : decode cX8_quake 68 = .ok (.aload_n 0, 1) := by decide +kernel
theorem dX8_quake_69 : decode cX8_quake 69 = .ok (.iload_n 1, 1) := by decide +kernel
theorem dX8_quake_70 : decode cX8_quake 70 = .ok (.invokevirtual 194, 3) := by decide +kernel
theorem dX8_quake_73 : decode cX8_quake 73 = .ok (.getfield 201, 3) := by decide +kernel
theorem dX8_quake_76 : decode cX8_quake 76 = .ok (.ireturn, 1) := by decide +kernel
theorem dX8_quake_77 : decode cX8_quake 77 = .ok (.aload_n 0, 1) := by decide +kernel
theorem dX8_quake_78 : decode cX8_quake 78 = .ok (.iload_n 1, 1) := by decide +kernel
theorem dX8_quake_79 : decode cX8_quake 79 = .ok (.invokevirtual 194, 3) := by decide +kernel
theorem dX8_quake_82 : decode cX8_quake 82 = .ok (.getfield 204, 3) := by decide +kernel
theorem dX8_quake_85 : decode cX8_quake 85 = .ok (.ireturn, 1) := by decide +kernel
theorem dX8_quake_86 : decode cX8_quake 86 = .ok (.aload_n 0, 1) := by decide +kernel
theorem dX8_quake_87 : decode cX8_quake 87 = .ok (.iload_n 1, 1) := by decide +kernel
theorem dX8_quake_88 : decode cX8_quake 88 = .ok (.invokevirtual 207, 3) := by decide +kernel
theorem dX8_quake_91 : decode cX8_quake 91 = .ok (.ifCond .eq 7, 3) := by decide +kernel
theorem dX8_quake_94 : decode cX8_quake 94 = .ok (.iconst 1, 1) := by decide +kernel
theorem dX8_quake_95 : decode cX8_quake 95 = .ok (.goto 4, 3) := by decide +kernel
theorem dX8_quake_98 : decode cX8_quake 98 = .ok (.iconst 0, 1) := by decide +kernel
theorem dX8_quake_99 : decode cX8_quake 99 = .ok (.ireturn, 1) := by decide +kernel
theorem dX8_quake_100 : decode cX8_quake 100 = .ok (.iconst (-1), 1) := by decide +kernel
theorem dX8_quake_101 : decode cX8_quake 101 = .ok (.ireturn, 1) := by decide +kernel
theorem dX8_holds_0 : decode cX8_holds 0 = .ok (.aload_n 0, 1) := by decide +kernel
theorem dX8_holds_1 : decode cX8_holds 1 = .ok (.iload_n 1, 1) := by decide +kernel
theorem dX8_holds_2 : decode cX8_holds 2 = .ok (.invokevirtual 188, 3) := by decide +kernel
theorem dX8_holds_5 : decode cX8_holds 5 = .ok (.ifCond .eq 10, 3) := by decide +kernel
theorem dX8_holds_8 : decode cX8_holds 8 = .ok (.iload_n 2, 1) := by decide +kernel
theorem dX8_holds_9 : decode cX8_holds 9 = .ok (.invokestatic 66, 3) := by decide +kernel
theorem dX8_holds_12 : decode cX8_holds 12 = .ok (.ifCond .ne 5, 3) := by decide +kernel
theorem dX8_holds_15 : decode cX8_holds 15 = .ok (.iconst (-1), 1) := by decide +kernel
theorem dX8_holds_16 : decode cX8_holds 16 = .ok (.ireturn, 1) := by decide +kernel
theorem dX8_holds_17 : decode cX8_holds 17 = .ok (.aload_n 0, 1) := by decide +kernel
theorem dX8_holds_18 : decode cX8_holds 18 = .ok (.iload_n 1, 1) := by decide +kernel
theorem dX8_holds_19 : decode cX8_holds 19 = .ok (.invokevirtual 194, 3) := by decide +kernel
theorem dX8_holds_22 : decode cX8_holds 22 = .ok (.astore 4, 2) := by decide +kernel
theorem dX8_holds_24 : decode cX8_holds 24 = .ok (.iload_n 3, 1) := by decide +kernel
theorem dX8_holds_25 : decode cX8_holds 25 = .ok (.aload 4, 2) := by decide +kernel
theorem dX8_holds_27 : decode cX8_holds 27 = .ok (.getfield 218, 3) := by decide +kernel
theorem dX8_holds_30 : decode cX8_holds 30 = .ok (.iload_n 2, 1) := by decide +kernel
theorem dX8_holds_31 : decode cX8_holds 31 = .ok (.iaload, 1) := by decide +kernel
theorem dX8_holds_32 : decode cX8_holds 32 = .ok (.aload 4, 2) := by decide +kernel
theorem dX8_holds_34 : decode cX8_holds 34 = .ok (.getfield 215, 3) := by decide +kernel
theorem dX8_holds_37 : decode cX8_holds 37 = .ok (.iload_n 2, 1) := by decide +kernel
theorem dX8_holds_38 : decode cX8_holds 38 = .ok (.iaload, 1) := by decide +kernel
theorem dX8_holds_39 : decode cX8_holds 39 = .ok (.invokestatic 55, 3) := by decide +kernel
theorem dX8_holds_42 : decode cX8_holds 42 = .ok (.ifCond .eq 7, 3) := by decide +kernel
theorem dX8_holds_45 : decode cX8_holds 45 = .ok (.iconst 1, 1) := by decide +kernel
theorem dX8_holds_46 : decode cX8_holds 46 = .ok (.goto 4, 3) := by decide +kernel
theorem dX8_holds_49 : decode cX8_holds 49 = .ok (.iconst 0, 1) := by decide +kernel
theorem dX8_holds_50 : decode cX8_holds 50 = .ok (.ireturn, 1) := by decide +kernel
theorem dX8_late_0 : decode cX8_late 0 = .ok (.aload_n 0, 1) := by decide +kernel
theorem dX8_late_1 : decode cX8_late 1 = .ok (.iload_n 1, 1) := by decide +kernel
theorem dX8_late_2 : decode cX8_late 2 = .ok (.invokevirtual 221, 3) := by decide +kernel
theorem dX8_late_5 : decode cX8_late 5 = .ok (.ifCond .eq 11, 3) := by decide +kernel
theorem dX8_late_8 : decode cX8_late 8 = .ok (.aload_n 0, 1) := by decide +kernel
theorem dX8_late_9 : decode cX8_late 9 = .ok (.iload_n 2, 1) := by decide +kernel
theorem dX8_late_10 : decode cX8_late 10 = .ok (.invokevirtual 188, 3) := by decide +kernel
theorem dX8_late_13 : decode cX8_late 13 = .ok (.ifCond .ne 5, 3) := by decide +kernel
theorem dX8_late_16 : decode cX8_late 16 = .ok (.iconst (-1), 1) := by decide +kernel
theorem dX8_late_17 : decode cX8_late 17 = .ok (.ireturn, 1) := by decide +kernel
theorem dX8_late_18 : decode cX8_late 18 = .ok (.aload_n 0, 1) := by decide +kernel
theorem dX8_late_19 : decode cX8_late 19 = .ok (.iload_n 2, 1) := by decide +kernel
theorem dX8_late_20 : decode cX8_late 20 = .ok (.invokevirtual 207, 3) := by decide +kernel
theorem dX8_late_23 : decode cX8_late 23 = .ok (.ifCond .eq 6, 3) := by decide +kernel
theorem dX8_late_26 : decode cX8_late 26 = .ok (.bipush (-9), 2) := by decide +kernel
theorem dX8_late_28 : decode cX8_late 28 = .ok (.ireturn, 1) := by decide +kernel
theorem dX8_late_29 : decode cX8_late 29 = .ok (.aload_n 0, 1) := by decide +kernel
theorem dX8_late_30 : decode cX8_late 30 = .ok (.iload_n 1, 1) := by decide +kernel
theorem dX8_late_31 : decode cX8_late 31 = .ok (.iload_n 2, 1) := by decide +kernel
theorem dX8_late_32 : decode cX8_late 32 = .ok (.invokevirtual 255, 3) := by decide +kernel
theorem dX8_late_35 : decode cX8_late 35 = .ok (.aload_n 0, 1) := by decide +kernel
theorem dX8_late_36 : decode cX8_late 36 = .ok (.getfield 103, 3) := by decide +kernel
theorem dX8_late_39 : decode cX8_late 39 = .ok (.if_icmp .gt 5, 3) := by decide +kernel
theorem dX8_late_42 : decode cX8_late 42 = .ok (.iconst 1, 1) := by decide +kernel
theorem dX8_late_43 : decode cX8_late 43 = .ok (.ireturn, 1) := by decide +kernel
theorem dX8_late_44 : decode cX8_late 44 = .ok (.aload_n 0, 1) := by decide +kernel
theorem dX8_late_45 : decode cX8_late 45 = .ok (.iload_n 1, 1) := by decide +kernel
theorem dX8_late_46 : decode cX8_late 46 = .ok (.iload_n 2, 1) := by decide +kernel
theorem dX8_late_47 : decode cX8_late 47 = .ok (.invokevirtual 258, 3) := by decide +kernel
theorem dX8_late_50 : decode cX8_late 50 = .ok (.aload_n 0, 1) := by decide +kernel
theorem dX8_late_51 : decode cX8_late 51 = .ok (.getfield 103, 3) := by decide +kernel
theorem dX8_late_54 : decode cX8_late 54 = .ok (.if_icmp .le 7, 3) := by decide +kernel
theorem dX8_late_57 : decode cX8_late 57 = .ok (.iconst 2, 1) := by decide +kernel
theorem dX8_late_58 : decode cX8_late 58 = .ok (.goto 4, 3) := by decide +kernel
theorem dX8_late_61 : decode cX8_late 61 = .ok (.iconst 0, 1) := by decide +kernel
theorem dX8_late_62 : decode cX8_late 62 = .ok (.ireturn, 1) := by decide +kernel
theorem dX8_left_0 : decode cX8_left 0 = .ok (.aload_n 0, 1) := by decide +kernel
theorem dX8_left_1 : decode cX8_left 1 = .ok (.iload_n 1, 1) := by decide +kernel
theorem dX8_left_2 : decode cX8_left 2 = .ok (.invokevirtual 221, 3) := by decide +kernel
theorem dX8_left_5 : decode cX8_left 5 = .ok (.ifCond .eq 11, 3) := by decide +kernel
theorem dX8_left_8 : decode cX8_left 8 = .ok (.aload_n 0, 1) := by decide +kernel
theorem dX8_left_9 : decode cX8_left 9 = .ok (.iload_n 2, 1) := by decide +kernel
theorem dX8_left_10 : decode cX8_left 10 = .ok (.invokevirtual 188, 3) := by decide +kernel
theorem dX8_left_13 : decode cX8_left 13 = .ok (.ifCond .ne 5, 3) := by decide +kernel
theorem dX8_left_16 : decode cX8_left 16 = .ok (.iconst (-1), 1) := by decide +kernel
theorem dX8_left_17 : decode cX8_left 17 = .ok (.ireturn, 1) := by decide +kernel
theorem dX8_left_18 : decode cX8_left 18 = .ok (.aload_n 0, 1) := by decide +kernel
theorem dX8_left_19 : decode cX8_left 19 = .ok (.iload_n 2, 1) := by decide +kernel
theorem dX8_left_20 : decode cX8_left 20 = .ok (.invokevirtual 207, 3) := by decide +kernel
theorem dX8_left_23 : decode cX8_left 23 = .ok (.ifCond .eq 6, 3) := by decide +kernel
theorem dX8_left_26 : decode cX8_left 26 = .ok (.bipush (-9), 2) := by decide +kernel
theorem dX8_left_28 : decode cX8_left 28 = .ok (.ireturn, 1) := by decide +kernel
theorem dX8_left_29 : decode cX8_left 29 = .ok (.iconst 0, 1) := by decide +kernel
theorem dX8_left_30 : decode cX8_left 30 = .ok (.aload_n 0, 1) := by decide +kernel
theorem dX8_left_31 : decode cX8_left 31 = .ok (.iload_n 1, 1) := by decide +kernel
theorem dX8_left_32 : decode cX8_left 32 = .ok (.iload_n 2, 1) := by decide +kernel
theorem dX8_left_33 : decode cX8_left 33 = .ok (.invokevirtual 258, 3) := by decide +kernel
theorem dX8_left_36 : decode cX8_left 36 = .ok (.aload_n 0, 1) := by decide +kernel
theorem dX8_left_37 : decode cX8_left 37 = .ok (.getfield 103, 3) := by decide +kernel
theorem dX8_left_40 : decode cX8_left 40 = .ok (.isub, 1) := by decide +kernel
theorem dX8_left_41 : decode cX8_left 41 = .ok (.invokestatic 261, 3) := by decide +kernel
theorem dX8_left_44 : decode cX8_left 44 = .ok (.ireturn, 1) := by decide +kernel
theorem dX8_count_0 : decode cX8_count 0 = .ok (.iload_n 1, 1) := by decide +kernel
theorem dX8_count_1 : decode cX8_count 1 = .ok (.tableswitch 81 0 5 #[39, 47, 55, 63, 71, 76], 39) := by decide +kernel
theorem dX8_count_40 : decode cX8_count 40 = .ok (.aload_n 0, 1) := by decide +kernel
theorem dX8_count_41 : decode cX8_count 41 = .ok (.getfield 21, 3) := by decide +kernel
theorem dX8_count_44 : decode cX8_count 44 = .ok (.invokevirtual 70, 3) := by decide +kernel
theorem dX8_count_47 : decode cX8_count 47 = .ok (.ireturn, 1) := by decide +kernel
theorem dX8_count_48 : decode cX8_count 48 = .ok (.aload_n 0, 1) := by decide +kernel
theorem dX8_count_49 : decode cX8_count 49 = .ok (.getfield 25, 3) := by decide +kernel
theorem dX8_count_52 : decode cX8_count 52 = .ok (.invokevirtual 70, 3) := by decide +kernel
theorem dX8_count_55 : decode cX8_count 55 = .ok (.ireturn, 1) := by decide +kernel
theorem dX8_count_56 : decode cX8_count 56 = .ok (.aload_n 0, 1) := by decide +kernel
theorem dX8_count_57 : decode cX8_count 57 = .ok (.getfield 28, 3) := by decide +kernel
theorem dX8_count_60 : decode cX8_count 60 = .ok (.invokevirtual 70, 3) := by decide +kernel
theorem dX8_count_63 : decode cX8_count 63 = .ok (.ireturn, 1) := by decide +kernel
theorem dX8_count_64 : decode cX8_count 64 = .ok (.aload_n 0, 1) := by decide +kernel
theorem dX8_count_65 : decode cX8_count 65 = .ok (.getfield 31, 3) := by decide +kernel
theorem dX8_count_68 : decode cX8_count 68 = .ok (.invokevirtual 70, 3) := by decide +kernel
theorem dX8_count_71 : decode cX8_count 71 = .ok (.ireturn, 1) := by decide +kernel
theorem dX8_count_72 : decode cX8_count 72 = .ok (.aload_n 0, 1) := by decide +kernel
theorem dX8_count_73 : decode cX8_count 73 = .ok (.getfield 233, 3) := by decide +kernel
theorem dX8_count_76 : decode cX8_count 76 = .ok (.ireturn, 1) := by decide +kernel
theorem dX8_count_77 : decode cX8_count 77 = .ok (.aload_n 0, 1) := by decide +kernel
theorem dX8_count_78 : decode cX8_count 78 = .ok (.getfield 103, 3) := by decide +kernel
theorem dX8_count_81 : decode cX8_count 81 = .ok (.ireturn, 1) := by decide +kernel
theorem dX8_count_82 : decode cX8_count 82 = .ok (.iconst (-1), 1) := by decide +kernel
theorem dX8_count_83 : decode cX8_count 83 = .ok (.ireturn, 1) := by decide +kernel
theorem dX8_isWithin_0 : decode cX8_isWithin 0 = .ok (.iload_n 0, 1) := by decide +kernel
theorem dX8_isWithin_1 : decode cX8_isWithin 1 = .ok (.iload_n 1, 1) := by decide +kernel
theorem dX8_isWithin_2 : decode cX8_isWithin 2 = .ok (.if_icmp .lt 12, 3) := by decide +kernel
theorem dX8_isWithin_5 : decode cX8_isWithin 5 = .ok (.iload_n 0, 1) := by decide +kernel
theorem dX8_isWithin_6 : decode cX8_isWithin 6 = .ok (.iload_n 2, 1) := by decide +kernel
theorem dX8_isWithin_7 : decode cX8_isWithin 7 = .ok (.if_icmp .gt 7, 3) := by decide +kernel
theorem dX8_isWithin_10 : decode cX8_isWithin 10 = .ok (.iconst 1, 1) := by decide +kernel
theorem dX8_isWithin_11 : decode cX8_isWithin 11 = .ok (.goto 4, 3) := by decide +kernel
theorem dX8_isWithin_14 : decode cX8_isWithin 14 = .ok (.iconst 0, 1) := by decide +kernel
theorem dX8_isWithin_15 : decode cX8_isWithin 15 = .ok (.ireturn, 1) := by decide +kernel
theorem dX8_isCell_0 : decode cX8_isCell 0 = .ok (.iload_n 0, 1) := by decide +kernel
theorem dX8_isCell_1 : decode cX8_isCell 1 = .ok (.iconst 0, 1) := by decide +kernel
theorem dX8_isCell_2 : decode cX8_isCell 2 = .ok (.sipush 143, 3) := by decide +kernel
theorem dX8_isCell_5 : decode cX8_isCell 5 = .ok (.invokestatic 55, 3) := by decide +kernel
theorem dX8_isCell_8 : decode cX8_isCell 8 = .ok (.ireturn, 1) := by decide +kernel
theorem dX8_isStation_0 : decode cX8_isStation 0 = .ok (.iload_n 1, 1) := by decide +kernel
theorem dX8_isStation_1 : decode cX8_isStation 1 = .ok (.iconst 0, 1) := by decide +kernel
theorem dX8_isStation_2 : decode cX8_isStation 2 = .ok (.aload_n 0, 1) := by decide +kernel
theorem dX8_isStation_3 : decode cX8_isStation 3 = .ok (.getfield 21, 3) := by decide +kernel
theorem dX8_isStation_6 : decode cX8_isStation 6 = .ok (.invokevirtual 70, 3) := by decide +kernel
theorem dX8_isStation_9 : decode cX8_isStation 9 = .ok (.iconst 1, 1) := by decide +kernel
theorem dX8_isStation_10 : decode cX8_isStation 10 = .ok (.isub, 1) := by decide +kernel
theorem dX8_isStation_11 : decode cX8_isStation 11 = .ok (.invokestatic 55, 3) := by decide +kernel
theorem dX8_isStation_14 : decode cX8_isStation 14 = .ok (.ireturn, 1) := by decide +kernel
theorem dX8_isTown_0 : decode cX8_isTown 0 = .ok (.iload_n 1, 1) := by decide +kernel
theorem dX8_isTown_1 : decode cX8_isTown 1 = .ok (.iconst 0, 1) := by decide +kernel
theorem dX8_isTown_2 : decode cX8_isTown 2 = .ok (.aload_n 0, 1) := by decide +kernel
theorem dX8_isTown_3 : decode cX8_isTown 3 = .ok (.getfield 25, 3) := by decide +kernel
theorem dX8_isTown_6 : decode cX8_isTown 6 = .ok (.invokevirtual 70, 3) := by decide +kernel
theorem dX8_isTown_9 : decode cX8_isTown 9 = .ok (.iconst 1, 1) := by decide +kernel
theorem dX8_isTown_10 : decode cX8_isTown 10 = .ok (.isub, 1) := by decide +kernel
theorem dX8_isTown_11 : decode cX8_isTown 11 = .ok (.invokestatic 55, 3) := by decide +kernel
theorem dX8_isTown_14 : decode cX8_isTown 14 = .ok (.ireturn, 1) := by decide +kernel
theorem dX8_isQuake_0 : decode cX8_isQuake 0 = .ok (.iload_n 1, 1) := by decide +kernel
theorem dX8_isQuake_1 : decode cX8_isQuake 1 = .ok (.iconst 0, 1) := by decide +kernel
theorem dX8_isQuake_2 : decode cX8_isQuake 2 = .ok (.aload_n 0, 1) := by decide +kernel
theorem dX8_isQuake_3 : decode cX8_isQuake 3 = .ok (.getfield 31, 3) := by decide +kernel
theorem dX8_isQuake_6 : decode cX8_isQuake 6 = .ok (.invokevirtual 70, 3) := by decide +kernel
theorem dX8_isQuake_9 : decode cX8_isQuake 9 = .ok (.iconst 1, 1) := by decide +kernel
theorem dX8_isQuake_10 : decode cX8_isQuake 10 = .ok (.isub, 1) := by decide +kernel
theorem dX8_isQuake_11 : decode cX8_isQuake 11 = .ok (.invokestatic 55, 3) := by decide +kernel
theorem dX8_isQuake_14 : decode cX8_isQuake 14 = .ok (.ireturn, 1) := by decide +kernel
theorem dX8_bits_0 : decode cX8_bits 0 = .ok (.bipush 32, 2) := by decide +kernel
theorem dX8_bits_2 : decode cX8_bits 2 = .ok (.iload_n 0, 1) := by decide +kernel
theorem dX8_bits_3 : decode cX8_bits 3 = .ok (.invokestatic 291, 3) := by decide +kernel
theorem dX8_bits_6 : decode cX8_bits 6 = .ok (.isub, 1) := by decide +kernel
theorem dX8_bits_7 : decode cX8_bits 7 = .ok (.ireturn, 1) := by decide +kernel
theorem dX8_takerOf_0 : decode cX8_takerOf 0 = .ok (.iconst 0, 1) := by decide +kernel
theorem dX8_takerOf_1 : decode cX8_takerOf 1 = .ok (.istore_n 3, 1) := by decide +kernel
theorem dX8_takerOf_2 : decode cX8_takerOf 2 = .ok (.iload_n 3, 1) := by decide +kernel
theorem dX8_takerOf_3 : decode cX8_takerOf 3 = .ok (.aload_n 0, 1) := by decide +kernel
theorem dX8_takerOf_4 : decode cX8_takerOf 4 = .ok (.getfield 31, 3) := by decide +kernel
theorem dX8_takerOf_7 : decode cX8_takerOf 7 = .ok (.invokevirtual 70, 3) := by decide +kernel
theorem dX8_takerOf_10 : decode cX8_takerOf 10 = .ok (.if_icmp .ge 21, 3) := by decide +kernel
theorem dX8_takerOf_13 : decode cX8_takerOf 13 = .ok (.aload_n 0, 1) := by decide +kernel
theorem dX8_takerOf_14 : decode cX8_takerOf 14 = .ok (.iload_n 3, 1) := by decide +kernel
theorem dX8_takerOf_15 : decode cX8_takerOf 15 = .ok (.iload_n 1, 1) := by decide +kernel
theorem dX8_takerOf_16 : decode cX8_takerOf 16 = .ok (.iload_n 2, 1) := by decide +kernel
theorem dX8_takerOf_17 : decode cX8_takerOf 17 = .ok (.invokevirtual 298, 3) := by decide +kernel
theorem dX8_takerOf_20 : decode cX8_takerOf 20 = .ok (.ifCond .eq 5, 3) := by decide +kernel
theorem dX8_takerOf_23 : decode cX8_takerOf 23 = .ok (.iload_n 3, 1) := by decide +kernel
theorem dX8_takerOf_24 : decode cX8_takerOf 24 = .ok (.ireturn, 1) := by decide +kernel
theorem dX8_takerOf_25 : decode cX8_takerOf 25 = .ok (.iinc 3 1, 3) := by decide +kernel
theorem dX8_takerOf_28 : decode cX8_takerOf 28 = .ok (.goto (-26), 3) := by decide +kernel
theorem dX8_takerOf_31 : decode cX8_takerOf 31 = .ok (.bipush (-9), 2) := by decide +kernel
theorem dX8_takerOf_33 : decode cX8_takerOf 33 = .ok (.ireturn, 1) := by decide +kernel
theorem dX8_takes_0 : decode cX8_takes 0 = .ok (.aload_n 0, 1) := by decide +kernel
theorem dX8_takes_1 : decode cX8_takes 1 = .ok (.getfield 31, 3) := by decide +kernel
theorem dX8_takes_4 : decode cX8_takes 4 = .ok (.iload_n 1, 1) := by decide +kernel
theorem dX8_takes_5 : decode cX8_takes 5 = .ok (.invokevirtual 87, 3) := by decide +kernel
theorem dX8_takes_8 : decode cX8_takes 8 = .ok (.checkcast 153, 3) := by decide +kernel
theorem dX8_takes_11 : decode cX8_takes 11 = .ok (.astore 4, 2) := by decide +kernel
theorem dX8_takes_13 : decode cX8_takes 13 = .ok (.aload 4, 2) := by decide +kernel
theorem dX8_takes_15 : decode cX8_takes 15 = .ok (.iload_n 2, 1) := by decide +kernel
theorem dX8_takes_16 : decode cX8_takes 16 = .ok (.invokevirtual 301, 3) := by decide +kernel
theorem dX8_takes_19 : decode cX8_takes 19 = .ok (.ifCond .ne 14, 3) := by decide +kernel
theorem dX8_takes_22 : decode cX8_takes 22 = .ok (.aload_n 0, 1) := by decide +kernel
theorem dX8_takes_23 : decode cX8_takes 23 = .ok (.iload_n 1, 1) := by decide +kernel
theorem dX8_takes_24 : decode cX8_takes 24 = .ok (.invokevirtual 194, 3) := by decide +kernel
theorem dX8_takes_27 : decode cX8_takes 27 = .ok (.getfield 198, 3) := by decide +kernel
theorem dX8_takes_30 : decode cX8_takes 30 = .ok (.ifCond .ne 5, 3) := by decide +kernel
theorem dX8_takes_33 : decode cX8_takes 33 = .ok (.iconst 0, 1) := by decide +kernel
theorem dX8_takes_34 : decode cX8_takes 34 = .ok (.ireturn, 1) := by decide +kernel
theorem dX8_takes_35 : decode cX8_takes 35 = .ok (.aload_n 0, 1) := by decide +kernel
theorem dX8_takes_36 : decode cX8_takes 36 = .ok (.aload 4, 2) := by decide +kernel
theorem dX8_takes_38 : decode cX8_takes 38 = .ok (.iload_n 2, 1) := by decide +kernel
theorem dX8_takes_39 : decode cX8_takes 39 = .ok (.iload_n 3, 1) := by decide +kernel
theorem dX8_takes_40 : decode cX8_takes 40 = .ok (.invokevirtual 304, 3) := by decide +kernel
theorem dX8_takes_43 : decode cX8_takes 43 = .ok (.aload_n 0, 1) := by decide +kernel
theorem dX8_takes_44 : decode cX8_takes 44 = .ok (.getfield 40, 3) := by decide +kernel
theorem dX8_takes_47 : decode cX8_takes 47 = .ok (.getfield 198, 3) := by decide +kernel
theorem dX8_takes_50 : decode cX8_takes 50 = .ok (.ifCond .le 7, 3) := by decide +kernel
theorem dX8_takes_53 : decode cX8_takes 53 = .ok (.iconst 1, 1) := by decide +kernel
theorem dX8_takes_54 : decode cX8_takes 54 = .ok (.goto 4, 3) := by decide +kernel
theorem dX8_takes_57 : decode cX8_takes 57 = .ok (.iconst 0, 1) := by decide +kernel
theorem dX8_takes_58 : decode cX8_takes 58 = .ok (.ireturn, 1) := by decide +kernel
theorem dX8_isOver_0 : decode cX8_isOver 0 = .ok (.aload_n 0, 1) := by decide +kernel
theorem dX8_isOver_1 : decode cX8_isOver 1 = .ok (.iload_n 1, 1) := by decide +kernel
theorem dX8_isOver_2 : decode cX8_isOver 2 = .ok (.invokevirtual 194, 3) := by decide +kernel
theorem dX8_isOver_5 : decode cX8_isOver 5 = .ok (.getfield 198, 3) := by decide +kernel
theorem dX8_isOver_8 : decode cX8_isOver 8 = .ok (.ifCond .ne 7, 3) := by decide +kernel
theorem dX8_isOver_11 : decode cX8_isOver 11 = .ok (.iconst 1, 1) := by decide +kernel
theorem dX8_isOver_12 : decode cX8_isOver 12 = .ok (.goto 4, 3) := by decide +kernel
theorem dX8_isOver_15 : decode cX8_isOver 15 = .ok (.iconst 0, 1) := by decide +kernel
theorem dX8_isOver_16 : decode cX8_isOver 16 = .ok (.ireturn, 1) := by decide +kernel
theorem dX8_heapOf_0 : decode cX8_heapOf 0 = .ok (.aload_n 0, 1) := by decide +kernel
theorem dX8_heapOf_1 : decode cX8_heapOf 1 = .ok (.getfield 40, 3) := by decide +kernel
theorem dX8_heapOf_4 : decode cX8_heapOf 4 = .ok (.getfield 308, 3) := by decide +kernel
theorem dX8_heapOf_7 : decode cX8_heapOf 7 = .ok (.iload_n 1, 1) := by decide +kernel
theorem dX8_heapOf_8 : decode cX8_heapOf 8 = .ok (.if_icmp .eq 63, 3) := by decide +kernel
theorem dX8_heapOf_11 : decode cX8_heapOf 11 = .ok (.aload_n 0, 1) := by decide +kernel
theorem dX8_heapOf_12 : decode cX8_heapOf 12 = .ok (.getfield 31, 3) := by decide +kernel
theorem dX8_heapOf_15 : decode cX8_heapOf 15 = .ok (.iload_n 1, 1) := by decide +kernel
theorem dX8_heapOf_16 : decode cX8_heapOf 16 = .ok (.invokevirtual 87, 3) := by decide +kernel
theorem dX8_heapOf_19 : decode cX8_heapOf 19 = .ok (.checkcast 153, 3) := by decide +kernel
theorem dX8_heapOf_22 : decode cX8_heapOf 22 = .ok (.astore_n 2, 1) := by decide +kernel
theorem dX8_heapOf_23 : decode cX8_heapOf 23 = .ok (.aload_n 0, 1) := by decide +kernel
theorem dX8_heapOf_24 : decode cX8_heapOf 24 = .ok (.aload_n 2, 1) := by decide +kernel
theorem dX8_heapOf_25 : decode cX8_heapOf 25 = .ok (.bipush (-9), 2) := by decide +kernel
theorem dX8_heapOf_27 : decode cX8_heapOf 27 = .ok (.iconst (-1), 1) := by decide +kernel
theorem dX8_heapOf_28 : decode cX8_heapOf 28 = .ok (.invokevirtual 304, 3) := by decide +kernel
theorem dX8_heapOf_31 : decode cX8_heapOf 31 = .ok (.aload_n 0, 1) := by decide +kernel
theorem dX8_heapOf_32 : decode cX8_heapOf 32 = .ok (.getfield 40, 3) := by decide +kernel
theorem dX8_heapOf_35 : decode cX8_heapOf 35 = .ok (.aload_n 0, 1) := by decide +kernel
theorem dX8_heapOf_36 : decode cX8_heapOf 36 = .ok (.getfield 14, 3) := by decide +kernel
theorem dX8_heapOf_39 : decode cX8_heapOf 39 = .ok (.aload_n 0, 1) := by decide +kernel
theorem dX8_heapOf_40 : decode cX8_heapOf 40 = .ok (.getfield 21, 3) := by decide +kernel
theorem dX8_heapOf_43 : decode cX8_heapOf 43 = .ok (.aload_n 2, 1) := by decide +kernel
theorem dX8_heapOf_44 : decode cX8_heapOf 44 = .ok (.getfield 309, 3) := by decide +kernel
theorem dX8_heapOf_47 : decode cX8_heapOf 47 = .ok (.invokevirtual 87, 3) := by decide +kernel
theorem dX8_heapOf_50 : decode cX8_heapOf 50 = .ok (.checkcast 74, 3) := by decide +kernel
theorem dX8_heapOf_53 : decode cX8_heapOf 53 = .ok (.getfield 312, 3) := by decide +kernel
theorem dX8_heapOf_56 : decode cX8_heapOf 56 = .ok (.aload_n 2, 1) := by decide +kernel
theorem dX8_heapOf_57 : decode cX8_heapOf 57 = .ok (.getfield 315, 3) := by decide +kernel
theorem dX8_heapOf_60 : decode cX8_heapOf 60 = .ok (.invokevirtual 318, 3) := by decide +kernel
theorem dX8_heapOf_63 : decode cX8_heapOf 63 = .ok (.aload_n 0, 1) := by decide +kernel
theorem dX8_heapOf_64 : decode cX8_heapOf 64 = .ok (.getfield 40, 3) := by decide +kernel
theorem dX8_heapOf_67 : decode cX8_heapOf 67 = .ok (.iload_n 1, 1) := by decide +kernel
theorem dX8_heapOf_68 : decode cX8_heapOf 68 = .ok (.putfield 308, 3) := by decide +kernel
theorem dX8_heapOf_71 : decode cX8_heapOf 71 = .ok (.aload_n 0, 1) := by decide +kernel
theorem dX8_heapOf_72 : decode cX8_heapOf 72 = .ok (.getfield 40, 3) := by decide +kernel
theorem dX8_heapOf_75 : decode cX8_heapOf 75 = .ok (.areturn, 1) := by decide +kernel
theorem dX8_fillHeap_0 : decode cX8_fillHeap 0 = .ok (.aload_n 0, 1) := by decide +kernel
theorem dX8_fillHeap_1 : decode cX8_fillHeap 1 = .ok (.getfield 40, 3) := by decide +kernel
theorem dX8_fillHeap_4 : decode cX8_fillHeap 4 = .ok (.invokevirtual 322, 3) := by decide +kernel
theorem dX8_fillHeap_7 : decode cX8_fillHeap 7 = .ok (.iconst 0, 1) := by decide +kernel
theorem dX8_fillHeap_8 : decode cX8_fillHeap 8 = .ok (.istore 4, 2) := by decide +kernel
theorem dX8_fillHeap_10 : decode cX8_fillHeap 10 = .ok (.iload 4, 2) := by decide +kernel
theorem dX8_fillHeap_12 : decode cX8_fillHeap 12 = .ok (.aload_n 0, 1) := by decide +kernel
theorem dX8_fillHeap_13 : decode cX8_fillHeap 13 = .ok (.getfield 21, 3) := by decide +kernel
theorem dX8_fillHeap_16 : decode cX8_fillHeap 16 = .ok (.invokevirtual 70, 3) := by decide +kernel
theorem dX8_fillHeap_19 : decode cX8_fillHeap 19 = .ok (.if_icmp .ge 116, 3) := by decide +kernel
theorem dX8_fillHeap_22 : decode cX8_fillHeap 22 = .ok (.aload_n 0, 1) := by decide +kernel
theorem dX8_fillHeap_23 : decode cX8_fillHeap 23 = .ok (.getfield 21, 3) := by decide +kernel
theorem dX8_fillHeap_26 : decode cX8_fillHeap 26 = .ok (.iload 4, 2) := by decide +kernel
theorem dX8_fillHeap_28 : decode cX8_fillHeap 28 = .ok (.invokevirtual 87, 3) := by decide +kernel
theorem dX8_fillHeap_31 : decode cX8_fillHeap 31 = .ok (.checkcast 74, 3) := by decide +kernel
theorem dX8_fillHeap_34 : decode cX8_fillHeap 34 = .ok (.astore 5, 2) := by decide +kernel
theorem dX8_fillHeap_36 : decode cX8_fillHeap 36 = .ok (.iload 4, 2) := by decide +kernel
theorem dX8_fillHeap_38 : decode cX8_fillHeap 38 = .ok (.iload_n 2, 1) := by decide +kernel
theorem dX8_fillHeap_39 : decode cX8_fillHeap 39 = .ok (.if_icmp .ne 7, 3) := by decide +kernel
theorem dX8_fillHeap_42 : decode cX8_fillHeap 42 = .ok (.iload_n 3, 1) := by decide +kernel
theorem dX8_fillHeap_43 : decode cX8_fillHeap 43 = .ok (.goto 10, 3) := by decide +kernel
theorem dX8_fillHeap_46 : decode cX8_fillHeap 46 = .ok (.aload_n 1, 1) := by decide +kernel
theorem dX8_fillHeap_47 : decode cX8_fillHeap 47 = .ok (.getfield 325, 3) := by decide +kernel
theorem dX8_fillHeap_50 : decode cX8_fillHeap 50 = .ok (.iload 4, 2) := by decide +kernel
theorem dX8_fillHeap_52 : decode cX8_fillHeap 52 = .ok (.iaload, 1) := by decide +kernel
theorem dX8_fillHeap_53 : decode cX8_fillHeap 53 = .ok (.istore 6, 2) := by decide +kernel
theorem dX8_fillHeap_55 : decode cX8_fillHeap 55 = .ok (.iload 6, 2) := by decide +kernel
theorem dX8_fillHeap_57 : decode cX8_fillHeap 57 = .ok (.iconst (-1), 1) := by decide +kernel
theorem dX8_fillHeap_58 : decode cX8_fillHeap 58 = .ok (.if_icmp .eq 36, 3) := by decide +kernel
theorem dX8_fillHeap_61 : decode cX8_fillHeap 61 = .ok (.aload_n 0, 1) := by decide +kernel
theorem dX8_fillHeap_62 : decode cX8_fillHeap 62 = .ok (.getfield 40, 3) := by decide +kernel
theorem dX8_fillHeap_65 : decode cX8_fillHeap 65 = .ok (.aload_n 0, 1) := by decide +kernel
theorem dX8_fillHeap_66 : decode cX8_fillHeap 66 = .ok (.getfield 14, 3) := by decide +kernel
theorem dX8_fillHeap_69 : decode cX8_fillHeap 69 = .ok (.aload 5, 2) := by decide +kernel
theorem dX8_fillHeap_71 : decode cX8_fillHeap 71 = .ok (.getfield 312, 3) := by decide +kernel
theorem dX8_fillHeap_74 : decode cX8_fillHeap 74 = .ok (.iload 6, 2) := by decide +kernel
theorem dX8_fillHeap_76 : decode cX8_fillHeap 76 = .ok (.aload_n 0, 1) := by decide +kernel
theorem dX8_fillHeap_77 : decode cX8_fillHeap 77 = .ok (.getfield 51, 3) := by decide +kernel
theorem dX8_fillHeap_80 : decode cX8_fillHeap 80 = .ok (.isub, 1) := by decide +kernel
theorem dX8_fillHeap_81 : decode cX8_fillHeap 81 = .ok (.iload 6, 2) := by decide +kernel
theorem dX8_fillHeap_83 : decode cX8_fillHeap 83 = .ok (.aload_n 0, 1) := by decide +kernel
theorem dX8_fillHeap_84 : decode cX8_fillHeap 84 = .ok (.getfield 51, 3) := by decide +kernel
theorem dX8_fillHeap_87 : decode cX8_fillHeap 87 = .ok (.iadd, 1) := by decide +kernel
theorem dX8_fillHeap_88 : decode cX8_fillHeap 88 = .ok (.invokevirtual 328, 3) := by decide +kernel
theorem dX8_fillHeap_91 : decode cX8_fillHeap 91 = .ok (.goto 38, 3) := by decide +kernel
theorem dX8_fillHeap_94 : decode cX8_fillHeap 94 = .ok (.aload 5, 2) := by decide +kernel
theorem dX8_fillHeap_96 : decode cX8_fillHeap 96 = .ok (.getfield 91, 3) := by decide +kernel
theorem dX8_fillHeap_99 : decode cX8_fillHeap 99 = .ok (.ifCond .ne 30, 3) := by decide +kernel
theorem dX8_fillHeap_102 : decode cX8_fillHeap 102 = .ok (.aload_n 0, 1) := by decide +kernel
theorem dX8_fillHeap_103 : decode cX8_fillHeap 103 = .ok (.getfield 40, 3) := by decide +kernel
theorem dX8_fillHeap_106 : decode cX8_fillHeap 106 = .ok (.aload_n 0, 1) := by decide +kernel
theorem dX8_fillHeap_107 : decode cX8_fillHeap 107 = .ok (.getfield 14, 3) := by decide +kernel
theorem dX8_fillHeap_110 : decode cX8_fillHeap 110 = .ok (.aload 5, 2) := by decide +kernel
theorem dX8_fillHeap_112 : decode cX8_fillHeap 112 = .ok (.getfield 312, 3) := by decide +kernel
theorem dX8_fillHeap_115 : decode cX8_fillHeap 115 = .ok (.aload_n 0, 1) := by decide +kernel
theorem dX8_fillHeap_116 : decode cX8_fillHeap 116 = .ok (.getfield 103, 3) := by decide +kernel
theorem dX8_fillHeap_119 : decode cX8_fillHeap 119 = .ok (.aload_n 0, 1) := by decide +kernel
theorem dX8_fillHeap_120 : decode cX8_fillHeap 120 = .ok (.getfield 51, 3) := by decide +kernel
theorem dX8_fillHeap_123 : decode cX8_fillHeap 123 = .ok (.isub, 1) := by decide +kernel
theorem dX8_fillHeap_124 : decode cX8_fillHeap 124 = .ok (.ldc 149, 2) := by decide +kernel
theorem dX8_fillHeap_126 : decode cX8_fillHeap 126 = .ok (.invokevirtual 328, 3) := by decide +kernel
theorem dX8_fillHeap_129 : decode cX8_fillHeap 129 = .ok (.iinc 4 1, 3) := by decide +kernel
theorem dX8_fillHeap_132 : decode cX8_fillHeap 132 = .ok (.goto (-122), 3) := by decide +kernel
theorem dX8_fillHeap_135 : decode cX8_fillHeap 135 = .ok (.aload_n 0, 1) := by decide +kernel
theorem dX8_fillHeap_136 : decode cX8_fillHeap 136 = .ok (.getfield 40, 3) := by decide +kernel
theorem dX8_fillHeap_139 : decode cX8_fillHeap 139 = .ok (.invokevirtual 332, 3) := by decide +kernel
theorem dX8_fillHeap_142 : decode cX8_fillHeap 142 = .ok (.return_, 1) := by decide +kernel
theorem dX8_earliestArrival_0 : decode cX8_earliestArrival 0 = .ok (.aload_n 0, 1) := by decide +kernel
theorem dX8_earliestArrival_1 : decode cX8_earliestArrival 1 = .ok (.iload_n 2, 1) := by decide +kernel
theorem dX8_earliestArrival_2 : decode cX8_earliestArrival 2 = .ok (.invokevirtual 194, 3) := by decide +kernel
theorem dX8_earliestArrival_5 : decode cX8_earliestArrival 5 = .ok (.astore_n 3, 1) := by decide +kernel
theorem dX8_earliestArrival_6 : decode cX8_earliestArrival 6 = .ok (.aload_n 0, 1) := by decide +kernel
theorem dX8_earliestArrival_7 : decode cX8_earliestArrival 7 = .ok (.getfield 25, 3) := by decide +kernel
theorem dX8_earliestArrival_10 : decode cX8_earliestArrival 10 = .ok (.iload_n 1, 1) := by decide +kernel
theorem dX8_earliestArrival_11 : decode cX8_earliestArrival 11 = .ok (.invokevirtual 87, 3) := by decide +kernel
theorem dX8_earliestArrival_14 : decode cX8_earliestArrival 14 = .ok (.checkcast 81, 3) := by decide +kernel
theorem dX8_earliestArrival_17 : decode cX8_earliestArrival 17 = .ok (.getfield 335, 3) := by decide +kernel
theorem dX8_earliestArrival_20 : decode cX8_earliestArrival 20 = .ok (.istore 4, 2) := by decide +kernel
theorem dX8_earliestArrival_22 : decode cX8_earliestArrival 22 = .ok (.ldc 149, 2) := by decide +kernel
theorem dX8_earliestArrival_24 : decode cX8_earliestArrival 24 = .ok (.istore 5, 2) := by decide +kernel
theorem dX8_earliestArrival_26 : decode cX8_earliestArrival 26 = .ok (.iconst 0, 1) := by decide +kernel
theorem dX8_earliestArrival_27 : decode cX8_earliestArrival 27 = .ok (.istore 6, 2) := by decide +kernel
theorem dX8_earliestArrival_29 : decode cX8_earliestArrival 29 = .ok (.iload 6, 2) := by decide +kernel
theorem dX8_earliestArrival_31 : decode cX8_earliestArrival 31 = .ok (.sipush 144, 3) := by decide +kernel
theorem dX8_earliestArrival_34 : decode cX8_earliestArrival 34 = .ok (.if_icmp .ge 47, 3) := by decide +kernel
theorem dX8_earliestArrival_37 : decode cX8_earliestArrival 37 = .ok (.aload_n 3, 1) := by decide +kernel
theorem dX8_earliestArrival_38 : decode cX8_earliestArrival 38 = .ok (.iload 6, 2) := by decide +kernel
theorem dX8_earliestArrival_40 : decode cX8_earliestArrival 40 = .ok (.invokevirtual 213, 3) := by decide +kernel
theorem dX8_earliestArrival_43 : decode cX8_earliestArrival 43 = .ok (.ifCond .ne 6, 3) := by decide +kernel
theorem dX8_earliestArrival_46 : decode cX8_earliestArrival 46 = .ok (.goto 29, 3) := by decide +kernel
theorem dX8_earliestArrival_49 : decode cX8_earliestArrival 49 = .ok (.iload 5, 2) := by decide +kernel
theorem dX8_earliestArrival_51 : decode cX8_earliestArrival 51 = .ok (.aload_n 3, 1) := by decide +kernel
theorem dX8_earliestArrival_52 : decode cX8_earliestArrival 52 = .ok (.getfield 218, 3) := by decide +kernel
theorem dX8_earliestArrival_55 : decode cX8_earliestArrival 55 = .ok (.iload 6, 2) := by decide +kernel
theorem dX8_earliestArrival_57 : decode cX8_earliestArrival 57 = .ok (.iaload, 1) := by decide +kernel
theorem dX8_earliestArrival_58 : decode cX8_earliestArrival 58 = .ok (.aload_n 0, 1) := by decide +kernel
theorem dX8_earliestArrival_59 : decode cX8_earliestArrival 59 = .ok (.getfield 14, 3) := by decide +kernel
theorem dX8_earliestArrival_62 : decode cX8_earliestArrival 62 = .ok (.iload 6, 2) := by decide +kernel
theorem dX8_earliestArrival_64 : decode cX8_earliestArrival 64 = .ok (.iload 4, 2) := by decide +kernel
theorem dX8_earliestArrival_66 : decode cX8_earliestArrival 66 = .ok (.invokevirtual 98, 3) := by decide +kernel
theorem dX8_earliestArrival_69 : decode cX8_earliestArrival 69 = .ok (.iadd, 1) := by decide +kernel
theorem dX8_earliestArrival_70 : decode cX8_earliestArrival 70 = .ok (.invokestatic 339, 3) := by decide +kernel
theorem dX8_earliestArrival_73 : decode cX8_earliestArrival 73 = .ok (.istore 5, 2) := by decide +kernel
theorem dX8_earliestArrival_75 : decode cX8_earliestArrival 75 = .ok (.iinc 6 1, 3) := by decide +kernel
theorem dX8_earliestArrival_78 : decode cX8_earliestArrival 78 = .ok (.goto (-49), 3) := by decide +kernel
theorem dX8_earliestArrival_81 : decode cX8_earliestArrival 81 = .ok (.iload 5, 2) := by decide +kernel
theorem dX8_earliestArrival_83 : decode cX8_earliestArrival 83 = .ok (.ireturn, 1) := by decide +kernel
theorem dX8_latestArrival_0 : decode cX8_latestArrival 0 = .ok (.aload_n 0, 1) := by decide +kernel
theorem dX8_latestArrival_1 : decode cX8_latestArrival 1 = .ok (.iload_n 2, 1) := by decide +kernel
theorem dX8_latestArrival_2 : decode cX8_latestArrival 2 = .ok (.invokevirtual 194, 3) := by decide +kernel
theorem dX8_latestArrival_5 : decode cX8_latestArrival 5 = .ok (.astore_n 3, 1) := by decide +kernel
theorem dX8_latestArrival_6 : decode cX8_latestArrival 6 = .ok (.aload_n 0, 1) := by decide +kernel
theorem dX8_latestArrival_7 : decode cX8_latestArrival 7 = .ok (.getfield 25, 3) := by decide +kernel
theorem dX8_latestArrival_10 : decode cX8_latestArrival 10 = .ok (.iload_n 1, 1) := by decide +kernel
theorem dX8_latestArrival_11 : decode cX8_latestArrival 11 = .ok (.invokevirtual 87, 3) := by decide +kernel
theorem dX8_latestArrival_14 : decode cX8_latestArrival 14 = .ok (.checkcast 81, 3) := by decide +kernel
theorem dX8_latestArrival_17 : decode cX8_latestArrival 17 = .ok (.getfield 335, 3) := by decide +kernel
theorem dX8_latestArrival_20 : decode cX8_latestArrival 20 = .ok (.istore 4, 2) := by decide +kernel
theorem dX8_latestArrival_22 : decode cX8_latestArrival 22 = .ok (.ldc_w 342, 3) := by decide +kernel
theorem dX8_latestArrival_25 : decode cX8_latestArrival 25 = .ok (.istore 5, 2) := by decide +kernel
theorem dX8_latestArrival_27 : decode cX8_latestArrival 27 = .ok (.iconst 0, 1) := by decide +kernel
theorem dX8_latestArrival_28 : decode cX8_latestArrival 28 = .ok (.istore 6, 2) := by decide +kernel
theorem dX8_latestArrival_30 : decode cX8_latestArrival 30 = .ok (.iload 6, 2) := by decide +kernel
theorem dX8_latestArrival_32 : decode cX8_latestArrival 32 = .ok (.sipush 144, 3) := by decide +kernel
theorem dX8_latestArrival_35 : decode cX8_latestArrival 35 = .ok (.if_icmp .ge 47, 3) := by decide +kernel
theorem dX8_latestArrival_38 : decode cX8_latestArrival 38 = .ok (.aload_n 3, 1) := by decide +kernel
theorem dX8_latestArrival_39 : decode cX8_latestArrival 39 = .ok (.iload 6, 2) := by decide +kernel
theorem dX8_latestArrival_41 : decode cX8_latestArrival 41 = .ok (.invokevirtual 213, 3) := by decide +kernel
theorem dX8_latestArrival_44 : decode cX8_latestArrival 44 = .ok (.ifCond .ne 6, 3) := by decide +kernel
theorem dX8_latestArrival_47 : decode cX8_latestArrival 47 = .ok (.goto 29, 3) := by decide +kernel
theorem dX8_latestArrival_50 : decode cX8_latestArrival 50 = .ok (.iload 5, 2) := by decide +kernel
theorem dX8_latestArrival_52 : decode cX8_latestArrival 52 = .ok (.aload_n 3, 1) := by decide +kernel
theorem dX8_latestArrival_53 : decode cX8_latestArrival 53 = .ok (.getfield 215, 3) := by decide +kernel
theorem dX8_latestArrival_56 : decode cX8_latestArrival 56 = .ok (.iload 6, 2) := by decide +kernel
theorem dX8_latestArrival_58 : decode cX8_latestArrival 58 = .ok (.iaload, 1) := by decide +kernel
theorem dX8_latestArrival_59 : decode cX8_latestArrival 59 = .ok (.aload_n 0, 1) := by decide +kernel
theorem dX8_latestArrival_60 : decode cX8_latestArrival 60 = .ok (.getfield 14, 3) := by decide +kernel
theorem dX8_latestArrival_63 : decode cX8_latestArrival 63 = .ok (.iload 6, 2) := by decide +kernel
theorem dX8_latestArrival_65 : decode cX8_latestArrival 65 = .ok (.iload 4, 2) := by decide +kernel
theorem dX8_latestArrival_67 : decode cX8_latestArrival 67 = .ok (.invokevirtual 98, 3) := by decide +kernel
theorem dX8_latestArrival_70 : decode cX8_latestArrival 70 = .ok (.iadd, 1) := by decide +kernel
theorem dX8_latestArrival_71 : decode cX8_latestArrival 71 = .ok (.invokestatic 261, 3) := by decide +kernel
theorem dX8_latestArrival_74 : decode cX8_latestArrival 74 = .ok (.istore 5, 2) := by decide +kernel
theorem dX8_latestArrival_76 : decode cX8_latestArrival 76 = .ok (.iinc 6 1, 3) := by decide +kernel
theorem dX8_latestArrival_79 : decode cX8_latestArrival 79 = .ok (.goto (-49), 3) := by decide +kernel
theorem dX8_latestArrival_82 : decode cX8_latestArrival 82 = .ok (.iload 5, 2) := by decide +kernel
theorem dX8_latestArrival_84 : decode cX8_latestArrival 84 = .ok (.ireturn, 1) := by decide +kernel
theorem dJ6_numberOfLeadingZeros_0f7a4_0 : decode cJ6_numberOfLeadingZeros_0f7a4 0 = .ok (.iload_n 0, 1) := by decide +kernel
theorem dJ6_numberOfLeadingZeros_0f7a4_1 : decode cJ6_numberOfLeadingZeros_0f7a4 1 = .ok (.ifCond .gt 14, 3) := by decide +kernel
theorem dJ6_numberOfLeadingZeros_0f7a4_4 : decode cJ6_numberOfLeadingZeros_0f7a4 4 = .ok (.iload_n 0, 1) := by decide +kernel
theorem dJ6_numberOfLeadingZeros_0f7a4_5 : decode cJ6_numberOfLeadingZeros_0f7a4 5 = .ok (.ifCond .ne 8, 3) := by decide +kernel
theorem dJ6_numberOfLeadingZeros_0f7a4_8 : decode cJ6_numberOfLeadingZeros_0f7a4 8 = .ok (.bipush 32, 2) := by decide +kernel
theorem dJ6_numberOfLeadingZeros_0f7a4_10 : decode cJ6_numberOfLeadingZeros_0f7a4 10 = .ok (.goto 4, 3) := by decide +kernel
theorem dJ6_numberOfLeadingZeros_0f7a4_13 : decode cJ6_numberOfLeadingZeros_0f7a4 13 = .ok (.iconst 0, 1) := by decide +kernel
theorem dJ6_numberOfLeadingZeros_0f7a4_14 : decode cJ6_numberOfLeadingZeros_0f7a4 14 = .ok (.ireturn, 1) := by decide +kernel
theorem dJ6_numberOfLeadingZeros_0f7a4_15 : decode cJ6_numberOfLeadingZeros_0f7a4 15 = .ok (.bipush 31, 2) := by decide +kernel
theorem dJ6_numberOfLeadingZeros_0f7a4_17 : decode cJ6_numberOfLeadingZeros_0f7a4 17 = .ok (.istore_n 1, 1) := by decide +kernel
theorem dJ6_numberOfLeadingZeros_0f7a4_18 : decode cJ6_numberOfLeadingZeros_0f7a4 18 = .ok (.iload_n 0, 1) := by decide +kernel
theorem dJ6_numberOfLeadingZeros_0f7a4_19 : decode cJ6_numberOfLeadingZeros_0f7a4 19 = .ok (.ldc_w 264, 3) := by decide +kernel
theorem dJ6_numberOfLeadingZeros_0f7a4_22 : decode cJ6_numberOfLeadingZeros_0f7a4 22 = .ok (.if_icmp .lt 11, 3) := by decide +kernel
theorem dJ6_numberOfLeadingZeros_0f7a4_25 : decode cJ6_numberOfLeadingZeros_0f7a4 25 = .ok (.iinc 1 (-16), 3) := by decide +kernel
theorem dJ6_numberOfLeadingZeros_0f7a4_28 : decode cJ6_numberOfLeadingZeros_0f7a4 28 = .ok (.iload_n 0, 1) := by decide +kernel
theorem dJ6_numberOfLeadingZeros_0f7a4_29 : decode cJ6_numberOfLeadingZeros_0f7a4 29 = .ok (.bipush 16, 2) := by decide +kernel
theorem dJ6_numberOfLeadingZeros_0f7a4_31 : decode cJ6_numberOfLeadingZeros_0f7a4 31 = .ok (.iushr, 1) := by decide +kernel
theorem dJ6_numberOfLeadingZeros_0f7a4_32 : decode cJ6_numberOfLeadingZeros_0f7a4 32 = .ok (.istore_n 0, 1) := by decide +kernel
theorem dJ6_numberOfLeadingZeros_0f7a4_33 : decode cJ6_numberOfLeadingZeros_0f7a4 33 = .ok (.iload_n 0, 1) := by decide +kernel
theorem dJ6_numberOfLeadingZeros_0f7a4_34 : decode cJ6_numberOfLeadingZeros_0f7a4 34 = .ok (.sipush 256, 3) := by decide +kernel
theorem dJ6_numberOfLeadingZeros_0f7a4_37 : decode cJ6_numberOfLeadingZeros_0f7a4 37 = .ok (.if_icmp .lt 11, 3) := by decide +kernel
theorem dJ6_numberOfLeadingZeros_0f7a4_40 : decode cJ6_numberOfLeadingZeros_0f7a4 40 = .ok (.iinc 1 (-8), 3) := by decide +kernel
theorem dJ6_numberOfLeadingZeros_0f7a4_43 : decode cJ6_numberOfLeadingZeros_0f7a4 43 = .ok (.iload_n 0, 1) := by decide +kernel
theorem dJ6_numberOfLeadingZeros_0f7a4_44 : decode cJ6_numberOfLeadingZeros_0f7a4 44 = .ok (.bipush 8, 2) := by decide +kernel
theorem dJ6_numberOfLeadingZeros_0f7a4_46 : decode cJ6_numberOfLeadingZeros_0f7a4 46 = .ok (.iushr, 1) := by decide +kernel
theorem dJ6_numberOfLeadingZeros_0f7a4_47 : decode cJ6_numberOfLeadingZeros_0f7a4 47 = .ok (.istore_n 0, 1) := by decide +kernel
theorem dJ6_numberOfLeadingZeros_0f7a4_48 : decode cJ6_numberOfLeadingZeros_0f7a4 48 = .ok (.iload_n 0, 1) := by decide +kernel
theorem dJ6_numberOfLeadingZeros_0f7a4_49 : decode cJ6_numberOfLeadingZeros_0f7a4 49 = .ok (.bipush 16, 2) := by decide +kernel
theorem dJ6_numberOfLeadingZeros_0f7a4_51 : decode cJ6_numberOfLeadingZeros_0f7a4 51 = .ok (.if_icmp .lt 10, 3) := by decide +kernel
theorem dJ6_numberOfLeadingZeros_0f7a4_54 : decode cJ6_numberOfLeadingZeros_0f7a4 54 = .ok (.iinc 1 (-4), 3) := by decide +kernel
theorem dJ6_numberOfLeadingZeros_0f7a4_57 : decode cJ6_numberOfLeadingZeros_0f7a4 57 = .ok (.iload_n 0, 1) := by decide +kernel
theorem dJ6_numberOfLeadingZeros_0f7a4_58 : decode cJ6_numberOfLeadingZeros_0f7a4 58 = .ok (.iconst 4, 1) := by decide +kernel
theorem dJ6_numberOfLeadingZeros_0f7a4_59 : decode cJ6_numberOfLeadingZeros_0f7a4 59 = .ok (.iushr, 1) := by decide +kernel
theorem dJ6_numberOfLeadingZeros_0f7a4_60 : decode cJ6_numberOfLeadingZeros_0f7a4 60 = .ok (.istore_n 0, 1) := by decide +kernel
theorem dJ6_numberOfLeadingZeros_0f7a4_61 : decode cJ6_numberOfLeadingZeros_0f7a4 61 = .ok (.iload_n 0, 1) := by decide +kernel
theorem dJ6_numberOfLeadingZeros_0f7a4_62 : decode cJ6_numberOfLeadingZeros_0f7a4 62 = .ok (.iconst 4, 1) := by decide +kernel
theorem dJ6_numberOfLeadingZeros_0f7a4_63 : decode cJ6_numberOfLeadingZeros_0f7a4 63 = .ok (.if_icmp .lt 10, 3) := by decide +kernel
theorem dJ6_numberOfLeadingZeros_0f7a4_66 : decode cJ6_numberOfLeadingZeros_0f7a4 66 = .ok (.iinc 1 (-2), 3) := by decide +kernel
theorem dJ6_numberOfLeadingZeros_0f7a4_69 : decode cJ6_numberOfLeadingZeros_0f7a4 69 = .ok (.iload_n 0, 1) := by decide +kernel
theorem dJ6_numberOfLeadingZeros_0f7a4_70 : decode cJ6_numberOfLeadingZeros_0f7a4 70 = .ok (.iconst 2, 1) := by decide +kernel
theorem dJ6_numberOfLeadingZeros_0f7a4_71 : decode cJ6_numberOfLeadingZeros_0f7a4 71 = .ok (.iushr, 1) := by decide +kernel
theorem dJ6_numberOfLeadingZeros_0f7a4_72 : decode cJ6_numberOfLeadingZeros_0f7a4 72 = .ok (.istore_n 0, 1) := by decide +kernel
theorem dJ6_numberOfLeadingZeros_0f7a4_73 : decode cJ6_numberOfLeadingZeros_0f7a4 73 = .ok (.iload_n 1, 1) := by decide +kernel
theorem dJ6_numberOfLeadingZeros_0f7a4_74 : decode cJ6_numberOfLeadingZeros_0f7a4 74 = .ok (.iload_n 0, 1) := by decide +kernel
theorem dJ6_numberOfLeadingZeros_0f7a4_75 : decode cJ6_numberOfLeadingZeros_0f7a4 75 = .ok (.iconst 1, 1) := by decide +kernel
theorem dJ6_numberOfLeadingZeros_0f7a4_76 : decode cJ6_numberOfLeadingZeros_0f7a4 76 = .ok (.iushr, 1) := by decide +kernel
theorem dJ6_numberOfLeadingZeros_0f7a4_77 : decode cJ6_numberOfLeadingZeros_0f7a4 77 = .ok (.isub, 1) := by decide +kernel
theorem dJ6_numberOfLeadingZeros_0f7a4_78 : decode cJ6_numberOfLeadingZeros_0f7a4 78 = .ok (.ireturn, 1) := by decide +kernel
theorem dJ9_abs_0f7a4_0 : decode cJ9_abs_0f7a4 0 = .ok (.iload_n 0, 1) := by decide +kernel
theorem dJ9_abs_0f7a4_1 : decode cJ9_abs_0f7a4 1 = .ok (.ifCond .ge 8, 3) := by decide +kernel
theorem dJ9_abs_0f7a4_4 : decode cJ9_abs_0f7a4 4 = .ok (.iload_n 0, 1) := by decide +kernel
theorem dJ9_abs_0f7a4_5 : decode cJ9_abs_0f7a4 5 = .ok (.ineg, 1) := by decide +kernel
theorem dJ9_abs_0f7a4_6 : decode cJ9_abs_0f7a4 6 = .ok (.goto 4, 3) := by decide +kernel
theorem dJ9_abs_0f7a4_9 : decode cJ9_abs_0f7a4 9 = .ok (.iload_n 0, 1) := by decide +kernel
theorem dJ9_abs_0f7a4_10 : decode cJ9_abs_0f7a4 10 = .ok (.ireturn, 1) := by decide +kernel
theorem dJ9_max_7cf53_0 : decode cJ9_max_7cf53 0 = .ok (.iload_n 0, 1) := by decide +kernel
theorem dJ9_max_7cf53_1 : decode cJ9_max_7cf53 1 = .ok (.iload_n 1, 1) := by decide +kernel
theorem dJ9_max_7cf53_2 : decode cJ9_max_7cf53 2 = .ok (.if_icmp .lt 7, 3) := by decide +kernel
theorem dJ9_max_7cf53_5 : decode cJ9_max_7cf53 5 = .ok (.iload_n 0, 1) := by decide +kernel
theorem dJ9_max_7cf53_6 : decode cJ9_max_7cf53 6 = .ok (.goto 4, 3) := by decide +kernel
theorem dJ9_max_7cf53_9 : decode cJ9_max_7cf53 9 = .ok (.iload_n 1, 1) := by decide +kernel
theorem dJ9_max_7cf53_10 : decode cJ9_max_7cf53 10 = .ok (.ireturn, 1) := by decide +kernel
theorem dJ9_min_7cf53_0 : decode cJ9_min_7cf53 0 = .ok (.iload_n 0, 1) := by decide +kernel
theorem dJ9_min_7cf53_1 : decode cJ9_min_7cf53 1 = .ok (.iload_n 1, 1) := by decide +kernel
theorem dJ9_min_7cf53_2 : decode cJ9_min_7cf53 2 = .ok (.if_icmp .gt 7, 3) := by decide +kernel
theorem dJ9_min_7cf53_5 : decode cJ9_min_7cf53 5 = .ok (.iload_n 0, 1) := by decide +kernel
theorem dJ9_min_7cf53_6 : decode cJ9_min_7cf53 6 = .ok (.goto 4, 3) := by decide +kernel
theorem dJ9_min_7cf53_9 : decode cJ9_min_7cf53 9 = .ok (.iload_n 1, 1) := by decide +kernel
theorem dJ9_min_7cf53_10 : decode cJ9_min_7cf53 10 = .ok (.ireturn, 1) := by decide +kernel
theorem dJxa1e45_init_da8c8_0 : decode cJxa1e45_init_da8c8 0 = .ok (.aload_n 0, 1) := by decide +kernel
theorem dJxa1e45_init_da8c8_1 : decode cJxa1e45_init_da8c8 1 = .ok (.invokespecial 1, 3) := by decide +kernel
theorem dJxa1e45_init_da8c8_4 : decode cJxa1e45_init_da8c8 4 = .ok (.return_, 1) := by decide +kernel
theorem dJxc12de_init_da8c8_0 : decode cJxc12de_init_da8c8 0 = .ok (.aload_n 0, 1) := by decide +kernel
theorem dJxc12de_init_da8c8_1 : decode cJxc12de_init_da8c8 1 = .ok (.invokespecial 1, 3) := by decide +kernel
theorem dJxc12de_init_da8c8_4 : decode cJxc12de_init_da8c8 4 = .ok (.aload_n 0, 1) := by decide +kernel
theorem dJxc12de_init_da8c8_5 : decode cJxc12de_init_da8c8 5 = .ok (.iconst 0, 1) := by decide +kernel
theorem dJxc12de_init_da8c8_6 : decode cJxc12de_init_da8c8 6 = .ok (.putfield 7, 3) := by decide +kernel
theorem dJxc12de_init_da8c8_9 : decode cJxc12de_init_da8c8 9 = .ok (.return_, 1) := by decide +kernel
theorem dJx4a65c_init_da8c8_0 : decode cJx4a65c_init_da8c8 0 = .ok (.aload_n 0, 1) := by decide +kernel
theorem dJx4a65c_init_da8c8_1 : decode cJx4a65c_init_da8c8 1 = .ok (.invokespecial 1, 3) := by decide +kernel
theorem dJx4a65c_init_da8c8_4 : decode cJx4a65c_init_da8c8 4 = .ok (.aload_n 0, 1) := by decide +kernel
theorem dJx4a65c_init_da8c8_5 : decode cJx4a65c_init_da8c8 5 = .ok (.getstatic 39, 3) := by decide +kernel
theorem dJx4a65c_init_da8c8_8 : decode cJx4a65c_init_da8c8 8 = .ok (.putfield 9, 3) := by decide +kernel
theorem dJx4a65c_init_da8c8_11 : decode cJx4a65c_init_da8c8 11 = .ok (.return_, 1) := by decide +kernel
theorem dJx4a65c_grow_92f84_0 : decode cJx4a65c_grow_92f84 0 = .ok (.aload_n 0, 1) := by decide +kernel
theorem dJx4a65c_grow_92f84_1 : decode cJx4a65c_grow_92f84 1 = .ok (.getfield 9, 3) := by decide +kernel
theorem dJx4a65c_grow_92f84_4 : decode cJx4a65c_grow_92f84 4 = .ok (.arraylength, 1) := by decide +kernel
theorem dJx4a65c_grow_92f84_5 : decode cJx4a65c_grow_92f84 5 = .ok (.istore_n 2, 1) := by decide +kernel
theorem dJx4a65c_grow_92f84_6 : decode cJx4a65c_grow_92f84 6 = .ok (.iload_n 2, 1) := by decide +kernel
theorem dJx4a65c_grow_92f84_7 : decode cJx4a65c_grow_92f84 7 = .ok (.ifCond .gt 13, 3) := by decide +kernel
theorem dJx4a65c_grow_92f84_10 : decode cJx4a65c_grow_92f84 10 = .ok (.aload_n 0, 1) := by decide +kernel
theorem dJx4a65c_grow_92f84_11 : decode cJx4a65c_grow_92f84 11 = .ok (.getfield 9, 3) := by decide +kernel
theorem dJx4a65c_grow_92f84_14 : decode cJx4a65c_grow_92f84 14 = .ok (.getstatic 39, 3) := by decide +kernel
theorem dJx4a65c_grow_92f84_17 : decode cJx4a65c_grow_92f84 17 = .ok (.if_acmp .eq 28, 3) := by decide +kernel
theorem dJx4a65c_grow_92f84_20 : decode cJx4a65c_grow_92f84 20 = .ok (.iload_n 2, 1) := by decide +kernel
theorem dJx4a65c_grow_92f84_21 : decode cJx4a65c_grow_92f84 21 = .ok (.iload_n 1, 1) := by decide +kernel
theorem dJx4a65c_grow_92f84_22 : decode cJx4a65c_grow_92f84 22 = .ok (.iload_n 2, 1) := by decide +kernel
theorem dJx4a65c_grow_92f84_23 : decode cJx4a65c_grow_92f84 23 = .ok (.isub, 1) := by decide +kernel
theorem dJx4a65c_grow_92f84_24 : decode cJx4a65c_grow_92f84 24 = .ok (.iload_n 2, 1) := by decide +kernel
theorem dJx4a65c_grow_92f84_25 : decode cJx4a65c_grow_92f84 25 = .ok (.iconst 1, 1) := by decide +kernel
theorem dJx4a65c_grow_92f84_26 : decode cJx4a65c_grow_92f84 26 = .ok (.ishr, 1) := by decide +kernel
theorem dJx4a65c_grow_92f84_27 : decode cJx4a65c_grow_92f84 27 = .ok (.invokestatic 73, 3) := by decide +kernel
theorem dJx4a65c_grow_92f84_30 : decode cJx4a65c_grow_92f84 30 = .ok (.istore_n 3, 1) := by decide +kernel
theorem dJx4a65c_grow_92f84_31 : decode cJx4a65c_grow_92f84 31 = .ok (.aload_n 0, 1) := by decide +kernel
theorem dJx4a65c_grow_92f84_32 : decode cJx4a65c_grow_92f84 32 = .ok (.aload_n 0, 1) := by decide +kernel
theorem dJx4a65c_grow_92f84_33 : decode cJx4a65c_grow_92f84 33 = .ok (.getfield 9, 3) := by decide +kernel
theorem dJx4a65c_grow_92f84_36 : decode cJx4a65c_grow_92f84 36 = .ok (.iload_n 3, 1) := by decide +kernel
theorem dJx4a65c_grow_92f84_37 : decode cJx4a65c_grow_92f84 37 = .ok (.invokestatic 66, 3) := by decide +kernel
theorem dJx4a65c_grow_92f84_40 : decode cJx4a65c_grow_92f84 40 = .ok (.dup_x1, 1) := by decide +kernel
theorem dJx4a65c_grow_92f84_41 : decode cJx4a65c_grow_92f84 41 = .ok (.putfield 9, 3) := by decide +kernel
theorem dJx4a65c_grow_92f84_44 : decode cJx4a65c_grow_92f84 44 = .ok (.areturn, 1) := by decide +kernel
theorem dJx4a65c_grow_92f84_45 : decode cJx4a65c_grow_92f84 45 = .ok (.aload_n 0, 1) := by decide +kernel
theorem dJx4a65c_grow_92f84_46 : decode cJx4a65c_grow_92f84 46 = .ok (.bipush 10, 2) := by decide +kernel
theorem dJx4a65c_grow_92f84_48 : decode cJx4a65c_grow_92f84 48 = .ok (.iload_n 1, 1) := by decide +kernel
theorem dJx4a65c_grow_92f84_49 : decode cJx4a65c_grow_92f84 49 = .ok (.invokestatic 79, 3) := by decide +kernel
theorem dJx4a65c_grow_92f84_52 : decode cJx4a65c_grow_92f84 52 = .ok (.anewarray 7, 3) := by decide +kernel
theorem dJx4a65c_grow_92f84_55 : decode cJx4a65c_grow_92f84 55 = .ok (.dup_x1, 1) := by decide +kernel
theorem dJx4a65c_grow_92f84_56 : decode cJx4a65c_grow_92f84 56 = .ok (.putfield 9, 3) := by decide +kernel
theorem dJx4a65c_grow_92f84_59 : decode cJx4a65c_grow_92f84 59 = .ok (.areturn, 1) := by decide +kernel
theorem dJx4a65c_grow_d5877_0 : decode cJx4a65c_grow_d5877 0 = .ok (.aload_n 0, 1) := by decide +kernel
theorem dJx4a65c_grow_d5877_1 : decode cJx4a65c_grow_d5877 1 = .ok (.aload_n 0, 1) := by decide +kernel
theorem dJx4a65c_grow_d5877_2 : decode cJx4a65c_grow_d5877 2 = .ok (.getfield 48, 3) := by decide +kernel
theorem dJx4a65c_grow_d5877_5 : decode cJx4a65c_grow_d5877 5 = .ok (.iconst 1, 1) := by decide +kernel
theorem dJx4a65c_grow_d5877_6 : decode cJx4a65c_grow_d5877 6 = .ok (.iadd, 1) := by decide +kernel
theorem dJx4a65c_grow_d5877_7 : decode cJx4a65c_grow_d5877 7 = .ok (.invokevirtual 69, 3) := by decide +kernel
theorem dJx4a65c_grow_d5877_10 : decode cJx4a65c_grow_d5877 10 = .ok (.areturn, 1) := by decide +kernel
theorem dJx4a65c_size_8abf5_0 : decode cJx4a65c_size_8abf5 0 = .ok (.aload_n 0, 1) := by decide +kernel
theorem dJx4a65c_size_8abf5_1 : decode cJx4a65c_size_8abf5 1 = .ok (.getfield 48, 3) := by decide +kernel
theorem dJx4a65c_size_8abf5_4 : decode cJx4a65c_size_8abf5 4 = .ok (.ireturn, 1) := by decide +kernel
theorem dJx4a65c_isEmpty_aae02_0 : decode cJx4a65c_isEmpty_aae02 0 = .ok (.aload_n 0, 1) := by decide +kernel
theorem dJx4a65c_isEmpty_aae02_1 : decode cJx4a65c_isEmpty_aae02 1 = .ok (.getfield 48, 3) := by decide +kernel
theorem dJx4a65c_isEmpty_aae02_4 : decode cJx4a65c_isEmpty_aae02 4 = .ok (.ifCond .ne 7, 3) := by decide +kernel
theorem dJx4a65c_isEmpty_aae02_7 : decode cJx4a65c_isEmpty_aae02 7 = .ok (.iconst 1, 1) := by decide +kernel
theorem dJx4a65c_isEmpty_aae02_8 : decode cJx4a65c_isEmpty_aae02 8 = .ok (.goto 4, 3) := by decide +kernel
theorem dJx4a65c_isEmpty_aae02_11 : decode cJx4a65c_isEmpty_aae02 11 = .ok (.iconst 0, 1) := by decide +kernel
theorem dJx4a65c_isEmpty_aae02_12 : decode cJx4a65c_isEmpty_aae02 12 = .ok (.ireturn, 1) := by decide +kernel
theorem dJx4a65c_elementData_915e3_0 : decode cJx4a65c_elementData_915e3 0 = .ok (.aload_n 0, 1) := by decide +kernel
theorem dJx4a65c_elementData_915e3_1 : decode cJx4a65c_elementData_915e3 1 = .ok (.getfield 9, 3) := by decide +kernel
theorem dJx4a65c_elementData_915e3_4 : decode cJx4a65c_elementData_915e3 4 = .ok (.iload_n 1, 1) := by decide +kernel
theorem dJx4a65c_elementData_915e3_5 : decode cJx4a65c_elementData_915e3 5 = .ok (.aaload, 1) := by decide +kernel
theorem dJx4a65c_elementData_915e3_6 : decode cJx4a65c_elementData_915e3 6 = .ok (.areturn, 1) := by decide +kernel
theorem dJx4a65c_get_915e3_0 : decode cJx4a65c_get_915e3 0 = .ok (.iload_n 1, 1) := by decide +kernel
theorem dJx4a65c_get_915e3_1 : decode cJx4a65c_get_915e3 1 = .ok (.aload_n 0, 1) := by decide +kernel
theorem dJx4a65c_get_915e3_2 : decode cJx4a65c_get_915e3 2 = .ok (.getfield 48, 3) := by decide +kernel
theorem dJx4a65c_get_915e3_5 : decode cJx4a65c_get_915e3 5 = .ok (.invokestatic 118, 3) := by decide +kernel
theorem dJx4a65c_get_915e3_8 : decode cJx4a65c_get_915e3 8 = .ok (.pop, 1) := by decide +kernel
theorem dJx4a65c_get_915e3_9 : decode cJx4a65c_get_915e3 9 = .ok (.aload_n 0, 1) := by decide +kernel
theorem dJx4a65c_get_915e3_10 : decode cJx4a65c_get_915e3 10 = .ok (.iload_n 1, 1) := by decide +kernel
theorem dJx4a65c_get_915e3_11 : decode cJx4a65c_get_915e3 11 = .ok (.invokevirtual 123, 3) := by decide +kernel
theorem dJx4a65c_get_915e3_14 : decode cJx4a65c_get_915e3 14 = .ok (.areturn, 1) := by decide +kernel
theorem dJx4a65c_add_72be8_0 : decode cJx4a65c_add_72be8 0 = .ok (.iload_n 3, 1) := by decide +kernel
theorem dJx4a65c_add_72be8_1 : decode cJx4a65c_add_72be8 1 = .ok (.aload_n 2, 1) := by decide +kernel
theorem dJx4a65c_add_72be8_2 : decode cJx4a65c_add_72be8 2 = .ok (.arraylength, 1) := by decide +kernel
theorem dJx4a65c_add_72be8_3 : decode cJx4a65c_add_72be8 3 = .ok (.if_icmp .ne 8, 3) := by decide +kernel
theorem dJx4a65c_add_72be8_6 : decode cJx4a65c_add_72be8 6 = .ok (.aload_n 0, 1) := by decide +kernel
theorem dJx4a65c_add_72be8_7 : decode cJx4a65c_add_72be8 7 = .ok (.invokevirtual 129, 3) := by decide +kernel
theorem dJx4a65c_add_72be8_10 : decode cJx4a65c_add_72be8 10 = .ok (.astore_n 2, 1) := by decide +kernel
theorem dJx4a65c_add_72be8_11 : decode cJx4a65c_add_72be8 11 = .ok (.aload_n 2, 1) := by decide +kernel
theorem dJx4a65c_add_72be8_12 : decode cJx4a65c_add_72be8 12 = .ok (.iload_n 3, 1) := by decide +kernel
theorem dJx4a65c_add_72be8_13 : decode cJx4a65c_add_72be8 13 = .ok (.aload_n 1, 1) := by decide +kernel
theorem dJx4a65c_add_72be8_14 : decode cJx4a65c_add_72be8 14 = .ok (.aastore, 1) := by decide +kernel
theorem dJx4a65c_add_72be8_15 : decode cJx4a65c_add_72be8 15 = .ok (.aload_n 0, 1) := by decide +kernel
theorem dJx4a65c_add_72be8_16 : decode cJx4a65c_add_72be8 16 = .ok (.iload_n 3, 1) := by decide +kernel
theorem dJx4a65c_add_72be8_17 : decode cJx4a65c_add_72be8 17 = .ok (.iconst 1, 1) := by decide +kernel
theorem dJx4a65c_add_72be8_18 : decode cJx4a65c_add_72be8 18 = .ok (.iadd, 1) := by decide +kernel
theorem dJx4a65c_add_72be8_19 : decode cJx4a65c_add_72be8 19 = .ok (.putfield 48, 3) := by decide +kernel
theorem dJx4a65c_add_72be8_22 : decode cJx4a65c_add_72be8 22 = .ok (.return_, 1) := by decide +kernel
theorem dJx4a65c_add_9ea2d_0 : decode cJx4a65c_add_9ea2d 0 = .ok (.aload_n 0, 1) := by decide +kernel
theorem dJx4a65c_add_9ea2d_1 : decode cJx4a65c_add_9ea2d 1 = .ok (.dup, 1) := by decide +kernel
theorem dJx4a65c_add_9ea2d_2 : decode cJx4a65c_add_9ea2d 2 = .ok (.getfield 63, 3) := by decide +kernel
theorem dJx4a65c_add_9ea2d_5 : decode cJx4a65c_add_9ea2d 5 = .ok (.iconst 1, 1) := by decide +kernel
theorem dJx4a65c_add_9ea2d_6 : decode cJx4a65c_add_9ea2d 6 = .ok (.iadd, 1) := by decide +kernel
theorem dJx4a65c_add_9ea2d_7 : decode cJx4a65c_add_9ea2d 7 = .ok (.putfield 63, 3) := by decide +kernel
theorem dJx4a65c_add_9ea2d_10 : decode cJx4a65c_add_9ea2d 10 = .ok (.aload_n 0, 1) := by decide +kernel
theorem dJx4a65c_add_9ea2d_11 : decode cJx4a65c_add_9ea2d 11 = .ok (.aload_n 1, 1) := by decide +kernel
theorem dJx4a65c_add_9ea2d_12 : decode cJx4a65c_add_9ea2d 12 = .ok (.aload_n 0, 1) := by decide +kernel
theorem dJx4a65c_add_9ea2d_13 : decode cJx4a65c_add_9ea2d 13 = .ok (.getfield 9, 3) := by decide +kernel
theorem dJx4a65c_add_9ea2d_16 : decode cJx4a65c_add_9ea2d 16 = .ok (.aload_n 0, 1) := by decide +kernel
theorem dJx4a65c_add_9ea2d_17 : decode cJx4a65c_add_9ea2d 17 = .ok (.getfield 48, 3) := by decide +kernel
theorem dJx4a65c_add_9ea2d_20 : decode cJx4a65c_add_9ea2d 20 = .ok (.invokevirtual 131, 3) := by decide +kernel
theorem dJx4a65c_add_9ea2d_23 : decode cJx4a65c_add_9ea2d 23 = .ok (.iconst 1, 1) := by decide +kernel
theorem dJx4a65c_add_9ea2d_24 : decode cJx4a65c_add_9ea2d 24 = .ok (.ireturn, 1) := by decide +kernel
theorem dJ7_copyOf_1904c_0 : decode cJ7_copyOf_1904c 0 = .ok (.aload_n 0, 1) := by decide +kernel
theorem dJ7_copyOf_1904c_1 : decode cJ7_copyOf_1904c 1 = .ok (.iload_n 1, 1) := by decide +kernel
theorem dJ7_copyOf_1904c_2 : decode cJ7_copyOf_1904c 2 = .ok (.aload_n 0, 1) := by decide +kernel
theorem dJ7_copyOf_1904c_3 : decode cJ7_copyOf_1904c 3 = .ok (.invokevirtual 86, 3) := by decide +kernel
theorem dJ7_copyOf_1904c_6 : decode cJ7_copyOf_1904c 6 = .ok (.invokestatic 300, 3) := by decide +kernel
theorem dJ7_copyOf_1904c_9 : decode cJ7_copyOf_1904c 9 = .ok (.areturn, 1) := by decide +kernel
theorem dJ7_copyOf_6403c_0 : decode cJ7_copyOf_6403c 0 = .ok (.aload_n 2, 1) := by decide +kernel
theorem dJ7_copyOf_6403c_1 : decode cJ7_copyOf_6403c 1 = .ok (.ldc 110, 2) := by decide +kernel
theorem dJ7_copyOf_6403c_3 : decode cJ7_copyOf_6403c 3 = .ok (.if_acmp .ne 10, 3) := by decide +kernel
theorem dJ7_copyOf_6403c_6 : decode cJ7_copyOf_6403c 6 = .ok (.iload_n 1, 1) := by decide +kernel
theorem dJ7_copyOf_6403c_7 : decode cJ7_copyOf_6403c 7 = .ok (.anewarray 2, 3) := by decide +kernel
theorem dJ7_copyOf_6403c_10 : decode cJ7_copyOf_6403c 10 = .ok (.goto 14, 3) := by decide +kernel
theorem dJ7_copyOf_6403c_13 : decode cJ7_copyOf_6403c 13 = .ok (.aload_n 2, 1) := by decide +kernel
theorem dJ7_copyOf_6403c_14 : decode cJ7_copyOf_6403c 14 = .ok (.invokevirtual 90, 3) := by decide +kernel
theorem dJ7_copyOf_6403c_17 : decode cJ7_copyOf_6403c 17 = .ok (.iload_n 1, 1) := by decide +kernel
theorem dJ7_copyOf_6403c_18 : decode cJ7_copyOf_6403c 18 = .ok (.invokestatic 95, 3) := by decide +kernel
theorem dJ7_copyOf_6403c_21 : decode cJ7_copyOf_6403c 21 = .ok (.checkcast 110, 3) := by decide +kernel
theorem dJ7_copyOf_6403c_24 : decode cJ7_copyOf_6403c 24 = .ok (.astore_n 3, 1) := by decide +kernel
theorem dJ7_copyOf_6403c_25 : decode cJ7_copyOf_6403c 25 = .ok (.aload_n 0, 1) := by decide +kernel
theorem dJ7_copyOf_6403c_26 : decode cJ7_copyOf_6403c 26 = .ok (.iconst 0, 1) := by decide +kernel
theorem dJ7_copyOf_6403c_27 : decode cJ7_copyOf_6403c 27 = .ok (.aload_n 3, 1) := by decide +kernel
theorem dJ7_copyOf_6403c_28 : decode cJ7_copyOf_6403c 28 = .ok (.iconst 0, 1) := by decide +kernel
theorem dJ7_copyOf_6403c_29 : decode cJ7_copyOf_6403c 29 = .ok (.aload_n 0, 1) := by decide +kernel
theorem dJ7_copyOf_6403c_30 : decode cJ7_copyOf_6403c 30 = .ok (.arraylength, 1) := by decide +kernel
theorem dJ7_copyOf_6403c_31 : decode cJ7_copyOf_6403c 31 = .ok (.iload_n 1, 1) := by decide +kernel
theorem dJ7_copyOf_6403c_32 : decode cJ7_copyOf_6403c 32 = .ok (.invokestatic 304, 3) := by decide +kernel
theorem dJ7_copyOf_6403c_35 : decode cJ7_copyOf_6403c 35 = .ok (.invokestatic 150, 3) := by decide +kernel
theorem dJ7_copyOf_6403c_38 : decode cJ7_copyOf_6403c 38 = .ok (.aload_n 3, 1) := by decide +kernel
theorem dJ7_copyOf_6403c_39 : decode cJ7_copyOf_6403c 39 = .ok (.areturn, 1) := by decide +kernel
theorem dJ15_checkIndex_7cf53_0 : decode cJ15_checkIndex_7cf53 0 = .ok (.iload_n 0, 1) := by decide +kernel
theorem dJ15_checkIndex_7cf53_1 : decode cJ15_checkIndex_7cf53 1 = .ok (.iload_n 1, 1) := by decide +kernel
theorem dJ15_checkIndex_7cf53_2 : decode cJ15_checkIndex_7cf53 2 = .ok (.aconst_null, 1) := by decide +kernel
theorem dJ15_checkIndex_7cf53_3 : decode cJ15_checkIndex_7cf53 3 = .ok (.invokestatic 105, 3) := by decide +kernel
theorem dJ15_checkIndex_7cf53_6 : decode cJ15_checkIndex_7cf53 6 = .ok (.ireturn, 1) := by decide +kernel
theorem dJ8_newLength_cabcc_0 : decode cJ8_newLength_cabcc 0 = .ok (.iload_n 0, 1) := by decide +kernel
theorem dJ8_newLength_cabcc_1 : decode cJ8_newLength_cabcc 1 = .ok (.iload_n 1, 1) := by decide +kernel
theorem dJ8_newLength_cabcc_2 : decode cJ8_newLength_cabcc 2 = .ok (.iload_n 2, 1) := by decide +kernel
theorem dJ8_newLength_cabcc_3 : decode cJ8_newLength_cabcc 3 = .ok (.invokestatic 194, 3) := by decide +kernel
theorem dJ8_newLength_cabcc_6 : decode cJ8_newLength_cabcc 6 = .ok (.iadd, 1) := by decide +kernel
theorem dJ8_newLength_cabcc_7 : decode cJ8_newLength_cabcc 7 = .ok (.istore_n 3, 1) := by decide +kernel
theorem dJ8_newLength_cabcc_8 : decode cJ8_newLength_cabcc 8 = .ok (.iconst 0, 1) := by decide +kernel
theorem dJ8_newLength_cabcc_9 : decode cJ8_newLength_cabcc 9 = .ok (.iload_n 3, 1) := by decide +kernel
theorem dJ8_newLength_cabcc_10 : decode cJ8_newLength_cabcc 10 = .ok (.if_icmp .ge 11, 3) := by decide +kernel
theorem dJ8_newLength_cabcc_13 : decode cJ8_newLength_cabcc 13 = .ok (.iload_n 3, 1) := by decide +kernel
theorem dJ8_newLength_cabcc_14 : decode cJ8_newLength_cabcc 14 = .ok (.ldc 200, 2) := by decide +kernel
theorem dJ8_newLength_cabcc_16 : decode cJ8_newLength_cabcc 16 = .ok (.if_icmp .gt 5, 3) := by decide +kernel
theorem dJ8_newLength_cabcc_19 : decode cJ8_newLength_cabcc 19 = .ok (.iload_n 3, 1) := by decide +kernel
theorem dJ8_newLength_cabcc_20 : decode cJ8_newLength_cabcc 20 = .ok (.ireturn, 1) := by decide +kernel
theorem dJ8_newLength_cabcc_21 : decode cJ8_newLength_cabcc 21 = .ok (.iload_n 0, 1) := by decide +kernel
theorem dJ8_newLength_cabcc_22 : decode cJ8_newLength_cabcc 22 = .ok (.iload_n 1, 1) := by decide +kernel
theorem dJ8_newLength_cabcc_23 : decode cJ8_newLength_cabcc 23 = .ok (.invokestatic 201, 3) := by decide +kernel
theorem dJ8_newLength_cabcc_26 : decode cJ8_newLength_cabcc 26 = .ok (.ireturn, 1) := by decide +kernel
theorem dJ8_hugeLength_7cf53_0 : decode cJ8_hugeLength_7cf53 0 = .ok (.iload_n 0, 1) := by decide +kernel
theorem dJ8_hugeLength_7cf53_1 : decode cJ8_hugeLength_7cf53 1 = .ok (.iload_n 1, 1) := by decide +kernel
theorem dJ8_hugeLength_7cf53_2 : decode cJ8_hugeLength_7cf53 2 = .ok (.iadd, 1) := by decide +kernel
theorem dJ8_hugeLength_7cf53_3 : decode cJ8_hugeLength_7cf53 3 = .ok (.istore_n 2, 1) := by decide +kernel
theorem dJ8_hugeLength_7cf53_4 : decode cJ8_hugeLength_7cf53 4 = .ok (.iload_n 2, 1) := by decide +kernel
theorem dJ8_hugeLength_7cf53_5 : decode cJ8_hugeLength_7cf53 5 = .ok (.ifCond .ge 44, 3) := by decide +kernel
theorem dJ8_hugeLength_7cf53_8 : decode cJ8_hugeLength_7cf53 8 = .ok (.new 204, 3) := by decide +kernel
theorem dJ8_hugeLength_7cf53_11 : decode cJ8_hugeLength_7cf53 11 = .ok (.dup, 1) := by decide +kernel
theorem dJ8_hugeLength_7cf53_12 : decode cJ8_hugeLength_7cf53 12 = .ok (.new 89, 3) := by decide +kernel
theorem dJ8_hugeLength_7cf53_15 : decode cJ8_hugeLength_7cf53 15 = .ok (.dup, 1) := by decide +kernel
theorem dJ8_hugeLength_7cf53_16 : decode cJ8_hugeLength_7cf53 16 = .ok (.invokespecial 91, 3) := by decide +kernel
theorem dJ8_hugeLength_7cf53_19 : decode cJ8_hugeLength_7cf53 19 = .ok (.ldc 206, 2) := by decide +kernel
theorem dJ8_hugeLength_7cf53_21 : decode cJ8_hugeLength_7cf53 21 = .ok (.invokevirtual 94, 3) := by decide +kernel
theorem dJ8_hugeLength_7cf53_24 : decode cJ8_hugeLength_7cf53 24 = .ok (.iload_n 0, 1) := by decide +kernel
theorem dJ8_hugeLength_7cf53_25 : decode cJ8_hugeLength_7cf53 25 = .ok (.invokevirtual 98, 3) := by decide +kernel
theorem dJ8_hugeLength_7cf53_28 : decode cJ8_hugeLength_7cf53 28 = .ok (.ldc 208, 2) := by decide +kernel
theorem dJ8_hugeLength_7cf53_30 : decode cJ8_hugeLength_7cf53 30 = .ok (.invokevirtual 94, 3) := by decide +kernel
theorem dJ8_hugeLength_7cf53_33 : decode cJ8_hugeLength_7cf53 33 = .ok (.iload_n 1, 1) := by decide +kernel
theorem dJ8_hugeLength_7cf53_34 : decode cJ8_hugeLength_7cf53 34 = .ok (.invokevirtual 98, 3) := by decide +kernel
theorem dJ8_hugeLength_7cf53_37 : decode cJ8_hugeLength_7cf53 37 = .ok (.ldc 210, 2) := by decide +kernel
theorem dJ8_hugeLength_7cf53_39 : decode cJ8_hugeLength_7cf53 39 = .ok (.invokevirtual 94, 3) := by decide +kernel
theorem dJ8_hugeLength_7cf53_42 : decode cJ8_hugeLength_7cf53 42 = .ok (.invokevirtual 101, 3) := by decide +kernel
theorem dJ8_hugeLength_7cf53_45 : decode cJ8_hugeLength_7cf53 45 = .ok (.invokespecial 212, 3) := by decide +kernel
theorem dJ8_hugeLength_7cf53_48 : decode cJ8_hugeLength_7cf53 48 = .ok (.athrow, 1) := by decide +kernel
theorem dJ8_hugeLength_7cf53_49 : decode cJ8_hugeLength_7cf53 49 = .ok (.iload_n 2, 1) := by decide +kernel
theorem dJ8_hugeLength_7cf53_50 : decode cJ8_hugeLength_7cf53 50 = .ok (.ldc 200, 2) := by decide +kernel
theorem dJ8_hugeLength_7cf53_52 : decode cJ8_hugeLength_7cf53 52 = .ok (.if_icmp .gt 6, 3) := by decide +kernel
theorem dJ8_hugeLength_7cf53_55 : decode cJ8_hugeLength_7cf53 55 = .ok (.ldc 200, 2) := by decide +kernel
theorem dJ8_hugeLength_7cf53_57 : decode cJ8_hugeLength_7cf53 57 = .ok (.ireturn, 1) := by decide +kernel
theorem dJ8_hugeLength_7cf53_58 : decode cJ8_hugeLength_7cf53 58 = .ok (.iload_n 2, 1) := by decide +kernel
theorem dJ8_hugeLength_7cf53_59 : decode cJ8_hugeLength_7cf53 59 = .ok (.ireturn, 1) := by decide +kernel
theorem dJ3_checkIndex_8e157_0 : decode cJ3_checkIndex_8e157 0 = .ok (.iload_n 0, 1) := by decide +kernel
theorem dJ3_checkIndex_8e157_1 : decode cJ3_checkIndex_8e157 1 = .ok (.ifCond .lt 8, 3) := by decide +kernel
theorem dJ3_checkIndex_8e157_4 : decode cJ3_checkIndex_8e157 4 = .ok (.iload_n 0, 1) := by decide +kernel
theorem dJ3_checkIndex_8e157_5 : decode cJ3_checkIndex_8e157 5 = .ok (.iload_n 1, 1) := by decide +kernel
theorem dJ3_checkIndex_8e157_6 : decode cJ3_checkIndex_8e157 6 = .ok (.if_icmp .lt 10, 3) := by decide +kernel
theorem dJ3_checkIndex_8e157_9 : decode cJ3_checkIndex_8e157 9 = .ok (.aload_n 2, 1) := by decide +kernel
theorem dJ3_checkIndex_8e157_10 : decode cJ3_checkIndex_8e157 10 = .ok (.iload_n 0, 1) := by decide +kernel
theorem dJ3_checkIndex_8e157_11 : decode cJ3_checkIndex_8e157 11 = .ok (.iload_n 1, 1) := by decide +kernel
theorem dJ3_checkIndex_8e157_12 : decode cJ3_checkIndex_8e157 12 = .ok (.invokestatic 95, 3) := by decide +kernel
theorem dJ3_checkIndex_8e157_15 : decode cJ3_checkIndex_8e157 15 = .ok (.athrow, 1) := by decide +kernel
theorem dJ3_checkIndex_8e157_16 : decode cJ3_checkIndex_8e157 16 = .ok (.iload_n 0, 1) := by decide +kernel
theorem dJ3_checkIndex_8e157_17 : decode cJ3_checkIndex_8e157 17 = .ok (.ireturn, 1) := by decide +kernel
theorem dL_low_0 : decode cL_low 0 = .ok (.iload_n 0, 1) := by decide +kernel
theorem dL_low_1 : decode cL_low 1 = .ok (.ldc 7, 2) := by decide +kernel
theorem dL_low_3 : decode cL_low 3 = .ok (.iand, 1) := by decide +kernel
theorem dL_low_4 : decode cL_low 4 = .ok (.iload_n 1, 1) := by decide +kernel
theorem dL_low_5 : decode cL_low 5 = .ok (.irem, 1) := by decide +kernel
theorem dL_low_6 : decode cL_low 6 = .ok (.ireturn, 1) := by decide +kernel
theorem dL_cell_0 : decode cL_cell 0 = .ok (.iload_n 1, 1) := by decide +kernel
theorem dL_cell_1 : decode cL_cell 1 = .ok (.aload_n 0, 1) := by decide +kernel
theorem dL_cell_2 : decode cL_cell 2 = .ok (.arraylength, 1) := by decide +kernel
theorem dL_cell_3 : decode cL_cell 3 = .ok (.if_icmp .ge 9, 3) := by decide +kernel
theorem dL_cell_6 : decode cL_cell 6 = .ok (.aload_n 0, 1) := by decide +kernel
theorem dL_cell_7 : decode cL_cell 7 = .ok (.iload_n 1, 1) := by decide +kernel
theorem dL_cell_8 : decode cL_cell 8 = .ok (.iaload, 1) := by decide +kernel
theorem dL_cell_9 : decode cL_cell 9 = .ok (.goto 11, 3) := by decide +kernel
theorem dL_cell_12 : decode cL_cell 12 = .ok (.ldc 8, 2) := by decide +kernel
theorem dL_cell_14 : decode cL_cell 14 = .ok (.iload_n 1, 1) := by decide +kernel
theorem dL_cell_15 : decode cL_cell 15 = .ok (.imul, 1) := by decide +kernel
theorem dL_cell_16 : decode cL_cell 16 = .ok (.sipush 977, 3) := by decide +kernel
theorem dL_cell_19 : decode cL_cell 19 = .ok (.iadd, 1) := by decide +kernel
theorem dL_cell_20 : decode cL_cell 20 = .ok (.ireturn, 1) := by decide +kernel
theorem dL_law_0 : decode cL_law 0 = .ok (.new 9, 3) := by decide +kernel
theorem dL_law_3 : decode cL_law 3 = .ok (.dup, 1) := by decide +kernel
theorem dL_law_4 : decode cL_law 4 = .ok (.invokespecial 11, 3) := by decide +kernel
theorem dL_law_7 : decode cL_law 7 = .ok (.astore_n 1, 1) := by decide +kernel
theorem dL_law_8 : decode cL_law 8 = .ok (.aload_n 0, 1) := by decide +kernel
theorem dL_law_9 : decode cL_law 9 = .ok (.iconst 0, 1) := by decide +kernel
theorem dL_law_10 : decode cL_law 10 = .ok (.invokestatic 12, 3) := by decide +kernel
theorem dL_law_13 : decode cL_law 13 = .ok (.bipush 8, 2) := by decide +kernel
theorem dL_law_15 : decode cL_law 15 = .ok (.invokestatic 18, 3) := by decide +kernel
theorem dL_law_18 : decode cL_law 18 = .ok (.istore_n 2, 1) := by decide +kernel
theorem dL_law_19 : decode cL_law 19 = .ok (.iconst 2, 1) := by decide +kernel
theorem dL_law_20 : decode cL_law 20 = .ok (.aload_n 0, 1) := by decide +kernel
theorem dL_law_21 : decode cL_law 21 = .ok (.iconst 1, 1) := by decide +kernel
theorem dL_law_22 : decode cL_law 22 = .ok (.invokestatic 12, 3) := by decide +kernel
theorem dL_law_25 : decode cL_law 25 = .ok (.bipush 7, 2) := by decide +kernel
theorem dL_law_27 : decode cL_law 27 = .ok (.invokestatic 18, 3) := by decide +kernel
theorem dL_law_30 : decode cL_law 30 = .ok (.iadd, 1) := by decide +kernel
theorem dL_law_31 : decode cL_law 31 = .ok (.istore_n 3, 1) := by decide +kernel
theorem dL_law_32 : decode cL_law 32 = .ok (.aload_n 1, 1) := by decide +kernel
theorem dL_law_33 : decode cL_law 33 = .ok (.iconst 1, 1) := by decide +kernel
theorem dL_law_34 : decode cL_law 34 = .ok (.aload_n 0, 1) := by decide +kernel
theorem dL_law_35 : decode cL_law 35 = .ok (.iconst 2, 1) := by decide +kernel
theorem dL_law_36 : decode cL_law 36 = .ok (.invokestatic 12, 3) := by decide +kernel
theorem dL_law_39 : decode cL_law 39 = .ok (.sipush 300, 3) := by decide +kernel
theorem dL_law_42 : decode cL_law 42 = .ok (.invokestatic 18, 3) := by decide +kernel
theorem dL_law_45 : decode cL_law 45 = .ok (.iadd, 1) := by decide +kernel
theorem dL_law_46 : decode cL_law 46 = .ok (.iload_n 2, 1) := by decide +kernel
theorem dL_law_47 : decode cL_law 47 = .ok (.invokevirtual 22, 3) := by decide +kernel
theorem dL_law_50 : decode cL_law 50 = .ok (.iconst 1, 1) := by decide +kernel
theorem dL_law_51 : decode cL_law 51 = .ok (.if_icmp .ne 21, 3) := by decide +kernel
theorem dL_law_54 : decode cL_law 54 = .ok (.aload_n 1, 1) := by decide +kernel
theorem dL_law_55 : decode cL_law 55 = .ok (.aload_n 0, 1) := by decide +kernel
theorem dL_law_56 : decode cL_law 56 = .ok (.iconst 3, 1) := by decide +kernel
theorem dL_law_57 : decode cL_law 57 = .ok (.invokestatic 12, 3) := by decide +kernel
theorem dL_law_60 : decode cL_law 60 = .ok (.sipush 144, 3) := by decide +kernel
theorem dL_law_63 : decode cL_law 63 = .ok (.invokestatic 18, 3) := by decide +kernel
theorem dL_law_66 : decode cL_law 66 = .ok (.invokevirtual 25, 3) := by decide +kernel
theorem dL_law_69 : decode cL_law 69 = .ok (.ifCond .eq 5, 3) := by decide +kernel
theorem dL_law_72 : decode cL_law 72 = .ok (.iconst 0, 1) := by decide +kernel
theorem dL_law_73 : decode cL_law 73 = .ok (.ireturn, 1) := by decide +kernel
theorem dL_law_74 : decode cL_law 74 = .ok (.bipush 9, 2) := by decide +kernel
theorem dL_law_76 : decode cL_law 76 = .ok (.newarray .int, 2) := by decide +kernel
theorem dL_law_78 : decode cL_law 78 = .ok (.astore 4, 2) := by decide +kernel
theorem dL_law_80 : decode cL_law 80 = .ok (.bipush 9, 2) := by decide +kernel
theorem dL_law_82 : decode cL_law 82 = .ok (.newarray .int, 2) := by decide +kernel
theorem dL_law_84 : decode cL_law 84 = .ok (.astore 5, 2) := by decide +kernel
theorem dL_law_86 : decode cL_law 86 = .ok (.aload_n 0, 1) := by decide +kernel
theorem dL_law_87 : decode cL_law 87 = .ok (.iconst 4, 1) := by decide +kernel
theorem dL_law_88 : decode cL_law 88 = .ok (.invokestatic 12, 3) := by decide +kernel
theorem dL_law_91 : decode cL_law 91 = .ok (.sipush 144, 3) := by decide +kernel
theorem dL_law_94 : decode cL_law 94 = .ok (.invokestatic 18, 3) := by decide +kernel
theorem dL_law_97 : decode cL_law 97 = .ok (.istore 6, 2) := by decide +kernel
theorem dL_law_99 : decode cL_law 99 = .ok (.bipush 10, 2) := by decide +kernel
theorem dL_law_101 : decode cL_law 101 = .ok (.aload_n 0, 1) := by decide +kernel
theorem dL_law_102 : decode cL_law 102 = .ok (.iconst 5, 1) := by decide +kernel
theorem dL_law_103 : decode cL_law 103 = .ok (.invokestatic 12, 3) := by decide +kernel
theorem dL_law_106 : decode cL_law 106 = .ok (.bipush 50, 2) := by decide +kernel
theorem dL_law_108 : decode cL_law 108 = .ok (.invokestatic 18, 3) := by decide +kernel
theorem dL_law_111 : decode cL_law 111 = .ok (.iadd, 1) := by decide +kernel
theorem dL_law_112 : decode cL_law 112 = .ok (.istore 7, 2) := by decide +kernel
theorem dL_law_114 : decode cL_law 114 = .ok (.iconst 0, 1) := by decide +kernel
theorem dL_law_115 : decode cL_law 115 = .ok (.istore 8, 2) := by decide +kernel
theorem dL_law_117 : decode cL_law 117 = .ok (.iload 8, 2) := by decide +kernel
theorem dL_law_119 : decode cL_law 119 = .ok (.iload_n 3, 1) := by decide +kernel
theorem dL_law_120 : decode cL_law 120 = .ok (.if_icmp .ge 106, 3) := by decide +kernel
theorem dL_law_123 : decode cL_law 123 = .ok (.aload 4, 2) := by decide +kernel
theorem dL_law_125 : decode cL_law 125 = .ok (.iload 8, 2) := by decide +kernel
theorem dL_law_127 : decode cL_law 127 = .ok (.aload_n 0, 1) := by decide +kernel
theorem dL_law_128 : decode cL_law 128 = .ok (.bipush 6, 2) := by decide +kernel
theorem dL_law_130 : decode cL_law 130 = .ok (.iload 8, 2) := by decide +kernel
theorem dL_law_132 : decode cL_law 132 = .ok (.iadd, 1) := by decide +kernel
theorem dL_law_133 : decode cL_law 133 = .ok (.invokestatic 12, 3) := by decide +kernel
theorem dL_law_136 : decode cL_law 136 = .ok (.sipush 144, 3) := by decide +kernel
theorem dL_law_139 : decode cL_law 139 = .ok (.invokestatic 18, 3) := by decide +kernel
theorem dL_law_142 : decode cL_law 142 = .ok (.iastore, 1) := by decide +kernel
theorem dL_law_143 : decode cL_law 143 = .ok (.aload_n 1, 1) := by decide +kernel
theorem dL_law_144 : decode cL_law 144 = .ok (.aload 4, 2) := by decide +kernel
theorem dL_law_146 : decode cL_law 146 = .ok (.iload 8, 2) := by decide +kernel
theorem dL_law_148 : decode cL_law 148 = .ok (.iaload, 1) := by decide +kernel
theorem dL_law_149 : decode cL_law 149 = .ok (.invokevirtual 29, 3) := by decide +kernel
theorem dL_law_152 : decode cL_law 152 = .ok (.iload 8, 2) := by decide +kernel
theorem dL_law_154 : decode cL_law 154 = .ok (.if_icmp .eq 5, 3) := by decide +kernel
theorem dL_law_157 : decode cL_law 157 = .ok (.iconst 0, 1) := by decide +kernel
theorem dL_law_158 : decode cL_law 158 = .ok (.ireturn, 1) := by decide +kernel
theorem dL_law_159 : decode cL_law 159 = .ok (.aload 5, 2) := by decide +kernel
theorem dL_law_161 : decode cL_law 161 = .ok (.iload 8, 2) := by decide +kernel
theorem dL_law_163 : decode cL_law 163 = .ok (.iload 7, 2) := by decide +kernel
theorem dL_law_165 : decode cL_law 165 = .ok (.aload_n 1, 1) := by decide +kernel
theorem dL_law_166 : decode cL_law 166 = .ok (.iload 6, 2) := by decide +kernel
theorem dL_law_168 : decode cL_law 168 = .ok (.aload 4, 2) := by decide +kernel
theorem dL_law_170 : decode cL_law 170 = .ok (.iload 8, 2) := by decide +kernel
theorem dL_law_172 : decode cL_law 172 = .ok (.iaload, 1) := by decide +kernel
theorem dL_law_173 : decode cL_law 173 = .ok (.invokevirtual 32, 3) := by decide +kernel
theorem dL_law_176 : decode cL_law 176 = .ok (.iadd, 1) := by decide +kernel
theorem dL_law_177 : decode cL_law 177 = .ok (.aload_n 0, 1) := by decide +kernel
theorem dL_law_178 : decode cL_law 178 = .ok (.bipush 16, 2) := by decide +kernel
theorem dL_law_180 : decode cL_law 180 = .ok (.iload 8, 2) := by decide +kernel
theorem dL_law_182 : decode cL_law 182 = .ok (.iadd, 1) := by decide +kernel
theorem dL_law_183 : decode cL_law 183 = .ok (.invokestatic 12, 3) := by decide +kernel
theorem dL_law_186 : decode cL_law 186 = .ok (.iconst 2, 1) := by decide +kernel
theorem dL_law_187 : decode cL_law 187 = .ok (.iload_n 2, 1) := by decide +kernel
theorem dL_law_188 : decode cL_law 188 = .ok (.imul, 1) := by decide +kernel
theorem dL_law_189 : decode cL_law 189 = .ok (.iconst 1, 1) := by decide +kernel
theorem dL_law_190 : decode cL_law 190 = .ok (.iadd, 1) := by decide +kernel
theorem dL_law_191 : decode cL_law 191 = .ok (.invokestatic 18, 3) := by decide +kernel
theorem dL_law_194 : decode cL_law 194 = .ok (.iadd, 1) := by decide +kernel
theorem dL_law_195 : decode cL_law 195 = .ok (.iload_n 2, 1) := by decide +kernel
theorem dL_law_196 : decode cL_law 196 = .ok (.isub, 1) := by decide +kernel
theorem dL_law_197 : decode cL_law 197 = .ok (.iastore, 1) := by decide +kernel
theorem dL_law_198 : decode cL_law 198 = .ok (.aload 5, 2) := by decide +kernel
theorem dL_law_200 : decode cL_law 200 = .ok (.iload 8, 2) := by decide +kernel
theorem dL_law_202 : decode cL_law 202 = .ok (.aload 5, 2) := by decide +kernel
theorem dL_law_204 : decode cL_law 204 = .ok (.iload 8, 2) := by decide +kernel
theorem dL_law_206 : decode cL_law 206 = .ok (.iaload, 1) := by decide +kernel
theorem dL_law_207 : decode cL_law 207 = .ok (.ifCond .ge 7, 3) := by decide +kernel
theorem dL_law_210 : decode cL_law 210 = .ok (.iconst 0, 1) := by decide +kernel
theorem dL_law_211 : decode cL_law 211 = .ok (.goto 8, 3) := by decide +kernel
theorem dL_law_214 : decode cL_law 214 = .ok (.aload 5, 2) := by decide +kernel
theorem dL_law_216 : decode cL_law 216 = .ok (.iload 8, 2) := by decide +kernel
theorem dL_law_218 : decode cL_law 218 = .ok (.iaload, 1) := by decide +kernel
theorem dL_law_219 : decode cL_law 219 = .ok (.iastore, 1) := by decide +kernel
theorem dL_law_220 : decode cL_law 220 = .ok (.iinc 8 1, 3) := by decide +kernel
theorem dL_law_223 : decode cL_law 223 = .ok (.goto (-106), 3) := by decide +kernel
theorem dL_law_226 : decode cL_law 226 = .ok (.sipush 145, 3) := by decide +kernel
theorem dL_law_229 : decode cL_law 229 = .ok (.istore 8, 2) := by decide +kernel
theorem dL_law_231 : decode cL_law 231 = .ok (.iconst 0, 1) := by decide +kernel
theorem dL_law_232 : decode cL_law 232 = .ok (.istore 9, 2) := by decide +kernel
theorem dL_law_234 : decode cL_law 234 = .ok (.iconst 0, 1) := by decide +kernel
theorem dL_law_235 : decode cL_law 235 = .ok (.istore 10, 2) := by decide +kernel
theorem dL_law_237 : decode cL_law 237 = .ok (.iload 10, 2) := by decide +kernel
theorem dL_law_239 : decode cL_law 239 = .ok (.sipush 400, 3) := by decide +kernel
theorem dL_law_242 : decode cL_law 242 = .ok (.if_icmp .ge 273, 3) := by decide +kernel
theorem dL_law_245 : decode cL_law 245 = .ok (.iconst (-1), 1) := by decide +kernel
theorem dL_law_246 : decode cL_law 246 = .ok (.istore 11, 2) := by decide +kernel
theorem dL_law_248 : decode cL_law 248 = .ok (.iconst 0, 1) := by decide +kernel
theorem dL_law_249 : decode cL_law 249 = .ok (.istore 12, 2) := by decide +kernel
theorem dL_law_251 : decode cL_law 251 = .ok (.iload 12, 2) := by decide +kernel
theorem dL_law_253 : decode cL_law 253 = .ok (.iload_n 3, 1) := by decide +kernel
theorem dL_law_254 : decode cL_law 254 = .ok (.if_icmp .ge 44, 3) := by decide +kernel
theorem dL_law_257 : decode cL_law 257 = .ok (.aload 5, 2) := by decide +kernel
theorem dL_law_259 : decode cL_law 259 = .ok (.iload 12, 2) := by decide +kernel
theorem dL_law_261 : decode cL_law 261 = .ok (.iaload, 1) := by decide +kernel
theorem dL_law_262 : decode cL_law 262 = .ok (.ifCond .lt 26, 3) := by decide +kernel
theorem dL_law_265 : decode cL_law 265 = .ok (.iload 11, 2) := by decide +kernel
theorem dL_law_267 : decode cL_law 267 = .ok (.ifCond .lt 16, 3) := by decide +kernel
theorem dL_law_270 : decode cL_law 270 = .ok (.aload 5, 2) := by decide +kernel
theorem dL_law_272 : decode cL_law 272 = .ok (.iload 12, 2) := by decide +kernel
theorem dL_law_274 : decode cL_law 274 = .ok (.iaload, 1) := by decide +kernel
theorem dL_law_275 : decode cL_law 275 = .ok (.aload 5, 2) := by decide +kernel
theorem dL_law_277 : decode cL_law 277 = .ok (.iload 11, 2) := by decide +kernel
theorem dL_law_279 : decode cL_law 279 = .ok (.iaload, 1) := by decide +kernel
theorem dL_law_280 : decode cL_law 280 = .ok (.if_icmp .ge 8, 3) := by decide +kernel
theorem dL_law_283 : decode cL_law 283 = .ok (.iload 12, 2) := by decide +kernel
theorem dL_law_285 : decode cL_law 285 = .ok (.goto 5, 3) := by decide +kernel
theorem dL_law_288 : decode cL_law 288 = .ok (.iload 11, 2) := by decide +kernel
theorem dL_law_290 : decode cL_law 290 = .ok (.istore 11, 2) := by decide +kernel
theorem dL_law_292 : decode cL_law 292 = .ok (.iinc 12 1, 3) := by decide +kernel
theorem dL_law_295 : decode cL_law 295 = .ok (.goto (-44), 3) := by decide +kernel
theorem dL_law_298 : decode cL_law 298 = .ok (.iload 11, 2) := by decide +kernel
theorem dL_law_300 : decode cL_law 300 = .ok (.ifCond .ge 6, 3) := by decide +kernel
theorem dL_law_303 : decode cL_law 303 = .ok (.goto 212, 3) := by decide +kernel
theorem dL_law_306 : decode cL_law 306 = .ok (.aload 5, 2) := by decide +kernel
theorem dL_law_308 : decode cL_law 308 = .ok (.iload 11, 2) := by decide +kernel
theorem dL_law_310 : decode cL_law 310 = .ok (.iaload, 1) := by decide +kernel
theorem dL_law_311 : decode cL_law 311 = .ok (.istore 12, 2) := by decide +kernel
theorem dL_law_313 : decode cL_law 313 = .ok (.aload_n 1, 1) := by decide +kernel
theorem dL_law_314 : decode cL_law 314 = .ok (.iload 12, 2) := by decide +kernel
theorem dL_law_316 : decode cL_law 316 = .ok (.aload_n 1, 1) := by decide +kernel
theorem dL_law_317 : decode cL_law 317 = .ok (.iconst 5, 1) := by decide +kernel
theorem dL_law_318 : decode cL_law 318 = .ok (.invokevirtual 35, 3) := by decide +kernel
theorem dL_law_321 : decode cL_law 321 = .ok (.isub, 1) := by decide +kernel
theorem dL_law_322 : decode cL_law 322 = .ok (.invokevirtual 38, 3) := by decide +kernel
theorem dL_law_325 : decode cL_law 325 = .ok (.iload 12, 2) := by decide +kernel
theorem dL_law_327 : decode cL_law 327 = .ok (.if_icmp .eq 5, 3) := by decide +kernel
theorem dL_law_330 : decode cL_law 330 = .ok (.iconst 0, 1) := by decide +kernel
theorem dL_law_331 : decode cL_law 331 = .ok (.ireturn, 1) := by decide +kernel
theorem dL_law_332 : decode cL_law 332 = .ok (.aload_n 1, 1) := by decide +kernel
theorem dL_law_333 : decode cL_law 333 = .ok (.iload 11, 2) := by decide +kernel
theorem dL_law_335 : decode cL_law 335 = .ok (.iload 12, 2) := by decide +kernel
theorem dL_law_337 : decode cL_law 337 = .ok (.sipush 1000, 3) := by decide +kernel
theorem dL_law_340 : decode cL_law 340 = .ok (.invokevirtual 41, 3) := by decide +kernel
theorem dL_law_343 : decode cL_law 343 = .ok (.istore 13, 2) := by decide +kernel
theorem dL_law_345 : decode cL_law 345 = .ok (.iload 13, 2) := by decide +kernel
theorem dL_law_347 : decode cL_law 347 = .ok (.iload 9, 2) := by decide +kernel
theorem dL_law_349 : decode cL_law 349 = .ok (.ifCond .ne 8, 3) := by decide +kernel
theorem dL_law_352 : decode cL_law 352 = .ok (.bipush 10, 2) := by decide +kernel
theorem dL_law_354 : decode cL_law 354 = .ok (.goto 4, 3) := by decide +kernel
theorem dL_law_357 : decode cL_law 357 = .ok (.iconst 0, 1) := by decide +kernel
theorem dL_law_358 : decode cL_law 358 = .ok (.if_icmp .eq 5, 3) := by decide +kernel
theorem dL_law_361 : decode cL_law 361 = .ok (.iconst 0, 1) := by decide +kernel
theorem dL_law_362 : decode cL_law 362 = .ok (.ireturn, 1) := by decide +kernel
theorem dL_law_363 : decode cL_law 363 = .ok (.iinc 9 1, 3) := by decide +kernel
theorem dL_law_366 : decode cL_law 366 = .ok (.aload 5, 2) := by decide +kernel
theorem dL_law_368 : decode cL_law 368 = .ok (.iload 11, 2) := by decide +kernel
theorem dL_law_370 : decode cL_law 370 = .ok (.iconst (-1), 1) := by decide +kernel
theorem dL_law_371 : decode cL_law 371 = .ok (.iastore, 1) := by decide +kernel
theorem dL_law_372 : decode cL_law 372 = .ok (.aload_n 1, 1) := by decide +kernel
theorem dL_law_373 : decode cL_law 373 = .ok (.iconst 0, 1) := by decide +kernel
theorem dL_law_374 : decode cL_law 374 = .ok (.iconst 1, 1) := by decide +kernel
theorem dL_law_375 : decode cL_law 375 = .ok (.invokevirtual 45, 3) := by decide +kernel
theorem dL_law_378 : decode cL_law 378 = .ok (.istore 14, 2) := by decide +kernel
theorem dL_law_380 : decode cL_law 380 = .ok (.aload_n 1, 1) := by decide +kernel
theorem dL_law_381 : decode cL_law 381 = .ok (.iconst 0, 1) := by decide +kernel
theorem dL_law_382 : decode cL_law 382 = .ok (.iconst 0, 1) := by decide +kernel
theorem dL_law_383 : decode cL_law 383 = .ok (.invokevirtual 45, 3) := by decide +kernel
theorem dL_law_386 : decode cL_law 386 = .ok (.iload 9, 2) := by decide +kernel
theorem dL_law_388 : decode cL_law 388 = .ok (.if_icmp .ne 47, 3) := by decide +kernel
theorem dL_law_391 : decode cL_law 391 = .ok (.iload 14, 2) := by decide +kernel
theorem dL_law_393 : decode cL_law 393 = .ok (.iconst 1, 1) := by decide +kernel
theorem dL_law_394 : decode cL_law 394 = .ok (.if_icmp .lt 41, 3) := by decide +kernel
theorem dL_law_397 : decode cL_law 397 = .ok (.iload 14, 2) := by decide +kernel
theorem dL_law_399 : decode cL_law 399 = .ok (.iload 8, 2) := by decide +kernel
theorem dL_law_401 : decode cL_law 401 = .ok (.if_icmp .gt 34, 3) := by decide +kernel
theorem dL_law_404 : decode cL_law 404 = .ok (.aload_n 1, 1) := by decide +kernel
theorem dL_law_405 : decode cL_law 405 = .ok (.iconst 0, 1) := by decide +kernel
theorem dL_law_406 : decode cL_law 406 = .ok (.iload 6, 2) := by decide +kernel
theorem dL_law_408 : decode cL_law 408 = .ok (.iload 7, 2) := by decide +kernel
theorem dL_law_410 : decode cL_law 410 = .ok (.invokevirtual 48, 3) := by decide +kernel
theorem dL_law_413 : decode cL_law 413 = .ok (.iconst 1, 1) := by decide +kernel
theorem dL_law_414 : decode cL_law 414 = .ok (.if_icmp .ne 21, 3) := by decide +kernel
theorem dL_law_417 : decode cL_law 417 = .ok (.aload_n 1, 1) := by decide +kernel
theorem dL_law_418 : decode cL_law 418 = .ok (.iconst 0, 1) := by decide +kernel
theorem dL_law_419 : decode cL_law 419 = .ok (.iconst 4, 1) := by decide +kernel
theorem dL_law_420 : decode cL_law 420 = .ok (.invokevirtual 45, 3) := by decide +kernel
theorem dL_law_423 : decode cL_law 423 = .ok (.ifCond .ne 12, 3) := by decide +kernel
theorem dL_law_426 : decode cL_law 426 = .ok (.aload_n 1, 1) := by decide +kernel
theorem dL_law_427 : decode cL_law 427 = .ok (.iconst 3, 1) := by decide +kernel
theorem dL_law_428 : decode cL_law 428 = .ok (.invokevirtual 35, 3) := by decide +kernel
theorem dL_law_431 : decode cL_law 431 = .ok (.iconst 1, 1) := by decide +kernel
theorem dL_law_432 : decode cL_law 432 = .ok (.if_icmp .eq 5, 3) := by decide +kernel
theorem dL_law_435 : decode cL_law 435 = .ok (.iconst 0, 1) := by decide +kernel
theorem dL_law_436 : decode cL_law 436 = .ok (.ireturn, 1) := by decide +kernel
theorem dL_law_437 : decode cL_law 437 = .ok (.iload 14, 2) := by decide +kernel
theorem dL_law_439 : decode cL_law 439 = .ok (.istore 8, 2) := by decide +kernel
theorem dL_law_441 : decode cL_law 441 = .ok (.aload_n 1, 1) := by decide +kernel
theorem dL_law_442 : decode cL_law 442 = .ok (.iconst 0, 1) := by decide +kernel
theorem dL_law_443 : decode cL_law 443 = .ok (.iconst 0, 1) := by decide +kernel
theorem dL_law_444 : decode cL_law 444 = .ok (.invokevirtual 51, 3) := by decide +kernel
theorem dL_law_447 : decode cL_law 447 = .ok (.istore 15, 2) := by decide +kernel
theorem dL_law_449 : decode cL_law 449 = .ok (.aload_n 1, 1) := by decide +kernel
theorem dL_law_450 : decode cL_law 450 = .ok (.iconst 0, 1) := by decide +kernel
theorem dL_law_451 : decode cL_law 451 = .ok (.iconst 0, 1) := by decide +kernel
theorem dL_law_452 : decode cL_law 452 = .ok (.invokevirtual 54, 3) := by decide +kernel
theorem dL_law_455 : decode cL_law 455 = .ok (.istore 16, 2) := by decide +kernel
theorem dL_law_457 : decode cL_law 457 = .ok (.iload 15, 2) := by decide +kernel
theorem dL_law_459 : decode cL_law 459 = .ok (.ifCond .lt 30, 3) := by decide +kernel
theorem dL_law_462 : decode cL_law 462 = .ok (.iload 16, 2) := by decide +kernel
theorem dL_law_464 : decode cL_law 464 = .ok (.ifCond .lt 25, 3) := by decide +kernel
theorem dL_law_467 : decode cL_law 467 = .ok (.iload 16, 2) := by decide +kernel
theorem dL_law_469 : decode cL_law 469 = .ok (.iconst 2, 1) := by decide +kernel
theorem dL_law_470 : decode cL_law 470 = .ok (.if_icmp .ne 8, 3) := by decide +kernel
theorem dL_law_473 : decode cL_law 473 = .ok (.iload 15, 2) := by decide +kernel
theorem dL_law_475 : decode cL_law 475 = .ok (.ifCond .eq 14, 3) := by decide +kernel
theorem dL_law_478 : decode cL_law 478 = .ok (.iload 16, 2) := by decide +kernel
theorem dL_law_480 : decode cL_law 480 = .ok (.iconst 1, 1) := by decide +kernel
theorem dL_law_481 : decode cL_law 481 = .ok (.if_icmp .ne 10, 3) := by decide +kernel
theorem dL_law_484 : decode cL_law 484 = .ok (.iload 15, 2) := by decide +kernel
theorem dL_law_486 : decode cL_law 486 = .ok (.ifCond .le 5, 3) := by decide +kernel
theorem dL_law_489 : decode cL_law 489 = .ok (.iconst 0, 1) := by decide +kernel
theorem dL_law_490 : decode cL_law 490 = .ok (.ireturn, 1) := by decide +kernel
theorem dL_law_491 : decode cL_law 491 = .ok (.iload 10, 2) := by decide +kernel
theorem dL_law_493 : decode cL_law 493 = .ok (.iconst 1, 1) := by decide +kernel
theorem dL_law_494 : decode cL_law 494 = .ok (.aload_n 0, 1) := by decide +kernel
theorem dL_law_495 : decode cL_law 495 = .ok (.bipush 26, 2) := by decide +kernel
theorem dL_law_497 : decode cL_law 497 = .ok (.iload 9, 2) := by decide +kernel
theorem dL_law_499 : decode cL_law 499 = .ok (.iadd, 1) := by decide +kernel
theorem dL_law_500 : decode cL_law 500 = .ok (.invokestatic 12, 3) := by decide +kernel
theorem dL_law_503 : decode cL_law 503 = .ok (.bipush 7, 2) := by decide +kernel
theorem dL_law_505 : decode cL_law 505 = .ok (.invokestatic 18, 3) := by decide +kernel
theorem dL_law_508 : decode cL_law 508 = .ok (.iadd, 1) := by decide +kernel
theorem dL_law_509 : decode cL_law 509 = .ok (.iadd, 1) := by decide +kernel
theorem dL_law_510 : decode cL_law 510 = .ok (.istore 10, 2) := by decide +kernel
theorem dL_law_512 : decode cL_law 512 = .ok (.goto (-275), 3) := by decide +kernel
theorem dL_law_515 : decode cL_law 515 = .ok (.iload 9, 2) := by decide +kernel
theorem dL_law_517 : decode cL_law 517 = .ok (.iload_n 3, 1) := by decide +kernel
theorem dL_law_518 : decode cL_law 518 = .ok (.if_icmp .ne 41, 3) := by decide +kernel
theorem dL_law_521 : decode cL_law 521 = .ok (.aload_n 1, 1) := by decide +kernel
theorem dL_law_522 : decode cL_law 522 = .ok (.sipush 500, 3) := by decide +kernel
theorem dL_law_525 : decode cL_law 525 = .ok (.invokevirtual 38, 3) := by decide +kernel
theorem dL_law_528 : decode cL_law 528 = .ok (.ifCond .le 31, 3) := by decide +kernel
theorem dL_law_531 : decode cL_law 531 = .ok (.aload_n 1, 1) := by decide +kernel
theorem dL_law_532 : decode cL_law 532 = .ok (.iconst 0, 1) := by decide +kernel
theorem dL_law_533 : decode cL_law 533 = .ok (.iconst 1, 1) := by decide +kernel
theorem dL_law_534 : decode cL_law 534 = .ok (.invokevirtual 45, 3) := by decide +kernel
theorem dL_law_537 : decode cL_law 537 = .ok (.iload 8, 2) := by decide +kernel
theorem dL_law_539 : decode cL_law 539 = .ok (.if_icmp .ne 20, 3) := by decide +kernel
theorem dL_law_542 : decode cL_law 542 = .ok (.aload_n 1, 1) := by decide +kernel
theorem dL_law_543 : decode cL_law 543 = .ok (.iconst 0, 1) := by decide +kernel
theorem dL_law_544 : decode cL_law 544 = .ok (.iload 6, 2) := by decide +kernel
theorem dL_law_546 : decode cL_law 546 = .ok (.iload 7, 2) := by decide +kernel
theorem dL_law_548 : decode cL_law 548 = .ok (.invokevirtual 48, 3) := by decide +kernel
theorem dL_law_551 : decode cL_law 551 = .ok (.iconst 1, 1) := by decide +kernel
theorem dL_law_552 : decode cL_law 552 = .ok (.if_icmp .ne 7, 3) := by decide +kernel
theorem dL_law_555 : decode cL_law 555 = .ok (.iconst 1, 1) := by decide +kernel
theorem dL_law_556 : decode cL_law 556 = .ok (.goto 4, 3) := by decide +kernel
theorem dL_law_559 : decode cL_law 559 = .ok (.iconst 0, 1) := by decide +kernel
theorem dL_law_560 : decode cL_law 560 = .ok (.ireturn, 1) := by decide +kernel
abbrev vwCl : List vw_C := [(RJx4a65c, TJx4a65c, 3), (RX0, TX0, 6), (RX2, TX2, 5), (RX2, TX2, 5), (RX3, TX3, 6), (RX4, TX4, 2), (RX5, TX5, 3), (RX6, TX6, 1), (RX7, TX7, 1), (RX8, TX8, 14), (RX8, TX8, 14)]
