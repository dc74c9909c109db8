section
-- ===== PART A: goes FIRST, ahead of the names: the tables' words, and 'selects' of the private methods out of them =====
/-- a private method of a class that the tables say can be made, by its rows of tables_1 -/
def lw_okq (q : MethodName × Nat) : Prop := (q.1.cls ≠ "java/lang/invoke/MethodHandle" ∧ q.1.cls ≠ "java/lang/invoke/VarHandle") ∧ Cond.instantiable q.1.cls q.2 ∈ tables_1 ∧ Cond.privateMethod q.1 ∈ tables_1 ∧ Cond.instanceMethod q.1 ∈ tables_1
theorem lw_p0 : lw_okq (⟨"FirstSeconds$Travels", "reckon", "(I)V"⟩, 1) := ⟨⟨by decide +kernel, by decide +kernel⟩, List.mem_of_getElem? (i := 28) (by decide +kernel), List.mem_of_getElem? (i := 34) (by decide +kernel), List.mem_of_getElem? (i := 35) (by decide +kernel)⟩
theorem lw_p1 : lw_okq (⟨"java/util/ArrayList", "add", "(Ljava/lang/Object;[Ljava/lang/Object;I)V"⟩, 3) := ⟨⟨by decide +kernel, by decide +kernel⟩, List.mem_of_getElem? (i := 46) (by decide +kernel), List.mem_of_getElem? (i := 201) (by decide +kernel), List.mem_of_getElem? (i := 202) (by decide +kernel)⟩
theorem lw_p2 : lw_okq (⟨"java/util/ArrayList", "grow", "()[Ljava/lang/Object;"⟩, 3) := ⟨⟨by decide +kernel, by decide +kernel⟩, List.mem_of_getElem? (i := 46) (by decide +kernel), List.mem_of_getElem? (i := 205) (by decide +kernel), List.mem_of_getElem? (i := 206) (by decide +kernel)⟩
theorem lw_p3 : lw_okq (⟨"java/util/ArrayList", "grow", "(I)[Ljava/lang/Object;"⟩, 3) := ⟨⟨by decide +kernel, by decide +kernel⟩, List.mem_of_getElem? (i := 46) (by decide +kernel), List.mem_of_getElem? (i := 209) (by decide +kernel), List.mem_of_getElem? (i := 210) (by decide +kernel)⟩
theorem lw_p4 : lw_okq (⟨"FirstSeconds$Travels", "between", "(II)I"⟩, 1) := ⟨⟨by decide +kernel, by decide +kernel⟩, List.mem_of_getElem? (i := 28) (by decide +kernel), List.mem_of_getElem? (i := 272) (by decide +kernel), List.mem_of_getElem? (i := 273) (by decide +kernel)⟩
theorem lw_p5 : lw_okq (⟨"FirstSeconds$Heap", "forget", "()V"⟩, 6) := ⟨⟨by decide +kernel, by decide +kernel⟩, List.mem_of_getElem? (i := 72) (by decide +kernel), List.mem_of_getElem? (i := 284) (by decide +kernel), List.mem_of_getElem? (i := 285) (by decide +kernel)⟩
theorem lw_p6 : lw_okq (⟨"FirstSeconds", "isStation", "(I)Z"⟩, 14) := ⟨⟨by decide +kernel, by decide +kernel⟩, List.mem_of_getElem? (i := 20) (by decide +kernel), List.mem_of_getElem? (i := 292) (by decide +kernel), List.mem_of_getElem? (i := 293) (by decide +kernel)⟩
theorem lw_p7 : lw_okq (⟨"FirstSeconds", "takerOf", "(II)I"⟩, 14) := ⟨⟨by decide +kernel, by decide +kernel⟩, List.mem_of_getElem? (i := 20) (by decide +kernel), List.mem_of_getElem? (i := 297) (by decide +kernel), List.mem_of_getElem? (i := 298) (by decide +kernel)⟩
theorem lw_p8 : lw_okq (⟨"FirstSeconds", "takes", "(III)Z"⟩, 14) := ⟨⟨by decide +kernel, by decide +kernel⟩, List.mem_of_getElem? (i := 20) (by decide +kernel), List.mem_of_getElem? (i := 301) (by decide +kernel), List.mem_of_getElem? (i := 302) (by decide +kernel)⟩
theorem lw_p9 : lw_okq (⟨"FirstSeconds$Quake", "hears", "(I)Z"⟩, 6) := ⟨⟨by decide +kernel, by decide +kernel⟩, List.mem_of_getElem? (i := 322) (by decide +kernel), List.mem_of_getElem? (i := 320) (by decide +kernel), List.mem_of_getElem? (i := 321) (by decide +kernel)⟩
theorem lw_p10 : lw_okq (⟨"FirstSeconds", "heapOf", "(I)LFirstSeconds$Heap;"⟩, 14) := ⟨⟨by decide +kernel, by decide +kernel⟩, List.mem_of_getElem? (i := 20) (by decide +kernel), List.mem_of_getElem? (i := 325) (by decide +kernel), List.mem_of_getElem? (i := 326) (by decide +kernel)⟩
theorem lw_p11 : lw_okq (⟨"FirstSeconds", "fillHeap", "(LFirstSeconds$Quake;II)V"⟩, 14) := ⟨⟨by decide +kernel, by decide +kernel⟩, List.mem_of_getElem? (i := 20) (by decide +kernel), List.mem_of_getElem? (i := 329) (by decide +kernel), List.mem_of_getElem? (i := 330) (by decide +kernel)⟩
theorem lw_p12 : lw_okq (⟨"FirstSeconds$Heap", "clear", "()V"⟩, 6) := ⟨⟨by decide +kernel, by decide +kernel⟩, List.mem_of_getElem? (i := 72) (by decide +kernel), List.mem_of_getElem? (i := 333) (by decide +kernel), List.mem_of_getElem? (i := 334) (by decide +kernel)⟩
theorem lw_p13 : lw_okq (⟨"FirstSeconds$Heap", "narrow", "(LFirstSeconds$Travels;III)V"⟩, 6) := ⟨⟨by decide +kernel, by decide +kernel⟩, List.mem_of_getElem? (i := 72) (by decide +kernel), List.mem_of_getElem? (i := 339) (by decide +kernel), List.mem_of_getElem? (i := 340) (by decide +kernel)⟩
theorem lw_p14 : lw_okq (⟨"FirstSeconds$Heap", "countCells", "()V"⟩, 6) := ⟨⟨by decide +kernel, by decide +kernel⟩, List.mem_of_getElem? (i := 72) (by decide +kernel), List.mem_of_getElem? (i := 346) (by decide +kernel), List.mem_of_getElem? (i := 347) (by decide +kernel)⟩
theorem lw_p15 : lw_okq (⟨"FirstSeconds$Heap", "has", "(I)Z"⟩, 6) := ⟨⟨by decide +kernel, by decide +kernel⟩, List.mem_of_getElem? (i := 72) (by decide +kernel), List.mem_of_getElem? (i := 350) (by decide +kernel), List.mem_of_getElem? (i := 351) (by decide +kernel)⟩
def lw_privs_1 : List (MethodName × Nat) := [(⟨"FirstSeconds$Travels", "reckon", "(I)V"⟩, 1), (⟨"java/util/ArrayList", "add", "(Ljava/lang/Object;[Ljava/lang/Object;I)V"⟩, 3), (⟨"java/util/ArrayList", "grow", "()[Ljava/lang/Object;"⟩, 3), (⟨"java/util/ArrayList", "grow", "(I)[Ljava/lang/Object;"⟩, 3), (⟨"FirstSeconds$Travels", "between", "(II)I"⟩, 1), (⟨"FirstSeconds$Heap", "forget", "()V"⟩, 6), (⟨"FirstSeconds", "isStation", "(I)Z"⟩, 14), (⟨"FirstSeconds", "takerOf", "(II)I"⟩, 14), (⟨"FirstSeconds", "takes", "(III)Z"⟩, 14), (⟨"FirstSeconds$Quake", "hears", "(I)Z"⟩, 6), (⟨"FirstSeconds", "heapOf", "(I)LFirstSeconds$Heap;"⟩, 14), (⟨"FirstSeconds", "fillHeap", "(LFirstSeconds$Quake;II)V"⟩, 14), (⟨"FirstSeconds$Heap", "clear", "()V"⟩, 6), (⟨"FirstSeconds$Heap", "narrow", "(LFirstSeconds$Travels;III)V"⟩, 6), (⟨"FirstSeconds$Heap", "countCells", "()V"⟩, 6), (⟨"FirstSeconds$Heap", "has", "(I)Z"⟩, 6)]
theorem lw_r1 : ∀ q ∈ lw_privs_1, lw_okq q := List.forall_mem_cons.mpr ⟨lw_p0, List.forall_mem_cons.mpr ⟨lw_p1, List.forall_mem_cons.mpr ⟨lw_p2, List.forall_mem_cons.mpr ⟨lw_p3, List.forall_mem_cons.mpr ⟨lw_p4, List.forall_mem_cons.mpr ⟨lw_p5, List.forall_mem_cons.mpr ⟨lw_p6, List.forall_mem_cons.mpr ⟨lw_p7, List.forall_mem_cons.mpr ⟨lw_p8, List.forall_mem_cons.mpr ⟨lw_p9, List.forall_mem_cons.mpr ⟨lw_p10, List.forall_mem_cons.mpr ⟨lw_p11, List.forall_mem_cons.mpr ⟨lw_p12, List.forall_mem_cons.mpr ⟨lw_p13, List.forall_mem_cons.mpr ⟨lw_p14, List.forall_mem_cons.mpr ⟨lw_p15, fun _ h => absurd h List.not_mem_nil⟩⟩⟩⟩⟩⟩⟩⟩⟩⟩⟩⟩⟩⟩⟩⟩
theorem lw_p16 : lw_okq (⟨"FirstSeconds$Heap", "measure", "(LFirstSeconds$Travels;II)V"⟩, 6) := ⟨⟨by decide +kernel, by decide +kernel⟩, List.mem_of_getElem? (i := 72) (by decide +kernel), List.mem_of_getElem? (i := 354) (by decide +kernel), List.mem_of_getElem? (i := 355) (by decide +kernel)⟩
theorem lw_p17 : lw_okq (⟨"FirstSeconds$Quake", "hear", "(II)V"⟩, 6) := ⟨⟨by decide +kernel, by decide +kernel⟩, List.mem_of_getElem? (i := 322) (by decide +kernel), List.mem_of_getElem? (i := 365) (by decide +kernel), List.mem_of_getElem? (i := 366) (by decide +kernel)⟩
theorem lw_p18 : lw_okq (⟨"FirstSeconds", "isQuake", "(I)Z"⟩, 14) := ⟨⟨by decide +kernel, by decide +kernel⟩, List.mem_of_getElem? (i := 20) (by decide +kernel), List.mem_of_getElem? (i := 423) (by decide +kernel), List.mem_of_getElem? (i := 424) (by decide +kernel)⟩
theorem lw_p19 : lw_okq (⟨"FirstSeconds", "isOver", "(I)Z"⟩, 14) := ⟨⟨by decide +kernel, by decide +kernel⟩, List.mem_of_getElem? (i := 20) (by decide +kernel), List.mem_of_getElem? (i := 427) (by decide +kernel), List.mem_of_getElem? (i := 428) (by decide +kernel)⟩
theorem lw_p20 : lw_okq (⟨"FirstSeconds", "isTown", "(I)Z"⟩, 14) := ⟨⟨by decide +kernel, by decide +kernel⟩, List.mem_of_getElem? (i := 20) (by decide +kernel), List.mem_of_getElem? (i := 439) (by decide +kernel), List.mem_of_getElem? (i := 440) (by decide +kernel)⟩
theorem lw_p21 : lw_okq (⟨"FirstSeconds", "latestArrival", "(II)I"⟩, 14) := ⟨⟨by decide +kernel, by decide +kernel⟩, List.mem_of_getElem? (i := 20) (by decide +kernel), List.mem_of_getElem? (i := 443) (by decide +kernel), List.mem_of_getElem? (i := 444) (by decide +kernel)⟩
theorem lw_p22 : lw_okq (⟨"FirstSeconds", "earliestArrival", "(II)I"⟩, 14) := ⟨⟨by decide +kernel, by decide +kernel⟩, List.mem_of_getElem? (i := 20) (by decide +kernel), List.mem_of_getElem? (i := 450) (by decide +kernel), List.mem_of_getElem? (i := 451) (by decide +kernel)⟩
def lw_privs_2 : List (MethodName × Nat) := [(⟨"FirstSeconds$Heap", "measure", "(LFirstSeconds$Travels;II)V"⟩, 6), (⟨"FirstSeconds$Quake", "hear", "(II)V"⟩, 6), (⟨"FirstSeconds", "isQuake", "(I)Z"⟩, 14), (⟨"FirstSeconds", "isOver", "(I)Z"⟩, 14), (⟨"FirstSeconds", "isTown", "(I)Z"⟩, 14), (⟨"FirstSeconds", "latestArrival", "(II)I"⟩, 14), (⟨"FirstSeconds", "earliestArrival", "(II)I"⟩, 14)]
theorem lw_r2 : ∀ q ∈ lw_privs_2, lw_okq q := List.forall_mem_cons.mpr ⟨lw_p16, List.forall_mem_cons.mpr ⟨lw_p17, List.forall_mem_cons.mpr ⟨lw_p18, List.forall_mem_cons.mpr ⟨lw_p19, List.forall_mem_cons.mpr ⟨lw_p20, List.forall_mem_cons.mpr ⟨lw_p21, List.forall_mem_cons.mpr ⟨lw_p22, fun _ h => absurd h List.not_mem_nil⟩⟩⟩⟩⟩⟩⟩
def lw_privs : List (MethodName × Nat) := lw_privs_1 ++ (lw_privs_2)
def lw_tbl : List Cond := k2_sels lw_privs ++ tables_1
theorem lw_privs_ok : ∀ q ∈ lw_privs, lw_okq q := by
  show ∀ q ∈ lw_privs_1 ++ (lw_privs_2), lw_okq q
  exact List.forall_mem_append.mpr ⟨lw_r1, lw_r2⟩
end
section
def RX0 : String := "FirstSeconds$Heap"
def TX0 : u_T := fun k => match k with
  | 0 => ("FirstSeconds$Heap", "first", "[I", true)
  | 1 => ("FirstSeconds$Heap", "last", "[I", true)
  | 2 => ("FirstSeconds$Heap", "cells", "I", false)
  | 3 => ("FirstSeconds$Heap", "low", "I", false)
  | 4 => ("FirstSeconds$Heap", "high", "I", false)
  | _ => ("FirstSeconds$Heap", "quake", "I", false)
def tyX0 : Nat → FieldType := fun k => match k with
  | 0 => .array .int
  | 1 => .array .int
  | 2 => .int
  | 3 => .int
  | 4 => .int
  | _ => .int
abbrev wsX00 : List Cond := u_ws RX0 TX0 6
theorem nmX0 : ∀ a, a < 6 → ∀ b, b < 6 → a ≠ b → (TX0 a).2.1 ≠ (TX0 b).2.1 := by decide +kernel
theorem tyX0_ok : ∀ k, k < 6 → parseFieldDescriptor (TX0 k).2.2.1 = some (tyX0 k) := by decide +kernel
abbrev cX0_init : ByteArray := prog_2_method_1_code
def yX0_init : MethodName := ⟨RX0, "<init>", "()V"⟩
abbrev cX0_forget : ByteArray := prog_2_method_2_code
def yX0_forget : MethodName := ⟨RX0, "forget", "()V"⟩
abbrev cX0_clear : ByteArray := prog_2_method_3_code
def yX0_clear : MethodName := ⟨RX0, "clear", "()V"⟩
abbrev cX0_narrow : ByteArray := prog_2_method_4_code
def yX0_narrow : MethodName := ⟨RX0, "narrow", "(LFirstSeconds$Travels;III)V"⟩
abbrev cX0_countCells : ByteArray := prog_2_method_5_code
def yX0_countCells : MethodName := ⟨RX0, "countCells", "()V"⟩
abbrev cX0_measure : ByteArray := prog_2_method_6_code
def yX0_measure : MethodName := ⟨RX0, "measure", "(LFirstSeconds$Travels;II)V"⟩
abbrev cX0_has : ByteArray := prog_2_method_7_code
def yX0_has : MethodName := ⟨RX0, "has", "(I)Z"⟩
def RX1 : String := "FirstSeconds$Message"
def TX1 : u_T := fun k => match k with
  | _ => ("", "", "", false)
def tyX1 : Nat → FieldType := fun k => match k with
  | _ => .int
abbrev wsX10 : List Cond := u_ws RX1 TX1 0
theorem nmX1 : ∀ a, a < 0 → ∀ b, b < 0 → a ≠ b → (TX1 a).2.1 ≠ (TX1 b).2.1 := by decide +kernel
theorem tyX1_ok : ∀ k, k < 0 → parseFieldDescriptor (TX1 k).2.2.1 = some (tyX1 k) := by decide +kernel
def RX2 : String := "FirstSeconds$Pick"
def TX2 : u_T := fun k => match k with
  | 0 => ("FirstSeconds$Pick", "station", "I", true)
  | 1 => ("FirstSeconds$Pick", "tick", "I", true)
  | 2 => ("FirstSeconds$Pick", "strength", "I", true)
  | 3 => ("FirstSeconds$Pick", "kind", "I", true)
  | _ => ("FirstSeconds$Pick", "quake", "I", true)
def tyX2 : Nat → FieldType := fun k => match k with
  | 0 => .int
  | 1 => .int
  | 2 => .int
  | 3 => .int
  | _ => .int
abbrev wsX20 : List Cond := u_ws RX2 TX2 5
theorem nmX2 : ∀ a, a < 5 → ∀ b, b < 5 → a ≠ b → (TX2 a).2.1 ≠ (TX2 b).2.1 := by decide +kernel
theorem tyX2_ok : ∀ k, k < 5 → parseFieldDescriptor (TX2 k).2.2.1 = some (tyX2 k) := by decide +kernel
abbrev cX2_init : ByteArray := prog_4_method_1_code
def yX2_init : MethodName := ⟨RX2, "<init>", "(IIIII)V"⟩
def RX3 : String := "FirstSeconds$Quake"
def TX3 : u_T := fun k => match k with
  | 0 => ("FirstSeconds$Quake", "firstStation", "I", true)
  | 1 => ("FirstSeconds$Quake", "firstStrength", "I", true)
  | 2 => ("FirstSeconds$Quake", "ticks", "[I", true)
  | 3 => ("FirstSeconds$Quake", "heard", "I", false)
  | 4 => ("FirstSeconds$Quake", "told", "[I", true)
  | _ => ("FirstSeconds$Quake", "takenBack", "[I", true)
def tyX3 : Nat → FieldType := fun k => match k with
  | 0 => .int
  | 1 => .int
  | 2 => .array .int
  | 3 => .int
  | 4 => .array .int
  | _ => .array .int
abbrev wsX30 : List Cond := u_ws RX3 TX3 6
theorem nmX3 : ∀ a, a < 6 → ∀ b, b < 6 → a ≠ b → (TX3 a).2.1 ≠ (TX3 b).2.1 := by decide +kernel
theorem tyX3_ok : ∀ k, k < 6 → parseFieldDescriptor (TX3 k).2.2.1 = some (tyX3 k) := by decide +kernel
abbrev cX3_init : ByteArray := prog_5_method_1_code
def yX3_init : MethodName := ⟨RX3, "<init>", "(III)V"⟩
abbrev cX3_hears : ByteArray := prog_5_method_2_code
def yX3_hears : MethodName := ⟨RX3, "hears", "(I)Z"⟩
abbrev cX3_hear : ByteArray := prog_5_method_3_code
def yX3_hear : MethodName := ⟨RX3, "hear", "(II)V"⟩
def RX4 : String := "FirstSeconds$Row"
def TX4 : u_T := fun k => match k with
  | 0 => ("FirstSeconds$Row", "readings", "[I", true)
  | _ => ("FirstSeconds$Row", "size", "I", false)
def tyX4 : Nat → FieldType := fun k => match k with
  | 0 => .array .int
  | _ => .int
abbrev wsX40 : List Cond := u_ws RX4 TX4 2
theorem nmX4 : ∀ a, a < 2 → ∀ b, b < 2 → a ≠ b → (TX4 a).2.1 ≠ (TX4 b).2.1 := by decide +kernel
theorem tyX4_ok : ∀ k, k < 2 → parseFieldDescriptor (TX4 k).2.2.1 = some (tyX4 k) := by decide +kernel
abbrev cX4_init : ByteArray := prog_6_method_1_code
def yX4_init : MethodName := ⟨RX4, "<init>", "()V"⟩
def RX5 : String := "FirstSeconds$Station"
def TX5 : u_T := fun k => match k with
  | 0 => ("FirstSeconds$Station", "cell", "I", true)
  | 1 => ("FirstSeconds$Station", "row", "LFirstSeconds$Row;", true)
  | _ => ("FirstSeconds$Station", "deaf", "Z", false)
def tyX5 : Nat → FieldType := fun k => match k with
  | 0 => .int
  | 1 => .object "FirstSeconds$Row"
  | _ => .boolean
abbrev wsX50 : List Cond := u_ws RX5 TX5 3
theorem nmX5 : ∀ a, a < 3 → ∀ b, b < 3 → a ≠ b → (TX5 a).2.1 ≠ (TX5 b).2.1 := by decide +kernel
theorem tyX5_ok : ∀ k, k < 3 → parseFieldDescriptor (TX5 k).2.2.1 = some (tyX5 k) := by decide +kernel
abbrev cX5_init : ByteArray := prog_7_method_1_code
def yX5_init : MethodName := ⟨RX5, "<init>", "(I)V"⟩
def RX6 : String := "FirstSeconds$Town"
def TX6 : u_T := fun k => match k with
  | _ => ("FirstSeconds$Town", "cell", "I", true)
def tyX6 : Nat → FieldType := fun k => match k with
  | _ => .int
abbrev wsX60 : List Cond := u_ws RX6 TX6 1
theorem nmX6 : ∀ a, a < 1 → ∀ b, b < 1 → a ≠ b → (TX6 a).2.1 ≠ (TX6 b).2.1 := by decide +kernel
theorem tyX6_ok : ∀ k, k < 1 → parseFieldDescriptor (TX6 k).2.2.1 = some (tyX6 k) := by decide +kernel
abbrev cX6_init : ByteArray := prog_8_method_1_code
def yX6_init : MethodName := ⟨RX6, "<init>", "(I)V"⟩
def RX7 : String := "FirstSeconds$Travels"
def TX7 : u_T := fun k => match k with
  | _ => ("FirstSeconds$Travels", "ticks", "[I", true)
def tyX7 : Nat → FieldType := fun k => match k with
  | _ => .array .int
abbrev wsX70 : List Cond := u_ws RX7 TX7 1
theorem nmX7 : ∀ a, a < 1 → ∀ b, b < 1 → a ≠ b → (TX7 a).2.1 ≠ (TX7 b).2.1 := by decide +kernel
theorem tyX7_ok : ∀ k, k < 1 → parseFieldDescriptor (TX7 k).2.2.1 = some (tyX7 k) := by decide +kernel
abbrev cX7_init : ByteArray := prog_9_method_1_code
def yX7_init : MethodName := ⟨RX7, "<init>", "(I)V"⟩
abbrev cX7_reckon : ByteArray := prog_9_method_2_code
def yX7_reckon : MethodName := ⟨RX7, "reckon", "(I)V"⟩
abbrev cX7_between : ByteArray := prog_9_method_3_code
def yX7_between : MethodName := ⟨RX7, "between", "(II)I"⟩
abbrev cX7_root : ByteArray := prog_9_method_4_code
def yX7_root : MethodName := ⟨RX7, "root", "(I)I"⟩
def RX8 : String := "FirstSeconds"
def TX8 : u_T := fun k => match k with
  | 0 => ("FirstSeconds", "travels", "LFirstSeconds$Travels;", true)
  | 1 => ("FirstSeconds", "stations", "Ljava/util/ArrayList;", true)
  | 2 => ("FirstSeconds", "towns", "Ljava/util/ArrayList;", true)
  | 3 => ("FirstSeconds", "picks", "Ljava/util/ArrayList;", true)
  | 4 => ("FirstSeconds", "quakes", "Ljava/util/ArrayList;", true)
  | 5 => ("FirstSeconds", "kept", "Ljava/util/ArrayList;", true)
  | 6 => ("FirstSeconds", "heap", "LFirstSeconds$Heap;", true)
  | 7 => ("FirstSeconds", "needs", "[I", true)
  | 8 => ("FirstSeconds", "answered", "[I", true)
  | 9 => ("FirstSeconds", "latestFinding", "I", false)
  | 10 => ("FirstSeconds", "now", "I", false)
  | 11 => ("FirstSeconds", "error", "I", false)
  | 12 => ("FirstSeconds", "messages", "I", false)
  | _ => ("FirstSeconds", "latestAsked", "I", false)
def tyX8 : Nat → FieldType := fun k => match k with
  | 0 => .object "FirstSeconds$Travels"
  | 1 => .object "java/util/ArrayList"
  | 2 => .object "java/util/ArrayList"
  | 3 => .object "java/util/ArrayList"
  | 4 => .object "java/util/ArrayList"
  | 5 => .object "java/util/ArrayList"
  | 6 => .object "FirstSeconds$Heap"
  | 7 => .array .int
  | 8 => .array .int
  | 9 => .int
  | 10 => .int
  | 11 => .int
  | 12 => .int
  | _ => .int
abbrev wsX80 : List Cond := u_ws RX8 TX8 14
theorem nmX8 : ∀ a, a < 14 → ∀ b, b < 14 → a ≠ b → (TX8 a).2.1 ≠ (TX8 b).2.1 := by decide +kernel
theorem tyX8_ok : ∀ k, k < 14 → parseFieldDescriptor (TX8 k).2.2.1 = some (tyX8 k) := by decide +kernel
abbrev cX8_init : ByteArray := prog_1_method_1_code
def yX8_init : MethodName := ⟨RX8, "<init>", "()V"⟩
abbrev cX8_rule : ByteArray := prog_1_method_2_code
def yX8_rule : MethodName := ⟨RX8, "rule", "(II)I"⟩
abbrev cX8_station : ByteArray := prog_1_method_3_code
def yX8_station : MethodName := ⟨RX8, "station", "(I)I"⟩
abbrev cX8_town : ByteArray := prog_1_method_4_code
def yX8_town : MethodName := ⟨RX8, "town", "(I)I"⟩
abbrev cX8_travel : ByteArray := prog_1_method_6_code
def yX8_travel : MethodName := ⟨RX8, "travel", "(II)I"⟩
abbrev cX8_later : ByteArray := prog_1_method_7_code
def yX8_later : MethodName := ⟨RX8, "later", "(I)I"⟩
abbrev cX8_pick : ByteArray := prog_1_method_14_code
def yX8_pick : MethodName := ⟨RX8, "pick", "(III)I"⟩
abbrev cX8_quake : ByteArray := prog_1_method_17_code
def yX8_quake : MethodName := ⟨RX8, "quake", "(II)I"⟩
abbrev cX8_holds : ByteArray := prog_1_method_20_code
def yX8_holds : MethodName := ⟨RX8, "holds", "(III)I"⟩
abbrev cX8_late : ByteArray := prog_1_method_27_code
def yX8_late : MethodName := ⟨RX8, "late", "(II)I"⟩
abbrev cX8_left : ByteArray := prog_1_method_28_code
def yX8_left : MethodName := ⟨RX8, "left", "(II)I"⟩
abbrev cX8_count : ByteArray := prog_1_method_30_code
def yX8_count : MethodName := ⟨RX8, "count", "(I)I"⟩
abbrev cX8_isWithin : ByteArray := prog_1_method_34_code
def yX8_isWithin : MethodName := ⟨RX8, "isWithin", "(III)Z"⟩
abbrev cX8_isCell : ByteArray := prog_1_method_35_code
def yX8_isCell : MethodName := ⟨RX8, "isCell", "(I)Z"⟩
abbrev cX8_isStation : ByteArray := prog_1_method_36_code
def yX8_isStation : MethodName := ⟨RX8, "isStation", "(I)Z"⟩
abbrev cX8_isTown : ByteArray := prog_1_method_37_code
def yX8_isTown : MethodName := ⟨RX8, "isTown", "(I)Z"⟩
abbrev cX8_isQuake : ByteArray := prog_1_method_39_code
def yX8_isQuake : MethodName := ⟨RX8, "isQuake", "(I)Z"⟩
abbrev cX8_bits : ByteArray := prog_1_method_42_code
def yX8_bits : MethodName := ⟨RX8, "bits", "(I)I"⟩
abbrev cX8_takerOf : ByteArray := prog_1_method_45_code
def yX8_takerOf : MethodName := ⟨RX8, "takerOf", "(II)I"⟩
abbrev cX8_takes : ByteArray := prog_1_method_46_code
def yX8_takes : MethodName := ⟨RX8, "takes", "(III)Z"⟩
abbrev cX8_isOver : ByteArray := prog_1_method_47_code
def yX8_isOver : MethodName := ⟨RX8, "isOver", "(I)Z"⟩
abbrev cX8_heapOf : ByteArray := prog_1_method_48_code
def yX8_heapOf : MethodName := ⟨RX8, "heapOf", "(I)LFirstSeconds$Heap;"⟩
abbrev cX8_fillHeap : ByteArray := prog_1_method_49_code
def yX8_fillHeap : MethodName := ⟨RX8, "fillHeap", "(LFirstSeconds$Quake;II)V"⟩
abbrev cX8_earliestArrival : ByteArray := prog_1_method_51_code
def yX8_earliestArrival : MethodName := ⟨RX8, "earliestArrival", "(II)I"⟩
abbrev cX8_latestArrival : ByteArray := prog_1_method_52_code
def yX8_latestArrival : MethodName := ⟨RX8, "latestArrival", "(II)I"⟩
def RX9 : String := "FirstSecondsModel"
def TX9 : u_T := fun k => match k with
  | _ => ("", "", "", false)
def tyX9 : Nat → FieldType := fun k => match k with
  | _ => .int
abbrev wsX90 : List Cond := u_ws RX9 TX9 0
theorem nmX9 : ∀ a, a < 0 → ∀ b, b < 0 → a ≠ b → (TX9 a).2.1 ≠ (TX9 b).2.1 := by decide +kernel
theorem tyX9_ok : ∀ k, k < 0 → parseFieldDescriptor (TX9 k).2.2.1 = some (tyX9 k) := by decide +kernel
def RJx145de : String := "java/io/Serializable"
def TJx145de : u_T := fun k => match k with
  | _ => ("", "", "", false)
def tyJx145de : Nat → FieldType := fun k => match k with
  | _ => .int
abbrev wsJx145de0 : List Cond := u_ws RJx145de TJx145de 0
theorem nmJx145de : ∀ a, a < 0 → ∀ b, b < 0 → a ≠ b → (TJx145de a).2.1 ≠ (TJx145de b).2.1 := by decide +kernel
theorem tyJx145de_ok : ∀ k, k < 0 → parseFieldDescriptor (TJx145de k).2.2.1 = some (tyJx145de k) := by decide +kernel
def RJx8e188 : String := "java/lang/Cloneable"
def TJx8e188 : u_T := fun k => match k with
  | _ => ("", "", "", false)
def tyJx8e188 : Nat → FieldType := fun k => match k with
  | _ => .int
abbrev wsJx8e1880 : List Cond := u_ws RJx8e188 TJx8e188 0
theorem nmJx8e188 : ∀ a, a < 0 → ∀ b, b < 0 → a ≠ b → (TJx8e188 a).2.1 ≠ (TJx8e188 b).2.1 := by decide +kernel
theorem tyJx8e188_ok : ∀ k, k < 0 → parseFieldDescriptor (TJx8e188 k).2.2.1 = some (tyJx8e188 k) := by decide +kernel
def RJ6 : String := "java/lang/Integer"
def TJ6 : u_T := fun k => match k with
  | _ => ("", "", "", false)
def tyJ6 : Nat → FieldType := fun k => match k with
  | _ => .int
abbrev wsJ60 : List Cond := u_ws RJ6 TJ6 0
theorem nmJ6 : ∀ a, a < 0 → ∀ b, b < 0 → a ≠ b → (TJ6 a).2.1 ≠ (TJ6 b).2.1 := by decide +kernel
theorem tyJ6_ok : ∀ k, k < 0 → parseFieldDescriptor (TJ6 k).2.2.1 = some (tyJ6 k) := by decide +kernel
abbrev cJ6_numberOfLeadingZeros_0f7a4 : ByteArray := prog_14_method_47_code
def yJ6_numberOfLeadingZeros_0f7a4 : MethodName := ⟨RJ6, "numberOfLeadingZeros", "(I)I"⟩
def RJxab1ab : String := "java/lang/Iterable"
def TJxab1ab : u_T := fun k => match k with
  | _ => ("", "", "", false)
def tyJxab1ab : Nat → FieldType := fun k => match k with
  | _ => .int
abbrev wsJxab1ab0 : List Cond := u_ws RJxab1ab TJxab1ab 0
theorem nmJxab1ab : ∀ a, a < 0 → ∀ b, b < 0 → a ≠ b → (TJxab1ab a).2.1 ≠ (TJxab1ab b).2.1 := by decide +kernel
theorem tyJxab1ab_ok : ∀ k, k < 0 → parseFieldDescriptor (TJxab1ab k).2.2.1 = some (tyJxab1ab k) := by decide +kernel
def RJ9 : String := "java/lang/Math"
def TJ9 : u_T := fun k => match k with
  | _ => ("", "", "", false)
def tyJ9 : Nat → FieldType := fun k => match k with
  | _ => .int
abbrev wsJ90 : List Cond := u_ws RJ9 TJ9 0
theorem nmJ9 : ∀ a, a < 0 → ∀ b, b < 0 → a ≠ b → (TJ9 a).2.1 ≠ (TJ9 b).2.1 := by decide +kernel
theorem tyJ9_ok : ∀ k, k < 0 → parseFieldDescriptor (TJ9 k).2.2.1 = some (tyJ9 k) := by decide +kernel
abbrev cJ9_abs_0f7a4 : ByteArray := prog_16_method_59_code
def yJ9_abs_0f7a4 : MethodName := ⟨RJ9, "abs", "(I)I"⟩
abbrev cJ9_max_7cf53 : ByteArray := prog_16_method_65_code
def yJ9_max_7cf53 : MethodName := ⟨RJ9, "max", "(II)I"⟩
abbrev cJ9_min_7cf53 : ByteArray := prog_16_method_69_code
def yJ9_min_7cf53 : MethodName := ⟨RJ9, "min", "(II)I"⟩
def RJ10 : String := "java/lang/System"
def TJ10 : u_T := fun k => match k with
  | _ => ("", "", "", false)
def tyJ10 : Nat → FieldType := fun k => match k with
  | _ => .int
abbrev wsJ100 : List Cond := u_ws RJ10 TJ10 0
theorem nmJ10 : ∀ a, a < 0 → ∀ b, b < 0 → a ≠ b → (TJ10 a).2.1 ≠ (TJ10 b).2.1 := by decide +kernel
theorem tyJ10_ok : ∀ k, k < 0 → parseFieldDescriptor (TJ10 k).2.2.1 = some (tyJ10 k) := by decide +kernel
def RJxa1e45 : String := "java/util/AbstractCollection"
def TJxa1e45 : u_T := fun k => match k with
  | _ => ("", "", "", false)
def tyJxa1e45 : Nat → FieldType := fun k => match k with
  | _ => .int
abbrev wsJxa1e450 : List Cond := u_ws RJxa1e45 TJxa1e45 0
theorem nmJxa1e45 : ∀ a, a < 0 → ∀ b, b < 0 → a ≠ b → (TJxa1e45 a).2.1 ≠ (TJxa1e45 b).2.1 := by decide +kernel
theorem tyJxa1e45_ok : ∀ k, k < 0 → parseFieldDescriptor (TJxa1e45 k).2.2.1 = some (tyJxa1e45 k) := by decide +kernel
abbrev cJxa1e45_init_da8c8 : ByteArray := prog_18_method_1_code
def yJxa1e45_init_da8c8 : MethodName := ⟨RJxa1e45, "<init>", "()V"⟩
def RJxc12de : String := "java/util/AbstractList"
def TJxc12de : u_T := fun k => match k with
  | _ => ("", "", "", false)
def tyJxc12de : Nat → FieldType := fun k => match k with
  | _ => .int
abbrev wsJxc12de0 : List Cond := u_ws RJxc12de TJxc12de 0
theorem nmJxc12de : ∀ a, a < 0 → ∀ b, b < 0 → a ≠ b → (TJxc12de a).2.1 ≠ (TJxc12de b).2.1 := by decide +kernel
theorem tyJxc12de_ok : ∀ k, k < 0 → parseFieldDescriptor (TJxc12de k).2.2.1 = some (tyJxc12de k) := by decide +kernel
abbrev cJxc12de_init_da8c8 : ByteArray := prog_19_method_1_code
def yJxc12de_init_da8c8 : MethodName := ⟨RJxc12de, "<init>", "()V"⟩
def RJx4a65c : String := "java/util/ArrayList"
def TJx4a65c : u_T := fun k => match k with
  | 0 => ("java/util/AbstractList", "modCount", "I", false)
  | 1 => ("java/util/ArrayList", "elementData", "[Ljava/lang/Object;", false)
  | _ => ("java/util/ArrayList", "size", "I", false)
def tyJx4a65c : Nat → FieldType := fun k => match k with
  | 0 => .int
  | 1 => .array (.object "java/lang/Object")
  | _ => .int
abbrev wsJx4a65c0 : List Cond := u_ws RJx4a65c TJx4a65c 3
theorem nmJx4a65c : ∀ a, a < 3 → ∀ b, b < 3 → a ≠ b → (TJx4a65c a).2.1 ≠ (TJx4a65c b).2.1 := by decide +kernel
theorem tyJx4a65c_ok : ∀ k, k < 3 → parseFieldDescriptor (TJx4a65c k).2.2.1 = some (tyJx4a65c k) := by decide +kernel
abbrev cJx4a65c_init_da8c8 : ByteArray := prog_20_method_2_code
def yJx4a65c_init_da8c8 : MethodName := ⟨RJx4a65c, "<init>", "()V"⟩
abbrev cJx4a65c_grow_92f84 : ByteArray := prog_20_method_6_code
def yJx4a65c_grow_92f84 : MethodName := ⟨RJx4a65c, "grow", "(I)[Ljava/lang/Object;"⟩
abbrev cJx4a65c_grow_d5877 : ByteArray := prog_20_method_7_code
def yJx4a65c_grow_d5877 : MethodName := ⟨RJx4a65c, "grow", "()[Ljava/lang/Object;"⟩
abbrev cJx4a65c_size_8abf5 : ByteArray := prog_20_method_8_code
def yJx4a65c_size_8abf5 : MethodName := ⟨RJx4a65c, "size", "()I"⟩
abbrev cJx4a65c_isEmpty_aae02 : ByteArray := prog_20_method_9_code
def yJx4a65c_isEmpty_aae02 : MethodName := ⟨RJx4a65c, "isEmpty", "()Z"⟩
abbrev cJx4a65c_elementData_915e3 : ByteArray := prog_20_method_18_code
def yJx4a65c_elementData_915e3 : MethodName := ⟨RJx4a65c, "elementData", "(I)Ljava/lang/Object;"⟩
abbrev cJx4a65c_get_915e3 : ByteArray := prog_20_method_20_code
def yJx4a65c_get_915e3 : MethodName := ⟨RJx4a65c, "get", "(I)Ljava/lang/Object;"⟩
abbrev cJx4a65c_add_72be8 : ByteArray := prog_20_method_24_code
def yJx4a65c_add_72be8 : MethodName := ⟨RJx4a65c, "add", "(Ljava/lang/Object;[Ljava/lang/Object;I)V"⟩
abbrev cJx4a65c_add_9ea2d : ByteArray := prog_20_method_25_code
def yJx4a65c_add_9ea2d : MethodName := ⟨RJx4a65c, "add", "(Ljava/lang/Object;)Z"⟩
def RJ7 : String := "java/util/Arrays"
def TJ7 : u_T := fun k => match k with
  | _ => ("", "", "", false)
def tyJ7 : Nat → FieldType := fun k => match k with
  | _ => .int
abbrev wsJ70 : List Cond := u_ws RJ7 TJ7 0
theorem nmJ7 : ∀ a, a < 0 → ∀ b, b < 0 → a ≠ b → (TJ7 a).2.1 ≠ (TJ7 b).2.1 := by decide +kernel
theorem tyJ7_ok : ∀ k, k < 0 → parseFieldDescriptor (TJ7 k).2.2.1 = some (tyJ7 k) := by decide +kernel
abbrev cJ7_copyOf_1904c : ByteArray := prog_21_method_119_code
def yJ7_copyOf_1904c : MethodName := ⟨RJ7, "copyOf", "([Ljava/lang/Object;I)[Ljava/lang/Object;"⟩
abbrev cJ7_copyOf_6403c : ByteArray := prog_21_method_120_code
def yJ7_copyOf_6403c : MethodName := ⟨RJ7, "copyOf", "([Ljava/lang/Object;ILjava/lang/Class;)[Ljava/lang/Object;"⟩
def RJx5ef63 : String := "java/util/Collection"
def TJx5ef63 : u_T := fun k => match k with
  | _ => ("", "", "", false)
def tyJx5ef63 : Nat → FieldType := fun k => match k with
  | _ => .int
abbrev wsJx5ef630 : List Cond := u_ws RJx5ef63 TJx5ef63 0
theorem nmJx5ef63 : ∀ a, a < 0 → ∀ b, b < 0 → a ≠ b → (TJx5ef63 a).2.1 ≠ (TJx5ef63 b).2.1 := by decide +kernel
theorem tyJx5ef63_ok : ∀ k, k < 0 → parseFieldDescriptor (TJx5ef63 k).2.2.1 = some (tyJx5ef63 k) := by decide +kernel
def RJxbd725 : String := "java/util/List"
def TJxbd725 : u_T := fun k => match k with
  | _ => ("", "", "", false)
def tyJxbd725 : Nat → FieldType := fun k => match k with
  | _ => .int
abbrev wsJxbd7250 : List Cond := u_ws RJxbd725 TJxbd725 0
theorem nmJxbd725 : ∀ a, a < 0 → ∀ b, b < 0 → a ≠ b → (TJxbd725 a).2.1 ≠ (TJxbd725 b).2.1 := by decide +kernel
theorem tyJxbd725_ok : ∀ k, k < 0 → parseFieldDescriptor (TJxbd725 k).2.2.1 = some (tyJxbd725 k) := by decide +kernel
def RJ15 : String := "java/util/Objects"
def TJ15 : u_T := fun k => match k with
  | _ => ("", "", "", false)
def tyJ15 : Nat → FieldType := fun k => match k with
  | _ => .int
abbrev wsJ150 : List Cond := u_ws RJ15 TJ15 0
theorem nmJ15 : ∀ a, a < 0 → ∀ b, b < 0 → a ≠ b → (TJ15 a).2.1 ≠ (TJ15 b).2.1 := by decide +kernel
theorem tyJ15_ok : ∀ k, k < 0 → parseFieldDescriptor (TJ15 k).2.2.1 = some (tyJ15 k) := by decide +kernel
abbrev cJ15_checkIndex_7cf53 : ByteArray := prog_24_method_17_code
def yJ15_checkIndex_7cf53 : MethodName := ⟨RJ15, "checkIndex", "(II)I"⟩
def RJxf0a74 : String := "java/util/RandomAccess"
def TJxf0a74 : u_T := fun k => match k with
  | _ => ("", "", "", false)
def tyJxf0a74 : Nat → FieldType := fun k => match k with
  | _ => .int
abbrev wsJxf0a740 : List Cond := u_ws RJxf0a74 TJxf0a74 0
theorem nmJxf0a74 : ∀ a, a < 0 → ∀ b, b < 0 → a ≠ b → (TJxf0a74 a).2.1 ≠ (TJxf0a74 b).2.1 := by decide +kernel
theorem tyJxf0a74_ok : ∀ k, k < 0 → parseFieldDescriptor (TJxf0a74 k).2.2.1 = some (tyJxf0a74 k) := by decide +kernel
def RJxa66e6 : String := "java/util/SequencedCollection"
def TJxa66e6 : u_T := fun k => match k with
  | _ => ("", "", "", false)
def tyJxa66e6 : Nat → FieldType := fun k => match k with
  | _ => .int
abbrev wsJxa66e60 : List Cond := u_ws RJxa66e6 TJxa66e6 0
theorem nmJxa66e6 : ∀ a, a < 0 → ∀ b, b < 0 → a ≠ b → (TJxa66e6 a).2.1 ≠ (TJxa66e6 b).2.1 := by decide +kernel
theorem tyJxa66e6_ok : ∀ k, k < 0 → parseFieldDescriptor (TJxa66e6 k).2.2.1 = some (tyJxa66e6 k) := by decide +kernel
def RJ8 : String := "jdk/internal/util/ArraysSupport"
def TJ8 : u_T := fun k => match k with
  | _ => ("", "", "", false)
def tyJ8 : Nat → FieldType := fun k => match k with
  | _ => .int
abbrev wsJ80 : List Cond := u_ws RJ8 TJ8 0
theorem nmJ8 : ∀ a, a < 0 → ∀ b, b < 0 → a ≠ b → (TJ8 a).2.1 ≠ (TJ8 b).2.1 := by decide +kernel
theorem tyJ8_ok : ∀ k, k < 0 → parseFieldDescriptor (TJ8 k).2.2.1 = some (tyJ8 k) := by decide +kernel
abbrev cJ8_newLength_cabcc : ByteArray := prog_27_method_27_code
def yJ8_newLength_cabcc : MethodName := ⟨RJ8, "newLength", "(III)I"⟩
abbrev cJ8_hugeLength_7cf53 : ByteArray := prog_27_method_28_code
def yJ8_hugeLength_7cf53 : MethodName := ⟨RJ8, "hugeLength", "(II)I"⟩
def RJ3 : String := "jdk/internal/util/Preconditions"
def TJ3 : u_T := fun k => match k with
  | _ => ("", "", "", false)
def tyJ3 : Nat → FieldType := fun k => match k with
  | _ => .int
abbrev wsJ30 : List Cond := u_ws RJ3 TJ3 0
theorem nmJ3 : ∀ a, a < 0 → ∀ b, b < 0 → a ≠ b → (TJ3 a).2.1 ≠ (TJ3 b).2.1 := by decide +kernel
theorem tyJ3_ok : ∀ k, k < 0 → parseFieldDescriptor (TJ3 k).2.2.1 = some (tyJ3 k) := by decide +kernel
abbrev cJ3_checkIndex_8e157 : ByteArray := prog_28_method_11_code
def yJ3_checkIndex_8e157 : MethodName := ⟨RJ3, "checkIndex", "(IILjava/util/function/BiFunction;)I"⟩
def RL : String := "FirstSecondsLaw"
abbrev cL_low : ByteArray := method_2_code
def yL_low : MethodName := ⟨RL, "low", "(II)I"⟩
abbrev cL_cell : ByteArray := method_3_code
def yL_cell : MethodName := ⟨RL, "cell", "([II)I"⟩
abbrev cL_law : ByteArray := code
def yL_law : MethodName := ⟨RL, "law", "([I)Z"⟩
theorem dX0_init_0 : decode cX0_init 0 = .ok (.aload_n 0, 1) := by decide +kernel
theorem dX0_init_1 : decode cX0_init 1 = .ok (.invokespecial 3, 3) := by decide +kernel
theorem dX0_init_4 : decode cX0_init 4 = .ok (.aload_n 0, 1) := by decide +kernel
theorem dX0_init_5 : decode cX0_init 5 = .ok (.sipush 144, 3) := by decide +kernel
theorem dX0_init_8 : decode cX0_init 8 = .ok (.newarray .int, 2) := by decide +kernel
theorem dX0_init_10 : decode cX0_init 10 = .ok (.putfield 9, 3) := by decide +kernel
theorem dX0_init_13 : decode cX0_init 13 = .ok (.aload_n 0, 1) := by decide +kernel
theorem dX0_init_14 : decode cX0_init 14 = .ok (.sipush 144, 3) := by decide +kernel
theorem dX0_init_17 : decode cX0_init 17 = .ok (.newarray .int, 2) := by decide +kernel
theorem dX0_init_19 : decode cX0_init 19 = .ok (.putfield 15, 3) := by decide +kernel
theorem dX0_init_22 : decode cX0_init 22 = .ok (.aload_n 0, 1) := by decide +kernel
theorem dX0_init_23 : decode cX0_init 23 = .ok (.bipush (-9), 2) := by decide +kernel
theorem dX0_init_25 : decode cX0_init 25 = .ok (.putfield 18, 3) := by decide +kernel
theorem dX0_init_28 : decode cX0_init 28 = .ok (.return_, 1) := by decide +kernel
theorem dX0_forget_0 : decode cX0_forget 0 = .ok (.aload_n 0, 1) := by decide +kernel
theorem dX0_forget_1 : decode cX0_forget 1 = .ok (.bipush (-9), 2) := by decide +kernel
theorem dX0_forget_3 : decode cX0_forget 3 = .ok (.putfield 18, 3) := by decide +kernel
theorem dX0_forget_6 : decode cX0_forget 6 = .ok (.return_, 1) := by decide +kernel
theorem dX0_clear_0 : decode cX0_clear 0 = .ok (.aload_n 0, 1) := by decide +kernel
theorem dX0_clear_1 : decode cX0_clear 1 = .ok (.bipush (-9), 2) := by decide +kernel
theorem dX0_clear_3 : decode cX0_clear 3 = .ok (.putfield 18, 3) := by decide +kernel
theorem dX0_clear_6 : decode cX0_clear 6 = .ok (.iconst 0, 1) := by decide +kernel
theorem dX0_clear_7 : decode cX0_clear 7 = .ok (.istore_n 1, 1) := by decide +kernel
theorem dX0_clear_8 : decode cX0_clear 8 = .ok (.iload_n 1, 1) := by decide +kernel
theorem dX0_clear_9 : decode cX0_clear 9 = .ok (.sipush 144, 3) := by decide +kernel
theorem dX0_clear_12 : decode cX0_clear 12 = .ok (.if_icmp .ge 25, 3) := by decide +kernel
theorem dX0_clear_15 : decode cX0_clear 15 = .ok (.aload_n 0, 1) := by decide +kernel
theorem dX0_clear_16 : decode cX0_clear 16 = .ok (.getfield 9, 3) := by decide +kernel
theorem dX0_clear_19 : decode cX0_clear 19 = .ok (.iload_n 1, 1) := by decide +kernel
theorem dX0_clear_20 : decode cX0_clear 20 = .ok (.ldc 22, 2) := by decide +kernel
theorem dX0_clear_22 : decode cX0_clear 22 = .ok (.iastore, 1) := by decide +kernel
theorem dX0_clear_23 : decode cX0_clear 23 = .ok (.aload_n 0, 1) := by decide +kernel
theorem dX0_clear_24 : decode cX0_clear 24 = .ok (.getfield 15, 3) := by decide +kernel
theorem dX0_clear_27 : decode cX0_clear 27 = .ok (.iload_n 1, 1) := by decide +kernel
theorem dX0_clear_28 : decode cX0_clear 28 = .ok (.ldc 23, 2) := by decide +kernel
theorem dX0_clear_30 : decode cX0_clear 30 = .ok (.iastore, 1) := by decide +kernel
theorem dX0_clear_31 : decode cX0_clear 31 = .ok (.iinc 1 1, 3) := by decide +kernel
theorem dX0_clear_34 : decode cX0_clear 34 = .ok (.goto (-26), 3) := by decide +kernel
theorem dX0_clear_37 : decode cX0_clear 37 = .ok (.return_, 1) := by decide +kernel
theorem dX0_narrow_0 : decode cX0_narrow 0 = .ok (.iconst 0, 1) := by decide +kernel
theorem dX0_narrow_1 : decode cX0_narrow 1 = .ok (.istore 5, 2) := by decide +kernel
theorem dX0_narrow_3 : decode cX0_narrow 3 = .ok (.iload 5, 2) := by decide +kernel
theorem dX0_narrow_5 : decode cX0_narrow 5 = .ok (.sipush 144, 3) := by decide +kernel
theorem dX0_narrow_8 : decode cX0_narrow 8 = .ok (.if_icmp .ge 61, 3) := by decide +kernel
theorem dX0_narrow_11 : decode cX0_narrow 11 = .ok (.aload_n 1, 1) := by decide +kernel
theorem dX0_narrow_12 : decode cX0_narrow 12 = .ok (.iload 5, 2) := by decide +kernel
theorem dX0_narrow_14 : decode cX0_narrow 14 = .ok (.iload_n 2, 1) := by decide +kernel
theorem dX0_narrow_15 : decode cX0_narrow 15 = .ok (.invokevirtual 24, 3) := by decide +kernel
theorem dX0_narrow_18 : decode cX0_narrow 18 = .ok (.istore 6, 2) := by decide +kernel
theorem dX0_narrow_20 : decode cX0_narrow 20 = .ok (.aload_n 0, 1) := by decide +kernel
theorem dX0_narrow_21 : decode cX0_narrow 21 = .ok (.getfield 9, 3) := by decide +kernel
theorem dX0_narrow_24 : decode cX0_narrow 24 = .ok (.iload 5, 2) := by decide +kernel
theorem dX0_narrow_26 : decode cX0_narrow 26 = .ok (.aload_n 0, 1) := by decide +kernel
theorem dX0_narrow_27 : decode cX0_narrow 27 = .ok (.getfield 9, 3) := by decide +kernel
theorem dX0_narrow_30 : decode cX0_narrow 30 = .ok (.iload 5, 2) := by decide +kernel
theorem dX0_narrow_32 : decode cX0_narrow 32 = .ok (.iaload, 1) := by decide +kernel
theorem dX0_narrow_33 : decode cX0_narrow 33 = .ok (.iload_n 3, 1) := by decide +kernel
theorem dX0_narrow_34 : decode cX0_narrow 34 = .ok (.iload 6, 2) := by decide +kernel
theorem dX0_narrow_36 : decode cX0_narrow 36 = .ok (.isub, 1) := by decide +kernel
theorem dX0_narrow_37 : decode cX0_narrow 37 = .ok (.invokestatic 30, 3) := by decide +kernel
theorem dX0_narrow_40 : decode cX0_narrow 40 = .ok (.iastore, 1) := by decide +kernel
theorem dX0_narrow_41 : decode cX0_narrow 41 = .ok (.aload_n 0, 1) := by decide +kernel
theorem dX0_narrow_42 : decode cX0_narrow 42 = .ok (.getfield 15, 3) := by decide +kernel
theorem dX0_narrow_45 : decode cX0_narrow 45 = .ok (.iload 5, 2) := by decide +kernel
theorem dX0_narrow_47 : decode cX0_narrow 47 = .ok (.aload_n 0, 1) := by decide +kernel
theorem dX0_narrow_48 : decode cX0_narrow 48 = .ok (.getfield 15, 3) := by decide +kernel
theorem dX0_narrow_51 : decode cX0_narrow 51 = .ok (.iload 5, 2) := by decide +kernel
theorem dX0_narrow_53 : decode cX0_narrow 53 = .ok (.iaload, 1) := by decide +kernel
theorem dX0_narrow_54 : decode cX0_narrow 54 = .ok (.iload 4, 2) := by decide +kernel
theorem dX0_narrow_56 : decode cX0_narrow 56 = .ok (.iload 6, 2) := by decide +kernel
theorem dX0_narrow_58 : decode cX0_narrow 58 = .ok (.isub, 1) := by decide +kernel
theorem dX0_narrow_59 : decode cX0_narrow 59 = .ok (.invokestatic 35, 3) := by decide +kernel
theorem dX0_narrow_62 : decode cX0_narrow 62 = .ok (.iastore, 1) := by decide +kernel
theorem dX0_narrow_63 : decode cX0_narrow 63 = .ok (.iinc 5 1, 3) := by decide +kernel
theorem dX0_narrow_66 : decode cX0_narrow 66 = .ok (.goto (-63), 3) := by decide +kernel
theorem dX0_narrow_69 : decode cX0_narrow 69 = .ok (.return_, 1) := by decide +kernel
theorem dX0_countCells_0 : decode cX0_countCells 0 = .ok (.aload_n 0, 1) := by decide +kernel
theorem dX0_countCells_1 : decode cX0_countCells 1 = .ok (.iconst 0, 1) := by decide +kernel
theorem dX0_countCells_2 : decode cX0_countCells 2 = .ok (.putfield 38, 3) := by decide +kernel
theorem dX0_countCells_5 : decode cX0_countCells 5 = .ok (.iconst 0, 1) := by decide +kernel
theorem dX0_countCells_6 : decode cX0_countCells 6 = .ok (.istore_n 1, 1) := by decide +kernel
theorem dX0_countCells_7 : decode cX0_countCells 7 = .ok (.iload_n 1, 1) := by decide +kernel
theorem dX0_countCells_8 : decode cX0_countCells 8 = .ok (.sipush 144, 3) := by decide +kernel
theorem dX0_countCells_11 : decode cX0_countCells 11 = .ok (.if_icmp .ge 27, 3) := by decide +kernel
theorem dX0_countCells_14 : decode cX0_countCells 14 = .ok (.aload_n 0, 1) := by decide +kernel
theorem dX0_countCells_15 : decode cX0_countCells 15 = .ok (.iload_n 1, 1) := by decide +kernel
theorem dX0_countCells_16 : decode cX0_countCells 16 = .ok (.invokevirtual 41, 3) := by decide +kernel
theorem dX0_countCells_19 : decode cX0_countCells 19 = .ok (.ifCond .eq 13, 3) := by decide +kernel
theorem dX0_countCells_22 : decode cX0_countCells 22 = .ok (.aload_n 0, 1) := by decide +kernel
theorem dX0_countCells_23 : decode cX0_countCells 23 = .ok (.dup, 1) := by decide +kernel
theorem dX0_countCells_24 : decode cX0_countCells 24 = .ok (.getfield 38, 3) := by decide +kernel
theorem dX0_countCells_27 : decode cX0_countCells 27 = .ok (.iconst 1, 1) := by decide +kernel
theorem dX0_countCells_28 : decode cX0_countCells 28 = .ok (.iadd, 1) := by decide +kernel
theorem dX0_countCells_29 : decode cX0_countCells 29 = .ok (.putfield 38, 3) := by decide +kernel
theorem dX0_countCells_32 : decode cX0_countCells 32 = .ok (.iinc 1 1, 3) := by decide +kernel
theorem dX0_countCells_35 : decode cX0_countCells 35 = .ok (.goto (-28), 3) := by decide +kernel
theorem dX0_countCells_38 : decode cX0_countCells 38 = .ok (.return_, 1) := by decide +kernel
theorem dX0_measure_0 : decode cX0_measure 0 = .ok (.aload_n 0, 1) := by decide +kernel
theorem dX0_measure_1 : decode cX0_measure 1 = .ok (.bipush (-9), 2) := by decide +kernel
theorem dX0_measure_3 : decode cX0_measure 3 = .ok (.putfield 45, 3) := by decide +kernel
theorem dX0_measure_6 : decode cX0_measure 6 = .ok (.aload_n 0, 1) := by decide +kernel
theorem dX0_measure_7 : decode cX0_measure 7 = .ok (.bipush (-9), 2) := by decide +kernel
theorem dX0_measure_9 : decode cX0_measure 9 = .ok (.putfield 48, 3) := by decide +kernel
theorem dX0_measure_12 : decode cX0_measure 12 = .ok (.iconst 0, 1) := by decide +kernel
theorem dX0_measure_13 : decode cX0_measure 13 = .ok (.istore 4, 2) := by decide +kernel
theorem dX0_measure_15 : decode cX0_measure 15 = .ok (.iload 4, 2) := by decide +kernel
theorem dX0_measure_17 : decode cX0_measure 17 = .ok (.sipush 144, 3) := by decide +kernel
theorem dX0_measure_20 : decode cX0_measure 20 = .ok (.if_icmp .ge 76, 3) := by decide +kernel
theorem dX0_measure_23 : decode cX0_measure 23 = .ok (.aload_n 0, 1) := by decide +kernel
theorem dX0_measure_24 : decode cX0_measure 24 = .ok (.iload 4, 2) := by decide +kernel
theorem dX0_measure_26 : decode cX0_measure 26 = .ok (.invokevirtual 41, 3) := by decide +kernel
theorem dX0_measure_29 : decode cX0_measure 29 = .ok (.ifCond .ne 6, 3) := by decide +kernel
theorem dX0_measure_32 : decode cX0_measure 32 = .ok (.goto 58, 3) := by decide +kernel
theorem dX0_measure_35 : decode cX0_measure 35 = .ok (.iload_n 3, 1) := by decide +kernel
theorem dX0_measure_36 : decode cX0_measure 36 = .ok (.aload_n 1, 1) := by decide +kernel
theorem dX0_measure_37 : decode cX0_measure 37 = .ok (.iload 4, 2) := by decide +kernel
theorem dX0_measure_39 : decode cX0_measure 39 = .ok (.iload_n 2, 1) := by decide +kernel
theorem dX0_measure_40 : decode cX0_measure 40 = .ok (.invokevirtual 24, 3) := by decide +kernel
theorem dX0_measure_43 : decode cX0_measure 43 = .ok (.iconst 1, 1) := by decide +kernel
theorem dX0_measure_44 : decode cX0_measure 44 = .ok (.iadd, 1) := by decide +kernel
theorem dX0_measure_45 : decode cX0_measure 45 = .ok (.imul, 1) := by decide +kernel
theorem dX0_measure_46 : decode cX0_measure 46 = .ok (.invokestatic 51, 3) := by decide +kernel
theorem dX0_measure_49 : decode cX0_measure 49 = .ok (.istore 5, 2) := by decide +kernel
theorem dX0_measure_51 : decode cX0_measure 51 = .ok (.aload_n 0, 1) := by decide +kernel
theorem dX0_measure_52 : decode cX0_measure 52 = .ok (.getfield 45, 3) := by decide +kernel
theorem dX0_measure_55 : decode cX0_measure 55 = .ok (.bipush (-9), 2) := by decide +kernel
theorem dX0_measure_57 : decode cX0_measure 57 = .ok (.if_icmp .eq 12, 3) := by decide +kernel
theorem dX0_measure_60 : decode cX0_measure 60 = .ok (.iload 5, 2) := by decide +kernel
theorem dX0_measure_62 : decode cX0_measure 62 = .ok (.aload_n 0, 1) := by decide +kernel
theorem dX0_measure_63 : decode cX0_measure 63 = .ok (.getfield 45, 3) := by decide +kernel
theorem dX0_measure_66 : decode cX0_measure 66 = .ok (.if_icmp .ge 9, 3) := by decide +kernel
theorem dX0_measure_69 : decode cX0_measure 69 = .ok (.aload_n 0, 1) := by decide +kernel
theorem dX0_measure_70 : decode cX0_measure 70 = .ok (.iload 5, 2) := by decide +kernel
theorem dX0_measure_72 : decode cX0_measure 72 = .ok (.putfield 45, 3) := by decide +kernel
theorem dX0_measure_75 : decode cX0_measure 75 = .ok (.iload 5, 2) := by decide +kernel
theorem dX0_measure_77 : decode cX0_measure 77 = .ok (.aload_n 0, 1) := by decide +kernel
theorem dX0_measure_78 : decode cX0_measure 78 = .ok (.getfield 48, 3) := by decide +kernel
theorem dX0_measure_81 : decode cX0_measure 81 = .ok (.if_icmp .le 9, 3) := by decide +kernel
theorem dX0_measure_84 : decode cX0_measure 84 = .ok (.aload_n 0, 1) := by decide +kernel
theorem dX0_measure_85 : decode cX0_measure 85 = .ok (.iload 5, 2) := by decide +kernel
theorem dX0_measure_87 : decode cX0_measure 87 = .ok (.putfield 48, 3) := by decide +kernel
theorem dX0_measure_90 : decode cX0_measure 90 = .ok (.iinc 4 1, 3) := by decide +kernel
theorem dX0_measure_93 : decode cX0_measure 93 = .ok (.goto (-78), 3) := by decide +kernel
theorem dX0_measure_96 : decode cX0_measure 96 = .ok (.return_, 1) := by decide +kernel
theorem dX0_has_0 : decode cX0_has 0 = .ok (.aload_n 0, 1) := by decide +kernel
theorem dX0_has_1 : decode cX0_has 1 = .ok (.getfield 9, 3) := by decide +kernel
theorem dX0_has_4 : decode cX0_has 4 = .ok (.iload_n 1, 1) := by decide +kernel
theorem dX0_has_5 : decode cX0_has 5 = .ok (.iaload, 1) := by decide +kernel
theorem dX0_has_6 : decode cX0_has 6 = .ok (.aload_n 0, 1) := by decide +kernel
theorem dX0_has_7 : decode cX0_has 7 = .ok (.getfield 15, 3) := by decide +kernel
theorem dX0_has_10 : decode cX0_has 10 = .ok (.iload_n 1, 1) := by decide +kernel
theorem dX0_has_11 : decode cX0_has 11 = .ok (.iaload, 1) := by decide +kernel
theorem dX0_has_12 : decode cX0_has 12 = .ok (.if_icmp .gt 7, 3) := by decide +kernel
theorem dX0_has_15 : decode cX0_has 15 = .ok (.iconst 1, 1) := by decide +kernel
theorem dX0_has_16 : decode cX0_has 16 = .ok (.goto 4, 3) := by decide +kernel
theorem dX0_has_19 : decode cX0_has 19 = .ok (.iconst 0, 1) := by decide +kernel
theorem dX0_has_20 : decode cX0_has 20 = .ok (.ireturn, 1) := by decide +kernel
theorem dX2_init_0 : decode cX2_init 0 = .ok (.aload_n 0, 1) := by decide +kernel
theorem dX2_init_1 : decode cX2_init 1 = .ok (.invokespecial 3, 3) := by decide +kernel
theorem dX2_init_4 : decode cX2_init 4 = .ok (.aload_n 0, 1) := by decide +kernel
theorem dX2_init_5 : decode cX2_init 5 = .ok (.iload_n 1, 1) := by decide +kernel
theorem dX2_init_6 : decode cX2_init 6 = .ok (.putfield 9, 3) := by decide +kernel
theorem dX2_init_9 : decode cX2_init 9 = .ok (.aload_n 0, 1) := by decide +kernel
theorem dX2_init_10 : decode cX2_init 10 = .ok (.iload_n 2, 1) := by decide +kernel
theorem dX2_init_11 : decode cX2_init 11 = .ok (.putfield 15, 3) := by decide +kernel
theorem dX2_init_14 : decode cX2_init 14 = .ok (.aload_n 0, 1) := by decide +kernel
theorem dX2_init_15 : decode cX2_init 15 = .ok (.iload_n 3, 1) := by decide +kernel
theorem dX2_init_16 : decode cX2_init 16 = .ok (.putfield 18, 3) := by decide +kernel
theorem dX2_init_19 : decode cX2_init 19 = .ok (.aload_n 0, 1) := by decide +kernel
theorem dX2_init_20 : decode cX2_init 20 = .ok (.iload 4, 2) := by decide +kernel
theorem dX2_init_22 : decode cX2_init 22 = .ok (.putfield 21, 3) := by decide +kernel
theorem dX2_init_25 : decode cX2_init 25 = .ok (.aload_n 0, 1) := by decide +kernel
theorem dX2_init_26 : decode cX2_init 26 = .ok (.iload 5, 2) := by decide +kernel
theorem dX2_init_28 : decode cX2_init 28 = .ok (.putfield 24, 3) := by decide +kernel
theorem dX2_init_31 : decode cX2_init 31 = .ok (.return_, 1) := by decide +kernel
theorem dX3_init_0 : decode cX3_init 0 = .ok (.aload_n 0, 1) := by decide +kernel
theorem dX3_init_1 : decode cX3_init 1 = .ok (.invokespecial 3, 3) := by decide +kernel
theorem dX3_init_4 : decode cX3_init 4 = .ok (.aload_n 0, 1) := by decide +kernel
theorem dX3_init_5 : decode cX3_init 5 = .ok (.bipush 10, 2) := by decide +kernel
theorem dX3_init_7 : decode cX3_init 7 = .ok (.newarray .int, 2) := by decide +kernel
theorem dX3_init_9 : decode cX3_init 9 = .ok (.putfield 9, 3) := by decide +kernel
theorem dX3_init_12 : decode cX3_init 12 = .ok (.aload_n 0, 1) := by decide +kernel
theorem dX3_init_13 : decode cX3_init 13 = .ok (.bipush 6, 2) := by decide +kernel
theorem dX3_init_15 : decode cX3_init 15 = .ok (.newarray .int, 2) := by decide +kernel
theorem dX3_init_17 : decode cX3_init 17 = .ok (.putfield 15, 3) := by decide +kernel
theorem dX3_init_20 : decode cX3_init 20 = .ok (.aload_n 0, 1) := by decide +kernel
theorem dX3_init_21 : decode cX3_init 21 = .ok (.bipush 6, 2) := by decide +kernel
theorem dX3_init_23 : decode cX3_init 23 = .ok (.newarray .int, 2) := by decide +kernel
theorem dX3_init_25 : decode cX3_init 25 = .ok (.putfield 18, 3) := by decide +kernel
theorem dX3_init_28 : decode cX3_init 28 = .ok (.aload_n 0, 1) := by decide +kernel
theorem dX3_init_29 : decode cX3_init 29 = .ok (.iload_n 1, 1) := by decide +kernel
theorem dX3_init_30 : decode cX3_init 30 = .ok (.putfield 21, 3) := by decide +kernel
theorem dX3_init_33 : decode cX3_init 33 = .ok (.aload_n 0, 1) := by decide +kernel
theorem dX3_init_34 : decode cX3_init 34 = .ok (.iload_n 3, 1) := by decide +kernel
theorem dX3_init_35 : decode cX3_init 35 = .ok (.putfield 25, 3) := by decide +kernel
theorem dX3_init_38 : decode cX3_init 38 = .ok (.iconst 0, 1) := by decide +kernel
theorem dX3_init_39 : decode cX3_init 39 = .ok (.istore 4, 2) := by decide +kernel
theorem dX3_init_41 : decode cX3_init 41 = .ok (.iload 4, 2) := by decide +kernel
theorem dX3_init_43 : decode cX3_init 43 = .ok (.aload_n 0, 1) := by decide +kernel
theorem dX3_init_44 : decode cX3_init 44 = .ok (.getfield 9, 3) := by decide +kernel
theorem dX3_init_47 : decode cX3_init 47 = .ok (.arraylength, 1) := by decide +kernel
theorem dX3_init_48 : decode cX3_init 48 = .ok (.if_icmp .ge 17, 3) := by decide +kernel
theorem dX3_init_51 : decode cX3_init 51 = .ok (.aload_n 0, 1) := by decide +kernel
theorem dX3_init_52 : decode cX3_init 52 = .ok (.getfield 9, 3) := by decide +kernel
theorem dX3_init_55 : decode cX3_init 55 = .ok (.iload 4, 2) := by decide +kernel
theorem dX3_init_57 : decode cX3_init 57 = .ok (.iconst (-1), 1) := by decide +kernel
theorem dX3_init_58 : decode cX3_init 58 = .ok (.iastore, 1) := by decide +kernel
theorem dX3_init_59 : decode cX3_init 59 = .ok (.iinc 4 1, 3) := by decide +kernel
theorem dX3_init_62 : decode cX3_init 62 = .ok (.goto (-21), 3) := by decide +kernel
theorem dX3_init_65 : decode cX3_init 65 = .ok (.aload_n 0, 1) := by decide +kernel
theorem dX3_init_66 : decode cX3_init 66 = .ok (.iload_n 1, 1) := by decide +kernel
theorem dX3_init_67 : decode cX3_init 67 = .ok (.iload_n 2, 1) := by decide +kernel
theorem dX3_init_68 : decode cX3_init 68 = .ok (.invokevirtual 28, 3) := by decide +kernel
theorem dX3_init_71 : decode cX3_init 71 = .ok (.return_, 1) := by decide +kernel
theorem dX3_hears_0 : decode cX3_hears 0 = .ok (.aload_n 0, 1) := by decide +kernel
theorem dX3_hears_1 : decode cX3_hears 1 = .ok (.getfield 9, 3) := by decide +kernel
theorem dX3_hears_4 : decode cX3_hears 4 = .ok (.iload_n 1, 1) := by decide +kernel
theorem dX3_hears_5 : decode cX3_hears 5 = .ok (.iaload, 1) := by decide +kernel
theorem dX3_hears_6 : decode cX3_hears 6 = .ok (.iconst (-1), 1) := by decide +kernel
theorem dX3_hears_7 : decode cX3_hears 7 = .ok (.if_icmp .eq 7, 3) := by decide +kernel
theorem dX3_hears_10 : decode cX3_hears 10 = .ok (.iconst 1, 1) := by decide +kernel
theorem dX3_hears_11 : decode cX3_hears 11 = .ok (.goto 4, 3) := by decide +kernel
theorem dX3_hears_14 : decode cX3_hears 14 = .ok (.iconst 0, 1) := by decide +kernel
theorem dX3_hears_15 : decode cX3_hears 15 = .ok (.ireturn, 1) := by decide +kernel
theorem dX3_hear_0 : decode cX3_hear 0 = .ok (.aload_n 0, 1) := by decide +kernel
theorem dX3_hear_1 : decode cX3_hear 1 = .ok (.getfield 9, 3) := by decide +kernel
theorem dX3_hear_4 : decode cX3_hear 4 = .ok (.iload_n 1, 1) := by decide +kernel
theorem dX3_hear_5 : decode cX3_hear 5 = .ok (.iload_n 2, 1) := by decide +kernel
theorem dX3_hear_6 : decode cX3_hear 6 = .ok (.iastore, 1) := by decide +kernel
theorem dX3_hear_7 : decode cX3_hear 7 = .ok (.aload_n 0, 1) := by decide +kernel
theorem dX3_hear_8 : decode cX3_hear 8 = .ok (.dup, 1) := by decide +kernel
theorem dX3_hear_9 : decode cX3_hear 9 = .ok (.getfield 32, 3) := by decide +kernel
theorem dX3_hear_12 : decode cX3_hear 12 = .ok (.iconst 1, 1) := by decide +kernel
theorem dX3_hear_13 : decode cX3_hear 13 = .ok (.iadd, 1) := by decide +kernel
theorem dX3_hear_14 : decode cX3_hear 14 = .ok (.putfield 32, 3) := by decide +kernel
theorem dX3_hear_17 : decode cX3_hear 17 = .ok (.return_, 1) := by decide +kernel
theorem dX4_init_0 : decode cX4_init 0 = .ok (.aload_n 0, 1) := by decide +kernel
theorem dX4_init_1 : decode cX4_init 1 = .ok (.invokespecial 3, 3) := by decide +kernel
theorem dX4_init_4 : decode cX4_init 4 = .ok (.aload_n 0, 1) := by decide +kernel
theorem dX4_init_5 : decode cX4_init 5 = .ok (.bipush 30, 2) := by decide +kernel
theorem dX4_init_7 : decode cX4_init 7 = .ok (.newarray .int, 2) := by decide +kernel
theorem dX4_init_9 : decode cX4_init 9 = .ok (.putfield 9, 3) := by decide +kernel
theorem dX4_init_12 : decode cX4_init 12 = .ok (.aload_n 0, 1) := by decide +kernel
theorem dX4_init_13 : decode cX4_init 13 = .ok (.iconst (-1), 1) := by decide +kernel
theorem dX4_init_14 : decode cX4_init 14 = .ok (.putfield 15, 3) := by decide +kernel
theorem dX4_init_17 : decode cX4_init 17 = .ok (.return_, 1) := by decide +kernel
theorem dX5_init_0 : decode cX5_init 0 = .ok (.aload_n 0, 1) := by decide +kernel
theorem dX5_init_1 : decode cX5_init 1 = .ok (.invokespecial 1, 3) := by decide +kernel
theorem dX5_init_4 : decode cX5_init 4 = .ok (.aload_n 0, 1) := by decide +kernel
theorem dX5_init_5 : decode cX5_init 5 = .ok (.new 7, 3) := by decide +kernel
theorem dX5_init_8 : decode cX5_init 8 = .ok (.dup, 1) := by decide +kernel
theorem dX5_init_9 : decode cX5_init 9 = .ok (.invokespecial 9, 3) := by decide +kernel
theorem dX5_init_12 : decode cX5_init 12 = .ok (.putfield 10, 3) := by decide +kernel
theorem dX5_init_15 : decode cX5_init 15 = .ok (.aload_n 0, 1) := by decide +kernel
theorem dX5_init_16 : decode cX5_init 16 = .ok (.iload_n 1, 1) := by decide +kernel
theorem dX5_init_17 : decode cX5_init 17 = .ok (.putfield 16, 3) := by decide +kernel
theorem dX5_init_20 : decode cX5_init 20 = .ok (.return_, 1) := by decide +kernel
theorem dX6_init_0 : decode cX6_init 0 = .ok (.aload_n 0, 1) := by decide +kernel
theorem dX6_init_1 : decode cX6_init 1 = .ok (.invokespecial 1, 3) := by decide +kernel
theorem dX6_init_4 : decode cX6_init 4 = .ok (.aload_n 0, 1) := by decide +kernel
theorem dX6_init_5 : decode cX6_init 5 = .ok (.iload_n 1, 1) := by decide +kernel
theorem dX6_init_6 : decode cX6_init 6 = .ok (.putfield 7, 3) := by decide +kernel
theorem dX6_init_9 : decode cX6_init 9 = .ok (.return_, 1) := by decide +kernel
theorem dX7_init_0 : decode cX7_init 0 = .ok (.aload_n 0, 1) := by decide +kernel
theorem dX7_init_1 : decode cX7_init 1 = .ok (.invokespecial 3, 3) := by decide +kernel
theorem dX7_init_4 : decode cX7_init 4 = .ok (.aload_n 0, 1) := by decide +kernel
theorem dX7_init_5 : decode cX7_init 5 = .ok (.sipush 144, 3) := by decide +kernel
theorem dX7_init_8 : decode cX7_init 8 = .ok (.newarray .int, 2) := by decide +kernel
theorem dX7_init_10 : decode cX7_init 10 = .ok (.putfield 9, 3) := by decide +kernel
theorem dX7_init_13 : decode cX7_init 13 = .ok (.aload_n 0, 1) := by decide +kernel
theorem dX7_init_14 : decode cX7_init 14 = .ok (.iload_n 1, 1) := by decide +kernel
theorem dX7_init_15 : decode cX7_init 15 = .ok (.invokevirtual 15, 3) := by decide +kernel
theorem dX7_init_18 : decode cX7_init 18 = .ok (.return_, 1) := by decide +kernel
theorem dX7_reckon_0 : decode cX7_reckon 0 = .ok (.iconst 0, 1) := by decide +kernel
theorem dX7_reckon_1 : decode cX7_reckon 1 = .ok (.istore_n 2, 1) := by decide +kernel
theorem dX7_reckon_2 : decode cX7_reckon 2 = .ok (.iload_n 2, 1) := by decide +kernel
theorem dX7_reckon_3 : decode cX7_reckon 3 = .ok (.sipush 144, 3) := by decide +kernel
theorem dX7_reckon_6 : decode cX7_reckon 6 = .ok (.if_icmp .ge 40, 3) := by decide +kernel
theorem dX7_reckon_9 : decode cX7_reckon 9 = .ok (.iload_n 2, 1) := by decide +kernel
theorem dX7_reckon_10 : decode cX7_reckon 10 = .ok (.bipush 12, 2) := by decide +kernel
theorem dX7_reckon_12 : decode cX7_reckon 12 = .ok (.idiv, 1) := by decide +kernel
theorem dX7_reckon_13 : decode cX7_reckon 13 = .ok (.istore_n 3, 1) := by decide +kernel
theorem dX7_reckon_14 : decode cX7_reckon 14 = .ok (.iload_n 2, 1) := by decide +kernel
theorem dX7_reckon_15 : decode cX7_reckon 15 = .ok (.bipush 12, 2) := by decide +kernel
theorem dX7_reckon_17 : decode cX7_reckon 17 = .ok (.irem, 1) := by decide +kernel
theorem dX7_reckon_18 : decode cX7_reckon 18 = .ok (.istore 4, 2) := by decide +kernel
theorem dX7_reckon_20 : decode cX7_reckon 20 = .ok (.aload_n 0, 1) := by decide +kernel
theorem dX7_reckon_21 : decode cX7_reckon 21 = .ok (.getfield 9, 3) := by decide +kernel
theorem dX7_reckon_24 : decode cX7_reckon 24 = .ok (.iload_n 2, 1) := by decide +kernel
theorem dX7_reckon_25 : decode cX7_reckon 25 = .ok (.iload_n 1, 1) := by decide +kernel
theorem dX7_reckon_26 : decode cX7_reckon 26 = .ok (.iload_n 3, 1) := by decide +kernel
theorem dX7_reckon_27 : decode cX7_reckon 27 = .ok (.iload_n 3, 1) := by decide +kernel
theorem dX7_reckon_28 : decode cX7_reckon 28 = .ok (.imul, 1) := by decide +kernel
theorem dX7_reckon_29 : decode cX7_reckon 29 = .ok (.iload 4, 2) := by decide +kernel
theorem dX7_reckon_31 : decode cX7_reckon 31 = .ok (.iload 4, 2) := by decide +kernel
theorem dX7_reckon_33 : decode cX7_reckon 33 = .ok (.imul, 1) := by decide +kernel
theorem dX7_reckon_34 : decode cX7_reckon 34 = .ok (.iadd, 1) := by decide +kernel
theorem dX7_reckon_35 : decode cX7_reckon 35 = .ok (.imul, 1) := by decide +kernel
theorem dX7_reckon_36 : decode cX7_reckon 36 = .ok (.invokestatic 19, 3) := by decide +kernel
theorem dX7_reckon_39 : decode cX7_reckon 39 = .ok (.iastore, 1) := by decide +kernel
theorem dX7_reckon_40 : decode cX7_reckon 40 = .ok (.iinc 2 1, 3) := by decide +kernel
theorem dX7_reckon_43 : decode cX7_reckon 43 = .ok (.goto (-41), 3) := by decide +kernel
theorem dX7_reckon_46 : decode cX7_reckon 46 = .ok (.return_, 1) := by decide +kernel
theorem dX7_between_0 : decode cX7_between 0 = .ok (.iload_n 1, 1) := by decide +kernel
theorem dX7_between_1 : decode cX7_between 1 = .ok (.bipush 12, 2) := by decide +kernel
theorem dX7_between_3 : decode cX7_between 3 = .ok (.idiv, 1) := by decide +kernel
theorem dX7_between_4 : decode cX7_between 4 = .ok (.iload_n 2, 1) := by decide +kernel
theorem dX7_between_5 : decode cX7_between 5 = .ok (.bipush 12, 2) := by decide +kernel
theorem dX7_between_7 : decode cX7_between 7 = .ok (.idiv, 1) := by decide +kernel
theorem dX7_between_8 : decode cX7_between 8 = .ok (.isub, 1) := by decide +kernel
theorem dX7_between_9 : decode cX7_between 9 = .ok (.invokestatic 23, 3) := by decide +kernel
theorem dX7_between_12 : decode cX7_between 12 = .ok (.istore_n 3, 1) := by decide +kernel
theorem dX7_between_13 : decode cX7_between 13 = .ok (.iload_n 1, 1) := by decide +kernel
theorem dX7_between_14 : decode cX7_between 14 = .ok (.bipush 12, 2) := by decide +kernel
theorem dX7_between_16 : decode cX7_between 16 = .ok (.irem, 1) := by decide +kernel
theorem dX7_between_17 : decode cX7_between 17 = .ok (.iload_n 2, 1) := by decide +kernel
theorem dX7_between_18 : decode cX7_between 18 = .ok (.bipush 12, 2) := by decide +kernel
theorem dX7_between_20 : decode cX7_between 20 = .ok (.irem, 1) := by decide +kernel
theorem dX7_between_21 : decode cX7_between 21 = .ok (.isub, 1) := by decide +kernel
theorem dX7_between_22 : decode cX7_between 22 = .ok (.invokestatic 23, 3) := by decide +kernel
theorem dX7_between_25 : decode cX7_between 25 = .ok (.istore 4, 2) := by decide +kernel
theorem dX7_between_27 : decode cX7_between 27 = .ok (.aload_n 0, 1) := by decide +kernel
theorem dX7_between_28 : decode cX7_between 28 = .ok (.getfield 9, 3) := by decide +kernel
theorem dX7_between_31 : decode cX7_between 31 = .ok (.bipush 12, 2) := by decide +kernel
theorem dX7_between_33 : decode cX7_between 33 = .ok (.iload_n 3, 1) := by decide +kernel
theorem dX7_between_34 : decode cX7_between 34 = .ok (.imul, 1) := by decide +kernel
theorem dX7_between_35 : decode cX7_between 35 = .ok (.iload 4, 2) := by decide +kernel
theorem dX7_between_37 : decode cX7_between 37 = .ok (.iadd, 1) := by decide +kernel
theorem dX7_between_38 : decode cX7_between 38 = .ok (.iaload, 1) := by decide +kernel
theorem dX7_between_39 : decode cX7_between 39 = .ok (.ireturn, 1) := by decide +kernel
theorem dX7_root_0 : decode cX7_root 0 = .ok (.iconst 0, 1) := by decide +kernel
theorem dX7_root_1 : decode cX7_root 1 = .ok (.istore_n 1, 1) := by decide +kernel
theorem dX7_root_2 : decode cX7_root 2 = .ok (.sipush 256, 3) := by decide +kernel
theorem dX7_root_5 : decode cX7_root 5 = .ok (.istore_n 2, 1) := by decide +kernel
theorem dX7_root_6 : decode cX7_root 6 = .ok (.iload_n 2, 1) := by decide +kernel
theorem dX7_root_7 : decode cX7_root 7 = .ok (.ifCond .le 25, 3) := by decide +kernel
theorem dX7_root_10 : decode cX7_root 10 = .ok (.iload_n 1, 1) := by decide +kernel
theorem dX7_root_11 : decode cX7_root 11 = .ok (.iload_n 2, 1) := by decide +kernel
theorem dX7_root_12 : decode cX7_root 12 = .ok (.iadd, 1) := by decide +kernel
theorem dX7_root_13 : decode cX7_root 13 = .ok (.iload_n 1, 1) := by decide +kernel
theorem dX7_root_14 : decode cX7_root 14 = .ok (.iload_n 2, 1) := by decide +kernel
theorem dX7_root_15 : decode cX7_root 15 = .ok (.iadd, 1) := by decide +kernel
theorem dX7_root_16 : decode cX7_root 16 = .ok (.imul, 1) := by decide +kernel
theorem dX7_root_17 : decode cX7_root 17 = .ok (.iload_n 0, 1) := by decide +kernel
theorem dX7_root_18 : decode cX7_root 18 = .ok (.if_icmp .gt 7, 3) := by decide +kernel
theorem dX7_root_21 : decode cX7_root 21 = .ok (.iload_n 1, 1) := by decide +kernel
theorem dX7_root_22 : decode cX7_root 22 = .ok (.iload_n 2, 1) := by decide +kernel
theorem dX7_root_23 : decode cX7_root 23 = .ok (.iadd, 1) := by decide +kernel
theorem dX7_root_24 : decode cX7_root 24 = .ok (.istore_n 1, 1) := by decide +kernel
theorem dX7_root_25 : decode cX7_root 25 = .ok (.iload_n 2, 1) := by decide +kernel
theorem dX7_root_26 : decode cX7_root 26 = .ok (.iconst 2, 1) := by decide +kernel
theorem dX7_root_27 : decode cX7_root 27 = .ok (.idiv, 1) := by decide +kernel
theorem dX7_root_28 : decode cX7_root 28 = .ok (.istore_n 2, 1) := by decide +kernel
theorem dX7_root_29 : decode cX7_root 29 = .ok (.goto (-23), 3) := by decide +kernel
theorem dX7_root_32 : decode cX7_root 32 = .ok (.iload_n 1, 1) := by decide +kernel
theorem dX7_root_33 : decode cX7_root 33 = .ok (.ireturn, 1) := by decide +kernel
theorem dX8_init_0 : decode cX8_init 0 = .ok (.aload_n 0, 1) := by decide +kernel
theorem dX8_init_1 : decode cX8_init 1 = .ok (.invokespecial 3, 3) := by decide +kernel
theorem dX8_init_4 : decode cX8_init 4 = .ok (.aload_n 0, 1) := by decide +kernel
theorem dX8_init_5 : decode cX8_init 5 = .ok (.new 9, 3) := by decide +kernel
theorem dX8_init_8 : decode cX8_init 8 = .ok (.dup, 1) := by decide +kernel
theorem dX8_init_9 : decode cX8_init 9 = .ok (.bipush 100, 2) := by decide +kernel
theorem dX8_init_11 : decode cX8_init 11 = .ok (.invokespecial 11, 3) := by decide +kernel
theorem dX8_init_14 : decode cX8_init 14 = .ok (.putfield 14, 3) := by decide +kernel
theorem dX8_init_17 : decode cX8_init 17 = .ok (.aload_n 0, 1) := by decide +kernel
theorem dX8_init_18 : decode cX8_init 18 = .ok (.new 18, 3) := by decide +kernel
theorem dX8_init_21 : decode cX8_init 21 = .ok (.dup, 1) := by decide +kernel
theorem dX8_init_22 : decode cX8_init 22 = .ok (.invokespecial 20, 3) := by decide +kernel
theorem dX8_init_25 : decode cX8_init 25 = .ok (.putfield 21, 3) := by decide +kernel
theorem dX8_init_28 : decode cX8_init 28 = .ok (.aload_n 0, 1) := by decide +kernel
theorem dX8_init_29 : decode cX8_init 29 = .ok (.new 18, 3) := by decide +kernel
theorem dX8_init_32 : decode cX8_init 32 = .ok (.dup, 1) := by decide +kernel
theorem dX8_init_33 : decode cX8_init 33 = .ok (.invokespecial 20, 3) := by decide +kernel
theorem dX8_init_36 : decode cX8_init 36 = .ok (.putfield 25, 3) := by decide +kernel
theorem dX8_init_39 : decode cX8_init 39 = .ok (.aload_n 0, 1) := by decide +kernel
theorem dX8_init_40 : decode cX8_init 40 = .ok (.new 18, 3) := by decide +kernel
theorem dX8_init_43 : decode cX8_init 43 = .ok (.dup, 1) := by decide +kernel
theorem dX8_init_44 : decode cX8_init 44 = .ok (.invokespecial 20, 3) := by decide +kernel
theorem dX8_init_47 : decode cX8_init 47 = .ok (.putfield 28, 3) := by decide +kernel
theorem dX8_init_50 : decode cX8_init 50 = .ok (.aload_n 0, 1) := by decide +kernel
theorem dX8_init_51 : decode cX8_init 51 = .ok (.new 18, 3) := by decide +kernel
theorem dX8_init_54 : decode cX8_init 54 = .ok (.dup, 1) := by decide +kernel
theorem dX8_init_55 : decode cX8_init 55 = .ok (.invokespecial 20, 3) := by decide +kernel
theorem dX8_init_58 : decode cX8_init 58 = .ok (.putfield 31, 3) := by decide +kernel
theorem dX8_init_61 : decode cX8_init 61 = .ok (.aload_n 0, 1) := by decide +kernel
theorem dX8_init_62 : decode cX8_init 62 = .ok (.new 18, 3) := by decide +kernel
theorem dX8_init_65 : decode cX8_init 65 = .ok (.dup, 1) := by decide +kernel
theorem dX8_init_66 : decode cX8_init 66 = .ok (.invokespecial 20, 3) := by decide +kernel
theorem dX8_init_69 : decode cX8_init 69 = .ok (.putfield 34, 3) := by decide +kernel
theorem dX8_init_72 : decode cX8_init 72 = .ok (.aload_n 0, 1) := by decide +kernel
theorem dX8_init_73 : decode cX8_init 73 = .ok (.new 37, 3) := by decide +kernel
theorem dX8_init_76 : decode cX8_init 76 = .ok (.dup, 1) := by decide +kernel
theorem dX8_init_77 : decode cX8_init 77 = .ok (.invokespecial 39, 3) := by decide +kernel
theorem dX8_init_80 : decode cX8_init 80 = .ok (.putfield 40, 3) := by decide +kernel
theorem dX8_init_83 : decode cX8_init 83 = .ok (.aload_n 0, 1) := by decide +kernel
theorem dX8_init_84 : decode cX8_init 84 = .ok (.bipush 6, 2) := by decide +kernel
theorem dX8_init_86 : decode cX8_init 86 = .ok (.newarray .int, 2) := by decide +kernel
theorem dX8_init_88 : decode cX8_init 88 = .ok (.dup, 1) := by decide +kernel
theorem dX8_init_89 : decode cX8_init 89 = .ok (.iconst 0, 1) := by decide +kernel
theorem dX8_init_90 : decode cX8_init 90 = .ok (.iconst 0, 1) := by decide +kernel
theorem dX8_init_91 : decode cX8_init 91 = .ok (.iastore, 1) := by decide +kernel
theorem dX8_init_92 : decode cX8_init 92 = .ok (.dup, 1) := by decide +kernel
theorem dX8_init_93 : decode cX8_init 93 = .ok (.iconst 1, 1) := by decide +kernel
theorem dX8_init_94 : decode cX8_init 94 = .ok (.iconst 4, 1) := by decide +kernel
theorem dX8_init_95 : decode cX8_init 95 = .ok (.iastore, 1) := by decide +kernel
theorem dX8_init_96 : decode cX8_init 96 = .ok (.dup, 1) := by decide +kernel
theorem dX8_init_97 : decode cX8_init 97 = .ok (.iconst 2, 1) := by decide +kernel
theorem dX8_init_98 : decode cX8_init 98 = .ok (.bipush 8, 2) := by decide +kernel
theorem dX8_init_100 : decode cX8_init 100 = .ok (.iastore, 1) := by decide +kernel
theorem dX8_init_101 : decode cX8_init 101 = .ok (.dup, 1) := by decide +kernel
theorem dX8_init_102 : decode cX8_init 102 = .ok (.iconst 3, 1) := by decide +kernel
theorem dX8_init_103 : decode cX8_init 103 = .ok (.bipush 12, 2) := by decide +kernel
theorem dX8_init_105 : decode cX8_init 105 = .ok (.iastore, 1) := by decide +kernel
theorem dX8_init_106 : decode cX8_init 106 = .ok (.dup, 1) := by decide +kernel
theorem dX8_init_107 : decode cX8_init 107 = .ok (.iconst 4, 1) := by decide +kernel
theorem dX8_init_108 : decode cX8_init 108 = .ok (.bipush 16, 2) := by decide +kernel
theorem dX8_init_110 : decode cX8_init 110 = .ok (.iastore, 1) := by decide +kernel
theorem dX8_init_111 : decode cX8_init 111 = .ok (.dup, 1) := by decide +kernel
theorem dX8_init_112 : decode cX8_init 112 = .ok (.iconst 5, 1) := by decide +kernel
theorem dX8_init_113 : decode cX8_init 113 = .ok (.bipush 61, 2) := by decide +kernel
theorem dX8_init_115 : decode cX8_init 115 = .ok (.iastore, 1) := by decide +kernel
theorem dX8_init_116 : decode cX8_init 116 = .ok (.putfield 44, 3) := by decide +kernel
theorem dX8_init_119 : decode cX8_init 119 = .ok (.aload_n 0, 1) := by decide +kernel
theorem dX8_init_120 : decode cX8_init 120 = .ok (.bipush 6, 2) := by decide +kernel
theorem dX8_init_122 : decode cX8_init 122 = .ok (.newarray .int, 2) := by decide +kernel
theorem dX8_init_124 : decode cX8_init 124 = .ok (.putfield 48, 3) := by decide +kernel
theorem dX8_init_127 : decode cX8_init 127 = .ok (.aload_n 0, 1) := by decide +kernel
theorem dX8_init_128 : decode cX8_init 128 = .ok (.iconst 2, 1) := by decide +kernel
theorem dX8_init_129 : decode cX8_init 129 = .ok (.putfield 51, 3) := by decide +kernel
theorem dX8_init_132 : decode cX8_init 132 = .ok (.return_, 1) := by decide +kernel
theorem dX8_rule_0 : decode cX8_rule 0 = .ok (.iload_n 1, 1) := by decide +kernel
theorem dX8_rule_1 : decode cX8_rule 1 = .ok (.iconst 1, 1) := by decide +kernel
theorem dX8_rule_2 : decode cX8_rule 2 = .ok (.sipush 400, 3) := by decide +kernel
theorem dX8_rule_5 : decode cX8_rule 5 = .ok (.invokestatic 55, 3) := by decide +kernel
theorem dX8_rule_8 : decode cX8_rule 8 = .ok (.ifCond .eq 13, 3) := by decide +kernel
theorem dX8_rule_11 : decode cX8_rule 11 = .ok (.iload_n 2, 1) := by decide +kernel
theorem dX8_rule_12 : decode cX8_rule 12 = .ok (.iconst 0, 1) := by decide +kernel
theorem dX8_rule_13 : decode cX8_rule 13 = .ok (.bipush 50, 2) := by decide +kernel
theorem dX8_rule_15 : decode cX8_rule 15 = .ok (.invokestatic 55, 3) := by decide +kernel
theorem dX8_rule_18 : decode cX8_rule 18 = .ok (.ifCond .ne 5, 3) := by decide +kernel
theorem dX8_rule_21 : decode cX8_rule 21 = .ok (.iconst (-1), 1) := by decide +kernel
theorem dX8_rule_22 : decode cX8_rule 22 = .ok (.ireturn, 1) := by decide +kernel
theorem dX8_rule_23 : decode cX8_rule 23 = .ok (.aload_n 0, 1) := by decide +kernel
theorem dX8_rule_24 : decode cX8_rule 24 = .ok (.getfield 28, 3) := by decide +kernel
theorem dX8_rule_27 : decode cX8_rule 27 = .ok (.invokevirtual 59, 3) := by decide +kernel
theorem dX8_rule_30 : decode cX8_rule 30 = .ok (.ifCond .ne 6, 3) := by decide +kernel
theorem dX8_rule_33 : decode cX8_rule 33 = .ok (.bipush (-4), 2) := by decide +kernel
theorem dX8_rule_35 : decode cX8_rule 35 = .ok (.ireturn, 1) := by decide +kernel
theorem dX8_rule_36 : decode cX8_rule 36 = .ok (.aload_n 0, 1) := by decide +kernel
theorem dX8_rule_37 : decode cX8_rule 37 = .ok (.getfield 14, 3) := by decide +kernel
theorem dX8_rule_40 : decode cX8_rule 40 = .ok (.iload_n 1, 1) := by decide +kernel
theorem dX8_rule_41 : decode cX8_rule 41 = .ok (.invokevirtual 63, 3) := by decide +kernel
theorem dX8_rule_44 : decode cX8_rule 44 = .ok (.aload_n 0, 1) := by decide +kernel
theorem dX8_rule_45 : decode cX8_rule 45 = .ok (.iload_n 2, 1) := by decide +kernel
theorem dX8_rule_46 : decode cX8_rule 46 = .ok (.putfield 51, 3) := by decide +kernel
theorem dX8_rule_49 : decode cX8_rule 49 = .ok (.iconst 1, 1) := by decide +kernel
theorem dX8_rule_50 : decode cX8_rule 50 = .ok (.ireturn, 1) := by decide +kernel
theorem dX8_station_0 : decode cX8_station 0 = .ok (.iload_n 1, 1) := by decide +kernel
theorem dX8_station_1 : decode cX8_station 1 = .ok (.invokestatic 66, 3) := by decide +kernel
theorem dX8_station_4 : decode cX8_station 4 = .ok (.ifCond .ne 5, 3) := by decide +kernel
theorem dX8_station_7 : decode cX8_station 7 = .ok (.iconst (-1), 1) := by decide +kernel
theorem dX8_station_8 : decode cX8_station 8 = .ok (.ireturn, 1) := by decide +kernel
theorem dX8_station_9 : decode cX8_station 9 = .ok (.aload_n 0, 1) := by decide +kernel
theorem dX8_station_10 : decode cX8_station 10 = .ok (.getfield 21, 3) := by decide +kernel
theorem dX8_station_13 : decode cX8_station 13 = .ok (.invokevirtual 70, 3) := by decide +kernel
theorem dX8_station_16 : decode cX8_station 16 = .ok (.bipush 10, 2) := by decide +kernel
theorem dX8_station_18 : decode cX8_station 18 = .ok (.if_icmp .lt 6, 3) := by decide +kernel
theorem dX8_station_21 : decode cX8_station 21 = .ok (.bipush (-2), 2) := by decide +kernel
theorem dX8_station_23 : decode cX8_station 23 = .ok (.ireturn, 1) := by decide +kernel
theorem dX8_station_24 : decode cX8_station 24 = .ok (.aload_n 0, 1) := by decide +kernel
theorem dX8_station_25 : decode cX8_station 25 = .ok (.getfield 28, 3) := by decide +kernel
theorem dX8_station_28 : decode cX8_station 28 = .ok (.invokevirtual 59, 3) := by decide +kernel
theorem dX8_station_31 : decode cX8_station 31 = .ok (.ifCond .ne 6, 3) := by decide +kernel
theorem dX8_station_34 : decode cX8_station 34 = .ok (.bipush (-4), 2) := by decide +kernel
theorem dX8_station_36 : decode cX8_station 36 = .ok (.ireturn, 1) := by decide +kernel
theorem dX8_station_37 : decode cX8_station 37 = .ok (.aload_n 0, 1) := by decide +kernel
theorem dX8_station_38 : decode cX8_station 38 = .ok (.getfield 21, 3) := by decide +kernel
theorem dX8_station_41 : decode cX8_station 41 = .ok (.new 74, 3) := by decide +kernel
theorem dX8_station_44 : decode cX8_station 44 = .ok (.dup, 1) := by decide +kernel
theorem dX8_station_45 : decode cX8_station 45 = .ok (.iload_n 1, 1) := by decide +kernel
theorem dX8_station_46 : decode cX8_station 46 = .ok (.invokespecial 76, 3) := by decide +kernel
theorem dX8_station_49 : decode cX8_station 49 = .ok (.invokevirtual 77, 3) := by decide +kernel
theorem dX8_station_52 : decode cX8_station 52 = .ok (.pop, 1) := by decide +kernel
theorem dX8_station_53 : decode cX8_station 53 = .ok (.aload_n 0, 1) := by decide +kernel
theorem dX8_station_54 : decode cX8_station 54 = .ok (.getfield 21, 3) := by decide +kernel
theorem dX8_station_57 : decode cX8_station 57 = .ok (.invokevirtual 70, 3) := by decide +kernel
theorem dX8_station_60 : decode cX8_station 60 = .ok (.iconst 1, 1) := by decide +kernel
theorem dX8_station_61 : decode cX8_station 61 = .ok (.isub, 1) := by decide +kernel
theorem dX8_station_62 : decode cX8_station 62 = .ok (.ireturn, 1) := by decide +kernel
theorem dX8_town_0 : decode cX8_town 0 = .ok (.iload_n 1, 1) := by decide +kernel
theorem dX8_town_1 : decode cX8_town 1 = .ok (.invokestatic 66, 3) := by decide +kernel
theorem dX8_town_4 : decode cX8_town 4 = .ok (.ifCond .ne 5, 3) := by decide +kernel
theorem dX8_town_7 : decode cX8_town 7 = .ok (.iconst (-1), 1) := by decide +kernel
theorem dX8_town_8 : decode cX8_town 8 = .ok (.ireturn, 1) := by decide +kernel
theorem dX8_town_9 : decode cX8_town 9 = .ok (.aload_n 0, 1) := by decide +kernel
theorem dX8_town_10 : decode cX8_town 10 = .ok (.getfield 25, 3) := by decide +kernel
theorem dX8_town_13 : decode cX8_town 13 = .ok (.invokevirtual 70, 3) := by decide +kernel
theorem dX8_town_16 : decode cX8_town 16 = .ok (.bipush 6, 2) := by decide +kernel
theorem dX8_town_18 : decode cX8_town 18 = .ok (.if_icmp .lt 6, 3) := by decide +kernel
theorem dX8_town_21 : decode cX8_town 21 = .ok (.bipush (-2), 2) := by decide +kernel
theorem dX8_town_23 : decode cX8_town 23 = .ok (.ireturn, 1) := by decide +kernel
theorem dX8_town_24 : decode cX8_town 24 = .ok (.aload_n 0, 1) := by decide +kernel
theorem dX8_town_25 : decode cX8_town 25 = .ok (.getfield 25, 3) := by decide +kernel
theorem dX8_town_28 : decode cX8_town 28 = .ok (.new 81, 3) := by decide +kernel
theorem dX8_town_31 : decode cX8_town 31 = .ok (.dup, 1) := by decide +kernel
theorem dX8_town_32 : decode cX8_town 32 = .ok (.iload_n 1, 1) := by decide +kernel
theorem dX8_town_33 : decode cX8_town 33 = .ok (.invokespecial 83, 3) := by decide +kernel
theorem dX8_town_36 : decode cX8_town 36 = .ok (.invokevirtual 77, 3) := by decide +kernel
theorem dX8_town_39 : decode cX8_town 39 = .ok (.pop, 1) := by decide +kernel
theorem dX8_town_40 : decode cX8_town 40 = .ok (.aload_n 0, 1) := by decide +kernel
theorem dX8_town_41 : decode cX8_town 41 = .ok (.getfield 25, 3) := by decide +kernel
theorem dX8_town_44 : decode cX8_town 44 = .ok (.invokevirtual 70, 3) := by decide +kernel
theorem dX8_town_47 : decode cX8_town 47 = .ok (.iconst 1, 1) := by decide +kernel
theorem dX8_town_48 : decode cX8_town 48 = .ok (.isub, 1) := by decide +kernel
theorem dX8_town_49 : decode cX8_town 49 = .ok (.ireturn, 1) := by decide +kernel
theorem dX8_travel_0 : decode cX8_travel 0 = .ok (.iload_n 1, 1) := by decide +kernel
theorem dX8_travel_1 : decode cX8_travel 1 = .ok (.invokestatic 66, 3) := by decide +kernel
theorem dX8_travel_4 : decode cX8_travel 4 = .ok (.ifCond .eq 10, 3) := by decide +kernel
theorem dX8_travel_7 : decode cX8_travel 7 = .ok (.iload_n 2, 1) := by decide +kernel
theorem dX8_travel_8 : decode cX8_travel 8 = .ok (.invokestatic 66, 3) := by decide +kernel
theorem dX8_travel_11 : decode cX8_travel 11 = .ok (.ifCond .ne 5, 3) := by decide +kernel
theorem dX8_travel_14 : decode cX8_travel 14 = .ok (.iconst (-1), 1) := by decide +kernel
theorem dX8_travel_15 : decode cX8_travel 15 = .ok (.ireturn, 1) := by decide +kernel
theorem dX8_travel_16 : decode cX8_travel 16 = .ok (.aload_n 0, 1) := by decide +kernel
theorem dX8_travel_17 : decode cX8_travel 17 = .ok (.getfield 14, 3) := by decide +kernel
theorem dX8_travel_20 : decode cX8_travel 20 = .ok (.iload_n 1, 1) := by decide +kernel
theorem dX8_travel_21 : decode cX8_travel 21 = .ok (.iload_n 2, 1) := by decide +kernel
theorem dX8_travel_22 : decode cX8_travel 22 = .ok (.invokevirtual 98, 3) := by decide +kernel
theorem dX8_travel_25 : decode cX8_travel 25 = .ok (.ireturn, 1) := by decide +kernel
theorem dX8_later_0 : decode cX8_later 0 = .ok (.iload_n 1, 1) := by decide +kernel
theorem dX8_later_1 : decode cX8_later 1 = .ok (.iconst 0, 1) := by decide +kernel
theorem dX8_later_2 : decode cX8_later 2 = .ok (.ldc 102, 2) := by decide +kernel
theorem dX8_later_4 : decode cX8_later 4 = .ok (.aload_n 0, 1) := by decide +kernel
theorem dX8_later_5 : decode cX8_later 5 = .ok (.getfield 103, 3) := by decide +kernel
theorem dX8_later_8 : decode cX8_later 8 = .ok (.isub, 1) := by decide +kernel
theorem dX8_later_9 : decode cX8_later 9 = .ok (.invokestatic 55, 3) := by decide +kernel
theorem dX8_later_12 : decode cX8_later 12 = .ok (.ifCond .ne 5, 3) := by decide +kernel
theorem dX8_later_15 : decode cX8_later 15 = .ok (.iconst (-1), 1) := by decide +kernel
theorem dX8_later_16 : decode cX8_later 16 = .ok (.ireturn, 1) := by decide +kernel
theorem dX8_later_17 : decode cX8_later 17 = .ok (.aload_n 0, 1) := by decide +kernel
theorem dX8_later_18 : decode cX8_later 18 = .ok (.dup, 1) := by decide +kernel
theorem dX8_later_19 : decode cX8_later 19 = .ok (.getfield 103, 3) := by decide +kernel
theorem dX8_later_22 : decode cX8_later 22 = .ok (.iload_n 1, 1) := by decide +kernel
theorem dX8_later_23 : decode cX8_later 23 = .ok (.iadd, 1) := by decide +kernel
theorem dX8_later_24 : decode cX8_later 24 = .ok (.putfield 103, 3) := by decide +kernel
theorem dX8_later_27 : decode cX8_later 27 = .ok (.aload_n 0, 1) := by decide +kernel
theorem dX8_later_28 : decode cX8_later 28 = .ok (.getfield 40, 3) := by decide +kernel
theorem dX8_later_31 : decode cX8_later 31 = .ok (.invokevirtual 95, 3) := by decide +kernel
theorem dX8_later_34 : decode cX8_later 34 = .ok (.aload_n 0, 1) := by decide +kernel
theorem dX8_later_35 : decode cX8_later 35 = .ok (.getfield 103, 3) := by decide +kernel
theorem dX8_later_38 : decode cX8_later 38 = .ok (.ireturn, 1) := by decide +kernel
theorem dX8_pick_0 : decode cX8_pick 0 = .ok (.aload_n 0, 1) := by decide +kernel
theorem dX8_pick_1 : decode cX8_pick 1 = .ok (.iload_n 1, 1) := by decide +kernel
theorem dX8_pick_2 : decode cX8_pick 2 = .ok (.invokevirtual 84, 3) := by decide +kernel
theorem dX8_pick_5 : decode cX8_pick 5 = .ok (.ifCond .ne 5, 3) := by decide +kernel
theorem dX8_pick_8 : decode cX8_pick 8 = .ok (.iconst (-1), 1) := by decide +kernel
theorem dX8_pick_9 : decode cX8_pick 9 = .ok (.ireturn, 1) := by decide +kernel
theorem dX8_pick_10 : decode cX8_pick 10 = .ok (.iload_n 2, 1) := by decide +kernel
theorem dX8_pick_11 : decode cX8_pick 11 = .ok (.iconst 0, 1) := by decide +kernel
theorem dX8_pick_12 : decode cX8_pick 12 = .ok (.aload_n 0, 1) := by decide +kernel
theorem dX8_pick_13 : decode cX8_pick 13 = .ok (.getfield 103, 3) := by decide +kernel
theorem dX8_pick_16 : decode cX8_pick 16 = .ok (.invokestatic 55, 3) := by decide +kernel
theorem dX8_pick_19 : decode cX8_pick 19 = .ok (.ifCond .eq 13, 3) := by decide +kernel
theorem dX8_pick_22 : decode cX8_pick 22 = .ok (.iload_n 3, 1) := by decide +kernel
theorem dX8_pick_23 : decode cX8_pick 23 = .ok (.iconst 1, 1) := by decide +kernel
theorem dX8_pick_24 : decode cX8_pick 24 = .ok (.ldc 149, 2) := by decide +kernel
theorem dX8_pick_26 : decode cX8_pick 26 = .ok (.invokestatic 55, 3) := by decide +kernel
theorem dX8_pick_29 : decode cX8_pick 29 = .ok (.ifCond .ne 5, 3) := by decide +kernel
theorem dX8_pick_32 : decode cX8_pick 32 = .ok (.iconst (-1), 1) := by decide +kernel
theorem dX8_pick_33 : decode cX8_pick 33 = .ok (.ireturn, 1) := by decide +kernel
theorem dX8_pick_34 : decode cX8_pick 34 = .ok (.aload_n 0, 1) := by decide +kernel
theorem dX8_pick_35 : decode cX8_pick 35 = .ok (.getfield 28, 3) := by decide +kernel
theorem dX8_pick_38 : decode cX8_pick 38 = .ok (.invokevirtual 70, 3) := by decide +kernel
theorem dX8_pick_41 : decode cX8_pick 41 = .ok (.bipush 60, 2) := by decide +kernel
theorem dX8_pick_43 : decode cX8_pick 43 = .ok (.if_icmp .lt 6, 3) := by decide +kernel
theorem dX8_pick_46 : decode cX8_pick 46 = .ok (.bipush (-2), 2) := by decide +kernel
theorem dX8_pick_48 : decode cX8_pick 48 = .ok (.ireturn, 1) := by decide +kernel
theorem dX8_pick_49 : decode cX8_pick 49 = .ok (.aload_n 0, 1) := by decide +kernel
theorem dX8_pick_50 : decode cX8_pick 50 = .ok (.iload_n 1, 1) := by decide +kernel
theorem dX8_pick_51 : decode cX8_pick 51 = .ok (.iload_n 2, 1) := by decide +kernel
theorem dX8_pick_52 : decode cX8_pick 52 = .ok (.invokevirtual 150, 3) := by decide +kernel
theorem dX8_pick_55 : decode cX8_pick 55 = .ok (.istore 4, 2) := by decide +kernel
theorem dX8_pick_57 : decode cX8_pick 57 = .ok (.iload 4, 2) := by decide +kernel
theorem dX8_pick_59 : decode cX8_pick 59 = .ok (.bipush (-9), 2) := by decide +kernel
theorem dX8_pick_61 : decode cX8_pick 61 = .ok (.if_icmp .eq 51, 3) := by decide +kernel
theorem dX8_pick_64 : decode cX8_pick 64 = .ok (.aload_n 0, 1) := by decide +kernel
theorem dX8_pick_65 : decode cX8_pick 65 = .ok (.getfield 31, 3) := by decide +kernel
theorem dX8_pick_68 : decode cX8_pick 68 = .ok (.iload 4, 2) := by decide +kernel
theorem dX8_pick_70 : decode cX8_pick 70 = .ok (.invokevirtual 87, 3) := by decide +kernel
theorem dX8_pick_73 : decode cX8_pick 73 = .ok (.checkcast 153, 3) := by decide +kernel
theorem dX8_pick_76 : decode cX8_pick 76 = .ok (.iload_n 1, 1) := by decide +kernel
theorem dX8_pick_77 : decode cX8_pick 77 = .ok (.iload_n 2, 1) := by decide +kernel
theorem dX8_pick_78 : decode cX8_pick 78 = .ok (.invokevirtual 155, 3) := by decide +kernel
theorem dX8_pick_81 : decode cX8_pick 81 = .ok (.aload_n 0, 1) := by decide +kernel
theorem dX8_pick_82 : decode cX8_pick 82 = .ok (.getfield 40, 3) := by decide +kernel
theorem dX8_pick_85 : decode cX8_pick 85 = .ok (.invokevirtual 95, 3) := by decide +kernel
theorem dX8_pick_88 : decode cX8_pick 88 = .ok (.aload_n 0, 1) := by decide +kernel
theorem dX8_pick_89 : decode cX8_pick 89 = .ok (.getfield 28, 3) := by decide +kernel
theorem dX8_pick_92 : decode cX8_pick 92 = .ok (.new 159, 3) := by decide +kernel
theorem dX8_pick_95 : decode cX8_pick 95 = .ok (.dup, 1) := by decide +kernel
theorem dX8_pick_96 : decode cX8_pick 96 = .ok (.iload_n 1, 1) := by decide +kernel
theorem dX8_pick_97 : decode cX8_pick 97 = .ok (.iload_n 2, 1) := by decide +kernel
theorem dX8_pick_98 : decode cX8_pick 98 = .ok (.iload_n 3, 1) := by decide +kernel
theorem dX8_pick_99 : decode cX8_pick 99 = .ok (.iconst 1, 1) := by decide +kernel
theorem dX8_pick_100 : decode cX8_pick 100 = .ok (.iload 4, 2) := by decide +kernel
theorem dX8_pick_102 : decode cX8_pick 102 = .ok (.invokespecial 161, 3) := by decide +kernel
theorem dX8_pick_105 : decode cX8_pick 105 = .ok (.invokevirtual 77, 3) := by decide +kernel
theorem dX8_pick_108 : decode cX8_pick 108 = .ok (.pop, 1) := by decide +kernel
theorem dX8_pick_109 : decode cX8_pick 109 = .ok (.iload 4, 2) := by decide +kernel
theorem dX8_pick_111 : decode cX8_pick 111 = .ok (.ireturn, 1) := by decide +kernel
theorem dX8_pick_112 : decode cX8_pick 112 = .ok (.aload_n 0, 1) := by decide +kernel
theorem dX8_pick_113 : decode cX8_pick 113 = .ok (.getfield 31, 3) := by decide +kernel
theorem dX8_pick_116 : decode cX8_pick 116 = .ok (.invokevirtual 70, 3) := by decide +kernel
theorem dX8_pick_119 : decode cX8_pick 119 = .ok (.iconst 5, 1) := by decide +kernel
theorem dX8_pick_120 : decode cX8_pick 120 = .ok (.if_icmp .ge 57, 3) := by decide +kernel
theorem dX8_pick_123 : decode cX8_pick 123 = .ok (.aload_n 0, 1) := by decide +kernel
theorem dX8_pick_124 : decode cX8_pick 124 = .ok (.getfield 31, 3) := by decide +kernel
theorem dX8_pick_127 : decode cX8_pick 127 = .ok (.invokevirtual 70, 3) := by decide +kernel
theorem dX8_pick_130 : decode cX8_pick 130 = .ok (.istore 5, 2) := by decide +kernel
theorem dX8_pick_132 : decode cX8_pick 132 = .ok (.aload_n 0, 1) := by decide +kernel
theorem dX8_pick_133 : decode cX8_pick 133 = .ok (.getfield 31, 3) := by decide +kernel
theorem dX8_pick_136 : decode cX8_pick 136 = .ok (.new 153, 3) := by decide +kernel
theorem dX8_pick_139 : decode cX8_pick 139 = .ok (.dup, 1) := by decide +kernel
theorem dX8_pick_140 : decode cX8_pick 140 = .ok (.iload_n 1, 1) := by decide +kernel
theorem dX8_pick_141 : decode cX8_pick 141 = .ok (.iload_n 2, 1) := by decide +kernel
theorem dX8_pick_142 : decode cX8_pick 142 = .ok (.iload_n 3, 1) := by decide +kernel
theorem dX8_pick_143 : decode cX8_pick 143 = .ok (.invokespecial 164, 3) := by decide +kernel
theorem dX8_pick_146 : decode cX8_pick 146 = .ok (.invokevirtual 77, 3) := by decide +kernel
theorem dX8_pick_149 : decode cX8_pick 149 = .ok (.pop, 1) := by decide +kernel
theorem dX8_pick_150 : decode cX8_pick 150 = .ok (.aload_n 0, 1) := by decide +kernel
theorem dX8_pick_151 : decode cX8_pick 151 = .ok (.getfield 28, 3) := by decide +kernel
theorem dX8_pick_154 : decode cX8_pick 154 = .ok (.new 159, 3) := by decide +kernel
theorem dX8_pick_157 : decode cX8_pick 157 = .ok (.dup, 1) := by decide +kernel
theorem dX8_pick_158 : decode cX8_pick 158 = .ok (.iload_n 1, 1) := by decide +kernel
theorem dX8_pick_159 : decode cX8_pick 159 = .ok (.iload_n 2, 1) := by decide +kernel
theorem dX8_pick_160 : decode cX8_pick 160 = .ok (.iload_n 3, 1) := by decide +kernel
theorem dX8_pick_161 : decode cX8_pick 161 = .ok (.iconst 2, 1) := by decide +kernel
theorem dX8_pick_162 : decode cX8_pick 162 = .ok (.iload 5, 2) := by decide +kernel
theorem dX8_pick_164 : decode cX8_pick 164 = .ok (.invokespecial 161, 3) := by decide +kernel
theorem dX8_pick_167 : decode cX8_pick 167 = .ok (.invokevirtual 77, 3) := by decide +kernel
theorem dX8_pick_170 : decode cX8_pick 170 = .ok (.pop, 1) := by decide +kernel
theorem dX8_pick_171 : decode cX8_pick 171 = .ok (.bipush 10, 2) := by decide +kernel
theorem dX8_pick_173 : decode cX8_pick 173 = .ok (.iload 5, 2) := by decide +kernel
theorem dX8_pick_175 : decode cX8_pick 175 = .ok (.iadd, 1) := by decide +kernel
theorem dX8_pick_176 : decode cX8_pick 176 = .ok (.ireturn, 1) := by decide +kernel
theorem dX8_pick_177 : decode cX8_pick 177 = .ok (.aload_n 0, 1) := by decide +kernel
theorem dX8_pick_178 : decode cX8_pick 178 = .ok (.getfield 28, 3) := by decide +kernel
theorem dX8_pick_181 : decode cX8_pick 181 = .ok (.new 159, 3) := by decide +kernel
theorem dX8_pick_184 : decode cX8_pick 184 = .ok (.dup, 1) := by decide +kernel
theorem dX8_pick_185 : decode cX8_pick 185 = .ok (.iload_n 1, 1) := by decide +kernel
theorem dX8_pick_186 : decode cX8_pick 186 = .ok (.iload_n 2, 1) := by decide +kernel
theorem dX8_pick_187 : decode cX8_pick 187 = .ok (.iload_n 3, 1) := by decide +kernel
theorem dX8_pick_188 : decode cX8_pick 188 = .ok (.iconst 3, 1) := by decide +kernel
theorem dX8_pick_189 : decode cX8_pick 189 = .ok (.bipush (-9), 2) := by decide +kernel
theorem dX8_pick_191 : decode cX8_pick 191 = .ok (.invokespecial 161, 3) := by decide +kernel
theorem dX8_pick_194 : decode cX8_pick 194 = .ok (.invokevirtual 77, 3) := by decide +kernel
theorem dX8_pick_197 : decode cX8_pick 197 = .ok (.pop, 1) := by decide +kernel
theorem dX8_pick_198 : decode cX8_pick 198 = .ok (.bipush (-9), 2) := by decide +kernel
theorem dX8_pick_200 : decode cX8_pick 200 = .ok (.ireturn, 1) := by decide +kernel
theorem dX8_quake_0 : decode cX8_quake 0 = .ok (.aload_n 0, 1) := by decide +kernel
theorem dX8_quake_1 : decode cX8_quake 1 = .ok (.iload_n 1, 1) := by decide +kernel
theorem dX8_quake_2 : decode cX8_quake 2 = .ok (.invokevirtual 188, 3) := by decide +kernel
theorem dX8_quake_5 : decode cX8_quake 5 = .ok (.ifCond .ne 5, 3) := by decide +kernel
theorem dX8_quake_8 : decode cX8_quake 8 = .ok (.iconst (-1), 1) := by decide +kernel
theorem dX8_quake_9 : decode cX8_quake 9 = .ok (.ireturn, 1) := by decide +kernel
theorem dX8_quake_10 : decode cX8_quake 10 = .ok (.iload_n 2, 1) := by decide +kernel
theorem dX8_quake_11 : decode cX8_quake 11 = .ok (.tableswitch 89 0 4 #[33, 48, 57, 66, 75], 33) := by decide +kernel
theorem dX8_quake_44 : decode cX8_quake 44 = .ok (.aload_n 0, 1) := by decide +kernel
theorem dX8_quake_45 : decode cX8_quake 45 = .ok (.getfield 31, 3) := by decide +kernel
theorem dX8_quake_48 : decode cX8_quake 48 = .ok (.iload_n 1, 1) := by decide +kernel
theorem dX8_quake_49 : decode cX8_quake 49 = .ok (.invokevirtual 87, 3) := by decide +kernel
theorem dX8_quake_52 : decode cX8_quake 52 = .ok (.checkcast 153, 3) := by decide +kernel
theorem dX8_quake_55 : decode cX8_quake 55 = .ok (.getfield 191, 3) := by decide +kernel
theorem dX8_quake_58 : decode cX8_quake 58 = .ok (.ireturn, 1) := by decide +kernel
theorem dX8_quake_59 : decode cX8_quake 59 = .ok (.aload_n 0, 1) := by decide +kernel
theorem dX8_quake_60 : decode cX8_quake 60 = .ok (.iload_n 1, 1) := by decide +kernel
theorem dX8_quake_61 : decode cX8_quake 61 = .ok (.invokevirtual 194, 3) := by decide +kernel
theorem dX8_quake_64 : decode cX8_quake 64 = .ok (.getfield 198, 3) := by decide +kernel
theorem dX8_quake_67 : decode cX8_quake 67 = .ok (.ireturn, 1) := by decide +kernel
theorem dX8_quake_68 : decode cX8_quake 68 = .ok (.aload_n 0, 1) := by decide +kernel
theorem dX8_quake_69 : decode cX8_quake 69 = .ok (.iload_n 1, 1) := by decide +kernel
theorem dX8_quake_70 : decode cX8_quake 70 = .ok (.invokevirtual 194, 3) := by decide +kernel
theorem dX8_quake_73 : decode cX8_quake 73 = .ok (.getfield 201, 3) := by decide +kernel
theorem dX8_quake_76 : decode cX8_quake 76 = .ok (.ireturn, 1) := by decide +kernel
theorem dX8_quake_77 : decode cX8_quake 77 = .ok (.aload_n 0, 1) := by decide +kernel
theorem dX8_quake_78 : decode cX8_quake 78 = .ok (.iload_n 1, 1) := by decide +kernel
theorem dX8_quake_79 : decode cX8_quake 79 = .ok (.invokevirtual 194, 3) := by decide +kernel
theorem dX8_quake_82 : decode cX8_quake 82 = .ok (.getfield 204, 3) := by decide +kernel
theorem dX8_quake_85 : decode cX8_quake 85 = .ok (.ireturn, 1) := by decide +kernel
theorem dX8_quake_86 : decode cX8_quake 86 = .ok (.aload_n 0, 1) := by decide +kernel
theorem dX8_quake_87 : decode cX8_quake 87 = .ok (.iload_n 1, 1) := by decide +kernel
theorem dX8_quake_88 : decode cX8_quake 88 = .ok (.invokevirtual 207, 3) := by decide +kernel
theorem dX8_quake_91 : decode cX8_quake 91 = .ok (.ifCond .eq 7, 3) := by decide +kernel
theorem dX8_quake_94 : decode cX8_quake 94 = .ok (.iconst 1, 1) := by decide +kernel
theorem dX8_quake_95 : decode cX8_quake 95 = .ok (.goto 4, 3) := by decide +kernel
theorem dX8_quake_98 : decode cX8_quake 98 = .ok (.iconst 0, 1) := by decide +kernel
theorem dX8_quake_99 : decode cX8_quake 99 = .ok (.ireturn, 1) := by decide +kernel
theorem dX8_quake_100 : decode cX8_quake 100 = .ok (.iconst (-1), 1) := by decide +kernel
theorem dX8_quake_101 : decode cX8_quake 101 = .ok (.ireturn, 1) := by decide +kernel
theorem dX8_holds_0 : decode cX8_holds 0 = .ok (.aload_n 0, 1) := by decide +kernel
theorem dX8_holds_1 : decode cX8_holds 1 = .ok (.iload_n 1, 1) := by decide +kernel
theorem dX8_holds_2 : decode cX8_holds 2 = .ok (.invokevirtual 188, 3) := by decide +kernel
theorem dX8_holds_5 : decode cX8_holds 5 = .ok (.ifCond .eq 10, 3) := by decide +kernel
theorem dX8_holds_8 : decode cX8_holds 8 = .ok (.iload_n 2, 1) := by decide +kernel
theorem dX8_holds_9 : decode cX8_holds 9 = .ok (.invokestatic 66, 3) := by decide +kernel
theorem dX8_holds_12 : decode cX8_holds 12 = .ok (.ifCond .ne 5, 3) := by decide +kernel
theorem dX8_holds_15 : decode cX8_holds 15 = .ok (.iconst (-1), 1) := by decide +kernel
theorem dX8_holds_16 : decode cX8_holds 16 = .ok (.ireturn, 1) := by decide +kernel
theorem dX8_holds_17 : decode cX8_holds 17 = .ok (.aload_n 0, 1) := by decide +kernel
theorem dX8_holds_18 : decode cX8_holds 18 = .ok (.iload_n 1, 1) := by decide +kernel
theorem dX8_holds_19 : decode cX8_holds 19 = .ok (.invokevirtual 194, 3) := by decide +kernel
theorem dX8_holds_22 : decode cX8_holds 22 = .ok (.astore 4, 2) := by decide +kernel
theorem dX8_holds_24 : decode cX8_holds 24 = .ok (.iload_n 3, 1) := by decide +kernel
theorem dX8_holds_25 : decode cX8_holds 25 = .ok (.aload 4, 2) := by decide +kernel
theorem dX8_holds_27 : decode cX8_holds 27 = .ok (.getfield 218, 3) := by decide +kernel
theorem dX8_holds_30 : decode cX8_holds 30 = .ok (.iload_n 2, 1) := by decide +kernel
theorem dX8_holds_31 : decode cX8_holds 31 = .ok (.iaload, 1) := by decide +kernel
theorem dX8_holds_32 : decode cX8_holds 32 = .ok (.aload 4, 2) := by decide +kernel
theorem dX8_holds_34 : decode cX8_holds 34 = .ok (.getfield 215, 3) := by decide +kernel
theorem dX8_holds_37 : decode cX8_holds 37 = .ok (.iload_n 2, 1) := by decide +kernel
theorem dX8_holds_38 : decode cX8_holds 38 = .ok (.iaload, 1) := by decide +kernel
theorem dX8_holds_39 : decode cX8_holds 39 = .ok (.invokestatic 55, 3) := by decide +kernel
theorem dX8_holds_42 : decode cX8_holds 42 = .ok (.ifCond .eq 7, 3) := by decide +kernel
theorem dX8_holds_45 : decode cX8_holds 45 = .ok (.iconst 1, 1) := by decide +kernel
theorem dX8_holds_46 : decode cX8_holds 46 = .ok (.goto 4, 3) := by decide +kernel
theorem dX8_holds_49 : decode cX8_holds 49 = .ok (.iconst 0, 1) := by decide +kernel
theorem dX8_holds_50 : decode cX8_holds 50 = .ok (.ireturn, 1) := by decide +kernel
theorem dX8_late_0 : decode cX8_late 0 = .ok (.aload_n 0, 1) := by decide +kernel
theorem dX8_late_1 : decode cX8_late 1 = .ok (.iload_n 1, 1) := by decide +kernel
theorem dX8_late_2 : decode cX8_late 2 = .ok (.invokevirtual 221, 3) := by decide +kernel
theorem dX8_late_5 : decode cX8_late 5 = .ok (.ifCond .eq 11, 3) := by decide +kernel
theorem dX8_late_8 : decode cX8_late 8 = .ok (.aload_n 0, 1) := by decide +kernel
theorem dX8_late_9 : decode cX8_late 9 = .ok (.iload_n 2, 1) := by decide +kernel
theorem dX8_late_10 : decode cX8_late 10 = .ok (.invokevirtual 188, 3) := by decide +kernel
theorem dX8_late_13 : decode cX8_late 13 = .ok (.ifCond .ne 5, 3) := by decide +kernel
theorem dX8_late_16 : decode cX8_late 16 = .ok (.iconst (-1), 1) := by decide +kernel
theorem dX8_late_17 : decode cX8_late 17 = .ok (.ireturn, 1) := by decide +kernel
theorem dX8_late_18 : decode cX8_late 18 = .ok (.aload_n 0, 1) := by decide +kernel
theorem dX8_late_19 : decode cX8_late 19 = .ok (.iload_n 2, 1) := by decide +kernel
theorem dX8_late_20 : decode cX8_late 20 = .ok (.invokevirtual 207, 3) := by decide +kernel
theorem dX8_late_23 : decode cX8_late 23 = .ok (.ifCond .eq 6, 3) := by decide +kernel
theorem dX8_late_26 : decode cX8_late 26 = .ok (.bipush (-9), 2) := by decide +kernel
theorem dX8_late_28 : decode cX8_late 28 = .ok (.ireturn, 1) := by decide +kernel
theorem dX8_late_29 : decode cX8_late 29 = .ok (.aload_n 0, 1) := by decide +kernel
theorem dX8_late_30 : decode cX8_late 30 = .ok (.iload_n 1, 1) := by decide +kernel
theorem dX8_late_31 : decode cX8_late 31 = .ok (.iload_n 2, 1) := by decide +kernel
theorem dX8_late_32 : decode cX8_late 32 = .ok (.invokevirtual 255, 3) := by decide +kernel
theorem dX8_late_35 : decode cX8_late 35 = .ok (.aload_n 0, 1) := by decide +kernel
theorem dX8_late_36 : decode cX8_late 36 = .ok (.getfield 103, 3) := by decide +kernel
theorem dX8_late_39 : decode cX8_late 39 = .ok (.if_icmp .gt 5, 3) := by decide +kernel
theorem dX8_late_42 : decode cX8_late 42 = .ok (.iconst 1, 1) := by decide +kernel
theorem dX8_late_43 : decode cX8_late 43 = .ok (.ireturn, 1) := by decide +kernel
theorem dX8_late_44 : decode cX8_late 44 = .ok (.aload_n 0, 1) := by decide +kernel
theorem dX8_late_45 : decode cX8_late 45 = .ok (.iload_n 1, 1) := by decide +kernel
theorem dX8_late_46 : decode cX8_late 46 = .ok (.iload_n 2, 1) := by decide +kernel
theorem dX8_late_47 : decode cX8_late 47 = .ok (.invokevirtual 258, 3) := by decide +kernel
theorem dX8_late_50 : decode cX8_late 50 = .ok (.aload_n 0, 1) := by decide +kernel
theorem dX8_late_51 : decode cX8_late 51 = .ok (.getfield 103, 3) := by decide +kernel
theorem dX8_late_54 : decode cX8_late 54 = .ok (.if_icmp .le 7, 3) := by decide +kernel
theorem dX8_late_57 : decode cX8_late 57 = .ok (.iconst 2, 1) := by decide +kernel
theorem dX8_late_58 : decode cX8_late 58 = .ok (.goto 4, 3) := by decide +kernel
theorem dX8_late_61 : decode cX8_late 61 = .ok (.iconst 0, 1) := by decide +kernel
theorem dX8_late_62 : decode cX8_late 62 = .ok (.ireturn, 1) := by decide +kernel
theorem dX8_left_0 : decode cX8_left 0 = .ok (.aload_n 0, 1) := by decide +kernel
theorem dX8_left_1 : decode cX8_left 1 = .ok (.iload_n 1, 1) := by decide +kernel
theorem dX8_left_2 : decode cX8_left 2 = .ok (.invokevirtual 221, 3) := by decide +kernel
theorem dX8_left_5 : decode cX8_left 5 = .ok (.ifCond .eq 11, 3) := by decide +kernel
theorem dX8_left_8 : decode cX8_left 8 = .ok (.aload_n 0, 1) := by decide +kernel
theorem dX8_left_9 : decode cX8_left 9 = .ok (.iload_n 2, 1) := by decide +kernel
theorem dX8_left_10 : decode cX8_left 10 = .ok (.invokevirtual 188, 3) := by decide +kernel
theorem dX8_left_13 : decode cX8_left 13 = .ok (.ifCond .ne 5, 3) := by decide +kernel
theorem dX8_left_16 : decode cX8_left 16 = .ok (.iconst (-1), 1) := by decide +kernel
theorem dX8_left_17 : decode cX8_left 17 = .ok (.ireturn, 1) := by decide +kernel
theorem dX8_left_18 : decode cX8_left 18 = .ok (.aload_n 0, 1) := by decide +kernel
theorem dX8_left_19 : decode cX8_left 19 = .ok (.iload_n 2, 1) := by decide +kernel
theorem dX8_left_20 : decode cX8_left 20 = .ok (.invokevirtual 207, 3) := by decide +kernel
theorem dX8_left_23 : decode cX8_left 23 = .ok (.ifCond .eq 6, 3) := by decide +kernel
theorem dX8_left_26 : decode cX8_left 26 = .ok (.bipush (-9), 2) := by decide +kernel
theorem dX8_left_28 : decode cX8_left 28 = .ok (.ireturn, 1) := by decide +kernel
theorem dX8_left_29 : decode cX8_left 29 = .ok (.iconst 0, 1) := by decide +kernel
theorem dX8_left_30 : decode cX8_left 30 = .ok (.aload_n 0, 1) := by decide +kernel
theorem dX8_left_31 : decode cX8_left 31 = .ok (.iload_n 1, 1) := by decide +kernel
theorem dX8_left_32 : decode cX8_left 32 = .ok (.iload_n 2, 1) := by decide +kernel
theorem dX8_left_33 : decode cX8_left 33 = .ok (.invokevirtual 258, 3) := by decide +kernel
theorem dX8_left_36 : decode cX8_left 36 = .ok (.aload_n 0, 1) := by decide +kernel
theorem dX8_left_37 : decode cX8_left 37 = .ok (.getfield 103, 3) := by decide +kernel
theorem dX8_left_40 : decode cX8_left 40 = .ok (.isub, 1) := by decide +kernel
theorem dX8_left_41 : decode cX8_left 41 = .ok (.invokestatic 261, 3) := by decide +kernel
theorem dX8_left_44 : decode cX8_left 44 = .ok (.ireturn, 1) := by decide +kernel
theorem dX8_count_0 : decode cX8_count 0 = .ok (.iload_n 1, 1) := by decide +kernel
theorem dX8_count_1 : decode cX8_count 1 = .ok (.tableswitch 81 0 5 #[39, 47, 55, 63, 71, 76], 39) := by decide +kernel
theorem dX8_count_40 : decode cX8_count 40 = .ok (.aload_n 0, 1) := by decide +kernel
theorem dX8_count_41 : decode cX8_count 41 = .ok (.getfield 21, 3) := by decide +kernel
theorem dX8_count_44 : decode cX8_count 44 = .ok (.invokevirtual 70, 3) := by decide +kernel
theorem dX8_count_47 : decode cX8_count 47 = .ok (.ireturn, 1) := by decide +kernel
theorem dX8_count_48 : decode cX8_count 48 = .ok (.aload_n 0, 1) := by decide +kernel
theorem dX8_count_49 : decode cX8_count 49 = .ok (.getfield 25, 3) := by decide +kernel
theorem dX8_count_52 : decode cX8_count 52 = .ok (.invokevirtual 70, 3) := by decide +kernel
theorem dX8_count_55 : decode cX8_count 55 = .ok (.ireturn, 1) := by decide +kernel
theorem dX8_count_56 : decode cX8_count 56 = .ok (.aload_n 0, 1) := by decide +kernel
theorem dX8_count_57 : decode cX8_count 57 = .ok (.getfield 28, 3) := by decide +kernel
theorem dX8_count_60 : decode cX8_count 60 = .ok (.invokevirtual 70, 3) := by decide +kernel
theorem dX8_count_63 : decode cX8_count 63 = .ok (.ireturn, 1) := by decide +kernel
theorem dX8_count_64 : decode cX8_count 64 = .ok (.aload_n 0, 1) := by decide +kernel
theorem dX8_count_65 : decode cX8_count 65 = .ok (.getfield 31, 3) := by decide +kernel
theorem dX8_count_68 : decode cX8_count 68 = .ok (.invokevirtual 70, 3) := by decide +kernel
theorem dX8_count_71 : decode cX8_count 71 = .ok (.ireturn, 1) := by decide +kernel
theorem dX8_count_72 : decode cX8_count 72 = .ok (.aload_n 0, 1) := by decide +kernel
theorem dX8_count_73 : decode cX8_count 73 = .ok (.getfield 233, 3) := by decide +kernel
theorem dX8_count_76 : decode cX8_count 76 = .ok (.ireturn, 1) := by decide +kernel
theorem dX8_count_77 : decode cX8_count 77 = .ok (.aload_n 0, 1) := by decide +kernel
theorem dX8_count_78 : decode cX8_count 78 = .ok (.getfield 103, 3) := by decide +kernel
theorem dX8_count_81 : decode cX8_count 81 = .ok (.ireturn, 1) := by decide +kernel
theorem dX8_count_82 : decode cX8_count 82 = .ok (.iconst (-1), 1) := by decide +kernel
theorem dX8_count_83 : decode cX8_count 83 = .ok (.ireturn, 1) := by decide +kernel
theorem dX8_isWithin_0 : decode cX8_isWithin 0 = .ok (.iload_n 0, 1) := by decide +kernel
theorem dX8_isWithin_1 : decode cX8_isWithin 1 = .ok (.iload_n 1, 1) := by decide +kernel
theorem dX8_isWithin_2 : decode cX8_isWithin 2 = .ok (.if_icmp .lt 12, 3) := by decide +kernel
theorem dX8_isWithin_5 : decode cX8_isWithin 5 = .ok (.iload_n 0, 1) := by decide +kernel
theorem dX8_isWithin_6 : decode cX8_isWithin 6 = .ok (.iload_n 2, 1) := by decide +kernel
theorem dX8_isWithin_7 : decode cX8_isWithin 7 = .ok (.if_icmp .gt 7, 3) := by decide +kernel
theorem dX8_isWithin_10 : decode cX8_isWithin 10 = .ok (.iconst 1, 1) := by decide +kernel
theorem dX8_isWithin_11 : decode cX8_isWithin 11 = .ok (.goto 4, 3) := by decide +kernel
theorem dX8_isWithin_14 : decode cX8_isWithin 14 = .ok (.iconst 0, 1) := by decide +kernel
theorem dX8_isWithin_15 : decode cX8_isWithin 15 = .ok (.ireturn, 1) := by decide +kernel
theorem dX8_isCell_0 : decode cX8_isCell 0 = .ok (.iload_n 0, 1) := by decide +kernel
theorem dX8_isCell_1 : decode cX8_isCell 1 = .ok (.iconst 0, 1) := by decide +kernel
theorem dX8_isCell_2 : decode cX8_isCell 2 = .ok (.sipush 143, 3) := by decide +kernel
theorem dX8_isCell_5 : decode cX8_isCell 5 = .ok (.invokestatic 55, 3) := by decide +kernel
theorem dX8_isCell_8 : decode cX8_isCell 8 = .ok (.ireturn, 1) := by decide +kernel
theorem dX8_isStation_0 : decode cX8_isStation 0 = .ok (.iload_n 1, 1) := by decide +kernel
theorem dX8_isStation_1 : decode cX8_isStation 1 = .ok (.iconst 0, 1) := by decide +kernel
theorem dX8_isStation_2 : decode cX8_isStation 2 = .ok (.aload_n 0, 1) := by decide +kernel
theorem dX8_isStation_3 : decode cX8_isStation 3 = .ok (.getfield 21, 3) := by decide +kernel
theorem dX8_isStation_6 : decode cX8_isStation 6 = .ok (.invokevirtual 70, 3) := by decide +kernel
theorem dX8_isStation_9 : decode cX8_isStation 9 = .ok (.iconst 1, 1) := by decide +kernel
theorem dX8_isStation_10 : decode cX8_isStation 10 = .ok (.isub, 1) := by decide +kernel
theorem dX8_isStation_11 : decode cX8_isStation 11 = .ok (.invokestatic 55, 3) := by decide +kernel
theorem dX8_isStation_14 : decode cX8_isStation 14 = .ok (.ireturn, 1) := by decide +kernel
theorem dX8_isTown_0 : decode cX8_isTown 0 = .ok (.iload_n 1, 1) := by decide +kernel
theorem dX8_isTown_1 : decode cX8_isTown 1 = .ok (.iconst 0, 1) := by decide +kernel
theorem dX8_isTown_2 : decode cX8_isTown 2 = .ok (.aload_n 0, 1) := by decide +kernel
theorem dX8_isTown_3 : decode cX8_isTown 3 = .ok (.getfield 25, 3) := by decide +kernel
theorem dX8_isTown_6 : decode cX8_isTown 6 = .ok (.invokevirtual 70, 3) := by decide +kernel
theorem dX8_isTown_9 : decode cX8_isTown 9 = .ok (.iconst 1, 1) := by decide +kernel
theorem dX8_isTown_10 : decode cX8_isTown 10 = .ok (.isub, 1) := by decide +kernel
theorem dX8_isTown_11 : decode cX8_isTown 11 = .ok (.invokestatic 55, 3) := by decide +kernel
theorem dX8_isTown_14 : decode cX8_isTown 14 = .ok (.ireturn, 1) := by decide +kernel
theorem dX8_isQuake_0 : decode cX8_isQuake 0 = .ok (.iload_n 1, 1) := by decide +kernel
theorem dX8_isQuake_1 : decode cX8_isQuake 1 = .ok (.iconst 0, 1) := by decide +kernel
theorem dX8_isQuake_2 : decode cX8_isQuake 2 = .ok (.aload_n 0, 1) := by decide +kernel
theorem dX8_isQuake_3 : decode cX8_isQuake 3 = .ok (.getfield 31, 3) := by decide +kernel
theorem dX8_isQuake_6 : decode cX8_isQuake 6 = .ok (.invokevirtual 70, 3) := by decide +kernel
theorem dX8_isQuake_9 : decode cX8_isQuake 9 = .ok (.iconst 1, 1) := by decide +kernel
theorem dX8_isQuake_10 : decode cX8_isQuake 10 = .ok (.isub, 1) := by decide +kernel
theorem dX8_isQuake_11 : decode cX8_isQuake 11 = .ok (.invokestatic 55, 3) := by decide +kernel
theorem dX8_isQuake_14 : decode cX8_isQuake 14 = .ok (.ireturn, 1) := by decide +kernel
theorem dX8_bits_0 : decode cX8_bits 0 = .ok (.bipush 32, 2) := by decide +kernel
theorem dX8_bits_2 : decode cX8_bits 2 = .ok (.iload_n 0, 1) := by decide +kernel
theorem dX8_bits_3 : decode cX8_bits 3 = .ok (.invokestatic 291, 3) := by decide +kernel
theorem dX8_bits_6 : decode cX8_bits 6 = .ok (.isub, 1) := by decide +kernel
theorem dX8_bits_7 : decode cX8_bits 7 = .ok (.ireturn, 1) := by decide +kernel
theorem dX8_takerOf_0 : decode cX8_takerOf 0 = .ok (.iconst 0, 1) := by decide +kernel
theorem dX8_takerOf_1 : decode cX8_takerOf 1 = .ok (.istore_n 3, 1) := by decide +kernel
theorem dX8_takerOf_2 : decode cX8_takerOf 2 = .ok (.iload_n 3, 1) := by decide +kernel
theorem dX8_takerOf_3 : decode cX8_takerOf 3 = .ok (.aload_n 0, 1) := by decide +kernel
theorem dX8_takerOf_4 : decode cX8_takerOf 4 = .ok (.getfield 31, 3) := by decide +kernel
theorem dX8_takerOf_7 : decode cX8_takerOf 7 = .ok (.invokevirtual 70, 3) := by decide +kernel
theorem dX8_takerOf_10 : decode cX8_takerOf 10 = .ok (.if_icmp .ge 21, 3) := by decide +kernel
theorem dX8_takerOf_13 : decode cX8_takerOf 13 = .ok (.aload_n 0, 1) := by decide +kernel
theorem dX8_takerOf_14 : decode cX8_takerOf 14 = .ok (.iload_n 3, 1) := by decide +kernel
theorem dX8_takerOf_15 : decode cX8_takerOf 15 = .ok (.iload_n 1, 1) := by decide +kernel
theorem dX8_takerOf_16 : decode cX8_takerOf 16 = .ok (.iload_n 2, 1) := by decide +kernel
theorem dX8_takerOf_17 : decode cX8_takerOf 17 = .ok (.invokevirtual 298, 3) := by decide +kernel
theorem dX8_takerOf_20 : decode cX8_takerOf 20 = .ok (.ifCond .eq 5, 3) := by decide +kernel
theorem dX8_takerOf_23 : decode cX8_takerOf 23 = .ok (.iload_n 3, 1) := by decide +kernel
theorem dX8_takerOf_24 : decode cX8_takerOf 24 = .ok (.ireturn, 1) := by decide +kernel
theorem dX8_takerOf_25 : decode cX8_takerOf 25 = .ok (.iinc 3 1, 3) := by decide +kernel
theorem dX8_takerOf_28 : decode cX8_takerOf 28 = .ok (.goto (-26), 3) := by decide +kernel
theorem dX8_takerOf_31 : decode cX8_takerOf 31 = .ok (.bipush (-9), 2) := by decide +kernel
theorem dX8_takerOf_33 : decode cX8_takerOf 33 = .ok (.ireturn, 1) := by decide +kernel
theorem dX8_takes_0 : decode cX8_takes 0 = .ok (.aload_n 0, 1) := by decide +kernel
theorem dX8_takes_1 : decode cX8_takes 1 = .ok (.getfield 31, 3) := by decide +kernel
theorem dX8_takes_4 : decode cX8_takes 4 = .ok (.iload_n 1, 1) := by decide +kernel
theorem dX8_takes_5 : decode cX8_takes 5 = .ok (.invokevirtual 87, 3) := by decide +kernel
theorem dX8_takes_8 : decode cX8_takes 8 = .ok (.checkcast 153, 3) := by decide +kernel
theorem dX8_takes_11 : decode cX8_takes 11 = .ok (.astore 4, 2) := by decide +kernel
theorem dX8_takes_13 : decode cX8_takes 13 = .ok (.aload 4, 2) := by decide +kernel
theorem dX8_takes_15 : decode cX8_takes 15 = .ok (.iload_n 2, 1) := by decide +kernel
theorem dX8_takes_16 : decode cX8_takes 16 = .ok (.invokevirtual 301, 3) := by decide +kernel
theorem dX8_takes_19 : decode cX8_takes 19 = .ok (.ifCond .ne 14, 3) := by decide +kernel
theorem dX8_takes_22 : decode cX8_takes 22 = .ok (.aload_n 0, 1) := by decide +kernel
theorem dX8_takes_23 : decode cX8_takes 23 = .ok (.iload_n 1, 1) := by decide +kernel
theorem dX8_takes_24 : decode cX8_takes 24 = .ok (.invokevirtual 194, 3) := by decide +kernel
theorem dX8_takes_27 : decode cX8_takes 27 = .ok (.getfield 198, 3) := by decide +kernel
theorem dX8_takes_30 : decode cX8_takes 30 = .ok (.ifCond .ne 5, 3) := by decide +kernel
theorem dX8_takes_33 : decode cX8_takes 33 = .ok (.iconst 0, 1) := by decide +kernel
theorem dX8_takes_34 : decode cX8_takes 34 = .ok (.ireturn, 1) := by decide +kernel
theorem dX8_takes_35 : decode cX8_takes 35 = .ok (.aload_n 0, 1) := by decide +kernel
theorem dX8_takes_36 : decode cX8_takes 36 = .ok (.aload 4, 2) := by decide +kernel
theorem dX8_takes_38 : decode cX8_takes 38 = .ok (.iload_n 2, 1) := by decide +kernel
theorem dX8_takes_39 : decode cX8_takes 39 = .ok (.iload_n 3, 1) := by decide +kernel
theorem dX8_takes_40 : decode cX8_takes 40 = .ok (.invokevirtual 304, 3) := by decide +kernel
theorem dX8_takes_43 : decode cX8_takes 43 = .ok (.aload_n 0, 1) := by decide +kernel
theorem dX8_takes_44 : decode cX8_takes 44 = .ok (.getfield 40, 3) := by decide +kernel
theorem dX8_takes_47 : decode cX8_takes 47 = .ok (.getfield 198, 3) := by decide +kernel
theorem dX8_takes_50 : decode cX8_takes 50 = .ok (.ifCond .le 7, 3) := by decide +kernel
theorem dX8_takes_53 : decode cX8_takes 53 = .ok (.iconst 1, 1) := by decide +kernel
theorem dX8_takes_54 : decode cX8_takes 54 = .ok (.goto 4, 3) := by decide +kernel
theorem dX8_takes_57 : decode cX8_takes 57 = .ok (.iconst 0, 1) := by decide +kernel
theorem dX8_takes_58 : decode cX8_takes 58 = .ok (.ireturn, 1) := by decide +kernel
theorem dX8_isOver_0 : decode cX8_isOver 0 = .ok (.aload_n 0, 1) := by decide +kernel
theorem dX8_isOver_1 : decode cX8_isOver 1 = .ok (.iload_n 1, 1) := by decide +kernel
theorem dX8_isOver_2 : decode cX8_isOver 2 = .ok (.invokevirtual 194, 3) := by decide +kernel
theorem dX8_isOver_5 : decode cX8_isOver 5 = .ok (.getfield 198, 3) := by decide +kernel
theorem dX8_isOver_8 : decode cX8_isOver 8 = .ok (.ifCond .ne 7, 3) := by decide +kernel
theorem dX8_isOver_11 : decode cX8_isOver 11 = .ok (.iconst 1, 1) := by decide +kernel
theorem dX8_isOver_12 : decode cX8_isOver 12 = .ok (.goto 4, 3) := by decide +kernel
theorem dX8_isOver_15 : decode cX8_isOver 15 = .ok (.iconst 0, 1) := by decide +kernel
theorem dX8_isOver_16 : decode cX8_isOver 16 = .ok (.ireturn, 1) := by decide +kernel
theorem dX8_heapOf_0 : decode cX8_heapOf 0 = .ok (.aload_n 0, 1) := by decide +kernel
theorem dX8_heapOf_1 : decode cX8_heapOf 1 = .ok (.getfield 40, 3) := by decide +kernel
theorem dX8_heapOf_4 : decode cX8_heapOf 4 = .ok (.getfield 308, 3) := by decide +kernel
theorem dX8_heapOf_7 : decode cX8_heapOf 7 = .ok (.iload_n 1, 1) := by decide +kernel
theorem dX8_heapOf_8 : decode cX8_heapOf 8 = .ok (.if_icmp .eq 63, 3) := by decide +kernel
theorem dX8_heapOf_11 : decode cX8_heapOf 11 = .ok (.aload_n 0, 1) := by decide +kernel
theorem dX8_heapOf_12 : decode cX8_heapOf 12 = .ok (.getfield 31, 3) := by decide +kernel
theorem dX8_heapOf_15 : decode cX8_heapOf 15 = .ok (.iload_n 1, 1) := by decide +kernel
theorem dX8_heapOf_16 : decode cX8_heapOf 16 = .ok (.invokevirtual 87, 3) := by decide +kernel
theorem dX8_heapOf_19 : decode cX8_heapOf 19 = .ok (.checkcast 153, 3) := by decide +kernel
theorem dX8_heapOf_22 : decode cX8_heapOf 22 = .ok (.astore_n 2, 1) := by decide +kernel
theorem dX8_heapOf_23 : decode cX8_heapOf 23 = .ok (.aload_n 0, 1) := by decide +kernel
theorem dX8_heapOf_24 : decode cX8_heapOf 24 = .ok (.aload_n 2, 1) := by decide +kernel
theorem dX8_heapOf_25 : decode cX8_heapOf 25 = .ok (.bipush (-9), 2) := by decide +kernel
theorem dX8_heapOf_27 : decode cX8_heapOf 27 = .ok (.iconst (-1), 1) := by decide +kernel
theorem dX8_heapOf_28 : decode cX8_heapOf 28 = .ok (.invokevirtual 304, 3) := by decide +kernel
theorem dX8_heapOf_31 : decode cX8_heapOf 31 = .ok (.aload_n 0, 1) := by decide +kernel
theorem dX8_heapOf_32 : decode cX8_heapOf 32 = .ok (.getfield 40, 3) := by decide +kernel
theorem dX8_heapOf_35 : decode cX8_heapOf 35 = .ok (.aload_n 0, 1) := by decide +kernel
theorem dX8_heapOf_36 : decode cX8_heapOf 36 = .ok (.getfield 14, 3) := by decide +kernel
theorem dX8_heapOf_39 : decode cX8_heapOf 39 = .ok (.aload_n 0, 1) := by decide +kernel
theorem dX8_heapOf_40 : decode cX8_heapOf 40 = .ok (.getfield 21, 3) := by decide +kernel
theorem dX8_heapOf_43 : decode cX8_heapOf 43 = .ok (.aload_n 2, 1) := by decide +kernel
theorem dX8_heapOf_44 : decode cX8_heapOf 44 = .ok (.getfield 309, 3) := by decide +kernel
theorem dX8_heapOf_47 : decode cX8_heapOf 47 = .ok (.invokevirtual 87, 3) := by decide +kernel
theorem dX8_heapOf_50 : decode cX8_heapOf 50 = .ok (.checkcast 74, 3) := by decide +kernel
theorem dX8_heapOf_53 : decode cX8_heapOf 53 = .ok (.getfield 312, 3) := by decide +kernel
theorem dX8_heapOf_56 : decode cX8_heapOf 56 = .ok (.aload_n 2, 1) := by decide +kernel
theorem dX8_heapOf_57 : decode cX8_heapOf 57 = .ok (.getfield 315, 3) := by decide +kernel
theorem dX8_heapOf_60 : decode cX8_heapOf 60 = .ok (.invokevirtual 318, 3) := by decide +kernel
theorem dX8_heapOf_63 : decode cX8_heapOf 63 = .ok (.aload_n 0, 1) := by decide +kernel
theorem dX8_heapOf_64 : decode cX8_heapOf 64 = .ok (.getfield 40, 3) := by decide +kernel
theorem dX8_heapOf_67 : decode cX8_heapOf 67 = .ok (.iload_n 1, 1) := by decide +kernel
theorem dX8_heapOf_68 : decode cX8_heapOf 68 = .ok (.putfield 308, 3) := by decide +kernel
theorem dX8_heapOf_71 : decode cX8_heapOf 71 = .ok (.aload_n 0, 1) := by decide +kernel
theorem dX8_heapOf_72 : decode cX8_heapOf 72 = .ok (.getfield 40, 3) := by decide +kernel
theorem dX8_heapOf_75 : decode cX8_heapOf 75 = .ok (.areturn, 1) := by decide +kernel
theorem dX8_fillHeap_0 : decode cX8_fillHeap 0 = .ok (.aload_n 0, 1) := by decide +kernel
theorem dX8_fillHeap_1 : decode cX8_fillHeap 1 = .ok (.getfield 40, 3) := by decide +kernel
theorem dX8_fillHeap_4 : decode cX8_fillHeap 4 = .ok (.invokevirtual 322, 3) := by decide +kernel
theorem dX8_fillHeap_7 : decode cX8_fillHeap 7 = .ok (.iconst 0, 1) := by decide +kernel
theorem dX8_fillHeap_8 : decode cX8_fillHeap 8 = .ok (.istore 4, 2) := by decide +kernel
theorem dX8_fillHeap_10 : decode cX8_fillHeap 10 = .ok (.iload 4, 2) := by decide +kernel
theorem dX8_fillHeap_12 : decode cX8_fillHeap 12 = .ok (.aload_n 0, 1) := by decide +kernel
theorem dX8_fillHeap_13 : decode cX8_fillHeap 13 = .ok (.getfield 21, 3) := by decide +kernel
theorem dX8_fillHeap_16 : decode cX8_fillHeap 16 = .ok (.invokevirtual 70, 3) := by decide +kernel
theorem dX8_fillHeap_19 : decode cX8_fillHeap 19 = .ok (.if_icmp .ge 116, 3) := by decide +kernel
theorem dX8_fillHeap_22 : decode cX8_fillHeap 22 = .ok (.aload_n 0, 1) := by decide +kernel
theorem dX8_fillHeap_23 : decode cX8_fillHeap 23 = .ok (.getfield 21, 3) := by decide +kernel
theorem dX8_fillHeap_26 : decode cX8_fillHeap 26 = .ok (.iload 4, 2) := by decide +kernel
theorem dX8_fillHeap_28 : decode cX8_fillHeap 28 = .ok (.invokevirtual 87, 3) := by decide +kernel
theorem dX8_fillHeap_31 : decode cX8_fillHeap 31 = .ok (.checkcast 74, 3) := by decide +kernel
theorem dX8_fillHeap_34 : decode cX8_fillHeap 34 = .ok (.astore 5, 2) := by decide +kernel
theorem dX8_fillHeap_36 : decode cX8_fillHeap 36 = .ok (.iload 4, 2) := by decide +kernel
theorem dX8_fillHeap_38 : decode cX8_fillHeap 38 = .ok (.iload_n 2, 1) := by decide +kernel
theorem dX8_fillHeap_39 : decode cX8_fillHeap 39 = .ok (.if_icmp .ne 7, 3) := by decide +kernel
theorem dX8_fillHeap_42 : decode cX8_fillHeap 42 = .ok (.iload_n 3, 1) := by decide +kernel
theorem dX8_fillHeap_43 : decode cX8_fillHeap 43 = .ok (.goto 10, 3) := by decide +kernel
theorem dX8_fillHeap_46 : decode cX8_fillHeap 46 = .ok (.aload_n 1, 1) := by decide +kernel
theorem dX8_fillHeap_47 : decode cX8_fillHeap 47 = .ok (.getfield 325, 3) := by decide +kernel
theorem dX8_fillHeap_50 : decode cX8_fillHeap 50 = .ok (.iload 4, 2) := by decide +kernel
theorem dX8_fillHeap_52 : decode cX8_fillHeap 52 = .ok (.iaload, 1) := by decide +kernel
theorem dX8_fillHeap_53 : decode cX8_fillHeap 53 = .ok (.istore 6, 2) := by decide +kernel
theorem dX8_fillHeap_55 : decode cX8_fillHeap 55 = .ok (.iload 6, 2) := by decide +kernel
theorem dX8_fillHeap_57 : decode cX8_fillHeap 57 = .ok (.iconst (-1), 1) := by decide +kernel
theorem dX8_fillHeap_58 : decode cX8_fillHeap 58 = .ok (.if_icmp .eq 36, 3) := by decide +kernel
theorem dX8_fillHeap_61 : decode cX8_fillHeap 61 = .ok (.aload_n 0, 1) := by decide +kernel
theorem dX8_fillHeap_62 : decode cX8_fillHeap 62 = .ok (.getfield 40, 3) := by decide +kernel
theorem dX8_fillHeap_65 : decode cX8_fillHeap 65 = .ok (.aload_n 0, 1) := by decide +kernel
theorem dX8_fillHeap_66 : decode cX8_fillHeap 66 = .ok (.getfield 14, 3) := by decide +kernel
theorem dX8_fillHeap_69 : decode cX8_fillHeap 69 = .ok (.aload 5, 2) := by decide +kernel
theorem dX8_fillHeap_71 : decode cX8_fillHeap 71 = .ok (.getfield 312, 3) := by decide +kernel
theorem dX8_fillHeap_74 : decode cX8_fillHeap 74 = .ok (.iload 6, 2) := by decide +kernel
theorem dX8_fillHeap_76 : decode cX8_fillHeap 76 = .ok (.aload_n 0, 1) := by decide +kernel
theorem dX8_fillHeap_77 : decode cX8_fillHeap 77 = .ok (.getfield 51, 3) := by decide +kernel
theorem dX8_fillHeap_80 : decode cX8_fillHeap 80 = .ok (.isub, 1) := by decide +kernel
theorem dX8_fillHeap_81 : decode cX8_fillHeap 81 = .ok (.iload 6, 2) := by decide +kernel
theorem dX8_fillHeap_83 : decode cX8_fillHeap 83 = .ok (.aload_n 0, 1) := by decide +kernel
theorem dX8_fillHeap_84 : decode cX8_fillHeap 84 = .ok (.getfield 51, 3) := by decide +kernel
theorem dX8_fillHeap_87 : decode cX8_fillHeap 87 = .ok (.iadd, 1) := by decide +kernel
theorem dX8_fillHeap_88 : decode cX8_fillHeap 88 = .ok (.invokevirtual 328, 3) := by decide +kernel
theorem dX8_fillHeap_91 : decode cX8_fillHeap 91 = .ok (.goto 38, 3) := by decide +kernel
theorem dX8_fillHeap_94 : decode cX8_fillHeap 94 = .ok (.aload 5, 2) := by decide +kernel
theorem dX8_fillHeap_96 : decode cX8_fillHeap 96 = .ok (.getfield 91, 3) := by decide +kernel
theorem dX8_fillHeap_99 : decode cX8_fillHeap 99 = .ok (.ifCond .ne 30, 3) := by decide +kernel
theorem dX8_fillHeap_102 : decode cX8_fillHeap 102 = .ok (.aload_n 0, 1) := by decide +kernel
theorem dX8_fillHeap_103 : decode cX8_fillHeap 103 = .ok (.getfield 40, 3) := by decide +kernel
theorem dX8_fillHeap_106 : decode cX8_fillHeap 106 = .ok (.aload_n 0, 1) := by decide +kernel
theorem dX8_fillHeap_107 : decode cX8_fillHeap 107 = .ok (.getfield 14, 3) := by decide +kernel
theorem dX8_fillHeap_110 : decode cX8_fillHeap 110 = .ok (.aload 5, 2) := by decide +kernel
theorem dX8_fillHeap_112 : decode cX8_fillHeap 112 = .ok (.getfield 312, 3) := by decide +kernel
theorem dX8_fillHeap_115 : decode cX8_fillHeap 115 = .ok (.aload_n 0, 1) := by decide +kernel
theorem dX8_fillHeap_116 : decode cX8_fillHeap 116 = .ok (.getfield 103, 3) := by decide +kernel
theorem dX8_fillHeap_119 : decode cX8_fillHeap 119 = .ok (.aload_n 0, 1) := by decide +kernel
theorem dX8_fillHeap_120 : decode cX8_fillHeap 120 = .ok (.getfield 51, 3) := by decide +kernel
theorem dX8_fillHeap_123 : decode cX8_fillHeap 123 = .ok (.isub, 1) := by decide +kernel
theorem dX8_fillHeap_124 : decode cX8_fillHeap 124 = .ok (.ldc 149, 2) := by decide +kernel
theorem dX8_fillHeap_126 : decode cX8_fillHeap 126 = .ok (.invokevirtual 328, 3) := by decide +kernel
theorem dX8_fillHeap_129 : decode cX8_fillHeap 129 = .ok (.iinc 4 1, 3) := by decide +kernel
theorem dX8_fillHeap_132 : decode cX8_fillHeap 132 = .ok (.goto (-122), 3) := by decide +kernel
theorem dX8_fillHeap_135 : decode cX8_fillHeap 135 = .ok (.aload_n 0, 1) := by decide +kernel
theorem dX8_fillHeap_136 : decode cX8_fillHeap 136 = .ok (.getfield 40, 3) := by decide +kernel
theorem dX8_fillHeap_139 : decode cX8_fillHeap 139 = .ok (.invokevirtual 332, 3) := by decide +kernel
theorem dX8_fillHeap_142 : decode cX8_fillHeap 142 = .ok (.return_, 1) := by decide +kernel
theorem dX8_earliestArrival_0 : decode cX8_earliestArrival 0 = .ok (.aload_n 0, 1) := by decide +kernel
theorem dX8_earliestArrival_1 : decode cX8_earliestArrival 1 = .ok (.iload_n 2, 1) := by decide +kernel
theorem dX8_earliestArrival_2 : decode cX8_earliestArrival 2 = .ok (.invokevirtual 194, 3) := by decide +kernel
theorem dX8_earliestArrival_5 : decode cX8_earliestArrival 5 = .ok (.astore_n 3, 1) := by decide +kernel
theorem dX8_earliestArrival_6 : decode cX8_earliestArrival 6 = .ok (.aload_n 0, 1) := by decide +kernel
theorem dX8_earliestArrival_7 : decode cX8_earliestArrival 7 = .ok (.getfield 25, 3) := by decide +kernel
theorem dX8_earliestArrival_10 : decode cX8_earliestArrival 10 = .ok (.iload_n 1, 1) := by decide +kernel
theorem dX8_earliestArrival_11 : decode cX8_earliestArrival 11 = .ok (.invokevirtual 87, 3) := by decide +kernel
theorem dX8_earliestArrival_14 : decode cX8_earliestArrival 14 = .ok (.checkcast 81, 3) := by decide +kernel
theorem dX8_earliestArrival_17 : decode cX8_earliestArrival 17 = .ok (.getfield 335, 3) := by decide +kernel
theorem dX8_earliestArrival_20 : decode cX8_earliestArrival 20 = .ok (.istore 4, 2) := by decide +kernel
theorem dX8_earliestArrival_22 : decode cX8_earliestArrival 22 = .ok (.ldc 149, 2) := by decide +kernel
theorem dX8_earliestArrival_24 : decode cX8_earliestArrival 24 = .ok (.istore 5, 2) := by decide +kernel
theorem dX8_earliestArrival_26 : decode cX8_earliestArrival 26 = .ok (.iconst 0, 1) := by decide +kernel
theorem dX8_earliestArrival_27 : decode cX8_earliestArrival 27 = .ok (.istore 6, 2) := by decide +kernel
theorem dX8_earliestArrival_29 : decode cX8_earliestArrival 29 = .ok (.iload 6, 2) := by decide +kernel
theorem dX8_earliestArrival_31 : decode cX8_earliestArrival 31 = .ok (.sipush 144, 3) := by decide +kernel
theorem dX8_earliestArrival_34 : decode cX8_earliestArrival 34 = .ok (.if_icmp .ge 47, 3) := by decide +kernel
theorem dX8_earliestArrival_37 : decode cX8_earliestArrival 37 = .ok (.aload_n 3, 1) := by decide +kernel
theorem dX8_earliestArrival_38 : decode cX8_earliestArrival 38 = .ok (.iload 6, 2) := by decide +kernel
theorem dX8_earliestArrival_40 : decode cX8_earliestArrival 40 = .ok (.invokevirtual 213, 3) := by decide +kernel
theorem dX8_earliestArrival_43 : decode cX8_earliestArrival 43 = .ok (.ifCond .ne 6, 3) := by decide +kernel
theorem dX8_earliestArrival_46 : decode cX8_earliestArrival 46 = .ok (.goto 29, 3) := by decide +kernel
theorem dX8_earliestArrival_49 : decode cX8_earliestArrival 49 = .ok (.iload 5, 2) := by decide +kernel
theorem dX8_earliestArrival_51 : decode cX8_earliestArrival 51 = .ok (.aload_n 3, 1) := by decide +kernel
theorem dX8_earliestArrival_52 : decode cX8_earliestArrival 52 = .ok (.getfield 218, 3) := by decide +kernel
theorem dX8_earliestArrival_55 : decode cX8_earliestArrival 55 = .ok (.iload 6, 2) := by decide +kernel
theorem dX8_earliestArrival_57 : decode cX8_earliestArrival 57 = .ok (.iaload, 1) := by decide +kernel
theorem dX8_earliestArrival_58 : decode cX8_earliestArrival 58 = .ok (.aload_n 0, 1) := by decide +kernel
theorem dX8_earliestArrival_59 : decode cX8_earliestArrival 59 = .ok (.getfield 14, 3) := by decide +kernel
theorem dX8_earliestArrival_62 : decode cX8_earliestArrival 62 = .ok (.iload 6, 2) := by decide +kernel
theorem dX8_earliestArrival_64 : decode cX8_earliestArrival 64 = .ok (.iload 4, 2) := by decide +kernel
theorem dX8_earliestArrival_66 : decode cX8_earliestArrival 66 = .ok (.invokevirtual 98, 3) := by decide +kernel
theorem dX8_earliestArrival_69 : decode cX8_earliestArrival 69 = .ok (.iadd, 1) := by decide +kernel
theorem dX8_earliestArrival_70 : decode cX8_earliestArrival 70 = .ok (.invokestatic 339, 3) := by decide +kernel
theorem dX8_earliestArrival_73 : decode cX8_earliestArrival 73 = .ok (.istore 5, 2) := by decide +kernel
theorem dX8_earliestArrival_75 : decode cX8_earliestArrival 75 = .ok (.iinc 6 1, 3) := by decide +kernel
theorem dX8_earliestArrival_78 : decode cX8_earliestArrival 78 = .ok (.goto (-49), 3) := by decide +kernel
theorem dX8_earliestArrival_81 : decode cX8_earliestArrival 81 = .ok (.iload 5, 2) := by decide +kernel
theorem dX8_earliestArrival_83 : decode cX8_earliestArrival 83 = .ok (.ireturn, 1) := by decide +kernel
theorem dX8_latestArrival_0 : decode cX8_latestArrival 0 = .ok (.aload_n 0, 1) := by decide +kernel
theorem dX8_latestArrival_1 : decode cX8_latestArrival 1 = .ok (.iload_n 2, 1) := by decide +kernel
theorem dX8_latestArrival_2 : decode cX8_latestArrival 2 = .ok (.invokevirtual 194, 3) := by decide +kernel
theorem dX8_latestArrival_5 : decode cX8_latestArrival 5 = .ok (.astore_n 3, 1) := by decide +kernel
theorem dX8_latestArrival_6 : decode cX8_latestArrival 6 = .ok (.aload_n 0, 1) := by decide +kernel
theorem dX8_latestArrival_7 : decode cX8_latestArrival 7 = .ok (.getfield 25, 3) := by decide +kernel
theorem dX8_latestArrival_10 : decode cX8_latestArrival 10 = .ok (.iload_n 1, 1) := by decide +kernel
theorem dX8_latestArrival_11 : decode cX8_latestArrival 11 = .ok (.invokevirtual 87, 3) := by decide +kernel
theorem dX8_latestArrival_14 : decode cX8_latestArrival 14 = .ok (.checkcast 81, 3) := by decide +kernel
theorem dX8_latestArrival_17 : decode cX8_latestArrival 17 = .ok (.getfield 335, 3) := by decide +kernel
theorem dX8_latestArrival_20 : decode cX8_latestArrival 20 = .ok (.istore 4, 2) := by decide +kernel
theorem dX8_latestArrival_22 : decode cX8_latestArrival 22 = .ok (.ldc_w 342, 3) := by decide +kernel
theorem dX8_latestArrival_25 : decode cX8_latestArrival 25 = .ok (.istore 5, 2) := by decide +kernel
theorem dX8_latestArrival_27 : decode cX8_latestArrival 27 = .ok (.iconst 0, 1) := by decide +kernel
theorem dX8_latestArrival_28 : decode cX8_latestArrival 28 = .ok (.istore 6, 2) := by decide +kernel
theorem dX8_latestArrival_30 : decode cX8_latestArrival 30 = .ok (.iload 6, 2) := by decide +kernel
theorem dX8_latestArrival_32 : decode cX8_latestArrival 32 = .ok (.sipush 144, 3) := by decide +kernel
theorem dX8_latestArrival_35 : decode cX8_latestArrival 35 = .ok (.if_icmp .ge 47, 3) := by decide +kernel
theorem dX8_latestArrival_38 : decode cX8_latestArrival 38 = .ok (.aload_n 3, 1) := by decide +kernel
theorem dX8_latestArrival_39 : decode cX8_latestArrival 39 = .ok (.iload 6, 2) := by decide +kernel
theorem dX8_latestArrival_41 : decode cX8_latestArrival 41 = .ok (.invokevirtual 213, 3) := by decide +kernel
theorem dX8_latestArrival_44 : decode cX8_latestArrival 44 = .ok (.ifCond .ne 6, 3) := by decide +kernel
theorem dX8_latestArrival_47 : decode cX8_latestArrival 47 = .ok (.goto 29, 3) := by decide +kernel
theorem dX8_latestArrival_50 : decode cX8_latestArrival 50 = .ok (.iload 5, 2) := by decide +kernel
theorem dX8_latestArrival_52 : decode cX8_latestArrival 52 = .ok (.aload_n 3, 1) := by decide +kernel
theorem dX8_latestArrival_53 : decode cX8_latestArrival 53 = .ok (.getfield 215, 3) := by decide +kernel
theorem dX8_latestArrival_56 : decode cX8_latestArrival 56 = .ok (.iload 6, 2) := by decide +kernel
theorem dX8_latestArrival_58 : decode cX8_latestArrival 58 = .ok (.iaload, 1) := by decide +kernel
theorem dX8_latestArrival_59 : decode cX8_latestArrival 59 = .ok (.aload_n 0, 1) := by decide +kernel
theorem dX8_latestArrival_60 : decode cX8_latestArrival 60 = .ok (.getfield 14, 3) := by decide +kernel
theorem dX8_latestArrival_63 : decode cX8_latestArrival 63 = .ok (.iload 6, 2) := by decide +kernel
theorem dX8_latestArrival_65 : decode cX8_latestArrival 65 = .ok (.iload 4, 2) := by decide +kernel
theorem dX8_latestArrival_67 : decode cX8_latestArrival 67 = .ok (.invokevirtual 98, 3) := by decide +kernel
theorem dX8_latestArrival_70 : decode cX8_latestArrival 70 = .ok (.iadd, 1) := by decide +kernel
theorem dX8_latestArrival_71 : decode cX8_latestArrival 71 = .ok (.invokestatic 261, 3) := by decide +kernel
theorem dX8_latestArrival_74 : decode cX8_latestArrival 74 = .ok (.istore 5, 2) := by decide +kernel
theorem dX8_latestArrival_76 : decode cX8_latestArrival 76 = .ok (.iinc 6 1, 3) := by decide +kernel
theorem dX8_latestArrival_79 : decode cX8_latestArrival 79 = .ok (.goto (-49), 3) := by decide +kernel
theorem dX8_latestArrival_82 : decode cX8_latestArrival 82 = .ok (.iload 5, 2) := by decide +kernel
theorem dX8_latestArrival_84 : decode cX8_latestArrival 84 = .ok (.ireturn, 1) := by decide +kernel
theorem dJ6_numberOfLeadingZeros_0f7a4_0 : decode cJ6_numberOfLeadingZeros_0f7a4 0 = .ok (.iload_n 0, 1) := by decide +kernel
theorem dJ6_numberOfLeadingZeros_0f7a4_1 : decode cJ6_numberOfLeadingZeros_0f7a4 1 = .ok (.ifCond .gt 14, 3) := by decide +kernel
theorem dJ6_numberOfLeadingZeros_0f7a4_4 : decode cJ6_numberOfLeadingZeros_0f7a4 4 = .ok (.iload_n 0, 1) := by decide +kernel
theorem dJ6_numberOfLeadingZeros_0f7a4_5 : decode cJ6_numberOfLeadingZeros_0f7a4 5 = .ok (.ifCond .ne 8, 3) := by decide +kernel
theorem dJ6_numberOfLeadingZeros_0f7a4_8 : decode cJ6_numberOfLeadingZeros_0f7a4 8 = .ok (.bipush 32, 2) := by decide +kernel
theorem dJ6_numberOfLeadingZeros_0f7a4_10 : decode cJ6_numberOfLeadingZeros_0f7a4 10 = .ok (.goto 4, 3) := by decide +kernel
theorem dJ6_numberOfLeadingZeros_0f7a4_13 : decode cJ6_numberOfLeadingZeros_0f7a4 13 = .ok (.iconst 0, 1) := by decide +kernel
theorem dJ6_numberOfLeadingZeros_0f7a4_14 : decode cJ6_numberOfLeadingZeros_0f7a4 14 = .ok (.ireturn, 1) := by decide +kernel
theorem dJ6_numberOfLeadingZeros_0f7a4_15 : decode cJ6_numberOfLeadingZeros_0f7a4 15 = .ok (.bipush 31, 2) := by decide +kernel
theorem dJ6_numberOfLeadingZeros_0f7a4_17 : decode cJ6_numberOfLeadingZeros_0f7a4 17 = .ok (.istore_n 1, 1) := by decide +kernel
theorem dJ6_numberOfLeadingZeros_0f7a4_18 : decode cJ6_numberOfLeadingZeros_0f7a4 18 = .ok (.iload_n 0, 1) := by decide +kernel
theorem dJ6_numberOfLeadingZeros_0f7a4_19 : decode cJ6_numberOfLeadingZeros_0f7a4 19 = .ok (.ldc_w 264, 3) := by decide +kernel
theorem dJ6_numberOfLeadingZeros_0f7a4_22 : decode cJ6_numberOfLeadingZeros_0f7a4 22 = .ok (.if_icmp .lt 11, 3) := by decide +kernel
theorem dJ6_numberOfLeadingZeros_0f7a4_25 : decode cJ6_numberOfLeadingZeros_0f7a4 25 = .ok (.iinc 1 (-16), 3) := by decide +kernel
theorem dJ6_numberOfLeadingZeros_0f7a4_28 : decode cJ6_numberOfLeadingZeros_0f7a4 28 = .ok (.iload_n 0, 1) := by decide +kernel
theorem dJ6_numberOfLeadingZeros_0f7a4_29 : decode cJ6_numberOfLeadingZeros_0f7a4 29 = .ok (.bipush 16, 2) := by decide +kernel
theorem dJ6_numberOfLeadingZeros_0f7a4_31 : decode cJ6_numberOfLeadingZeros_0f7a4 31 = .ok (.iushr, 1) := by decide +kernel
theorem dJ6_numberOfLeadingZeros_0f7a4_32 : decode cJ6_numberOfLeadingZeros_0f7a4 32 = .ok (.istore_n 0, 1) := by decide +kernel
theorem dJ6_numberOfLeadingZeros_0f7a4_33 : decode cJ6_numberOfLeadingZeros_0f7a4 33 = .ok (.iload_n 0, 1) := by decide +kernel
theorem dJ6_numberOfLeadingZeros_0f7a4_34 : decode cJ6_numberOfLeadingZeros_0f7a4 34 = .ok (.sipush 256, 3) := by decide +kernel
theorem dJ6_numberOfLeadingZeros_0f7a4_37 : decode cJ6_numberOfLeadingZeros_0f7a4 37 = .ok (.if_icmp .lt 11, 3) := by decide +kernel
theorem dJ6_numberOfLeadingZeros_0f7a4_40 : decode cJ6_numberOfLeadingZeros_0f7a4 40 = .ok (.iinc 1 (-8), 3) := by decide +kernel
theorem dJ6_numberOfLeadingZeros_0f7a4_43 : decode cJ6_numberOfLeadingZeros_0f7a4 43 = .ok (.iload_n 0, 1) := by decide +kernel
theorem dJ6_numberOfLeadingZeros_0f7a4_44 : decode cJ6_numberOfLeadingZeros_0f7a4 44 = .ok (.bipush 8, 2) := by decide +kernel
theorem dJ6_numberOfLeadingZeros_0f7a4_46 : decode cJ6_numberOfLeadingZeros_0f7a4 46 = .ok (.iushr, 1) := by decide +kernel
theorem dJ6_numberOfLeadingZeros_0f7a4_47 : decode cJ6_numberOfLeadingZeros_0f7a4 47 = .ok (.istore_n 0, 1) := by decide +kernel
theorem dJ6_numberOfLeadingZeros_0f7a4_48 : decode cJ6_numberOfLeadingZeros_0f7a4 48 = .ok (.iload_n 0, 1) := by decide +kernel
theorem dJ6_numberOfLeadingZeros_0f7a4_49 : decode cJ6_numberOfLeadingZeros_0f7a4 49 = .ok (.bipush 16, 2) := by decide +kernel
theorem dJ6_numberOfLeadingZeros_0f7a4_51 : decode cJ6_numberOfLeadingZeros_0f7a4 51 = .ok (.if_icmp .lt 10, 3) := by decide +kernel
theorem dJ6_numberOfLeadingZeros_0f7a4_54 : decode cJ6_numberOfLeadingZeros_0f7a4 54 = .ok (.iinc 1 (-4), 3) := by decide +kernel
theorem dJ6_numberOfLeadingZeros_0f7a4_57 : decode cJ6_numberOfLeadingZeros_0f7a4 57 = .ok (.iload_n 0, 1) := by decide +kernel
theorem dJ6_numberOfLeadingZeros_0f7a4_58 : decode cJ6_numberOfLeadingZeros_0f7a4 58 = .ok (.iconst 4, 1) := by decide +kernel
theorem dJ6_numberOfLeadingZeros_0f7a4_59 : decode cJ6_numberOfLeadingZeros_0f7a4 59 = .ok (.iushr, 1) := by decide +kernel
theorem dJ6_numberOfLeadingZeros_0f7a4_60 : decode cJ6_numberOfLeadingZeros_0f7a4 60 = .ok (.istore_n 0, 1) := by decide +kernel
theorem dJ6_numberOfLeadingZeros_0f7a4_61 : decode cJ6_numberOfLeadingZeros_0f7a4 61 = .ok (.iload_n 0, 1) := by decide +kernel
theorem dJ6_numberOfLeadingZeros_0f7a4_62 : decode cJ6_numberOfLeadingZeros_0f7a4 62 = .ok (.iconst 4, 1) := by decide +kernel
theorem dJ6_numberOfLeadingZeros_0f7a4_63 : decode cJ6_numberOfLeadingZeros_0f7a4 63 = .ok (.if_icmp .lt 10, 3) := by decide +kernel
theorem dJ6_numberOfLeadingZeros_0f7a4_66 : decode cJ6_numberOfLeadingZeros_0f7a4 66 = .ok (.iinc 1 (-2), 3) := by decide +kernel
theorem dJ6_numberOfLeadingZeros_0f7a4_69 : decode cJ6_numberOfLeadingZeros_0f7a4 69 = .ok (.iload_n 0, 1) := by decide +kernel
theorem dJ6_numberOfLeadingZeros_0f7a4_70 : decode cJ6_numberOfLeadingZeros_0f7a4 70 = .ok (.iconst 2, 1) := by decide +kernel
theorem dJ6_numberOfLeadingZeros_0f7a4_71 : decode cJ6_numberOfLeadingZeros_0f7a4 71 = .ok (.iushr, 1) := by decide +kernel
theorem dJ6_numberOfLeadingZeros_0f7a4_72 : decode cJ6_numberOfLeadingZeros_0f7a4 72 = .ok (.istore_n 0, 1) := by decide +kernel
theorem dJ6_numberOfLeadingZeros_0f7a4_73 : decode cJ6_numberOfLeadingZeros_0f7a4 73 = .ok (.iload_n 1, 1) := by decide +kernel
theorem dJ6_numberOfLeadingZeros_0f7a4_74 : decode cJ6_numberOfLeadingZeros_0f7a4 74 = .ok (.iload_n 0, 1) := by decide +kernel
theorem dJ6_numberOfLeadingZeros_0f7a4_75 : decode cJ6_numberOfLeadingZeros_0f7a4 75 = .ok (.iconst 1, 1) := by decide +kernel
theorem dJ6_numberOfLeadingZeros_0f7a4_76 : decode cJ6_numberOfLeadingZeros_0f7a4 76 = .ok (.iushr, 1) := by decide +kernel
theorem dJ6_numberOfLeadingZeros_0f7a4_77 : decode cJ6_numberOfLeadingZeros_0f7a4 77 = .ok (.isub, 1) := by decide +kernel
theorem dJ6_numberOfLeadingZeros_0f7a4_78 : decode cJ6_numberOfLeadingZeros_0f7a4 78 = .ok (.ireturn, 1) := by decide +kernel
theorem dJ9_abs_0f7a4_0 : decode cJ9_abs_0f7a4 0 = .ok (.iload_n 0, 1) := by decide +kernel
theorem dJ9_abs_0f7a4_1 : decode cJ9_abs_0f7a4 1 = .ok (.ifCond .ge 8, 3) := by decide +kernel
theorem dJ9_abs_0f7a4_4 : decode cJ9_abs_0f7a4 4 = .ok (.iload_n 0, 1) := by decide +kernel
theorem dJ9_abs_0f7a4_5 : decode cJ9_abs_0f7a4 5 = .ok (.ineg, 1) := by decide +kernel
theorem dJ9_abs_0f7a4_6 : decode cJ9_abs_0f7a4 6 = .ok (.goto 4, 3) := by decide +kernel
theorem dJ9_abs_0f7a4_9 : decode cJ9_abs_0f7a4 9 = .ok (.iload_n 0, 1) := by decide +kernel
theorem dJ9_abs_0f7a4_10 : decode cJ9_abs_0f7a4 10 = .ok (.ireturn, 1) := by decide +kernel
theorem dJ9_max_7cf53_0 : decode cJ9_max_7cf53 0 = .ok (.iload_n 0, 1) := by decide +kernel
theorem dJ9_max_7cf53_1 : decode cJ9_max_7cf53 1 = .ok (.iload_n 1, 1) := by decide +kernel
theorem dJ9_max_7cf53_2 : decode cJ9_max_7cf53 2 = .ok (.if_icmp .lt 7, 3) := by decide +kernel
theorem dJ9_max_7cf53_5 : decode cJ9_max_7cf53 5 = .ok (.iload_n 0, 1) := by decide +kernel
theorem dJ9_max_7cf53_6 : decode cJ9_max_7cf53 6 = .ok (.goto 4, 3) := by decide +kernel
theorem dJ9_max_7cf53_9 : decode cJ9_max_7cf53 9 = .ok (.iload_n 1, 1) := by decide +kernel
theorem dJ9_max_7cf53_10 : decode cJ9_max_7cf53 10 = .ok (.ireturn, 1) := by decide +kernel
theorem dJ9_min_7cf53_0 : decode cJ9_min_7cf53 0 = .ok (.iload_n 0, 1) := by decide +kernel
theorem dJ9_min_7cf53_1 : decode cJ9_min_7cf53 1 = .ok (.iload_n 1, 1) := by decide +kernel
theorem dJ9_min_7cf53_2 : decode cJ9_min_7cf53 2 = .ok (.if_icmp .gt 7, 3) := by decide +kernel
theorem dJ9_min_7cf53_5 : decode cJ9_min_7cf53 5 = .ok (.iload_n 0, 1) := by decide +kernel
theorem dJ9_min_7cf53_6 : decode cJ9_min_7cf53 6 = .ok (.goto 4, 3) := by decide +kernel
theorem dJ9_min_7cf53_9 : decode cJ9_min_7cf53 9 = .ok (.iload_n 1, 1) := by decide +kernel
theorem dJ9_min_7cf53_10 : decode cJ9_min_7cf53 10 = .ok (.ireturn, 1) := by decide +kernel
theorem dJxa1e45_init_da8c8_0 : decode cJxa1e45_init_da8c8 0 = .ok (.aload_n 0, 1) := by decide +kernel
theorem dJxa1e45_init_da8c8_1 : decode cJxa1e45_init_da8c8 1 = .ok (.invokespecial 1, 3) := by decide +kernel
theorem dJxa1e45_init_da8c8_4 : decode cJxa1e45_init_da8c8 4 = .ok (.return_, 1) := by decide +kernel
theorem dJxc12de_init_da8c8_0 : decode cJxc12de_init_da8c8 0 = .ok (.aload_n 0, 1) := by decide +kernel
theorem dJxc12de_init_da8c8_1 : decode cJxc12de_init_da8c8 1 = .ok (.invokespecial 1, 3) := by decide +kernel
theorem dJxc12de_init_da8c8_4 : decode cJxc12de_init_da8c8 4 = .ok (.aload_n 0, 1) := by decide +kernel
theorem dJxc12de_init_da8c8_5 : decode cJxc12de_init_da8c8 5 = .ok (.iconst 0, 1) := by decide +kernel
theorem dJxc12de_init_da8c8_6 : decode cJxc12de_init_da8c8 6 = .ok (.putfield 7, 3) := by decide +kernel
theorem dJxc12de_init_da8c8_9 : decode cJxc12de_init_da8c8 9 = .ok (.return_, 1) := by decide +kernel
theorem dJx4a65c_init_da8c8_0 : decode cJx4a65c_init_da8c8 0 = .ok (.aload_n 0, 1) := by decide +kernel
theorem dJx4a65c_init_da8c8_1 : decode cJx4a65c_init_da8c8 1 = .ok (.invokespecial 1, 3) := by decide +kernel
theorem dJx4a65c_init_da8c8_4 : decode cJx4a65c_init_da8c8 4 = .ok (.aload_n 0, 1) := by decide +kernel
theorem dJx4a65c_init_da8c8_5 : decode cJx4a65c_init_da8c8 5 = .ok (.getstatic 39, 3) := by decide +kernel
theorem dJx4a65c_init_da8c8_8 : decode cJx4a65c_init_da8c8 8 = .ok (.putfield 9, 3) := by decide +kernel
theorem dJx4a65c_init_da8c8_11 : decode cJx4a65c_init_da8c8 11 = .ok (.return_, 1) := by decide +kernel
theorem dJx4a65c_grow_92f84_0 : decode cJx4a65c_grow_92f84 0 = .ok (.aload_n 0, 1) := by decide +kernel
theorem dJx4a65c_grow_92f84_1 : decode cJx4a65c_grow_92f84 1 = .ok (.getfield 9, 3) := by decide +kernel
theorem dJx4a65c_grow_92f84_4 : decode cJx4a65c_grow_92f84 4 = .ok (.arraylength, 1) := by decide +kernel
theorem dJx4a65c_grow_92f84_5 : decode cJx4a65c_grow_92f84 5 = .ok (.istore_n 2, 1) := by decide +kernel
theorem dJx4a65c_grow_92f84_6 : decode cJx4a65c_grow_92f84 6 = .ok (.iload_n 2, 1) := by decide +kernel
theorem dJx4a65c_grow_92f84_7 : decode cJx4a65c_grow_92f84 7 = .ok (.ifCond .gt 13, 3) := by decide +kernel
theorem dJx4a65c_grow_92f84_10 : decode cJx4a65c_grow_92f84 10 = .ok (.aload_n 0, 1) := by decide +kernel
theorem dJx4a65c_grow_92f84_11 : decode cJx4a65c_grow_92f84 11 = .ok (.getfield 9, 3) := by decide +kernel
theorem dJx4a65c_grow_92f84_14 : decode cJx4a65c_grow_92f84 14 = .ok (.getstatic 39, 3) := by decide +kernel
theorem dJx4a65c_grow_92f84_17 : decode cJx4a65c_grow_92f84 17 = .ok (.if_acmp .eq 28, 3) := by decide +kernel
theorem dJx4a65c_grow_92f84_20 : decode cJx4a65c_grow_92f84 20 = .ok (.iload_n 2, 1) := by decide +kernel
theorem dJx4a65c_grow_92f84_21 : decode cJx4a65c_grow_92f84 21 = .ok (.iload_n 1, 1) := by decide +kernel
theorem dJx4a65c_grow_92f84_22 : decode cJx4a65c_grow_92f84 22 = .ok (.iload_n 2, 1) := by decide +kernel
theorem dJx4a65c_grow_92f84_23 : decode cJx4a65c_grow_92f84 23 = .ok (.isub, 1) := by decide +kernel
theorem dJx4a65c_grow_92f84_24 : decode cJx4a65c_grow_92f84 24 = .ok (.iload_n 2, 1) := by decide +kernel
theorem dJx4a65c_grow_92f84_25 : decode cJx4a65c_grow_92f84 25 = .ok (.iconst 1, 1) := by decide +kernel
theorem dJx4a65c_grow_92f84_26 : decode cJx4a65c_grow_92f84 26 = .ok (.ishr, 1) := by decide +kernel
theorem dJx4a65c_grow_92f84_27 : decode cJx4a65c_grow_92f84 27 = .ok (.invokestatic 73, 3) := by decide +kernel
theorem dJx4a65c_grow_92f84_30 : decode cJx4a65c_grow_92f84 30 = .ok (.istore_n 3, 1) := by decide +kernel
theorem dJx4a65c_grow_92f84_31 : decode cJx4a65c_grow_92f84 31 = .ok (.aload_n 0, 1) := by decide +kernel
theorem dJx4a65c_grow_92f84_32 : decode cJx4a65c_grow_92f84 32 = .ok (.aload_n 0, 1) := by decide +kernel
theorem dJx4a65c_grow_92f84_33 : decode cJx4a65c_grow_92f84 33 = .ok (.getfield 9, 3) := by decide +kernel
theorem dJx4a65c_grow_92f84_36 : decode cJx4a65c_grow_92f84 36 = .ok (.iload_n 3, 1) := by decide +kernel
theorem dJx4a65c_grow_92f84_37 : decode cJx4a65c_grow_92f84 37 = .ok (.invokestatic 66, 3) := by decide +kernel
theorem dJx4a65c_grow_92f84_40 : decode cJx4a65c_grow_92f84 40 = .ok (.dup_x1, 1) := by decide +kernel
theorem dJx4a65c_grow_92f84_41 : decode cJx4a65c_grow_92f84 41 = .ok (.putfield 9, 3) := by decide +kernel
theorem dJx4a65c_grow_92f84_44 : decode cJx4a65c_grow_92f84 44 = .ok (.areturn, 1) := by decide +kernel
theorem dJx4a65c_grow_92f84_45 : decode cJx4a65c_grow_92f84 45 = .ok (.aload_n 0, 1) := by decide +kernel
theorem dJx4a65c_grow_92f84_46 : decode cJx4a65c_grow_92f84 46 = .ok (.bipush 10, 2) := by decide +kernel
theorem dJx4a65c_grow_92f84_48 : decode cJx4a65c_grow_92f84 48 = .ok (.iload_n 1, 1) := by decide +kernel
theorem dJx4a65c_grow_92f84_49 : decode cJx4a65c_grow_92f84 49 = .ok (.invokestatic 79, 3) := by decide +kernel
theorem dJx4a65c_grow_92f84_52 : decode cJx4a65c_grow_92f84 52 = .ok (.anewarray 7, 3) := by decide +kernel
theorem dJx4a65c_grow_92f84_55 : decode cJx4a65c_grow_92f84 55 = .ok (.dup_x1, 1) := by decide +kernel
theorem dJx4a65c_grow_92f84_56 : decode cJx4a65c_grow_92f84 56 = .ok (.putfield 9, 3) := by decide +kernel
theorem dJx4a65c_grow_92f84_59 : decode cJx4a65c_grow_92f84 59 = .ok (.areturn, 1) := by decide +kernel
theorem dJx4a65c_grow_d5877_0 : decode cJx4a65c_grow_d5877 0 = .ok (.aload_n 0, 1) := by decide +kernel
theorem dJx4a65c_grow_d5877_1 : decode cJx4a65c_grow_d5877 1 = .ok (.aload_n 0, 1) := by decide +kernel
theorem dJx4a65c_grow_d5877_2 : decode cJx4a65c_grow_d5877 2 = .ok (.getfield 48, 3) := by decide +kernel
theorem dJx4a65c_grow_d5877_5 : decode cJx4a65c_grow_d5877 5 = .ok (.iconst 1, 1) := by decide +kernel
theorem dJx4a65c_grow_d5877_6 : decode cJx4a65c_grow_d5877 6 = .ok (.iadd, 1) := by decide +kernel
theorem dJx4a65c_grow_d5877_7 : decode cJx4a65c_grow_d5877 7 = .ok (.invokevirtual 69, 3) := by decide +kernel
theorem dJx4a65c_grow_d5877_10 : decode cJx4a65c_grow_d5877 10 = .ok (.areturn, 1) := by decide +kernel
theorem dJx4a65c_size_8abf5_0 : decode cJx4a65c_size_8abf5 0 = .ok (.aload_n 0, 1) := by decide +kernel
theorem dJx4a65c_size_8abf5_1 : decode cJx4a65c_size_8abf5 1 = .ok (.getfield 48, 3) := by decide +kernel
theorem dJx4a65c_size_8abf5_4 : decode cJx4a65c_size_8abf5 4 = .ok (.ireturn, 1) := by decide +kernel
theorem dJx4a65c_isEmpty_aae02_0 : decode cJx4a65c_isEmpty_aae02 0 = .ok (.aload_n 0, 1) := by decide +kernel
theorem dJx4a65c_isEmpty_aae02_1 : decode cJx4a65c_isEmpty_aae02 1 = .ok (.getfield 48, 3) := by decide +kernel
theorem dJx4a65c_isEmpty_aae02_4 : decode cJx4a65c_isEmpty_aae02 4 = .ok (.ifCond .ne 7, 3) := by decide +kernel
theorem dJx4a65c_isEmpty_aae02_7 : decode cJx4a65c_isEmpty_aae02 7 = .ok (.iconst 1, 1) := by decide +kernel
theorem dJx4a65c_isEmpty_aae02_8 : decode cJx4a65c_isEmpty_aae02 8 = .ok (.goto 4, 3) := by decide +kernel
theorem dJx4a65c_isEmpty_aae02_11 : decode cJx4a65c_isEmpty_aae02 11 = .ok (.iconst 0, 1) := by decide +kernel
theorem dJx4a65c_isEmpty_aae02_12 : decode cJx4a65c_isEmpty_aae02 12 = .ok (.ireturn, 1) := by decide +kernel
theorem dJx4a65c_elementData_915e3_0 : decode cJx4a65c_elementData_915e3 0 = .ok (.aload_n 0, 1) := by decide +kernel
theorem dJx4a65c_elementData_915e3_1 : decode cJx4a65c_elementData_915e3 1 = .ok (.getfield 9, 3) := by decide +kernel
theorem dJx4a65c_elementData_915e3_4 : decode cJx4a65c_elementData_915e3 4 = .ok (.iload_n 1, 1) := by decide +kernel
theorem dJx4a65c_elementData_915e3_5 : decode cJx4a65c_elementData_915e3 5 = .ok (.aaload, 1) := by decide +kernel
theorem dJx4a65c_elementData_915e3_6 : decode cJx4a65c_elementData_915e3 6 = .ok (.areturn, 1) := by decide +kernel
theorem dJx4a65c_get_915e3_0 : decode cJx4a65c_get_915e3 0 = .ok (.iload_n 1, 1) := by decide +kernel
theorem dJx4a65c_get_915e3_1 : decode cJx4a65c_get_915e3 1 = .ok (.aload_n 0, 1) := by decide +kernel
theorem dJx4a65c_get_915e3_2 : decode cJx4a65c_get_915e3 2 = .ok (.getfield 48, 3) := by decide +kernel
theorem dJx4a65c_get_915e3_5 : decode cJx4a65c_get_915e3 5 = .ok (.invokestatic 118, 3) := by decide +kernel
theorem dJx4a65c_get_915e3_8 : decode cJx4a65c_get_915e3 8 = .ok (.pop, 1) := by decide +kernel
theorem dJx4a65c_get_915e3_9 : decode cJx4a65c_get_915e3 9 = .ok (.aload_n 0, 1) := by decide +kernel
theorem dJx4a65c_get_915e3_10 : decode cJx4a65c_get_915e3 10 = .ok (.iload_n 1, 1) := by decide +kernel
theorem dJx4a65c_get_915e3_11 : decode cJx4a65c_get_915e3 11 = .ok (.invokevirtual 123, 3) := by decide +kernel
theorem dJx4a65c_get_915e3_14 : decode cJx4a65c_get_915e3 14 = .ok (.areturn, 1) := by decide +kernel
theorem dJx4a65c_add_72be8_0 : decode cJx4a65c_add_72be8 0 = .ok (.iload_n 3, 1) := by decide +kernel
theorem dJx4a65c_add_72be8_1 : decode cJx4a65c_add_72be8 1 = .ok (.aload_n 2, 1) := by decide +kernel
theorem dJx4a65c_add_72be8_2 : decode cJx4a65c_add_72be8 2 = .ok (.arraylength, 1) := by decide +kernel
theorem dJx4a65c_add_72be8_3 : decode cJx4a65c_add_72be8 3 = .ok (.if_icmp .ne 8, 3) := by decide +kernel
theorem dJx4a65c_add_72be8_6 : decode cJx4a65c_add_72be8 6 = .ok (.aload_n 0, 1) := by decide +kernel
theorem dJx4a65c_add_72be8_7 : decode cJx4a65c_add_72be8 7 = .ok (.invokevirtual 129, 3) := by decide +kernel
theorem dJx4a65c_add_72be8_10 : decode cJx4a65c_add_72be8 10 = .ok (.astore_n 2, 1) := by decide +kernel
theorem dJx4a65c_add_72be8_11 : decode cJx4a65c_add_72be8 11 = .ok (.aload_n 2, 1) := by decide +kernel
theorem dJx4a65c_add_72be8_12 : decode cJx4a65c_add_72be8 12 = .ok (.iload_n 3, 1) := by decide +kernel
theorem dJx4a65c_add_72be8_13 : decode cJx4a65c_add_72be8 13 = .ok (.aload_n 1, 1) := by decide +kernel
theorem dJx4a65c_add_72be8_14 : decode cJx4a65c_add_72be8 14 = .ok (.aastore, 1) := by decide +kernel
theorem dJx4a65c_add_72be8_15 : decode cJx4a65c_add_72be8 15 = .ok (.aload_n 0, 1) := by decide +kernel
theorem dJx4a65c_add_72be8_16 : decode cJx4a65c_add_72be8 16 = .ok (.iload_n 3, 1) := by decide +kernel
theorem dJx4a65c_add_72be8_17 : decode cJx4a65c_add_72be8 17 = .ok (.iconst 1, 1) := by decide +kernel
theorem dJx4a65c_add_72be8_18 : decode cJx4a65c_add_72be8 18 = .ok (.iadd, 1) := by decide +kernel
theorem dJx4a65c_add_72be8_19 : decode cJx4a65c_add_72be8 19 = .ok (.putfield 48, 3) := by decide +kernel
theorem dJx4a65c_add_72be8_22 : decode cJx4a65c_add_72be8 22 = .ok (.return_, 1) := by decide +kernel
theorem dJx4a65c_add_9ea2d_0 : decode cJx4a65c_add_9ea2d 0 = .ok (.aload_n 0, 1) := by decide +kernel
theorem dJx4a65c_add_9ea2d_1 : decode cJx4a65c_add_9ea2d 1 = .ok (.dup, 1) := by decide +kernel
theorem dJx4a65c_add_9ea2d_2 : decode cJx4a65c_add_9ea2d 2 = .ok (.getfield 63, 3) := by decide +kernel
theorem dJx4a65c_add_9ea2d_5 : decode cJx4a65c_add_9ea2d 5 = .ok (.iconst 1, 1) := by decide +kernel
theorem dJx4a65c_add_9ea2d_6 : decode cJx4a65c_add_9ea2d 6 = .ok (.iadd, 1) := by decide +kernel
theorem dJx4a65c_add_9ea2d_7 : decode cJx4a65c_add_9ea2d 7 = .ok (.putfield 63, 3) := by decide +kernel
theorem dJx4a65c_add_9ea2d_10 : decode cJx4a65c_add_9ea2d 10 = .ok (.aload_n 0, 1) := by decide +kernel
theorem dJx4a65c_add_9ea2d_11 : decode cJx4a65c_add_9ea2d 11 = .ok (.aload_n 1, 1) := by decide +kernel
theorem dJx4a65c_add_9ea2d_12 : decode cJx4a65c_add_9ea2d 12 = .ok (.aload_n 0, 1) := by decide +kernel
theorem dJx4a65c_add_9ea2d_13 : decode cJx4a65c_add_9ea2d 13 = .ok (.getfield 9, 3) := by decide +kernel
theorem dJx4a65c_add_9ea2d_16 : decode cJx4a65c_add_9ea2d 16 = .ok (.aload_n 0, 1) := by decide +kernel
theorem dJx4a65c_add_9ea2d_17 : decode cJx4a65c_add_9ea2d 17 = .ok (.getfield 48, 3) := by decide +kernel
theorem dJx4a65c_add_9ea2d_20 : decode cJx4a65c_add_9ea2d 20 = .ok (.invokevirtual 131, 3) := by decide +kernel
theorem dJx4a65c_add_9ea2d_23 : decode cJx4a65c_add_9ea2d 23 = .ok (.iconst 1, 1) := by decide +kernel
theorem dJx4a65c_add_9ea2d_24 : decode cJx4a65c_add_9ea2d 24 = .ok (.ireturn, 1) := by decide +kernel
theorem dJ7_copyOf_1904c_0 : decode cJ7_copyOf_1904c 0 = .ok (.aload_n 0, 1) := by decide +kernel
theorem dJ7_copyOf_1904c_1 : decode cJ7_copyOf_1904c 1 = .ok (.iload_n 1, 1) := by decide +kernel
theorem dJ7_copyOf_1904c_2 : decode cJ7_copyOf_1904c 2 = .ok (.aload_n 0, 1) := by decide +kernel
theorem dJ7_copyOf_1904c_3 : decode cJ7_copyOf_1904c 3 = .ok (.invokevirtual 86, 3) := by decide +kernel
theorem dJ7_copyOf_1904c_6 : decode cJ7_copyOf_1904c 6 = .ok (.invokestatic 300, 3) := by decide +kernel
theorem dJ7_copyOf_1904c_9 : decode cJ7_copyOf_1904c 9 = .ok (.areturn, 1) := by decide +kernel
theorem dJ7_copyOf_6403c_0 : decode cJ7_copyOf_6403c 0 = .ok (.aload_n 2, 1) := by decide +kernel
theorem dJ7_copyOf_6403c_1 : decode cJ7_copyOf_6403c 1 = .ok (.ldc 110, 2) := by decide +kernel
theorem dJ7_copyOf_6403c_3 : decode cJ7_copyOf_6403c 3 = .ok (.if_acmp .ne 10, 3) := by decide +kernel
theorem dJ7_copyOf_6403c_6 : decode cJ7_copyOf_6403c 6 = .ok (.iload_n 1, 1) := by decide +kernel
theorem dJ7_copyOf_6403c_7 : decode cJ7_copyOf_6403c 7 = .ok (.anewarray 2, 3) := by decide +kernel
theorem dJ7_copyOf_6403c_10 : decode cJ7_copyOf_6403c 10 = .ok (.goto 14, 3) := by decide +kernel
theorem dJ7_copyOf_6403c_13 : decode cJ7_copyOf_6403c 13 = .ok (.aload_n 2, 1) := by decide +kernel
theorem dJ7_copyOf_6403c_14 : decode cJ7_copyOf_6403c 14 = .ok (.invokevirtual 90, 3) := by decide +kernel
theorem dJ7_copyOf_6403c_17 : decode cJ7_copyOf_6403c 17 = .ok (.iload_n 1, 1) := by decide +kernel
theorem dJ7_copyOf_6403c_18 : decode cJ7_copyOf_6403c 18 = .ok (.invokestatic 95, 3) := by decide +kernel
theorem dJ7_copyOf_6403c_21 : decode cJ7_copyOf_6403c 21 = .ok (.checkcast 110, 3) := by decide +kernel
theorem dJ7_copyOf_6403c_24 : decode cJ7_copyOf_6403c 24 = .ok (.astore_n 3, 1) := by decide +kernel
theorem dJ7_copyOf_6403c_25 : decode cJ7_copyOf_6403c 25 = .ok (.aload_n 0, 1) := by decide +kernel
theorem dJ7_copyOf_6403c_26 : decode cJ7_copyOf_6403c 26 = .ok (.iconst 0, 1) := by decide +kernel
theorem dJ7_copyOf_6403c_27 : decode cJ7_copyOf_6403c 27 = .ok (.aload_n 3, 1) := by decide +kernel
theorem dJ7_copyOf_6403c_28 : decode cJ7_copyOf_6403c 28 = .ok (.iconst 0, 1) := by decide +kernel
theorem dJ7_copyOf_6403c_29 : decode cJ7_copyOf_6403c 29 = .ok (.aload_n 0, 1) := by decide +kernel
theorem dJ7_copyOf_6403c_30 : decode cJ7_copyOf_6403c 30 = .ok (.arraylength, 1) := by decide +kernel
theorem dJ7_copyOf_6403c_31 : decode cJ7_copyOf_6403c 31 = .ok (.iload_n 1, 1) := by decide +kernel
theorem dJ7_copyOf_6403c_32 : decode cJ7_copyOf_6403c 32 = .ok (.invokestatic 304, 3) := by decide +kernel
theorem dJ7_copyOf_6403c_35 : decode cJ7_copyOf_6403c 35 = .ok (.invokestatic 150, 3) := by decide +kernel
theorem dJ7_copyOf_6403c_38 : decode cJ7_copyOf_6403c 38 = .ok (.aload_n 3, 1) := by decide +kernel
theorem dJ7_copyOf_6403c_39 : decode cJ7_copyOf_6403c 39 = .ok (.areturn, 1) := by decide +kernel
theorem dJ15_checkIndex_7cf53_0 : decode cJ15_checkIndex_7cf53 0 = .ok (.iload_n 0, 1) := by decide +kernel
theorem dJ15_checkIndex_7cf53_1 : decode cJ15_checkIndex_7cf53 1 = .ok (.iload_n 1, 1) := by decide +kernel
theorem dJ15_checkIndex_7cf53_2 : decode cJ15_checkIndex_7cf53 2 = .ok (.aconst_null, 1) := by decide +kernel
theorem dJ15_checkIndex_7cf53_3 : decode cJ15_checkIndex_7cf53 3 = .ok (.invokestatic 105, 3) := by decide +kernel
theorem dJ15_checkIndex_7cf53_6 : decode cJ15_checkIndex_7cf53 6 = .ok (.ireturn, 1) := by decide +kernel
theorem dJ8_newLength_cabcc_0 : decode cJ8_newLength_cabcc 0 = .ok (.iload_n 0, 1) := by decide +kernel
theorem dJ8_newLength_cabcc_1 : decode cJ8_newLength_cabcc 1 = .ok (.iload_n 1, 1) := by decide +kernel
theorem dJ8_newLength_cabcc_2 : decode cJ8_newLength_cabcc 2 = .ok (.iload_n 2, 1) := by decide +kernel
theorem dJ8_newLength_cabcc_3 : decode cJ8_newLength_cabcc 3 = .ok (.invokestatic 194, 3) := by decide +kernel
theorem dJ8_newLength_cabcc_6 : decode cJ8_newLength_cabcc 6 = .ok (.iadd, 1) := by decide +kernel
theorem dJ8_newLength_cabcc_7 : decode cJ8_newLength_cabcc 7 = .ok (.istore_n 3, 1) := by decide +kernel
theorem dJ8_newLength_cabcc_8 : decode cJ8_newLength_cabcc 8 = .ok (.iconst 0, 1) := by decide +kernel
theorem dJ8_newLength_cabcc_9 : decode cJ8_newLength_cabcc 9 = .ok (.iload_n 3, 1) := by decide +kernel
theorem dJ8_newLength_cabcc_10 : decode cJ8_newLength_cabcc 10 = .ok (.if_icmp .ge 11, 3) := by decide +kernel
theorem dJ8_newLength_cabcc_13 : decode cJ8_newLength_cabcc 13 = .ok (.iload_n 3, 1) := by decide +kernel
theorem dJ8_newLength_cabcc_14 : decode cJ8_newLength_cabcc 14 = .ok (.ldc 200, 2) := by decide +kernel
theorem dJ8_newLength_cabcc_16 : decode cJ8_newLength_cabcc 16 = .ok (.if_icmp .gt 5, 3) := by decide +kernel
theorem dJ8_newLength_cabcc_19 : decode cJ8_newLength_cabcc 19 = .ok (.iload_n 3, 1) := by decide +kernel
theorem dJ8_newLength_cabcc_20 : decode cJ8_newLength_cabcc 20 = .ok (.ireturn, 1) := by decide +kernel
theorem dJ8_newLength_cabcc_21 : decode cJ8_newLength_cabcc 21 = .ok (.iload_n 0, 1) := by decide +kernel
theorem dJ8_newLength_cabcc_22 : decode cJ8_newLength_cabcc 22 = .ok (.iload_n 1, 1) := by decide +kernel
theorem dJ8_newLength_cabcc_23 : decode cJ8_newLength_cabcc 23 = .ok (.invokestatic 201, 3) := by decide +kernel
theorem dJ8_newLength_cabcc_26 : decode cJ8_newLength_cabcc 26 = .ok (.ireturn, 1) := by decide +kernel
theorem dJ8_hugeLength_7cf53_0 : decode cJ8_hugeLength_7cf53 0 = .ok (.iload_n 0, 1) := by decide +kernel
theorem dJ8_hugeLength_7cf53_1 : decode cJ8_hugeLength_7cf53 1 = .ok (.iload_n 1, 1) := by decide +kernel
theorem dJ8_hugeLength_7cf53_2 : decode cJ8_hugeLength_7cf53 2 = .ok (.iadd, 1) := by decide +kernel
theorem dJ8_hugeLength_7cf53_3 : decode cJ8_hugeLength_7cf53 3 = .ok (.istore_n 2, 1) := by decide +kernel
theorem dJ8_hugeLength_7cf53_4 : decode cJ8_hugeLength_7cf53 4 = .ok (.iload_n 2, 1) := by decide +kernel
theorem dJ8_hugeLength_7cf53_5 : decode cJ8_hugeLength_7cf53 5 = .ok (.ifCond .ge 44, 3) := by decide +kernel
theorem dJ8_hugeLength_7cf53_8 : decode cJ8_hugeLength_7cf53 8 = .ok (.new 204, 3) := by decide +kernel
theorem dJ8_hugeLength_7cf53_11 : decode cJ8_hugeLength_7cf53 11 = .ok (.dup, 1) := by decide +kernel
theorem dJ8_hugeLength_7cf53_12 : decode cJ8_hugeLength_7cf53 12 = .ok (.new 89, 3) := by decide +kernel
theorem dJ8_hugeLength_7cf53_15 : decode cJ8_hugeLength_7cf53 15 = .ok (.dup, 1) := by decide +kernel
theorem dJ8_hugeLength_7cf53_16 : decode cJ8_hugeLength_7cf53 16 = .ok (.invokespecial 91, 3) := by decide +kernel
theorem dJ8_hugeLength_7cf53_19 : decode cJ8_hugeLength_7cf53 19 = .ok (.ldc 206, 2) := by decide +kernel
theorem dJ8_hugeLength_7cf53_21 : decode cJ8_hugeLength_7cf53 21 = .ok (.invokevirtual 94, 3) := by decide +kernel
theorem dJ8_hugeLength_7cf53_24 : decode cJ8_hugeLength_7cf53 24 = .ok (.iload_n 0, 1) := by decide +kernel
theorem dJ8_hugeLength_7cf53_25 : decode cJ8_hugeLength_7cf53 25 = .ok (.invokevirtual 98, 3) := by decide +kernel
theorem dJ8_hugeLength_7cf53_28 : decode cJ8_hugeLength_7cf53 28 = .ok (.ldc 208, 2) := by decide +kernel
theorem dJ8_hugeLength_7cf53_30 : decode cJ8_hugeLength_7cf53 30 = .ok (.invokevirtual 94, 3) := by decide +kernel
theorem dJ8_hugeLength_7cf53_33 : decode cJ8_hugeLength_7cf53 33 = .ok (.iload_n 1, 1) := by decide +kernel
theorem dJ8_hugeLength_7cf53_34 : decode cJ8_hugeLength_7cf53 34 = .ok (.invokevirtual 98, 3) := by decide +kernel
theorem dJ8_hugeLength_7cf53_37 : decode cJ8_hugeLength_7cf53 37 = .ok (.ldc 210, 2) := by decide +kernel
theorem dJ8_hugeLength_7cf53_39 : decode cJ8_hugeLength_7cf53 39 = .ok (.invokevirtual 94, 3) := by decide +kernel
theorem dJ8_hugeLength_7cf53_42 : decode cJ8_hugeLength_7cf53 42 = .ok (.invokevirtual 101, 3) := by decide +kernel
theorem dJ8_hugeLength_7cf53_45 : decode cJ8_hugeLength_7cf53 45 = .ok (.invokespecial 212, 3) := by decide +kernel
theorem dJ8_hugeLength_7cf53_48 : decode cJ8_hugeLength_7cf53 48 = .ok (.athrow, 1) := by decide +kernel
theorem dJ8_hugeLength_7cf53_49 : decode cJ8_hugeLength_7cf53 49 = .ok (.iload_n 2, 1) := by decide +kernel
theorem dJ8_hugeLength_7cf53_50 : decode cJ8_hugeLength_7cf53 50 = .ok (.ldc 200, 2) := by decide +kernel
theorem dJ8_hugeLength_7cf53_52 : decode cJ8_hugeLength_7cf53 52 = .ok (.if_icmp .gt 6, 3) := by decide +kernel
theorem dJ8_hugeLength_7cf53_55 : decode cJ8_hugeLength_7cf53 55 = .ok (.ldc 200, 2) := by decide +kernel
theorem dJ8_hugeLength_7cf53_57 : decode cJ8_hugeLength_7cf53 57 = .ok (.ireturn, 1) := by decide +kernel
theorem dJ8_hugeLength_7cf53_58 : decode cJ8_hugeLength_7cf53 58 = .ok (.iload_n 2, 1) := by decide +kernel
theorem dJ8_hugeLength_7cf53_59 : decode cJ8_hugeLength_7cf53 59 = .ok (.ireturn, 1) := by decide +kernel
theorem dJ3_checkIndex_8e157_0 : decode cJ3_checkIndex_8e157 0 = .ok (.iload_n 0, 1) := by decide +kernel
theorem dJ3_checkIndex_8e157_1 : decode cJ3_checkIndex_8e157 1 = .ok (.ifCond .lt 8, 3) := by decide +kernel
theorem dJ3_checkIndex_8e157_4 : decode cJ3_checkIndex_8e157 4 = .ok (.iload_n 0, 1) := by decide +kernel
theorem dJ3_checkIndex_8e157_5 : decode cJ3_checkIndex_8e157 5 = .ok (.iload_n 1, 1) := by decide +kernel
theorem dJ3_checkIndex_8e157_6 : decode cJ3_checkIndex_8e157 6 = .ok (.if_icmp .lt 10, 3) := by decide +kernel
theorem dJ3_checkIndex_8e157_9 : decode cJ3_checkIndex_8e157 9 = .ok (.aload_n 2, 1) := by decide +kernel
theorem dJ3_checkIndex_8e157_10 : decode cJ3_checkIndex_8e157 10 = .ok (.iload_n 0, 1) := by decide +kernel
theorem dJ3_checkIndex_8e157_11 : decode cJ3_checkIndex_8e157 11 = .ok (.iload_n 1, 1) := by decide +kernel
theorem dJ3_checkIndex_8e157_12 : decode cJ3_checkIndex_8e157 12 = .ok (.invokestatic 95, 3) := by decide +kernel
theorem dJ3_checkIndex_8e157_15 : decode cJ3_checkIndex_8e157 15 = .ok (.athrow, 1) := by decide +kernel
theorem dJ3_checkIndex_8e157_16 : decode cJ3_checkIndex_8e157 16 = .ok (.iload_n 0, 1) := by decide +kernel
theorem dJ3_checkIndex_8e157_17 : decode cJ3_checkIndex_8e157 17 = .ok (.ireturn, 1) := by decide +kernel
theorem dL_low_0 : decode cL_low 0 = .ok (.iload_n 0, 1) := by decide +kernel
theorem dL_low_1 : decode cL_low 1 = .ok (.ldc 7, 2) := by decide +kernel
theorem dL_low_3 : decode cL_low 3 = .ok (.iand, 1) := by decide +kernel
theorem dL_low_4 : decode cL_low 4 = .ok (.iload_n 1, 1) := by decide +kernel
theorem dL_low_5 : decode cL_low 5 = .ok (.irem, 1) := by decide +kernel
theorem dL_low_6 : decode cL_low 6 = .ok (.ireturn, 1) := by decide +kernel
theorem dL_cell_0 : decode cL_cell 0 = .ok (.iload_n 1, 1) := by decide +kernel
theorem dL_cell_1 : decode cL_cell 1 = .ok (.aload_n 0, 1) := by decide +kernel
theorem dL_cell_2 : decode cL_cell 2 = .ok (.arraylength, 1) := by decide +kernel
theorem dL_cell_3 : decode cL_cell 3 = .ok (.if_icmp .ge 9, 3) := by decide +kernel
theorem dL_cell_6 : decode cL_cell 6 = .ok (.aload_n 0, 1) := by decide +kernel
theorem dL_cell_7 : decode cL_cell 7 = .ok (.iload_n 1, 1) := by decide +kernel
theorem dL_cell_8 : decode cL_cell 8 = .ok (.iaload, 1) := by decide +kernel
theorem dL_cell_9 : decode cL_cell 9 = .ok (.goto 11, 3) := by decide +kernel
theorem dL_cell_12 : decode cL_cell 12 = .ok (.ldc 8, 2) := by decide +kernel
theorem dL_cell_14 : decode cL_cell 14 = .ok (.iload_n 1, 1) := by decide +kernel
theorem dL_cell_15 : decode cL_cell 15 = .ok (.imul, 1) := by decide +kernel
theorem dL_cell_16 : decode cL_cell 16 = .ok (.sipush 977, 3) := by decide +kernel
theorem dL_cell_19 : decode cL_cell 19 = .ok (.iadd, 1) := by decide +kernel
theorem dL_cell_20 : decode cL_cell 20 = .ok (.ireturn, 1) := by decide +kernel
theorem dL_law_0 : decode cL_law 0 = .ok (.new 9, 3) := by decide +kernel
theorem dL_law_3 : decode cL_law 3 = .ok (.dup, 1) := by decide +kernel
theorem dL_law_4 : decode cL_law 4 = .ok (.invokespecial 11, 3) := by decide +kernel
theorem dL_law_7 : decode cL_law 7 = .ok (.astore_n 1, 1) := by decide +kernel
theorem dL_law_8 : decode cL_law 8 = .ok (.aload_n 0, 1) := by decide +kernel
theorem dL_law_9 : decode cL_law 9 = .ok (.iconst 0, 1) := by decide +kernel
theorem dL_law_10 : decode cL_law 10 = .ok (.invokestatic 12, 3) := by decide +kernel
theorem dL_law_13 : decode cL_law 13 = .ok (.bipush 8, 2) := by decide +kernel
theorem dL_law_15 : decode cL_law 15 = .ok (.invokestatic 18, 3) := by decide +kernel
theorem dL_law_18 : decode cL_law 18 = .ok (.istore_n 2, 1) := by decide +kernel
theorem dL_law_19 : decode cL_law 19 = .ok (.iconst 2, 1) := by decide +kernel
theorem dL_law_20 : decode cL_law 20 = .ok (.aload_n 0, 1) := by decide +kernel
theorem dL_law_21 : decode cL_law 21 = .ok (.iconst 1, 1) := by decide +kernel
theorem dL_law_22 : decode cL_law 22 = .ok (.invokestatic 12, 3) := by decide +kernel
theorem dL_law_25 : decode cL_law 25 = .ok (.bipush 7, 2) := by decide +kernel
theorem dL_law_27 : decode cL_law 27 = .ok (.invokestatic 18, 3) := by decide +kernel
theorem dL_law_30 : decode cL_law 30 = .ok (.iadd, 1) := by decide +kernel
theorem dL_law_31 : decode cL_law 31 = .ok (.istore_n 3, 1) := by decide +kernel
theorem dL_law_32 : decode cL_law 32 = .ok (.aload_n 1, 1) := by decide +kernel
theorem dL_law_33 : decode cL_law 33 = .ok (.iconst 1, 1) := by decide +kernel
theorem dL_law_34 : decode cL_law 34 = .ok (.aload_n 0, 1) := by decide +kernel
theorem dL_law_35 : decode cL_law 35 = .ok (.iconst 2, 1) := by decide +kernel
theorem dL_law_36 : decode cL_law 36 = .ok (.invokestatic 12, 3) := by decide +kernel
theorem dL_law_39 : decode cL_law 39 = .ok (.sipush 300, 3) := by decide +kernel
theorem dL_law_42 : decode cL_law 42 = .ok (.invokestatic 18, 3) := by decide +kernel
theorem dL_law_45 : decode cL_law 45 = .ok (.iadd, 1) := by decide +kernel
theorem dL_law_46 : decode cL_law 46 = .ok (.iload_n 2, 1) := by decide +kernel
theorem dL_law_47 : decode cL_law 47 = .ok (.invokevirtual 22, 3) := by decide +kernel
theorem dL_law_50 : decode cL_law 50 = .ok (.iconst 1, 1) := by decide +kernel
theorem dL_law_51 : decode cL_law 51 = .ok (.if_icmp .ne 21, 3) := by decide +kernel
theorem dL_law_54 : decode cL_law 54 = .ok (.aload_n 1, 1) := by decide +kernel
theorem dL_law_55 : decode cL_law 55 = .ok (.aload_n 0, 1) := by decide +kernel
theorem dL_law_56 : decode cL_law 56 = .ok (.iconst 3, 1) := by decide +kernel
theorem dL_law_57 : decode cL_law 57 = .ok (.invokestatic 12, 3) := by decide +kernel
theorem dL_law_60 : decode cL_law 60 = .ok (.sipush 144, 3) := by decide +kernel
theorem dL_law_63 : decode cL_law 63 = .ok (.invokestatic 18, 3) := by decide +kernel
theorem dL_law_66 : decode cL_law 66 = .ok (.invokevirtual 25, 3) := by decide +kernel
theorem dL_law_69 : decode cL_law 69 = .ok (.ifCond .eq 5, 3) := by decide +kernel
theorem dL_law_72 : decode cL_law 72 = .ok (.iconst 0, 1) := by decide +kernel
theorem dL_law_73 : decode cL_law 73 = .ok (.ireturn, 1) := by decide +kernel
theorem dL_law_74 : decode cL_law 74 = .ok (.bipush 9, 2) := by decide +kernel
theorem dL_law_76 : decode cL_law 76 = .ok (.newarray .int, 2) := by decide +kernel
theorem dL_law_78 : decode cL_law 78 = .ok (.astore 4, 2) := by decide +kernel
theorem dL_law_80 : decode cL_law 80 = .ok (.bipush 9, 2) := by decide +kernel
theorem dL_law_82 : decode cL_law 82 = .ok (.newarray .int, 2) := by decide +kernel
theorem dL_law_84 : decode cL_law 84 = .ok (.astore 5, 2) := by decide +kernel
theorem dL_law_86 : decode cL_law 86 = .ok (.aload_n 0, 1) := by decide +kernel
theorem dL_law_87 : decode cL_law 87 = .ok (.iconst 4, 1) := by decide +kernel
theorem dL_law_88 : decode cL_law 88 = .ok (.invokestatic 12, 3) := by decide +kernel
theorem dL_law_91 : decode cL_law 91 = .ok (.sipush 144, 3) := by decide +kernel
theorem dL_law_94 : decode cL_law 94 = .ok (.invokestatic 18, 3) := by decide +kernel
theorem dL_law_97 : decode cL_law 97 = .ok (.istore 6, 2) := by decide +kernel
theorem dL_law_99 : decode cL_law 99 = .ok (.bipush 10, 2) := by decide +kernel
theorem dL_law_101 : decode cL_law 101 = .ok (.aload_n 0, 1) := by decide +kernel
theorem dL_law_102 : decode cL_law 102 = .ok (.iconst 5, 1) := by decide +kernel
theorem dL_law_103 : decode cL_law 103 = .ok (.invokestatic 12, 3) := by decide +kernel
theorem dL_law_106 : decode cL_law 106 = .ok (.bipush 50, 2) := by decide +kernel
theorem dL_law_108 : decode cL_law 108 = .ok (.invokestatic 18, 3) := by decide +kernel
theorem dL_law_111 : decode cL_law 111 = .ok (.iadd, 1) := by decide +kernel
theorem dL_law_112 : decode cL_law 112 = .ok (.istore 7, 2) := by decide +kernel
theorem dL_law_114 : decode cL_law 114 = .ok (.iconst 0, 1) := by decide +kernel
theorem dL_law_115 : decode cL_law 115 = .ok (.istore 8, 2) := by decide +kernel
theorem dL_law_117 : decode cL_law 117 = .ok (.iload 8, 2) := by decide +kernel
theorem dL_law_119 : decode cL_law 119 = .ok (.iload_n 3, 1) := by decide +kernel
theorem dL_law_120 : decode cL_law 120 = .ok (.if_icmp .ge 106, 3) := by decide +kernel
theorem dL_law_123 : decode cL_law 123 = .ok (.aload 4, 2) := by decide +kernel
theorem dL_law_125 : decode cL_law 125 = .ok (.iload 8, 2) := by decide +kernel
theorem dL_law_127 : decode cL_law 127 = .ok (.aload_n 0, 1) := by decide +kernel
theorem dL_law_128 : decode cL_law 128 = .ok (.bipush 6, 2) := by decide +kernel
theorem dL_law_130 : decode cL_law 130 = .ok (.iload 8, 2) := by decide +kernel
theorem dL_law_132 : decode cL_law 132 = .ok (.iadd, 1) := by decide +kernel
theorem dL_law_133 : decode cL_law 133 = .ok (.invokestatic 12, 3) := by decide +kernel
theorem dL_law_136 : decode cL_law 136 = .ok (.sipush 144, 3) := by decide +kernel
theorem dL_law_139 : decode cL_law 139 = .ok (.invokestatic 18, 3) := by decide +kernel
theorem dL_law_142 : decode cL_law 142 = .ok (.iastore, 1) := by decide +kernel
theorem dL_law_143 : decode cL_law 143 = .ok (.aload_n 1, 1) := by decide +kernel
theorem dL_law_144 : decode cL_law 144 = .ok (.aload 4, 2) := by decide +kernel
theorem dL_law_146 : decode cL_law 146 = .ok (.iload 8, 2) := by decide +kernel
theorem dL_law_148 : decode cL_law 148 = .ok (.iaload, 1) := by decide +kernel
theorem dL_law_149 : decode cL_law 149 = .ok (.invokevirtual 29, 3) := by decide +kernel
theorem dL_law_152 : decode cL_law 152 = .ok (.iload 8, 2) := by decide +kernel
theorem dL_law_154 : decode cL_law 154 = .ok (.if_icmp .eq 5, 3) := by decide +kernel
theorem dL_law_157 : decode cL_law 157 = .ok (.iconst 0, 1) := by decide +kernel
theorem dL_law_158 : decode cL_law 158 = .ok (.ireturn, 1) := by decide +kernel
theorem dL_law_159 : decode cL_law 159 = .ok (.aload 5, 2) := by decide +kernel
theorem dL_law_161 : decode cL_law 161 = .ok (.iload 8, 2) := by decide +kernel
theorem dL_law_163 : decode cL_law 163 = .ok (.iload 7, 2) := by decide +kernel
theorem dL_law_165 : decode cL_law 165 = .ok (.aload_n 1, 1) := by decide +kernel
theorem dL_law_166 : decode cL_law 166 = .ok (.iload 6, 2) := by decide +kernel
theorem dL_law_168 : decode cL_law 168 = .ok (.aload 4, 2) := by decide +kernel
theorem dL_law_170 : decode cL_law 170 = .ok (.iload 8, 2) := by decide +kernel
theorem dL_law_172 : decode cL_law 172 = .ok (.iaload, 1) := by decide +kernel
theorem dL_law_173 : decode cL_law 173 = .ok (.invokevirtual 32, 3) := by decide +kernel
theorem dL_law_176 : decode cL_law 176 = .ok (.iadd, 1) := by decide +kernel
theorem dL_law_177 : decode cL_law 177 = .ok (.aload_n 0, 1) := by decide +kernel
theorem dL_law_178 : decode cL_law 178 = .ok (.bipush 16, 2) := by decide +kernel
theorem dL_law_180 : decode cL_law 180 = .ok (.iload 8, 2) := by decide +kernel
theorem dL_law_182 : decode cL_law 182 = .ok (.iadd, 1) := by decide +kernel
theorem dL_law_183 : decode cL_law 183 = .ok (.invokestatic 12, 3) := by decide +kernel
theorem dL_law_186 : decode cL_law 186 = .ok (.iconst 2, 1) := by decide +kernel
theorem dL_law_187 : decode cL_law 187 = .ok (.iload_n 2, 1) := by decide +kernel
theorem dL_law_188 : decode cL_law 188 = .ok (.imul, 1) := by decide +kernel
theorem dL_law_189 : decode cL_law 189 = .ok (.iconst 1, 1) := by decide +kernel
theorem dL_law_190 : decode cL_law 190 = .ok (.iadd, 1) := by decide +kernel
theorem dL_law_191 : decode cL_law 191 = .ok (.invokestatic 18, 3) := by decide +kernel
theorem dL_law_194 : decode cL_law 194 = .ok (.iadd, 1) := by decide +kernel
theorem dL_law_195 : decode cL_law 195 = .ok (.iload_n 2, 1) := by decide +kernel
theorem dL_law_196 : decode cL_law 196 = .ok (.isub, 1) := by decide +kernel
theorem dL_law_197 : decode cL_law 197 = .ok (.iastore, 1) := by decide +kernel
theorem dL_law_198 : decode cL_law 198 = .ok (.aload 5, 2) := by decide +kernel
theorem dL_law_200 : decode cL_law 200 = .ok (.iload 8, 2) := by decide +kernel
theorem dL_law_202 : decode cL_law 202 = .ok (.aload 5, 2) := by decide +kernel
theorem dL_law_204 : decode cL_law 204 = .ok (.iload 8, 2) := by decide +kernel
theorem dL_law_206 : decode cL_law 206 = .ok (.iaload, 1) := by decide +kernel
theorem dL_law_207 : decode cL_law 207 = .ok (.ifCond .ge 7, 3) := by decide +kernel
theorem dL_law_210 : decode cL_law 210 = .ok (.iconst 0, 1) := by decide +kernel
theorem dL_law_211 : decode cL_law 211 = .ok (.goto 8, 3) := by decide +kernel
theorem dL_law_214 : decode cL_law 214 = .ok (.aload 5, 2) := by decide +kernel
theorem dL_law_216 : decode cL_law 216 = .ok (.iload 8, 2) := by decide +kernel
theorem dL_law_218 : decode cL_law 218 = .ok (.iaload, 1) := by decide +kernel
theorem dL_law_219 : decode cL_law 219 = .ok (.iastore, 1) := by decide +kernel
theorem dL_law_220 : decode cL_law 220 = .ok (.iinc 8 1, 3) := by decide +kernel
theorem dL_law_223 : decode cL_law 223 = .ok (.goto (-106), 3) := by decide +kernel
theorem dL_law_226 : decode cL_law 226 = .ok (.sipush 145, 3) := by decide +kernel
theorem dL_law_229 : decode cL_law 229 = .ok (.istore 8, 2) := by decide +kernel
theorem dL_law_231 : decode cL_law 231 = .ok (.iconst 0, 1) := by decide +kernel
theorem dL_law_232 : decode cL_law 232 = .ok (.istore 9, 2) := by decide +kernel
theorem dL_law_234 : decode cL_law 234 = .ok (.iconst 0, 1) := by decide +kernel
theorem dL_law_235 : decode cL_law 235 = .ok (.istore 10, 2) := by decide +kernel
theorem dL_law_237 : decode cL_law 237 = .ok (.iload 10, 2) := by decide +kernel
theorem dL_law_239 : decode cL_law 239 = .ok (.sipush 400, 3) := by decide +kernel
theorem dL_law_242 : decode cL_law 242 = .ok (.if_icmp .ge 273, 3) := by decide +kernel
theorem dL_law_245 : decode cL_law 245 = .ok (.iconst (-1), 1) := by decide +kernel
theorem dL_law_246 : decode cL_law 246 = .ok (.istore 11, 2) := by decide +kernel
theorem dL_law_248 : decode cL_law 248 = .ok (.iconst 0, 1) := by decide +kernel
theorem dL_law_249 : decode cL_law 249 = .ok (.istore 12, 2) := by decide +kernel
theorem dL_law_251 : decode cL_law 251 = .ok (.iload 12, 2) := by decide +kernel
theorem dL_law_253 : decode cL_law 253 = .ok (.iload_n 3, 1) := by decide +kernel
theorem dL_law_254 : decode cL_law 254 = .ok (.if_icmp .ge 44, 3) := by decide +kernel
theorem dL_law_257 : decode cL_law 257 = .ok (.aload 5, 2) := by decide +kernel
theorem dL_law_259 : decode cL_law 259 = .ok (.iload 12, 2) := by decide +kernel
theorem dL_law_261 : decode cL_law 261 = .ok (.iaload, 1) := by decide +kernel
theorem dL_law_262 : decode cL_law 262 = .ok (.ifCond .lt 26, 3) := by decide +kernel
theorem dL_law_265 : decode cL_law 265 = .ok (.iload 11, 2) := by decide +kernel
theorem dL_law_267 : decode cL_law 267 = .ok (.ifCond .lt 16, 3) := by decide +kernel
theorem dL_law_270 : decode cL_law 270 = .ok (.aload 5, 2) := by decide +kernel
theorem dL_law_272 : decode cL_law 272 = .ok (.iload 12, 2) := by decide +kernel
theorem dL_law_274 : decode cL_law 274 = .ok (.iaload, 1) := by decide +kernel
theorem dL_law_275 : decode cL_law 275 = .ok (.aload 5, 2) := by decide +kernel
theorem dL_law_277 : decode cL_law 277 = .ok (.iload 11, 2) := by decide +kernel
theorem dL_law_279 : decode cL_law 279 = .ok (.iaload, 1) := by decide +kernel
theorem dL_law_280 : decode cL_law 280 = .ok (.if_icmp .ge 8, 3) := by decide +kernel
theorem dL_law_283 : decode cL_law 283 = .ok (.iload 12, 2) := by decide +kernel
theorem dL_law_285 : decode cL_law 285 = .ok (.goto 5, 3) := by decide +kernel
theorem dL_law_288 : decode cL_law 288 = .ok (.iload 11, 2) := by decide +kernel
theorem dL_law_290 : decode cL_law 290 = .ok (.istore 11, 2) := by decide +kernel
theorem dL_law_292 : decode cL_law 292 = .ok (.iinc 12 1, 3) := by decide +kernel
theorem dL_law_295 : decode cL_law 295 = .ok (.goto (-44), 3) := by decide +kernel
theorem dL_law_298 : decode cL_law 298 = .ok (.iload 11, 2) := by decide +kernel
theorem dL_law_300 : decode cL_law 300 = .ok (.ifCond .ge 6, 3) := by decide +kernel
theorem dL_law_303 : decode cL_law 303 = .ok (.goto 212, 3) := by decide +kernel
theorem dL_law_306 : decode cL_law 306 = .ok (.aload 5, 2) := by decide +kernel
theorem dL_law_308 : decode cL_law 308 = .ok (.iload 11, 2) := by decide +kernel
theorem dL_law_310 : decode cL_law 310 = .ok (.iaload, 1) := by decide +kernel
theorem dL_law_311 : decode cL_law 311 = .ok (.istore 12, 2) := by decide +kernel
theorem dL_law_313 : decode cL_law 313 = .ok (.aload_n 1, 1) := by decide +kernel
theorem dL_law_314 : decode cL_law 314 = .ok (.iload 12, 2) := by decide +kernel
theorem dL_law_316 : decode cL_law 316 = .ok (.aload_n 1, 1) := by decide +kernel
theorem dL_law_317 : decode cL_law 317 = .ok (.iconst 5, 1) := by decide +kernel
theorem dL_law_318 : decode cL_law 318 = .ok (.invokevirtual 35, 3) := by decide +kernel
theorem dL_law_321 : decode cL_law 321 = .ok (.isub, 1) := by decide +kernel
theorem dL_law_322 : decode cL_law 322 = .ok (.invokevirtual 38, 3) := by decide +kernel
theorem dL_law_325 : decode cL_law 325 = .ok (.iload 12, 2) := by decide +kernel
theorem dL_law_327 : decode cL_law 327 = .ok (.if_icmp .eq 5, 3) := by decide +kernel
theorem dL_law_330 : decode cL_law 330 = .ok (.iconst 0, 1) := by decide +kernel
theorem dL_law_331 : decode cL_law 331 = .ok (.ireturn, 1) := by decide +kernel
theorem dL_law_332 : decode cL_law 332 = .ok (.aload_n 1, 1) := by decide +kernel
theorem dL_law_333 : decode cL_law 333 = .ok (.iload 11, 2) := by decide +kernel
theorem dL_law_335 : decode cL_law 335 = .ok (.iload 12, 2) := by decide +kernel
theorem dL_law_337 : decode cL_law 337 = .ok (.sipush 1000, 3) := by decide +kernel
theorem dL_law_340 : decode cL_law 340 = .ok (.invokevirtual 41, 3) := by decide +kernel
theorem dL_law_343 : decode cL_law 343 = .ok (.istore 13, 2) := by decide +kernel
theorem dL_law_345 : decode cL_law 345 = .ok (.iload 13, 2) := by decide +kernel
theorem dL_law_347 : decode cL_law 347 = .ok (.iload 9, 2) := by decide +kernel
theorem dL_law_349 : decode cL_law 349 = .ok (.ifCond .ne 8, 3) := by decide +kernel
theorem dL_law_352 : decode cL_law 352 = .ok (.bipush 10, 2) := by decide +kernel
theorem dL_law_354 : decode cL_law 354 = .ok (.goto 4, 3) := by decide +kernel
theorem dL_law_357 : decode cL_law 357 = .ok (.iconst 0, 1) := by decide +kernel
theorem dL_law_358 : decode cL_law 358 = .ok (.if_icmp .eq 5, 3) := by decide +kernel
theorem dL_law_361 : decode cL_law 361 = .ok (.iconst 0, 1) := by decide +kernel
theorem dL_law_362 : decode cL_law 362 = .ok (.ireturn, 1) := by decide +kernel
theorem dL_law_363 : decode cL_law 363 = .ok (.iinc 9 1, 3) := by decide +kernel
theorem dL_law_366 : decode cL_law 366 = .ok (.aload 5, 2) := by decide +kernel
theorem dL_law_368 : decode cL_law 368 = .ok (.iload 11, 2) := by decide +kernel
theorem dL_law_370 : decode cL_law 370 = .ok (.iconst (-1), 1) := by decide +kernel
theorem dL_law_371 : decode cL_law 371 = .ok (.iastore, 1) := by decide +kernel
theorem dL_law_372 : decode cL_law 372 = .ok (.aload_n 1, 1) := by decide +kernel
theorem dL_law_373 : decode cL_law 373 = .ok (.iconst 0, 1) := by decide +kernel
theorem dL_law_374 : decode cL_law 374 = .ok (.iconst 1, 1) := by decide +kernel
theorem dL_law_375 : decode cL_law 375 = .ok (.invokevirtual 45, 3) := by decide +kernel
theorem dL_law_378 : decode cL_law 378 = .ok (.istore 14, 2) := by decide +kernel
theorem dL_law_380 : decode cL_law 380 = .ok (.aload_n 1, 1) := by decide +kernel
theorem dL_law_381 : decode cL_law 381 = .ok (.iconst 0, 1) := by decide +kernel
theorem dL_law_382 : decode cL_law 382 = .ok (.iconst 0, 1) := by decide +kernel
theorem dL_law_383 : decode cL_law 383 = .ok (.invokevirtual 45, 3) := by decide +kernel
theorem dL_law_386 : decode cL_law 386 = .ok (.iload 9, 2) := by decide +kernel
theorem dL_law_388 : decode cL_law 388 = .ok (.if_icmp .ne 47, 3) := by decide +kernel
theorem dL_law_391 : decode cL_law 391 = .ok (.iload 14, 2) := by decide +kernel
theorem dL_law_393 : decode cL_law 393 = .ok (.iconst 1, 1) := by decide +kernel
theorem dL_law_394 : decode cL_law 394 = .ok (.if_icmp .lt 41, 3) := by decide +kernel
theorem dL_law_397 : decode cL_law 397 = .ok (.iload 14, 2) := by decide +kernel
theorem dL_law_399 : decode cL_law 399 = .ok (.iload 8, 2) := by decide +kernel
theorem dL_law_401 : decode cL_law 401 = .ok (.if_icmp .gt 34, 3) := by decide +kernel
theorem dL_law_404 : decode cL_law 404 = .ok (.aload_n 1, 1) := by decide +kernel
theorem dL_law_405 : decode cL_law 405 = .ok (.iconst 0, 1) := by decide +kernel
theorem dL_law_406 : decode cL_law 406 = .ok (.iload 6, 2) := by decide +kernel
theorem dL_law_408 : decode cL_law 408 = .ok (.iload 7, 2) := by decide +kernel
theorem dL_law_410 : decode cL_law 410 = .ok (.invokevirtual 48, 3) := by decide +kernel
theorem dL_law_413 : decode cL_law 413 = .ok (.iconst 1, 1) := by decide +kernel
theorem dL_law_414 : decode cL_law 414 = .ok (.if_icmp .ne 21, 3) := by decide +kernel
theorem dL_law_417 : decode cL_law 417 = .ok (.aload_n 1, 1) := by decide +kernel
theorem dL_law_418 : decode cL_law 418 = .ok (.iconst 0, 1) := by decide +kernel
theorem dL_law_419 : decode cL_law 419 = .ok (.iconst 4, 1) := by decide +kernel
theorem dL_law_420 : decode cL_law 420 = .ok (.invokevirtual 45, 3) := by decide +kernel
theorem dL_law_423 : decode cL_law 423 = .ok (.ifCond .ne 12, 3) := by decide +kernel
theorem dL_law_426 : decode cL_law 426 = .ok (.aload_n 1, 1) := by decide +kernel
theorem dL_law_427 : decode cL_law 427 = .ok (.iconst 3, 1) := by decide +kernel
theorem dL_law_428 : decode cL_law 428 = .ok (.invokevirtual 35, 3) := by decide +kernel
theorem dL_law_431 : decode cL_law 431 = .ok (.iconst 1, 1) := by decide +kernel
theorem dL_law_432 : decode cL_law 432 = .ok (.if_icmp .eq 5, 3) := by decide +kernel
theorem dL_law_435 : decode cL_law 435 = .ok (.iconst 0, 1) := by decide +kernel
theorem dL_law_436 : decode cL_law 436 = .ok (.ireturn, 1) := by decide +kernel
theorem dL_law_437 : decode cL_law 437 = .ok (.iload 14, 2) := by decide +kernel
theorem dL_law_439 : decode cL_law 439 = .ok (.istore 8, 2) := by decide +kernel
theorem dL_law_441 : decode cL_law 441 = .ok (.aload_n 1, 1) := by decide +kernel
theorem dL_law_442 : decode cL_law 442 = .ok (.iconst 0, 1) := by decide +kernel
theorem dL_law_443 : decode cL_law 443 = .ok (.iconst 0, 1) := by decide +kernel
theorem dL_law_444 : decode cL_law 444 = .ok (.invokevirtual 51, 3) := by decide +kernel
theorem dL_law_447 : decode cL_law 447 = .ok (.istore 15, 2) := by decide +kernel
theorem dL_law_449 : decode cL_law 449 = .ok (.aload_n 1, 1) := by decide +kernel
theorem dL_law_450 : decode cL_law 450 = .ok (.iconst 0, 1) := by decide +kernel
theorem dL_law_451 : decode cL_law 451 = .ok (.iconst 0, 1) := by decide +kernel
theorem dL_law_452 : decode cL_law 452 = .ok (.invokevirtual 54, 3) := by decide +kernel
theorem dL_law_455 : decode cL_law 455 = .ok (.istore 16, 2) := by decide +kernel
theorem dL_law_457 : decode cL_law 457 = .ok (.iload 15, 2) := by decide +kernel
theorem dL_law_459 : decode cL_law 459 = .ok (.ifCond .lt 30, 3) := by decide +kernel
theorem dL_law_462 : decode cL_law 462 = .ok (.iload 16, 2) := by decide +kernel
theorem dL_law_464 : decode cL_law 464 = .ok (.ifCond .lt 25, 3) := by decide +kernel
theorem dL_law_467 : decode cL_law 467 = .ok (.iload 16, 2) := by decide +kernel
theorem dL_law_469 : decode cL_law 469 = .ok (.iconst 2, 1) := by decide +kernel
theorem dL_law_470 : decode cL_law 470 = .ok (.if_icmp .ne 8, 3) := by decide +kernel
theorem dL_law_473 : decode cL_law 473 = .ok (.iload 15, 2) := by decide +kernel
theorem dL_law_475 : decode cL_law 475 = .ok (.ifCond .eq 14, 3) := by decide +kernel
theorem dL_law_478 : decode cL_law 478 = .ok (.iload 16, 2) := by decide +kernel
theorem dL_law_480 : decode cL_law 480 = .ok (.iconst 1, 1) := by decide +kernel
theorem dL_law_481 : decode cL_law 481 = .ok (.if_icmp .ne 10, 3) := by decide +kernel
theorem dL_law_484 : decode cL_law 484 = .ok (.iload 15, 2) := by decide +kernel
theorem dL_law_486 : decode cL_law 486 = .ok (.ifCond .le 5, 3) := by decide +kernel
theorem dL_law_489 : decode cL_law 489 = .ok (.iconst 0, 1) := by decide +kernel
theorem dL_law_490 : decode cL_law 490 = .ok (.ireturn, 1) := by decide +kernel
theorem dL_law_491 : decode cL_law 491 = .ok (.iload 10, 2) := by decide +kernel
theorem dL_law_493 : decode cL_law 493 = .ok (.iconst 1, 1) := by decide +kernel
theorem dL_law_494 : decode cL_law 494 = .ok (.aload_n 0, 1) := by decide +kernel
theorem dL_law_495 : decode cL_law 495 = .ok (.bipush 26, 2) := by decide +kernel
theorem dL_law_497 : decode cL_law 497 = .ok (.iload 9, 2) := by decide +kernel
theorem dL_law_499 : decode cL_law 499 = .ok (.iadd, 1) := by decide +kernel
theorem dL_law_500 : decode cL_law 500 = .ok (.invokestatic 12, 3) := by decide +kernel
theorem dL_law_503 : decode cL_law 503 = .ok (.bipush 7, 2) := by decide +kernel
theorem dL_law_505 : decode cL_law 505 = .ok (.invokestatic 18, 3) := by decide +kernel
theorem dL_law_508 : decode cL_law 508 = .ok (.iadd, 1) := by decide +kernel
theorem dL_law_509 : decode cL_law 509 = .ok (.iadd, 1) := by decide +kernel
theorem dL_law_510 : decode cL_law 510 = .ok (.istore 10, 2) := by decide +kernel
theorem dL_law_512 : decode cL_law 512 = .ok (.goto (-275), 3) := by decide +kernel
theorem dL_law_515 : decode cL_law 515 = .ok (.iload 9, 2) := by decide +kernel
theorem dL_law_517 : decode cL_law 517 = .ok (.iload_n 3, 1) := by decide +kernel
theorem dL_law_518 : decode cL_law 518 = .ok (.if_icmp .ne 41, 3) := by decide +kernel
theorem dL_law_521 : decode cL_law 521 = .ok (.aload_n 1, 1) := by decide +kernel
theorem dL_law_522 : decode cL_law 522 = .ok (.sipush 500, 3) := by decide +kernel
theorem dL_law_525 : decode cL_law 525 = .ok (.invokevirtual 38, 3) := by decide +kernel
theorem dL_law_528 : decode cL_law 528 = .ok (.ifCond .le 31, 3) := by decide +kernel
theorem dL_law_531 : decode cL_law 531 = .ok (.aload_n 1, 1) := by decide +kernel
theorem dL_law_532 : decode cL_law 532 = .ok (.iconst 0, 1) := by decide +kernel
theorem dL_law_533 : decode cL_law 533 = .ok (.iconst 1, 1) := by decide +kernel
theorem dL_law_534 : decode cL_law 534 = .ok (.invokevirtual 45, 3) := by decide +kernel
theorem dL_law_537 : decode cL_law 537 = .ok (.iload 8, 2) := by decide +kernel
theorem dL_law_539 : decode cL_law 539 = .ok (.if_icmp .ne 20, 3) := by decide +kernel
theorem dL_law_542 : decode cL_law 542 = .ok (.aload_n 1, 1) := by decide +kernel
theorem dL_law_543 : decode cL_law 543 = .ok (.iconst 0, 1) := by decide +kernel
theorem dL_law_544 : decode cL_law 544 = .ok (.iload 6, 2) := by decide +kernel
theorem dL_law_546 : decode cL_law 546 = .ok (.iload 7, 2) := by decide +kernel
theorem dL_law_548 : decode cL_law 548 = .ok (.invokevirtual 48, 3) := by decide +kernel
theorem dL_law_551 : decode cL_law 551 = .ok (.iconst 1, 1) := by decide +kernel
theorem dL_law_552 : decode cL_law 552 = .ok (.if_icmp .ne 7, 3) := by decide +kernel
theorem dL_law_555 : decode cL_law 555 = .ok (.iconst 1, 1) := by decide +kernel
theorem dL_law_556 : decode cL_law 556 = .ok (.goto 4, 3) := by decide +kernel
theorem dL_law_559 : decode cL_law 559 = .ok (.iconst 0, 1) := by decide +kernel
theorem dL_law_560 : decode cL_law 560 = .ok (.ireturn, 1) := by decide +kernel
abbrev vwCl : List vw_C := [(RJx4a65c, TJx4a65c, 3), (RX0, TX0, 6), (RX2, TX2, 5), (RX2, TX2, 5), (RX3, TX3, 6), (RX4, TX4, 2), (RX5, TX5, 3), (RX6, TX6, 1), (RX7, TX7, 1), (RX8, TX8, 14), (RX8, TX8, 14)]
end
section
/-! A heap by names: a cell's name is (code, number). Codes 0 .. 10 are the objects of vwCl, 12 .. 16 rows of references, 20 .. 59 rows of ints, 60 .. rows of booleans; 17, 18, 19 are cells that are not ours -/
abbrev Nm : Type := Nat × Nat
abbrev Hp : Type := (List Nm × (Nm → Nat → Option Nm) × (Nm → Nat)) × (Nm → Nat → Int32) × Nat × Nat
def gL (g : Hp) : List Nm := g.1.1
def gR (g : Hp) : Nm → Nat → Option Nm := g.1.2.1
def gN (g : Hp) : Nm → Nat := g.1.2.2
def gI (g : Hp) : Nm → Nat → Int32 := g.2.1
def gc (g : Hp) : Nat := g.2.2.1
def gs (g : Hp) : Nat := g.2.2.2
def isX (n : Nm) : Prop := n = (17, 0) ∨ n = (18, 0) ∨ n = (19, 0)
def okr (g : Hp) (r : Option Nm) : Prop := ∀ n, r = some n → n ∈ gL g ∨ isX n
abbrev SV : Type := Int32 ⊕ Int64 ⊕ Option Nm
abbrev sI (x : Int32) : SV := .inl x
abbrev sL (x : Int64) : SV := .inr (.inl x)
abbrev sR (r : Option Nm) : SV := .inr (.inr r)
def cv (ad : Nm → Nat) : SV → Value
  | .inl x => .int x
  | .inr (.inl x) => .long x
  | .inr (.inr r) => va_rf (r.map ad)
def sc : SV → Nat
  | .inr (.inl _) => 2
  | _ => 1
def okv (g : Hp) : SV → Prop
  | .inr (.inr r) => okr g r
  | _ => True
theorem cv_cat (ad : Nm → Nat) (v : SV) : (cv ad v).category = sc v := by
  rcases v with x | x | r
  · rfl
  · rfl
  · cases r <;> rfl
def flds : Nat → List Bool
  | 0 => [false, true, false]
  | 1 => [true, true, false, false, false, false]
  | 2 => [false, false, false, false]
  | 3 => [false, false, false, false, false]
  | 4 => [false, false, true, false, true, true]
  | 5 => [true, false]
  | 6 => [false, true, false]
  | 7 => [false]
  | 8 => [true]
  | 9 => [true, true, true, true, true, true, true, true, true, false, false, false, false, false]
  | 10 => [false, true, false, false, false, false, false, true, true, false, true, true, true, true, true, false, true, true, true, true, false, true, true, true, false, true, true]
  | _ => []
def fv (ad : Nm → Nat) (g : Hp) (n : Nm) (k : Nat) (b : Bool) : Value := if b = true then va_rf ((gR g n k).map ad) else .int (gI g n k)
def ent (cs : ClassId × ClassId × ClassId) (ad : Nm → Nat) (g : Hp) (n : Nm) : va_E :=
  if n.1 < 11 then .inr (n.1, (flds n.1).mapIdx (fv ad g n))
  else if n.1 < 20 then .inl (cs.2.2, gN g n, .inr (.inr (.inr (.inr (fun j => (gR g n j).map ad)))))
  else if n.1 < 60 then .inl (cs.1, gN g n, .inl (gI g n))
  else .inl (cs.2.1, gN g n, .inl (gI g n))
def wld (cs : ClassId × ClassId × ClassId) (ad : Nm → Nat) (g : Hp) : va_W := (gL g).map (fun n => (ad n, ent cs ad g n))
def tyl (cs : ClassId × ClassId × ClassId) : List (ClassId × FieldType) := [(cs.1, .int), (cs.2.1, .int), (cs.2.2, .object "java/lang/Object")]
theorem ent_o {cs : ClassId × ClassId × ClassId} {ad : Nm → Nat} {g : Hp} {n : Nm} (h : n.1 < 11) : ent cs ad g n = .inr (n.1, (flds n.1).mapIdx (fv ad g n)) := by simp [ent, h]
theorem ent_r {cs : ClassId × ClassId × ClassId} {ad : Nm → Nat} {g : Hp} {n : Nm} (h : 12 ≤ n.1) (h2 : n.1 < 17) : ent cs ad g n = .inl (cs.2.2, gN g n, .inr (.inr (.inr (.inr (fun j => (gR g n j).map ad))))) := by
  have a1 : ¬ n.1 < 11 := by omega
  have a2 : n.1 < 20 := by omega
  simp [ent, a1, a2]
theorem ent_i {cs : ClassId × ClassId × ClassId} {ad : Nm → Nat} {g : Hp} {n : Nm} (h : 20 ≤ n.1) (h2 : n.1 < 60) : ent cs ad g n = .inl (cs.1, gN g n, .inl (gI g n)) := by
  have a1 : ¬ n.1 < 11 := by omega
  have a2 : ¬ n.1 < 20 := by omega
  simp [ent, a1, a2, h2]
theorem ent_z {cs : ClassId × ClassId × ClassId} {ad : Nm → Nat} {g : Hp} {n : Nm} (h : 60 ≤ n.1) : ent cs ad g n = .inl (cs.2.1, gN g n, .inl (gI g n)) := by
  have a1 : ¬ n.1 < 11 := by omega
  have a2 : ¬ n.1 < 20 := by omega
  have a3 : ¬ n.1 < 60 := by omega
  simp [ent, a1, a2, a3]
theorem fv_get {ad : Nm → Nat} {g : Hp} {n : Nm} {k : Nat} {b : Bool} (h : (flds n.1)[k]? = some b) : ((flds n.1).mapIdx (fv ad g n))[k]? = some (fv ad g n k b) := by
  rw [List.getElem?_mapIdx, h]; rfl
theorem wat {cs : ClassId × ClassId × ClassId} {ad : Nm → Nat} {g : Hp} {n : Nm} (h : n ∈ gL g) : ∃ k : Nat, (gL g)[k]? = some n ∧ (wld cs ad g)[k]? = some (ad n, ent cs ad g n) := by
  obtain ⟨k, hk⟩ := List.getElem?_of_mem h
  exact ⟨k, hk, by simp [wld, hk]⟩
theorem winj {cs : ClassId × ClassId × ClassId} {ad : Nm → Nat} {g : Hp} {A : Nat → Prop} (hD : va_D A (wld cs ad g)) {n m : Nm} (hn : n ∈ gL g) (hm : m ∈ gL g) (he : ad n = ad m) : n = m := by
  obtain ⟨k, h1, h2⟩ := wat (cs := cs) (ad := ad) hn
  obtain ⟨j, h3, h4⟩ := wat (cs := cs) (ad := ad) hm
  have := hD.1 k j _ _ h2 h4 he
  subst this
  exact Option.some.inj (h1.symm.trans h3)
theorem wset {cs : ClassId × ClassId × ClassId} {ad : Nm → Nat} {g g1 : Hp} {A : Nat → Prop} (hD : va_D A (wld cs ad g)) {n : Nm} {k : Nat} {e : va_E} (hk : (gL g)[k]? = some n) (hL : gL g1 = gL g) (he : ent cs ad g1 n = e) (ho : ∀ m, m ≠ n → ent cs ad g1 m = ent cs ad g m) : (wld cs ad g).set k (ad n, e) = wld cs ad g1 := by
  apply List.ext_getElem?
  intro j
  have hlt : k < (gL g).length := (List.getElem?_eq_some_iff.mp hk).1
  rw [List.getElem?_set]
  simp only [wld, hL, List.length_map, List.getElem?_map]
  by_cases hj : k = j
  · subst hj
    have hg := (List.getElem?_eq_some_iff.mp hk).2
    simp [hlt, hg, he]
  · rw [if_neg hj]
    cases hq : (gL g)[j]? with
    | none => rfl
    | some m =>
      have hm : m ≠ n := by
        intro e2
        subst e2
        have h1 : (wld cs ad g)[k]? = some (ad m, ent cs ad g m) := by simp [wld, hk]
        have h2 : (wld cs ad g)[j]? = some (ad m, ent cs ad g m) := by simp [wld, hq]
        exact hj (hD.1 k j _ _ h1 h2 rfl)
      simp [ho m hm]
def setI (g : Hp) (n : Nm) (k : Nat) (v : Int32) : Hp := (g.1, (fun m j => if m = n ∧ j = k then v else gI g m j), g.2.2)
def setR (g : Hp) (n : Nm) (k : Nat) (r : Option Nm) : Hp := ((gL g, (fun m j => if m = n ∧ j = k then r else gR g m j), gN g), g.2)
def newN (g : Hp) (n : Nm) (len sz : Nat) : Hp := ((gL g ++ [n], (fun m j => if m = n then none else gR g m j), (fun m => if m = n then len else gN g m)), (fun m j => if m = n then 0 else gI g m j), gc g + 1, gs g + sz)
def cpI (g : Hp) (a : Nm) (sp : Nat) (b : Nm) (dp n : Nat) : Hp := (g.1, (fun m j => if m = b then va_cpy (gI g a) (gI g b) sp dp n j else gI g m j), g.2.2)
def cpR (g : Hp) (a : Nm) (sp : Nat) (b : Nm) (dp n : Nat) : Hp := ((gL g, (fun m j => if m = b then va_cpy (gR g a) (gR g b) sp dp n j else gR g m j), gN g), g.2)
/-- what a cell refers to is there -/
def Cl (g : Hp) : Prop := ∀ m ∈ gL g, ∀ k, okr g (gR g m k)
def Mn (g g1 : Hp) : Prop := gc g ≤ gc g1 ∧ gs g ≤ gs g1 ∧ ∀ n ∈ gL g, n ∈ gL g1
theorem Mn.rf (g : Hp) : Mn g g := ⟨Nat.le_refl _, Nat.le_refl _, fun _ h => h⟩
theorem Mn.tr {a b c : Hp} (h : Mn a b) (h2 : Mn b c) : Mn a c := ⟨Nat.le_trans h.1 h2.1, Nat.le_trans h.2.1 h2.2.1, fun n hn => h2.2.2 n (h.2.2 n hn)⟩
theorem okr.mn {g g1 : Hp} (h : Mn g g1) {r : Option Nm} (hr : okr g r) : okr g1 r := fun n hn => (hr n hn).elim (fun q => Or.inl (h.2.2 n q)) Or.inr
theorem okv.mn {g g1 : Hp} (h : Mn g g1) {v : SV} (hv : okv g v) : okv g1 v := by
  rcases v with x | x | r
  · trivial
  · trivial
  · exact okr.mn h hv
/-! the steps, as plain functions -/
def getI (r : Option Nm) (c k : Nat) (g : Hp) : Option Int32 := match r with
  | some n => if n.1 = c then some (gI g n k) else none
  | none => none
def getR (r : Option Nm) (c k : Nat) (g : Hp) : Option (Option Nm) := match r with
  | some n => if n.1 = c then some (gR g n k) else none
  | none => none
def putI (r : Option Nm) (c k : Nat) (v : Int32) (g : Hp) : Option Hp := match r with
  | some n => if n.1 = c then some (setI g n k v) else none
  | none => none
def putZ (r : Option Nm) (c k : Nat) (v : Int32) (g : Hp) : Option Hp := match r with
  | some n => if n.1 = c ∧ (v = 0 ∨ v = 1) then some (setI g n k v) else none
  | none => none
def putR (r : Option Nm) (c k : Nat) (v : Option Nm) (g : Hp) : Option Hp := match r with
  | some n => if n.1 = c then some (setR g n k v) else none
  | none => none
noncomputable def aldI (r : Option Nm) (i : Int32) (g : Hp) : Option Int32 := by
  classical exact match r with
  | some n => if (20 ≤ n.1 ∧ n.1 < 60) ∧ vp_in i (gN g n) then some (gI g n i.toNatClampNeg) else none
  | none => none
noncomputable def aldZ (r : Option Nm) (i : Int32) (g : Hp) : Option Int32 := by
  classical exact match r with
  | some n => if 60 ≤ n.1 ∧ vp_in i (gN g n) then some (gI g n i.toNatClampNeg) else none
  | none => none
noncomputable def aldR (r : Option Nm) (i : Int32) (g : Hp) : Option (Option Nm) := by
  classical exact match r with
  | some n => if (12 ≤ n.1 ∧ n.1 < 17) ∧ vp_in i (gN g n) then some (gR g n i.toNatClampNeg) else none
  | none => none
noncomputable def astI (r : Option Nm) (i v : Int32) (g : Hp) : Option Hp := by
  classical exact match r with
  | some n => if (20 ≤ n.1 ∧ n.1 < 60) ∧ vp_in i (gN g n) then some (setI g n i.toNatClampNeg v) else none
  | none => none
noncomputable def astZ (r : Option Nm) (i v : Int32) (g : Hp) : Option Hp := by
  classical exact match r with
  | some n => if 60 ≤ n.1 ∧ vp_in i (gN g n) then some (setI g n i.toNatClampNeg (vp_nar .boolean v)) else none
  | none => none
noncomputable def astR (r : Option Nm) (i : Int32) (v : Option Nm) (g : Hp) : Option Hp := by
  classical exact match r, v with
  | some n, some w => if (12 ≤ n.1 ∧ n.1 < 17) ∧ vp_in i (gN g n) ∧ w.1 < 11 then some (setR g n i.toNatClampNeg (some w)) else none
  | _, _ => none
def alen (r : Option Nm) (g : Hp) : Option Int32 := match r with
  | some n => if n = (17, 0) then some 0 else if (12 ≤ n.1 ∧ n.1 < 17) ∨ 20 ≤ n.1 then some (Int32.ofNat (gN g n)) else none
  | none => none
noncomputable def mkO (n : Nm) (c : Nat) (g : Hp) : Option (Option Nm × Hp) := by
  classical exact if n.1 = c ∧ n ∉ gL g then some (some n, newN g n 0 (flds c).length) else none
noncomputable def mkI (n : Nm) (len : Int32) (g : Hp) : Option (Option Nm × Hp) := by
  classical exact if (20 ≤ n.1 ∧ n.1 < 60) ∧ n ∉ gL g ∧ ¬ len < 0 ∧ len.toNatClampNeg ≤ 100000 then some (some n, newN g n len.toNatClampNeg len.toNatClampNeg) else none
noncomputable def mkZ (n : Nm) (len : Int32) (g : Hp) : Option (Option Nm × Hp) := by
  classical exact if 60 ≤ n.1 ∧ n ∉ gL g ∧ ¬ len < 0 ∧ len.toNatClampNeg ≤ 100000 then some (some n, newN g n len.toNatClampNeg len.toNatClampNeg) else none
noncomputable def mkR (n : Nm) (len : Int32) (g : Hp) : Option (Option Nm × Hp) := by
  classical exact if (12 ≤ n.1 ∧ n.1 < 17) ∧ n ∉ gL g ∧ ¬ len < 0 ∧ len.toNatClampNeg ≤ 100000 then some (some n, newN g n len.toNatClampNeg len.toNatClampNeg) else none
noncomputable def cpyI (a : Option Nm) (sp : Int32) (b : Option Nm) (dp n : Int32) (g : Hp) : Option Hp := by
  classical exact match a, b with
  | some u, some v => if ((20 ≤ u.1 ∧ u.1 < 60) ∧ (20 ≤ v.1 ∧ v.1 < 60)) ∧ (¬ sp < 0 ∧ ¬ dp < 0 ∧ ¬ n < 0) ∧ sp.toNatClampNeg + n.toNatClampNeg ≤ gN g u ∧ dp.toNatClampNeg + n.toNatClampNeg ≤ gN g v then some (cpI g u sp.toNatClampNeg v dp.toNatClampNeg n.toNatClampNeg) else none
  | _, _ => none
noncomputable def cpyR (a : Option Nm) (sp : Int32) (b : Option Nm) (dp n : Int32) (g : Hp) : Option Hp := by
  classical exact match a, b with
  | some u, some v => if ((12 ≤ u.1 ∧ u.1 < 17) ∧ (12 ≤ v.1 ∧ v.1 < 17)) ∧ (¬ sp < 0 ∧ ¬ dp < 0 ∧ ¬ n < 0) ∧ sp.toNatClampNeg + n.toNatClampNeg ≤ gN g u ∧ dp.toNatClampNeg + n.toNatClampNeg ≤ gN g v ∧ (∀ i, i < n.toNatClampNeg → ∀ w, gR g u (sp.toNatClampNeg + i) = some w → w.1 < 11) then some (cpR g u sp.toNatClampNeg v dp.toNatClampNeg n.toNatClampNeg) else none
  | _, _ => none
def ick {α : Type} (r : Option Nm) (c : Nat) (pr : Option α) : Option α := match r with
  | some n => if n.1 = c then pr else none
  | none => none
def cst {α : Type} (r : Option Nm) (c : Nat) (pr : Option α) : Option α := match r with
  | some n => if n.1 = c then pr else none
  | none => pr
def csA {α : Type} (r : Option Nm) (pr : Option α) : Option α := match r with
  | some n => if 12 ≤ n.1 ∧ n.1 < 17 then pr else none
  | none => none
noncomputable def acm {α : Type} (r q : Option Nm) (g : Hp) (a b : Option α) : Option α := by
  classical exact if r = q then a else if (∀ n, r = some n → n ∈ gL g ∨ n = (17, 0)) ∧ (∀ n, q = some n → n ∈ gL g ∨ n = (17, 0)) then b else none
def rtZ (x : Int32) (g : Hp) : Option (Int32 × Hp) := if x = 0 ∨ x = 1 then some (x, g) else none
end
section
/-! words of the tables that stay true as the machine runs -/
def isNw : Cond → Bool
  | .fieldLinkNest _ _ _ _ _ _ => true
  | .methodLinkNest _ _ _ _ => true
  | .castable _ _ => true
  | _ => false
def okW (w : Cond) : Bool := goodWord w || isNw w
def TB (s : State) : Prop := ∀ w ∈ lw_tbl, okW w = true → ∀ args : Array Value, w.before args s = true
theorem TB.warm {s U : State} (h : TB s) (hW : s.WarmedH U.vm) : TB U := by
  intro w hw hok args
  have h0 := h w hw hok
  unfold okW at hok
  rw [Bool.or_eq_true] at hok
  rcases hok with hg | hn
  · exact word_at hW (good_of_word hg) (h0 #[])
  · cases w <;> first | (simp [isNw] at hn; done) | exact va_Nw.use rfl (va_Nw.warmF hW (va_Nw.of rfl (h0 #[]))) | exact va_Nw.use rfl (va_Nw.warmM hW (va_Nw.of rfl (h0 #[]))) | exact va_Nw.use rfl (va_Nw.warmC hW (va_Nw.of rfl (h0 #[])))
def EX (ad : Nm → Nat) (A : Nat → Prop) (U : State) (H : Heap) : Prop :=
  va_Z "java/util/ArrayList" "DEFAULTCAPACITY_EMPTY_ELEMENTDATA" "[Ljava/lang/Object;" (.ref (ad (17, 0))) A U H ∧ (∃ f, va_T (.object "java/lang/Object") (ad (17, 0)) 0 f A U H) ∧ va_Mi "[Ljava/lang/Object;" (ad (19, 0)) U ∧ va_AO "java/lang/Object" U ∧ va_Dc U
theorem EX.moved {ad : Nm → Nat} {A : Nat → Prop} {u U : State} {H : Heap} (hvm : u.vm.Alike U.vm) (h : EX ad A u H) : EX ad A U H := by
  obtain ⟨h1, ⟨f, h2⟩, h3, h4, h5⟩ := h
  exact ⟨h1.moved hvm, ⟨f, h2.moved hvm⟩, h3.moved hvm, h4.moved hvm, h5.moved hvm⟩
theorem EX.kept {ad : Nm → Nat} {A : Nat → Prop} {U : State} {H H1 : Heap} (h : EX ad A U H) (hq : ∀ a : Nat, a < H.size → ¬ A a → H1[a]? = H[a]?) : EX ad A U H1 := by
  obtain ⟨h1, ⟨f, h2⟩, h3⟩ := h
  exact ⟨h1.kept hq, ⟨f, h2.kept hq⟩, h3⟩
theorem EX.narrow {ad : Nm → Nat} {A B : Nat → Prop} {U : State} {H : Heap} (h : EX ad A U H) (hAB : ∀ q, B q → A q) : EX ad B U H := by
  obtain ⟨h1, ⟨f, h2⟩, h3⟩ := h
  exact ⟨h1.narrow hAB, ⟨f, h2.narrow hAB⟩, h3⟩
theorem EX.ad {ad ad2 : Nm → Nat} {A : Nat → Prop} {U : State} {H : Heap} (h : EX ad A U H) (h17 : ad2 (17, 0) = ad (17, 0)) (h19 : ad2 (19, 0) = ad (19, 0)) : EX ad2 A U H := by
  obtain ⟨h1, ⟨f, h2⟩, h3, h4⟩ := h
  exact ⟨by rw [h17]; exact h1, ⟨f, by rw [h17]; exact h2⟩, by rw [h19]; exact h3, h4⟩
/-! where a method stands -/
abbrev Xt (ρ : Type) : Type := (Program × Launch × Env × State × MethodId × Array Value × List Frame × Method × Code) × (va_G × (ClassId × ClassId × ClassId) × (Nat → Prop)) × (Nm → Nat) × Hp × (Hp → Room) × (ρ → Hp → State → Prop)
def Gd {ρ : Type} (y : MethodName) (cc : ByteArray) (nL : Nat) (rt : Option FieldType) (rf rl : Nat) (X : Xt ρ) : Prop := match X with
  | ((p, _, _, s, m, _, _, meth, c), (D, cs, A), ad0, _, RF, _) =>
    p.tables.exec = Jvm.exec ∧ c.code = cc ∧ c.maxLocals = nL ∧ s.vm.findClass y.cls = some m.cls ∧ meth.sig.returnType = rt ∧ meth.locks = false ∧ (y.name = "<init>" → meth.name = "<init>") ∧ TB s ∧ va_K D vwCl (tyl cs) s ∧ (∀ q : Nat, s.heap.size ≤ q → A q) ∧ EX ad0 A s s.heap ∧ ∀ g, (RF g).frames = rf ∧ (RF g).locals = rl
def Ag (g : Hp) (ad ad1 : Nm → Nat) : Prop := ∀ n, (n ∈ gL g ∨ isX n) → ad1 n = ad n
def lvm (ad : Nm → Nat) (lv : List (Nat × SV)) : List (Nat × Value) := lv.map (fun q => (q.1, cv ad q.2))
def stm (ad : Nm → Nat) (st : List SV) : List Value := st.map (cv ad)
def okl (g : Hp) (lv : List (Nat × SV)) : Prop := ∀ q ∈ lv, okv g q.2
def oks (g : Hp) (st : List SV) : Prop := ∀ v ∈ st, okv g v
theorem okl.mn {g g1 : Hp} {lv : List (Nat × SV)} (h : Mn g g1) (hv : okl g lv) : okl g1 lv := fun q hq => (hv q hq).mn h
theorem oks.mn {g g1 : Hp} {st : List SV} (h : Mn g g1) (hv : oks g st) : oks g1 st := fun q hq => (hv q hq).mn h
theorem oks.cons {g : Hp} {st : List SV} {v : SV} (hv : okv g v) (h : oks g st) : oks g (v :: st) := fun w hw => (List.mem_cons.mp hw).elim (fun e => e ▸ hv) (h w)
theorem oks.tail {g : Hp} {st : List SV} {v : SV} (h : oks g (v :: st)) : oks g st := fun w hw => h w (List.mem_cons_of_mem _ hw)
theorem oks.head {g : Hp} {st : List SV} {v : SV} (h : oks g (v :: st)) : okv g v := h v List.mem_cons_self
theorem cv_ag {g : Hp} {ad ad1 : Nm → Nat} (h : Ag g ad ad1) {v : SV} (hv : okv g v) : cv ad1 v = cv ad v := by
  rcases v with x | x | r
  · rfl
  · rfl
  · cases r with
    | none => rfl
    | some n =>
      show va_rf (some (ad1 n)) = va_rf (some (ad n))
      rw [h n (hv n rfl)]
theorem stm_ag {g : Hp} {ad ad1 : Nm → Nat} (h : Ag g ad ad1) {st : List SV} (hv : oks g st) : stm ad1 st = stm ad st := List.map_congr_left fun v hq => cv_ag h (hv v hq)
theorem lvm_ag {g : Hp} {ad ad1 : Nm → Nat} (h : Ag g ad ad1) {lv : List (Nat × SV)} (hv : okl g lv) : lvm ad1 lv = lvm ad lv := List.map_congr_left fun q hq => by rw [cv_ag h (hv q hq)]
def J {ρ : Type} (y : MethodName) (cc : ByteArray) (nL : Nat) (rt : Option FieldType) (rf rl : Nat) (X : Xt ρ) (g : Hp) (pc : Nat) (lv : List (Nat × SV)) (st : List SV) (pr : Option (ρ × Hp)) : Prop := match X with
  | ((p, l, e, s, m, args, below, meth, c), (D, cs, A), ad0, g0, RF, QF) =>
    ∀ (r : ρ) (g' : Hp), pr = some (r, g') → Mn g g' ∧ (Gd y cc nL rt rf rl X → Mn g0 g → gc g' - gc g0 ≤ (RF g').cells ∧ gs g' - gs g0 ≤ (RF g').slots →
      ∀ (ad : Nm → Nat) (H : Heap) (locs : List Loc) (ls : Array Slot), Ag g0 ad0 ad → va_P D vwCl (wld cs ad g) H → va_D A (wld cs ad g) → va_S A s.heap H locs → lv_has ls nL (lvm ad lv) → okl g lv → oks g st → Cl g →
        W p l e (RF g') s m args below meth c H locs (gc g - gc g0) (gs g - gs g0) (QF r g') (F0 m pc ls (stm ad st)))
section STP
variable {ρ : Type} {y : MethodName} {cc : ByteArray} {nL : Nat} {rt : Option FieldType} {rf rl : Nat} {X : Xt ρ} {g : Hp} {pc : Nat} {lv lv' : List (Nat × SV)} {st : List SV} {pr pr2 : Option (ρ × Hp)}
theorem J.eq (h : pr = pr2) (k : J y cc nL rt rf rl X g pc lv st pr2) : J y cc nL rt rf rl X g pc lv st pr := h ▸ k
theorem J.none : J y cc nL rt rf rl X g pc lv st none := by
  obtain ⟨⟨p, l, e, s, m, args, below, meth, c⟩, ⟨D, cs, A⟩, ad0, g0, RF, QF⟩ := X
  intro r g' h
  cases h
/-- fewer locals -/
theorem J.sub (ks : List Nat) (hl : ks.filterMap (fun k => lv[k]?) = lv') (k : J y cc nL rt rf rl X g pc lv' st pr) : J y cc nL rt rf rl X g pc lv st pr := by
  obtain ⟨⟨p, l, e, s, m, args, below, meth, c⟩, ⟨D, cs, A⟩, ad0, g0, RF, QF⟩ := X
  intro r g' h
  obtain ⟨a, b⟩ := k r g' h
  refine ⟨a, fun hG hM hc ad H locs ls h1 h2 h3 h4 h5 h6 h7 h0 => b hG hM hc ad H locs ls h1 h2 h3 h4 ?_ ?_ h7 h0⟩
  · refine lv_sub h5 ks ?_
    subst hl
    simp [lv_pick, lvm, List.map_filterMap]
  · intro q hq
    subst hl
    obtain ⟨i, -, hi⟩ := List.mem_filterMap.mp hq
    exact h6 q (List.mem_of_getElem? hi)
/-- a step that changes neither heap nor locals -/
theorem J.s {pc' : Nat} {st' : List SV} (hW : ∀ (p : Program) (l : Launch) (e : Env) (s : State) (m : MethodId) (args : Array Value) (below : List Frame) (meth : Method) (c : Code) (R : Room) (H : Heap) (locs : List Loc) (cells slots : Nat) (Q : State → Prop) (ad : Nm → Nat) (ls : Array Slot),
      p.tables.exec = Jvm.exec → c.code = cc → s.vm.findClass y.cls = some m.cls → TB s → lv_has ls nL (lvm ad lv) → W p l e R s m args below meth c H locs cells slots Q (F0 m pc' ls (stm ad st')) → W p l e R s m args below meth c H locs cells slots Q (F0 m pc ls (stm ad st)))
    (hok : okl g lv → oks g st → oks g st') (k : J y cc nL rt rf rl X g pc' lv st' pr) : J y cc nL rt rf rl X g pc lv st pr := by
  obtain ⟨⟨p, l, e, s, m, args, below, meth, c⟩, ⟨D, cs, A⟩, ad0, g0, RF, QF⟩ := X
  intro r g' h
  obtain ⟨a, b⟩ := k r g' h
  refine ⟨a, fun hG hM hc ad H locs ls h1 h2 h3 h4 h5 h6 h7 h0 => ?_⟩
  obtain ⟨x1, x2, x3, x4, x5, x6, x7, x8, x9⟩ := id hG
  exact hW p l e s m args below meth c _ H locs _ _ _ ad ls x1 x2 x4 x8 h5 (b hG hM hc ad H locs ls h1 h2 h3 h4 h5 h6 (hok h6 h7) h0)
/-- a store -/
theorem J.t {pc' : Nat} {st' : List SV} (hW : ∀ (p : Program) (l : Launch) (e : Env) (s : State) (m : MethodId) (args : Array Value) (below : List Frame) (meth : Method) (c : Code) (R : Room) (H : Heap) (locs : List Loc) (cells slots : Nat) (Q : State → Prop) (ad : Nm → Nat) (ls : Array Slot),
      p.tables.exec = Jvm.exec → c.code = cc → lv_has ls nL (lvm ad lv) → (∀ ls', lv_has ls' nL (lvm ad lv') → W p l e R s m args below meth c H locs cells slots Q (F0 m pc' ls' (stm ad st'))) → W p l e R s m args below meth c H locs cells slots Q (F0 m pc ls (stm ad st)))
    (hok : okl g lv → oks g st → okl g lv' ∧ oks g st') (k : J y cc nL rt rf rl X g pc' lv' st' pr) : J y cc nL rt rf rl X g pc lv st pr := by
  obtain ⟨⟨p, l, e, s, m, args, below, meth, c⟩, ⟨D, cs, A⟩, ad0, g0, RF, QF⟩ := X
  intro r g' h
  obtain ⟨a, b⟩ := k r g' h
  refine ⟨a, fun hG hM hc ad H locs ls h1 h2 h3 h4 h5 h6 h7 h0 => ?_⟩
  obtain ⟨x1, x2, -⟩ := id hG
  exact hW p l e s m args below meth c _ H locs _ _ _ ad ls x1 x2 h5 (fun ls' h8 => b hG hM hc ad H locs ls' h1 h2 h3 h4 h8 (hok h6 h7).1 (hok h6 h7).2 h0)
/-- a fork -/
theorem J.f {P : Prop} [Decidable P] {pt pf : Nat} {st' : List SV} {a b : Option (ρ × Hp)} (hW : ∀ (p : Program) (l : Launch) (e : Env) (s : State) (m : MethodId) (args : Array Value) (below : List Frame) (meth : Method) (c : Code) (R : Room) (H : Heap) (locs : List Loc) (cells slots : Nat) (Q : State → Prop) (ad : Nm → Nat) (ls : Array Slot),
      p.tables.exec = Jvm.exec → c.code = cc → (P → W p l e R s m args below meth c H locs cells slots Q (F0 m pt ls (stm ad st'))) → (¬ P → W p l e R s m args below meth c H locs cells slots Q (F0 m pf ls (stm ad st'))) → W p l e R s m args below meth c H locs cells slots Q (F0 m pc ls (stm ad st)))
    (hok : oks g st → oks g st') (hp : pr = if P then a else b) (kt : P → J y cc nL rt rf rl X g pt lv st' a) (kf : ¬ P → J y cc nL rt rf rl X g pf lv st' b) : J y cc nL rt rf rl X g pc lv st pr := by
  obtain ⟨⟨p, l, e, s, m, args, below, meth, c⟩, ⟨D, cs, A⟩, ad0, g0, RF, QF⟩ := X
  intro r g' h
  subst hp
  have hM : Mn g g' := by
    by_cases hP : P
    · rw [if_pos hP] at h; exact (kt hP r g' h).1
    · rw [if_neg hP] at h; exact (kf hP r g' h).1
  refine ⟨hM, fun hG hM hc ad H locs ls h1 h2 h3 h4 h5 h6 h7 h0 => ?_⟩
  obtain ⟨x1, x2, -⟩ := id hG
  refine hW p l e s m args below meth c _ H locs _ _ _ ad ls x1 x2 (fun hP => ?_) (fun hP => ?_)
  · rw [if_pos hP] at h
    exact (kt hP r g' h).2 hG hM hc ad H locs ls h1 h2 h3 h4 h5 h6 (hok h7) h0
  · rw [if_neg hP] at h
    exact (kf hP r g' h).2 hG hM hc ad H locs ls h1 h2 h3 h4 h5 h6 (hok h7) h0
end STP
end
section
/-! one row a kind of instruction -/
theorem oks.ci {g : Hp} {st : List SV} {x : Int32} (h : oks g st) : oks g (sI x :: st) := h.cons (v := sI x) trivial
theorem oks.cl {g : Hp} {st : List SV} {x : Int64} (h : oks g st) : oks g (sL x :: st) := h.cons (v := sL x) trivial
section RUL
variable {ρ : Type} {y : MethodName} {cc : ByteArray} {nL : Nat} {rt : Option FieldType} {rf rl : Nat} {X : Xt ρ} {g : Hp} {pc : Nat} {lv lv' : List (Nat × SV)} {st : List SV} {pr pr2 : Option (ρ × Hp)}
theorem j_iconst {n : Int} {v : Int32} (hd : decode cc pc = .ok (.iconst n, 1)) (hv : Int32.ofInt n = v) (k : J y cc nL rt rf rl X g (pc + 1) lv (sI v :: st) pr) : J y cc nL rt rf rl X g pc lv (st) pr :=
  J.s (fun _ _ _ _ _ _ _ _ _ _ _ _ _ _ _ ad ls hx hb hw htb hl K0 => lv_iconst hx hb hd hv K0) (fun _ h => h.ci) k
theorem j_bipush {n : Int} {v : Int32} (hd : decode cc pc = .ok (.bipush n, 2)) (hv : (Int8.ofInt n).toInt32 = v) (k : J y cc nL rt rf rl X g (pc + 2) lv (sI v :: st) pr) : J y cc nL rt rf rl X g pc lv (st) pr :=
  J.s (fun _ _ _ _ _ _ _ _ _ _ _ _ _ _ _ ad ls hx hb hw htb hl K0 => lv_bipush hx hb hd hv K0) (fun _ h => h.ci) k
theorem j_sipush {n : Int} {v : Int32} (hd : decode cc pc = .ok (.sipush n, 3)) (hv : (Int16.ofInt n).toInt32 = v) (k : J y cc nL rt rf rl X g (pc + 3) lv (sI v :: st) pr) : J y cc nL rt rf rl X g pc lv (st) pr :=
  J.s (fun _ _ _ _ _ _ _ _ _ _ _ _ _ _ _ ad ls hx hb hw htb hl K0 => lv_sipush hx hb hd hv K0) (fun _ h => h.ci) k
theorem j_lconst {n : Fin 2} {v : Int64} (hd : decode cc pc = .ok (.lconst n, 1)) (hv : Int64.ofNat (n : Nat) = v) (k : J y cc nL rt rf rl X g (pc + 1) lv (sL v :: st) pr) : J y cc nL rt rf rl X g pc lv (st) pr :=
  J.s (fun _ _ _ _ _ _ _ _ _ _ _ _ _ _ _ ad ls hx hb hw htb hl K0 => lv_lconst hx hb hd hv K0) (fun _ h => h.cl) k
theorem j_ldc {own : String} {ix : Nat} {v : Int32} (hd : decode cc pc = .ok (.ldc ix, 2)) (ho : own = y.cls) (hw0 : Cond.constant own ix v ∈ lw_tbl) (k : J y cc nL rt rf rl X g (pc + 2) lv (sI v :: st) pr) : J y cc nL rt rf rl X g pc lv (st) pr :=
  J.s (fun _ _ _ _ _ _ _ _ _ _ _ _ _ _ _ ad ls hx hb hw htb hl K0 => lv_ldc (own := own) hx hb (by rw [ho]; exact hw) (htb _ hw0 rfl _) hd K0) (fun _ h => h.ci) k
theorem j_ldcw {own : String} {ix : Nat} {v : Int32} (hd : decode cc pc = .ok (.ldc_w ix, 3)) (ho : own = y.cls) (hw0 : Cond.constant own ix v ∈ lw_tbl) (k : J y cc nL rt rf rl X g (pc + 3) lv (sI v :: st) pr) : J y cc nL rt rf rl X g pc lv (st) pr :=
  J.s (fun _ _ _ _ _ _ _ _ _ _ _ _ _ _ _ ad ls hx hb hw htb hl K0 => lv_ldcw (own := own) hx hb (by rw [ho]; exact hw) (htb _ hw0 rfl _) hd K0) (fun _ h => h.ci) k
theorem j_ldc2 {own : String} {ix : Nat} {v : Int64} (hd : decode cc pc = .ok (.ldc2_w ix, 3)) (ho : own = y.cls) (hw0 : Cond.constantLong own ix v ∈ lw_tbl) (k : J y cc nL rt rf rl X g (pc + 3) lv (sL v :: st) pr) : J y cc nL rt rf rl X g pc lv (st) pr :=
  J.s (fun _ _ _ _ _ _ _ _ _ _ _ _ _ _ _ ad ls hx hb hw htb hl K0 => lv_ldc2 (own := own) hx hb (by rw [ho]; exact hw) (htb _ hw0 rfl _) hd K0) (fun _ h => h.cl) k
theorem lvm_at {ad : Nm → Nat} {ls : Array Slot} {nL : Nat} {lv : List (Nat × SV)} (h : lv_has ls nL (lvm ad lv)) {k i : Nat} {v : SV} (hk : lv[k]? = some (i, v)) : ls[i]? = some (.val (cv ad v)) := lv_at h k (by simp [lvm, hk])
theorem okl_at {g : Hp} {lv : List (Nat × SV)} (h : okl g lv) {k i : Nat} {v : SV} (hk : lv[k]? = some (i, v)) : okv g v := h _ (List.mem_of_getElem? hk)
theorem j_iload_n (q : Nat) {kk : Fin 4} {i : Nat} {x : Int32} (hd : decode cc pc = .ok (.iload_n kk, 1)) (hi : (kk : Nat) = i) (hq : lv[q]? = some (i, sI x)) (k : J y cc nL rt rf rl X g (pc + 1) lv (sI x :: st) pr) : J y cc nL rt rf rl X g pc lv (st) pr :=
  J.s (fun _ _ _ _ _ _ _ _ _ _ _ _ _ _ _ ad ls hx hb hw htb hl K0 => lv_iload_n hx hb hd hi (lvm_at hl hq) K0) (fun _ h => h.ci) k
theorem j_iload (q : Nat) {i : Nat} {x : Int32} (hd : decode cc pc = .ok (.iload i, 2)) (hq : lv[q]? = some (i, sI x)) (k : J y cc nL rt rf rl X g (pc + 2) lv (sI x :: st) pr) : J y cc nL rt rf rl X g pc lv (st) pr :=
  J.s (fun _ _ _ _ _ _ _ _ _ _ _ _ _ _ _ ad ls hx hb hw htb hl K0 => lv_iload hx hb hd (lvm_at hl hq) K0) (fun _ h => h.ci) k
theorem j_lload_n (q : Nat) {kk : Fin 4} {i : Nat} {x : Int64} (hd : decode cc pc = .ok (.lload_n kk, 1)) (hi : (kk : Nat) = i) (hq : lv[q]? = some (i, sL x)) (k : J y cc nL rt rf rl X g (pc + 1) lv (sL x :: st) pr) : J y cc nL rt rf rl X g pc lv (st) pr :=
  J.s (fun _ _ _ _ _ _ _ _ _ _ _ _ _ _ _ ad ls hx hb hw htb hl K0 => lv_lload_n hx hb hd hi (lvm_at hl hq) K0) (fun _ h => h.cl) k
theorem j_lload (q : Nat) {i : Nat} {x : Int64} (hd : decode cc pc = .ok (.lload i, 2)) (hq : lv[q]? = some (i, sL x)) (k : J y cc nL rt rf rl X g (pc + 2) lv (sL x :: st) pr) : J y cc nL rt rf rl X g pc lv (st) pr :=
  J.s (fun _ _ _ _ _ _ _ _ _ _ _ _ _ _ _ ad ls hx hb hw htb hl K0 => lv_lload hx hb hd (lvm_at hl hq) K0) (fun _ h => h.cl) k
theorem j_aload_n (q : Nat) {kk : Fin 4} {i : Nat} {x : Option Nm} (hd : decode cc pc = .ok (.aload_n kk, 1)) (hi : (kk : Nat) = i) (hq : lv[q]? = some (i, sR x)) (k : J y cc nL rt rf rl X g (pc + 1) lv (sR x :: st) pr) : J y cc nL rt rf rl X g pc lv st pr := by
  refine J.s (fun _ _ _ _ _ _ _ _ _ _ _ _ _ _ _ ad ls hx hb hw htb hl K0 => ?_) (fun h2 h => h.cons (okl_at h2 hq)) k
  have h9 := lvm_at hl hq
  cases x with
  | none => exact lv_aload_nN hx hb hd hi h9 K0
  | some a => exact lv_aload_n hx hb hd hi h9 K0
theorem j_aload (q : Nat) {i : Nat} {x : Option Nm} (hd : decode cc pc = .ok (.aload i, 2)) (hq : lv[q]? = some (i, sR x)) (k : J y cc nL rt rf rl X g (pc + 2) lv (sR x :: st) pr) : J y cc nL rt rf rl X g pc lv st pr := by
  refine J.s (fun _ _ _ _ _ _ _ _ _ _ _ _ _ _ _ ad ls hx hb hw htb hl K0 => ?_) (fun h2 h => h.cons (okl_at h2 hq)) k
  have h9 := lvm_at hl hq
  cases x with
  | none => exact lv_aloadN hx hb hd h9 K0
  | some a => exact lv_aload hx hb hd h9 K0
theorem j_iadd {x z : Int32} (hd : decode cc pc = .ok (.iadd, 1)) (k : J y cc nL rt rf rl X g (pc + 1) lv (sI (x + z) :: st) pr) : J y cc nL rt rf rl X g pc lv (sI z :: sI x :: st) pr :=
  J.s (fun _ _ _ _ _ _ _ _ _ _ _ _ _ _ _ ad ls hx hb hw htb hl K0 => lv_iadd hx hb hd K0) (fun _ h => (h.tail.tail).ci) k
theorem j_isub {x z : Int32} (hd : decode cc pc = .ok (.isub, 1)) (k : J y cc nL rt rf rl X g (pc + 1) lv (sI (x - z) :: st) pr) : J y cc nL rt rf rl X g pc lv (sI z :: sI x :: st) pr :=
  J.s (fun _ _ _ _ _ _ _ _ _ _ _ _ _ _ _ ad ls hx hb hw htb hl K0 => lv_isub hx hb hd K0) (fun _ h => (h.tail.tail).ci) k
theorem j_imul {x z : Int32} (hd : decode cc pc = .ok (.imul, 1)) (k : J y cc nL rt rf rl X g (pc + 1) lv (sI (x * z) :: st) pr) : J y cc nL rt rf rl X g pc lv (sI z :: sI x :: st) pr :=
  J.s (fun _ _ _ _ _ _ _ _ _ _ _ _ _ _ _ ad ls hx hb hw htb hl K0 => lv_imul hx hb hd K0) (fun _ h => (h.tail.tail).ci) k
theorem j_iand {x z : Int32} (hd : decode cc pc = .ok (.iand, 1)) (k : J y cc nL rt rf rl X g (pc + 1) lv (sI (x &&& z) :: st) pr) : J y cc nL rt rf rl X g pc lv (sI z :: sI x :: st) pr :=
  J.s (fun _ _ _ _ _ _ _ _ _ _ _ _ _ _ _ ad ls hx hb hw htb hl K0 => lv_iand hx hb hd K0) (fun _ h => (h.tail.tail).ci) k
theorem j_ior {x z : Int32} (hd : decode cc pc = .ok (.ior, 1)) (k : J y cc nL rt rf rl X g (pc + 1) lv (sI (x ||| z) :: st) pr) : J y cc nL rt rf rl X g pc lv (sI z :: sI x :: st) pr :=
  J.s (fun _ _ _ _ _ _ _ _ _ _ _ _ _ _ _ ad ls hx hb hw htb hl K0 => lv_ior hx hb hd K0) (fun _ h => (h.tail.tail).ci) k
theorem j_ixor {x z : Int32} (hd : decode cc pc = .ok (.ixor, 1)) (k : J y cc nL rt rf rl X g (pc + 1) lv (sI (x ^^^ z) :: st) pr) : J y cc nL rt rf rl X g pc lv (sI z :: sI x :: st) pr :=
  J.s (fun _ _ _ _ _ _ _ _ _ _ _ _ _ _ _ ad ls hx hb hw htb hl K0 => lv_ixor hx hb hd K0) (fun _ h => (h.tail.tail).ci) k
theorem j_ishl {x z : Int32} (hd : decode cc pc = .ok (.ishl, 1)) (k : J y cc nL rt rf rl X g (pc + 1) lv (sI (x <<< (z &&& 31)) :: st) pr) : J y cc nL rt rf rl X g pc lv (sI z :: sI x :: st) pr :=
  J.s (fun _ _ _ _ _ _ _ _ _ _ _ _ _ _ _ ad ls hx hb hw htb hl K0 => lv_ishl hx hb hd K0) (fun _ h => (h.tail.tail).ci) k
theorem j_ishr {x z : Int32} (hd : decode cc pc = .ok (.ishr, 1)) (k : J y cc nL rt rf rl X g (pc + 1) lv (sI (x >>> (z &&& 31)) :: st) pr) : J y cc nL rt rf rl X g pc lv (sI z :: sI x :: st) pr :=
  J.s (fun _ _ _ _ _ _ _ _ _ _ _ _ _ _ _ ad ls hx hb hw htb hl K0 => lv_ishr hx hb hd K0) (fun _ h => (h.tail.tail).ci) k
theorem j_iushr {x z : Int32} (hd : decode cc pc = .ok (.iushr, 1)) (k : J y cc nL rt rf rl X g (pc + 1) lv (sI ((x.toUInt32 >>> (z.toUInt32 &&& Int32.toUInt32 31)).toInt32) :: st) pr) : J y cc nL rt rf rl X g pc lv (sI z :: sI x :: st) pr :=
  J.s (fun _ _ _ _ _ _ _ _ _ _ _ _ _ _ _ ad ls hx hb hw htb hl K0 => lv_iushr hx hb hd rfl K0) (fun _ h => (h.tail.tail).ci) k
theorem j_ineg {x : Int32} (hd : decode cc pc = .ok (.ineg, 1)) (k : J y cc nL rt rf rl X g (pc + 1) lv (sI (0 - x) :: st) pr) : J y cc nL rt rf rl X g pc lv (sI x :: st) pr :=
  J.s (fun _ _ _ _ _ _ _ _ _ _ _ _ _ _ _ ad ls hx hb hw htb hl K0 => lv_ineg hx hb hd K0) (fun _ h => (h.tail).ci) k
theorem j_ladd {x z : Int64} (hd : decode cc pc = .ok (.ladd, 1)) (k : J y cc nL rt rf rl X g (pc + 1) lv (sL (x + z) :: st) pr) : J y cc nL rt rf rl X g pc lv (sL z :: sL x :: st) pr :=
  J.s (fun _ _ _ _ _ _ _ _ _ _ _ _ _ _ _ ad ls hx hb hw htb hl K0 => lv_ladd hx hb hd K0) (fun _ h => (h.tail.tail).cl) k
theorem j_lsub {x z : Int64} (hd : decode cc pc = .ok (.lsub, 1)) (k : J y cc nL rt rf rl X g (pc + 1) lv (sL (x - z) :: st) pr) : J y cc nL rt rf rl X g pc lv (sL z :: sL x :: st) pr :=
  J.s (fun _ _ _ _ _ _ _ _ _ _ _ _ _ _ _ ad ls hx hb hw htb hl K0 => lv_lsub hx hb hd K0) (fun _ h => (h.tail.tail).cl) k
theorem j_lmul {x z : Int64} (hd : decode cc pc = .ok (.lmul, 1)) (k : J y cc nL rt rf rl X g (pc + 1) lv (sL (x * z) :: st) pr) : J y cc nL rt rf rl X g pc lv (sL z :: sL x :: st) pr :=
  J.s (fun _ _ _ _ _ _ _ _ _ _ _ _ _ _ _ ad ls hx hb hw htb hl K0 => lv_lmul hx hb hd K0) (fun _ h => (h.tail.tail).cl) k
theorem j_i2l {x : Int32} (hd : decode cc pc = .ok (.i2l, 1)) (k : J y cc nL rt rf rl X g (pc + 1) lv (sL x.toInt64 :: st) pr) : J y cc nL rt rf rl X g pc lv (sI x :: st) pr :=
  J.s (fun _ _ _ _ _ _ _ _ _ _ _ _ _ _ _ ad ls hx hb hw htb hl K0 => lv_i2l hx hb hd rfl K0) (fun _ h => (h.tail).cl) k
theorem j_l2i {x : Int64} (hd : decode cc pc = .ok (.l2i, 1)) (k : J y cc nL rt rf rl X g (pc + 1) lv (sI x.toInt32 :: st) pr) : J y cc nL rt rf rl X g pc lv (sL x :: st) pr :=
  J.s (fun _ _ _ _ _ _ _ _ _ _ _ _ _ _ _ ad ls hx hb hw htb hl K0 => lv_l2i hx hb hd rfl K0) (fun _ h => (h.tail).ci) k
theorem j_lcmp {x z : Int64} (hd : decode cc pc = .ok (.lcmp, 1)) (k : J y cc nL rt rf rl X g (pc + 1) lv (sI (lg_cmp x z) :: st) pr) : J y cc nL rt rf rl X g pc lv (sL z :: sL x :: st) pr :=
  J.s (fun _ _ _ _ _ _ _ _ _ _ _ _ _ _ _ ad ls hx hb hw htb hl K0 => W.lcmp hx hb hd K0) (fun _ h => (h.tail.tail).ci) k
theorem j_null (hd : decode cc pc = .ok (.aconst_null, 1)) (k : J y cc nL rt rf rl X g (pc + 1) lv (sR none :: st) pr) : J y cc nL rt rf rl X g pc lv (st) pr :=
  J.s (fun _ _ _ _ _ _ _ _ _ _ _ _ _ _ _ ad ls hx hb hw htb hl K0 => lv_null hx hb hd K0) (fun _ h => h.cons (v := sR none) (fun n hn => by cases hn)) k
theorem j_dup {v : SV} (hd : decode cc pc = .ok (.dup, 1)) (hv : sc v = 1) (k : J y cc nL rt rf rl X g (pc + 1) lv (v :: v :: st) pr) : J y cc nL rt rf rl X g pc lv (v :: st) pr :=
  J.s (fun _ _ _ _ _ _ _ _ _ _ _ _ _ _ _ ad ls hx hb hw htb hl K0 => lv_dup hx hb hd (by rw [cv_cat]; exact hv) K0) (fun _ h => h.cons h.head) k
theorem j_pop {v : SV} (hd : decode cc pc = .ok (.pop, 1)) (hv : sc v = 1) (k : J y cc nL rt rf rl X g (pc + 1) lv (st) pr) : J y cc nL rt rf rl X g pc lv (v :: st) pr :=
  J.s (fun _ _ _ _ _ _ _ _ _ _ _ _ _ _ _ ad ls hx hb hw htb hl K0 => lv_pop hx hb hd (by rw [cv_cat]; exact hv) K0) (fun _ h => h.tail) k
theorem j_dup2 {v u : SV} (hd : decode cc pc = .ok (.dup2, 1)) (hv : sc v = 1) (hu : sc u = 1) (k : J y cc nL rt rf rl X g (pc + 1) lv (v :: u :: v :: u :: st) pr) : J y cc nL rt rf rl X g pc lv (v :: u :: st) pr :=
  J.s (fun _ _ _ _ _ _ _ _ _ _ _ _ _ _ _ ad ls hx hb hw htb hl K0 => lv_dup2_11 hx hb hd (by rw [cv_cat]; exact hv) (by rw [cv_cat]; exact hu) K0) (fun _ h => (h.cons h.tail.head).cons h.head) k
theorem j_dup_x1 {v u : SV} (hd : decode cc pc = .ok (.dup_x1, 1)) (hv : sc v = 1) (hu : sc u = 1) (k : J y cc nL rt rf rl X g (pc + 1) lv (v :: u :: v :: st) pr) : J y cc nL rt rf rl X g pc lv (v :: u :: st) pr :=
  J.s (fun _ _ _ _ _ _ _ _ _ _ _ _ _ _ _ ad ls hx hb hw htb hl K0 => lv_dup_x1 hx hb hd (by rw [cv_cat]; exact hv) (by rw [cv_cat]; exact hu) K0) (fun _ h => ((h.tail.tail.cons h.head).cons h.tail.head).cons h.head) k
theorem j_idiv {x z : Int32} {F : Int32 → Option (ρ × Hp)} (hd : decode cc pc = .ok (.idiv, 1)) (hp : pr = (if z = 0 then none else F (x / z))) (k : J y cc nL rt rf rl X g (pc + 1) lv (sI (x / z) :: st) (F (x / z))) : J y cc nL rt rf rl X g pc lv (sI z :: sI x :: st) pr := by
  by_cases hz : z = 0
  · rw [hp, if_pos hz]; exact J.none
  · rw [hp, if_neg hz]; exact J.s (fun _ _ _ _ _ _ _ _ _ _ _ _ _ _ _ ad ls hx hb hw htb hl K0 => lv_idiv hx hb hd hz K0) (fun _ h => (h.tail.tail).ci) k
theorem j_irem {x z : Int32} {F : Int32 → Option (ρ × Hp)} (hd : decode cc pc = .ok (.irem, 1)) (hp : pr = (if z = 0 then none else F (x - x / z * z))) (k : J y cc nL rt rf rl X g (pc + 1) lv (sI (x - x / z * z) :: st) (F (x - x / z * z))) : J y cc nL rt rf rl X g pc lv (sI z :: sI x :: st) pr := by
  by_cases hz : z = 0
  · rw [hp, if_pos hz]; exact J.none
  · rw [hp, if_neg hz]; exact J.s (fun _ _ _ _ _ _ _ _ _ _ _ _ _ _ _ ad ls hx hb hw htb hl K0 => lv_irem hx hb hd hz K0) (fun _ h => (h.tail.tail).ci) k
theorem j_ldiv {x z : Int64} {F : Int64 → Option (ρ × Hp)} (hd : decode cc pc = .ok (.ldiv, 1)) (hp : pr = (if z = 0 then none else F (x / z))) (k : J y cc nL rt rf rl X g (pc + 1) lv (sL (x / z) :: st) (F (x / z))) : J y cc nL rt rf rl X g pc lv (sL z :: sL x :: st) pr := by
  by_cases hz : z = 0
  · rw [hp, if_pos hz]; exact J.none
  · rw [hp, if_neg hz]; exact J.s (fun _ _ _ _ _ _ _ _ _ _ _ _ _ _ _ ad ls hx hb hw htb hl K0 => lv_ldiv hx hb hd hz K0) (fun _ h => (h.tail.tail).cl) k
def lvs (i c : Nat) (v : SV) (lv : List (Nat × SV)) : List (Nat × SV) := (i, v) :: lv.filter (fun q => !(q.1 == i) && ((c == 1 || !(q.1 == i + 1)) && !(q.1 + 1 == i && sc q.2 == 2)))
theorem lvs_1 (ad : Nm → Nat) (i : Nat) (v : SV) (lv : List (Nat × SV)) : (i, cv ad v) :: (lvm ad lv).filter (fun q => !(q.1 == i) && !(q.1 + 1 == i && q.2.category == 2)) = lvm ad (lvs i 1 v lv) := by
  simp only [lvs, lvm, List.map_cons, List.filter_map]
  congr 2
  apply List.filter_congr
  intro q _
  simp [Function.comp, cv_cat]
theorem lvs_2 (ad : Nm → Nat) (i : Nat) (v : SV) (lv : List (Nat × SV)) : (i, cv ad v) :: (lvm ad lv).filter (fun q => !(q.1 == i) && (!(q.1 == i + 1) && !(q.1 + 1 == i && q.2.category == 2))) = lvm ad (lvs i 2 v lv) := by
  simp only [lvs, lvm, List.map_cons, List.filter_map]
  congr 2
  apply List.filter_congr
  intro q _
  simp [Function.comp, cv_cat]
theorem okl_lvs {g : Hp} {i c : Nat} {v : SV} {lv : List (Nat × SV)} (h : okl g lv) (hv : okv g v) : okl g (lvs i c v lv) := fun q hq => (List.mem_cons.mp hq).elim (fun e => e ▸ hv) (fun h2 => h q ((List.mem_filter.mp h2).1))
theorem j_istore_n {kk0 : Fin 4} {i : Nat} {x : Int32} (hd : decode cc pc = .ok (.istore_n kk0, 1)) (hi : (kk0 : Nat) = i) (hn : i < nL) (hl : lvs i 1 (sI x) lv = lv') (k : J y cc nL rt rf rl X g (pc + 1) lv' st pr) : J y cc nL rt rf rl X g pc lv (sI x :: st) pr :=
  J.t (fun _ _ _ _ _ _ _ _ _ _ _ _ _ _ _ ad ls hx hb h9 kk => lv_istore_n hx hb hd hi h9 hn (by rw [← hl]; exact lvs_1 ad i (sI x) lv) kk) (fun h1 h2 => ⟨hl ▸ okl_lvs h1 h2.head, h2.tail⟩) k
theorem j_istore {i : Nat} {x : Int32} (hd : decode cc pc = .ok (.istore i, 2)) (hn : i < nL) (hl : lvs i 1 (sI x) lv = lv') (k : J y cc nL rt rf rl X g (pc + 2) lv' st pr) : J y cc nL rt rf rl X g pc lv (sI x :: st) pr :=
  J.t (fun _ _ _ _ _ _ _ _ _ _ _ _ _ _ _ ad ls hx hb h9 kk => lv_istore hx hb hd h9 hn (by rw [← hl]; exact lvs_1 ad i (sI x) lv) kk) (fun h1 h2 => ⟨hl ▸ okl_lvs h1 h2.head, h2.tail⟩) k
theorem j_lstore_n {kk0 : Fin 4} {i : Nat} {x : Int64} (hd : decode cc pc = .ok (.lstore_n kk0, 1)) (hi : (kk0 : Nat) = i) (hn : i + 1 < nL) (hl : lvs i 2 (sL x) lv = lv') (k : J y cc nL rt rf rl X g (pc + 1) lv' st pr) : J y cc nL rt rf rl X g pc lv (sL x :: st) pr :=
  J.t (fun _ _ _ _ _ _ _ _ _ _ _ _ _ _ _ ad ls hx hb h9 kk => lv_lstore_n hx hb hd hi h9 hn (by rw [← hl]; exact lvs_2 ad i (sL x) lv) kk) (fun h1 h2 => ⟨hl ▸ okl_lvs h1 h2.head, h2.tail⟩) k
theorem j_lstore {i : Nat} {x : Int64} (hd : decode cc pc = .ok (.lstore i, 2)) (hn : i + 1 < nL) (hl : lvs i 2 (sL x) lv = lv') (k : J y cc nL rt rf rl X g (pc + 2) lv' st pr) : J y cc nL rt rf rl X g pc lv (sL x :: st) pr :=
  J.t (fun _ _ _ _ _ _ _ _ _ _ _ _ _ _ _ ad ls hx hb h9 kk => lv_lstore hx hb hd h9 hn (by rw [← hl]; exact lvs_2 ad i (sL x) lv) kk) (fun h1 h2 => ⟨hl ▸ okl_lvs h1 h2.head, h2.tail⟩) k
theorem j_astore_n {kk0 : Fin 4} {i : Nat} {x : Option Nm} (hd : decode cc pc = .ok (.astore_n kk0, 1)) (hi : (kk0 : Nat) = i) (hn : i < nL) (hl : lvs i 1 (sR x) lv = lv') (k : J y cc nL rt rf rl X g (pc + 1) lv' st pr) : J y cc nL rt rf rl X g pc lv (sR x :: st) pr := by
  refine J.t (fun _ _ _ _ _ _ _ _ _ _ _ _ _ _ _ ad ls hx hb h9 kk => ?_) (fun h1 h2 => ⟨hl ▸ okl_lvs h1 h2.head, h2.tail⟩) k
  have e := lvs_1 ad i (sR x) lv
  rw [hl] at e
  cases x with
  | none => exact lv_astore_nN hx hb hd hi h9 hn e kk
  | some a => exact lv_astore_n hx hb hd hi h9 hn e kk
theorem j_astore {i : Nat} {x : Option Nm} (hd : decode cc pc = .ok (.astore i, 2)) (hn : i < nL) (hl : lvs i 1 (sR x) lv = lv') (k : J y cc nL rt rf rl X g (pc + 2) lv' st pr) : J y cc nL rt rf rl X g pc lv (sR x :: st) pr := by
  refine J.t (fun _ _ _ _ _ _ _ _ _ _ _ _ _ _ _ ad ls hx hb h9 kk => ?_) (fun h1 h2 => ⟨hl ▸ okl_lvs h1 h2.head, h2.tail⟩) k
  have e := lvs_1 ad i (sR x) lv
  rw [hl] at e
  cases x with
  | none => exact lv_astoreN hx hb hd h9 hn e kk
  | some a => exact lv_astore hx hb hd h9 hn e kk
theorem j_iinc (q : Nat) {i : Nat} {n : Int} {x v : Int32} (hd : decode cc pc = .ok (.iinc i n, 3)) (hq : lv[q]? = some (i, sI x)) (hv : x + Int32.ofInt n = v) (hn : i < nL) (hl : lvs i 1 (sI v) lv = lv') (k : J y cc nL rt rf rl X g (pc + 3) lv' st pr) : J y cc nL rt rf rl X g pc lv st pr :=
  J.t (fun _ _ _ _ _ _ _ _ _ _ _ _ _ _ _ ad ls hx hb h9 kk => lv_iinc (k := q) hx hb hd h9 (by simp [lvm, hq, cv]) hv hn (by rw [← hl]; exact lvs_1 ad i (sI v) lv) kk) (fun h1 h2 => ⟨hl ▸ okl_lvs h1 trivial, h2⟩) k
theorem j_if_eq {x : Int32} {off : Int} {tgt : Nat} {a b : Option (ρ × Hp)} (hd : decode cc pc = .ok (.ifCond .eq off, 3)) (ht : (pc : Int) + off = (tgt : Int)) (hp : pr = if x = 0 then a else b) (kt : x = 0 → J y cc nL rt rf rl X g tgt lv st a) (kf : ¬ x = 0 → J y cc nL rt rf rl X g (pc + 3) lv st b) : J y cc nL rt rf rl X g pc lv (sI x :: st) pr :=
  J.f (P := x = 0) (fun _ _ _ _ _ _ _ _ _ _ _ _ _ _ _ ad ls hx hb h1 h2 => lv_if_eq hx hb hd ht h1 h2) (fun h => h.tail) hp kt kf
theorem j_icmp_eq {x z : Int32} {off : Int} {tgt : Nat} {a b : Option (ρ × Hp)} (hd : decode cc pc = .ok (.if_icmp .eq off, 3)) (ht : (pc : Int) + off = (tgt : Int)) (hp : pr = if x = z then a else b) (kt : x = z → J y cc nL rt rf rl X g tgt lv st a) (kf : ¬ x = z → J y cc nL rt rf rl X g (pc + 3) lv st b) : J y cc nL rt rf rl X g pc lv (sI z :: sI x :: st) pr :=
  J.f (P := x = z) (fun _ _ _ _ _ _ _ _ _ _ _ _ _ _ _ ad ls hx hb h1 h2 => lv_icmp_eq hx hb hd ht h1 h2) (fun h => h.tail.tail) hp kt kf
theorem j_if_ne {x : Int32} {off : Int} {tgt : Nat} {a b : Option (ρ × Hp)} (hd : decode cc pc = .ok (.ifCond .ne off, 3)) (ht : (pc : Int) + off = (tgt : Int)) (hp : pr = if x = 0 then b else a) (kt : ¬ x = 0 → J y cc nL rt rf rl X g tgt lv st a) (kf : x = 0 → J y cc nL rt rf rl X g (pc + 3) lv st b) : J y cc nL rt rf rl X g pc lv (sI x :: st) pr :=
  J.f (P := x = 0) (fun _ _ _ _ _ _ _ _ _ _ _ _ _ _ _ ad ls hx hb h1 h2 => lv_if_ne hx hb hd ht h2 h1) (fun h => h.tail) hp kf kt
theorem j_icmp_ne {x z : Int32} {off : Int} {tgt : Nat} {a b : Option (ρ × Hp)} (hd : decode cc pc = .ok (.if_icmp .ne off, 3)) (ht : (pc : Int) + off = (tgt : Int)) (hp : pr = if x = z then b else a) (kt : ¬ x = z → J y cc nL rt rf rl X g tgt lv st a) (kf : x = z → J y cc nL rt rf rl X g (pc + 3) lv st b) : J y cc nL rt rf rl X g pc lv (sI z :: sI x :: st) pr :=
  J.f (P := x = z) (fun _ _ _ _ _ _ _ _ _ _ _ _ _ _ _ ad ls hx hb h1 h2 => lv_icmp_ne hx hb hd ht h2 h1) (fun h => h.tail.tail) hp kf kt
theorem j_if_lt {x : Int32} {off : Int} {tgt : Nat} {a b : Option (ρ × Hp)} (hd : decode cc pc = .ok (.ifCond .lt off, 3)) (ht : (pc : Int) + off = (tgt : Int)) (hp : pr = if x < 0 then a else b) (kt : x < 0 → J y cc nL rt rf rl X g tgt lv st a) (kf : ¬ x < 0 → J y cc nL rt rf rl X g (pc + 3) lv st b) : J y cc nL rt rf rl X g pc lv (sI x :: st) pr :=
  J.f (P := x < 0) (fun _ _ _ _ _ _ _ _ _ _ _ _ _ _ _ ad ls hx hb h1 h2 => lv_if_lt hx hb hd ht h1 h2) (fun h => h.tail) hp kt kf
theorem j_icmp_lt {x z : Int32} {off : Int} {tgt : Nat} {a b : Option (ρ × Hp)} (hd : decode cc pc = .ok (.if_icmp .lt off, 3)) (ht : (pc : Int) + off = (tgt : Int)) (hp : pr = if x < z then a else b) (kt : x < z → J y cc nL rt rf rl X g tgt lv st a) (kf : ¬ x < z → J y cc nL rt rf rl X g (pc + 3) lv st b) : J y cc nL rt rf rl X g pc lv (sI z :: sI x :: st) pr :=
  J.f (P := x < z) (fun _ _ _ _ _ _ _ _ _ _ _ _ _ _ _ ad ls hx hb h1 h2 => lv_icmp_lt hx hb hd ht h1 h2) (fun h => h.tail.tail) hp kt kf
theorem j_if_ge {x : Int32} {off : Int} {tgt : Nat} {a b : Option (ρ × Hp)} (hd : decode cc pc = .ok (.ifCond .ge off, 3)) (ht : (pc : Int) + off = (tgt : Int)) (hp : pr = if 0 ≤ x then a else b) (kt : 0 ≤ x → J y cc nL rt rf rl X g tgt lv st a) (kf : ¬ 0 ≤ x → J y cc nL rt rf rl X g (pc + 3) lv st b) : J y cc nL rt rf rl X g pc lv (sI x :: st) pr :=
  J.f (P := 0 ≤ x) (fun _ _ _ _ _ _ _ _ _ _ _ _ _ _ _ ad ls hx hb h1 h2 => lv_if_ge hx hb hd ht h1 h2) (fun h => h.tail) hp kt kf
theorem j_icmp_ge {x z : Int32} {off : Int} {tgt : Nat} {a b : Option (ρ × Hp)} (hd : decode cc pc = .ok (.if_icmp .ge off, 3)) (ht : (pc : Int) + off = (tgt : Int)) (hp : pr = if z ≤ x then a else b) (kt : z ≤ x → J y cc nL rt rf rl X g tgt lv st a) (kf : ¬ z ≤ x → J y cc nL rt rf rl X g (pc + 3) lv st b) : J y cc nL rt rf rl X g pc lv (sI z :: sI x :: st) pr :=
  J.f (P := z ≤ x) (fun _ _ _ _ _ _ _ _ _ _ _ _ _ _ _ ad ls hx hb h1 h2 => lv_icmp_ge hx hb hd ht h1 h2) (fun h => h.tail.tail) hp kt kf
theorem j_if_gt {x : Int32} {off : Int} {tgt : Nat} {a b : Option (ρ × Hp)} (hd : decode cc pc = .ok (.ifCond .gt off, 3)) (ht : (pc : Int) + off = (tgt : Int)) (hp : pr = if 0 < x then a else b) (kt : 0 < x → J y cc nL rt rf rl X g tgt lv st a) (kf : ¬ 0 < x → J y cc nL rt rf rl X g (pc + 3) lv st b) : J y cc nL rt rf rl X g pc lv (sI x :: st) pr :=
  J.f (P := 0 < x) (fun _ _ _ _ _ _ _ _ _ _ _ _ _ _ _ ad ls hx hb h1 h2 => lv_if_gt hx hb hd ht h1 h2) (fun h => h.tail) hp kt kf
theorem j_icmp_gt {x z : Int32} {off : Int} {tgt : Nat} {a b : Option (ρ × Hp)} (hd : decode cc pc = .ok (.if_icmp .gt off, 3)) (ht : (pc : Int) + off = (tgt : Int)) (hp : pr = if z < x then a else b) (kt : z < x → J y cc nL rt rf rl X g tgt lv st a) (kf : ¬ z < x → J y cc nL rt rf rl X g (pc + 3) lv st b) : J y cc nL rt rf rl X g pc lv (sI z :: sI x :: st) pr :=
  J.f (P := z < x) (fun _ _ _ _ _ _ _ _ _ _ _ _ _ _ _ ad ls hx hb h1 h2 => lv_icmp_gt hx hb hd ht h1 h2) (fun h => h.tail.tail) hp kt kf
theorem j_if_le {x : Int32} {off : Int} {tgt : Nat} {a b : Option (ρ × Hp)} (hd : decode cc pc = .ok (.ifCond .le off, 3)) (ht : (pc : Int) + off = (tgt : Int)) (hp : pr = if x ≤ 0 then a else b) (kt : x ≤ 0 → J y cc nL rt rf rl X g tgt lv st a) (kf : ¬ x ≤ 0 → J y cc nL rt rf rl X g (pc + 3) lv st b) : J y cc nL rt rf rl X g pc lv (sI x :: st) pr :=
  J.f (P := x ≤ 0) (fun _ _ _ _ _ _ _ _ _ _ _ _ _ _ _ ad ls hx hb h1 h2 => lv_if_le hx hb hd ht h1 h2) (fun h => h.tail) hp kt kf
theorem j_icmp_le {x z : Int32} {off : Int} {tgt : Nat} {a b : Option (ρ × Hp)} (hd : decode cc pc = .ok (.if_icmp .le off, 3)) (ht : (pc : Int) + off = (tgt : Int)) (hp : pr = if x ≤ z then a else b) (kt : x ≤ z → J y cc nL rt rf rl X g tgt lv st a) (kf : ¬ x ≤ z → J y cc nL rt rf rl X g (pc + 3) lv st b) : J y cc nL rt rf rl X g pc lv (sI z :: sI x :: st) pr :=
  J.f (P := x ≤ z) (fun _ _ _ _ _ _ _ _ _ _ _ _ _ _ _ ad ls hx hb h1 h2 => lv_icmp_le hx hb hd ht h1 h2) (fun h => h.tail.tail) hp kt kf
theorem j_goto {off : Int} {tgt : Nat} (hd : decode cc pc = .ok (.goto off, 3)) (ht : (pc : Int) + off = (tgt : Int)) (k : J y cc nL rt rf rl X g tgt lv st pr) : J y cc nL rt rf rl X g pc lv st pr :=
  J.s (fun _ _ _ _ _ _ _ _ _ _ _ _ _ _ _ ad ls hx hb hw htb hl K0 => lv_goto hx hb hd ht K0) (fun _ h => h) k
end RUL
end
section
/-! what the tables say of a field, by the place in the constant pool -/
def FLK (own : String) (ix c k : Nat) (b : Bool) : Prop := ∃ (C : String) (T : u_T) (N : Nat) (ref : String), (vwCl[c]? = some (C, T, N) ∧ k < N ∧ (flds c)[k]? = some b ∧ c < 11) ∧ (∀ w ∈ u_ws C T N, w ∈ lw_tbl ∧ okW w = true) ∧
  ((Cond.fieldLink own ix ref (T k).2.1 (T k).2.2.1 ∈ lw_tbl ∧ okW (Cond.fieldLink own ix ref (T k).2.1 (T k).2.2.1) = true) ∨ ∃ host, Cond.fieldLinkNest own ix ref (T k).2.1 (T k).2.2.1 host ∈ lw_tbl) ∧ (ref = (T k).1 ∨ (Cond.sameField ref (T k).1 (T k).2.1 (T k).2.2.1 ∈ lw_tbl ∧ okW (Cond.sameField ref (T k).1 (T k).2.1 (T k).2.2.1) = true))
def FLT (c k : Nat) (ty : FieldType) : Prop := ∃ (C : String) (T : u_T) (N : Nat) (t0 : Nat → FieldType), vwCl[c]? = some (C, T, N) ∧ parseFieldDescriptor (T k).2.2.1 = some ty ∧ (∀ k, k < N → parseFieldDescriptor (T k).2.2.1 = some (t0 k)) ∧ (∀ a, a < N → ∀ b, b < N → a ≠ b → (T a).2.1 ≠ (T b).2.1)
/-- a field that may be written: not final, or by its own constructor -/
def FLW (y : MethodName) (own : String) (ix c k : Nat) : Prop := ∃ (C : String) (T : u_T) (N : Nat), vwCl[c]? = some (C, T, N) ∧ ((T k).2.2.2 = false ∨ ((T k).2.2.2 = true ∧ y.name = "<init>" ∧ (T k).1 = y.cls ∧ Cond.fieldLink own ix (T k).1 (T k).2.1 (T k).2.2.1 ∈ lw_tbl ∧ okW (Cond.fieldLink own ix (T k).1 (T k).2.1 (T k).2.2.1) = true))
theorem okr_in {g : Hp} {n : Nm} (h : okv g (sR (some n))) (h1 : n.1 < 17 ∨ 20 ≤ n.1) : n ∈ gL g := by
  rcases h n rfl with h2 | h2
  · exact h2
  · rcases h2 with e | e | e <;> subst e <;> rcases h1 with h1 | h1 <;> exact absurd h1 (by decide)
theorem Cl.setR {g : Hp} {n : Nm} {k : Nat} {r : Option Nm} (h : Cl g) (hr : okv g (sR r)) : Cl (setR g n k r) := by
  intro m hm j
  show okr g (if m = n ∧ j = k then r else gR g m j)
  split
  · exact hr
  · exact h m hm j
section HRU
variable {ρ : Type} {y : MethodName} {cc : ByteArray} {nL : Nat} {rt : Option FieldType} {rf rl : Nat} {X : Xt ρ} {g : Hp} {pc : Nat} {lv lv' : List (Nat × SV)} {st : List SV} {pr pr2 : Option (ρ × Hp)}
/-- a step that reads the heap -/
theorem J.r {pc' : Nat} {st' : List SV} (hW : ∀ (p : Program) (l : Launch) (e : Env) (s : State) (m : MethodId) (args : Array Value) (below : List Frame) (meth : Method) (c : Code) (R : Room) (H : Heap) (locs : List Loc) (cells slots : Nat) (Q : State → Prop) (D : va_G) (cs : ClassId × ClassId × ClassId) (A : Nat → Prop) (ad : Nm → Nat) (ls : Array Slot),
      p.tables.exec = Jvm.exec → c.code = cc → ls.size = nL → c.maxLocals = nL → s.vm.findClass y.cls = some m.cls → TB s → va_K D vwCl (tyl cs) s → EX ad A s s.heap → R.frames = rf ∧ R.locals = rl → cells ≤ R.cells ∧ slots ≤ R.slots → va_P D vwCl (wld cs ad g) H → va_D A (wld cs ad g) → va_S A s.heap H locs → okl g lv → oks g st → W p l e R s m args below meth c H locs cells slots Q (F0 m pc' ls (stm ad st')) → W p l e R s m args below meth c H locs cells slots Q (F0 m pc ls (stm ad st)))
    (hok : Cl g → oks g st → oks g st') (k : J y cc nL rt rf rl X g pc' lv st' pr) : J y cc nL rt rf rl X g pc lv st pr := by
  obtain ⟨⟨p, l, e, s, m, args, below, meth, c⟩, ⟨D, cs, A⟩, ad0, g0, RF, QF⟩ := X
  intro r g' h
  obtain ⟨a, b⟩ := k r g' h
  refine ⟨a, fun hG hM hc ad H locs ls h1 h2 h3 h4 h5 h6 h7 h0 => ?_⟩
  obtain ⟨x1, x2, x3, x4, x5, x6, x7, x8, x9, x10, x11, x12⟩ := id hG
  have hcc : gc g - gc g0 ≤ (RF g').cells ∧ gs g - gs g0 ≤ (RF g').slots := ⟨Nat.le_trans (Nat.sub_le_sub_right a.1 _) hc.1, Nat.le_trans (Nat.sub_le_sub_right a.2.1 _) hc.2⟩
  exact hW p l e s m args below meth c _ H locs _ _ _ D cs A ad ls x1 x2 h5.1 x3 x4 x8 x9 (x11.ad (h1 _ (Or.inr (Or.inl rfl))) (h1 _ (Or.inr (Or.inr (Or.inr rfl))))) (x12 g') hcc h2 h3 h4 h6 h7 (b hG hM hc ad H locs ls h1 h2 h3 h4 h5 h6 (hok h0 h7) h0)
/-- a step that writes the heap: the world behind it is another one -/
theorem J.w {pc' : Nat} {st' : List SV} {g1 : Hp} (hW : ∀ (p : Program) (l : Launch) (e : Env) (s : State) (m : MethodId) (args : Array Value) (below : List Frame) (meth : Method) (c : Code) (R : Room) (H : Heap) (locs : List Loc) (cells slots : Nat) (Q : State → Prop) (D : va_G) (cs : ClassId × ClassId × ClassId) (A : Nat → Prop) (ad : Nm → Nat) (ls : Array Slot),
      p.tables.exec = Jvm.exec → c.code = cc → ls.size = nL → c.maxLocals = nL → s.vm.findClass y.cls = some m.cls → (y.name = "<init>" → meth.name = "<init>") → TB s → va_K D vwCl (tyl cs) s → EX ad A s s.heap → R.frames = rf ∧ R.locals = rl → cells ≤ R.cells ∧ slots ≤ R.slots → va_P D vwCl (wld cs ad g) H → va_D A (wld cs ad g) → va_S A s.heap H locs → okl g lv → oks g st →
      (∀ H1 locs1, va_P D vwCl (wld cs ad g1) H1 → va_D A (wld cs ad g1) → va_S A s.heap H1 locs1 → W p l e R s m args below meth c H1 locs1 cells slots Q (F0 m pc' ls (stm ad st'))) → W p l e R s m args below meth c H locs cells slots Q (F0 m pc ls (stm ad st)))
    (hL : gL g1 = gL g) (hcs : gc g1 = gc g ∧ gs g1 = gs g) (hcl : Cl g → oks g st → Cl g1) (hok : oks g st → oks g st') (k : J y cc nL rt rf rl X g1 pc' lv st' pr) : J y cc nL rt rf rl X g pc lv st pr := by
  obtain ⟨⟨p, l, e, s, m, args, below, meth, c⟩, ⟨D, cs, A⟩, ad0, g0, RF, QF⟩ := X
  intro r g' h
  obtain ⟨a, b⟩ := k r g' h
  have hM1 : Mn g g1 := ⟨Nat.le_of_eq hcs.1.symm, Nat.le_of_eq hcs.2.symm, fun n hn => by rw [hL]; exact hn⟩
  have a' := hM1.tr a
  refine ⟨a', fun hG hM hc ad H locs ls h1 h2 h3 h4 h5 h6 h7 h0 => ?_⟩
  obtain ⟨x1, x2, x3, x4, x5, x6, x7, x8, x9, x10, x11, x12⟩ := id hG
  have hcc : gc g - gc g0 ≤ (RF g').cells ∧ gs g - gs g0 ≤ (RF g').slots := ⟨Nat.le_trans (Nat.sub_le_sub_right a'.1 _) hc.1, Nat.le_trans (Nat.sub_le_sub_right a'.2.1 _) hc.2⟩
  have hk := b hG (hM.tr hM1) hc ad
  rw [hcs.1, hcs.2] at hk
  exact hW p l e s m args below meth c _ H locs _ _ _ D cs A ad ls x1 x2 h5.1 x3 x4 x7 x8 x9 (x11.ad (h1 _ (Or.inr (Or.inl rfl))) (h1 _ (Or.inr (Or.inr (Or.inr rfl))))) (x12 g') hcc h2 h3 h4 h6 h7 (fun H1 locs1 q2 q3 q4 => hk H1 locs1 ls h1 q2 q3 q4 h5 (h6.mn hM1) ((hok h7).mn hM1) (hcl h0 h7))
/-- the same, where the step needs that the heap is closed -/
theorem J.wc {pc' : Nat} {st' : List SV} {g1 : Hp} (hW : ∀ (p : Program) (l : Launch) (e : Env) (s : State) (m : MethodId) (args : Array Value) (below : List Frame) (meth : Method) (c : Code) (R : Room) (H : Heap) (locs : List Loc) (cells slots : Nat) (Q : State → Prop) (D : va_G) (cs : ClassId × ClassId × ClassId) (A : Nat → Prop) (ad : Nm → Nat) (ls : Array Slot),
      p.tables.exec = Jvm.exec → c.code = cc → ls.size = nL → c.maxLocals = nL → s.vm.findClass y.cls = some m.cls → (y.name = "<init>" → meth.name = "<init>") → TB s → va_K D vwCl (tyl cs) s → EX ad A s s.heap → R.frames = rf ∧ R.locals = rl → cells ≤ R.cells ∧ slots ≤ R.slots → va_P D vwCl (wld cs ad g) H → va_D A (wld cs ad g) → va_S A s.heap H locs → okl g lv → oks g st → Cl g →
      (∀ H1 locs1, va_P D vwCl (wld cs ad g1) H1 → va_D A (wld cs ad g1) → va_S A s.heap H1 locs1 → W p l e R s m args below meth c H1 locs1 cells slots Q (F0 m pc' ls (stm ad st'))) → W p l e R s m args below meth c H locs cells slots Q (F0 m pc ls (stm ad st)))
    (hL : gL g1 = gL g) (hcs : gc g1 = gc g ∧ gs g1 = gs g) (hcl : Cl g → oks g st → Cl g1) (hok : oks g st → oks g st') (k : J y cc nL rt rf rl X g1 pc' lv st' pr) : J y cc nL rt rf rl X g pc lv st pr := by
  obtain ⟨⟨p, l, e, s, m, args, below, meth, c⟩, ⟨D, cs, A⟩, ad0, g0, RF, QF⟩ := X
  intro r g' h
  obtain ⟨a, b⟩ := k r g' h
  have hM1 : Mn g g1 := ⟨Nat.le_of_eq hcs.1.symm, Nat.le_of_eq hcs.2.symm, fun n hn => by rw [hL]; exact hn⟩
  have a' := hM1.tr a
  refine ⟨a', fun hG hM hc ad H locs ls h1 h2 h3 h4 h5 h6 h7 h0 => ?_⟩
  obtain ⟨x1, x2, x3, x4, x5, x6, x7, x8, x9, x10, x11, x12⟩ := id hG
  have hcc : gc g - gc g0 ≤ (RF g').cells ∧ gs g - gs g0 ≤ (RF g').slots := ⟨Nat.le_trans (Nat.sub_le_sub_right a'.1 _) hc.1, Nat.le_trans (Nat.sub_le_sub_right a'.2.1 _) hc.2⟩
  have hk := b hG (hM.tr hM1) hc ad
  rw [hcs.1, hcs.2] at hk
  exact hW p l e s m args below meth c _ H locs _ _ _ D cs A ad ls x1 x2 h5.1 x3 x4 x7 x8 x9 (x11.ad (h1 _ (Or.inr (Or.inl rfl))) (h1 _ (Or.inr (Or.inr (Or.inr rfl))))) (x12 g') hcc h2 h3 h4 h6 h7 h0 (fun H1 locs1 q2 q3 q4 => hk H1 locs1 ls h1 q2 q3 q4 h5 (h6.mn hM1) ((hok h7).mn hM1) (hcl h0 h7))
theorem va_getL {p : Program} {l : Launch} {e : Env} {s : State} {m : MethodId} {args : Array Value} {below : List Frame} {meth : Method} {c : Code} {R : Room} {H : Heap} {locs : List Loc} {cells slots : Nat} {Q : State → Prop} {D : va_G} {cs : ClassId × ClassId × ClassId} {ad : Nm → Nat} {ls : Array Slot} {rest : List Value} {own : String} {ix cd k : Nat} {b : Bool} {n : Nm}
    (hF : FLK own ix cd k b) (ho : own = y.cls) (hx : p.tables.exec = Jvm.exec) (hb : c.code = cc) (hw : s.vm.findClass y.cls = some m.cls) (htb : TB s) (hK : va_K D vwCl (tyl cs) s) (hP : va_P D vwCl (wld cs ad g) H) (hn : n.1 = cd) (hin : n ∈ gL g) (hd : decode cc pc = .ok (.getfield ix, 3))
    (kk : W p l e R s m args below meth c H locs cells slots Q (F0 m (pc + 3) ls (fv ad g n k b :: rest))) : W p l e R s m args below meth c H locs cells slots Q (F0 m pc ls (.ref (ad n) :: rest)) := by
  obtain ⟨C, T, N, ref, ⟨h1, h2, h3, h4⟩, h5, h6, h7⟩ := hF
  subst hn
  obtain ⟨q, hq, he⟩ := wat (cs := cs) (ad := ad) hin
  rw [ent_o h4] at he
  have hsame : ∀ x, s.fieldFound? (T k).1 (T k).2.1 (T k).2.2.1 = some x → s.fieldFound? ref (T k).2.1 (T k).2.2.1 = some x := by
    rcases h7 with e | ⟨e, eo⟩
    · rw [e]; exact fun _ h => h
    · exact fun x h => u_same (htb _ e eo args) x h
  rcases h6 with ⟨h6, h6o⟩ | ⟨host, h6⟩
  · exact va_get (Ts := u_ws C T N) hx hb (fun w hw2 => htb w (h5 w hw2).1 (h5 w hw2).2 args) (fun _ h => h) (by rw [ho]; exact hw) hK hP q he h1 k h2 (htb _ h6 h6o args) hsame (fv_get h3) hd kk
  · exact va_getN (Ts := u_ws C T N) hx hb (fun w hw2 => htb w (h5 w hw2).1 (h5 w hw2).2 args) (fun _ h => h) (by rw [ho]; exact hw) hK hP q he h1 k h2 (htb _ h6 (by simp [okW, isNw]) args) hsame (fv_get h3) hd kk
theorem j_getI {own : String} {ix c k : Nat} {r : Option Nm} {F : Int32 → Option (ρ × Hp)} (hd : decode cc pc = .ok (.getfield ix, 3)) (hF : FLK own ix c k false) (ho : own = y.cls) (hp : pr = (getI r c k g).bind F) (kk : ∀ x, J y cc nL rt rf rl X g (pc + 3) lv (sI x :: st) (F x)) : J y cc nL rt rf rl X g pc lv (sR r :: st) pr := by
  subst hp
  cases r with
  | none => exact J.none
  | some n =>
    by_cases hn : n.1 = c
    · have e : (getI (some n) c k g).bind F = F (gI g n k) := by simp [getI, hn]
      refine J.eq e (J.r (fun p l e s m args below meth c0 R H locs cells slots Q D cs A ad ls hx hb hz hml hw htb hK hE hR hC hP hD hS hol hos K0 => ?_) (fun _ h => h.tail.ci) (kk (gI g n k)))
      have hc : c < 11 := by obtain ⟨C, T, N, ref, ⟨_, _, _, h4⟩, _⟩ := hF; exact h4
      exact va_getL hF ho hx hb hw htb hK hP hn (okr_in hos.head (Or.inl (by omega))) hd K0
    · have e : (getI (some n) c k g).bind F = none := by simp [getI, hn]
      exact J.eq e J.none
theorem j_getR {own : String} {ix c k : Nat} {r : Option Nm} {F : Option Nm → Option (ρ × Hp)} (hd : decode cc pc = .ok (.getfield ix, 3)) (hF : FLK own ix c k true) (ho : own = y.cls) (hp : pr = (getR r c k g).bind F) (kk : ∀ x, J y cc nL rt rf rl X g (pc + 3) lv (sR x :: st) (F x)) : J y cc nL rt rf rl X g pc lv (sR r :: st) pr := by
  subst hp
  cases r with
  | none => exact J.none
  | some n =>
    by_cases hn : n.1 = c
    · have hc : c < 11 := by obtain ⟨C, T, N, ref, ⟨_, _, _, h4⟩, _⟩ := hF; exact h4
      have e : (getR (some n) c k g).bind F = F (gR g n k) := by simp [getR, hn]
      refine J.eq e (J.r (fun p l e s m args below meth c0 R H locs cells slots Q D cs A ad ls hx hb hz hml hw htb hK hE hR hC hP hD hS hol hos K0 => ?_) (fun h0 h => h.tail.cons (v := sR (gR g n k)) (h0 n (okr_in h.head (Or.inl (by omega))) k)) (kk (gR g n k)))
      exact va_getL hF ho hx hb hw htb hK hP hn (okr_in hos.head (Or.inl (by omega))) hd K0
    · have e : (getR (some n) c k g).bind F = none := by simp [getR, hn]
      exact J.eq e J.none
theorem ent_setI {cs : ClassId × ClassId × ClassId} {ad : Nm → Nat} {g : Hp} {n m : Nm} {k : Nat} {v : Int32} (h : m ≠ n) : ent cs ad (setI g n k v) m = ent cs ad g m := by
  have e1 : gI (setI g n k v) m = gI g m := by funext j; simp [setI, gI, h]
  have e2 : gR (setI g n k v) = gR g := rfl
  have e3 : gN (setI g n k v) = gN g := rfl
  have e4 : fv ad (setI g n k v) m = fv ad g m := by funext j b; simp only [fv, e1, e2]
  simp only [ent, e1, e2, e3, e4]
theorem ent_setR {cs : ClassId × ClassId × ClassId} {ad : Nm → Nat} {g : Hp} {n m : Nm} {k : Nat} {v : Option Nm} (h : m ≠ n) : ent cs ad (setR g n k v) m = ent cs ad g m := by
  have e1 : gI (setR g n k v) = gI g := rfl
  have e2 : gR (setR g n k v) m = gR g m := by funext j; simp [setR, gR, h]
  have e3 : gN (setR g n k v) = gN g := rfl
  have e4 : fv ad (setR g n k v) m = fv ad g m := by funext j b; simp only [fv, e1, e2]
  simp only [ent, e1, e2, e3, e4]
theorem fs_setI {ad : Nm → Nat} {g : Hp} {n : Nm} {k : Nat} {v : Int32} (h : (flds n.1)[k]? = some false) : ((flds n.1).mapIdx (fv ad g n)).set k (.int v) = (flds n.1).mapIdx (fv ad (setI g n k v) n) := by
  apply List.ext_getElem?
  intro j
  have hk := (List.getElem?_eq_some_iff.mp h).1
  rw [List.getElem?_set]
  by_cases hj : k = j
  · subst hj
    simp only [List.length_mapIdx, hk, if_true, List.getElem?_mapIdx, h, Option.map_some]
    simp [fv, setI, gI]
  · rw [if_neg hj, List.getElem?_mapIdx, List.getElem?_mapIdx]
    congr 1
    funext b
    have : ¬ j = k := fun q => hj q.symm
    simp [fv, setI, gI, gR, this]
theorem fs_setR {ad : Nm → Nat} {g : Hp} {n : Nm} {k : Nat} {v : Option Nm} (h : (flds n.1)[k]? = some true) : ((flds n.1).mapIdx (fv ad g n)).set k (va_rf (v.map ad)) = (flds n.1).mapIdx (fv ad (setR g n k v) n) := by
  apply List.ext_getElem?
  intro j
  have hk := (List.getElem?_eq_some_iff.mp h).1
  rw [List.getElem?_set]
  by_cases hj : k = j
  · subst hj
    simp only [List.length_mapIdx, hk, if_true, List.getElem?_mapIdx, h, Option.map_some]
    simp [fv, setR, gR]
  · rw [if_neg hj, List.getElem?_mapIdx, List.getElem?_mapIdx]
    congr 1
    funext b
    have : ¬ j = k := fun q => hj q.symm
    simp [fv, setR, gI, gR, this]
theorem va_putL {p : Program} {l : Launch} {e : Env} {s : State} {m : MethodId} {args : Array Value} {below : List Frame} {meth : Method} {c : Code} {R : Room} {H : Heap} {locs : List Loc} {cells slots : Nat} {Q : State → Prop} {D : va_G} {cs : ClassId × ClassId × ClassId} {A : Nat → Prop} {ad : Nm → Nat} {ls : Array Slot} {rest : List Value} {own : String} {ix cd k : Nat} {b : Bool} {ty : FieldType} {n : Nm} {v : Value} {g1 : Hp}
    (hF : FLK own ix cd k b) (hT : FLT cd k ty) (hV : FLW y own ix cd k) (ho : own = y.cls) (hx : p.tables.exec = Jvm.exec) (hb : c.code = cc) (hw : s.vm.findClass y.cls = some m.cls) (hnm : y.name = "<init>" → meth.name = "<init>") (htb : TB s) (hK : va_K D vwCl (tyl cs) s) (hP : va_P D vwCl (wld cs ad g) H) (hD : va_D A (wld cs ad g)) (hS : va_S A s.heap H locs) (hn : n.1 = cd) (hin : n ∈ gL g)
    (hnv : narrow ty v = v) (hfit : fits ty v = true) (hL : gL g1 = gL g) (hself : ((flds n.1).mapIdx (fv ad g n)).set k v = (flds n.1).mapIdx (fv ad g1 n)) (hoth : ∀ m, m ≠ n → ent cs ad g1 m = ent cs ad g m) (hd : decode cc pc = .ok (.putfield ix, 3))
    (kk : ∀ H1 locs1, va_P D vwCl (wld cs ad g1) H1 → va_D A (wld cs ad g1) → va_S A s.heap H1 locs1 → W p l e R s m args below meth c H1 locs1 cells slots Q (F0 m (pc + 3) ls rest)) : W p l e R s m args below meth c H locs cells slots Q (F0 m pc ls (v :: .ref (ad n) :: rest)) := by
  obtain ⟨C, T, N, ref, ⟨h1, h2, h3, h4⟩, h5, h6, h7⟩ := hF
  obtain ⟨C', T', N', t0, a1, a2, a3, a4⟩ := hT
  cases (h1.symm.trans a1)
  obtain ⟨C', T', N', b1, b2⟩ := hV
  cases (h1.symm.trans b1)
  subst hn
  obtain ⟨q, hq, he⟩ := wat (cs := cs) (ad := ad) hin
  have hset := wset (cs := cs) (ad := ad) hD hq hL (e := .inr (n.1, (flds n.1).mapIdx (fv ad g1 n))) (ent_o h4) hoth
  rw [← hself] at hset
  rw [ent_o h4] at he
  have hlen : k < ((flds n.1).mapIdx (fv ad g n)).length := by rw [List.length_mapIdx]; exact (List.getElem?_eq_some_iff.mp h3).1
  have hsame : ∀ x, s.fieldFound? (T k).1 (T k).2.1 (T k).2.2.1 = some x → s.fieldFound? ref (T k).2.1 (T k).2.2.1 = some x := by
    rcases h7 with e | ⟨e, eo⟩
    · rw [e]; exact fun _ h => h
    · exact fun x h => u_same (htb _ e eo args) x h
  have kk2 : ∀ (H1 : Heap) (locs1 : List Loc), va_P D vwCl ((wld cs ad g).set q (ad n, .inr (n.1, ((flds n.1).mapIdx (fv ad g n)).set k v))) H1 → va_D A ((wld cs ad g).set q (ad n, .inr (n.1, ((flds n.1).mapIdx (fv ad g n)).set k v))) → va_S A s.heap H1 locs1 → W p l e R s m args below meth c H1 locs1 cells slots Q (F0 m (pc + 3) ls rest) := by
    rw [hset]
    exact kk
  rcases b2 with b2 | ⟨b2, b3, b4, b5, b6⟩
  · rcases h6 with ⟨h6, h6o⟩ | ⟨host, h6⟩
    · exact va_put (Ts := u_ws C T N) (own := own) hx hb (fun w hw2 => htb w (h5 w hw2).1 (h5 w hw2).2 args) (fun _ h => h) t0 a3 a4 (by rw [ho]; exact hw) hK hP hD hS q he h1 k h2 (htb _ h6 h6o args) hsame b2 a2 hnv hfit hlen hd kk2
    · exact va_putN (Ts := u_ws C T N) (own := own) hx hb (fun w hw2 => htb w (h5 w hw2).1 (h5 w hw2).2 args) (fun _ h => h) t0 a3 a4 (by rw [ho]; exact hw) hK hP hD hS q he h1 k h2 (htb _ h6 (by simp [okW, isNw]) args) hsame b2 a2 hnv hfit hlen hd kk2
  · exact va_putF (Ts := u_ws C T N) (own := own) hx hb (fun w hw2 => htb w (h5 w hw2).1 (h5 w hw2).2 args) (fun _ h => h) t0 a3 a4 (by rw [ho]; exact hw) hK hP hD hS q he h1 k h2 (htb _ b5 b6 args) (fun _ h => h) b2 (hnm b3) (b4.trans ho.symm) a2 hnv hfit hlen hd kk2
theorem j_putI {own : String} {ix c k : Nat} {r : Option Nm} {x : Int32} {F : Hp → Option (ρ × Hp)} (hd : decode cc pc = .ok (.putfield ix, 3)) (hF : FLK own ix c k false) (hT : FLT c k .int) (hV : FLW y own ix c k) (ho : own = y.cls) (hp : pr = (putI r c k x g).bind F) (kk : ∀ g1, J y cc nL rt rf rl X g1 (pc + 3) lv st (F g1)) : J y cc nL rt rf rl X g pc lv (sI x :: sR r :: st) pr := by
  subst hp
  cases r with
  | none => exact J.none
  | some n =>
    by_cases hn : n.1 = c
    · have e : (putI (some n) c k x g).bind F = F (setI g n k x) := by simp [putI, hn]
      refine J.eq e (J.w (g1 := setI g n k x) (fun p l e s m args below meth c0 R H locs cells slots Q D cs A ad ls hx hb hz hml hw hnm htb hK hE hR hC hP hD hS hol hos K0 => ?_) rfl ⟨rfl, rfl⟩ (fun h0 _ => h0) (fun h => h.tail.tail) (kk (setI g n k x)))
      have hc : c < 11 := by obtain ⟨C, T, N, ref, ⟨_, _, _, h4⟩, _⟩ := hF; exact h4
      have hf : (flds n.1)[k]? = some false := by obtain ⟨C, T, N, ref, ⟨_, _, h3, _⟩, _⟩ := hF; rw [hn]; exact h3
      exact va_putL (g1 := setI g n k x) hF hT hV ho hx hb hw hnm htb hK hP hD hS hn (okr_in hos.tail.head (Or.inl (by omega))) rfl rfl rfl (fs_setI hf) (fun m hm => ent_setI hm) hd K0
    · have e : (putI (some n) c k x g).bind F = none := by simp [putI, hn]
      exact J.eq e J.none
theorem j_putZ {own : String} {ix c k : Nat} {r : Option Nm} {x : Int32} {F : Hp → Option (ρ × Hp)} (hd : decode cc pc = .ok (.putfield ix, 3)) (hF : FLK own ix c k false) (hT : FLT c k .boolean) (hV : FLW y own ix c k) (ho : own = y.cls) (hp : pr = (putZ r c k x g).bind F) (kk : ∀ g1, J y cc nL rt rf rl X g1 (pc + 3) lv st (F g1)) : J y cc nL rt rf rl X g pc lv (sI x :: sR r :: st) pr := by
  subst hp
  cases r with
  | none => exact J.none
  | some n =>
    by_cases hn : n.1 = c ∧ (x = 0 ∨ x = 1)
    · have e : (putZ (some n) c k x g).bind F = F (setI g n k x) := by simp [putZ, hn]
      refine J.eq e (J.w (g1 := setI g n k x) (fun p l e s m args below meth c0 R H locs cells slots Q D cs A ad ls hx hb hz hml hw hnm htb hK hE hR hC hP hD hS hol hos K0 => ?_) rfl ⟨rfl, rfl⟩ (fun h0 _ => h0) (fun h => h.tail.tail) (kk (setI g n k x)))
      have hc : c < 11 := by obtain ⟨C, T, N, ref, ⟨_, _, _, h4⟩, _⟩ := hF; exact h4
      have hf : (flds n.1)[k]? = some false := by obtain ⟨C, T, N, ref, ⟨_, _, h3, _⟩, _⟩ := hF; rw [hn.1]; exact h3
      have h01 : narrow .boolean (.int x) = .int x ∧ fits .boolean (.int x) = true := by rcases hn.2 with e1 | e1 <;> subst e1 <;> decide
      exact va_putL (g1 := setI g n k x) hF hT hV ho hx hb hw hnm htb hK hP hD hS hn.1 (okr_in hos.tail.head (Or.inl (by omega))) h01.1 h01.2 rfl (fs_setI hf) (fun m hm => ent_setI hm) hd K0
    · have e : (putZ (some n) c k x g).bind F = none := by simp [putZ, hn]
      exact J.eq e J.none
theorem j_putR {own : String} {ix c k : Nat} {r x : Option Nm} {ty : FieldType} {F : Hp → Option (ρ × Hp)} (hd : decode cc pc = .ok (.putfield ix, 3)) (hF : FLK own ix c k true) (hT : FLT c k ty) (hty : refKind ty = true) (hV : FLW y own ix c k) (ho : own = y.cls) (hp : pr = (putR r c k x g).bind F) (kk : ∀ g1, J y cc nL rt rf rl X g1 (pc + 3) lv st (F g1)) : J y cc nL rt rf rl X g pc lv (sR x :: sR r :: st) pr := by
  subst hp
  cases r with
  | none => exact J.none
  | some n =>
    by_cases hn : n.1 = c
    · have e : (putR (some n) c k x g).bind F = F (setR g n k x) := by simp [putR, hn]
      refine J.eq e (J.w (g1 := setR g n k x) (fun p l e s m args below meth c0 R H locs cells slots Q D cs A ad ls hx hb hz hml hw hnm htb hK hE hR hC hP hD hS hol hos K0 => ?_) rfl ⟨rfl, rfl⟩ (fun h0 h => Cl.setR h0 h.head) (fun h => h.tail.tail) (kk (setR g n k x)))
      have hc : c < 11 := by obtain ⟨C, T, N, ref, ⟨_, _, _, h4⟩, _⟩ := hF; exact h4
      have hf : (flds n.1)[k]? = some true := by obtain ⟨C, T, N, ref, ⟨_, _, h3, _⟩, _⟩ := hF; rw [hn]; exact h3
      have h01 : narrow ty (va_rf (x.map ad)) = va_rf (x.map ad) ∧ fits ty (va_rf (x.map ad)) = true := by
        cases ty <;> first | (exact absurd hty (by decide)) | (cases x <;> exact ⟨rfl, rfl⟩)
      exact va_putL (g1 := setR g n k x) hF hT hV ho hx hb hw hnm htb hK hP hD hS hn (okr_in hos.tail.head (Or.inl (by omega))) h01.1 h01.2 rfl (fs_setR hf) (fun m hm => ent_setR hm) hd K0
    · have e : (putR (some n) c k x g).bind F = none := by simp [putR, hn]
      exact J.eq e J.none
/-! rows -/
theorem j_aldI {r : Option Nm} {i : Int32} {F : Int32 → Option (ρ × Hp)} (hd : decode cc pc = .ok (.iaload, 1)) (hp : pr = (aldI r i g).bind F) (kk : ∀ x, J y cc nL rt rf rl X g (pc + 1) lv (sI x :: st) (F x)) : J y cc nL rt rf rl X g pc lv (sI i :: sR r :: st) pr := by
  subst hp
  cases r with
  | none => exact J.none
  | some n =>
    by_cases hn : (20 ≤ n.1 ∧ n.1 < 60) ∧ vp_in i (gN g n)
    · have e : (aldI (some n) i g).bind F = F (gI g n i.toNatClampNeg) := by simp [aldI, hn]
      refine J.eq e (J.r (fun p l e s m args below meth c0 R H locs cells slots Q D cs A ad ls hx hb hz hml hw htb hK hE hR hC hP hD hS hol hos K0 => ?_) (fun _ h => h.tail.tail.ci) (kk _))
      obtain ⟨q, hq, he⟩ := wat (cs := cs) (ad := ad) (okr_in hos.tail.head (Or.inr hn.1.1))
      rw [ent_i hn.1.1 hn.1.2] at he
      exact va_iald hx hb hK hP q 0 he rfl hn.2 hd K0
    · have e : (aldI (some n) i g).bind F = none := by simp [aldI, hn]
      exact J.eq e J.none
theorem j_aldR {r : Option Nm} {i : Int32} {F : Option Nm → Option (ρ × Hp)} (hd : decode cc pc = .ok (.aaload, 1)) (hp : pr = (aldR r i g).bind F) (kk : ∀ x, J y cc nL rt rf rl X g (pc + 1) lv (sR x :: st) (F x)) : J y cc nL rt rf rl X g pc lv (sI i :: sR r :: st) pr := by
  subst hp
  cases r with
  | none => exact J.none
  | some n =>
    by_cases hn : (12 ≤ n.1 ∧ n.1 < 17) ∧ vp_in i (gN g n)
    · have e : (aldR (some n) i g).bind F = F (gR g n i.toNatClampNeg) := by simp [aldR, hn]
      refine J.eq e (J.r (fun p l e s m args below meth c0 R H locs cells slots Q D cs A ad ls hx hb hz hml hw htb hK hE hR hC hP hD hS hol hos K0 => ?_) (fun h0 h => h.tail.tail.cons (v := sR (gR g n i.toNatClampNeg)) (h0 n (okr_in h.tail.head (Or.inl hn.1.2)) _)) (kk _))
      obtain ⟨q, hq, he⟩ := wat (cs := cs) (ad := ad) (okr_in hos.tail.head (Or.inl hn.1.2))
      rw [ent_r hn.1.1 hn.1.2] at he
      exact va_aldq hx hb hK hP q 2 he rfl hn.2 hd K0
    · have e : (aldR (some n) i g).bind F = none := by simp [aldR, hn]
      exact J.eq e J.none
theorem j_alen {r : Option Nm} {F : Int32 → Option (ρ × Hp)} (hd : decode cc pc = .ok (.arraylength, 1)) (hp : pr = (alen r g).bind F) (kk : ∀ x, J y cc nL rt rf rl X g (pc + 1) lv (sI x :: st) (F x)) : J y cc nL rt rf rl X g pc lv (sR r :: st) pr := by
  subst hp
  cases r with
  | none => exact J.none
  | some n =>
    by_cases h17 : n = (17, 0)
    · have e : (alen (some n) g).bind F = F 0 := by simp [alen, h17]
      refine J.eq e (J.r (fun p l e s m args below meth c0 R H locs cells slots Q D cs A ad ls hx hb hz hml hw htb hK hE hR hC hP hD hS hol hos K0 => ?_) (fun _ h => h.tail.ci) (kk _))
      obtain ⟨f, hT⟩ := hE.2.1
      subst h17
      exact va_tlen (v := 0) hx hb hT hS rfl hd K0
    · by_cases hn : (12 ≤ n.1 ∧ n.1 < 17) ∨ 20 ≤ n.1
      · have e : (alen (some n) g).bind F = F (Int32.ofNat (gN g n)) := by simp [alen, h17, hn]
        refine J.eq e (J.r (fun p l e s m args below meth c0 R H locs cells slots Q D cs A ad ls hx hb hz hml hw htb hK hE hR hC hP hD hS hol hos K0 => ?_) (fun _ h => h.tail.ci) (kk _))
        obtain ⟨q, hq, he⟩ := wat (cs := cs) (ad := ad) (okr_in hos.head (by omega))
        by_cases h1 : n.1 < 17
        · rw [ent_r (by omega) h1] at he
          exact va_alen hx hb hK hP q 2 he rfl rfl hd K0
        · by_cases h2 : n.1 < 60
          · rw [ent_i (by omega) h2] at he
            exact va_alen hx hb hK hP q 0 he rfl rfl hd K0
          · rw [ent_z (by omega)] at he
            exact va_alen hx hb hK hP q 1 he rfl rfl hd K0
      · have e : (alen (some n) g).bind F = none := by simp [alen, h17, hn]
        exact J.eq e J.none
theorem gI_self (g : Hp) (n : Nm) (k : Nat) (v : Int32) : gI (setI g n k v) n = upd (gI g n) k v := by funext j; simp [setI, gI, upd]
theorem j_astI {r : Option Nm} {i x : Int32} {F : Hp → Option (ρ × Hp)} (hd : decode cc pc = .ok (.iastore, 1)) (hp : pr = (astI r i x g).bind F) (kk : ∀ g1, J y cc nL rt rf rl X g1 (pc + 1) lv st (F g1)) : J y cc nL rt rf rl X g pc lv (sI x :: sI i :: sR r :: st) pr := by
  subst hp
  cases r with
  | none => exact J.none
  | some n =>
    by_cases hn : (20 ≤ n.1 ∧ n.1 < 60) ∧ vp_in i (gN g n)
    · have e : (astI (some n) i x g).bind F = F (setI g n i.toNatClampNeg x) := by simp [astI, hn]
      refine J.eq e (J.w (g1 := setI g n i.toNatClampNeg x) (fun p l e s m args below meth c0 R H locs cells slots Q D cs A ad ls hx hb hz hml hw hnm htb hK hE hR hC hP hD hS hol hos K0 => ?_) rfl ⟨rfl, rfl⟩ (fun h0 _ => h0) (fun h => h.tail.tail.tail) (kk _))
      obtain ⟨q, hq, he⟩ := wat (cs := cs) (ad := ad) (okr_in hos.tail.tail.head (Or.inr hn.1.1))
      have hset := wset (cs := cs) (ad := ad) (g1 := setI g n i.toNatClampNeg x) hD hq rfl (ent_i hn.1.1 hn.1.2) (fun m hm => ent_setI hm)
      rw [ent_i hn.1.1 hn.1.2] at he
      rw [gI_self] at hset
      exact va_iast hx hb hK hP hD hS q 0 he rfl hn.2 hd (by rw [← hset] at K0; exact K0)
    · have e : (astI (some n) i x g).bind F = none := by simp [astI, hn]
      exact J.eq e J.none
end HRU
end
section
/-! making cells -/
def upn (f : Nm → Nat) (n : Nm) (q : Nat) : Nm → Nat := fun m => if m = n then q else f m
theorem wnew {cs : ClassId × ClassId × ClassId} {ad : Nm → Nat} {g : Hp} {n : Nm} {len sz q : Nat} (h0 : Cl g) (hn : n ∉ gL g) (hx : ¬ isX n) : wld cs (upn ad n q) (newN g n len sz) = wld cs ad g ++ [(q, ent cs (upn ad n q) (newN g n len sz) n)] := by
  have e1 : gL (newN g n len sz) = gL g ++ [n] := rfl
  unfold wld
  rw [e1, List.map_append]
  congr 1
  · apply List.map_congr_left
    intro m hm
    have hmn : m ≠ n := fun e => hn (e ▸ hm)
    have a1 : upn ad n q m = ad m := by simp [upn, hmn]
    have a2 : gI (newN g n len sz) m = gI g m := by funext j; simp [newN, gI, hmn]
    have a3 : ∀ j, gR (newN g n len sz) m j = gR g m j := fun j => by simp [newN, gR, hmn]
    have a4 : gN (newN g n len sz) m = gN g m := by simp [newN, gN, hmn]
    have a5 : ∀ j, (gR (newN g n len sz) m j).map (upn ad n q) = (gR g m j).map ad := fun j => by
      rw [a3 j]
      cases hr : gR g m j with
      | none => rfl
      | some w =>
        have hw : w ≠ n := by
          intro e
          rcases h0 m hm j w hr with h | h
          · exact hn (e ▸ h)
          · exact hx (e ▸ h)
        simp [upn, hw]
    have a6 : fv (upn ad n q) (newN g n len sz) m = fv ad g m := by funext j b; simp only [fv, a2, a5]
    rw [a1]
    simp only [ent, a2, a4, a5, a6]
  · simp [upn]
theorem Cl.newN {g : Hp} {n : Nm} {len sz : Nat} (h : Cl g) : Cl (newN g n len sz) := by
  intro m hm j w hw
  have e : gR (_root_.Jvm.Pilot.CFirstSecondsLaw_law_r5573_9f0cfd.newN g n len sz) m j = if m = n then none else gR g m j := rfl
  rw [e] at hw
  split at hw
  · cases hw
  · rename_i hmn
    have hm2 : m ∈ gL g ++ [n] := hm
    rcases List.mem_append.mp hm2 with h2 | h2
    · rcases h m h2 j w hw with h3 | h3
      · exact Or.inl (List.mem_append_left _ h3)
      · exact Or.inr h3
    · exact absurd (List.mem_singleton.mp h2) hmn
def FLN (own : String) (ix c : Nat) : Prop := ∃ (C : String) (T : u_T) (N : Nat) (ty : Nat → FieldType), (vwCl[c]? = some (C, T, N) ∧ c < 11 ∧ N = (flds c).length) ∧ (∀ k, k < N → parseFieldDescriptor (T k).2.2.1 = some (ty k)) ∧ (∀ j, j < N → ∀ b, (flds c)[j]? = some b → defaultValue (ty j) = if b = true then .null else .int 0) ∧ (∀ w ∈ u_ws C T N, w ∈ lw_tbl ∧ okW w = true) ∧
  (Cond.classLink own ix C ∈ lw_tbl ∧ okW (Cond.classLink own ix C) = true) ∧ (Cond.instantiable C N ∈ lw_tbl ∧ okW (Cond.instantiable C N) = true) ∧ (Cond.initialized C ∈ lw_tbl ∧ okW (Cond.initialized C) = true)
section MRU
variable {ρ : Type} {y : MethodName} {cc : ByteArray} {nL : Nat} {rt : Option FieldType} {rf rl : Nat} {X : Xt ρ} {g : Hp} {pc : Nat} {lv lv' : List (Nat × SV)} {st : List SV} {pr pr2 : Option (ρ × Hp)}
theorem J.n {pc' : Nat} {st' : List SV} {n : Nm} {len sz : Nat} (hn : n ∉ gL g) (hnx : ¬ isX n) (hW : ∀ (p : Program) (l : Launch) (e : Env) (s : State) (m : MethodId) (args : Array Value) (below : List Frame) (meth : Method) (c : Code) (R : Room) (H : Heap) (locs : List Loc) (cells slots : Nat) (Q : State → Prop) (D : va_G) (cs : ClassId × ClassId × ClassId) (A : Nat → Prop) (ad : Nm → Nat) (ls : Array Slot),
      p.tables.exec = Jvm.exec → c.code = cc → s.vm.findClass y.cls = some m.cls → TB s → va_K D vwCl (tyl cs) s → EX ad A s s.heap → (∀ q : Nat, s.heap.size ≤ q → A q) → cells + 1 ≤ R.cells ∧ slots + sz ≤ R.slots → va_P D vwCl (wld cs ad g) H → va_D A (wld cs ad g) → va_S A s.heap H locs →
      (∀ q H1, va_P D vwCl (wld cs ad g ++ [(q, ent cs (upn ad n q) (newN g n len sz) n)]) H1 → va_D A (wld cs ad g ++ [(q, ent cs (upn ad n q) (newN g n len sz) n)]) → va_S A s.heap H1 locs → W p l e R s m args below meth c H1 locs (cells + 1) (slots + sz) Q (F0 m pc' ls (.ref q :: stm ad st'))) → W p l e R s m args below meth c H locs cells slots Q (F0 m pc ls (stm ad st)))
    (hok : oks g st → oks g st') (k : J y cc nL rt rf rl X (newN g n len sz) pc' lv (sR (some n) :: st') pr) : J y cc nL rt rf rl X g pc lv st pr := by
  obtain ⟨⟨p, l, e, s, m, args, below, meth, c⟩, ⟨D, cs, A⟩, ad0, g0, RF, QF⟩ := X
  intro r g' h
  obtain ⟨a, b⟩ := k r g' h
  have hM1 : Mn g (newN g n len sz) := ⟨Nat.le_succ _, Nat.le_add_right _ _, fun w hw => List.mem_append_left _ hw⟩
  have a' := hM1.tr a
  refine ⟨a', fun hG hM hc ad H locs ls h1 h2 h3 h4 h5 h6 h7 h0 => ?_⟩
  obtain ⟨x1, x2, x3, x4, x5, x6, x7, x8, x9, x10, x11, x12⟩ := id hG
  have b1 : gc (newN g n len sz) = gc g + 1 := rfl
  have b2 : gs (newN g n len sz) = gs g + sz := rfl
  have hcc : gc g - gc g0 + 1 ≤ (RF g').cells ∧ gs g - gs g0 + sz ≤ (RF g').slots := by
    have c1 := a.1
    have c2 := a.2.1
    rw [b1] at c1
    rw [b2] at c2
    have c3 := hM.1
    have c4 := hM.2.1
    constructor
    · refine Nat.le_trans ?_ hc.1; omega
    · refine Nat.le_trans ?_ hc.2; omega
  refine hW p l e s m args below meth c _ H locs _ _ _ D cs A ad ls x1 x2 x4 x8 x9 (x11.ad (h1 _ (Or.inr (Or.inl rfl))) (h1 _ (Or.inr (Or.inr (Or.inr rfl))))) x10 hcc h2 h3 h4 (fun q H1 q2 q3 q4 => ?_)
  rw [← wnew h0 hn hnx] at q2 q3
  have hag : Ag g ad (upn ad n q) := fun w hw => by
    have : w ≠ n := fun e => hw.elim (fun z => hn (e ▸ z)) (fun z => hnx (e ▸ z))
    simp [upn, this]
  have hag0 : Ag g0 ad0 (upn ad n q) := fun w hw => by
    rw [hag w (hw.elim (fun z => Or.inl (hM.2.2 w z)) Or.inr)]
    exact h1 w hw
  have hk := b hG (hM.tr hM1) hc (upn ad n q) H1 locs ls hag0 q2 q3 q4 (by rw [lvm_ag hag h6]; exact h5) (h6.mn hM1) (((hok h7).mn hM1).cons (v := sR (some n)) (fun w hw => by cases hw; exact Or.inl (List.mem_append_right _ List.mem_cons_self))) h0.newN
  have e1 : stm (upn ad n q) (sR (some n) :: st') = .ref q :: stm ad st' := by
    show va_rf (some (upn ad n q n)) :: stm (upn ad n q) st' = _
    rw [stm_ag hag (hok h7)]
    simp [upn, va_rf]
  rw [e1, b1, b2] at hk
  have e2 : gc g + 1 - gc g0 = gc g - gc g0 + 1 := by have := hM.1; omega
  have e3 : gs g + sz - gs g0 = gs g - gs g0 + sz := by have := hM.2.1; omega
  rw [e2, e3] at hk
  exact hk
theorem notX_lt {n : Nm} (h : n.1 < 17) : ¬ isX n := by rintro (e | e | e) <;> subst e <;> exact absurd h (by decide)
theorem notX_ge {n : Nm} (h : 20 ≤ n.1) : ¬ isX n := by rintro (e | e | e) <;> subst e <;> exact absurd h (by decide)
theorem j_mkO {own : String} {ix c : Nat} {n : Nm} {F : Option Nm × Hp → Option (ρ × Hp)} (hd : decode cc pc = .ok (.new ix, 3)) (hF : FLN own ix c) (ho : own = y.cls) (hp : pr = (mkO n c g).bind F) (kk : ∀ r g1, J y cc nL rt rf rl X g1 (pc + 3) lv (sR r :: st) (F (r, g1))) : J y cc nL rt rf rl X g pc lv st pr := by
  subst hp
  obtain ⟨C, T, N, ty, ⟨a1, a2, a3⟩, a4, a5, a6, a7, a8, a9⟩ := hF
  by_cases hn : n.1 = c ∧ n ∉ gL g
  · have e : (mkO n c g).bind F = F (some n, newN g n 0 (flds c).length) := by simp [mkO, hn]
    refine J.eq e (J.n hn.2 (notX_lt (by omega)) (fun p l e s m args below meth c0 R H locs cells slots Q D cs A ad ls hx hb hw htb hK hE hA hC hP hD hS K0 => ?_) (fun h => h) (kk _ _))
    have hent : ∀ q, ent cs (upn ad n q) (newN g n 0 (flds c).length) n = .inr (c, (flds c).mapIdx (fun _ b => if b = true then .null else .int 0)) := by
      intro q
      rw [ent_o (by omega), hn.1]
      congr 2
      congr 1
      funext k b
      simp [fv, newN, gI, gR, va_rf]
    simp only [hent] at K0
    subst a3
    exact va_new (Ts := u_ws C T (flds c).length) hx hb (fun w hw2 => htb w (a6 w hw2).1 (a6 w hw2).2 args) (fun _ h => h) ty a4 (by rw [ho]; exact hw) (htb _ a7.1 a7.2 args) (htb _ a8.1 a8.2 args) (htb _ a9.1 a9.2 args) hK hP hD hS hA a1 (fun j hj => by
      have hb2 := List.getElem?_eq_getElem hj
      rw [a5 j hj _ hb2]
      simp [vp_V, List.getD_eq_getElem?_getD, List.getElem?_mapIdx, hb2]) hC.1 hC.2 hd K0
  · have e : (mkO n c g).bind F = none := by simp only [mkO, if_neg hn, Option.bind_none]
    exact J.eq e J.none
theorem j_mkI {n : Nm} {len : Int32} {F : Option Nm × Hp → Option (ρ × Hp)} (hd : decode cc pc = .ok (.newarray .int, 2)) (hw0 : Cond.arrayClass .int ∈ lw_tbl) (hp : pr = (mkI n len g).bind F) (kk : ∀ r g1, J y cc nL rt rf rl X g1 (pc + 2) lv (sR r :: st) (F (r, g1))) : J y cc nL rt rf rl X g pc lv (sI len :: st) pr := by
  subst hp
  by_cases hn : (20 ≤ n.1 ∧ n.1 < 60) ∧ n ∉ gL g ∧ ¬ len < 0 ∧ len.toNatClampNeg ≤ 100000
  · have e : (mkI n len g).bind F = F (some n, newN g n len.toNatClampNeg len.toNatClampNeg) := by simp only [mkI, if_pos hn, Option.bind_some]
    refine J.eq e (J.n hn.2.1 (notX_ge hn.1.1) (fun p l e s m args below meth c0 R H locs cells slots Q D cs A ad ls hx hb hw htb hK hE hA hC hP hD hS K0 => ?_) (fun h => h.tail) (kk _ _))
    have hent : ∀ q, ent cs (upn ad n q) (newN g n len.toNatClampNeg len.toNatClampNeg) n = .inl (cs.1, len.toNatClampNeg, .inl (fun _ => 0)) := by
      intro q
      rw [ent_i hn.1.1 hn.1.2]
      simp [newN, gI, gN]
    simp only [hent] at K0
    refine va_newa (atype := .int) (ty := .int) (a0 := (len.toNatClampNeg, .inl (fun _ => 0))) hx hb (htb _ hw0 rfl args) rfl hK hP hD hS hA (fun _ => rfl) hn.2.2.1 rfl (by have := hn.2.2.2; have e : componentBytes FieldType.int = 4 := rfl; rw [e]; omega) hC.1 hC.2 hd (fun q cA H1 k1 k2 k3 k4 => ?_)
    have e1 : va_RA s cs.1 .int := (hK.2 0 _ rfl).2
    have e2 : va_RA s cA .int := (k1.2 3 _ rfl).2
    have e3 : cA = cs.1 := Option.some.inj (e2.symm.trans e1)
    subst e3
    exact K0 q H1 k2 k3 k4
  · have e : (mkI n len g).bind F = none := by simp only [mkI, if_neg hn, Option.bind_none]
    exact J.eq e J.none
theorem j_mkR {own : String} {ix : Nat} {n : Nm} {len : Int32} {F : Option Nm × Hp → Option (ρ × Hp)} (hd : decode cc pc = .ok (.anewarray ix, 3)) (ho : own = y.cls) (hw0 : Cond.classLink own ix "java/lang/Object" ∈ lw_tbl) (hp : pr = (mkR n len g).bind F) (kk : ∀ r g1, J y cc nL rt rf rl X g1 (pc + 3) lv (sR r :: st) (F (r, g1))) : J y cc nL rt rf rl X g pc lv (sI len :: st) pr := by
  subst hp
  by_cases hn : (12 ≤ n.1 ∧ n.1 < 17) ∧ n ∉ gL g ∧ ¬ len < 0 ∧ len.toNatClampNeg ≤ 100000
  · have e : (mkR n len g).bind F = F (some n, newN g n len.toNatClampNeg len.toNatClampNeg) := by simp only [mkR, if_pos hn, Option.bind_some]
    refine J.eq e (J.n hn.2.1 (notX_lt hn.1.2) (fun p l e s m args below meth c0 R H locs cells slots Q D cs A ad ls hx hb hw htb hK hE hA hC hP hD hS K0 => ?_) (fun h => h.tail) (kk _ _))
    have hent : ∀ q, ent cs (upn ad n q) (newN g n len.toNatClampNeg len.toNatClampNeg) n = .inl (cs.2.2, len.toNatClampNeg, .inr (.inr (.inr (.inr (fun _ => none))))) := by
      intro q
      rw [ent_r hn.1.1 hn.1.2]
      simp [newN, gR, gN]
    simp only [hent] at K0
    refine va_newq (own := own) (C := "java/lang/Object") hx hb (by rw [ho]; exact hw) (htb _ hw0 rfl args) hE.2.2.2.1 hK hP hD hS hA hn.2.2.1 rfl (by have := hn.2.2.2; omega) hC.1 hC.2 hd (fun q cA H1 k1 k2 k3 k4 => ?_)
    obtain ⟨_, _, _, _, _, e1⟩ : va_RA s cs.2.2 (.object "java/lang/Object") := (hK.2 2 _ rfl).2
    obtain ⟨_, _, _, _, _, e2⟩ : va_RA s cA (.object "java/lang/Object") := (k1.2 3 _ rfl).2
    have e3 : cA = cs.2.2 := Option.some.inj (e2.symm.trans e1)
    subst e3
    exact K0 q H1 k2 k3 k4
  · have e : (mkR n len g).bind F = none := by simp only [mkR, if_neg hn, Option.bind_none]
    exact J.eq e J.none
end MRU
end
section
/-! stores of references, copies, tests of kinds, what the machine's own library does -/
def oC : Nat → String
  | 0 => "java/util/ArrayList"
  | 1 => "FirstSeconds$Heap"
  | 2 => "FirstSeconds$Pick"
  | 3 => "FirstSeconds$Pick"
  | 4 => "FirstSeconds$Quake"
  | 5 => "FirstSeconds$Row"
  | 6 => "FirstSeconds$Station"
  | 7 => "FirstSeconds$Town"
  | 8 => "FirstSeconds$Travels"
  | 9 => "FirstSeconds"
  | _ => "FirstSeconds"
theorem vwCl_at : ∀ c, c < 11 → ∃ q : vw_C, vwCl[c]? = some q ∧ q.1 = oC c := by
  intro c hc
  rcases (show c = 0 ∨ c = 1 ∨ c = 2 ∨ c = 3 ∨ c = 4 ∨ c = 5 ∨ c = 6 ∨ c = 7 ∨ c = 8 ∨ c = 9 ∨ c = 10 by omega) with e | e | e | e | e | e | e | e | e | e | e <;> subst e <;> exact ⟨_, rfl, by decide +kernel⟩
theorem castO : ∀ c, c < 11 → Cond.castable (oC c) "java/lang/Object" ∈ lw_tbl := by
  intro c hc
  rcases (show c = 0 ∨ c = 1 ∨ c = 2 ∨ c = 3 ∨ c = 4 ∨ c = 5 ∨ c = 6 ∨ c = 7 ∨ c = 8 ∨ c = 9 ∨ c = 10 by omega) with e | e | e | e | e | e | e | e | e | e | e <;> subst e <;> decide +kernel
theorem anyO {cs : ClassId × ClassId × ClassId} {ad : Nm → Nat} {g : Hp} {s : State} {H : Heap} {D : va_G} {n : Nm} (htb : TB s) (hK : va_K D vwCl (tyl cs) s) (hP : va_P D vwCl (wld cs ad g) H) (hn : n ∈ gL g) (hc : n.1 < 11) : va_Any "java/lang/Object" s H (ad n) := by
  obtain ⟨q, hq, he⟩ := wat (cs := cs) (ad := ad) hn
  rw [ent_o hc] at he
  obtain ⟨w, h1, h2⟩ := vwCl_at n.1 hc
  have hcast := htb _ (castO n.1 hc) rfl #[]
  rw [← h2] at hcast
  obtain ⟨a, b, c1, c2, c3⟩ := Cond.castable_spec hcast
  refine va_rAny hK hP he h1 (fun comp c0 e1 e2 => ?_)
  cases e1.symm.trans c2
  cases e2.symm.trans c1
  exact c3
theorem ent_cpI {cs : ClassId × ClassId × ClassId} {ad : Nm → Nat} {g : Hp} {a b m : Nm} {sp dp n : Nat} (h : m ≠ b) : ent cs ad (cpI g a sp b dp n) m = ent cs ad g m := by
  have e1 : gI (cpI g a sp b dp n) m = gI g m := by funext j; simp [cpI, gI, h]
  have e2 : gR (cpI g a sp b dp n) = gR g := rfl
  have e3 : gN (cpI g a sp b dp n) = gN g := rfl
  have e4 : fv ad (cpI g a sp b dp n) m = fv ad g m := by funext j b; simp only [fv, e1, e2]
  simp only [ent, e1, e2, e3, e4]
theorem ent_cpR {cs : ClassId × ClassId × ClassId} {ad : Nm → Nat} {g : Hp} {a b m : Nm} {sp dp n : Nat} (h : m ≠ b) : ent cs ad (cpR g a sp b dp n) m = ent cs ad g m := by
  have e1 : gI (cpR g a sp b dp n) = gI g := rfl
  have e2 : gR (cpR g a sp b dp n) m = gR g m := by funext j; simp [cpR, gR, h]
  have e3 : gN (cpR g a sp b dp n) = gN g := rfl
  have e4 : fv ad (cpR g a sp b dp n) m = fv ad g m := by funext j b; simp only [fv, e1, e2]
  simp only [ent, e1, e2, e3, e4]
theorem cpy_map {α β : Type} (h : α → β) (f g : Nat → α) (sp dp n : Nat) : (fun j => h (va_cpy f g sp dp n j)) = va_cpy (fun j => h (f j)) (fun j => h (g j)) sp dp n := by
  funext j
  simp only [va_cpy]
  split <;> rfl
theorem Cl.cpR {g : Hp} {a b : Nm} {sp dp n : Nat} (h : Cl g) (ha : a ∈ gL g) : Cl (cpR g a sp b dp n) := by
  intro m hm j
  show okr g (if m = b then va_cpy (gR g a) (gR g b) sp dp n j else gR g m j)
  split
  · rename_i e
    subst e
    simp only [va_cpy]
    split
    · exact h a ha _
    · exact h m hm j
  · exact h m hm j
section ORU
variable {ρ : Type} {y : MethodName} {cc : ByteArray} {nL : Nat} {rt : Option FieldType} {rf rl : Nat} {X : Xt ρ} {g : Hp} {pc : Nat} {lv lv' : List (Nat × SV)} {st : List SV} {pr pr2 : Option (ρ × Hp)}
theorem j_astR {r v : Option Nm} {i : Int32} {F : Hp → Option (ρ × Hp)} (hd : decode cc pc = .ok (.aastore, 1)) (hp : pr = (astR r i v g).bind F) (kk : ∀ g1, J y cc nL rt rf rl X g1 (pc + 1) lv st (F g1)) : J y cc nL rt rf rl X g pc lv (sR v :: sI i :: sR r :: st) pr := by
  subst hp
  cases r with
  | none => exact J.none
  | some n =>
    cases v with
    | none => exact J.none
    | some w =>
      by_cases hn : (12 ≤ n.1 ∧ n.1 < 17) ∧ vp_in i (gN g n) ∧ w.1 < 11
      · have e : (astR (some n) i (some w) g).bind F = F (setR g n i.toNatClampNeg (some w)) := by simp only [astR, if_pos hn, Option.bind_some]
        refine J.eq e (J.w (g1 := setR g n i.toNatClampNeg (some w)) (fun p l e s m args below meth c0 R H locs cells slots Q D cs A ad ls hx hb hz hml hw hnm htb hK hE hR hC hP hD hS hol hos K0 => ?_) rfl ⟨rfl, rfl⟩ (fun h0 h => Cl.setR h0 h.head) (fun h => h.tail.tail.tail) (kk _))
        have hwin := okr_in hos.head (Or.inl (by omega))
        obtain ⟨q, hq, he⟩ := wat (cs := cs) (ad := ad) (okr_in hos.tail.tail.head (Or.inl hn.1.2))
        have hset := wset (cs := cs) (ad := ad) (g1 := setR g n i.toNatClampNeg (some w)) hD hq rfl (ent_r hn.1.1 hn.1.2) (fun m hm => ent_setR hm)
        rw [ent_r hn.1.1 hn.1.2] at he
        have e9 : (fun j => (gR (setR g n i.toNatClampNeg (some w)) n j).map ad) = va_up (fun j => (gR g n j).map ad) i.toNatClampNeg (some (ad w)) := by
          funext j
          simp only [setR, gR, va_up]
          by_cases hj : j = i.toNatClampNeg <;> simp [hj]
        have e8 : gN (setR g n i.toNatClampNeg (some w)) n = gN g n := rfl
        rw [e9, e8] at hset
        exact va_astqM hx hb hK hP hD hS q 2 he rfl (anyO htb hK hP hwin hn.2.2) hn.2.1 hd (by rw [← hset] at K0; exact K0)
      · have e : (astR (some n) i (some w) g).bind F = none := by simp only [astR, if_neg hn, Option.bind_none]
        exact J.eq e J.none
def FLA (own : String) (ix : Nat) : Prop := (Cond.methodLink own ix arraycopyName ∈ lw_tbl ∧ okW (Cond.methodLink own ix arraycopyName) = true) ∧ (Cond.native arraycopyName ∈ lw_tbl ∧ okW (Cond.native arraycopyName) = true) ∧ (Cond.static arraycopyName ∈ lw_tbl ∧ okW (Cond.static arraycopyName) = true) ∧ (Cond.initialized "java/lang/System" ∈ lw_tbl ∧ okW (Cond.initialized "java/lang/System") = true)
theorem stm_cat (ad : Nm → Nat) (st : List SV) : ((stm ad st).map fun v => v.category) = st.map sc := by
  simp only [stm, List.map_map]
  exact List.map_congr_left fun v _ => cv_cat ad v
theorem j_cpyI {own : String} {ix : Nat} {a b : Option Nm} {sp dp n : Int32} {F : Hp → Option (ρ × Hp)} (hd : decode cc pc = .ok (.invokestatic ix, 3)) (hF : FLA own ix) (ho : own = y.cls) (hr : 1 ≤ rf ∧ (st.map sc).sum + (nativeFrameWords "java/lang/System" "arraycopy" 5 + 11) ≤ rl) (hp : pr = (cpyI a sp b dp n g).bind F) (kk : ∀ g1, J y cc nL rt rf rl X g1 (pc + 3) lv st (F g1)) : J y cc nL rt rf rl X g pc lv (sI n :: sI dp :: sR b :: sI sp :: sR a :: st) pr := by
  subst hp
  cases a with
  | none => exact J.none
  | some u =>
    cases b with
    | none => exact J.none
    | some v =>
      by_cases hn : ((20 ≤ u.1 ∧ u.1 < 60) ∧ (20 ≤ v.1 ∧ v.1 < 60)) ∧ (¬ sp < 0 ∧ ¬ dp < 0 ∧ ¬ n < 0) ∧ sp.toNatClampNeg + n.toNatClampNeg ≤ gN g u ∧ dp.toNatClampNeg + n.toNatClampNeg ≤ gN g v
      · have e : (cpyI (some u) sp (some v) dp n g).bind F = F (cpI g u sp.toNatClampNeg v dp.toNatClampNeg n.toNatClampNeg) := by simp only [cpyI, if_pos hn, Option.bind_some]
        refine J.eq e (J.w (g1 := cpI g u sp.toNatClampNeg v dp.toNatClampNeg n.toNatClampNeg) (fun p l e s m args below meth c0 R H locs cells slots Q D cs A ad ls hx hb hz hml hw hnm htb hK hE hR hC hP hD hS hol hos K0 => ?_) rfl ⟨rfl, rfl⟩ (fun h0 h => h0) (fun h => h.tail.tail.tail.tail.tail) (kk _))
        have hu := okr_in hos.tail.tail.tail.tail.head (Or.inr hn.1.1.1)
        have hv := okr_in hos.tail.tail.head (Or.inr hn.1.2.1)
        obtain ⟨q, hq, he⟩ := wat (cs := cs) (ad := ad) hv
        obtain ⟨q0, hq0, he0⟩ := wat (cs := cs) (ad := ad) hu
        have hset := wset (cs := cs) (ad := ad) (g1 := cpI g u sp.toNatClampNeg v dp.toNatClampNeg n.toNatClampNeg) hD hq rfl (ent_i hn.1.2.1 hn.1.2.2) (fun m hm => ent_cpI hm)
        rw [ent_i hn.1.2.1 hn.1.2.2] at he
        rw [ent_i hn.1.1.1 hn.1.1.2] at he0
        have e9 : gI (cpI g u sp.toNatClampNeg v dp.toNatClampNeg n.toNatClampNeg) v = va_cpy (gI g u) (gI g v) sp.toNatClampNeg dp.toNatClampNeg n.toNatClampNeg := by
          funext j; simp [cpI, gI]
        have e8 : gN (cpI g u sp.toNatClampNeg v dp.toNatClampNeg n.toNatClampNeg) v = gN g v := rfl
        rw [e9, e8] at hset
        exact va_copyi (own := own) (ty := .int) hx hb (hml.trans hz.symm) (by rw [ho]; exact hw) (htb _ hF.1.1 hF.1.2 args) (htb _ hF.2.1.1 hF.2.1.2 args) (htb _ hF.2.2.1.1 hF.2.2.1.2 args) (htb _ hF.2.2.2.1 hF.2.2.2.2 args) hK hP hD hS q0 q 0 0 he0 he rfl rfl rfl hn.2.1.1 hn.2.1.2.1 hn.2.1.2.2 hn.2.2.1 hn.2.2.2 (fun _ _ => rfl) (by rw [hR.1]; exact hr.1) (by rw [hR.2]; have := hr.2; rw [← stm_cat ad st] at this; exact this) hd (by rw [← hset] at K0; exact K0)
      · have e : (cpyI (some u) sp (some v) dp n g).bind F = none := by simp only [cpyI, if_neg hn, Option.bind_none]
        exact J.eq e J.none
theorem j_cpyR {own : String} {ix : Nat} {a b : Option Nm} {sp dp n : Int32} {F : Hp → Option (ρ × Hp)} (hd : decode cc pc = .ok (.invokestatic ix, 3)) (hF : FLA own ix) (ho : own = y.cls) (hr : 1 ≤ rf ∧ (st.map sc).sum + (nativeFrameWords "java/lang/System" "arraycopy" 5 + 11) ≤ rl) (hp : pr = (cpyR a sp b dp n g).bind F) (kk : ∀ g1, J y cc nL rt rf rl X g1 (pc + 3) lv st (F g1)) : J y cc nL rt rf rl X g pc lv (sI n :: sI dp :: sR b :: sI sp :: sR a :: st) pr := by
  subst hp
  cases a with
  | none => exact J.none
  | some u =>
    cases b with
    | none => exact J.none
    | some v =>
      by_cases hn : ((12 ≤ u.1 ∧ u.1 < 17) ∧ (12 ≤ v.1 ∧ v.1 < 17)) ∧ (¬ sp < 0 ∧ ¬ dp < 0 ∧ ¬ n < 0) ∧ sp.toNatClampNeg + n.toNatClampNeg ≤ gN g u ∧ dp.toNatClampNeg + n.toNatClampNeg ≤ gN g v ∧ (∀ i, i < n.toNatClampNeg → ∀ w, gR g u (sp.toNatClampNeg + i) = some w → w.1 < 11)
      · have e : (cpyR (some u) sp (some v) dp n g).bind F = F (cpR g u sp.toNatClampNeg v dp.toNatClampNeg n.toNatClampNeg) := by simp only [cpyR, if_pos hn, Option.bind_some]
        refine J.eq e (J.wc (g1 := cpR g u sp.toNatClampNeg v dp.toNatClampNeg n.toNatClampNeg) (fun p l e s m args below meth c0 R H locs cells slots Q D cs A ad ls hx hb hz hml hw hnm htb hK hE hR hC hP hD hS hol hos h0 K0 => ?_) rfl ⟨rfl, rfl⟩ (fun h0 h => Cl.cpR h0 (okr_in h.tail.tail.tail.tail.head (Or.inl hn.1.1.2))) (fun h => h.tail.tail.tail.tail.tail) (kk _))
        have hu := okr_in hos.tail.tail.tail.tail.head (Or.inl hn.1.1.2)
        have hv := okr_in hos.tail.tail.head (Or.inl hn.1.2.2)
        obtain ⟨q, hq, he⟩ := wat (cs := cs) (ad := ad) hv
        obtain ⟨q0, hq0, he0⟩ := wat (cs := cs) (ad := ad) hu
        have hset := wset (cs := cs) (ad := ad) (g1 := cpR g u sp.toNatClampNeg v dp.toNatClampNeg n.toNatClampNeg) hD hq rfl (ent_r hn.1.2.1 hn.1.2.2) (fun m hm => ent_cpR hm)
        rw [ent_r hn.1.2.1 hn.1.2.2] at he
        rw [ent_r hn.1.1.1 hn.1.1.2] at he0
        have e9 : (fun j => (gR (cpR g u sp.toNatClampNeg v dp.toNatClampNeg n.toNatClampNeg) v j).map ad) = va_cpy (fun j => (gR g u j).map ad) (fun j => (gR g v j).map ad) sp.toNatClampNeg dp.toNatClampNeg n.toNatClampNeg := by
          rw [← cpy_map (fun r : Option Nm => r.map ad)]
          funext j; simp [cpR, gR]
        have e8 : gN (cpR g u sp.toNatClampNeg v dp.toNatClampNeg n.toNatClampNeg) v = gN g v := rfl
        rw [e9, e8] at hset
        refine va_copyM (own := own) (E1 := "java/lang/Object") hx hb (hml.trans hz.symm) (by rw [ho]; exact hw) (htb _ hF.1.1 hF.1.2 args) (htb _ hF.2.1.1 hF.2.1.2 args) (htb _ hF.2.2.1.1 hF.2.2.1.2 args) (htb _ hF.2.2.2.1 hF.2.2.2.2 args) hK hP hD hS q0 q 2 2 he0 he rfl rfl hn.2.1.1 hn.2.1.2.1 hn.2.1.2.2 hn.2.2.1 hn.2.2.2.1 (fun i hi z hz2 => ?_) (by rw [hR.1]; exact hr.1) (by rw [hR.2]; have := hr.2; rw [← stm_cat ad st] at this; exact this) hd (by rw [← hset] at K0; exact K0)
        cases hw2 : gR g u (sp.toNatClampNeg + i) with
        | none => rw [hw2] at hz2; cases hz2
        | some w =>
          rw [hw2] at hz2
          cases hz2
          have hc := hn.2.2.2.2 i hi w hw2
          exact anyO htb hK hP ((h0 u hu _ w hw2).elim (fun z => z) (fun z => absurd z (notX_lt (by omega)))) hc
      · have e : (cpyR (some u) sp (some v) dp n g).bind F = none := by simp only [cpyR, if_neg hn, Option.bind_none]
        exact J.eq e J.none
end ORU
end
section
/-! the empty row of the lists, kinds, casts, switches, Math -/
def gclas (r : Option Nm) : Option (Option Nm) := match r with
  | some n => if 12 ≤ n.1 ∧ n.1 < 17 then some (some (19, 0)) else none
  | none => none
def nnl {α : Type} (r : Option Nm) (pr : Option α) : Option α := match r with
  | some _ => pr
  | none => none
def imax (x z : Int32) : Int32 := if x < z then z else x
def imin (x z : Int32) : Int32 := if z < x then z else x
def iabs (x : Int32) : Int32 := if 0 ≤ x then x else 0 - x
def tsw {α : Type} (x : Int32) : List Int32 → List (Option α) → Option α → Option α
  | k :: ks, a :: as, d => if x = k then a else tsw x ks as d
  | _, _, d => d
def FLM (own : String) (ix : Nat) (nm : MethodName) (cd : ByteArray) (n : Nat) : Prop := (Cond.methodLink own ix nm ∈ lw_tbl ∧ okW (Cond.methodLink own ix nm) = true) ∧ (Cond.static nm ∈ lw_tbl ∧ okW (Cond.static nm) = true) ∧ (Cond.initialized "java/lang/Math" ∈ lw_tbl ∧ okW (Cond.initialized "java/lang/Math") = true) ∧ (Cond.code nm cd n (some .int) ∈ lw_tbl ∧ okW (Cond.code nm cd n (some .int)) = true)
def FLI (own : String) (ix : Nat) : Prop := (Cond.methodLink own ix objectInit ∈ lw_tbl ∧ okW (Cond.methodLink own ix objectInit) = true) ∧ (Cond.instanceMethod objectInit ∈ lw_tbl ∧ okW (Cond.instanceMethod objectInit) = true) ∧ (Cond.code objectInit ⟨#[0xb1]⟩ 1 none ∈ lw_tbl ∧ okW (Cond.code objectInit ⟨#[0xb1]⟩ 1 none) = true)
def gcN : MethodName := ⟨"java/lang/Object", "getClass", "()Ljava/lang/Class;"⟩
def FLG (own : String) (ix : Nat) : Prop := (Cond.methodLink own ix gcN ∈ lw_tbl ∧ okW (Cond.methodLink own ix gcN) = true) ∧ (Cond.selects "[Ljava/lang/Object;" gcN gcN ∈ lw_tbl ∧ okW (Cond.selects "[Ljava/lang/Object;" gcN gcN) = true) ∧ (Cond.instanceMethod gcN ∈ lw_tbl ∧ okW (Cond.instanceMethod gcN) = true) ∧ (Cond.native gcN ∈ lw_tbl ∧ okW (Cond.native gcN) = true)
section XRU
variable {ρ : Type} {y : MethodName} {cc : ByteArray} {nL : Nat} {rt : Option FieldType} {rf rl : Nat} {X : Xt ρ} {g : Hp} {pc : Nat} {lv lv' : List (Nat × SV)} {st : List SV} {pr pr2 : Option (ρ × Hp)}
def allJ {ρ : Type} (y : MethodName) (cc : ByteArray) (nL : Nat) (rt : Option FieldType) (rf rl : Nat) (X : Xt ρ) (g : Hp) (lv : List (Nat × SV)) (st : List SV) : List Nat → List (Option (ρ × Hp)) → Prop
  | t :: ts, a :: as => J y cc nL rt rf rl X g t lv st a ∧ allJ y cc nL rt rf rl X g lv st ts as
  | [], [] => True
  | _, _ => False
theorem allJ_at : ∀ (ts : List Nat) (as : List (Option (ρ × Hp))) (ks : List Int32) (D : Option (ρ × Hp)) (x : Int32), allJ y cc nL rt rf rl X g lv st ts as → ks.length = ts.length → (∃ j : Nat, ks[j]? = some x ∧ (∀ i : Nat, i < j → ks[i]? ≠ some x) ∧ ∃ t, ts[j]? = some t ∧ J y cc nL rt rf rl X g t lv st (tsw x ks as D)) ∨ ((∀ k ∈ ks, x ≠ k) ∧ tsw x ks as D = D)
  | [], [], ks, D, x, _, hl => by
    have : ks = [] := List.length_eq_zero_iff.mp hl
    subst this
    exact Or.inr ⟨fun _ h => absurd h List.not_mem_nil, rfl⟩
  | [], _ :: _, _, _, _, h, _ => h.elim
  | _ :: _, [], _, _, _, h, _ => h.elim
  | t :: ts, a :: as, ks, D, x, h, hl => by
    cases ks with
    | nil => simp at hl
    | cons k ks =>
      by_cases hx : x = k
      · refine Or.inl ⟨0, by simp [hx], fun i hi => absurd hi (Nat.not_lt_zero i), t, rfl, ?_⟩
        have e : tsw x (k :: ks) (a :: as) D = a := by simp [tsw, hx]
        rw [e]
        exact h.1
      · have e : tsw x (k :: ks) (a :: as) D = tsw x ks as D := by simp [tsw, hx]
        rw [e]
        rcases allJ_at ts as ks D x h.2 (by simpa using hl) with ⟨j, h1, h2, t', h3, h4⟩ | ⟨h1, h2⟩
        · refine Or.inl ⟨j + 1, by simpa using h1, fun i hi => ?_, t', by simpa using h3, h4⟩
          cases i with
          | zero => simpa using fun q : k = x => hx q.symm
          | succ i => simpa using h2 i (by omega)
        · exact Or.inr ⟨fun k' hk => (List.mem_cons.mp hk).elim (fun q => q ▸ hx) (h1 k'), h2⟩
theorem j_tsw {dflt lo hi : Int} {offs : Array Int} {len td : Nat} {x : Int32} {ks : List Int32} {ts : List Nat} {as : List (Option (ρ × Hp))} {D : Option (ρ × Hp)} (hd : decode cc pc = .ok (.tableswitch dflt lo hi offs, len)) (h1 : ks.map (fun k => k.toInt) = (List.range ks.length).map (fun j : Nat => lo + (j : Int))) (h2 : hi = lo + (ks.length : Int) - 1) (h3 : offs.toList.map (fun o => (pc : Int) + o) = ts.map (fun t : Nat => (t : Int))) (h4 : ks.length = ts.length) (h5 : (pc : Int) + dflt = (td : Int)) (hp : pr = tsw x ks as D) (kD : J y cc nL rt rf rl X g td lv st D) (kk : allJ y cc nL rt rf rl X g lv st ts as) : J y cc nL rt rf rl X g pc lv (sI x :: st) pr := by
  subst hp
  have hkey : ∀ j, j < ks.length → ∀ k, ks[j]? = some k → k.toInt = lo + (j : Int) := by
    intro j hj k hk
    have e := congrArg (fun l : List Int => l[j]?) h1
    have hk2 := (List.getElem?_eq_some_iff.mp hk).2
    simpa [List.getElem?_map, hk2, hj] using e
  rcases allJ_at ts as ks D x kk h4 with ⟨j, a1, a2, t, a3, a4⟩ | ⟨a1, a2⟩
  · refine J.s (pc' := t) (st' := st) (fun _ _ _ _ _ _ _ _ _ _ _ _ _ _ _ ad ls hx hb hw htb hl K0 => ?_) (fun _ h => h.tail) a4
    have hj : j < ks.length := (List.getElem?_eq_some_iff.mp a1).1
    have hv := hkey j hj x a1
    have ho : offs[j]? = some ((t : Int) - pc) := by
      have e := congrArg (fun l : List Int => l[j]?) h3
      simp only [List.getElem?_map, a3, Option.map_some, Array.getElem?_toList] at e
      cases hq : offs[j]? with
      | none => rw [hq] at e; cases e
      | some o => rw [hq] at e; simp at e; congr 1; omega
    exact lv_tableIn (off := (t : Int) - pc) (tgt := t) hx hb hd (by omega) (by omega) (by rw [hv]; have : (lo + (j : Int) - lo).toNat = j := by omega
                                                                                           rw [this]; exact ho) (by omega) K0
  · rw [a2]
    refine J.s (pc' := td) (st' := st) (fun _ _ _ _ _ _ _ _ _ _ _ _ _ _ _ ad ls hx hb hw htb hl K0 => ?_) (fun _ h => h.tail) kD
    refine lv_tableOut hx hb hd ?_ h5 K0
    by_cases q1 : x.toInt < lo
    · exact Or.inl q1
    · right
      by_cases q2 : hi < x.toInt
      · exact q2
      · exfalso
        have hj : (x.toInt - lo).toNat < ks.length := by omega
        have hk := List.getElem?_eq_getElem hj
        have hv := hkey _ hj _ hk
        have : x = ks[(x.toInt - lo).toNat] := Int32.toInt_inj.mp (by rw [hv]; omega)
        exact a1 _ (List.getElem_mem hj) this
theorem j_gdef {own : String} {ix : Nat} (hd : decode cc pc = .ok (.getstatic ix, 3)) (ho : own = y.cls) (hw0 : Cond.fieldLink own ix "java/util/ArrayList" "DEFAULTCAPACITY_EMPTY_ELEMENTDATA" "[Ljava/lang/Object;" ∈ lw_tbl) (k : J y cc nL rt rf rl X g (pc + 3) lv (sR (some (17, 0)) :: st) pr) : J y cc nL rt rf rl X g pc lv st pr :=
  J.r (fun p l e s m args below meth c0 R H locs cells slots Q D cs A ad ls hx hb hz hml hw htb hK hE hR hC hP hD hS hol hos K0 => va_gets (own := own) hx hb hE.1 hS (by rw [ho]; exact hw) (htb _ hw0 rfl args) (fun _ h => h) hd K0) (fun _ h => h.cons (v := sR (some (17, 0))) (fun n hn => by cases hn; exact Or.inr (Or.inl rfl))) k
theorem j_ldcC {own : String} {ix : Nat} (hd : decode cc pc = .ok (.ldc ix, 2)) (ho : own = y.cls) (hw0 : Cond.classLink own ix "[Ljava/lang/Object;" ∈ lw_tbl) (k : J y cc nL rt rf rl X g (pc + 2) lv (sR (some (19, 0)) :: st) pr) : J y cc nL rt rf rl X g pc lv st pr :=
  J.r (fun p l e s m args below meth c0 R H locs cells slots Q D cs A ad ls hx hb hz hml hw htb hK hE hR hC hP hD hS hol hos K0 => va_ldcM (own := own) hx hb (by rw [ho]; exact hw) (htb _ hw0 rfl args) hE.2.2.1 hd K0) (fun _ h => h.cons (v := sR (some (19, 0))) (fun n hn => by cases hn; exact Or.inr (Or.inr (Or.inr rfl)))) k
theorem j_gclas {own : String} {ix : Nat} {r : Option Nm} {F : Option Nm → Option (ρ × Hp)} (hd : decode cc pc = .ok (.invokevirtual ix, 3)) (hF : FLG own ix) (ho : own = y.cls) (hr : 1 ≤ rf ∧ (st.map sc).sum + 14 ≤ rl) (hp : pr = (gclas r).bind F) (kk : ∀ x, J y cc nL rt rf rl X g (pc + 3) lv (sR x :: st) (F x)) : J y cc nL rt rf rl X g pc lv (sR r :: st) pr := by
  subst hp
  cases r with
  | none => exact J.none
  | some n =>
    by_cases hn : 12 ≤ n.1 ∧ n.1 < 17
    · have e : (gclas (some n)).bind F = F (some (19, 0)) := by simp [gclas, hn]
      refine J.eq e (J.r (fun p l e s m args below meth c0 R H locs cells slots Q D cs A ad ls hx hb hz hml hw htb hK hE hR hC hP hD hS hol hos K0 => ?_) (fun _ h => h.tail.cons (v := sR (some (19, 0))) (fun n hn => by cases hn; exact Or.inr (Or.inr (Or.inr rfl)))) (kk _))
      obtain ⟨q, hq, he⟩ := wat (cs := cs) (ad := ad) (okr_in hos.head (Or.inl hn.2))
      rw [ent_r hn.1 hn.2] at he
      obtain ⟨_, _, _, _, _, e1⟩ : va_RA s cs.2.2 (.object "java/lang/Object") := (hK.2 2 _ rfl).2
      refine va_getC (own := own) (C := "[Ljava/lang/Object;") hx hb (hml.trans hz.symm) (by rw [ho]; exact hw) (htb _ hF.1.1 hF.1.2 args) (va_Dc.use hE.2.2.2.2) (htb _ hF.2.1.1 hF.2.1.2 args) (htb _ hF.2.2.1.1 hF.2.2.1.2 args) (htb _ hF.2.2.2.1 hF.2.2.2.2 args) hE.2.2.1 ⟨_, hP q _ he, rfl, ?_⟩ (by rw [hR.1]; exact hr.1) (by rw [hR.2]; have := hr.2; rw [← stm_cat ad st] at this; exact this) hd K0
      exact e1
    · have e : (gclas (some n)).bind F = none := by simp [gclas, hn]
      exact J.eq e J.none
theorem j_cst {own : String} {ix c : Nat} {r : Option Nm} {P : Option (ρ × Hp)} (hd : decode cc pc = .ok (.checkcast ix, 3)) (ho : own = y.cls) (hc : c < 11) (hw0 : Cond.classLink own ix (oC c) ∈ lw_tbl) (hp : pr = cst r c P) (kk : J y cc nL rt rf rl X g (pc + 3) lv (sR r :: st) P) : J y cc nL rt rf rl X g pc lv (sR r :: st) pr := by
  subst hp
  cases r with
  | none => exact J.s (fun _ _ _ _ _ _ _ _ _ _ _ _ _ _ _ ad ls hx hb hw htb hl K0 => lv_castN hx hb hd K0) (fun _ h => h) kk
  | some n =>
    by_cases hn : n.1 = c
    · have e : cst (some n) c P = P := by simp [cst, hn]
      refine J.eq e (J.r (fun p l e s m args below meth c0 R H locs cells slots Q D cs A ad ls hx hb hz hml hw htb hK hE hR hC hP hD hS hol hos K0 => ?_) (fun _ h => h) kk)
      obtain ⟨w, a1, a2⟩ := vwCl_at c hc
      obtain ⟨q, hq, he⟩ := wat (cs := cs) (ad := ad) (okr_in hos.head (Or.inl (by omega)))
      rw [ent_o (by omega), hn] at he
      have h3 := va_recv hK hP a1 he
      rw [a2] at h3
      have h4 := (hK.1 c w a1).2
      rw [a2] at h4
      exact va_castS (own := own) hx hb (by rw [ho]; exact hw) (htb _ hw0 rfl args) h4 h3 hd K0
    · have e : cst (some n) c P = none := by simp [cst, hn]
      exact J.eq e J.none
theorem j_csA {own : String} {ix : Nat} {r : Option Nm} {P : Option (ρ × Hp)} (hd : decode cc pc = .ok (.checkcast ix, 3)) (ho : own = y.cls) (hw0 : Cond.classLink own ix "[Ljava/lang/Object;" ∈ lw_tbl) (hp : pr = csA r P) (kk : J y cc nL rt rf rl X g (pc + 3) lv (sR r :: st) P) : J y cc nL rt rf rl X g pc lv (sR r :: st) pr := by
  subst hp
  cases r with
  | none => exact J.none
  | some n =>
    by_cases hn : 12 ≤ n.1 ∧ n.1 < 17
    · have e : csA (some n) P = P := by simp [csA, hn]
      refine J.eq e (J.r (fun p l e s m args below meth c0 R H locs cells slots Q D cs A ad ls hx hb hz hml hw htb hK hE hR hC hP hD hS hol hos K0 => ?_) (fun _ h => h) kk)
      obtain ⟨q, hq, he⟩ := wat (cs := cs) (ad := ad) (okr_in hos.head (Or.inl hn.2))
      rw [ent_r hn.1 hn.2] at he
      obtain ⟨_, _, _, _, _, e1⟩ : va_RA s cs.2.2 (.object "java/lang/Object") := (hK.2 2 _ rfl).2
      exact va_castA (own := own) (nm := "[Ljava/lang/Object;") hx hb (by rw [ho]; exact hw) (htb _ hw0 rfl args) hP q he e1 hd K0
    · have e : csA (some n) P = none := by simp [csA, hn]
      exact J.eq e J.none
theorem acm_ne {cs : ClassId × ClassId × ClassId} {ad : Nm → Nat} {A : Nat → Prop} {s : State} (hD : va_D A (wld cs ad g)) (hE : EX ad A s s.heap) {r q : Option Nm} (h : r ≠ q) (hr : ∀ n, r = some n → n ∈ gL g ∨ n = (17, 0)) (hq : ∀ n, q = some n → n ∈ gL g ∨ n = (17, 0)) : r.map ad ≠ q.map ad := by
  have hnA : ¬ A (ad (17, 0)) := by
    obtain ⟨f, cell, _, _, _, _, _, _, h7⟩ := hE.2.1
    exact h7
  have hin : ∀ n, n ∈ gL g → A (ad n) := fun n hn => by
    obtain ⟨k, _, he⟩ := wat (cs := cs) (ad := ad) hn
    exact hD.2 k _ he
  cases r with
  | none => cases q with
    | none => exact absurd rfl h
    | some m => exact fun e => by cases e
  | some n => cases q with
    | none => exact fun e => by cases e
    | some m =>
      intro e
      have e2 : ad n = ad m := by simpa using e
      rcases hr n rfl with h1 | h1 <;> rcases hq m rfl with h2 | h2
      · exact h (by rw [winj hD h1 h2 e2])
      · exact hnA (by rw [← h2, ← e2]; exact hin n h1)
      · exact hnA (by rw [← h1, e2]; exact hin m h2)
      · exact h (by rw [h1, h2])
theorem j_acmp_ne {r q : Option Nm} {off : Int} {tgt : Nat} {a b : Option (ρ × Hp)} (hd : decode cc pc = .ok (.if_acmp .ne off, 3)) (ht : (pc : Int) + off = (tgt : Int)) (hp : pr = acm r q g b a) (kt : J y cc nL rt rf rl X g tgt lv st a) (kf : J y cc nL rt rf rl X g (pc + 3) lv st b) : J y cc nL rt rf rl X g pc lv (sR q :: sR r :: st) pr := by
  subst hp
  by_cases h1 : r = q
  · have e : acm r q g b a = b := by simp only [acm, if_pos h1]
    refine J.eq e (J.s (fun _ _ _ _ _ _ _ _ _ _ _ _ _ _ _ ad ls hx hb hw htb hl K0 => ?_) (fun _ h => h.tail.tail) kf)
    exact lv_acmp_ne hx hb hd ht (fun z => absurd (by rw [h1]) z) (fun _ => K0)
  · by_cases h2 : (∀ n, r = some n → n ∈ gL g ∨ n = (17, 0)) ∧ (∀ n, q = some n → n ∈ gL g ∨ n = (17, 0))
    · have e : acm r q g b a = a := by simp only [acm, if_neg h1, if_pos h2]
      refine J.eq e (J.r (fun p l e s m args below meth c0 R H locs cells slots Q D cs A ad ls hx hb hz hml hw htb hK hE hR hC hP hD hS hol hos K0 => ?_) (fun _ h => h.tail.tail) kt)
      exact lv_acmp_ne hx hb hd ht (fun _ => K0) (fun z => absurd z (acm_ne hD hE h1 h2.1 h2.2))
    · have e : acm r q g b a = none := by simp only [acm, if_neg h1, if_neg h2]
      exact J.eq e J.none
theorem j_oinit {own : String} {ix : Nat} {r : Option Nm} {P : Option (ρ × Hp)} (hd : decode cc pc = .ok (.invokespecial ix, 3)) (hF : FLI own ix) (ho : own = y.cls) (hr : 1 ≤ rf ∧ (st.map sc).sum + 12 ≤ rl) (hp : pr = nnl r P) (kk : J y cc nL rt rf rl X g (pc + 3) lv st P) : J y cc nL rt rf rl X g pc lv (sR r :: st) pr := by
  subst hp
  cases r with
  | none => exact J.none
  | some n =>
    refine J.r (fun p l e s m args below meth c0 R H locs cells slots Q D cs A ad ls hx hb hz hml hw htb hK hE hR hC hP hD hS hol hos K0 => ?_) (fun _ h => h.tail) kk
    refine W.objInit (own := own) hx hb (by rw [ho]; exact hw) (htb _ hF.1.1 hF.1.2 args) (htb _ hF.2.1.1 hF.2.1.2 args) (htb _ hF.2.2.1 hF.2.2.2 args) rfl (hz.trans hml.symm) (a := ad n) (rest := stm ad st) rfl hd (by rw [hR.1]; exact hr.1) ?_ K0
    rw [hR.2]
    have := hr.2
    rw [← stm_cat ad st] at this
    have e : (F0 m pc ls (Value.ref (ad n) :: stm ad st)).monitorRoom = 0 := rfl
    show 2 * (F0 m pc ls (Value.ref (ad n) :: stm ad st)).monitorRoom + _ + 12 ≤ rl
    rw [e]
    omega
theorem j_max {own : String} {ix : Nat} {x z : Int32} (hd : decode cc pc = .ok (.invokestatic ix, 3)) (hF : FLM own ix Lib.Math.max.name Lib.Math.max.code 2) (ho : own = y.cls) (hr : 1 ≤ rf ∧ (st.map sc).sum + 13 ≤ rl) (kk : J y cc nL rt rf rl X g (pc + 3) lv (sI (imax x z) :: st) pr) : J y cc nL rt rf rl X g pc lv (sI z :: sI x :: st) pr :=
  J.r (fun p l e s m args below meth c0 R H locs cells slots Q D cs A ad ls hx hb hz hml hw htb hK hE hR hC hP hD hS hol hos K0 => va_mmax (own := own) hx hb (hml.trans hz.symm) (by rw [ho]; exact hw) (htb _ hF.1.1 hF.1.2 args) (htb _ hF.2.1.1 hF.2.1.2 args) (htb _ hF.2.2.1.1 hF.2.2.1.2 args) (htb _ hF.2.2.2.1 hF.2.2.2.2 args) (by rw [hR.1]; exact hr.1) (by rw [hR.2]; have := hr.2; rw [← stm_cat ad st] at this; exact this) hC.1 hC.2 hd K0) (fun _ h => h.tail.tail.ci) kk
theorem j_min {own : String} {ix : Nat} {x z : Int32} (hd : decode cc pc = .ok (.invokestatic ix, 3)) (hF : FLM own ix Lib.Math.min.name Lib.Math.min.code 2) (ho : own = y.cls) (hr : 1 ≤ rf ∧ (st.map sc).sum + 13 ≤ rl) (kk : J y cc nL rt rf rl X g (pc + 3) lv (sI (imin x z) :: st) pr) : J y cc nL rt rf rl X g pc lv (sI z :: sI x :: st) pr :=
  J.r (fun p l e s m args below meth c0 R H locs cells slots Q D cs A ad ls hx hb hz hml hw htb hK hE hR hC hP hD hS hol hos K0 => va_mmin (own := own) hx hb (hml.trans hz.symm) (by rw [ho]; exact hw) (htb _ hF.1.1 hF.1.2 args) (htb _ hF.2.1.1 hF.2.1.2 args) (htb _ hF.2.2.1.1 hF.2.2.1.2 args) (htb _ hF.2.2.2.1 hF.2.2.2.2 args) (by rw [hR.1]; exact hr.1) (by rw [hR.2]; have := hr.2; rw [← stm_cat ad st] at this; exact this) hC.1 hC.2 hd K0) (fun _ h => h.tail.tail.ci) kk
theorem j_abs {own : String} {ix : Nat} {x : Int32} (hd : decode cc pc = .ok (.invokestatic ix, 3)) (hF : FLM own ix Lib.Math.abs.name Lib.Math.abs.code 1) (ho : own = y.cls) (hr : 1 ≤ rf ∧ (st.map sc).sum + 13 ≤ rl) (kk : J y cc nL rt rf rl X g (pc + 3) lv (sI (iabs x) :: st) pr) : J y cc nL rt rf rl X g pc lv (sI x :: st) pr :=
  J.r (fun p l e s m args below meth c0 R H locs cells slots Q D cs A ad ls hx hb hz hml hw htb hK hE hR hC hP hD hS hol hos K0 => va_mabs (own := own) hx hb (hml.trans hz.symm) (by rw [ho]; exact hw) (htb _ hF.1.1 hF.1.2 args) (htb _ hF.2.1.1 hF.2.1.2 args) (htb _ hF.2.2.1.1 hF.2.2.1.2 args) (htb _ hF.2.2.2.1 hF.2.2.2.2 args) (by rw [hR.1]; exact hr.1) (by rw [hR.2]; have := hr.2; rw [← stm_cat ad st] at this; exact this) hC.1 hC.2 hd K0) (fun _ h => h.tail.ci) kk
end XRU
end
section
/-! contracts, calls, ends -/
def PcF (D : va_G) (cs : ClassId × ClassId × ClassId) (ad : Nm → Nat) (g : Hp) (sz : Nat) : State → Prop := fun U => U.heap.size = sz ∧ va_P D vwCl (wld cs ad g) U.heap ∧ va_D (fun _ => True) (wld cs ad g) ∧ va_K D vwCl (tyl cs) U ∧ TB U ∧ EX ad (va_A (wld cs ad g) sz) U U.heap
def QcF {ρ : Type} (D : va_G) (cs : ClassId × ClassId × ClassId) (ad : Nm → Nat) (g : Hp) (A : Nat → Prop) (ret : ρ → Option SV) (r : ρ) (g1 : Hp) : Array Value → State → Outcome → State → Prop := fun _ st o t =>
  (∃ ad1, o = .returned ((ret r).map (cv ad1)) ∧ (∀ v, ret r = some v → okv g1 v) ∧ Cl g1 ∧ Ag g ad ad1 ∧ va_P D vwCl (wld cs ad1 g1) t.heap ∧ va_D A (wld cs ad1 g1)) ∧ va_F A st t
/-- what a method does: where its function has an answer, the method gives it -/
def FM {ρ : Type} (y : MethodName) (cc : ByteArray) (nL : Nat) (rt : Option FieldType) (rf rl : Nat) (ret : ρ → Option SV) (as : List SV) (g : Hp) (pr : Option (ρ × Hp)) : Prop :=
  ∀ (r : ρ) (g1 : Hp), pr = some (r, g1) → (Program × Launch × Env × State × MethodId × Array Value × List Frame × Method × Code → Mn g g1) ∧ ∀ (l : Launch) (D : va_G) (cs : ClassId × ClassId × ClassId) (ad : Nm → Nat) (sz : Nat), oks g as → Cl g →
    Met l y [Cond.code y cc nL rt] { frames := rf, cells := gc g1 - gc g, slots := gs g1 - gs g, locals := rl } (va_Pc (stm ad as) (PcF D cs ad g sz)) (QcF D cs ad g (va_A (wld cs ad g) sz) ret r g1) (gc g1 - gc g) (gs g1 - gs g) (va_A (wld cs ad g) sz)
abbrev rtI : Int32 → Option SV := fun x => some (sI x)
abbrev rtL : Int64 → Option SV := fun x => some (sL x)
abbrev rtR : Option Nm → Option SV := fun x => some (sR x)
abbrev rtV : Unit → Option SV := fun _ => none
def IsM {ρ : Type} (ret : ρ → Option SV) (X : Xt ρ) : Prop := match X with
  | ((_, _, _, s, _, args, below, _, _), (D, cs, A), ad0, g0, RF, QF) => (∀ r g1, QF r g1 = MQ below (QcF D cs ad0 g0 A ret r g1) args s (gc g1 - gc g0) (gs g1 - gs g0) A)
def lva : Nat → List SV → List (Nat × SV)
  | _, [] => []
  | i, v :: vs => (i, v) :: lva (i + sc v) vs
theorem lva_lv (ad : Nm → Nat) : ∀ (as : List SV) (i : Nat), lv_args i (stm ad as) = lvm ad (lva i as)
  | [], _ => rfl
  | v :: vs, i => by
    have := lva_lv ad vs (i + sc v)
    show (i, cv ad v) :: lv_args (if (cv ad v).category = 2 then i + 2 else i + 1) (stm ad vs) = (i, cv ad v) :: lvm ad (lva (i + sc v) vs)
    rw [cv_cat, ← this]
    rcases v with x | x | x <;> simp [sc]
theorem lg_len (ad : Nm → Nat) : ∀ (as : List SV), (lg_sl (stm ad as)).length = (as.map sc).sum
  | [] => rfl
  | v :: vs => by
    have ih := lg_len ad vs
    have e : lg_sl (stm ad (v :: vs)) = (if (cv ad v).category = 2 then [.val (cv ad v), .second] else [.val (cv ad v)]) ++ lg_sl (stm ad vs) := rfl
    rw [e, List.length_append, ih, cv_cat]
    rcases v with x | x | x <;> simp [sc]
theorem va_D.freeA {cs : ClassId × ClassId × ClassId} {ad : Nm → Nat} {g : Hp} {A : Nat → Prop} {z sz : Nat} (hD : va_D A (wld cs ad g)) (hA : ∀ q : Nat, z ≤ q → A q) (hz : z ≤ sz) : ∀ q, va_A (wld cs ad g) sz q → A q := by
  rintro q (⟨k, e, h⟩ | h)
  · exact hD.2 k _ h
  · exact hA q (Nat.le_trans hz h)
theorem FM.entry {ρ : Type} {y : MethodName} {cc : ByteArray} {nL : Nat} {rt : Option FieldType} {rf rl : Nat} {ret : ρ → Option SV} {as : List SV} {g : Hp} {pr : Option (ρ × Hp)} (hy : plainName y.cls = true) (hn : (as.map sc).sum ≤ nL) (hJ : ∀ X : Xt ρ, IsM ret X → J y cc nL rt rf rl X g 0 (lva 0 as) [] pr) : FM y cc nL rt rf rl ret as g pr := by
  intro r g1 h
  refine ⟨fun b => (hJ (b, ((fun _ => 0, fun _ _ => 0), (0, 0, 0), fun _ => True), (fun _ => 0), g, (fun _ => { frames := 0, cells := 0, slots := 0, locals := 0 }), (fun r g1 => MQ b.2.2.2.2.2.2.1 (QcF (fun _ => 0, fun _ _ => 0) (0, 0, 0) (fun _ => 0) g (fun _ => True) ret r g1) b.2.2.2.2.2.1 b.2.2.2.1 (gc g1 - gc g) (gs g1 - gs g) (fun _ => True))) (fun _ _ => rfl) r g1 h).1, fun l D cs ad sz hok hcl => ?_⟩
  refine Met.ofW (cc := cc) (maxL := nL) (ret := rt) hy rfl ?_
  intro p e s m args below meth c s₁ B hml hv
  obtain ⟨rfl, hsz, hP, hD0, hK, hTB, hE⟩ := hv
  subst hsz
  have hown : s.vm.findClass y.cls = some m.cls := findClass_of_methodNamed B.named
  have hl := lv_entry (stm ad as) (n := nL) (by rw [lg_len]; exact hn)
  rw [lg_entry_eq]
  generalize (lg_sl (stm ad as) ++ List.replicate (nL - (lg_sl (stm ad as)).length) Slot.unset).toArray = ls at hl ⊢
  rw [lva_lv] at hl
  let A := va_A (wld cs ad g) s.heap.size
  let RF : Hp → Room := fun g1 => { frames := rf, cells := gc g1 - gc g, slots := gs g1 - gs g, locals := rl }
  let QF : ρ → Hp → State → Prop := fun r g1 => MQ below (QcF D cs ad g A ret r g1) (stm ad as).toArray s (gc g1 - gc g) (gs g1 - gs g) A
  have hk := (hJ ((p, l, e, s, m, (stm ad as).toArray, below, meth, c), (D, cs, A), ad, g, RF, QF) (fun _ _ => rfl) r g1 h).2 ⟨B.exec, B.bytes, hml, hown, B.returns, B.notSynchronized, fun hq => (name_of_methodNamed B.named B.method).1.trans hq, hTB, hK, fun q hq => Or.inr hq, hE, fun _ => ⟨rfl, rfl⟩⟩ (Mn.rf g) ⟨Nat.le_refl _, Nat.le_refl _⟩ ad s.heap [] ls (fun _ _ => rfl) hP hD0.self va_S.rf hl (fun q hq => by
    have : ∀ (as : List SV) (i : Nat), oks g as → ∀ q ∈ lva i as, okv g q.2 := by
      intro as
      induction as with
      | nil => intro i _ q hq; cases hq
      | cons v vs ih => intro i ho q hq; rcases List.mem_cons.mp hq with e | e
                        · subst e; exact ho.head
                        · exact ih _ ho.tail q e
    exact this as 0 hok q hq) (fun v hv => by cases hv) hcl
  rw [Nat.sub_self, Nat.sub_self] at hk
  exact hk
end
section
/-! calls -/
def okC (y : MethodName) (np : Nat) : Prop := (y.cls ≠ "java/lang/invoke/MethodHandle" ∧ y.cls ≠ "java/lang/invoke/VarHandle") ∧ (parseMethodDescriptor y.desc).map (fun d => d.parameters.length) = some np
def FLC (own : String) (ix : Nat) (y : MethodName) (cc : ByteArray) (nL : Nat) (rt : Option FieldType) (np : Nat) : Prop := ((Cond.methodLink own ix y ∈ lw_tbl ∧ okW (Cond.methodLink own ix y) = true) ∨ ∃ host, Cond.methodLinkNest own ix y host ∈ lw_tbl) ∧ (Cond.code y cc nL rt ∈ lw_tbl ∧ okW (Cond.code y cc nL rt) = true) ∧ (Cond.initialized y.cls ∈ lw_tbl ∧ okW (Cond.initialized y.cls) = true) ∧ okC y np
def FLV (y : MethodName) (c : Nat) : Prop := c < 11 ∧ y.cls = oC c ∧ (Cond.instanceMethod y ∈ lw_tbl ∧ okW (Cond.instanceMethod y) = true) ∧ (Cond.selects (oC c) y y ∈ lw_tbl ∧ okW (Cond.selects (oC c) y y) = true)
def FLS (y : MethodName) : Prop := Cond.static y ∈ lw_tbl ∧ okW (Cond.static y) = true
def FLN0 (y : MethodName) : Prop := y.name = "<init>" ∧ Cond.instanceMethod y ∈ lw_tbl ∧ okW (Cond.instanceMethod y) = true
section CRU
variable {ρ : Type} {y : MethodName} {cc : ByteArray} {nL : Nat} {rt : Option FieldType} {rf rl : Nat} {X : Xt ρ} {g : Hp} {pc : Nat} {lv lv' : List (Nat × SV)} {st : List SV} {pr pr2 : Option (ρ × Hp)}
theorem J.call {σ : Type} {y2 : MethodName} {cc2 : ByteArray} {nL2 : Nat} {rt2 : Option FieldType} {rf2 rl2 : Nat} {ret2 : σ → Option SV} {as rest : List SV} {P : Option (σ × Hp)} {F : σ × Hp → Option (ρ × Hp)}
    (hM : FM y2 cc2 nL2 rt2 rf2 rl2 ret2 as g P)
    (hrun : ∀ (p : Program) (l : Launch) (e : Env) (s : State) (m : MethodId) (args : Array Value) (below : List Frame) (meth : Method) (c : Code) (R : Room) (H : Heap) (locs : List Loc) (cells slots : Nat) (D : va_G) (cs : ClassId × ClassId × ClassId) (ad : Nm → Nat) (ls : Array Slot) (Pc : Array Value → State → Prop) (Qc : Array Value → State → Outcome → State → Prop) (mc ms : Nat) (free : Addr → Prop) (rm : Room),
      p.tables.exec = Jvm.exec → c.code = cc → ls.size = nL → c.maxLocals = nL → s.vm.findClass y.cls = some m.cls → TB s → va_K D vwCl (tyl cs) s → va_P D vwCl (wld cs ad g) H → oks g st →
      Met l y2 [Cond.code y2 cc2 nL2 rt2] rm Pc Qc mc ms free → rm.cells = mc ∧ rm.slots = ms → rm.frames + 1 ≤ R.frames ∧ 8 + (nL2 + 11) + rm.locals ≤ R.locals → FrameBlind Pc → (∀ U : State, U.heap = H → s.WarmedH U.vm → Pc (stm ad as).toArray U) → cells + mc ≤ R.cells ∧ slots + ms ≤ R.slots →
      va_Run p l e R s m args below meth c H locs cells slots mc ms (F0 m pc ls (stm ad st)) (stm ad rest) (Qc (stm ad as).toArray) free)
    (hroom : rf2 + 1 ≤ rf ∧ 8 + (nL2 + 11) + rl2 ≤ rl) (hp : pr = P.bind F) (hst : oks g st → oks g as ∧ oks g rest)
    (kk : ∀ r g1, J y cc nL rt rf rl X g1 (pc + 3) lv ((ret2 r).toList ++ rest) (F (r, g1))) : J y cc nL rt rf rl X g pc lv st pr := by
  subst hp
  cases P with
  | none => exact J.none
  | some q =>
    obtain ⟨r2, g1⟩ := q
    refine J.eq (show (some (r2, g1)).bind F = F (r2, g1) from rfl) ?_
    have hk := kk r2 g1
    obtain ⟨hmn, hmet⟩ := hM r2 g1 rfl
    obtain ⟨⟨p, l, e, s, m, args, below, meth, c⟩, ⟨D, cs, A⟩, ad0, g0, RF, QF⟩ := X
    have hM1 := hmn (p, l, e, s, m, args, below, meth, c)
    intro r g' h
    obtain ⟨a, b⟩ := hk r g' h
    have a' := hM1.tr a
    refine ⟨a', fun hG hM hc ad H locs ls h1 h2 h3 h4 h5 h6 h7 h0 => ?_⟩
    obtain ⟨x1, x2, x3, x4, x5, x6, x7, x8, x9, x10, x11, x12⟩ := id hG
    have hs := hst h7
    have hE : EX ad A s s.heap := x11.ad (h1 _ (Or.inr (Or.inl rfl))) (h1 _ (Or.inr (Or.inr (Or.inr rfl))))
    have hfree := va_D.freeA (sz := H.size) h3 x10 h4.1
    have hmc : gc g - gc g0 + (gc g1 - gc g) ≤ (RF g').cells ∧ gs g - gs g0 + (gs g1 - gs g) ≤ (RF g').slots := by
      have c1 := hM.1; have c2 := hM.2.1; have c3 := hM1.1; have c4 := hM1.2.1; have c5 := a.1; have c6 := a.2.1; have c7 := hc.1; have c8 := hc.2
      constructor <;> omega
    have hrn := hrun p l e s m args below meth c (RF g') H locs (gc g - gc g0) (gs g - gs g0) D cs ad ls _ _ _ _ _ _ x1 x2 h5.1 x3 x4 x8 x9 h2 h7 (hmet l D cs ad H.size hs.1 h0) ⟨rfl, rfl⟩ (by rw [(x12 g').1, (x12 g').2]; exact hroom)
      (fun a2 U gg mk hq => by
        obtain ⟨q1, q2, q3, q4, q5, q6, q7⟩ := hq
        exact ⟨q1, q2, q3, q4, va_K.moved (u := U) (U := U.calling gg mk a2) (Vm.Alike.refl U.vm) q5, TB.warm (s := U) (U := U.calling gg mk a2) q6 (State.WarmedH.refl U), EX.moved (u := U) (U := U.calling gg mk a2) (Vm.Alike.refl U.vm) q7⟩)
      (fun U hU hW => ⟨rfl, by rw [hU], by rw [hU]; exact h2, h3.weaken (fun _ _ _ _ => trivial), va_K.moved hW.alike x9, x8.warm hW, by
        rw [hU]
        exact ((hE.kept (H1 := H) (fun q hq hn => h4.2.1 q hq hn)).narrow hfree).moved hW.alike⟩) hmc
    intro T hT X0
    obtain ⟨v, st₀, t, T', L, z0, X', hL, e1, e2, ⟨⟨ad1, hv, hok, hcl, hag, hP1, hD1⟩, hF⟩, stp⟩ := hrn T hT X0
    rw [← e1] at hP1
    have hmvm : s.vm.Alike T'.vm := X'.warmed.alike
    have hag0 : Ag g0 ad0 ad1 := fun w hw => by
      rw [hag w (hw.elim (fun z => Or.inl (hM.2.2 w z)) Or.inr)]
      exact h1 w hw
    have hS1 : va_S A s.heap T'.heap (locs ++ L) := by
      obtain ⟨f1, f2⟩ := hF
      rw [z0, ← e1] at f1
      refine ⟨Nat.le_trans h4.1 f1, fun q hq hn => ?_, fun q hq => ?_⟩
      · have f3 := f2 q (by rw [z0]; exact Nat.lt_of_lt_of_le hq h4.1) (fun z => hn (hfree q z))
        rw [z0, ← e1] at f3
        rw [f3]
        exact h4.2.1 q hq hn
      · rcases List.mem_append.mp hq with h8 | h8
        · exact h4.2.2 q h8
        · exact hfree _ (hL q h8)
    have hk2 := b hG (hM.tr hM1) hc ad1 T'.heap (locs ++ L) ls hag0 hP1 (hD1.weaken (fun _ q _ z => hfree q.1 z)) hS1 (by rw [lvm_ag hag h6]; exact h5) (h6.mn hM1) (by
      intro w hw
      rcases List.mem_append.mp hw with h8 | h8
      · exact hok w (Option.mem_toList.mp h8)
      · exact (hs.2.mn hM1) w h8) hcl
    have e3 : gc g1 - gc g0 = gc g - gc g0 + (gc g1 - gc g) := by have := hM.1; have := hM1.1; omega
    have e4 : gs g1 - gs g0 = gs g - gs g0 + (gs g1 - gs g) := by have := hM.2.1; have := hM1.2.1; omega
    rw [e3, e4] at hk2
    obtain ⟨t2, k1, k2⟩ := hk2 T' rfl X'
    refine ⟨t2, stp t2 ?_, k2⟩
    have e5 : stm ad1 ((ret2 r2).toList ++ rest) = v.toList ++ stm ad rest := by
      have hv2 : v = (ret2 r2).map (cv ad1) := by injection hv
      rw [hv2]
      show List.map (cv ad1) ((ret2 r2).toList ++ rest) = _
      rw [List.map_append]
      have e6 : List.map (cv ad1) rest = stm ad rest := stm_ag hag hs.2
      rw [e6]
      cases ret2 r2 <;> rfl
    rw [e5] at k1
    exact k1
theorem code_ok {s : State} {args : Array Value} {y2 : MethodName} {cc2 : ByteArray} {nL2 : Nat} {rt2 : Option FieldType} (htb : TB s) (h : Cond.code y2 cc2 nL2 rt2 ∈ lw_tbl ∧ okW (Cond.code y2 cc2 nL2 rt2) = true) : ∀ w ∈ [Cond.code y2 cc2 nL2 rt2], ∀ (a' : Array Value) (U : State), s.WarmedH U.vm → w.before a' U = true := by
  intro w hw a' U hW
  rw [List.mem_singleton.mp hw]
  exact (htb.warm hW) _ h.1 h.2 a'
theorem len_ok {y2 : MethodName} {np : Nat} (h : okC y2 np) : ∀ sig, parseMethodDescriptor y2.desc = some sig → np = sig.parameters.length := by
  intro sig hs
  have h2 := h.2
  rw [hs] at h2
  exact (Option.some.inj h2).symm
theorem stm_rev (ad : Nm → Nat) (as rest : List SV) : stm ad (as.reverse ++ rest) = (stm ad as).reverse ++ stm ad rest := by
  simp [stm, List.map_append, List.map_reverse]
theorem oks_rev {g : Hp} {as rest : List SV} (h : oks g (as.reverse ++ rest)) : oks g as ∧ oks g rest := ⟨fun v hv => h v (List.mem_append_left _ (List.mem_reverse.mpr hv)), fun v hv => h v (List.mem_append_right _ hv)⟩
/-- a method of an object -/
theorem j_callV {σ : Type} {y2 : MethodName} {cc2 : ByteArray} {nL2 : Nat} {rt2 : Option FieldType} {rf2 rl2 : Nat} {ret2 : σ → Option SV} {own : String} {ix c : Nat} (as rest : List SV) {r : Option Nm} {P : Option (σ × Hp)} {F : σ × Hp → Option (ρ × Hp)}
    (hd : decode cc pc = .ok (.invokevirtual ix, 3)) (hC : FLC own ix y2 cc2 nL2 rt2 as.length) (hV : FLV y2 c) (ho : own = y.cls) (hM : FM y2 cc2 nL2 rt2 rf2 rl2 ret2 (sR r :: as) g P) (hroom : (rf2 + 1 ≤ rf ∧ 8 + (nL2 + 11) + rl2 ≤ rl) ∧ (rest.map sc).sum ≤ 8) (hst : st = as.reverse ++ sR r :: rest) (hp : pr = (ick r c P).bind F)
    (kk : ∀ x g1, J y cc nL rt rf rl X g1 (pc + 3) lv ((ret2 x).toList ++ rest) (F (x, g1))) : J y cc nL rt rf rl X g pc lv st pr := by
  subst hp
  subst hst
  obtain ⟨v1, v2, v3, v4⟩ := hV
  cases r with
  | none => exact J.none
  | some n =>
    by_cases hn : n.1 = c
    · have e : ick (some n) c P = P := by simp [ick, hn]
      rw [e]
      refine J.call hM (fun p l e s m args below meth c0 R H locs cells slots D cs ad ls Pc Qc mc ms free rm hx hb hz hml hw htb hK hP hos hMet hrm hfr hbl hpc hf => ?_) hroom.1 rfl (fun h => ?_) kk
      · obtain ⟨q, hq, he⟩ := wat (cs := cs) (ad := ad) (okr_in (hos (sR (some n)) (List.mem_append_right _ List.mem_cons_self)) (Or.inl (by omega)))
        obtain ⟨w, a1, a2⟩ := vwCl_at c v1
        rw [ent_o (by omega), hn] at he
        have hrc := va_recv hK hP a1 he
        rw [a2] at hrc
        have hstk : (F0 m pc ls (stm ad (as.reverse ++ sR (some n) :: rest))).stack = (stm ad as).reverse ++ .ref (ad n) :: stm ad rest := stm_rev ad as _
        have hlen : (stm ad as).length = as.length := by simp [stm]
        have hwc := lv_room (pc := pc) (ls := ls) (m := m) (st := stm ad rest) (rest := stm ad (as.reverse ++ sR (some n) :: rest)) (by rw [stm_cat]; exact hroom.2)
        rcases hC.1 with ⟨l1, l2⟩ | ⟨host, l1⟩
        · exact va_runV (own := own) (C := oC c) (As := stm ad as) (n := as.length) (bytes := cc2) (maxL := nL2) (ret := rt2) (index := ix) ⟨hx, hb, hml, by rw [ho]; exact hw, fun w h => absurd h List.not_mem_nil⟩ (Ts := []) hMet ⟨⟨hrm.1, hrm.2, hfr.1, hfr.2, code_ok (args := args) htb hC.2.1, List.mem_cons_self, htb _ hC.2.1.1 hC.2.1.2 args, htb _ hC.2.2.1.1 hC.2.2.1.2 args, hC.2.2.2.1, len_ok hC.2.2.2, htb _ l1 l2 args⟩, htb _ v3.1 v3.2 args, htb _ v4.1 v4.2 args⟩ ⟨hbl, hrc, hpc⟩ rfl hlen hz hstk hwc hd hf
        · exact va_runVN (own := own) (host := host) (C := oC c) (As := stm ad as) (n := as.length) (bytes := cc2) (maxL := nL2) (ret := rt2) (index := ix) ⟨hx, hb, hml, by rw [ho]; exact hw, fun w h => absurd h List.not_mem_nil⟩ (Ts := []) hMet ⟨⟨⟨hrm.1, hrm.2, hfr.1, hfr.2, code_ok (args := args) htb hC.2.1, List.mem_cons_self⟩, htb _ hC.2.1.1 hC.2.1.2 args, htb _ hC.2.2.1.1 hC.2.2.1.2 args, hC.2.2.2.1, len_ok hC.2.2.2, htb _ l1 (by simp [okW, isNw]) args⟩, htb _ v3.1 v3.2 args, htb _ v4.1 v4.2 args⟩ ⟨hbl, hrc, hpc⟩ rfl hlen hz hstk hwc hd hf
      · have h2 := oks_rev h
        exact ⟨h2.1.cons h2.2.head, h2.2.tail⟩
    · have e : ick (some n) c P = none := by simp [ick, hn]
      rw [e]
      exact J.none
/-- a method of none -/
theorem j_callS {σ : Type} {y2 : MethodName} {cc2 : ByteArray} {nL2 : Nat} {rt2 : Option FieldType} {rf2 rl2 : Nat} {ret2 : σ → Option SV} {own : String} {ix : Nat} (as rest : List SV) {P : Option (σ × Hp)} {F : σ × Hp → Option (ρ × Hp)}
    (hd : decode cc pc = .ok (.invokestatic ix, 3)) (hC : FLC own ix y2 cc2 nL2 rt2 as.length) (hV : FLS y2) (ho : own = y.cls) (hM : FM y2 cc2 nL2 rt2 rf2 rl2 ret2 as g P) (hroom : (rf2 + 1 ≤ rf ∧ 8 + (nL2 + 11) + rl2 ≤ rl) ∧ (rest.map sc).sum ≤ 8) (hst : st = as.reverse ++ rest) (hp : pr = P.bind F)
    (kk : ∀ x g1, J y cc nL rt rf rl X g1 (pc + 3) lv ((ret2 x).toList ++ rest) (F (x, g1))) : J y cc nL rt rf rl X g pc lv st pr := by
  subst hp
  subst hst
  refine J.call hM (fun p l e s m args below meth c0 R H locs cells slots D cs ad ls Pc Qc mc ms free rm hx hb hz hml hw htb hK hP hos hMet hrm hfr hbl hpc hf => ?_) hroom.1 rfl (fun h => oks_rev h) kk
  have hstk : (F0 m pc ls (stm ad (as.reverse ++ rest))).stack = (stm ad as).reverse ++ stm ad rest := stm_rev ad as _
  have hlen : (stm ad as).length = as.length := by simp [stm]
  have hwc := lv_room (pc := pc) (ls := ls) (m := m) (st := stm ad rest) (rest := stm ad (as.reverse ++ rest)) (by rw [stm_cat]; exact hroom.2)
  rcases hC.1 with ⟨l1, l2⟩ | ⟨host, l1⟩
  · exact va_runS (own := own) (As := stm ad as) (n := as.length) (bytes := cc2) (maxL := nL2) (ret := rt2) (index := ix) ⟨hx, hb, hml, by rw [ho]; exact hw, fun w h => absurd h List.not_mem_nil⟩ (Ts := []) hMet ⟨⟨hrm.1, hrm.2, hfr.1, hfr.2, code_ok (args := args) htb hC.2.1, List.mem_cons_self, htb _ hC.2.1.1 hC.2.1.2 args, htb _ hC.2.2.1.1 hC.2.2.1.2 args, hC.2.2.2.1, len_ok hC.2.2.2, htb _ l1 l2 args⟩, htb _ hV.1 hV.2 args⟩ ⟨hbl, hpc⟩ rfl hlen hz hstk hwc hd hf
  · exact va_runSN (own := own) (host := host) (As := stm ad as) (n := as.length) (bytes := cc2) (maxL := nL2) (ret := rt2) (index := ix) ⟨hx, hb, hml, by rw [ho]; exact hw, fun w h => absurd h List.not_mem_nil⟩ (Ts := []) hMet ⟨⟨⟨hrm.1, hrm.2, hfr.1, hfr.2, code_ok (args := args) htb hC.2.1, List.mem_cons_self⟩, htb _ hC.2.1.1 hC.2.1.2 args, htb _ hC.2.2.1.1 hC.2.2.1.2 args, hC.2.2.2.1, len_ok hC.2.2.2, htb _ l1 (by simp [okW, isNw]) args⟩, htb _ hV.1 hV.2 args, trivial⟩ ⟨hbl, hpc⟩ rfl hlen hz hstk hwc hd hf
/-- a constructor -/
theorem j_callI {σ : Type} {y2 : MethodName} {cc2 : ByteArray} {nL2 : Nat} {rf2 rl2 : Nat} {ret2 : σ → Option SV} {own : String} {ix : Nat} (as rest : List SV) {r : Option Nm} {P : Option (σ × Hp)} {F : σ × Hp → Option (ρ × Hp)}
    (hd : decode cc pc = .ok (.invokespecial ix, 3)) (hC : FLC own ix y2 cc2 nL2 none as.length) (hV : FLN0 y2) (ho : own = y.cls) (hM : FM y2 cc2 nL2 none rf2 rl2 ret2 (sR r :: as) g P) (hroom : (rf2 + 1 ≤ rf ∧ 8 + (nL2 + 11) + rl2 ≤ rl) ∧ (rest.map sc).sum ≤ 8) (hst : st = as.reverse ++ sR r :: rest) (hp : pr = (nnl r P).bind F)
    (kk : ∀ x g1, J y cc nL rt rf rl X g1 (pc + 3) lv ((ret2 x).toList ++ rest) (F (x, g1))) : J y cc nL rt rf rl X g pc lv st pr := by
  subst hp
  subst hst
  cases r with
  | none => exact J.none
  | some n =>
    refine J.call hM (fun p l e s m args below meth c0 R H locs cells slots D cs ad ls Pc Qc mc ms free rm hx hb hz hml hw htb hK hP hos hMet hrm hfr hbl hpc hf => ?_) hroom.1 rfl (fun h => ?_) kk
    · have hstk : (F0 m pc ls (stm ad (as.reverse ++ sR (some n) :: rest))).stack = (stm ad as).reverse ++ .ref (ad n) :: stm ad rest := stm_rev ad as _
      have hlen : (stm ad as).length = as.length := by simp [stm]
      have hwc := lv_room (pc := pc) (ls := ls) (m := m) (st := stm ad rest) (rest := stm ad (as.reverse ++ sR (some n) :: rest)) (by rw [stm_cat]; exact hroom.2)
      rcases hC.1 with ⟨l1, l2⟩ | ⟨host, l1⟩
      · exact va_runI (own := own) (As := stm ad as) (n := as.length) (bytes := cc2) (maxL := nL2) (index := ix) ⟨hx, hb, hml, by rw [ho]; exact hw, fun w h => absurd h List.not_mem_nil⟩ (Ts := []) hMet ⟨⟨hrm.1, hrm.2, hfr.1, hfr.2, code_ok (args := args) htb hC.2.1, List.mem_cons_self, htb _ hC.2.1.1 hC.2.1.2 args, htb _ hC.2.2.1.1 hC.2.2.1.2 args, hC.2.2.2.1, len_ok hC.2.2.2, htb _ l1 l2 args⟩, hV.1, htb _ hV.2.1 hV.2.2 args⟩ ⟨hbl, hpc⟩ rfl hlen hz hstk hwc hd hf
      · exact va_runIN (own := own) (host := host) (As := stm ad as) (n := as.length) (bytes := cc2) (maxL := nL2) (index := ix) ⟨hx, hb, hml, by rw [ho]; exact hw, fun w h => absurd h List.not_mem_nil⟩ (Ts := []) hMet ⟨⟨⟨hrm.1, hrm.2, hfr.1, hfr.2, code_ok (args := args) htb hC.2.1, List.mem_cons_self⟩, htb _ hC.2.1.1 hC.2.1.2 args, htb _ hC.2.2.1.1 hC.2.2.1.2 args, hC.2.2.2.1, len_ok hC.2.2.2, htb _ l1 (by simp [okW, isNw]) args⟩, hV.1, htb _ hV.2.1 hV.2.2 args⟩ ⟨hbl, hpc⟩ rfl hlen hz hstk hwc hd hf
    · have h2 := oks_rev h
      exact ⟨h2.1.cons h2.2.head, h2.2.tail⟩
/-! ends -/
theorem J.e {ret : ρ → Option SV} {v : ρ} (hX : IsM ret X) (hW : ∀ (p : Program) (l : Launch) (e : Env) (s : State) (m : MethodId) (args : Array Value) (below : List Frame) (meth : Method) (c : Code) (R : Room) (H : Heap) (locs : List Loc) (cells slots : Nat) (D : va_G) (cs : ClassId × ClassId × ClassId) (A : Nat → Prop) (ad0 ad : Nm → Nat) (g0 : Hp) (ls : Array Slot),
      p.tables.exec = Jvm.exec → c.code = cc → meth.sig.returnType = rt → meth.locks = false → (∀ t : State, t.heap = H → s.WarmedH t.vm → ∀ w, (∃ z, ret v = some z ∧ w = some (cv ad z)) ∨ (ret v = Option.none ∧ w = Option.none) → QcF D cs ad0 g0 A ret v g args s (.returned w) t) → (∀ q ∈ locs, A q.base) →
      W p l e R s m args below meth c H locs cells slots (MQ below (QcF D cs ad0 g0 A ret v g) args s cells slots A) (F0 m pc ls (stm ad st)))
    (hok : oks g st → ∀ z, ret v = some z → okv g z) (hp : pr = some (v, g)) : J y cc nL rt rf rl X g pc lv st pr := by
  obtain ⟨⟨p, l, e, s, m, args, below, meth, c⟩, ⟨D, cs, A⟩, ad0, g0, RF, QF⟩ := X
  intro r g' h
  rw [hp] at h
  cases h
  refine ⟨Mn.rf g, fun hG hM hc ad H locs ls h1 h2 h3 h4 h5 h6 h7 h0 => ?_⟩
  obtain ⟨x1, x2, x3, x4, x5, x6, x7, x8, x9, x10, x11, x12⟩ := id hG
  rw [hX v g]
  refine hW p l e s m args below meth c _ H locs _ _ D cs A ad0 ad g0 ls x1 x2 x5 x6 (fun t ht hWm w hw => ⟨⟨ad, ?_, hok h7, h0, h1, by rw [ht]; exact h2, h3⟩, h4.F ht⟩) h4.2.2
  rcases hw with ⟨z, e1, e2⟩ | ⟨e1, e2⟩
  · rw [e1, e2]; rfl
  · rw [e1, e2]; rfl
theorem j_ireturn {x : Int32} {X : Xt Int32} {pr : Option (Int32 × Hp)} (hd : decode cc pc = .ok (.ireturn, 1)) (hX : IsM rtI X) (hr : rt = some .int) (hp : pr = some (x, g)) : J y cc nL rt rf rl X g pc lv (sI x :: []) pr :=
  J.e hX (fun p l e s m args below meth c R H locs cells slots D cs A ad0 ad g0 ls hx hb hret hlk hq hf => W.iret (cc := cc) hx hb (hret.trans hr) (fun t h1 h2 => hq t h1 h2 _ (Or.inl ⟨_, rfl, rfl⟩)) hf hd hlk) (fun h z hz => by cases hz; exact h.head) hp
theorem j_zreturn {x : Int32} {X : Xt Int32} {pr : Option (Int32 × Hp)} (hd : decode cc pc = .ok (.ireturn, 1)) (hX : IsM rtI X) (hr : rt = some .boolean) (hp : pr = rtZ x g) : J y cc nL rt rf rl X g pc lv (sI x :: []) pr := by
  subst hp
  by_cases h01 : x = 0 ∨ x = 1
  · have e : rtZ x g = some (x, g) := by simp only [rtZ, if_pos h01]
    exact J.e hX (fun p l e s m args below meth c R H locs cells slots D cs A ad0 ad g0 ls hx hb hret hlk hq hf => W.zret (cc := cc) hx hb (hret.trans hr) (by rcases h01 with e1 | e1 <;> subst e1 <;> decide) (fun t h1 h2 => hq t h1 h2 _ (Or.inl ⟨_, rfl, rfl⟩)) hf hd hlk) (fun h z hz => by cases hz; exact h.head) e
  · have e : rtZ x g = none := by simp only [rtZ, if_neg h01]
    rw [e]
    exact J.none
theorem j_lreturn {x : Int64} {X : Xt Int64} {pr : Option (Int64 × Hp)} (hd : decode cc pc = .ok (.lreturn, 1)) (hX : IsM rtL X) (hr : rt = some .long) (hp : pr = some (x, g)) : J y cc nL rt rf rl X g pc lv (sL x :: []) pr :=
  J.e hX (fun p l e s m args below meth c R H locs cells slots D cs A ad0 ad g0 ls hx hb hret hlk hq hf => W.lret (cc := cc) hx hb (hret.trans hr) (fun t h1 h2 => hq t h1 h2 _ (Or.inl ⟨_, rfl, rfl⟩)) hf hd hlk) (fun h z hz => by cases hz; exact h.head) hp
theorem j_areturn {x : Option Nm} {ty : FieldType} {X : Xt (Option Nm)} {pr : Option (Option Nm × Hp)} (hd : decode cc pc = .ok (.areturn, 1)) (hX : IsM rtR X) (hr : rt = some ty) (hty : (∃ n, ty = .object n) ∨ ∃ t, ty = .array t) (hp : pr = some (x, g)) : J y cc nL rt rf rl X g pc lv (sR x :: []) pr :=
  J.e hX (fun p l e s m args below meth c R H locs cells slots D cs A ad0 ad g0 ls hx hb hret hlk hq hf => W.aret (cc := cc) hx hb (hret.trans hr) hty (by cases x with
    | none => exact Or.inl rfl
    | some a => exact Or.inr ⟨_, rfl⟩) (fun t h1 h2 => hq t h1 h2 _ (Or.inl ⟨_, rfl, rfl⟩)) hf hd hlk) (fun h z hz => by cases hz; exact h.head) hp
theorem j_return {X : Xt Unit} {pr : Option (Unit × Hp)} (hd : decode cc pc = .ok (.return_, 1)) (hX : IsM rtV X) (hr : rt = none) (hp : pr = some ((), g)) : J y cc nL rt rf rl X g pc lv [] pr :=
  J.e hX (fun p l e s m args below meth c R H locs cells slots D cs A ad0 ad g0 ls hx hb hret hlk hq hf => W.vret (cc := cc) hx hb (hret.trans hr) (fun t h1 h2 => hq t h1 h2 _ (Or.inr ⟨rfl, rfl⟩)) hf hd hlk) (fun h z hz => by cases hz) hp
end CRU
end
section
/-! the same rows where the step stands ahead of a bind; joins; loops -/
def dvI (x z : Int32) : Option Int32 := if z = 0 then none else some (x / z)
def rmI (x z : Int32) : Option Int32 := if z = 0 then none else some (x - x / z * z)
def dvL (x z : Int64) : Option Int64 := if z = 0 then none else some (x / z)
def ckc (r : Option Nm) (c : Nat) : Option Unit := match r with
  | some n => if n.1 = c then some () else none
  | none => some ()
def csu (r : Option Nm) : Option Unit := match r with
  | some n => if 12 ≤ n.1 ∧ n.1 < 17 then some () else none
  | none => none
def nnu (r : Option Nm) : Option Unit := match r with
  | some _ => some ()
  | none => none
noncomputable def acq (r q : Option Nm) (g : Hp) : Option Bool := by
  classical exact if r = q then some true else if (∀ n, r = some n → n ∈ gL g ∨ n = (17, 0)) ∧ (∀ n, q = some n → n ∈ gL g ∨ n = (17, 0)) then some false else none
def nix (r : Option Nm) : Nat := match r with
  | some n => n.2
  | none => 0
def nca (r : Option Nm) : Nat := match r with
  | some n => n.1
  | none => 0
def lsz (g : Hp) (j : Nat) : Nat := (gI g (0, j) 2).toNatClampNeg
theorem bi {α β : Type} {c : Prop} [Decidable c] {A B : Option α} {K : α → Option β} : Option.bind (if c then A else B) K = if c then Option.bind A K else Option.bind B K := by split <;> rfl
theorem bb {α β γ : Type} {A : Option α} {F : α → Option β} {K : β → Option γ} : Option.bind (Option.bind A F) K = Option.bind A (fun x => Option.bind (F x) K) := Option.bind_assoc ..
section BRU
variable {ρ : Type} {y : MethodName} {cc : ByteArray} {nL : Nat} {rt : Option FieldType} {rf rl : Nat} {X : Xt ρ} {g : Hp} {pc : Nat} {lv lv' : List (Nat × SV)} {st : List SV} {pr pr2 : Option (ρ × Hp)}
theorem b_idiv {x z : Int32} {F : Int32 → Option (ρ × Hp)} (hd : decode cc pc = .ok (.idiv, 1)) (hp : pr = (dvI x z).bind F) (kk : ∀ v, J y cc nL rt rf rl X g (pc + 1) lv (sI v :: st) (F v)) : J y cc nL rt rf rl X g pc lv (sI z :: sI x :: st) pr :=
  j_idiv (F := F) hd (by rw [hp]; unfold dvI; split <;> rfl) (kk _)
theorem b_irem {x z : Int32} {F : Int32 → Option (ρ × Hp)} (hd : decode cc pc = .ok (.irem, 1)) (hp : pr = (rmI x z).bind F) (kk : ∀ v, J y cc nL rt rf rl X g (pc + 1) lv (sI v :: st) (F v)) : J y cc nL rt rf rl X g pc lv (sI z :: sI x :: st) pr :=
  j_irem (F := F) hd (by rw [hp]; unfold rmI; split <;> rfl) (kk _)
theorem b_ldiv {x z : Int64} {F : Int64 → Option (ρ × Hp)} (hd : decode cc pc = .ok (.ldiv, 1)) (hp : pr = (dvL x z).bind F) (kk : ∀ v, J y cc nL rt rf rl X g (pc + 1) lv (sL v :: st) (F v)) : J y cc nL rt rf rl X g pc lv (sL z :: sL x :: st) pr :=
  j_ldiv (F := F) hd (by rw [hp]; unfold dvL; split <;> rfl) (kk _)
theorem b_cst {own : String} {ix c : Nat} {r : Option Nm} {F : Unit → Option (ρ × Hp)} (hd : decode cc pc = .ok (.checkcast ix, 3)) (ho : own = y.cls) (hc : c < 11) (hw0 : Cond.classLink own ix (oC c) ∈ lw_tbl) (hp : pr = (ckc r c).bind F) (kk : J y cc nL rt rf rl X g (pc + 3) lv (sR r :: st) (F ())) : J y cc nL rt rf rl X g pc lv (sR r :: st) pr :=
  j_cst (P := F ()) hd ho hc hw0 (by rw [hp]; cases r <;> simp only [ckc, cst] <;> first | rfl | (split <;> rfl)) kk
theorem b_csA {own : String} {ix : Nat} {r : Option Nm} {F : Unit → Option (ρ × Hp)} (hd : decode cc pc = .ok (.checkcast ix, 3)) (ho : own = y.cls) (hw0 : Cond.classLink own ix "[Ljava/lang/Object;" ∈ lw_tbl) (hp : pr = (csu r).bind F) (kk : J y cc nL rt rf rl X g (pc + 3) lv (sR r :: st) (F ())) : J y cc nL rt rf rl X g pc lv (sR r :: st) pr :=
  j_csA (P := F ()) hd ho hw0 (by rw [hp]; cases r <;> simp only [csu, csA] <;> first | rfl | (split <;> rfl)) kk
theorem b_oinit {own : String} {ix : Nat} {r : Option Nm} {F : Unit → Option (ρ × Hp)} (hd : decode cc pc = .ok (.invokespecial ix, 3)) (hF : FLI own ix) (ho : own = y.cls) (hr : 1 ≤ rf ∧ (st.map sc).sum + 12 ≤ rl) (hp : pr = (nnu r).bind F) (kk : J y cc nL rt rf rl X g (pc + 3) lv st (F ())) : J y cc nL rt rf rl X g pc lv (sR r :: st) pr :=
  j_oinit (P := F ()) hd hF ho hr (by rw [hp]; cases r <;> rfl) kk
theorem b_acmp_ne {r q : Option Nm} {off : Int} {tgt : Nat} {a b : Option (ρ × Hp)} (hd : decode cc pc = .ok (.if_acmp .ne off, 3)) (ht : (pc : Int) + off = (tgt : Int)) (hp : pr = (acq r q g).bind (fun z => if z = true then b else a)) (kt : J y cc nL rt rf rl X g tgt lv st a) (kf : J y cc nL rt rf rl X g (pc + 3) lv st b) : J y cc nL rt rf rl X g pc lv (sR q :: sR r :: st) pr :=
  j_acmp_ne hd ht (by rw [hp]; simp only [acq, acm]; split <;> (try split) <;> rfl) kt kf
theorem b_acmp_eq {r q : Option Nm} {off : Int} {tgt : Nat} {a b : Option (ρ × Hp)} (hd : decode cc pc = .ok (.if_acmp .eq off, 3)) (ht : (pc : Int) + off = (tgt : Int)) (hp : pr = (acq r q g).bind (fun z => if z = true then a else b)) (kt : J y cc nL rt rf rl X g tgt lv st a) (kf : J y cc nL rt rf rl X g (pc + 3) lv st b) : J y cc nL rt rf rl X g pc lv (sR q :: sR r :: st) pr := by
  subst hp
  by_cases h1 : r = q
  · have e : (acq r q g).bind (fun z => if z = true then a else b) = a := by simp only [acq, if_pos h1]; rfl
    refine J.eq e (J.s (fun _ _ _ _ _ _ _ _ _ _ _ _ _ _ _ ad ls hx hb hw htb hl K0 => ?_) (fun _ h => h.tail.tail) kt)
    exact lv_acmp_eq hx hb hd ht (fun _ => K0) (fun z => absurd (by rw [h1]) z)
  · by_cases h2 : (∀ n, r = some n → n ∈ gL g ∨ n = (17, 0)) ∧ (∀ n, q = some n → n ∈ gL g ∨ n = (17, 0))
    · have e : (acq r q g).bind (fun z => if z = true then a else b) = b := by simp only [acq, if_neg h1, if_pos h2]; rfl
      refine J.eq e (J.r (fun p l e s m args below meth c0 R H locs cells slots Q D cs A ad ls hx hb hz hml hw htb hK hE hR hC hP hD hS hol hos K0 => ?_) (fun _ h => h.tail.tail) kf)
      exact lv_acmp_eq hx hb hd ht (fun z => absurd z (acm_ne hD hE h1 h2.1 h2.2)) (fun _ => K0)
    · have e : (acq r q g).bind (fun z => if z = true then a else b) = none := by simp only [acq, if_neg h1, if_neg h2]; rfl
      exact J.eq e J.none
theorem J.jn {σ : Type} {A : Option σ} {F : σ → Option (ρ × Hp)} (P : σ → Option (ρ × Hp) → Prop) (h : ∀ F' : σ → Option (ρ × Hp), (∀ q, P q (F' q)) → J y cc nL rt rf rl X g pc lv st (A.bind F')) (k : ∀ q, P q (F q)) : J y cc nL rt rf rl X g pc lv st (A.bind F) := h F k
theorem J.pcE {pc2 : Nat} (h : pc2 = pc) (k : J y cc nL rt rf rl X g pc2 lv st pr) : J y cc nL rt rf rl X g pc lv st pr := h ▸ k
end BRU
end
section
/-! by program: words of the tables -/
set_option maxRecDepth 20000 in
theorem lo_Jxa1e45_1 : FLI RJxa1e45 1 := ⟨⟨List.mem_append_right _ (List.mem_of_getElem? (i := 56) (by decide +kernel)), rfl⟩, ⟨List.mem_append_right _ (List.mem_of_getElem? (i := 25) (by decide +kernel)), rfl⟩, ⟨List.mem_append_right _ (List.mem_of_getElem? (i := 26) (by decide +kernel)), rfl⟩⟩
set_option maxRecDepth 20000 in
theorem lc_Jxc12de_1 : FLC RJxc12de 1 yJxa1e45_init_da8c8 cJxa1e45_init_da8c8 1 none 0 := ⟨Or.inl ⟨List.mem_append_right _ (List.mem_of_getElem? (i := 53) (by decide +kernel)), rfl⟩, ⟨List.mem_append_right _ (List.mem_of_getElem? (i := 55) (by decide +kernel)), rfl⟩, ⟨List.mem_append_right _ (List.mem_of_getElem? (i := 3) (by decide +kernel)), rfl⟩, ⟨⟨by decide +kernel, by decide +kernel⟩, by decide +kernel⟩⟩
set_option maxRecDepth 20000 in
theorem li_Jxa1e45_init_da8c8 : FLN0 yJxa1e45_init_da8c8 := ⟨by decide +kernel, List.mem_append_right _ (List.mem_of_getElem? (i := 54) (by decide +kernel)), rfl⟩
set_option maxRecDepth 20000 in
theorem inTJx4a65c : ∀ w ∈ u_ws RJx4a65c TJx4a65c 3, w ∈ lw_tbl ∧ okW w = true := List.forall_mem_map.mpr fun k hk => by
  have hk2 := List.mem_range.mp hk
  rcases (show k = 0 ∨ k = 1 ∨ k = 2 by omega) with rfl | rfl | rfl
  · exact ⟨List.mem_append_right _ (List.mem_of_getElem? (i := 68) (by decide +kernel)), rfl⟩
  · exact ⟨List.mem_append_right _ (List.mem_of_getElem? (i := 64) (by decide +kernel)), rfl⟩
  · exact ⟨List.mem_append_right _ (List.mem_of_getElem? (i := 66) (by decide +kernel)), rfl⟩
set_option maxRecDepth 20000 in
theorem lf_Jxc12de_7 : FLK RJxc12de 7 0 0 false := ⟨RJx4a65c, TJx4a65c, 3, RJxc12de, ⟨rfl, by decide, rfl, by decide⟩, inTJx4a65c, Or.inl ⟨List.mem_append_right _ (List.mem_of_getElem? (i := 61) (by decide +kernel)), rfl⟩, Or.inl rfl⟩
set_option maxRecDepth 20000 in
theorem lt_0_0 : FLT 0 0 .int := ⟨RJx4a65c, TJx4a65c, 3, tyJx4a65c, rfl, by decide +kernel, tyJx4a65c_ok, nmJx4a65c⟩
set_option maxRecDepth 20000 in
theorem lw_Jxc12de_7_Jxc12de_init_da8c8 : FLW yJxc12de_init_da8c8 RJxc12de 7 0 0 := ⟨RJx4a65c, TJx4a65c, 3, rfl, Or.inl rfl⟩
set_option maxRecDepth 20000 in
theorem lc_Jx4a65c_1 : FLC RJx4a65c 1 yJxc12de_init_da8c8 cJxc12de_init_da8c8 1 none 0 := ⟨Or.inl ⟨List.mem_append_right _ (List.mem_of_getElem? (i := 50) (by decide +kernel)), rfl⟩, ⟨List.mem_append_right _ (List.mem_of_getElem? (i := 52) (by decide +kernel)), rfl⟩, ⟨List.mem_append_right _ (List.mem_of_getElem? (i := 4) (by decide +kernel)), rfl⟩, ⟨⟨by decide +kernel, by decide +kernel⟩, by decide +kernel⟩⟩
set_option maxRecDepth 20000 in
theorem li_Jxc12de_init_da8c8 : FLN0 yJxc12de_init_da8c8 := ⟨by decide +kernel, List.mem_append_right _ (List.mem_of_getElem? (i := 51) (by decide +kernel)), rfl⟩
set_option maxRecDepth 20000 in
theorem lg_Jx4a65c_39 : Cond.fieldLink RJx4a65c 39 "java/util/ArrayList" "DEFAULTCAPACITY_EMPTY_ELEMENTDATA" "[Ljava/lang/Object;" ∈ lw_tbl := List.mem_append_right _ (List.mem_of_getElem? (i := 57) (by decide +kernel))
set_option maxRecDepth 20000 in
theorem lf_Jx4a65c_9 : FLK RJx4a65c 9 0 1 true := ⟨RJx4a65c, TJx4a65c, 3, RJx4a65c, ⟨rfl, by decide, rfl, by decide⟩, inTJx4a65c, Or.inl ⟨List.mem_append_right _ (List.mem_of_getElem? (i := 59) (by decide +kernel)), rfl⟩, Or.inl rfl⟩
set_option maxRecDepth 20000 in
theorem lt_0_1 : FLT 0 1 (.array (.object "java/lang/Object")) := ⟨RJx4a65c, TJx4a65c, 3, tyJx4a65c, rfl, by decide +kernel, tyJx4a65c_ok, nmJx4a65c⟩
set_option maxRecDepth 20000 in
theorem lw_Jx4a65c_9_Jx4a65c_init_da8c8 : FLW yJx4a65c_init_da8c8 RJx4a65c 9 0 1 := ⟨RJx4a65c, TJx4a65c, 3, rfl, Or.inl rfl⟩
set_option maxRecDepth 20000 in
theorem lf_Jx4a65c_48 : FLK RJx4a65c 48 0 2 false := ⟨RJx4a65c, TJx4a65c, 3, RJx4a65c, ⟨rfl, by decide, rfl, by decide⟩, inTJx4a65c, Or.inl ⟨List.mem_append_right _ (List.mem_of_getElem? (i := 60) (by decide +kernel)), rfl⟩, Or.inl rfl⟩
set_option maxRecDepth 20000 in
theorem lc_J15_105 : FLC RJ15 105 yJ3_checkIndex_8e157 cJ3_checkIndex_8e157 3 (some .int) 3 := ⟨Or.inl ⟨List.mem_append_right _ (List.mem_of_getElem? (i := 311) (by decide +kernel)), rfl⟩, ⟨List.mem_append_right _ (List.mem_of_getElem? (i := 313) (by decide +kernel)), rfl⟩, ⟨List.mem_append_right _ (List.mem_of_getElem? (i := 15) (by decide +kernel)), rfl⟩, ⟨⟨by decide +kernel, by decide +kernel⟩, by decide +kernel⟩⟩
set_option maxRecDepth 20000 in
theorem ls_J3_checkIndex_8e157 : FLS yJ3_checkIndex_8e157 := ⟨List.mem_append_right _ (List.mem_of_getElem? (i := 312) (by decide +kernel)), rfl⟩
set_option maxRecDepth 20000 in
theorem lc_Jx4a65c_118 : FLC RJx4a65c 118 yJ15_checkIndex_7cf53 cJ15_checkIndex_7cf53 2 (some .int) 2 := ⟨Or.inl ⟨List.mem_append_right _ (List.mem_of_getElem? (i := 308) (by decide +kernel)), rfl⟩, ⟨List.mem_append_right _ (List.mem_of_getElem? (i := 310) (by decide +kernel)), rfl⟩, ⟨List.mem_append_right _ (List.mem_of_getElem? (i := 14) (by decide +kernel)), rfl⟩, ⟨⟨by decide +kernel, by decide +kernel⟩, by decide +kernel⟩⟩
set_option maxRecDepth 20000 in
theorem ls_J15_checkIndex_7cf53 : FLS yJ15_checkIndex_7cf53 := ⟨List.mem_append_right _ (List.mem_of_getElem? (i := 309) (by decide +kernel)), rfl⟩
set_option maxRecDepth 20000 in
theorem lc_Jx4a65c_123 : FLC RJx4a65c 123 yJx4a65c_elementData_915e3 cJx4a65c_elementData_915e3 2 (some (.object "java/lang/Object")) 1 := ⟨Or.inl ⟨List.mem_append_right _ (List.mem_of_getElem? (i := 314) (by decide +kernel)), rfl⟩, ⟨List.mem_append_right _ (List.mem_of_getElem? (i := 317) (by decide +kernel)), rfl⟩, ⟨List.mem_append_right _ (List.mem_of_getElem? (i := 5) (by decide +kernel)), rfl⟩, ⟨⟨by decide +kernel, by decide +kernel⟩, by decide +kernel⟩⟩
set_option maxRecDepth 20000 in
theorem lv_Jx4a65c_elementData_915e3 : FLV yJx4a65c_elementData_915e3 0 := ⟨by decide, by decide +kernel, ⟨List.mem_append_right _ (List.mem_of_getElem? (i := 315) (by decide +kernel)), rfl⟩, ⟨List.mem_append_right _ (List.mem_of_getElem? (i := 316) (by decide +kernel)), rfl⟩⟩
set_option maxRecDepth 20000 in
theorem lf_Jx4a65c_63 : FLK RJx4a65c 63 0 0 false := ⟨RJx4a65c, TJx4a65c, 3, RJx4a65c, ⟨rfl, by decide, rfl, by decide⟩, inTJx4a65c, Or.inl ⟨List.mem_append_right _ (List.mem_of_getElem? (i := 62) (by decide +kernel)), rfl⟩, Or.inr ⟨List.mem_append_right _ (List.mem_of_getElem? (i := 63) (by decide +kernel)), rfl⟩⟩
set_option maxRecDepth 20000 in
theorem lw_Jx4a65c_63_Jx4a65c_add_9ea2d : FLW yJx4a65c_add_9ea2d RJx4a65c 63 0 0 := ⟨RJx4a65c, TJx4a65c, 3, rfl, Or.inl rfl⟩
set_option maxRecDepth 20000 in
theorem lM_J8_194 : FLM RJ8 194 Lib.Math.max.name Lib.Math.max.code 2 := ⟨⟨List.mem_append_right _ (List.mem_of_getElem? (i := 215) (by decide +kernel)), rfl⟩, ⟨List.mem_append_right _ (List.mem_of_getElem? (i := 216) (by decide +kernel)), rfl⟩, ⟨List.mem_append_right _ (List.mem_of_getElem? (i := 9) (by decide +kernel)), rfl⟩, ⟨List.mem_append_right _ (List.mem_of_getElem? (i := 217) (by decide +kernel)), rfl⟩⟩
set_option maxRecDepth 20000 in
theorem lk_J8_200 : Cond.constant RJ8 200 2147483639 ∈ lw_tbl := List.mem_append_right _ (List.mem_of_getElem? (i := 218) (by decide +kernel))
set_option maxRecDepth 20000 in
theorem lc_Jx4a65c_73 : FLC RJx4a65c 73 yJ8_newLength_cabcc cJ8_newLength_cabcc 4 (some .int) 3 := ⟨Or.inl ⟨List.mem_append_right _ (List.mem_of_getElem? (i := 212) (by decide +kernel)), rfl⟩, ⟨List.mem_append_right _ (List.mem_of_getElem? (i := 214) (by decide +kernel)), rfl⟩, ⟨List.mem_append_right _ (List.mem_of_getElem? (i := 8) (by decide +kernel)), rfl⟩, ⟨⟨by decide +kernel, by decide +kernel⟩, by decide +kernel⟩⟩
set_option maxRecDepth 20000 in
theorem ls_J8_newLength_cabcc : FLS yJ8_newLength_cabcc := ⟨List.mem_append_right _ (List.mem_of_getElem? (i := 213) (by decide +kernel)), rfl⟩
set_option maxRecDepth 20000 in
theorem lG_J7_86 : FLG RJ7 86 := ⟨⟨List.mem_append_right _ (List.mem_of_getElem? (i := 225) (by decide +kernel)), rfl⟩, ⟨List.mem_append_right _ (List.mem_of_getElem? (i := 480) (by decide +kernel)), rfl⟩, ⟨List.mem_append_right _ (List.mem_of_getElem? (i := 226) (by decide +kernel)), rfl⟩, ⟨List.mem_append_right _ (List.mem_of_getElem? (i := 237) (by decide +kernel)), rfl⟩⟩
set_option maxRecDepth 20000 in
theorem lq_J7_110 : Cond.classLink RJ7 110 "[Ljava/lang/Object;" ∈ lw_tbl := List.mem_append_right _ (List.mem_of_getElem? (i := 241) (by decide +kernel))
set_option maxRecDepth 20000 in
theorem lq_J7_2 : Cond.classLink RJ7 2 "java/lang/Object" ∈ lw_tbl := List.mem_append_right _ (List.mem_of_getElem? (i := 243) (by decide +kernel))
set_option maxRecDepth 20000 in
theorem lM_J7_304 : FLM RJ7 304 Lib.Math.min.name Lib.Math.min.code 2 := ⟨⟨List.mem_append_right _ (List.mem_of_getElem? (i := 244) (by decide +kernel)), rfl⟩, ⟨List.mem_append_right _ (List.mem_of_getElem? (i := 245) (by decide +kernel)), rfl⟩, ⟨List.mem_append_right _ (List.mem_of_getElem? (i := 9) (by decide +kernel)), rfl⟩, ⟨List.mem_append_right _ (List.mem_of_getElem? (i := 246) (by decide +kernel)), rfl⟩⟩
set_option maxRecDepth 20000 in
theorem la_J7_150 : FLA RJ7 150 := ⟨⟨List.mem_append_right _ (List.mem_of_getElem? (i := 247) (by decide +kernel)), rfl⟩, ⟨List.mem_append_right _ (List.mem_of_getElem? (i := 249) (by decide +kernel)), rfl⟩, ⟨List.mem_append_right _ (List.mem_of_getElem? (i := 248) (by decide +kernel)), rfl⟩, ⟨List.mem_append_right _ (List.mem_of_getElem? (i := 11) (by decide +kernel)), rfl⟩⟩
set_option maxRecDepth 20000 in
theorem lc_J7_300 : FLC RJ7 300 yJ7_copyOf_6403c cJ7_copyOf_6403c 4 (some (.array (.object "java/lang/Object"))) 3 := ⟨Or.inl ⟨List.mem_append_right _ (List.mem_of_getElem? (i := 238) (by decide +kernel)), rfl⟩, ⟨List.mem_append_right _ (List.mem_of_getElem? (i := 240) (by decide +kernel)), rfl⟩, ⟨List.mem_append_right _ (List.mem_of_getElem? (i := 10) (by decide +kernel)), rfl⟩, ⟨⟨by decide +kernel, by decide +kernel⟩, by decide +kernel⟩⟩
set_option maxRecDepth 20000 in
theorem ls_J7_copyOf_6403c : FLS yJ7_copyOf_6403c := ⟨List.mem_append_right _ (List.mem_of_getElem? (i := 239) (by decide +kernel)), rfl⟩
set_option maxRecDepth 20000 in
theorem lc_Jx4a65c_66 : FLC RJx4a65c 66 yJ7_copyOf_1904c cJ7_copyOf_1904c 2 (some (.array (.object "java/lang/Object"))) 2 := ⟨Or.inl ⟨List.mem_append_right _ (List.mem_of_getElem? (i := 222) (by decide +kernel)), rfl⟩, ⟨List.mem_append_right _ (List.mem_of_getElem? (i := 224) (by decide +kernel)), rfl⟩, ⟨List.mem_append_right _ (List.mem_of_getElem? (i := 10) (by decide +kernel)), rfl⟩, ⟨⟨by decide +kernel, by decide +kernel⟩, by decide +kernel⟩⟩
set_option maxRecDepth 20000 in
theorem ls_J7_copyOf_1904c : FLS yJ7_copyOf_1904c := ⟨List.mem_append_right _ (List.mem_of_getElem? (i := 223) (by decide +kernel)), rfl⟩
set_option maxRecDepth 20000 in
theorem lw_Jx4a65c_9_Jx4a65c_grow_92f84 : FLW yJx4a65c_grow_92f84 RJx4a65c 9 0 1 := ⟨RJx4a65c, TJx4a65c, 3, rfl, Or.inl rfl⟩
set_option maxRecDepth 20000 in
theorem lM_Jx4a65c_79 : FLM RJx4a65c 79 Lib.Math.max.name Lib.Math.max.code 2 := ⟨⟨List.mem_append_right _ (List.mem_of_getElem? (i := 250) (by decide +kernel)), rfl⟩, ⟨List.mem_append_right _ (List.mem_of_getElem? (i := 216) (by decide +kernel)), rfl⟩, ⟨List.mem_append_right _ (List.mem_of_getElem? (i := 9) (by decide +kernel)), rfl⟩, ⟨List.mem_append_right _ (List.mem_of_getElem? (i := 217) (by decide +kernel)), rfl⟩⟩
set_option maxRecDepth 20000 in
theorem lq_Jx4a65c_7 : Cond.classLink RJx4a65c 7 "java/lang/Object" ∈ lw_tbl := List.mem_append_right _ (List.mem_of_getElem? (i := 251) (by decide +kernel))
set_option maxRecDepth 20000 in
theorem lc_Jx4a65c_69 : FLC RJx4a65c 69 yJx4a65c_grow_92f84 cJx4a65c_grow_92f84 4 (some (.array (.object "java/lang/Object"))) 1 := ⟨Or.inl ⟨List.mem_append_right _ (List.mem_of_getElem? (i := 208) (by decide +kernel)), rfl⟩, ⟨List.mem_append_right _ (List.mem_of_getElem? (i := 211) (by decide +kernel)), rfl⟩, ⟨List.mem_append_right _ (List.mem_of_getElem? (i := 5) (by decide +kernel)), rfl⟩, ⟨⟨by decide +kernel, by decide +kernel⟩, by decide +kernel⟩⟩
set_option maxRecDepth 20000 in
theorem lv_Jx4a65c_grow_92f84 : FLV yJx4a65c_grow_92f84 0 := ⟨by decide, by decide +kernel, ⟨List.mem_append_right _ (List.mem_of_getElem? (i := 210) (by decide +kernel)), rfl⟩, ⟨List.mem_append_left _ (List.mem_of_getElem? (i := 3) (by decide +kernel)), rfl⟩⟩
set_option maxRecDepth 20000 in
theorem lc_Jx4a65c_129 : FLC RJx4a65c 129 yJx4a65c_grow_d5877 cJx4a65c_grow_d5877 1 (some (.array (.object "java/lang/Object"))) 0 := ⟨Or.inl ⟨List.mem_append_right _ (List.mem_of_getElem? (i := 204) (by decide +kernel)), rfl⟩, ⟨List.mem_append_right _ (List.mem_of_getElem? (i := 207) (by decide +kernel)), rfl⟩, ⟨List.mem_append_right _ (List.mem_of_getElem? (i := 5) (by decide +kernel)), rfl⟩, ⟨⟨by decide +kernel, by decide +kernel⟩, by decide +kernel⟩⟩
set_option maxRecDepth 20000 in
theorem lv_Jx4a65c_grow_d5877 : FLV yJx4a65c_grow_d5877 0 := ⟨by decide, by decide +kernel, ⟨List.mem_append_right _ (List.mem_of_getElem? (i := 206) (by decide +kernel)), rfl⟩, ⟨List.mem_append_left _ (List.mem_of_getElem? (i := 2) (by decide +kernel)), rfl⟩⟩
set_option maxRecDepth 20000 in
theorem lt_0_2 : FLT 0 2 .int := ⟨RJx4a65c, TJx4a65c, 3, tyJx4a65c, rfl, by decide +kernel, tyJx4a65c_ok, nmJx4a65c⟩
set_option maxRecDepth 20000 in
theorem lw_Jx4a65c_48_Jx4a65c_add_72be8 : FLW yJx4a65c_add_72be8 RJx4a65c 48 0 2 := ⟨RJx4a65c, TJx4a65c, 3, rfl, Or.inl rfl⟩
set_option maxRecDepth 20000 in
theorem lc_Jx4a65c_131 : FLC RJx4a65c 131 yJx4a65c_add_72be8 cJx4a65c_add_72be8 4 none 3 := ⟨Or.inl ⟨List.mem_append_right _ (List.mem_of_getElem? (i := 200) (by decide +kernel)), rfl⟩, ⟨List.mem_append_right _ (List.mem_of_getElem? (i := 203) (by decide +kernel)), rfl⟩, ⟨List.mem_append_right _ (List.mem_of_getElem? (i := 5) (by decide +kernel)), rfl⟩, ⟨⟨by decide +kernel, by decide +kernel⟩, by decide +kernel⟩⟩
set_option maxRecDepth 20000 in
theorem lv_Jx4a65c_add_72be8 : FLV yJx4a65c_add_72be8 0 := ⟨by decide, by decide +kernel, ⟨List.mem_append_right _ (List.mem_of_getElem? (i := 202) (by decide +kernel)), rfl⟩, ⟨List.mem_append_left _ (List.mem_of_getElem? (i := 1) (by decide +kernel)), rfl⟩⟩
set_option maxRecDepth 20000 in
theorem lk_J6_264 : Cond.constant RJ6 264 65536 ∈ lw_tbl := List.mem_append_right _ (List.mem_of_getElem? (i := 363) (by decide +kernel))
/-! by program: what the methods do, and that their bytecode does it -/
/-! Jxa1e45_init_da8c8 -/
noncomputable def f_Jxa1e45_init_da8c8 (z : Nat) (t : Option Nm) (g : Hp) : Option (Unit × Hp) :=
  (nnu t).bind fun _ =>
  some ((), g)
set_option maxRecDepth 20000 in
theorem m_Jxa1e45_init_da8c8 (z : Nat) (t : Option Nm) (g : Hp) : FM yJxa1e45_init_da8c8 cJxa1e45_init_da8c8 1 none 1 12 rtV [sR t] g (f_Jxa1e45_init_da8c8 z t g) := by
  refine FM.entry (by decide +kernel) (Nat.le_of_ble_eq_true rfl) (fun X hX => ?_)
  unfold f_Jxa1e45_init_da8c8
  show J yJxa1e45_init_da8c8 cJxa1e45_init_da8c8 1 none 1 12 X g 0 [(0, sR t)] [] _
  refine j_aload_n (pc := 0) 0 dJxa1e45_init_da8c8_0 rfl rfl ?_
  refine b_oinit (pc := 1) (own := RJxa1e45) dJxa1e45_init_da8c8_1 lo_Jxa1e45_1 rfl ⟨Nat.le_of_ble_eq_true rfl, Nat.le_of_ble_eq_true rfl⟩ rfl ?_
  exact j_return dJxa1e45_init_da8c8_4 hX rfl rfl
/-! Jxc12de_init_da8c8 -/
noncomputable def f_Jxc12de_init_da8c8 (z : Nat) (t : Option Nm) (g : Hp) : Option (Unit × Hp) :=
  (nnl t (f_Jxa1e45_init_da8c8 z t g)).bind fun q1 =>
  (putI t 0 0 0 q1.2).bind fun g2 =>
  some ((), g2)
set_option maxRecDepth 20000 in
theorem m_Jxc12de_init_da8c8 (z : Nat) (t : Option Nm) (g : Hp) : FM yJxc12de_init_da8c8 cJxc12de_init_da8c8 1 none 2 32 rtV [sR t] g (f_Jxc12de_init_da8c8 z t g) := by
  refine FM.entry (by decide +kernel) (Nat.le_of_ble_eq_true rfl) (fun X hX => ?_)
  unfold f_Jxc12de_init_da8c8
  show J yJxc12de_init_da8c8 cJxc12de_init_da8c8 1 none 2 32 X g 0 [(0, sR t)] [] _
  refine j_aload_n (pc := 0) 0 dJxc12de_init_da8c8_0 rfl rfl ?_
  refine j_callI (pc := 1) (own := RJxc12de) [] [] dJxc12de_init_da8c8_1 lc_Jxc12de_1 li_Jxa1e45_init_da8c8 rfl (m_Jxa1e45_init_da8c8 z t g) ⟨⟨Nat.le_of_ble_eq_true rfl, Nat.le_of_ble_eq_true rfl⟩, Nat.le_of_ble_eq_true rfl⟩ rfl rfl (fun q1r q1g => ?_)
  refine j_aload_n (pc := 4) 0 dJxc12de_init_da8c8_4 rfl rfl ?_
  refine j_iconst (pc := 5) (v := 0) dJxc12de_init_da8c8_5 (by decide) ?_
  refine j_putI (pc := 6) (own := RJxc12de) dJxc12de_init_da8c8_6 lf_Jxc12de_7 lt_0_0 lw_Jxc12de_7_Jxc12de_init_da8c8 rfl rfl (fun g2 => ?_)
  exact j_return dJxc12de_init_da8c8_9 hX rfl rfl
/-! Jx4a65c_init_da8c8 -/
noncomputable def f_Jx4a65c_init_da8c8 (z : Nat) (t : Option Nm) (g : Hp) : Option (Unit × Hp) :=
  (nnl t (f_Jxc12de_init_da8c8 z t g)).bind fun q1 =>
  (putR t 0 1 (some (17, 0)) q1.2).bind fun g2 =>
  some ((), g2)
set_option maxRecDepth 20000 in
theorem m_Jx4a65c_init_da8c8 (z : Nat) (t : Option Nm) (g : Hp) : FM yJx4a65c_init_da8c8 cJx4a65c_init_da8c8 1 none 3 52 rtV [sR t] g (f_Jx4a65c_init_da8c8 z t g) := by
  refine FM.entry (by decide +kernel) (Nat.le_of_ble_eq_true rfl) (fun X hX => ?_)
  unfold f_Jx4a65c_init_da8c8
  show J yJx4a65c_init_da8c8 cJx4a65c_init_da8c8 1 none 3 52 X g 0 [(0, sR t)] [] _
  refine j_aload_n (pc := 0) 0 dJx4a65c_init_da8c8_0 rfl rfl ?_
  refine j_callI (pc := 1) (own := RJx4a65c) [] [] dJx4a65c_init_da8c8_1 lc_Jx4a65c_1 li_Jxc12de_init_da8c8 rfl (m_Jxc12de_init_da8c8 z t g) ⟨⟨Nat.le_of_ble_eq_true rfl, Nat.le_of_ble_eq_true rfl⟩, Nat.le_of_ble_eq_true rfl⟩ rfl rfl (fun q1r q1g => ?_)
  refine j_aload_n (pc := 4) 0 dJx4a65c_init_da8c8_4 rfl rfl ?_
  refine j_gdef (pc := 5) (own := RJx4a65c) dJx4a65c_init_da8c8_5 rfl lg_Jx4a65c_39 ?_
  refine j_putR (pc := 8) (own := RJx4a65c) dJx4a65c_init_da8c8_8 lf_Jx4a65c_9 lt_0_1 rfl lw_Jx4a65c_9_Jx4a65c_init_da8c8 rfl rfl (fun g2 => ?_)
  exact j_return dJx4a65c_init_da8c8_11 hX rfl rfl
/-! Jx4a65c_isEmpty_aae02 -/
noncomputable def f_Jx4a65c_isEmpty_aae02 (z : Nat) (t : Option Nm) (g : Hp) : Option (Int32 × Hp) :=
  (getI t 0 2 g).bind fun x1 =>
  if x1 = 0 then (rtZ 1 g)
  else (rtZ 0 g)
set_option maxRecDepth 20000 in
theorem m_Jx4a65c_isEmpty_aae02 (z : Nat) (t : Option Nm) (g : Hp) : FM yJx4a65c_isEmpty_aae02 cJx4a65c_isEmpty_aae02 1 (some .boolean) 0 0 rtI [sR t] g (f_Jx4a65c_isEmpty_aae02 z t g) := by
  refine FM.entry (by decide +kernel) (Nat.le_of_ble_eq_true rfl) (fun X hX => ?_)
  unfold f_Jx4a65c_isEmpty_aae02
  show J yJx4a65c_isEmpty_aae02 cJx4a65c_isEmpty_aae02 1 (some .boolean) 0 0 X g 0 [(0, sR t)] [] _
  refine j_aload_n (pc := 0) 0 dJx4a65c_isEmpty_aae02_0 rfl rfl ?_
  refine j_getI (pc := 1) (own := RJx4a65c) dJx4a65c_isEmpty_aae02_1 lf_Jx4a65c_48 rfl rfl (fun x1 => ?_)
  refine j_if_ne (pc := 4) (tgt := 11) dJx4a65c_isEmpty_aae02_4 (by decide) rfl (fun hc => ?_) (fun hc => ?_)
  · refine j_iconst (pc := 11) (v := 0) dJx4a65c_isEmpty_aae02_11 (by decide) ?_
    exact j_zreturn dJx4a65c_isEmpty_aae02_12 hX rfl rfl
  · refine j_iconst (pc := 7) (v := 1) dJx4a65c_isEmpty_aae02_7 (by decide) ?_
    refine j_goto (pc := 8) (tgt := 12) dJx4a65c_isEmpty_aae02_8 (by decide) ?_
    exact j_zreturn dJx4a65c_isEmpty_aae02_12 hX rfl rfl
/-! Jx4a65c_size_8abf5 -/
noncomputable def f_Jx4a65c_size_8abf5 (z : Nat) (t : Option Nm) (g : Hp) : Option (Int32 × Hp) :=
  (getI t 0 2 g).bind fun x1 =>
  some (x1, g)
set_option maxRecDepth 20000 in
theorem m_Jx4a65c_size_8abf5 (z : Nat) (t : Option Nm) (g : Hp) : FM yJx4a65c_size_8abf5 cJx4a65c_size_8abf5 1 (some .int) 0 0 rtI [sR t] g (f_Jx4a65c_size_8abf5 z t g) := by
  refine FM.entry (by decide +kernel) (Nat.le_of_ble_eq_true rfl) (fun X hX => ?_)
  unfold f_Jx4a65c_size_8abf5
  show J yJx4a65c_size_8abf5 cJx4a65c_size_8abf5 1 (some .int) 0 0 X g 0 [(0, sR t)] [] _
  refine j_aload_n (pc := 0) 0 dJx4a65c_size_8abf5_0 rfl rfl ?_
  refine j_getI (pc := 1) (own := RJx4a65c) dJx4a65c_size_8abf5_1 lf_Jx4a65c_48 rfl rfl (fun x1 => ?_)
  exact j_ireturn dJx4a65c_size_8abf5_4 hX rfl rfl
/-! J3_checkIndex_8e157 -/
noncomputable def f_J3_checkIndex_8e157 (z : Nat) (a0 : Int32) (a1 : Int32) (a2 : Option Nm) (g : Hp) : Option (Int32 × Hp) :=
  if a0 < 0 then (none)
  else (if a0 < a1 then (some (a0, g))
    else (none))
set_option maxRecDepth 20000 in
theorem m_J3_checkIndex_8e157 (z : Nat) (a0 : Int32) (a1 : Int32) (a2 : Option Nm) (g : Hp) : FM yJ3_checkIndex_8e157 cJ3_checkIndex_8e157 3 (some .int) 0 0 rtI [sI a0, sI a1, sR a2] g (f_J3_checkIndex_8e157 z a0 a1 a2 g) := by
  refine FM.entry (by decide +kernel) (Nat.le_of_ble_eq_true rfl) (fun X hX => ?_)
  unfold f_J3_checkIndex_8e157
  show J yJ3_checkIndex_8e157 cJ3_checkIndex_8e157 3 (some .int) 0 0 X g 0 [(0, sI a0), (1, sI a1), (2, sR a2)] [] _
  refine j_iload_n (pc := 0) 0 dJ3_checkIndex_8e157_0 rfl rfl ?_
  refine j_if_lt (pc := 1) (tgt := 9) dJ3_checkIndex_8e157_1 (by decide) rfl (fun hc => ?_) (fun hc => ?_)
  · exact J.none
  · refine j_iload_n (pc := 4) 0 dJ3_checkIndex_8e157_4 rfl rfl ?_
    refine j_iload_n (pc := 5) 1 dJ3_checkIndex_8e157_5 rfl rfl ?_
    refine j_icmp_lt (pc := 6) (tgt := 16) dJ3_checkIndex_8e157_6 (by decide) rfl (fun hc => ?_) (fun hc => ?_)
    · refine j_iload_n (pc := 16) 0 dJ3_checkIndex_8e157_16 rfl rfl ?_
      exact j_ireturn dJ3_checkIndex_8e157_17 hX rfl rfl
    · exact J.none
/-! J15_checkIndex_7cf53 -/
noncomputable def f_J15_checkIndex_7cf53 (z : Nat) (a0 : Int32) (a1 : Int32) (g : Hp) : Option (Int32 × Hp) :=
  (f_J3_checkIndex_8e157 z a0 a1 none g).bind fun q1 =>
  some (q1.1, q1.2)
set_option maxRecDepth 20000 in
theorem m_J15_checkIndex_7cf53 (z : Nat) (a0 : Int32) (a1 : Int32) (g : Hp) : FM yJ15_checkIndex_7cf53 cJ15_checkIndex_7cf53 2 (some .int) 1 22 rtI [sI a0, sI a1] g (f_J15_checkIndex_7cf53 z a0 a1 g) := by
  refine FM.entry (by decide +kernel) (Nat.le_of_ble_eq_true rfl) (fun X hX => ?_)
  unfold f_J15_checkIndex_7cf53
  show J yJ15_checkIndex_7cf53 cJ15_checkIndex_7cf53 2 (some .int) 1 22 X g 0 [(0, sI a0), (1, sI a1)] [] _
  refine j_iload_n (pc := 0) 0 dJ15_checkIndex_7cf53_0 rfl rfl ?_
  refine j_iload_n (pc := 1) 1 dJ15_checkIndex_7cf53_1 rfl rfl ?_
  refine j_null (pc := 2) dJ15_checkIndex_7cf53_2 ?_
  refine j_callS (pc := 3) (own := RJ15) [sI a0, sI a1, sR none] [] dJ15_checkIndex_7cf53_3 lc_J15_105 ls_J3_checkIndex_8e157 rfl (m_J3_checkIndex_8e157 z a0 a1 none g) ⟨⟨Nat.le_of_ble_eq_true rfl, Nat.le_of_ble_eq_true rfl⟩, Nat.le_of_ble_eq_true rfl⟩ rfl rfl (fun q1r q1g => ?_)
  exact j_ireturn dJ15_checkIndex_7cf53_6 hX rfl rfl
/-! Jx4a65c_elementData_915e3 -/
noncomputable def f_Jx4a65c_elementData_915e3 (z : Nat) (t : Option Nm) (a0 : Int32) (g : Hp) : Option ((Option Nm) × Hp) :=
  (getR t 0 1 g).bind fun x1 =>
  (aldR x1 a0 g).bind fun x2 =>
  some (x2, g)
set_option maxRecDepth 20000 in
theorem m_Jx4a65c_elementData_915e3 (z : Nat) (t : Option Nm) (a0 : Int32) (g : Hp) : FM yJx4a65c_elementData_915e3 cJx4a65c_elementData_915e3 2 (some (.object "java/lang/Object")) 0 0 rtR [sR t, sI a0] g (f_Jx4a65c_elementData_915e3 z t a0 g) := by
  refine FM.entry (by decide +kernel) (Nat.le_of_ble_eq_true rfl) (fun X hX => ?_)
  unfold f_Jx4a65c_elementData_915e3
  show J yJx4a65c_elementData_915e3 cJx4a65c_elementData_915e3 2 (some (.object "java/lang/Object")) 0 0 X g 0 [(0, sR t), (1, sI a0)] [] _
  refine j_aload_n (pc := 0) 0 dJx4a65c_elementData_915e3_0 rfl rfl ?_
  refine j_getR (pc := 1) (own := RJx4a65c) dJx4a65c_elementData_915e3_1 lf_Jx4a65c_9 rfl rfl (fun x1 => ?_)
  refine j_iload_n (pc := 4) 1 dJx4a65c_elementData_915e3_4 rfl rfl ?_
  refine j_aldR (pc := 5) dJx4a65c_elementData_915e3_5 rfl (fun x2 => ?_)
  exact j_areturn dJx4a65c_elementData_915e3_6 hX rfl (Or.inl ⟨_, rfl⟩) rfl
/-! Jx4a65c_get_915e3 -/
noncomputable def f_Jx4a65c_get_915e3 (z : Nat) (t : Option Nm) (a0 : Int32) (g : Hp) : Option ((Option Nm) × Hp) :=
  (getI t 0 2 g).bind fun x1 =>
  (f_J15_checkIndex_7cf53 z a0 x1 g).bind fun q2 =>
  (ick t 0 (f_Jx4a65c_elementData_915e3 z t a0 q2.2)).bind fun q3 =>
  some (q3.1, q3.2)
set_option maxRecDepth 20000 in
theorem m_Jx4a65c_get_915e3 (z : Nat) (t : Option Nm) (a0 : Int32) (g : Hp) : FM yJx4a65c_get_915e3 cJx4a65c_get_915e3 2 (some (.object "java/lang/Object")) 2 43 rtR [sR t, sI a0] g (f_Jx4a65c_get_915e3 z t a0 g) := by
  refine FM.entry (by decide +kernel) (Nat.le_of_ble_eq_true rfl) (fun X hX => ?_)
  unfold f_Jx4a65c_get_915e3
  show J yJx4a65c_get_915e3 cJx4a65c_get_915e3 2 (some (.object "java/lang/Object")) 2 43 X g 0 [(0, sR t), (1, sI a0)] [] _
  refine j_iload_n (pc := 0) 1 dJx4a65c_get_915e3_0 rfl rfl ?_
  refine j_aload_n (pc := 1) 0 dJx4a65c_get_915e3_1 rfl rfl ?_
  refine j_getI (pc := 2) (own := RJx4a65c) dJx4a65c_get_915e3_2 lf_Jx4a65c_48 rfl rfl (fun x1 => ?_)
  refine j_callS (pc := 5) (own := RJx4a65c) [sI a0, sI x1] [] dJx4a65c_get_915e3_5 lc_Jx4a65c_118 ls_J15_checkIndex_7cf53 rfl (m_J15_checkIndex_7cf53 z a0 x1 g) ⟨⟨Nat.le_of_ble_eq_true rfl, Nat.le_of_ble_eq_true rfl⟩, Nat.le_of_ble_eq_true rfl⟩ rfl rfl (fun q2r q2g => ?_)
  refine j_pop (pc := 8) dJx4a65c_get_915e3_8 rfl ?_
  refine j_aload_n (pc := 9) 0 dJx4a65c_get_915e3_9 rfl rfl ?_
  refine j_iload_n (pc := 10) 1 dJx4a65c_get_915e3_10 rfl rfl ?_
  refine j_callV (pc := 11) (own := RJx4a65c) [sI a0] [] dJx4a65c_get_915e3_11 lc_Jx4a65c_123 lv_Jx4a65c_elementData_915e3 rfl (m_Jx4a65c_elementData_915e3 z t a0 q2g) ⟨⟨Nat.le_of_ble_eq_true rfl, Nat.le_of_ble_eq_true rfl⟩, Nat.le_of_ble_eq_true rfl⟩ rfl rfl (fun q3r q3g => ?_)
  exact j_areturn dJx4a65c_get_915e3_14 hX rfl (Or.inl ⟨_, rfl⟩) rfl
/-! J8_newLength_cabcc -/
noncomputable def f_J8_newLength_cabcc (z : Nat) (a0 : Int32) (a1 : Int32) (a2 : Int32) (g : Hp) : Option (Int32 × Hp) :=
  if (a0 + (imax a1 a2)) ≤ 0 then (none)
  else (if 2147483639 < (a0 + (imax a1 a2)) then (none)
    else (some ((a0 + (imax a1 a2)), g)))
set_option maxRecDepth 20000 in
theorem m_J8_newLength_cabcc (z : Nat) (a0 : Int32) (a1 : Int32) (a2 : Int32) (g : Hp) : FM yJ8_newLength_cabcc cJ8_newLength_cabcc 4 (some .int) 1 14 rtI [sI a0, sI a1, sI a2] g (f_J8_newLength_cabcc z a0 a1 a2 g) := by
  refine FM.entry (by decide +kernel) (Nat.le_of_ble_eq_true rfl) (fun X hX => ?_)
  unfold f_J8_newLength_cabcc
  show J yJ8_newLength_cabcc cJ8_newLength_cabcc 4 (some .int) 1 14 X g 0 [(0, sI a0), (1, sI a1), (2, sI a2)] [] _
  refine j_iload_n (pc := 0) 0 dJ8_newLength_cabcc_0 rfl rfl ?_
  refine j_iload_n (pc := 1) 1 dJ8_newLength_cabcc_1 rfl rfl ?_
  refine j_iload_n (pc := 2) 2 dJ8_newLength_cabcc_2 rfl rfl ?_
  refine j_max (pc := 3) (own := RJ8) dJ8_newLength_cabcc_3 lM_J8_194 rfl ⟨Nat.le_of_ble_eq_true rfl, Nat.le_of_ble_eq_true rfl⟩ ?_
  refine j_iadd (pc := 6) dJ8_newLength_cabcc_6 ?_
  refine j_istore_n (pc := 7) (lv' := [(3, sI (a0 + (imax a1 a2))), (0, sI a0), (1, sI a1), (2, sI a2)]) dJ8_newLength_cabcc_7 rfl (by decide) rfl ?_
  refine j_iconst (pc := 8) (v := 0) dJ8_newLength_cabcc_8 (by decide) ?_
  refine j_iload_n (pc := 9) 0 dJ8_newLength_cabcc_9 rfl rfl ?_
  refine j_icmp_ge (pc := 10) (tgt := 21) dJ8_newLength_cabcc_10 (by decide) rfl (fun hc => ?_) (fun hc => ?_)
  · exact J.none
  · refine j_iload_n (pc := 13) 0 dJ8_newLength_cabcc_13 rfl rfl ?_
    refine j_ldc (pc := 14) (own := RJ8) (v := 2147483639) dJ8_newLength_cabcc_14 rfl lk_J8_200 ?_
    refine j_icmp_gt (pc := 16) (tgt := 21) dJ8_newLength_cabcc_16 (by decide) rfl (fun hc => ?_) (fun hc => ?_)
    · exact J.none
    · refine j_iload_n (pc := 19) 0 dJ8_newLength_cabcc_19 rfl rfl ?_
      exact j_ireturn dJ8_newLength_cabcc_20 hX rfl rfl
/-! J7_copyOf_6403c -/
noncomputable def f_J7_copyOf_6403c (z : Nat) (a0 : Option Nm) (a1 : Int32) (a2 : Option Nm) (g : Hp) : Option ((Option Nm) × Hp) :=
  (acq a2 (some (19, 0)) g).bind fun zz => if zz = true then ((mkR (nca a0, nix a0 + 1) a1 g).bind fun q1 =>
    (alen a0 q1.2).bind fun x2 =>
    (cpyR a0 0 q1.1 0 (imin x2 a1) q1.2).bind fun g3 =>
    some (q1.1, g3))
  else (none)
set_option maxRecDepth 20000 in
theorem m_J7_copyOf_6403c (z : Nat) (a0 : Option Nm) (a1 : Int32) (a2 : Option Nm) (g : Hp) : FM yJ7_copyOf_6403c cJ7_copyOf_6403c 4 (some (.array (.object "java/lang/Object"))) 1 18 rtR [sR a0, sI a1, sR a2] g (f_J7_copyOf_6403c z a0 a1 a2 g) := by
  refine FM.entry (by decide +kernel) (Nat.le_of_ble_eq_true rfl) (fun X hX => ?_)
  unfold f_J7_copyOf_6403c
  show J yJ7_copyOf_6403c cJ7_copyOf_6403c 4 (some (.array (.object "java/lang/Object"))) 1 18 X g 0 [(0, sR a0), (1, sI a1), (2, sR a2)] [] _
  refine j_aload_n (pc := 0) 2 dJ7_copyOf_6403c_0 rfl rfl ?_
  refine j_ldcC (pc := 1) (own := RJ7) dJ7_copyOf_6403c_1 rfl lq_J7_110 ?_
  refine b_acmp_ne (tgt := 13) dJ7_copyOf_6403c_3 (by decide) rfl ?_ ?_
  · exact J.none
  · refine j_iload_n (pc := 6) 1 dJ7_copyOf_6403c_6 rfl rfl ?_
    refine j_mkR (pc := 7) (own := RJ7) dJ7_copyOf_6403c_7 rfl lq_J7_2 rfl (fun q1r q1g => ?_)
    refine j_goto (pc := 10) (tgt := 24) dJ7_copyOf_6403c_10 (by decide) ?_
    refine j_astore_n (pc := 24) (lv' := [(3, sR q1r), (0, sR a0), (1, sI a1), (2, sR a2)]) dJ7_copyOf_6403c_24 rfl (by decide) rfl ?_
    refine j_aload_n (pc := 25) 1 dJ7_copyOf_6403c_25 rfl rfl ?_
    refine j_iconst (pc := 26) (v := 0) dJ7_copyOf_6403c_26 (by decide) ?_
    refine j_aload_n (pc := 27) 0 dJ7_copyOf_6403c_27 rfl rfl ?_
    refine j_iconst (pc := 28) (v := 0) dJ7_copyOf_6403c_28 (by decide) ?_
    refine j_aload_n (pc := 29) 1 dJ7_copyOf_6403c_29 rfl rfl ?_
    refine j_alen (pc := 30) dJ7_copyOf_6403c_30 rfl (fun x2 => ?_)
    refine j_iload_n (pc := 31) 2 dJ7_copyOf_6403c_31 rfl rfl ?_
    refine j_min (pc := 32) (own := RJ7) dJ7_copyOf_6403c_32 lM_J7_304 rfl ⟨Nat.le_of_ble_eq_true rfl, Nat.le_of_ble_eq_true rfl⟩ ?_
    refine j_cpyR (pc := 35) (own := RJ7) dJ7_copyOf_6403c_35 la_J7_150 rfl ⟨Nat.le_of_ble_eq_true rfl, Nat.le_of_ble_eq_true rfl⟩ rfl (fun g3 => ?_)
    refine j_aload_n (pc := 38) 0 dJ7_copyOf_6403c_38 rfl rfl ?_
    exact j_areturn dJ7_copyOf_6403c_39 hX rfl (Or.inr ⟨_, rfl⟩) rfl
/-! J7_copyOf_1904c -/
noncomputable def f_J7_copyOf_1904c (z : Nat) (a0 : Option Nm) (a1 : Int32) (g : Hp) : Option ((Option Nm) × Hp) :=
  (gclas a0).bind fun x1 =>
  (f_J7_copyOf_6403c z a0 a1 x1 g).bind fun q2 =>
  some (q2.1, q2.2)
set_option maxRecDepth 20000 in
theorem m_J7_copyOf_1904c (z : Nat) (a0 : Option Nm) (a1 : Int32) (g : Hp) : FM yJ7_copyOf_1904c cJ7_copyOf_1904c 2 (some (.array (.object "java/lang/Object"))) 2 41 rtR [sR a0, sI a1] g (f_J7_copyOf_1904c z a0 a1 g) := by
  refine FM.entry (by decide +kernel) (Nat.le_of_ble_eq_true rfl) (fun X hX => ?_)
  unfold f_J7_copyOf_1904c
  show J yJ7_copyOf_1904c cJ7_copyOf_1904c 2 (some (.array (.object "java/lang/Object"))) 2 41 X g 0 [(0, sR a0), (1, sI a1)] [] _
  refine j_aload_n (pc := 0) 0 dJ7_copyOf_1904c_0 rfl rfl ?_
  refine j_iload_n (pc := 1) 1 dJ7_copyOf_1904c_1 rfl rfl ?_
  refine j_aload_n (pc := 2) 0 dJ7_copyOf_1904c_2 rfl rfl ?_
  refine j_gclas (pc := 3) (own := RJ7) dJ7_copyOf_1904c_3 lG_J7_86 rfl ⟨Nat.le_of_ble_eq_true rfl, Nat.le_of_ble_eq_true rfl⟩ rfl (fun x1 => ?_)
  refine j_callS (pc := 6) (own := RJ7) [sR a0, sI a1, sR x1] [] dJ7_copyOf_1904c_6 lc_J7_300 ls_J7_copyOf_6403c rfl (m_J7_copyOf_6403c z a0 a1 x1 g) ⟨⟨Nat.le_of_ble_eq_true rfl, Nat.le_of_ble_eq_true rfl⟩, Nat.le_of_ble_eq_true rfl⟩ rfl rfl (fun q2r q2g => ?_)
  exact j_areturn dJ7_copyOf_1904c_9 hX rfl (Or.inr ⟨_, rfl⟩) rfl
/-! Jx4a65c_grow_92f84 -/
noncomputable def f_Jx4a65c_grow_92f84 (z : Nat) (t : Option Nm) (a0 : Int32) (g : Hp) : Option ((Option Nm) × Hp) :=
  (getR t 0 1 g).bind fun x1 =>
  (alen x1 g).bind fun x2 =>
  if 0 < x2 then ((f_J8_newLength_cabcc z x2 (a0 - x2) (x2 >>> (1 &&& 31)) g).bind fun q3 =>
    (getR t 0 1 q3.2).bind fun x4 =>
    (f_J7_copyOf_1904c z x4 q3.1 q3.2).bind fun q5 =>
    (putR t 0 1 q5.1 q5.2).bind fun g6 =>
    some (q5.1, g6))
  else ((getR t 0 1 g).bind fun x7 =>
    (acq x7 (some (17, 0)) g).bind fun zz => if zz = true then ((mkR (12 + nix t, 0) (imax 10 a0) g).bind fun q8 =>
      (putR t 0 1 q8.1 q8.2).bind fun g9 =>
      some (q8.1, g9))
    else ((f_J8_newLength_cabcc z x2 (a0 - x2) (x2 >>> (1 &&& 31)) g).bind fun q10 =>
      (getR t 0 1 q10.2).bind fun x11 =>
      (f_J7_copyOf_1904c z x11 q10.1 q10.2).bind fun q12 =>
      (putR t 0 1 q12.1 q12.2).bind fun g13 =>
      some (q12.1, g13)))
set_option maxRecDepth 20000 in
theorem m_Jx4a65c_grow_92f84 (z : Nat) (t : Option Nm) (a0 : Int32) (g : Hp) : FM yJx4a65c_grow_92f84 cJx4a65c_grow_92f84 4 (some (.array (.object "java/lang/Object"))) 3 62 rtR [sR t, sI a0] g (f_Jx4a65c_grow_92f84 z t a0 g) := by
  refine FM.entry (by decide +kernel) (Nat.le_of_ble_eq_true rfl) (fun X hX => ?_)
  unfold f_Jx4a65c_grow_92f84
  show J yJx4a65c_grow_92f84 cJx4a65c_grow_92f84 4 (some (.array (.object "java/lang/Object"))) 3 62 X g 0 [(0, sR t), (1, sI a0)] [] _
  refine j_aload_n (pc := 0) 0 dJx4a65c_grow_92f84_0 rfl rfl ?_
  refine j_getR (pc := 1) (own := RJx4a65c) dJx4a65c_grow_92f84_1 lf_Jx4a65c_9 rfl rfl (fun x1 => ?_)
  refine j_alen (pc := 4) dJx4a65c_grow_92f84_4 rfl (fun x2 => ?_)
  refine j_istore_n (pc := 5) (lv' := [(2, sI x2), (0, sR t), (1, sI a0)]) dJx4a65c_grow_92f84_5 rfl (by decide) rfl ?_
  refine j_iload_n (pc := 6) 0 dJx4a65c_grow_92f84_6 rfl rfl ?_
  refine j_if_gt (pc := 7) (tgt := 20) dJx4a65c_grow_92f84_7 (by decide) rfl (fun hc => ?_) (fun hc => ?_)
  · refine j_iload_n (pc := 20) 0 dJx4a65c_grow_92f84_20 rfl rfl ?_
    refine j_iload_n (pc := 21) 2 dJx4a65c_grow_92f84_21 rfl rfl ?_
    refine j_iload_n (pc := 22) 0 dJx4a65c_grow_92f84_22 rfl rfl ?_
    refine j_isub (pc := 23) dJx4a65c_grow_92f84_23 ?_
    refine j_iload_n (pc := 24) 0 dJx4a65c_grow_92f84_24 rfl rfl ?_
    refine j_iconst (pc := 25) (v := 1) dJx4a65c_grow_92f84_25 (by decide) ?_
    refine j_ishr (pc := 26) dJx4a65c_grow_92f84_26 ?_
    refine j_callS (pc := 27) (own := RJx4a65c) [sI x2, sI (a0 - x2), sI (x2 >>> (1 &&& 31))] [] dJx4a65c_grow_92f84_27 lc_Jx4a65c_73 ls_J8_newLength_cabcc rfl (m_J8_newLength_cabcc z x2 (a0 - x2) (x2 >>> (1 &&& 31)) g) ⟨⟨Nat.le_of_ble_eq_true rfl, Nat.le_of_ble_eq_true rfl⟩, Nat.le_of_ble_eq_true rfl⟩ rfl rfl (fun q3r q3g => ?_)
    refine j_istore_n (pc := 30) (lv' := [(3, sI q3r), (2, sI x2), (0, sR t), (1, sI a0)]) dJx4a65c_grow_92f84_30 rfl (by decide) rfl ?_
    refine j_aload_n (pc := 31) 2 dJx4a65c_grow_92f84_31 rfl rfl ?_
    refine j_aload_n (pc := 32) 2 dJx4a65c_grow_92f84_32 rfl rfl ?_
    refine j_getR (pc := 33) (own := RJx4a65c) dJx4a65c_grow_92f84_33 lf_Jx4a65c_9 rfl rfl (fun x4 => ?_)
    refine j_iload_n (pc := 36) 0 dJx4a65c_grow_92f84_36 rfl rfl ?_
    refine j_callS (pc := 37) (own := RJx4a65c) [sR x4, sI q3r] [sR t] dJx4a65c_grow_92f84_37 lc_Jx4a65c_66 ls_J7_copyOf_1904c rfl (m_J7_copyOf_1904c z x4 q3r q3g) ⟨⟨Nat.le_of_ble_eq_true rfl, Nat.le_of_ble_eq_true rfl⟩, Nat.le_of_ble_eq_true rfl⟩ rfl rfl (fun q5r q5g => ?_)
    refine j_dup_x1 (pc := 40) dJx4a65c_grow_92f84_40 rfl rfl ?_
    refine j_putR (pc := 41) (own := RJx4a65c) dJx4a65c_grow_92f84_41 lf_Jx4a65c_9 lt_0_1 rfl lw_Jx4a65c_9_Jx4a65c_grow_92f84 rfl rfl (fun g6 => ?_)
    exact j_areturn dJx4a65c_grow_92f84_44 hX rfl (Or.inr ⟨_, rfl⟩) rfl
  · refine j_aload_n (pc := 10) 1 dJx4a65c_grow_92f84_10 rfl rfl ?_
    refine j_getR (pc := 11) (own := RJx4a65c) dJx4a65c_grow_92f84_11 lf_Jx4a65c_9 rfl rfl (fun x7 => ?_)
    refine j_gdef (pc := 14) (own := RJx4a65c) dJx4a65c_grow_92f84_14 rfl lg_Jx4a65c_39 ?_
    refine b_acmp_eq (tgt := 45) dJx4a65c_grow_92f84_17 (by decide) rfl ?_ ?_
    · refine j_aload_n (pc := 45) 1 dJx4a65c_grow_92f84_45 rfl rfl ?_
      refine j_bipush (pc := 46) (v := 10) dJx4a65c_grow_92f84_46 (by decide) ?_
      refine j_iload_n (pc := 48) 2 dJx4a65c_grow_92f84_48 rfl rfl ?_
      refine j_max (pc := 49) (own := RJx4a65c) dJx4a65c_grow_92f84_49 lM_Jx4a65c_79 rfl ⟨Nat.le_of_ble_eq_true rfl, Nat.le_of_ble_eq_true rfl⟩ ?_
      refine j_mkR (pc := 52) (own := RJx4a65c) dJx4a65c_grow_92f84_52 rfl lq_Jx4a65c_7 rfl (fun q8r q8g => ?_)
      refine j_dup_x1 (pc := 55) dJx4a65c_grow_92f84_55 rfl rfl ?_
      refine j_putR (pc := 56) (own := RJx4a65c) dJx4a65c_grow_92f84_56 lf_Jx4a65c_9 lt_0_1 rfl lw_Jx4a65c_9_Jx4a65c_grow_92f84 rfl rfl (fun g9 => ?_)
      exact j_areturn dJx4a65c_grow_92f84_59 hX rfl (Or.inr ⟨_, rfl⟩) rfl
    · refine j_iload_n (pc := 20) 0 dJx4a65c_grow_92f84_20 rfl rfl ?_
      refine j_iload_n (pc := 21) 2 dJx4a65c_grow_92f84_21 rfl rfl ?_
      refine j_iload_n (pc := 22) 0 dJx4a65c_grow_92f84_22 rfl rfl ?_
      refine j_isub (pc := 23) dJx4a65c_grow_92f84_23 ?_
      refine j_iload_n (pc := 24) 0 dJx4a65c_grow_92f84_24 rfl rfl ?_
      refine j_iconst (pc := 25) (v := 1) dJx4a65c_grow_92f84_25 (by decide) ?_
      refine j_ishr (pc := 26) dJx4a65c_grow_92f84_26 ?_
      refine j_callS (pc := 27) (own := RJx4a65c) [sI x2, sI (a0 - x2), sI (x2 >>> (1 &&& 31))] [] dJx4a65c_grow_92f84_27 lc_Jx4a65c_73 ls_J8_newLength_cabcc rfl (m_J8_newLength_cabcc z x2 (a0 - x2) (x2 >>> (1 &&& 31)) g) ⟨⟨Nat.le_of_ble_eq_true rfl, Nat.le_of_ble_eq_true rfl⟩, Nat.le_of_ble_eq_true rfl⟩ rfl rfl (fun q10r q10g => ?_)
      refine j_istore_n (pc := 30) (lv' := [(3, sI q10r), (2, sI x2), (0, sR t), (1, sI a0)]) dJx4a65c_grow_92f84_30 rfl (by decide) rfl ?_
      refine j_aload_n (pc := 31) 2 dJx4a65c_grow_92f84_31 rfl rfl ?_
      refine j_aload_n (pc := 32) 2 dJx4a65c_grow_92f84_32 rfl rfl ?_
      refine j_getR (pc := 33) (own := RJx4a65c) dJx4a65c_grow_92f84_33 lf_Jx4a65c_9 rfl rfl (fun x11 => ?_)
      refine j_iload_n (pc := 36) 0 dJx4a65c_grow_92f84_36 rfl rfl ?_
      refine j_callS (pc := 37) (own := RJx4a65c) [sR x11, sI q10r] [sR t] dJx4a65c_grow_92f84_37 lc_Jx4a65c_66 ls_J7_copyOf_1904c rfl (m_J7_copyOf_1904c z x11 q10r q10g) ⟨⟨Nat.le_of_ble_eq_true rfl, Nat.le_of_ble_eq_true rfl⟩, Nat.le_of_ble_eq_true rfl⟩ rfl rfl (fun q12r q12g => ?_)
      refine j_dup_x1 (pc := 40) dJx4a65c_grow_92f84_40 rfl rfl ?_
      refine j_putR (pc := 41) (own := RJx4a65c) dJx4a65c_grow_92f84_41 lf_Jx4a65c_9 lt_0_1 rfl lw_Jx4a65c_9_Jx4a65c_grow_92f84 rfl rfl (fun g13 => ?_)
      exact j_areturn dJx4a65c_grow_92f84_44 hX rfl (Or.inr ⟨_, rfl⟩) rfl
/-! Jx4a65c_grow_d5877 -/
noncomputable def f_Jx4a65c_grow_d5877 (z : Nat) (t : Option Nm) (g : Hp) : Option ((Option Nm) × Hp) :=
  (getI t 0 2 g).bind fun x1 =>
  (ick t 0 (f_Jx4a65c_grow_92f84 z t (x1 + 1) g)).bind fun q2 =>
  some (q2.1, q2.2)
set_option maxRecDepth 20000 in
theorem m_Jx4a65c_grow_d5877 (z : Nat) (t : Option Nm) (g : Hp) : FM yJx4a65c_grow_d5877 cJx4a65c_grow_d5877 1 (some (.array (.object "java/lang/Object"))) 4 85 rtR [sR t] g (f_Jx4a65c_grow_d5877 z t g) := by
  refine FM.entry (by decide +kernel) (Nat.le_of_ble_eq_true rfl) (fun X hX => ?_)
  unfold f_Jx4a65c_grow_d5877
  show J yJx4a65c_grow_d5877 cJx4a65c_grow_d5877 1 (some (.array (.object "java/lang/Object"))) 4 85 X g 0 [(0, sR t)] [] _
  refine j_aload_n (pc := 0) 0 dJx4a65c_grow_d5877_0 rfl rfl ?_
  refine j_aload_n (pc := 1) 0 dJx4a65c_grow_d5877_1 rfl rfl ?_
  refine j_getI (pc := 2) (own := RJx4a65c) dJx4a65c_grow_d5877_2 lf_Jx4a65c_48 rfl rfl (fun x1 => ?_)
  refine j_iconst (pc := 5) (v := 1) dJx4a65c_grow_d5877_5 (by decide) ?_
  refine j_iadd (pc := 6) dJx4a65c_grow_d5877_6 ?_
  refine j_callV (pc := 7) (own := RJx4a65c) [sI (x1 + 1)] [] dJx4a65c_grow_d5877_7 lc_Jx4a65c_69 lv_Jx4a65c_grow_92f84 rfl (m_Jx4a65c_grow_92f84 z t (x1 + 1) g) ⟨⟨Nat.le_of_ble_eq_true rfl, Nat.le_of_ble_eq_true rfl⟩, Nat.le_of_ble_eq_true rfl⟩ rfl rfl (fun q2r q2g => ?_)
  exact j_areturn dJx4a65c_grow_d5877_10 hX rfl (Or.inr ⟨_, rfl⟩) rfl
/-! Jx4a65c_add_72be8 -/
noncomputable def f_Jx4a65c_add_72be8 (z : Nat) (t : Option Nm) (a0 : Option Nm) (a1 : Option Nm) (a2 : Int32) (g : Hp) : Option (Unit × Hp) :=
  (alen a1 g).bind fun x1 =>
  ((if a2 = x1 then ((ick t 0 (f_Jx4a65c_grow_d5877 z t g)).bind fun q2 =>
      some (q2.1, q2.2))
    else (some (a1, g))) : Option (Option Nm × Hp)).bind fun q3 =>
  (astR q3.1 a2 a0 q3.2).bind fun g4 =>
  (putI t 0 2 (a2 + 1) g4).bind fun g5 =>
  some ((), g5)
set_option maxRecDepth 20000 in
theorem m_Jx4a65c_add_72be8 (z : Nat) (t : Option Nm) (a0 : Option Nm) (a1 : Option Nm) (a2 : Int32) (g : Hp) : FM yJx4a65c_add_72be8 cJx4a65c_add_72be8 4 none 5 105 rtV [sR t, sR a0, sR a1, sI a2] g (f_Jx4a65c_add_72be8 z t a0 a1 a2 g) := by
  refine FM.entry (by decide +kernel) (Nat.le_of_ble_eq_true rfl) (fun X hX => ?_)
  unfold f_Jx4a65c_add_72be8
  show J yJx4a65c_add_72be8 cJx4a65c_add_72be8 4 none 5 105 X g 0 [(0, sR t), (1, sR a0), (2, sR a1), (3, sI a2)] [] _
  refine j_iload_n (pc := 0) 3 dJx4a65c_add_72be8_0 rfl rfl ?_
  refine j_aload_n (pc := 1) 2 dJx4a65c_add_72be8_1 rfl rfl ?_
  refine j_alen (pc := 2) dJx4a65c_add_72be8_2 rfl (fun x1 => ?_)
  refine J.jn (σ := Option Nm × Hp) (fun q3 pr => J yJx4a65c_add_72be8 cJx4a65c_add_72be8 4 none 5 105 X q3.2 11 [(0, sR t), (1, sR a0), (2, sR q3.1), (3, sI a2)] [] pr) (fun K11 hK11 => ?_) (fun q3 => ?_)
  · refine j_icmp_ne (pc := 3) (tgt := 11) dJx4a65c_add_72be8_3 (by decide) bi (fun hc => ?_) (fun hc => ?_)
    · exact hK11 (a1, g)
    · refine j_aload_n (pc := 6) 0 dJx4a65c_add_72be8_6 rfl rfl ?_
      refine j_callV (pc := 7) (own := RJx4a65c) [] [] dJx4a65c_add_72be8_7 lc_Jx4a65c_129 lv_Jx4a65c_grow_d5877 rfl (m_Jx4a65c_grow_d5877 z t g) ⟨⟨Nat.le_of_ble_eq_true rfl, Nat.le_of_ble_eq_true rfl⟩, Nat.le_of_ble_eq_true rfl⟩ rfl bb (fun q2r q2g => ?_)
      refine j_astore_n (pc := 10) (lv' := [(2, sR q2r), (0, sR t), (1, sR a0), (3, sI a2)]) dJx4a65c_add_72be8_10 rfl (by decide) rfl ?_
      refine J.sub [1, 2, 0, 3] rfl ?_
      exact hK11 (q2r, q2g)
  · refine j_aload_n (pc := 11) 2 dJx4a65c_add_72be8_11 rfl rfl ?_
    refine j_iload_n (pc := 12) 3 dJx4a65c_add_72be8_12 rfl rfl ?_
    refine j_aload_n (pc := 13) 1 dJx4a65c_add_72be8_13 rfl rfl ?_
    refine j_astR (pc := 14) dJx4a65c_add_72be8_14 rfl (fun g4 => ?_)
    refine j_aload_n (pc := 15) 0 dJx4a65c_add_72be8_15 rfl rfl ?_
    refine j_iload_n (pc := 16) 3 dJx4a65c_add_72be8_16 rfl rfl ?_
    refine j_iconst (pc := 17) (v := 1) dJx4a65c_add_72be8_17 (by decide) ?_
    refine j_iadd (pc := 18) dJx4a65c_add_72be8_18 ?_
    refine j_putI (pc := 19) (own := RJx4a65c) dJx4a65c_add_72be8_19 lf_Jx4a65c_48 lt_0_2 lw_Jx4a65c_48_Jx4a65c_add_72be8 rfl rfl (fun g5 => ?_)
    exact j_return dJx4a65c_add_72be8_22 hX rfl rfl
/-! Jx4a65c_add_9ea2d -/
noncomputable def f_Jx4a65c_add_9ea2d (z : Nat) (t : Option Nm) (a0 : Option Nm) (g : Hp) : Option (Int32 × Hp) :=
  (getI t 0 0 g).bind fun x1 =>
  (putI t 0 0 (x1 + 1) g).bind fun g2 =>
  (getR t 0 1 g2).bind fun x3 =>
  (getI t 0 2 g2).bind fun x4 =>
  (ick t 0 (f_Jx4a65c_add_72be8 z t a0 x3 x4 g2)).bind fun q5 =>
  rtZ 1 q5.2
set_option maxRecDepth 20000 in
theorem m_Jx4a65c_add_9ea2d (z : Nat) (t : Option Nm) (a0 : Option Nm) (g : Hp) : FM yJx4a65c_add_9ea2d cJx4a65c_add_9ea2d 2 (some .boolean) 6 128 rtI [sR t, sR a0] g (f_Jx4a65c_add_9ea2d z t a0 g) := by
  refine FM.entry (by decide +kernel) (Nat.le_of_ble_eq_true rfl) (fun X hX => ?_)
  unfold f_Jx4a65c_add_9ea2d
  show J yJx4a65c_add_9ea2d cJx4a65c_add_9ea2d 2 (some .boolean) 6 128 X g 0 [(0, sR t), (1, sR a0)] [] _
  refine j_aload_n (pc := 0) 0 dJx4a65c_add_9ea2d_0 rfl rfl ?_
  refine j_dup (pc := 1) dJx4a65c_add_9ea2d_1 rfl ?_
  refine j_getI (pc := 2) (own := RJx4a65c) dJx4a65c_add_9ea2d_2 lf_Jx4a65c_63 rfl rfl (fun x1 => ?_)
  refine j_iconst (pc := 5) (v := 1) dJx4a65c_add_9ea2d_5 (by decide) ?_
  refine j_iadd (pc := 6) dJx4a65c_add_9ea2d_6 ?_
  refine j_putI (pc := 7) (own := RJx4a65c) dJx4a65c_add_9ea2d_7 lf_Jx4a65c_63 lt_0_0 lw_Jx4a65c_63_Jx4a65c_add_9ea2d rfl rfl (fun g2 => ?_)
  refine j_aload_n (pc := 10) 0 dJx4a65c_add_9ea2d_10 rfl rfl ?_
  refine j_aload_n (pc := 11) 1 dJx4a65c_add_9ea2d_11 rfl rfl ?_
  refine j_aload_n (pc := 12) 0 dJx4a65c_add_9ea2d_12 rfl rfl ?_
  refine j_getR (pc := 13) (own := RJx4a65c) dJx4a65c_add_9ea2d_13 lf_Jx4a65c_9 rfl rfl (fun x3 => ?_)
  refine j_aload_n (pc := 16) 0 dJx4a65c_add_9ea2d_16 rfl rfl ?_
  refine j_getI (pc := 17) (own := RJx4a65c) dJx4a65c_add_9ea2d_17 lf_Jx4a65c_48 rfl rfl (fun x4 => ?_)
  refine j_callV (pc := 20) (own := RJx4a65c) [sR a0, sR x3, sI x4] [] dJx4a65c_add_9ea2d_20 lc_Jx4a65c_131 lv_Jx4a65c_add_72be8 rfl (m_Jx4a65c_add_72be8 z t a0 x3 x4 g2) ⟨⟨Nat.le_of_ble_eq_true rfl, Nat.le_of_ble_eq_true rfl⟩, Nat.le_of_ble_eq_true rfl⟩ rfl rfl (fun q5r q5g => ?_)
  refine j_iconst (pc := 23) (v := 1) dJx4a65c_add_9ea2d_23 (by decide) ?_
  exact j_zreturn dJx4a65c_add_9ea2d_24 hX rfl rfl
/-! J6_numberOfLeadingZeros_0f7a4 -/
noncomputable def f_J6_numberOfLeadingZeros_0f7a4 (z : Nat) (a0 : Int32) (g : Hp) : Option (Int32 × Hp) :=
  if 0 < a0 then (((if a0 < 65536 then (some (31, a0))
      else (some ((31 + (-16)), ((a0 : Int32).toUInt32 >>> ((16 : Int32).toUInt32 &&& Int32.toUInt32 31)).toInt32))) : Option (Int32 × Int32)).bind fun q1 =>
    ((if q1.2 < 256 then (some (q1.1, q1.2))
      else (some ((q1.1 + (-8)), ((q1.2 : Int32).toUInt32 >>> ((8 : Int32).toUInt32 &&& Int32.toUInt32 31)).toInt32))) : Option (Int32 × Int32)).bind fun q2 =>
    ((if q2.2 < 16 then (some (q2.1, q2.2))
      else (some ((q2.1 + (-4)), ((q2.2 : Int32).toUInt32 >>> ((4 : Int32).toUInt32 &&& Int32.toUInt32 31)).toInt32))) : Option (Int32 × Int32)).bind fun q3 =>
    ((if q3.2 < 4 then (some (q3.1, q3.2))
      else (some ((q3.1 + (-2)), ((q3.2 : Int32).toUInt32 >>> ((2 : Int32).toUInt32 &&& Int32.toUInt32 31)).toInt32))) : Option (Int32 × Int32)).bind fun q4 =>
    some ((q4.1 - ((q4.2 : Int32).toUInt32 >>> ((1 : Int32).toUInt32 &&& Int32.toUInt32 31)).toInt32), g))
  else (if a0 = 0 then (some (32, g))
    else (some (0, g)))
set_option maxRecDepth 20000 in
theorem m_J6_numberOfLeadingZeros_0f7a4 (z : Nat) (a0 : Int32) (g : Hp) : FM yJ6_numberOfLeadingZeros_0f7a4 cJ6_numberOfLeadingZeros_0f7a4 2 (some .int) 0 0 rtI [sI a0] g (f_J6_numberOfLeadingZeros_0f7a4 z a0 g) := by
  refine FM.entry (by decide +kernel) (Nat.le_of_ble_eq_true rfl) (fun X hX => ?_)
  unfold f_J6_numberOfLeadingZeros_0f7a4
  show J yJ6_numberOfLeadingZeros_0f7a4 cJ6_numberOfLeadingZeros_0f7a4 2 (some .int) 0 0 X g 0 [(0, sI a0)] [] _
  refine j_iload_n (pc := 0) 0 dJ6_numberOfLeadingZeros_0f7a4_0 rfl rfl ?_
  refine j_if_gt (pc := 1) (tgt := 15) dJ6_numberOfLeadingZeros_0f7a4_1 (by decide) rfl (fun hc => ?_) (fun hc => ?_)
  · refine j_bipush (pc := 15) (v := 31) dJ6_numberOfLeadingZeros_0f7a4_15 (by decide) ?_
    refine j_istore_n (pc := 17) (lv' := [(1, sI 31), (0, sI a0)]) dJ6_numberOfLeadingZeros_0f7a4_17 rfl (by decide) rfl ?_
    refine j_iload_n (pc := 18) 1 dJ6_numberOfLeadingZeros_0f7a4_18 rfl rfl ?_
    refine j_ldcw (pc := 19) (own := RJ6) (v := 65536) dJ6_numberOfLeadingZeros_0f7a4_19 rfl lk_J6_264 ?_
    refine J.jn (σ := Int32 × Int32) (fun q1 pr => J yJ6_numberOfLeadingZeros_0f7a4 cJ6_numberOfLeadingZeros_0f7a4 2 (some .int) 0 0 X g 33 [(1, sI q1.1), (0, sI q1.2)] [] pr) (fun K33 hK33 => ?_) (fun q1 => ?_)
    · refine j_icmp_lt (pc := 22) (tgt := 33) dJ6_numberOfLeadingZeros_0f7a4_22 (by decide) bi (fun hc => ?_) (fun hc => ?_)
      · exact hK33 (31, a0)
      · refine j_iinc (pc := 25) (v := (31 + (-16))) (lv' := [(1, sI (31 + (-16))), (0, sI a0)]) 0 dJ6_numberOfLeadingZeros_0f7a4_25 rfl rfl (by decide) rfl ?_
        refine j_iload_n (pc := 28) 1 dJ6_numberOfLeadingZeros_0f7a4_28 rfl rfl ?_
        refine j_bipush (pc := 29) (v := 16) dJ6_numberOfLeadingZeros_0f7a4_29 (by decide) ?_
        refine j_iushr (pc := 31) dJ6_numberOfLeadingZeros_0f7a4_31 ?_
        refine j_istore_n (pc := 32) (lv' := [(0, sI ((a0 : Int32).toUInt32 >>> ((16 : Int32).toUInt32 &&& Int32.toUInt32 31)).toInt32), (1, sI (31 + (-16)))]) dJ6_numberOfLeadingZeros_0f7a4_32 rfl (by decide) rfl ?_
        refine J.sub [1, 0] rfl ?_
        exact hK33 ((31 + (-16)), ((a0 : Int32).toUInt32 >>> ((16 : Int32).toUInt32 &&& Int32.toUInt32 31)).toInt32)
    · refine j_iload_n (pc := 33) 1 dJ6_numberOfLeadingZeros_0f7a4_33 rfl rfl ?_
      refine j_sipush (pc := 34) (v := 256) dJ6_numberOfLeadingZeros_0f7a4_34 (by decide) ?_
      refine J.jn (σ := Int32 × Int32) (fun q2 pr => J yJ6_numberOfLeadingZeros_0f7a4 cJ6_numberOfLeadingZeros_0f7a4 2 (some .int) 0 0 X g 48 [(1, sI q2.1), (0, sI q2.2)] [] pr) (fun K48 hK48 => ?_) (fun q2 => ?_)
      · refine j_icmp_lt (pc := 37) (tgt := 48) dJ6_numberOfLeadingZeros_0f7a4_37 (by decide) bi (fun hc => ?_) (fun hc => ?_)
        · exact hK48 (q1.1, q1.2)
        · refine j_iinc (pc := 40) (v := (q1.1 + (-8))) (lv' := [(1, sI (q1.1 + (-8))), (0, sI q1.2)]) 0 dJ6_numberOfLeadingZeros_0f7a4_40 rfl rfl (by decide) rfl ?_
          refine j_iload_n (pc := 43) 1 dJ6_numberOfLeadingZeros_0f7a4_43 rfl rfl ?_
          refine j_bipush (pc := 44) (v := 8) dJ6_numberOfLeadingZeros_0f7a4_44 (by decide) ?_
          refine j_iushr (pc := 46) dJ6_numberOfLeadingZeros_0f7a4_46 ?_
          refine j_istore_n (pc := 47) (lv' := [(0, sI ((q1.2 : Int32).toUInt32 >>> ((8 : Int32).toUInt32 &&& Int32.toUInt32 31)).toInt32), (1, sI (q1.1 + (-8)))]) dJ6_numberOfLeadingZeros_0f7a4_47 rfl (by decide) rfl ?_
          refine J.sub [1, 0] rfl ?_
          exact hK48 ((q1.1 + (-8)), ((q1.2 : Int32).toUInt32 >>> ((8 : Int32).toUInt32 &&& Int32.toUInt32 31)).toInt32)
      · refine j_iload_n (pc := 48) 1 dJ6_numberOfLeadingZeros_0f7a4_48 rfl rfl ?_
        refine j_bipush (pc := 49) (v := 16) dJ6_numberOfLeadingZeros_0f7a4_49 (by decide) ?_
        refine J.jn (σ := Int32 × Int32) (fun q3 pr => J yJ6_numberOfLeadingZeros_0f7a4 cJ6_numberOfLeadingZeros_0f7a4 2 (some .int) 0 0 X g 61 [(1, sI q3.1), (0, sI q3.2)] [] pr) (fun K61 hK61 => ?_) (fun q3 => ?_)
        · refine j_icmp_lt (pc := 51) (tgt := 61) dJ6_numberOfLeadingZeros_0f7a4_51 (by decide) bi (fun hc => ?_) (fun hc => ?_)
          · exact hK61 (q2.1, q2.2)
          · refine j_iinc (pc := 54) (v := (q2.1 + (-4))) (lv' := [(1, sI (q2.1 + (-4))), (0, sI q2.2)]) 0 dJ6_numberOfLeadingZeros_0f7a4_54 rfl rfl (by decide) rfl ?_
            refine j_iload_n (pc := 57) 1 dJ6_numberOfLeadingZeros_0f7a4_57 rfl rfl ?_
            refine j_iconst (pc := 58) (v := 4) dJ6_numberOfLeadingZeros_0f7a4_58 (by decide) ?_
            refine j_iushr (pc := 59) dJ6_numberOfLeadingZeros_0f7a4_59 ?_
            refine j_istore_n (pc := 60) (lv' := [(0, sI ((q2.2 : Int32).toUInt32 >>> ((4 : Int32).toUInt32 &&& Int32.toUInt32 31)).toInt32), (1, sI (q2.1 + (-4)))]) dJ6_numberOfLeadingZeros_0f7a4_60 rfl (by decide) rfl ?_
            refine J.sub [1, 0] rfl ?_
            exact hK61 ((q2.1 + (-4)), ((q2.2 : Int32).toUInt32 >>> ((4 : Int32).toUInt32 &&& Int32.toUInt32 31)).toInt32)
        · refine j_iload_n (pc := 61) 1 dJ6_numberOfLeadingZeros_0f7a4_61 rfl rfl ?_
          refine j_iconst (pc := 62) (v := 4) dJ6_numberOfLeadingZeros_0f7a4_62 (by decide) ?_
          refine J.jn (σ := Int32 × Int32) (fun q4 pr => J yJ6_numberOfLeadingZeros_0f7a4 cJ6_numberOfLeadingZeros_0f7a4 2 (some .int) 0 0 X g 73 [(1, sI q4.1), (0, sI q4.2)] [] pr) (fun K73 hK73 => ?_) (fun q4 => ?_)
          · refine j_icmp_lt (pc := 63) (tgt := 73) dJ6_numberOfLeadingZeros_0f7a4_63 (by decide) bi (fun hc => ?_) (fun hc => ?_)
            · exact hK73 (q3.1, q3.2)
            · refine j_iinc (pc := 66) (v := (q3.1 + (-2))) (lv' := [(1, sI (q3.1 + (-2))), (0, sI q3.2)]) 0 dJ6_numberOfLeadingZeros_0f7a4_66 rfl rfl (by decide) rfl ?_
              refine j_iload_n (pc := 69) 1 dJ6_numberOfLeadingZeros_0f7a4_69 rfl rfl ?_
              refine j_iconst (pc := 70) (v := 2) dJ6_numberOfLeadingZeros_0f7a4_70 (by decide) ?_
              refine j_iushr (pc := 71) dJ6_numberOfLeadingZeros_0f7a4_71 ?_
              refine j_istore_n (pc := 72) (lv' := [(0, sI ((q3.2 : Int32).toUInt32 >>> ((2 : Int32).toUInt32 &&& Int32.toUInt32 31)).toInt32), (1, sI (q3.1 + (-2)))]) dJ6_numberOfLeadingZeros_0f7a4_72 rfl (by decide) rfl ?_
              refine J.sub [1, 0] rfl ?_
              exact hK73 ((q3.1 + (-2)), ((q3.2 : Int32).toUInt32 >>> ((2 : Int32).toUInt32 &&& Int32.toUInt32 31)).toInt32)
          · refine j_iload_n (pc := 73) 0 dJ6_numberOfLeadingZeros_0f7a4_73 rfl rfl ?_
            refine j_iload_n (pc := 74) 1 dJ6_numberOfLeadingZeros_0f7a4_74 rfl rfl ?_
            refine j_iconst (pc := 75) (v := 1) dJ6_numberOfLeadingZeros_0f7a4_75 (by decide) ?_
            refine j_iushr (pc := 76) dJ6_numberOfLeadingZeros_0f7a4_76 ?_
            refine j_isub (pc := 77) dJ6_numberOfLeadingZeros_0f7a4_77 ?_
            exact j_ireturn dJ6_numberOfLeadingZeros_0f7a4_78 hX rfl rfl
  · refine j_iload_n (pc := 4) 0 dJ6_numberOfLeadingZeros_0f7a4_4 rfl rfl ?_
    refine j_if_ne (pc := 5) (tgt := 13) dJ6_numberOfLeadingZeros_0f7a4_5 (by decide) rfl (fun hc => ?_) (fun hc => ?_)
    · refine j_iconst (pc := 13) (v := 0) dJ6_numberOfLeadingZeros_0f7a4_13 (by decide) ?_
      exact j_ireturn dJ6_numberOfLeadingZeros_0f7a4_14 hX rfl rfl
    · refine j_bipush (pc := 8) (v := 32) dJ6_numberOfLeadingZeros_0f7a4_8 (by decide) ?_
      refine j_goto (pc := 10) (tgt := 14) dJ6_numberOfLeadingZeros_0f7a4_10 (by decide) ?_
      exact j_ireturn dJ6_numberOfLeadingZeros_0f7a4_14 hX rfl rfl
end
section
/-! by program: words of the tables -/
set_option maxRecDepth 20000 in
theorem lo_X7_3 : FLI RX7 3 := ⟨⟨List.mem_append_right _ (List.mem_of_getElem? (i := 32) (by decide +kernel)), rfl⟩, ⟨List.mem_append_right _ (List.mem_of_getElem? (i := 25) (by decide +kernel)), rfl⟩, ⟨List.mem_append_right _ (List.mem_of_getElem? (i := 26) (by decide +kernel)), rfl⟩⟩
set_option maxRecDepth 20000 in
theorem lA_int : Cond.arrayClass .int ∈ lw_tbl := List.mem_append_right _ (List.mem_of_getElem? (i := 44) (by decide +kernel))
set_option maxRecDepth 20000 in
theorem inTX7 : ∀ w ∈ u_ws RX7 TX7 1, w ∈ lw_tbl ∧ okW w = true := List.forall_mem_map.mpr fun k hk => by
  have hk2 := List.mem_range.mp hk
  obtain rfl : k = 0 := by omega
  exact ⟨List.mem_append_right _ (List.mem_of_getElem? (i := 41) (by decide +kernel)), rfl⟩
set_option maxRecDepth 20000 in
theorem lf_X7_9 : FLK RX7 9 8 0 true := ⟨RX7, TX7, 1, RX7, ⟨rfl, by decide, rfl, by decide⟩, inTX7, Or.inl ⟨List.mem_append_right _ (List.mem_of_getElem? (i := 40) (by decide +kernel)), rfl⟩, Or.inl rfl⟩
set_option maxRecDepth 20000 in
theorem lt_8_0 : FLT 8 0 (.array .int) := ⟨RX7, TX7, 1, tyX7, rfl, by decide +kernel, tyX7_ok, nmX7⟩
set_option maxRecDepth 20000 in
theorem lw_X7_9_X7_init : FLW yX7_init RX7 9 8 0 := ⟨RX7, TX7, 1, rfl, Or.inr ⟨rfl, rfl, rfl, List.mem_append_right _ (List.mem_of_getElem? (i := 40) (by decide +kernel)), rfl⟩⟩
set_option maxRecDepth 20000 in
theorem lc_X7_19 : FLC RX7 19 yX7_root cX7_root 3 (some .int) 1 := ⟨Or.inl ⟨List.mem_append_right _ (List.mem_of_getElem? (i := 37) (by decide +kernel)), rfl⟩, ⟨List.mem_append_right _ (List.mem_of_getElem? (i := 39) (by decide +kernel)), rfl⟩, ⟨List.mem_append_right _ (List.mem_of_getElem? (i := 2) (by decide +kernel)), rfl⟩, ⟨⟨by decide +kernel, by decide +kernel⟩, by decide +kernel⟩⟩
set_option maxRecDepth 20000 in
theorem ls_X7_root : FLS yX7_root := ⟨List.mem_append_right _ (List.mem_of_getElem? (i := 38) (by decide +kernel)), rfl⟩
set_option maxRecDepth 20000 in
theorem lc_X7_15 : FLC RX7 15 yX7_reckon cX7_reckon 5 none 1 := ⟨Or.inl ⟨List.mem_append_right _ (List.mem_of_getElem? (i := 33) (by decide +kernel)), rfl⟩, ⟨List.mem_append_right _ (List.mem_of_getElem? (i := 36) (by decide +kernel)), rfl⟩, ⟨List.mem_append_right _ (List.mem_of_getElem? (i := 2) (by decide +kernel)), rfl⟩, ⟨⟨by decide +kernel, by decide +kernel⟩, by decide +kernel⟩⟩
set_option maxRecDepth 20000 in
theorem lv_X7_reckon : FLV yX7_reckon 8 := ⟨by decide, by decide +kernel, ⟨List.mem_append_right _ (List.mem_of_getElem? (i := 35) (by decide +kernel)), rfl⟩, ⟨List.mem_append_left _ (List.mem_of_getElem? (i := 0) (by decide +kernel)), rfl⟩⟩
set_option maxRecDepth 20000 in
theorem lM_X7_23 : FLM RX7 23 Lib.Math.abs.name Lib.Math.abs.code 1 := ⟨⟨List.mem_append_right _ (List.mem_of_getElem? (i := 275) (by decide +kernel)), rfl⟩, ⟨List.mem_append_right _ (List.mem_of_getElem? (i := 276) (by decide +kernel)), rfl⟩, ⟨List.mem_append_right _ (List.mem_of_getElem? (i := 9) (by decide +kernel)), rfl⟩, ⟨List.mem_append_right _ (List.mem_of_getElem? (i := 277) (by decide +kernel)), rfl⟩⟩
set_option maxRecDepth 20000 in
theorem lo_X4_3 : FLI RX4 3 := ⟨⟨List.mem_append_right _ (List.mem_of_getElem? (i := 177) (by decide +kernel)), rfl⟩, ⟨List.mem_append_right _ (List.mem_of_getElem? (i := 25) (by decide +kernel)), rfl⟩, ⟨List.mem_append_right _ (List.mem_of_getElem? (i := 26) (by decide +kernel)), rfl⟩⟩
set_option maxRecDepth 20000 in
theorem inTX4 : ∀ w ∈ u_ws RX4 TX4 2, w ∈ lw_tbl ∧ okW w = true := List.forall_mem_map.mpr fun k hk => by
  have hk2 := List.mem_range.mp hk
  rcases (show k = 0 ∨ k = 1 by omega) with rfl | rfl
  · exact ⟨List.mem_append_right _ (List.mem_of_getElem? (i := 180) (by decide +kernel)), rfl⟩
  · exact ⟨List.mem_append_right _ (List.mem_of_getElem? (i := 182) (by decide +kernel)), rfl⟩
set_option maxRecDepth 20000 in
theorem lf_X4_9 : FLK RX4 9 5 0 true := ⟨RX4, TX4, 2, RX4, ⟨rfl, by decide, rfl, by decide⟩, inTX4, Or.inl ⟨List.mem_append_right _ (List.mem_of_getElem? (i := 178) (by decide +kernel)), rfl⟩, Or.inl rfl⟩
set_option maxRecDepth 20000 in
theorem lt_5_0 : FLT 5 0 (.array .int) := ⟨RX4, TX4, 2, tyX4, rfl, by decide +kernel, tyX4_ok, nmX4⟩
set_option maxRecDepth 20000 in
theorem lw_X4_9_X4_init : FLW yX4_init RX4 9 5 0 := ⟨RX4, TX4, 2, rfl, Or.inr ⟨rfl, rfl, rfl, List.mem_append_right _ (List.mem_of_getElem? (i := 178) (by decide +kernel)), rfl⟩⟩
set_option maxRecDepth 20000 in
theorem lf_X4_15 : FLK RX4 15 5 1 false := ⟨RX4, TX4, 2, RX4, ⟨rfl, by decide, rfl, by decide⟩, inTX4, Or.inl ⟨List.mem_append_right _ (List.mem_of_getElem? (i := 179) (by decide +kernel)), rfl⟩, Or.inl rfl⟩
set_option maxRecDepth 20000 in
theorem lt_5_1 : FLT 5 1 .int := ⟨RX4, TX4, 2, tyX4, rfl, by decide +kernel, tyX4_ok, nmX4⟩
set_option maxRecDepth 20000 in
theorem lw_X4_15_X4_init : FLW yX4_init RX4 15 5 1 := ⟨RX4, TX4, 2, rfl, Or.inl rfl⟩
set_option maxRecDepth 20000 in
theorem lo_X5_1 : FLI RX5 1 := ⟨⟨List.mem_append_right _ (List.mem_of_getElem? (i := 171) (by decide +kernel)), rfl⟩, ⟨List.mem_append_right _ (List.mem_of_getElem? (i := 25) (by decide +kernel)), rfl⟩, ⟨List.mem_append_right _ (List.mem_of_getElem? (i := 26) (by decide +kernel)), rfl⟩⟩
set_option maxRecDepth 20000 in
theorem ln_X5_7 : FLN RX5 7 5 := ⟨RX4, TX4, 2, tyX4, ⟨rfl, by decide, rfl⟩, tyX4_ok, (fun j hj b hb => by
  rcases (show j = 0 ∨ j = 1 by omega) with rfl | rfl <;> (cases hb; rfl)), inTX4, ⟨List.mem_append_right _ (List.mem_of_getElem? (i := 172) (by decide +kernel)), rfl⟩, ⟨List.mem_append_right _ (List.mem_of_getElem? (i := 173) (by decide +kernel)), rfl⟩, ⟨List.mem_append_right _ (List.mem_of_getElem? (i := 13) (by decide +kernel)), rfl⟩⟩
set_option maxRecDepth 20000 in
theorem lc_X5_9 : FLC RX5 9 yX4_init cX4_init 1 none 0 := ⟨Or.inr ⟨RX8, List.mem_append_right _ (List.mem_of_getElem? (i := 174) (by decide +kernel))⟩, ⟨List.mem_append_right _ (List.mem_of_getElem? (i := 176) (by decide +kernel)), rfl⟩, ⟨List.mem_append_right _ (List.mem_of_getElem? (i := 13) (by decide +kernel)), rfl⟩, ⟨⟨by decide +kernel, by decide +kernel⟩, by decide +kernel⟩⟩
set_option maxRecDepth 20000 in
theorem li_X4_init : FLN0 yX4_init := ⟨by decide +kernel, List.mem_append_right _ (List.mem_of_getElem? (i := 175) (by decide +kernel)), rfl⟩
set_option maxRecDepth 20000 in
theorem inTX5 : ∀ w ∈ u_ws RX5 TX5 3, w ∈ lw_tbl ∧ okW w = true := List.forall_mem_map.mpr fun k hk => by
  have hk2 := List.mem_range.mp hk
  rcases (show k = 0 ∨ k = 1 ∨ k = 2 by omega) with rfl | rfl | rfl
  · exact ⟨List.mem_append_right _ (List.mem_of_getElem? (i := 189) (by decide +kernel)), rfl⟩
  · exact ⟨List.mem_append_right _ (List.mem_of_getElem? (i := 191) (by decide +kernel)), rfl⟩
  · exact ⟨List.mem_append_right _ (List.mem_of_getElem? (i := 193) (by decide +kernel)), rfl⟩
set_option maxRecDepth 20000 in
theorem lf_X5_10 : FLK RX5 10 6 1 true := ⟨RX5, TX5, 3, RX5, ⟨rfl, by decide, rfl, by decide⟩, inTX5, Or.inl ⟨List.mem_append_right _ (List.mem_of_getElem? (i := 187) (by decide +kernel)), rfl⟩, Or.inl rfl⟩
set_option maxRecDepth 20000 in
theorem lt_6_1 : FLT 6 1 (.object "FirstSeconds$Row") := ⟨RX5, TX5, 3, tyX5, rfl, by decide +kernel, tyX5_ok, nmX5⟩
set_option maxRecDepth 20000 in
theorem lw_X5_10_X5_init : FLW yX5_init RX5 10 6 1 := ⟨RX5, TX5, 3, rfl, Or.inr ⟨rfl, rfl, rfl, List.mem_append_right _ (List.mem_of_getElem? (i := 187) (by decide +kernel)), rfl⟩⟩
set_option maxRecDepth 20000 in
theorem lf_X5_16 : FLK RX5 16 6 0 false := ⟨RX5, TX5, 3, RX5, ⟨rfl, by decide, rfl, by decide⟩, inTX5, Or.inl ⟨List.mem_append_right _ (List.mem_of_getElem? (i := 185) (by decide +kernel)), rfl⟩, Or.inl rfl⟩
set_option maxRecDepth 20000 in
theorem lt_6_0 : FLT 6 0 .int := ⟨RX5, TX5, 3, tyX5, rfl, by decide +kernel, tyX5_ok, nmX5⟩
set_option maxRecDepth 20000 in
theorem lw_X5_16_X5_init : FLW yX5_init RX5 16 6 0 := ⟨RX5, TX5, 3, rfl, Or.inr ⟨rfl, rfl, rfl, List.mem_append_right _ (List.mem_of_getElem? (i := 185) (by decide +kernel)), rfl⟩⟩
set_option maxRecDepth 20000 in
theorem lo_X6_1 : FLI RX6 1 := ⟨⟨List.mem_append_right _ (List.mem_of_getElem? (i := 261) (by decide +kernel)), rfl⟩, ⟨List.mem_append_right _ (List.mem_of_getElem? (i := 25) (by decide +kernel)), rfl⟩, ⟨List.mem_append_right _ (List.mem_of_getElem? (i := 26) (by decide +kernel)), rfl⟩⟩
set_option maxRecDepth 20000 in
theorem inTX6 : ∀ w ∈ u_ws RX6 TX6 1, w ∈ lw_tbl ∧ okW w = true := List.forall_mem_map.mpr fun k hk => by
  have hk2 := List.mem_range.mp hk
  obtain rfl : k = 0 := by omega
  exact ⟨List.mem_append_right _ (List.mem_of_getElem? (i := 264) (by decide +kernel)), rfl⟩
set_option maxRecDepth 20000 in
theorem lf_X6_7 : FLK RX6 7 7 0 false := ⟨RX6, TX6, 1, RX6, ⟨rfl, by decide, rfl, by decide⟩, inTX6, Or.inl ⟨List.mem_append_right _ (List.mem_of_getElem? (i := 262) (by decide +kernel)), rfl⟩, Or.inl rfl⟩
set_option maxRecDepth 20000 in
theorem lt_7_0 : FLT 7 0 .int := ⟨RX6, TX6, 1, tyX6, rfl, by decide +kernel, tyX6_ok, nmX6⟩
set_option maxRecDepth 20000 in
theorem lw_X6_7_X6_init : FLW yX6_init RX6 7 7 0 := ⟨RX6, TX6, 1, rfl, Or.inr ⟨rfl, rfl, rfl, List.mem_append_right _ (List.mem_of_getElem? (i := 262) (by decide +kernel)), rfl⟩⟩
set_option maxRecDepth 20000 in
theorem lo_X2_3 : FLI RX2 3 := ⟨⟨List.mem_append_right _ (List.mem_of_getElem? (i := 373) (by decide +kernel)), rfl⟩, ⟨List.mem_append_right _ (List.mem_of_getElem? (i := 25) (by decide +kernel)), rfl⟩, ⟨List.mem_append_right _ (List.mem_of_getElem? (i := 26) (by decide +kernel)), rfl⟩⟩
set_option maxRecDepth 20000 in
theorem inTX2 : ∀ w ∈ u_ws RX2 TX2 5, w ∈ lw_tbl ∧ okW w = true := List.forall_mem_map.mpr fun k hk => by
  have hk2 := List.mem_range.mp hk
  rcases (show k = 0 ∨ k = 1 ∨ k = 2 ∨ k = 3 ∨ k = 4 by omega) with rfl | rfl | rfl | rfl | rfl
  · exact ⟨List.mem_append_right _ (List.mem_of_getElem? (i := 379) (by decide +kernel)), rfl⟩
  · exact ⟨List.mem_append_right _ (List.mem_of_getElem? (i := 381) (by decide +kernel)), rfl⟩
  · exact ⟨List.mem_append_right _ (List.mem_of_getElem? (i := 383) (by decide +kernel)), rfl⟩
  · exact ⟨List.mem_append_right _ (List.mem_of_getElem? (i := 385) (by decide +kernel)), rfl⟩
  · exact ⟨List.mem_append_right _ (List.mem_of_getElem? (i := 387) (by decide +kernel)), rfl⟩
set_option maxRecDepth 20000 in
theorem lf_X2_9 : FLK RX2 9 3 0 false := ⟨RX2, TX2, 5, RX2, ⟨rfl, by decide, rfl, by decide⟩, inTX2, Or.inl ⟨List.mem_append_right _ (List.mem_of_getElem? (i := 374) (by decide +kernel)), rfl⟩, Or.inl rfl⟩
set_option maxRecDepth 20000 in
theorem lt_3_0 : FLT 3 0 .int := ⟨RX2, TX2, 5, tyX2, rfl, by decide +kernel, tyX2_ok, nmX2⟩
set_option maxRecDepth 20000 in
theorem lw_X2_9_X2_init : FLW yX2_init RX2 9 3 0 := ⟨RX2, TX2, 5, rfl, Or.inr ⟨rfl, rfl, rfl, List.mem_append_right _ (List.mem_of_getElem? (i := 374) (by decide +kernel)), rfl⟩⟩
set_option maxRecDepth 20000 in
theorem lf_X2_15 : FLK RX2 15 3 1 false := ⟨RX2, TX2, 5, RX2, ⟨rfl, by decide, rfl, by decide⟩, inTX2, Or.inl ⟨List.mem_append_right _ (List.mem_of_getElem? (i := 375) (by decide +kernel)), rfl⟩, Or.inl rfl⟩
set_option maxRecDepth 20000 in
theorem lt_3_1 : FLT 3 1 .int := ⟨RX2, TX2, 5, tyX2, rfl, by decide +kernel, tyX2_ok, nmX2⟩
set_option maxRecDepth 20000 in
theorem lw_X2_15_X2_init : FLW yX2_init RX2 15 3 1 := ⟨RX2, TX2, 5, rfl, Or.inr ⟨rfl, rfl, rfl, List.mem_append_right _ (List.mem_of_getElem? (i := 375) (by decide +kernel)), rfl⟩⟩
set_option maxRecDepth 20000 in
theorem lf_X2_18 : FLK RX2 18 3 2 false := ⟨RX2, TX2, 5, RX2, ⟨rfl, by decide, rfl, by decide⟩, inTX2, Or.inl ⟨List.mem_append_right _ (List.mem_of_getElem? (i := 376) (by decide +kernel)), rfl⟩, Or.inl rfl⟩
set_option maxRecDepth 20000 in
theorem lt_3_2 : FLT 3 2 .int := ⟨RX2, TX2, 5, tyX2, rfl, by decide +kernel, tyX2_ok, nmX2⟩
set_option maxRecDepth 20000 in
theorem lw_X2_18_X2_init : FLW yX2_init RX2 18 3 2 := ⟨RX2, TX2, 5, rfl, Or.inr ⟨rfl, rfl, rfl, List.mem_append_right _ (List.mem_of_getElem? (i := 376) (by decide +kernel)), rfl⟩⟩
set_option maxRecDepth 20000 in
theorem lf_X2_21 : FLK RX2 21 3 3 false := ⟨RX2, TX2, 5, RX2, ⟨rfl, by decide, rfl, by decide⟩, inTX2, Or.inl ⟨List.mem_append_right _ (List.mem_of_getElem? (i := 377) (by decide +kernel)), rfl⟩, Or.inl rfl⟩
set_option maxRecDepth 20000 in
theorem lt_3_3 : FLT 3 3 .int := ⟨RX2, TX2, 5, tyX2, rfl, by decide +kernel, tyX2_ok, nmX2⟩
set_option maxRecDepth 20000 in
theorem lw_X2_21_X2_init : FLW yX2_init RX2 21 3 3 := ⟨RX2, TX2, 5, rfl, Or.inr ⟨rfl, rfl, rfl, List.mem_append_right _ (List.mem_of_getElem? (i := 377) (by decide +kernel)), rfl⟩⟩
set_option maxRecDepth 20000 in
theorem lf_X2_24 : FLK RX2 24 3 4 false := ⟨RX2, TX2, 5, RX2, ⟨rfl, by decide, rfl, by decide⟩, inTX2, Or.inl ⟨List.mem_append_right _ (List.mem_of_getElem? (i := 378) (by decide +kernel)), rfl⟩, Or.inl rfl⟩
set_option maxRecDepth 20000 in
theorem lt_3_4 : FLT 3 4 .int := ⟨RX2, TX2, 5, tyX2, rfl, by decide +kernel, tyX2_ok, nmX2⟩
set_option maxRecDepth 20000 in
theorem lw_X2_24_X2_init : FLW yX2_init RX2 24 3 4 := ⟨RX2, TX2, 5, rfl, Or.inr ⟨rfl, rfl, rfl, List.mem_append_right _ (List.mem_of_getElem? (i := 378) (by decide +kernel)), rfl⟩⟩
set_option maxRecDepth 20000 in
theorem lo_X3_3 : FLI RX3 3 := ⟨⟨List.mem_append_right _ (List.mem_of_getElem? (i := 393) (by decide +kernel)), rfl⟩, ⟨List.mem_append_right _ (List.mem_of_getElem? (i := 25) (by decide +kernel)), rfl⟩, ⟨List.mem_append_right _ (List.mem_of_getElem? (i := 26) (by decide +kernel)), rfl⟩⟩
set_option maxRecDepth 20000 in
theorem inTX3 : ∀ w ∈ u_ws RX3 TX3 6, w ∈ lw_tbl ∧ okW w = true := List.forall_mem_map.mpr fun k hk => by
  have hk2 := List.mem_range.mp hk
  rcases (show k = 0 ∨ k = 1 ∨ k = 2 ∨ k = 3 ∨ k = 4 ∨ k = 5 by omega) with rfl | rfl | rfl | rfl | rfl | rfl
  · exact ⟨List.mem_append_right _ (List.mem_of_getElem? (i := 405) (by decide +kernel)), rfl⟩
  · exact ⟨List.mem_append_right _ (List.mem_of_getElem? (i := 407) (by decide +kernel)), rfl⟩
  · exact ⟨List.mem_append_right _ (List.mem_of_getElem? (i := 409) (by decide +kernel)), rfl⟩
  · exact ⟨List.mem_append_right _ (List.mem_of_getElem? (i := 411) (by decide +kernel)), rfl⟩
  · exact ⟨List.mem_append_right _ (List.mem_of_getElem? (i := 413) (by decide +kernel)), rfl⟩
  · exact ⟨List.mem_append_right _ (List.mem_of_getElem? (i := 415) (by decide +kernel)), rfl⟩
set_option maxRecDepth 20000 in
theorem lf_X3_9 : FLK RX3 9 4 2 true := ⟨RX3, TX3, 6, RX3, ⟨rfl, by decide, rfl, by decide⟩, inTX3, Or.inl ⟨List.mem_append_right _ (List.mem_of_getElem? (i := 399) (by decide +kernel)), rfl⟩, Or.inl rfl⟩
set_option maxRecDepth 20000 in
theorem lt_4_2 : FLT 4 2 (.array .int) := ⟨RX3, TX3, 6, tyX3, rfl, by decide +kernel, tyX3_ok, nmX3⟩
set_option maxRecDepth 20000 in
theorem lw_X3_9_X3_init : FLW yX3_init RX3 9 4 2 := ⟨RX3, TX3, 6, rfl, Or.inr ⟨rfl, rfl, rfl, List.mem_append_right _ (List.mem_of_getElem? (i := 399) (by decide +kernel)), rfl⟩⟩
set_option maxRecDepth 20000 in
theorem lf_X3_15 : FLK RX3 15 4 4 true := ⟨RX3, TX3, 6, RX3, ⟨rfl, by decide, rfl, by decide⟩, inTX3, Or.inl ⟨List.mem_append_right _ (List.mem_of_getElem? (i := 403) (by decide +kernel)), rfl⟩, Or.inl rfl⟩
set_option maxRecDepth 20000 in
theorem lt_4_4 : FLT 4 4 (.array .int) := ⟨RX3, TX3, 6, tyX3, rfl, by decide +kernel, tyX3_ok, nmX3⟩
set_option maxRecDepth 20000 in
theorem lw_X3_15_X3_init : FLW yX3_init RX3 15 4 4 := ⟨RX3, TX3, 6, rfl, Or.inr ⟨rfl, rfl, rfl, List.mem_append_right _ (List.mem_of_getElem? (i := 403) (by decide +kernel)), rfl⟩⟩
set_option maxRecDepth 20000 in
theorem lf_X3_18 : FLK RX3 18 4 5 true := ⟨RX3, TX3, 6, RX3, ⟨rfl, by decide, rfl, by decide⟩, inTX3, Or.inl ⟨List.mem_append_right _ (List.mem_of_getElem? (i := 404) (by decide +kernel)), rfl⟩, Or.inl rfl⟩
set_option maxRecDepth 20000 in
theorem lt_4_5 : FLT 4 5 (.array .int) := ⟨RX3, TX3, 6, tyX3, rfl, by decide +kernel, tyX3_ok, nmX3⟩
set_option maxRecDepth 20000 in
theorem lw_X3_18_X3_init : FLW yX3_init RX3 18 4 5 := ⟨RX3, TX3, 6, rfl, Or.inr ⟨rfl, rfl, rfl, List.mem_append_right _ (List.mem_of_getElem? (i := 404) (by decide +kernel)), rfl⟩⟩
set_option maxRecDepth 20000 in
theorem lf_X3_21 : FLK RX3 21 4 0 false := ⟨RX3, TX3, 6, RX3, ⟨rfl, by decide, rfl, by decide⟩, inTX3, Or.inl ⟨List.mem_append_right _ (List.mem_of_getElem? (i := 395) (by decide +kernel)), rfl⟩, Or.inl rfl⟩
set_option maxRecDepth 20000 in
theorem lt_4_0 : FLT 4 0 .int := ⟨RX3, TX3, 6, tyX3, rfl, by decide +kernel, tyX3_ok, nmX3⟩
set_option maxRecDepth 20000 in
theorem lw_X3_21_X3_init : FLW yX3_init RX3 21 4 0 := ⟨RX3, TX3, 6, rfl, Or.inr ⟨rfl, rfl, rfl, List.mem_append_right _ (List.mem_of_getElem? (i := 395) (by decide +kernel)), rfl⟩⟩
set_option maxRecDepth 20000 in
theorem lf_X3_25 : FLK RX3 25 4 1 false := ⟨RX3, TX3, 6, RX3, ⟨rfl, by decide, rfl, by decide⟩, inTX3, Or.inl ⟨List.mem_append_right _ (List.mem_of_getElem? (i := 397) (by decide +kernel)), rfl⟩, Or.inl rfl⟩
set_option maxRecDepth 20000 in
theorem lt_4_1 : FLT 4 1 .int := ⟨RX3, TX3, 6, tyX3, rfl, by decide +kernel, tyX3_ok, nmX3⟩
set_option maxRecDepth 20000 in
theorem lw_X3_25_X3_init : FLW yX3_init RX3 25 4 1 := ⟨RX3, TX3, 6, rfl, Or.inr ⟨rfl, rfl, rfl, List.mem_append_right _ (List.mem_of_getElem? (i := 397) (by decide +kernel)), rfl⟩⟩
set_option maxRecDepth 20000 in
theorem lf_X3_32 : FLK RX3 32 4 3 false := ⟨RX3, TX3, 6, RX3, ⟨rfl, by decide, rfl, by decide⟩, inTX3, Or.inl ⟨List.mem_append_right _ (List.mem_of_getElem? (i := 401) (by decide +kernel)), rfl⟩, Or.inl rfl⟩
set_option maxRecDepth 20000 in
theorem lt_4_3 : FLT 4 3 .int := ⟨RX3, TX3, 6, tyX3, rfl, by decide +kernel, tyX3_ok, nmX3⟩
set_option maxRecDepth 20000 in
theorem lw_X3_32_X3_hear : FLW yX3_hear RX3 32 4 3 := ⟨RX3, TX3, 6, rfl, Or.inl rfl⟩
set_option maxRecDepth 20000 in
theorem lc_X3_28 : FLC RX3 28 yX3_hear cX3_hear 3 none 2 := ⟨Or.inl ⟨List.mem_append_right _ (List.mem_of_getElem? (i := 394) (by decide +kernel)), rfl⟩, ⟨List.mem_append_right _ (List.mem_of_getElem? (i := 367) (by decide +kernel)), rfl⟩, ⟨List.mem_append_right _ (List.mem_of_getElem? (i := 18) (by decide +kernel)), rfl⟩, ⟨⟨by decide +kernel, by decide +kernel⟩, by decide +kernel⟩⟩
set_option maxRecDepth 20000 in
theorem lv_X3_hear : FLV yX3_hear 4 := ⟨by decide, by decide +kernel, ⟨List.mem_append_right _ (List.mem_of_getElem? (i := 366) (by decide +kernel)), rfl⟩, ⟨List.mem_append_left _ (List.mem_of_getElem? (i := 17) (by decide +kernel)), rfl⟩⟩
set_option maxRecDepth 20000 in
theorem lo_X0_3 : FLI RX0 3 := ⟨⟨List.mem_append_right _ (List.mem_of_getElem? (i := 76) (by decide +kernel)), rfl⟩, ⟨List.mem_append_right _ (List.mem_of_getElem? (i := 25) (by decide +kernel)), rfl⟩, ⟨List.mem_append_right _ (List.mem_of_getElem? (i := 26) (by decide +kernel)), rfl⟩⟩
set_option maxRecDepth 20000 in
theorem inTX0 : ∀ w ∈ u_ws RX0 TX0 6, w ∈ lw_tbl ∧ okW w = true := List.forall_mem_map.mpr fun k hk => by
  have hk2 := List.mem_range.mp hk
  rcases (show k = 0 ∨ k = 1 ∨ k = 2 ∨ k = 3 ∨ k = 4 ∨ k = 5 by omega) with rfl | rfl | rfl | rfl | rfl | rfl
  · exact ⟨List.mem_append_right _ (List.mem_of_getElem? (i := 89) (by decide +kernel)), rfl⟩
  · exact ⟨List.mem_append_right _ (List.mem_of_getElem? (i := 91) (by decide +kernel)), rfl⟩
  · exact ⟨List.mem_append_right _ (List.mem_of_getElem? (i := 93) (by decide +kernel)), rfl⟩
  · exact ⟨List.mem_append_right _ (List.mem_of_getElem? (i := 95) (by decide +kernel)), rfl⟩
  · exact ⟨List.mem_append_right _ (List.mem_of_getElem? (i := 97) (by decide +kernel)), rfl⟩
  · exact ⟨List.mem_append_right _ (List.mem_of_getElem? (i := 99) (by decide +kernel)), rfl⟩
set_option maxRecDepth 20000 in
theorem lf_X0_9 : FLK RX0 9 1 0 true := ⟨RX0, TX0, 6, RX0, ⟨rfl, by decide, rfl, by decide⟩, inTX0, Or.inl ⟨List.mem_append_right _ (List.mem_of_getElem? (i := 77) (by decide +kernel)), rfl⟩, Or.inl rfl⟩
set_option maxRecDepth 20000 in
theorem lt_1_0 : FLT 1 0 (.array .int) := ⟨RX0, TX0, 6, tyX0, rfl, by decide +kernel, tyX0_ok, nmX0⟩
set_option maxRecDepth 20000 in
theorem lw_X0_9_X0_init : FLW yX0_init RX0 9 1 0 := ⟨RX0, TX0, 6, rfl, Or.inr ⟨rfl, rfl, rfl, List.mem_append_right _ (List.mem_of_getElem? (i := 77) (by decide +kernel)), rfl⟩⟩
set_option maxRecDepth 20000 in
theorem lf_X0_15 : FLK RX0 15 1 1 true := ⟨RX0, TX0, 6, RX0, ⟨rfl, by decide, rfl, by decide⟩, inTX0, Or.inl ⟨List.mem_append_right _ (List.mem_of_getElem? (i := 79) (by decide +kernel)), rfl⟩, Or.inl rfl⟩
set_option maxRecDepth 20000 in
theorem lt_1_1 : FLT 1 1 (.array .int) := ⟨RX0, TX0, 6, tyX0, rfl, by decide +kernel, tyX0_ok, nmX0⟩
set_option maxRecDepth 20000 in
theorem lw_X0_15_X0_init : FLW yX0_init RX0 15 1 1 := ⟨RX0, TX0, 6, rfl, Or.inr ⟨rfl, rfl, rfl, List.mem_append_right _ (List.mem_of_getElem? (i := 79) (by decide +kernel)), rfl⟩⟩
set_option maxRecDepth 20000 in
theorem lf_X0_18 : FLK RX0 18 1 5 false := ⟨RX0, TX0, 6, RX0, ⟨rfl, by decide, rfl, by decide⟩, inTX0, Or.inl ⟨List.mem_append_right _ (List.mem_of_getElem? (i := 87) (by decide +kernel)), rfl⟩, Or.inl rfl⟩
set_option maxRecDepth 20000 in
theorem lt_1_5 : FLT 1 5 .int := ⟨RX0, TX0, 6, tyX0, rfl, by decide +kernel, tyX0_ok, nmX0⟩
set_option maxRecDepth 20000 in
theorem lw_X0_18_X0_init : FLW yX0_init RX0 18 1 5 := ⟨RX0, TX0, 6, rfl, Or.inl rfl⟩
set_option maxRecDepth 20000 in
theorem lw_X0_18_X0_forget : FLW yX0_forget RX0 18 1 5 := ⟨RX0, TX0, 6, rfl, Or.inl rfl⟩
set_option maxRecDepth 20000 in
theorem lw_X0_18_X0_clear : FLW yX0_clear RX0 18 1 5 := ⟨RX0, TX0, 6, rfl, Or.inl rfl⟩
set_option maxRecDepth 20000 in
theorem lk_X0_22 : Cond.constant RX0 22 (-1000000) ∈ lw_tbl := List.mem_append_right _ (List.mem_of_getElem? (i := 336) (by decide +kernel))
set_option maxRecDepth 20000 in
theorem lk_X0_23 : Cond.constant RX0 23 1000000 ∈ lw_tbl := List.mem_append_right _ (List.mem_of_getElem? (i := 337) (by decide +kernel))
set_option maxRecDepth 20000 in
theorem lc_X0_24 : FLC RX0 24 yX7_between cX7_between 5 (some .int) 2 := ⟨Or.inr ⟨RX8, List.mem_append_right _ (List.mem_of_getElem? (i := 342) (by decide +kernel))⟩, ⟨List.mem_append_right _ (List.mem_of_getElem? (i := 274) (by decide +kernel)), rfl⟩, ⟨List.mem_append_right _ (List.mem_of_getElem? (i := 2) (by decide +kernel)), rfl⟩, ⟨⟨by decide +kernel, by decide +kernel⟩, by decide +kernel⟩⟩
set_option maxRecDepth 20000 in
theorem lv_X7_between : FLV yX7_between 8 := ⟨by decide, by decide +kernel, ⟨List.mem_append_right _ (List.mem_of_getElem? (i := 273) (by decide +kernel)), rfl⟩, ⟨List.mem_append_left _ (List.mem_of_getElem? (i := 4) (by decide +kernel)), rfl⟩⟩
set_option maxRecDepth 20000 in
theorem lM_X0_30 : FLM RX0 30 Lib.Math.max.name Lib.Math.max.code 2 := ⟨⟨List.mem_append_right _ (List.mem_of_getElem? (i := 343) (by decide +kernel)), rfl⟩, ⟨List.mem_append_right _ (List.mem_of_getElem? (i := 216) (by decide +kernel)), rfl⟩, ⟨List.mem_append_right _ (List.mem_of_getElem? (i := 9) (by decide +kernel)), rfl⟩, ⟨List.mem_append_right _ (List.mem_of_getElem? (i := 217) (by decide +kernel)), rfl⟩⟩
set_option maxRecDepth 20000 in
theorem lM_X0_35 : FLM RX0 35 Lib.Math.min.name Lib.Math.min.code 2 := ⟨⟨List.mem_append_right _ (List.mem_of_getElem? (i := 344) (by decide +kernel)), rfl⟩, ⟨List.mem_append_right _ (List.mem_of_getElem? (i := 245) (by decide +kernel)), rfl⟩, ⟨List.mem_append_right _ (List.mem_of_getElem? (i := 9) (by decide +kernel)), rfl⟩, ⟨List.mem_append_right _ (List.mem_of_getElem? (i := 246) (by decide +kernel)), rfl⟩⟩
set_option maxRecDepth 20000 in
theorem lf_X0_38 : FLK RX0 38 1 2 false := ⟨RX0, TX0, 6, RX0, ⟨rfl, by decide, rfl, by decide⟩, inTX0, Or.inl ⟨List.mem_append_right _ (List.mem_of_getElem? (i := 81) (by decide +kernel)), rfl⟩, Or.inl rfl⟩
set_option maxRecDepth 20000 in
theorem lt_1_2 : FLT 1 2 .int := ⟨RX0, TX0, 6, tyX0, rfl, by decide +kernel, tyX0_ok, nmX0⟩
set_option maxRecDepth 20000 in
theorem lw_X0_38_X0_countCells : FLW yX0_countCells RX0 38 1 2 := ⟨RX0, TX0, 6, rfl, Or.inl rfl⟩
set_option maxRecDepth 20000 in
theorem lc_X0_41 : FLC RX0 41 yX0_has cX0_has 2 (some .boolean) 1 := ⟨Or.inl ⟨List.mem_append_right _ (List.mem_of_getElem? (i := 349) (by decide +kernel)), rfl⟩, ⟨List.mem_append_right _ (List.mem_of_getElem? (i := 352) (by decide +kernel)), rfl⟩, ⟨List.mem_append_right _ (List.mem_of_getElem? (i := 6) (by decide +kernel)), rfl⟩, ⟨⟨by decide +kernel, by decide +kernel⟩, by decide +kernel⟩⟩
set_option maxRecDepth 20000 in
theorem lv_X0_has : FLV yX0_has 1 := ⟨by decide, by decide +kernel, ⟨List.mem_append_right _ (List.mem_of_getElem? (i := 351) (by decide +kernel)), rfl⟩, ⟨List.mem_append_left _ (List.mem_of_getElem? (i := 15) (by decide +kernel)), rfl⟩⟩
/-! by program: what the methods do, and that their bytecode does it -/
/-! X7_root -/
noncomputable def f_X7_root_6_b (z : Nat) (p0 : Int32) (rec : Int32 → Int32 → Hp → Option (Int32 × Int32 × Hp)) (v2 : Int32) (v1 : Int32) (g : Hp) : Option (Int32 × Int32 × Hp) :=
  if v2 ≤ 0 then (some (v2, v1, g))
  else (((if p0 < ((v1 + v2) * (v1 + v2)) then (some (v1))
      else (some ((v1 + v2)))) : Option (Int32)).bind fun q1 =>
    (dvI v2 2).bind fun x2 =>
    rec x2 q1 g)
noncomputable def f_X7_root_6_L (z : Nat) (p0 : Int32) : Nat → Int32 → Int32 → Hp → Option (Int32 × Int32 × Hp)
  | 0, _, _, _ => none
  | n + 1, v2, v1, g => f_X7_root_6_b z p0 (f_X7_root_6_L z p0 n) v2 v1 g
noncomputable def f_X7_root (z : Nat) (a0 : Int32) (g : Hp) : Option (Int32 × Hp) :=
  (f_X7_root_6_L z a0 z 256 0 g).bind fun q3 =>
  some (q3.2.1, q3.2.2)
set_option maxRecDepth 20000 in
theorem b_X7_root_6 {X : Xt Int32} (hX : IsM rtI X) (z : Nat) (p0 : Int32) (rec : Int32 → Int32 → Hp → Option (Int32 × Int32 × Hp)) (K : Int32 × Int32 × Hp → Option (Int32 × Hp)) (he : ∀ (v2 : Int32) (v1 : Int32) (g : Hp), J yX7_root cX7_root 3 (some .int) 0 0 X g 32 [(2, sI v2), (1, sI v1), (0, sI p0)] [] (K (v2, v1, g))) (hr : ∀ (v2 : Int32) (v1 : Int32) (g : Hp), J yX7_root cX7_root 3 (some .int) 0 0 X g 6 [(2, sI v2), (1, sI v1), (0, sI p0)] [] ((rec v2 v1 g).bind K)) (v2 : Int32) (v1 : Int32) (g : Hp) : J yX7_root cX7_root 3 (some .int) 0 0 X g 6 [(2, sI v2), (1, sI v1), (0, sI p0)] [] ((f_X7_root_6_b z p0 rec v2 v1 g).bind K) := by
  unfold f_X7_root_6_b
  refine j_iload_n (pc := 6) 0 dX7_root_6 rfl rfl ?_
  refine j_if_le (pc := 7) (tgt := 32) dX7_root_7 (by decide) bi (fun hc => ?_) (fun hc => ?_)
  · exact he v2 v1 g
  · refine j_iload_n (pc := 10) 1 dX7_root_10 rfl rfl ?_
    refine j_iload_n (pc := 11) 0 dX7_root_11 rfl rfl ?_
    refine j_iadd (pc := 12) dX7_root_12 ?_
    refine j_iload_n (pc := 13) 1 dX7_root_13 rfl rfl ?_
    refine j_iload_n (pc := 14) 0 dX7_root_14 rfl rfl ?_
    refine j_iadd (pc := 15) dX7_root_15 ?_
    refine j_imul (pc := 16) dX7_root_16 ?_
    refine j_iload_n (pc := 17) 2 dX7_root_17 rfl rfl ?_
    refine J.eq bb ?_
    refine J.jn (σ := Int32) (fun q1 pr => J yX7_root cX7_root 3 (some .int) 0 0 X g 25 [(2, sI v2), (1, sI q1), (0, sI p0)] [] pr) (fun K25 hK25 => ?_) (fun q1 => ?_)
    · refine j_icmp_gt (pc := 18) (tgt := 25) dX7_root_18 (by decide) bi (fun hc => ?_) (fun hc => ?_)
      · exact hK25 (v1)
      · refine j_iload_n (pc := 21) 1 dX7_root_21 rfl rfl ?_
        refine j_iload_n (pc := 22) 0 dX7_root_22 rfl rfl ?_
        refine j_iadd (pc := 23) dX7_root_23 ?_
        refine j_istore_n (pc := 24) (lv' := [(1, sI (v1 + v2)), (2, sI v2), (0, sI p0)]) dX7_root_24 rfl (by decide) rfl ?_
        refine J.sub [1, 0, 2] rfl ?_
        exact hK25 ((v1 + v2))
    · refine j_iload_n (pc := 25) 0 dX7_root_25 rfl rfl ?_
      refine j_iconst (pc := 26) (v := 2) dX7_root_26 (by decide) ?_
      refine b_idiv (pc := 27) dX7_root_27 bb (fun x2 => ?_)
      refine j_istore_n (pc := 28) (lv' := [(2, sI x2), (1, sI q1), (0, sI p0)]) dX7_root_28 rfl (by decide) rfl ?_
      refine j_goto (pc := 29) (tgt := 6) dX7_root_29 (by decide) ?_
      exact hr x2 q1 g
set_option maxRecDepth 20000 in
theorem l_X7_root_6 {X : Xt Int32} (hX : IsM rtI X) (z : Nat) (p0 : Int32) (K : Int32 × Int32 × Hp → Option (Int32 × Hp)) (he : ∀ (v2 : Int32) (v1 : Int32) (g : Hp), J yX7_root cX7_root 3 (some .int) 0 0 X g 32 [(2, sI v2), (1, sI v1), (0, sI p0)] [] (K (v2, v1, g))) : ∀ (n : Nat) (v2 : Int32) (v1 : Int32) (g : Hp), J yX7_root cX7_root 3 (some .int) 0 0 X g 6 [(2, sI v2), (1, sI v1), (0, sI p0)] [] ((f_X7_root_6_L z p0 n v2 v1 g).bind K)
  | 0, _, _, _ => J.eq rfl J.none
  | n + 1, v2, v1, g => b_X7_root_6 hX z p0 _ K he (fun v2 v1 g => l_X7_root_6 hX z p0 K he n v2 v1 g) v2 v1 g
set_option maxRecDepth 20000 in
theorem m_X7_root (z : Nat) (a0 : Int32) (g : Hp) : FM yX7_root cX7_root 3 (some .int) 0 0 rtI [sI a0] g (f_X7_root z a0 g) := by
  refine FM.entry (by decide +kernel) (Nat.le_of_ble_eq_true rfl) (fun X hX => ?_)
  unfold f_X7_root
  show J yX7_root cX7_root 3 (some .int) 0 0 X g 0 [(0, sI a0)] [] _
  refine j_iconst (pc := 0) (v := 0) dX7_root_0 (by decide) ?_
  refine j_istore_n (pc := 1) (lv' := [(1, sI 0), (0, sI a0)]) dX7_root_1 rfl (by decide) rfl ?_
  refine j_sipush (pc := 2) (v := 256) dX7_root_2 (by decide) ?_
  refine j_istore_n (pc := 5) (lv' := [(2, sI 256), (1, sI 0), (0, sI a0)]) dX7_root_5 rfl (by decide) rfl ?_
  refine l_X7_root_6 hX z a0 _ (fun q3_0 q3_1 q3_g => ?_) z 256 0 g
  refine j_iload_n (pc := 32) 1 dX7_root_32 rfl rfl ?_
  exact j_ireturn dX7_root_33 hX rfl rfl
/-! X7_reckon -/
noncomputable def f_X7_reckon_2_b (z : Nat) (p0 : Option Nm) (p1 : Int32) (rec : Int32 → Hp → Option (Int32 × Hp)) (v2 : Int32) (g : Hp) : Option (Int32 × Hp) :=
  if 144 ≤ v2 then (some (v2, g))
  else ((dvI v2 12).bind fun x1 =>
    (rmI v2 12).bind fun x2 =>
    (getR p0 8 0 g).bind fun x3 =>
    (f_X7_root z (p1 * ((x1 * x1) + (x2 * x2))) g).bind fun q4 =>
    (astI x3 v2 q4.1 q4.2).bind fun g5 =>
    rec (v2 + 1) g5)
noncomputable def f_X7_reckon_2_L (z : Nat) (p0 : Option Nm) (p1 : Int32) : Nat → Int32 → Hp → Option (Int32 × Hp)
  | 0, _, _ => none
  | n + 1, v2, g => f_X7_reckon_2_b z p0 p1 (f_X7_reckon_2_L z p0 p1 n) v2 g
noncomputable def f_X7_reckon (z : Nat) (t : Option Nm) (a0 : Int32) (g : Hp) : Option (Unit × Hp) :=
  (f_X7_reckon_2_L z t a0 z 0 g).bind fun q6 =>
  some ((), q6.2)
set_option maxRecDepth 20000 in
theorem b_X7_reckon_2 {X : Xt Unit} (hX : IsM rtV X) (z : Nat) (p0 : Option Nm) (p1 : Int32) (rec : Int32 → Hp → Option (Int32 × Hp)) (K : Int32 × Hp → Option (Unit × Hp)) (he : ∀ (v2 : Int32) (g : Hp), J yX7_reckon cX7_reckon 5 none 1 22 X g 46 [(2, sI v2), (0, sR p0), (1, sI p1)] [] (K (v2, g))) (hr : ∀ (v2 : Int32) (g : Hp), J yX7_reckon cX7_reckon 5 none 1 22 X g 2 [(2, sI v2), (0, sR p0), (1, sI p1)] [] ((rec v2 g).bind K)) (v2 : Int32) (g : Hp) : J yX7_reckon cX7_reckon 5 none 1 22 X g 2 [(2, sI v2), (0, sR p0), (1, sI p1)] [] ((f_X7_reckon_2_b z p0 p1 rec v2 g).bind K) := by
  unfold f_X7_reckon_2_b
  refine j_iload_n (pc := 2) 0 dX7_reckon_2 rfl rfl ?_
  refine j_sipush (pc := 3) (v := 144) dX7_reckon_3 (by decide) ?_
  refine j_icmp_ge (pc := 6) (tgt := 46) dX7_reckon_6 (by decide) bi (fun hc => ?_) (fun hc => ?_)
  · exact he v2 g
  · refine j_iload_n (pc := 9) 0 dX7_reckon_9 rfl rfl ?_
    refine j_bipush (pc := 10) (v := 12) dX7_reckon_10 (by decide) ?_
    refine b_idiv (pc := 12) dX7_reckon_12 bb (fun x1 => ?_)
    refine j_istore_n (pc := 13) (lv' := [(3, sI x1), (2, sI v2), (0, sR p0), (1, sI p1)]) dX7_reckon_13 rfl (by decide) rfl ?_
    refine j_iload_n (pc := 14) 1 dX7_reckon_14 rfl rfl ?_
    refine j_bipush (pc := 15) (v := 12) dX7_reckon_15 (by decide) ?_
    refine b_irem (pc := 17) dX7_reckon_17 bb (fun x2 => ?_)
    refine j_istore (pc := 18) (lv' := [(4, sI x2), (3, sI x1), (2, sI v2), (0, sR p0), (1, sI p1)]) dX7_reckon_18 (by decide) rfl ?_
    refine j_aload_n (pc := 20) 3 dX7_reckon_20 rfl rfl ?_
    refine j_getR (pc := 21) (own := RX7) dX7_reckon_21 lf_X7_9 rfl bb (fun x3 => ?_)
    refine j_iload_n (pc := 24) 2 dX7_reckon_24 rfl rfl ?_
    refine j_iload_n (pc := 25) 4 dX7_reckon_25 rfl rfl ?_
    refine j_iload_n (pc := 26) 1 dX7_reckon_26 rfl rfl ?_
    refine j_iload_n (pc := 27) 1 dX7_reckon_27 rfl rfl ?_
    refine j_imul (pc := 28) dX7_reckon_28 ?_
    refine j_iload (pc := 29) 0 dX7_reckon_29 rfl ?_
    refine j_iload (pc := 31) 0 dX7_reckon_31 rfl ?_
    refine j_imul (pc := 33) dX7_reckon_33 ?_
    refine j_iadd (pc := 34) dX7_reckon_34 ?_
    refine j_imul (pc := 35) dX7_reckon_35 ?_
    refine j_callS (pc := 36) (own := RX7) [sI (p1 * ((x1 * x1) + (x2 * x2)))] [sI v2, sR x3] dX7_reckon_36 lc_X7_19 ls_X7_root rfl (m_X7_root z (p1 * ((x1 * x1) + (x2 * x2))) g) ⟨⟨Nat.le_of_ble_eq_true rfl, Nat.le_of_ble_eq_true rfl⟩, Nat.le_of_ble_eq_true rfl⟩ rfl bb (fun q4r q4g => ?_)
    refine j_astI (pc := 39) dX7_reckon_39 bb (fun g5 => ?_)
    refine j_iinc (pc := 40) (v := (v2 + 1)) (lv' := [(2, sI (v2 + 1)), (4, sI x2), (3, sI x1), (0, sR p0), (1, sI p1)]) 2 dX7_reckon_40 rfl rfl (by decide) rfl ?_
    refine j_goto (pc := 43) (tgt := 2) dX7_reckon_43 (by decide) ?_
    refine J.sub [0, 3, 4] rfl ?_
    exact hr (v2 + 1) g5
set_option maxRecDepth 20000 in
theorem l_X7_reckon_2 {X : Xt Unit} (hX : IsM rtV X) (z : Nat) (p0 : Option Nm) (p1 : Int32) (K : Int32 × Hp → Option (Unit × Hp)) (he : ∀ (v2 : Int32) (g : Hp), J yX7_reckon cX7_reckon 5 none 1 22 X g 46 [(2, sI v2), (0, sR p0), (1, sI p1)] [] (K (v2, g))) : ∀ (n : Nat) (v2 : Int32) (g : Hp), J yX7_reckon cX7_reckon 5 none 1 22 X g 2 [(2, sI v2), (0, sR p0), (1, sI p1)] [] ((f_X7_reckon_2_L z p0 p1 n v2 g).bind K)
  | 0, _, _ => J.eq rfl J.none
  | n + 1, v2, g => b_X7_reckon_2 hX z p0 p1 _ K he (fun v2 g => l_X7_reckon_2 hX z p0 p1 K he n v2 g) v2 g
set_option maxRecDepth 20000 in
theorem m_X7_reckon (z : Nat) (t : Option Nm) (a0 : Int32) (g : Hp) : FM yX7_reckon cX7_reckon 5 none 1 22 rtV [sR t, sI a0] g (f_X7_reckon z t a0 g) := by
  refine FM.entry (by decide +kernel) (Nat.le_of_ble_eq_true rfl) (fun X hX => ?_)
  unfold f_X7_reckon
  show J yX7_reckon cX7_reckon 5 none 1 22 X g 0 [(0, sR t), (1, sI a0)] [] _
  refine j_iconst (pc := 0) (v := 0) dX7_reckon_0 (by decide) ?_
  refine j_istore_n (pc := 1) (lv' := [(2, sI 0), (0, sR t), (1, sI a0)]) dX7_reckon_1 rfl (by decide) rfl ?_
  refine l_X7_reckon_2 hX z t a0 _ (fun q6_0 q6_g => ?_) z 0 g
  exact j_return dX7_reckon_46 hX rfl rfl
/-! X7_init -/
noncomputable def f_X7_init (z : Nat) (t : Option Nm) (a0 : Int32) (g : Hp) : Option (Unit × Hp) :=
  (nnu t).bind fun _ =>
  (mkI (20, nix t) 144 g).bind fun q1 =>
  (putR t 8 0 q1.1 q1.2).bind fun g2 =>
  (ick t 8 (f_X7_reckon z t a0 g2)).bind fun q3 =>
  some ((), q3.2)
set_option maxRecDepth 20000 in
theorem m_X7_init (z : Nat) (t : Option Nm) (a0 : Int32) (g : Hp) : FM yX7_init cX7_init 2 none 2 46 rtV [sR t, sI a0] g (f_X7_init z t a0 g) := by
  refine FM.entry (by decide +kernel) (Nat.le_of_ble_eq_true rfl) (fun X hX => ?_)
  unfold f_X7_init
  show J yX7_init cX7_init 2 none 2 46 X g 0 [(0, sR t), (1, sI a0)] [] _
  refine j_aload_n (pc := 0) 0 dX7_init_0 rfl rfl ?_
  refine b_oinit (pc := 1) (own := RX7) dX7_init_1 lo_X7_3 rfl ⟨Nat.le_of_ble_eq_true rfl, Nat.le_of_ble_eq_true rfl⟩ rfl ?_
  refine j_aload_n (pc := 4) 0 dX7_init_4 rfl rfl ?_
  refine j_sipush (pc := 5) (v := 144) dX7_init_5 (by decide) ?_
  refine j_mkI (pc := 8) dX7_init_8 lA_int rfl (fun q1r q1g => ?_)
  refine j_putR (pc := 10) (own := RX7) dX7_init_10 lf_X7_9 lt_8_0 rfl lw_X7_9_X7_init rfl rfl (fun g2 => ?_)
  refine j_aload_n (pc := 13) 0 dX7_init_13 rfl rfl ?_
  refine j_iload_n (pc := 14) 1 dX7_init_14 rfl rfl ?_
  refine j_callV (pc := 15) (own := RX7) [sI a0] [] dX7_init_15 lc_X7_15 lv_X7_reckon rfl (m_X7_reckon z t a0 g2) ⟨⟨Nat.le_of_ble_eq_true rfl, Nat.le_of_ble_eq_true rfl⟩, Nat.le_of_ble_eq_true rfl⟩ rfl rfl (fun q3r q3g => ?_)
  exact j_return dX7_init_18 hX rfl rfl
/-! X7_between -/
noncomputable def f_X7_between (z : Nat) (t : Option Nm) (a0 : Int32) (a1 : Int32) (g : Hp) : Option (Int32 × Hp) :=
  (dvI a0 12).bind fun x1 =>
  (dvI a1 12).bind fun x2 =>
  (rmI a0 12).bind fun x3 =>
  (rmI a1 12).bind fun x4 =>
  (getR t 8 0 g).bind fun x5 =>
  (aldI x5 ((12 * (iabs (x1 - x2))) + (iabs (x3 - x4))) g).bind fun x6 =>
  some (x6, g)
set_option maxRecDepth 20000 in
theorem m_X7_between (z : Nat) (t : Option Nm) (a0 : Int32) (a1 : Int32) (g : Hp) : FM yX7_between cX7_between 5 (some .int) 1 13 rtI [sR t, sI a0, sI a1] g (f_X7_between z t a0 a1 g) := by
  refine FM.entry (by decide +kernel) (Nat.le_of_ble_eq_true rfl) (fun X hX => ?_)
  unfold f_X7_between
  show J yX7_between cX7_between 5 (some .int) 1 13 X g 0 [(0, sR t), (1, sI a0), (2, sI a1)] [] _
  refine j_iload_n (pc := 0) 1 dX7_between_0 rfl rfl ?_
  refine j_bipush (pc := 1) (v := 12) dX7_between_1 (by decide) ?_
  refine b_idiv (pc := 3) dX7_between_3 rfl (fun x1 => ?_)
  refine j_iload_n (pc := 4) 2 dX7_between_4 rfl rfl ?_
  refine j_bipush (pc := 5) (v := 12) dX7_between_5 (by decide) ?_
  refine b_idiv (pc := 7) dX7_between_7 rfl (fun x2 => ?_)
  refine j_isub (pc := 8) dX7_between_8 ?_
  refine j_abs (pc := 9) (own := RX7) dX7_between_9 lM_X7_23 rfl ⟨Nat.le_of_ble_eq_true rfl, Nat.le_of_ble_eq_true rfl⟩ ?_
  refine j_istore_n (pc := 12) (lv' := [(3, sI (iabs (x1 - x2))), (0, sR t), (1, sI a0), (2, sI a1)]) dX7_between_12 rfl (by decide) rfl ?_
  refine j_iload_n (pc := 13) 2 dX7_between_13 rfl rfl ?_
  refine j_bipush (pc := 14) (v := 12) dX7_between_14 (by decide) ?_
  refine b_irem (pc := 16) dX7_between_16 rfl (fun x3 => ?_)
  refine j_iload_n (pc := 17) 3 dX7_between_17 rfl rfl ?_
  refine j_bipush (pc := 18) (v := 12) dX7_between_18 (by decide) ?_
  refine b_irem (pc := 20) dX7_between_20 rfl (fun x4 => ?_)
  refine j_isub (pc := 21) dX7_between_21 ?_
  refine j_abs (pc := 22) (own := RX7) dX7_between_22 lM_X7_23 rfl ⟨Nat.le_of_ble_eq_true rfl, Nat.le_of_ble_eq_true rfl⟩ ?_
  refine j_istore (pc := 25) (lv' := [(4, sI (iabs (x3 - x4))), (3, sI (iabs (x1 - x2))), (0, sR t), (1, sI a0), (2, sI a1)]) dX7_between_25 (by decide) rfl ?_
  refine j_aload_n (pc := 27) 2 dX7_between_27 rfl rfl ?_
  refine j_getR (pc := 28) (own := RX7) dX7_between_28 lf_X7_9 rfl rfl (fun x5 => ?_)
  refine j_bipush (pc := 31) (v := 12) dX7_between_31 (by decide) ?_
  refine j_iload_n (pc := 33) 1 dX7_between_33 rfl rfl ?_
  refine j_imul (pc := 34) dX7_between_34 ?_
  refine j_iload (pc := 35) 0 dX7_between_35 rfl ?_
  refine j_iadd (pc := 37) dX7_between_37 ?_
  refine j_aldI (pc := 38) dX7_between_38 rfl (fun x6 => ?_)
  exact j_ireturn dX7_between_39 hX rfl rfl
/-! X4_init -/
noncomputable def f_X4_init (z : Nat) (t : Option Nm) (g : Hp) : Option (Unit × Hp) :=
  (nnu t).bind fun _ =>
  (mkI (25, nix t) 30 g).bind fun q1 =>
  (putR t 5 0 q1.1 q1.2).bind fun g2 =>
  (putI t 5 1 (-1) g2).bind fun g3 =>
  some ((), g3)
set_option maxRecDepth 20000 in
theorem m_X4_init (z : Nat) (t : Option Nm) (g : Hp) : FM yX4_init cX4_init 1 none 1 12 rtV [sR t] g (f_X4_init z t g) := by
  refine FM.entry (by decide +kernel) (Nat.le_of_ble_eq_true rfl) (fun X hX => ?_)
  unfold f_X4_init
  show J yX4_init cX4_init 1 none 1 12 X g 0 [(0, sR t)] [] _
  refine j_aload_n (pc := 0) 0 dX4_init_0 rfl rfl ?_
  refine b_oinit (pc := 1) (own := RX4) dX4_init_1 lo_X4_3 rfl ⟨Nat.le_of_ble_eq_true rfl, Nat.le_of_ble_eq_true rfl⟩ rfl ?_
  refine j_aload_n (pc := 4) 0 dX4_init_4 rfl rfl ?_
  refine j_bipush (pc := 5) (v := 30) dX4_init_5 (by decide) ?_
  refine j_mkI (pc := 7) dX4_init_7 lA_int rfl (fun q1r q1g => ?_)
  refine j_putR (pc := 9) (own := RX4) dX4_init_9 lf_X4_9 lt_5_0 rfl lw_X4_9_X4_init rfl rfl (fun g2 => ?_)
  refine j_aload_n (pc := 12) 0 dX4_init_12 rfl rfl ?_
  refine j_iconst (pc := 13) (v := (-1)) dX4_init_13 (by decide) ?_
  refine j_putI (pc := 14) (own := RX4) dX4_init_14 lf_X4_15 lt_5_1 lw_X4_15_X4_init rfl rfl (fun g3 => ?_)
  exact j_return dX4_init_17 hX rfl rfl
/-! X5_init -/
noncomputable def f_X5_init (z : Nat) (t : Option Nm) (a0 : Int32) (g : Hp) : Option (Unit × Hp) :=
  (nnu t).bind fun _ =>
  (mkO (5, nix t) 5 g).bind fun q1 =>
  (nnl q1.1 (f_X4_init z q1.1 q1.2)).bind fun q2 =>
  (putR t 6 1 q1.1 q2.2).bind fun g3 =>
  (putI t 6 0 a0 g3).bind fun g4 =>
  some ((), g4)
set_option maxRecDepth 20000 in
theorem m_X5_init (z : Nat) (t : Option Nm) (a0 : Int32) (g : Hp) : FM yX5_init cX5_init 2 none 2 32 rtV [sR t, sI a0] g (f_X5_init z t a0 g) := by
  refine FM.entry (by decide +kernel) (Nat.le_of_ble_eq_true rfl) (fun X hX => ?_)
  unfold f_X5_init
  show J yX5_init cX5_init 2 none 2 32 X g 0 [(0, sR t), (1, sI a0)] [] _
  refine j_aload_n (pc := 0) 0 dX5_init_0 rfl rfl ?_
  refine b_oinit (pc := 1) (own := RX5) dX5_init_1 lo_X5_1 rfl ⟨Nat.le_of_ble_eq_true rfl, Nat.le_of_ble_eq_true rfl⟩ rfl ?_
  refine j_aload_n (pc := 4) 0 dX5_init_4 rfl rfl ?_
  refine j_mkO (pc := 5) (own := RX5) dX5_init_5 ln_X5_7 rfl rfl (fun q1r q1g => ?_)
  refine j_dup (pc := 8) dX5_init_8 rfl ?_
  refine j_callI (pc := 9) (own := RX5) [] [sR q1r, sR t] dX5_init_9 lc_X5_9 li_X4_init rfl (m_X4_init z q1r q1g) ⟨⟨Nat.le_of_ble_eq_true rfl, Nat.le_of_ble_eq_true rfl⟩, Nat.le_of_ble_eq_true rfl⟩ rfl rfl (fun q2r q2g => ?_)
  refine j_putR (pc := 12) (own := RX5) dX5_init_12 lf_X5_10 lt_6_1 rfl lw_X5_10_X5_init rfl rfl (fun g3 => ?_)
  refine j_aload_n (pc := 15) 0 dX5_init_15 rfl rfl ?_
  refine j_iload_n (pc := 16) 1 dX5_init_16 rfl rfl ?_
  refine j_putI (pc := 17) (own := RX5) dX5_init_17 lf_X5_16 lt_6_0 lw_X5_16_X5_init rfl rfl (fun g4 => ?_)
  exact j_return dX5_init_20 hX rfl rfl
/-! X6_init -/
noncomputable def f_X6_init (z : Nat) (t : Option Nm) (a0 : Int32) (g : Hp) : Option (Unit × Hp) :=
  (nnu t).bind fun _ =>
  (putI t 7 0 a0 g).bind fun g1 =>
  some ((), g1)
set_option maxRecDepth 20000 in
theorem m_X6_init (z : Nat) (t : Option Nm) (a0 : Int32) (g : Hp) : FM yX6_init cX6_init 2 none 1 12 rtV [sR t, sI a0] g (f_X6_init z t a0 g) := by
  refine FM.entry (by decide +kernel) (Nat.le_of_ble_eq_true rfl) (fun X hX => ?_)
  unfold f_X6_init
  show J yX6_init cX6_init 2 none 1 12 X g 0 [(0, sR t), (1, sI a0)] [] _
  refine j_aload_n (pc := 0) 0 dX6_init_0 rfl rfl ?_
  refine b_oinit (pc := 1) (own := RX6) dX6_init_1 lo_X6_1 rfl ⟨Nat.le_of_ble_eq_true rfl, Nat.le_of_ble_eq_true rfl⟩ rfl ?_
  refine j_aload_n (pc := 4) 0 dX6_init_4 rfl rfl ?_
  refine j_iload_n (pc := 5) 1 dX6_init_5 rfl rfl ?_
  refine j_putI (pc := 6) (own := RX6) dX6_init_6 lf_X6_7 lt_7_0 lw_X6_7_X6_init rfl rfl (fun g1 => ?_)
  exact j_return dX6_init_9 hX rfl rfl
/-! X2_init -/
noncomputable def f_X2_init (z : Nat) (t : Option Nm) (a0 : Int32) (a1 : Int32) (a2 : Int32) (a3 : Int32) (a4 : Int32) (g : Hp) : Option (Unit × Hp) :=
  (nnu t).bind fun _ =>
  (putI t 3 0 a0 g).bind fun g1 =>
  (putI t 3 1 a1 g1).bind fun g2 =>
  (putI t 3 2 a2 g2).bind fun g3 =>
  (putI t 3 3 a3 g3).bind fun g4 =>
  (putI t 3 4 a4 g4).bind fun g5 =>
  some ((), g5)
set_option maxRecDepth 20000 in
theorem m_X2_init (z : Nat) (t : Option Nm) (a0 : Int32) (a1 : Int32) (a2 : Int32) (a3 : Int32) (a4 : Int32) (g : Hp) : FM yX2_init cX2_init 6 none 1 12 rtV [sR t, sI a0, sI a1, sI a2, sI a3, sI a4] g (f_X2_init z t a0 a1 a2 a3 a4 g) := by
  refine FM.entry (by decide +kernel) (Nat.le_of_ble_eq_true rfl) (fun X hX => ?_)
  unfold f_X2_init
  show J yX2_init cX2_init 6 none 1 12 X g 0 [(0, sR t), (1, sI a0), (2, sI a1), (3, sI a2), (4, sI a3), (5, sI a4)] [] _
  refine j_aload_n (pc := 0) 0 dX2_init_0 rfl rfl ?_
  refine b_oinit (pc := 1) (own := RX2) dX2_init_1 lo_X2_3 rfl ⟨Nat.le_of_ble_eq_true rfl, Nat.le_of_ble_eq_true rfl⟩ rfl ?_
  refine j_aload_n (pc := 4) 0 dX2_init_4 rfl rfl ?_
  refine j_iload_n (pc := 5) 1 dX2_init_5 rfl rfl ?_
  refine j_putI (pc := 6) (own := RX2) dX2_init_6 lf_X2_9 lt_3_0 lw_X2_9_X2_init rfl rfl (fun g1 => ?_)
  refine j_aload_n (pc := 9) 0 dX2_init_9 rfl rfl ?_
  refine j_iload_n (pc := 10) 2 dX2_init_10 rfl rfl ?_
  refine j_putI (pc := 11) (own := RX2) dX2_init_11 lf_X2_15 lt_3_1 lw_X2_15_X2_init rfl rfl (fun g2 => ?_)
  refine j_aload_n (pc := 14) 0 dX2_init_14 rfl rfl ?_
  refine j_iload_n (pc := 15) 3 dX2_init_15 rfl rfl ?_
  refine j_putI (pc := 16) (own := RX2) dX2_init_16 lf_X2_18 lt_3_2 lw_X2_18_X2_init rfl rfl (fun g3 => ?_)
  refine j_aload_n (pc := 19) 0 dX2_init_19 rfl rfl ?_
  refine j_iload (pc := 20) 4 dX2_init_20 rfl ?_
  refine j_putI (pc := 22) (own := RX2) dX2_init_22 lf_X2_21 lt_3_3 lw_X2_21_X2_init rfl rfl (fun g4 => ?_)
  refine j_aload_n (pc := 25) 0 dX2_init_25 rfl rfl ?_
  refine j_iload (pc := 26) 5 dX2_init_26 rfl ?_
  refine j_putI (pc := 28) (own := RX2) dX2_init_28 lf_X2_24 lt_3_4 lw_X2_24_X2_init rfl rfl (fun g5 => ?_)
  exact j_return dX2_init_31 hX rfl rfl
/-! X3_hear -/
noncomputable def f_X3_hear (z : Nat) (t : Option Nm) (a0 : Int32) (a1 : Int32) (g : Hp) : Option (Unit × Hp) :=
  (getR t 4 2 g).bind fun x1 =>
  (astI x1 a0 a1 g).bind fun g2 =>
  (getI t 4 3 g2).bind fun x3 =>
  (putI t 4 3 (x3 + 1) g2).bind fun g4 =>
  some ((), g4)
set_option maxRecDepth 20000 in
theorem m_X3_hear (z : Nat) (t : Option Nm) (a0 : Int32) (a1 : Int32) (g : Hp) : FM yX3_hear cX3_hear 3 none 0 0 rtV [sR t, sI a0, sI a1] g (f_X3_hear z t a0 a1 g) := by
  refine FM.entry (by decide +kernel) (Nat.le_of_ble_eq_true rfl) (fun X hX => ?_)
  unfold f_X3_hear
  show J yX3_hear cX3_hear 3 none 0 0 X g 0 [(0, sR t), (1, sI a0), (2, sI a1)] [] _
  refine j_aload_n (pc := 0) 0 dX3_hear_0 rfl rfl ?_
  refine j_getR (pc := 1) (own := RX3) dX3_hear_1 lf_X3_9 rfl rfl (fun x1 => ?_)
  refine j_iload_n (pc := 4) 1 dX3_hear_4 rfl rfl ?_
  refine j_iload_n (pc := 5) 2 dX3_hear_5 rfl rfl ?_
  refine j_astI (pc := 6) dX3_hear_6 rfl (fun g2 => ?_)
  refine j_aload_n (pc := 7) 0 dX3_hear_7 rfl rfl ?_
  refine j_dup (pc := 8) dX3_hear_8 rfl ?_
  refine j_getI (pc := 9) (own := RX3) dX3_hear_9 lf_X3_32 rfl rfl (fun x3 => ?_)
  refine j_iconst (pc := 12) (v := 1) dX3_hear_12 (by decide) ?_
  refine j_iadd (pc := 13) dX3_hear_13 ?_
  refine j_putI (pc := 14) (own := RX3) dX3_hear_14 lf_X3_32 lt_4_3 lw_X3_32_X3_hear rfl rfl (fun g4 => ?_)
  exact j_return dX3_hear_17 hX rfl rfl
/-! X3_init -/
noncomputable def f_X3_init_41_b (z : Nat) (p0 : Option Nm) (p1 : Int32) (p2 : Int32) (p3 : Int32) (rec : Int32 → Hp → Option (Int32 × Hp)) (v4 : Int32) (g : Hp) : Option (Int32 × Hp) :=
  (getR p0 4 2 g).bind fun x9 =>
  (alen x9 g).bind fun x10 =>
  if x10 ≤ v4 then (some (v4, g))
  else ((getR p0 4 2 g).bind fun x11 =>
    (astI x11 v4 (-1) g).bind fun g12 =>
    rec (v4 + 1) g12)
noncomputable def f_X3_init_41_L (z : Nat) (p0 : Option Nm) (p1 : Int32) (p2 : Int32) (p3 : Int32) : Nat → Int32 → Hp → Option (Int32 × Hp)
  | 0, _, _ => none
  | n + 1, v4, g => f_X3_init_41_b z p0 p1 p2 p3 (f_X3_init_41_L z p0 p1 p2 p3 n) v4 g
noncomputable def f_X3_init (z : Nat) (t : Option Nm) (a0 : Int32) (a1 : Int32) (a2 : Int32) (g : Hp) : Option (Unit × Hp) :=
  (nnu t).bind fun _ =>
  (mkI (26, nix t) 10 g).bind fun q1 =>
  (putR t 4 2 q1.1 q1.2).bind fun g2 =>
  (mkI (27, nix t) 6 g2).bind fun q3 =>
  (putR t 4 4 q3.1 q3.2).bind fun g4 =>
  (mkI (28, nix t) 6 g4).bind fun q5 =>
  (putR t 4 5 q5.1 q5.2).bind fun g6 =>
  (putI t 4 0 a0 g6).bind fun g7 =>
  (putI t 4 1 a2 g7).bind fun g8 =>
  (f_X3_init_41_L z t a0 a1 a2 z 0 g8).bind fun q13 =>
  (ick t 4 (f_X3_hear z t a0 a1 q13.2)).bind fun q14 =>
  some ((), q14.2)
set_option maxRecDepth 20000 in
theorem b_X3_init_41 {X : Xt Unit} (hX : IsM rtV X) (z : Nat) (p0 : Option Nm) (p1 : Int32) (p2 : Int32) (p3 : Int32) (rec : Int32 → Hp → Option (Int32 × Hp)) (K : Int32 × Hp → Option (Unit × Hp)) (he : ∀ (v4 : Int32) (g : Hp), J yX3_init cX3_init 5 none 1 22 X g 65 [(4, sI v4), (0, sR p0), (1, sI p1), (2, sI p2), (3, sI p3)] [] (K (v4, g))) (hr : ∀ (v4 : Int32) (g : Hp), J yX3_init cX3_init 5 none 1 22 X g 41 [(4, sI v4), (0, sR p0), (1, sI p1), (2, sI p2), (3, sI p3)] [] ((rec v4 g).bind K)) (v4 : Int32) (g : Hp) : J yX3_init cX3_init 5 none 1 22 X g 41 [(4, sI v4), (0, sR p0), (1, sI p1), (2, sI p2), (3, sI p3)] [] ((f_X3_init_41_b z p0 p1 p2 p3 rec v4 g).bind K) := by
  unfold f_X3_init_41_b
  refine j_iload (pc := 41) 0 dX3_init_41 rfl ?_
  refine j_aload_n (pc := 43) 1 dX3_init_43 rfl rfl ?_
  refine j_getR (pc := 44) (own := RX3) dX3_init_44 lf_X3_9 rfl bb (fun x9 => ?_)
  refine j_alen (pc := 47) dX3_init_47 bb (fun x10 => ?_)
  refine j_icmp_ge (pc := 48) (tgt := 65) dX3_init_48 (by decide) bi (fun hc => ?_) (fun hc => ?_)
  · exact he v4 g
  · refine j_aload_n (pc := 51) 1 dX3_init_51 rfl rfl ?_
    refine j_getR (pc := 52) (own := RX3) dX3_init_52 lf_X3_9 rfl bb (fun x11 => ?_)
    refine j_iload (pc := 55) 0 dX3_init_55 rfl ?_
    refine j_iconst (pc := 57) (v := (-1)) dX3_init_57 (by decide) ?_
    refine j_astI (pc := 58) dX3_init_58 bb (fun g12 => ?_)
    refine j_iinc (pc := 59) (v := (v4 + 1)) (lv' := [(4, sI (v4 + 1)), (0, sR p0), (1, sI p1), (2, sI p2), (3, sI p3)]) 0 dX3_init_59 rfl rfl (by decide) rfl ?_
    refine j_goto (pc := 62) (tgt := 41) dX3_init_62 (by decide) ?_
    exact hr (v4 + 1) g12
set_option maxRecDepth 20000 in
theorem l_X3_init_41 {X : Xt Unit} (hX : IsM rtV X) (z : Nat) (p0 : Option Nm) (p1 : Int32) (p2 : Int32) (p3 : Int32) (K : Int32 × Hp → Option (Unit × Hp)) (he : ∀ (v4 : Int32) (g : Hp), J yX3_init cX3_init 5 none 1 22 X g 65 [(4, sI v4), (0, sR p0), (1, sI p1), (2, sI p2), (3, sI p3)] [] (K (v4, g))) : ∀ (n : Nat) (v4 : Int32) (g : Hp), J yX3_init cX3_init 5 none 1 22 X g 41 [(4, sI v4), (0, sR p0), (1, sI p1), (2, sI p2), (3, sI p3)] [] ((f_X3_init_41_L z p0 p1 p2 p3 n v4 g).bind K)
  | 0, _, _ => J.eq rfl J.none
  | n + 1, v4, g => b_X3_init_41 hX z p0 p1 p2 p3 _ K he (fun v4 g => l_X3_init_41 hX z p0 p1 p2 p3 K he n v4 g) v4 g
set_option maxRecDepth 20000 in
theorem m_X3_init (z : Nat) (t : Option Nm) (a0 : Int32) (a1 : Int32) (a2 : Int32) (g : Hp) : FM yX3_init cX3_init 5 none 1 22 rtV [sR t, sI a0, sI a1, sI a2] g (f_X3_init z t a0 a1 a2 g) := by
  refine FM.entry (by decide +kernel) (Nat.le_of_ble_eq_true rfl) (fun X hX => ?_)
  unfold f_X3_init
  show J yX3_init cX3_init 5 none 1 22 X g 0 [(0, sR t), (1, sI a0), (2, sI a1), (3, sI a2)] [] _
  refine j_aload_n (pc := 0) 0 dX3_init_0 rfl rfl ?_
  refine b_oinit (pc := 1) (own := RX3) dX3_init_1 lo_X3_3 rfl ⟨Nat.le_of_ble_eq_true rfl, Nat.le_of_ble_eq_true rfl⟩ rfl ?_
  refine j_aload_n (pc := 4) 0 dX3_init_4 rfl rfl ?_
  refine j_bipush (pc := 5) (v := 10) dX3_init_5 (by decide) ?_
  refine j_mkI (pc := 7) dX3_init_7 lA_int rfl (fun q1r q1g => ?_)
  refine j_putR (pc := 9) (own := RX3) dX3_init_9 lf_X3_9 lt_4_2 rfl lw_X3_9_X3_init rfl rfl (fun g2 => ?_)
  refine j_aload_n (pc := 12) 0 dX3_init_12 rfl rfl ?_
  refine j_bipush (pc := 13) (v := 6) dX3_init_13 (by decide) ?_
  refine j_mkI (pc := 15) dX3_init_15 lA_int rfl (fun q3r q3g => ?_)
  refine j_putR (pc := 17) (own := RX3) dX3_init_17 lf_X3_15 lt_4_4 rfl lw_X3_15_X3_init rfl rfl (fun g4 => ?_)
  refine j_aload_n (pc := 20) 0 dX3_init_20 rfl rfl ?_
  refine j_bipush (pc := 21) (v := 6) dX3_init_21 (by decide) ?_
  refine j_mkI (pc := 23) dX3_init_23 lA_int rfl (fun q5r q5g => ?_)
  refine j_putR (pc := 25) (own := RX3) dX3_init_25 lf_X3_18 lt_4_5 rfl lw_X3_18_X3_init rfl rfl (fun g6 => ?_)
  refine j_aload_n (pc := 28) 0 dX3_init_28 rfl rfl ?_
  refine j_iload_n (pc := 29) 1 dX3_init_29 rfl rfl ?_
  refine j_putI (pc := 30) (own := RX3) dX3_init_30 lf_X3_21 lt_4_0 lw_X3_21_X3_init rfl rfl (fun g7 => ?_)
  refine j_aload_n (pc := 33) 0 dX3_init_33 rfl rfl ?_
  refine j_iload_n (pc := 34) 3 dX3_init_34 rfl rfl ?_
  refine j_putI (pc := 35) (own := RX3) dX3_init_35 lf_X3_25 lt_4_1 lw_X3_25_X3_init rfl rfl (fun g8 => ?_)
  refine j_iconst (pc := 38) (v := 0) dX3_init_38 (by decide) ?_
  refine j_istore (pc := 39) (lv' := [(4, sI 0), (0, sR t), (1, sI a0), (2, sI a1), (3, sI a2)]) dX3_init_39 (by decide) rfl ?_
  refine l_X3_init_41 hX z t a0 a1 a2 _ (fun q13_0 q13_g => ?_) z 0 g8
  refine j_aload_n (pc := 65) 1 dX3_init_65 rfl rfl ?_
  refine j_iload_n (pc := 66) 2 dX3_init_66 rfl rfl ?_
  refine j_iload_n (pc := 67) 3 dX3_init_67 rfl rfl ?_
  refine j_callV (pc := 68) (own := RX3) [sI a0, sI a1] [] dX3_init_68 lc_X3_28 lv_X3_hear rfl (m_X3_hear z t a0 a1 q13_g) ⟨⟨Nat.le_of_ble_eq_true rfl, Nat.le_of_ble_eq_true rfl⟩, Nat.le_of_ble_eq_true rfl⟩ rfl rfl (fun q14r q14g => ?_)
  exact j_return dX3_init_71 hX rfl rfl
/-! X3_hears -/
noncomputable def f_X3_hears (z : Nat) (t : Option Nm) (a0 : Int32) (g : Hp) : Option (Int32 × Hp) :=
  (getR t 4 2 g).bind fun x1 =>
  (aldI x1 a0 g).bind fun x2 =>
  if x2 = (-1) then (rtZ 0 g)
  else (rtZ 1 g)
set_option maxRecDepth 20000 in
theorem m_X3_hears (z : Nat) (t : Option Nm) (a0 : Int32) (g : Hp) : FM yX3_hears cX3_hears 2 (some .boolean) 0 0 rtI [sR t, sI a0] g (f_X3_hears z t a0 g) := by
  refine FM.entry (by decide +kernel) (Nat.le_of_ble_eq_true rfl) (fun X hX => ?_)
  unfold f_X3_hears
  show J yX3_hears cX3_hears 2 (some .boolean) 0 0 X g 0 [(0, sR t), (1, sI a0)] [] _
  refine j_aload_n (pc := 0) 0 dX3_hears_0 rfl rfl ?_
  refine j_getR (pc := 1) (own := RX3) dX3_hears_1 lf_X3_9 rfl rfl (fun x1 => ?_)
  refine j_iload_n (pc := 4) 1 dX3_hears_4 rfl rfl ?_
  refine j_aldI (pc := 5) dX3_hears_5 rfl (fun x2 => ?_)
  refine j_iconst (pc := 6) (v := (-1)) dX3_hears_6 (by decide) ?_
  refine j_icmp_eq (pc := 7) (tgt := 14) dX3_hears_7 (by decide) rfl (fun hc => ?_) (fun hc => ?_)
  · refine j_iconst (pc := 14) (v := 0) dX3_hears_14 (by decide) ?_
    exact j_zreturn dX3_hears_15 hX rfl rfl
  · refine j_iconst (pc := 10) (v := 1) dX3_hears_10 (by decide) ?_
    refine j_goto (pc := 11) (tgt := 15) dX3_hears_11 (by decide) ?_
    exact j_zreturn dX3_hears_15 hX rfl rfl
/-! X0_init -/
noncomputable def f_X0_init (z : Nat) (t : Option Nm) (g : Hp) : Option (Unit × Hp) :=
  (nnu t).bind fun _ =>
  (mkI (21, nix t) 144 g).bind fun q1 =>
  (putR t 1 0 q1.1 q1.2).bind fun g2 =>
  (mkI (22, nix t) 144 g2).bind fun q3 =>
  (putR t 1 1 q3.1 q3.2).bind fun g4 =>
  (putI t 1 5 (-9) g4).bind fun g5 =>
  some ((), g5)
set_option maxRecDepth 20000 in
theorem m_X0_init (z : Nat) (t : Option Nm) (g : Hp) : FM yX0_init cX0_init 1 none 1 12 rtV [sR t] g (f_X0_init z t g) := by
  refine FM.entry (by decide +kernel) (Nat.le_of_ble_eq_true rfl) (fun X hX => ?_)
  unfold f_X0_init
  show J yX0_init cX0_init 1 none 1 12 X g 0 [(0, sR t)] [] _
  refine j_aload_n (pc := 0) 0 dX0_init_0 rfl rfl ?_
  refine b_oinit (pc := 1) (own := RX0) dX0_init_1 lo_X0_3 rfl ⟨Nat.le_of_ble_eq_true rfl, Nat.le_of_ble_eq_true rfl⟩ rfl ?_
  refine j_aload_n (pc := 4) 0 dX0_init_4 rfl rfl ?_
  refine j_sipush (pc := 5) (v := 144) dX0_init_5 (by decide) ?_
  refine j_mkI (pc := 8) dX0_init_8 lA_int rfl (fun q1r q1g => ?_)
  refine j_putR (pc := 10) (own := RX0) dX0_init_10 lf_X0_9 lt_1_0 rfl lw_X0_9_X0_init rfl rfl (fun g2 => ?_)
  refine j_aload_n (pc := 13) 0 dX0_init_13 rfl rfl ?_
  refine j_sipush (pc := 14) (v := 144) dX0_init_14 (by decide) ?_
  refine j_mkI (pc := 17) dX0_init_17 lA_int rfl (fun q3r q3g => ?_)
  refine j_putR (pc := 19) (own := RX0) dX0_init_19 lf_X0_15 lt_1_1 rfl lw_X0_15_X0_init rfl rfl (fun g4 => ?_)
  refine j_aload_n (pc := 22) 0 dX0_init_22 rfl rfl ?_
  refine j_bipush (pc := 23) (v := (-9)) dX0_init_23 (by decide) ?_
  refine j_putI (pc := 25) (own := RX0) dX0_init_25 lf_X0_18 lt_1_5 lw_X0_18_X0_init rfl rfl (fun g5 => ?_)
  exact j_return dX0_init_28 hX rfl rfl
/-! X0_forget -/
noncomputable def f_X0_forget (z : Nat) (t : Option Nm) (g : Hp) : Option (Unit × Hp) :=
  (putI t 1 5 (-9) g).bind fun g1 =>
  some ((), g1)
set_option maxRecDepth 20000 in
theorem m_X0_forget (z : Nat) (t : Option Nm) (g : Hp) : FM yX0_forget cX0_forget 1 none 0 0 rtV [sR t] g (f_X0_forget z t g) := by
  refine FM.entry (by decide +kernel) (Nat.le_of_ble_eq_true rfl) (fun X hX => ?_)
  unfold f_X0_forget
  show J yX0_forget cX0_forget 1 none 0 0 X g 0 [(0, sR t)] [] _
  refine j_aload_n (pc := 0) 0 dX0_forget_0 rfl rfl ?_
  refine j_bipush (pc := 1) (v := (-9)) dX0_forget_1 (by decide) ?_
  refine j_putI (pc := 3) (own := RX0) dX0_forget_3 lf_X0_18 lt_1_5 lw_X0_18_X0_forget rfl rfl (fun g1 => ?_)
  exact j_return dX0_forget_6 hX rfl rfl
/-! X0_clear -/
noncomputable def f_X0_clear_8_b (z : Nat) (p0 : Option Nm) (rec : Int32 → Hp → Option (Int32 × Hp)) (v1 : Int32) (g : Hp) : Option (Int32 × Hp) :=
  if 144 ≤ v1 then (some (v1, g))
  else ((getR p0 1 0 g).bind fun x2 =>
    (astI x2 v1 (-1000000) g).bind fun g3 =>
    (getR p0 1 1 g3).bind fun x4 =>
    (astI x4 v1 1000000 g3).bind fun g5 =>
    rec (v1 + 1) g5)
noncomputable def f_X0_clear_8_L (z : Nat) (p0 : Option Nm) : Nat → Int32 → Hp → Option (Int32 × Hp)
  | 0, _, _ => none
  | n + 1, v1, g => f_X0_clear_8_b z p0 (f_X0_clear_8_L z p0 n) v1 g
noncomputable def f_X0_clear (z : Nat) (t : Option Nm) (g : Hp) : Option (Unit × Hp) :=
  (putI t 1 5 (-9) g).bind fun g1 =>
  (f_X0_clear_8_L z t z 0 g1).bind fun q6 =>
  some ((), q6.2)
set_option maxRecDepth 20000 in
theorem b_X0_clear_8 {X : Xt Unit} (hX : IsM rtV X) (z : Nat) (p0 : Option Nm) (rec : Int32 → Hp → Option (Int32 × Hp)) (K : Int32 × Hp → Option (Unit × Hp)) (he : ∀ (v1 : Int32) (g : Hp), J yX0_clear cX0_clear 2 none 0 0 X g 37 [(1, sI v1), (0, sR p0)] [] (K (v1, g))) (hr : ∀ (v1 : Int32) (g : Hp), J yX0_clear cX0_clear 2 none 0 0 X g 8 [(1, sI v1), (0, sR p0)] [] ((rec v1 g).bind K)) (v1 : Int32) (g : Hp) : J yX0_clear cX0_clear 2 none 0 0 X g 8 [(1, sI v1), (0, sR p0)] [] ((f_X0_clear_8_b z p0 rec v1 g).bind K) := by
  unfold f_X0_clear_8_b
  refine j_iload_n (pc := 8) 0 dX0_clear_8 rfl rfl ?_
  refine j_sipush (pc := 9) (v := 144) dX0_clear_9 (by decide) ?_
  refine j_icmp_ge (pc := 12) (tgt := 37) dX0_clear_12 (by decide) bi (fun hc => ?_) (fun hc => ?_)
  · exact he v1 g
  · refine j_aload_n (pc := 15) 1 dX0_clear_15 rfl rfl ?_
    refine j_getR (pc := 16) (own := RX0) dX0_clear_16 lf_X0_9 rfl bb (fun x2 => ?_)
    refine j_iload_n (pc := 19) 0 dX0_clear_19 rfl rfl ?_
    refine j_ldc (pc := 20) (own := RX0) (v := (-1000000)) dX0_clear_20 rfl lk_X0_22 ?_
    refine j_astI (pc := 22) dX0_clear_22 bb (fun g3 => ?_)
    refine j_aload_n (pc := 23) 1 dX0_clear_23 rfl rfl ?_
    refine j_getR (pc := 24) (own := RX0) dX0_clear_24 lf_X0_15 rfl bb (fun x4 => ?_)
    refine j_iload_n (pc := 27) 0 dX0_clear_27 rfl rfl ?_
    refine j_ldc (pc := 28) (own := RX0) (v := 1000000) dX0_clear_28 rfl lk_X0_23 ?_
    refine j_astI (pc := 30) dX0_clear_30 bb (fun g5 => ?_)
    refine j_iinc (pc := 31) (v := (v1 + 1)) (lv' := [(1, sI (v1 + 1)), (0, sR p0)]) 0 dX0_clear_31 rfl rfl (by decide) rfl ?_
    refine j_goto (pc := 34) (tgt := 8) dX0_clear_34 (by decide) ?_
    exact hr (v1 + 1) g5
set_option maxRecDepth 20000 in
theorem l_X0_clear_8 {X : Xt Unit} (hX : IsM rtV X) (z : Nat) (p0 : Option Nm) (K : Int32 × Hp → Option (Unit × Hp)) (he : ∀ (v1 : Int32) (g : Hp), J yX0_clear cX0_clear 2 none 0 0 X g 37 [(1, sI v1), (0, sR p0)] [] (K (v1, g))) : ∀ (n : Nat) (v1 : Int32) (g : Hp), J yX0_clear cX0_clear 2 none 0 0 X g 8 [(1, sI v1), (0, sR p0)] [] ((f_X0_clear_8_L z p0 n v1 g).bind K)
  | 0, _, _ => J.eq rfl J.none
  | n + 1, v1, g => b_X0_clear_8 hX z p0 _ K he (fun v1 g => l_X0_clear_8 hX z p0 K he n v1 g) v1 g
set_option maxRecDepth 20000 in
theorem m_X0_clear (z : Nat) (t : Option Nm) (g : Hp) : FM yX0_clear cX0_clear 2 none 0 0 rtV [sR t] g (f_X0_clear z t g) := by
  refine FM.entry (by decide +kernel) (Nat.le_of_ble_eq_true rfl) (fun X hX => ?_)
  unfold f_X0_clear
  show J yX0_clear cX0_clear 2 none 0 0 X g 0 [(0, sR t)] [] _
  refine j_aload_n (pc := 0) 0 dX0_clear_0 rfl rfl ?_
  refine j_bipush (pc := 1) (v := (-9)) dX0_clear_1 (by decide) ?_
  refine j_putI (pc := 3) (own := RX0) dX0_clear_3 lf_X0_18 lt_1_5 lw_X0_18_X0_clear rfl rfl (fun g1 => ?_)
  refine j_iconst (pc := 6) (v := 0) dX0_clear_6 (by decide) ?_
  refine j_istore_n (pc := 7) (lv' := [(1, sI 0), (0, sR t)]) dX0_clear_7 rfl (by decide) rfl ?_
  refine l_X0_clear_8 hX z t _ (fun q6_0 q6_g => ?_) z 0 g1
  exact j_return dX0_clear_37 hX rfl rfl
/-! X0_narrow -/
noncomputable def f_X0_narrow_3_b (z : Nat) (p0 : Option Nm) (p1 : Option Nm) (p2 : Int32) (p3 : Int32) (p4 : Int32) (rec : Int32 → Hp → Option (Int32 × Hp)) (v5 : Int32) (g : Hp) : Option (Int32 × Hp) :=
  if 144 ≤ v5 then (some (v5, g))
  else ((ick p1 8 (f_X7_between z p1 v5 p2 g)).bind fun q1 =>
    (getR p0 1 0 q1.2).bind fun x2 =>
    (getR p0 1 0 q1.2).bind fun x3 =>
    (aldI x3 v5 q1.2).bind fun x4 =>
    (astI x2 v5 (imax x4 (p3 - q1.1)) q1.2).bind fun g5 =>
    (getR p0 1 1 g5).bind fun x6 =>
    (getR p0 1 1 g5).bind fun x7 =>
    (aldI x7 v5 g5).bind fun x8 =>
    (astI x6 v5 (imin x8 (p4 - q1.1)) g5).bind fun g9 =>
    rec (v5 + 1) g9)
noncomputable def f_X0_narrow_3_L (z : Nat) (p0 : Option Nm) (p1 : Option Nm) (p2 : Int32) (p3 : Int32) (p4 : Int32) : Nat → Int32 → Hp → Option (Int32 × Hp)
  | 0, _, _ => none
  | n + 1, v5, g => f_X0_narrow_3_b z p0 p1 p2 p3 p4 (f_X0_narrow_3_L z p0 p1 p2 p3 p4 n) v5 g
noncomputable def f_X0_narrow (z : Nat) (t : Option Nm) (a0 : Option Nm) (a1 : Int32) (a2 : Int32) (a3 : Int32) (g : Hp) : Option (Unit × Hp) :=
  (f_X0_narrow_3_L z t a0 a1 a2 a3 z 0 g).bind fun q10 =>
  some ((), q10.2)
set_option maxRecDepth 20000 in
theorem b_X0_narrow_3 {X : Xt Unit} (hX : IsM rtV X) (z : Nat) (p0 : Option Nm) (p1 : Option Nm) (p2 : Int32) (p3 : Int32) (p4 : Int32) (rec : Int32 → Hp → Option (Int32 × Hp)) (K : Int32 × Hp → Option (Unit × Hp)) (he : ∀ (v5 : Int32) (g : Hp), J yX0_narrow cX0_narrow 7 none 2 37 X g 69 [(5, sI v5), (0, sR p0), (1, sR p1), (2, sI p2), (3, sI p3), (4, sI p4)] [] (K (v5, g))) (hr : ∀ (v5 : Int32) (g : Hp), J yX0_narrow cX0_narrow 7 none 2 37 X g 3 [(5, sI v5), (0, sR p0), (1, sR p1), (2, sI p2), (3, sI p3), (4, sI p4)] [] ((rec v5 g).bind K)) (v5 : Int32) (g : Hp) : J yX0_narrow cX0_narrow 7 none 2 37 X g 3 [(5, sI v5), (0, sR p0), (1, sR p1), (2, sI p2), (3, sI p3), (4, sI p4)] [] ((f_X0_narrow_3_b z p0 p1 p2 p3 p4 rec v5 g).bind K) := by
  unfold f_X0_narrow_3_b
  refine j_iload (pc := 3) 0 dX0_narrow_3 rfl ?_
  refine j_sipush (pc := 5) (v := 144) dX0_narrow_5 (by decide) ?_
  refine j_icmp_ge (pc := 8) (tgt := 69) dX0_narrow_8 (by decide) bi (fun hc => ?_) (fun hc => ?_)
  · exact he v5 g
  · refine j_aload_n (pc := 11) 2 dX0_narrow_11 rfl rfl ?_
    refine j_iload (pc := 12) 0 dX0_narrow_12 rfl ?_
    refine j_iload_n (pc := 14) 3 dX0_narrow_14 rfl rfl ?_
    refine j_callV (pc := 15) (own := RX0) [sI v5, sI p2] [] dX0_narrow_15 lc_X0_24 lv_X7_between rfl (m_X7_between z p1 v5 p2 g) ⟨⟨Nat.le_of_ble_eq_true rfl, Nat.le_of_ble_eq_true rfl⟩, Nat.le_of_ble_eq_true rfl⟩ rfl bb (fun q1r q1g => ?_)
    refine j_istore (pc := 18) (lv' := [(6, sI q1r), (5, sI v5), (0, sR p0), (1, sR p1), (2, sI p2), (3, sI p3), (4, sI p4)]) dX0_narrow_18 (by decide) rfl ?_
    refine j_aload_n (pc := 20) 2 dX0_narrow_20 rfl rfl ?_
    refine j_getR (pc := 21) (own := RX0) dX0_narrow_21 lf_X0_9 rfl bb (fun x2 => ?_)
    refine j_iload (pc := 24) 1 dX0_narrow_24 rfl ?_
    refine j_aload_n (pc := 26) 2 dX0_narrow_26 rfl rfl ?_
    refine j_getR (pc := 27) (own := RX0) dX0_narrow_27 lf_X0_9 rfl bb (fun x3 => ?_)
    refine j_iload (pc := 30) 1 dX0_narrow_30 rfl ?_
    refine j_aldI (pc := 32) dX0_narrow_32 bb (fun x4 => ?_)
    refine j_iload_n (pc := 33) 5 dX0_narrow_33 rfl rfl ?_
    refine j_iload (pc := 34) 0 dX0_narrow_34 rfl ?_
    refine j_isub (pc := 36) dX0_narrow_36 ?_
    refine j_max (pc := 37) (own := RX0) dX0_narrow_37 lM_X0_30 rfl ⟨Nat.le_of_ble_eq_true rfl, Nat.le_of_ble_eq_true rfl⟩ ?_
    refine j_astI (pc := 40) dX0_narrow_40 bb (fun g5 => ?_)
    refine j_aload_n (pc := 41) 2 dX0_narrow_41 rfl rfl ?_
    refine j_getR (pc := 42) (own := RX0) dX0_narrow_42 lf_X0_15 rfl bb (fun x6 => ?_)
    refine j_iload (pc := 45) 1 dX0_narrow_45 rfl ?_
    refine j_aload_n (pc := 47) 2 dX0_narrow_47 rfl rfl ?_
    refine j_getR (pc := 48) (own := RX0) dX0_narrow_48 lf_X0_15 rfl bb (fun x7 => ?_)
    refine j_iload (pc := 51) 1 dX0_narrow_51 rfl ?_
    refine j_aldI (pc := 53) dX0_narrow_53 bb (fun x8 => ?_)
    refine j_iload (pc := 54) 6 dX0_narrow_54 rfl ?_
    refine j_iload (pc := 56) 0 dX0_narrow_56 rfl ?_
    refine j_isub (pc := 58) dX0_narrow_58 ?_
    refine j_min (pc := 59) (own := RX0) dX0_narrow_59 lM_X0_35 rfl ⟨Nat.le_of_ble_eq_true rfl, Nat.le_of_ble_eq_true rfl⟩ ?_
    refine j_astI (pc := 62) dX0_narrow_62 bb (fun g9 => ?_)
    refine j_iinc (pc := 63) (v := (v5 + 1)) (lv' := [(5, sI (v5 + 1)), (6, sI q1r), (0, sR p0), (1, sR p1), (2, sI p2), (3, sI p3), (4, sI p4)]) 1 dX0_narrow_63 rfl rfl (by decide) rfl ?_
    refine j_goto (pc := 66) (tgt := 3) dX0_narrow_66 (by decide) ?_
    refine J.sub [0, 2, 3, 4, 5, 6] rfl ?_
    exact hr (v5 + 1) g9
set_option maxRecDepth 20000 in
theorem l_X0_narrow_3 {X : Xt Unit} (hX : IsM rtV X) (z : Nat) (p0 : Option Nm) (p1 : Option Nm) (p2 : Int32) (p3 : Int32) (p4 : Int32) (K : Int32 × Hp → Option (Unit × Hp)) (he : ∀ (v5 : Int32) (g : Hp), J yX0_narrow cX0_narrow 7 none 2 37 X g 69 [(5, sI v5), (0, sR p0), (1, sR p1), (2, sI p2), (3, sI p3), (4, sI p4)] [] (K (v5, g))) : ∀ (n : Nat) (v5 : Int32) (g : Hp), J yX0_narrow cX0_narrow 7 none 2 37 X g 3 [(5, sI v5), (0, sR p0), (1, sR p1), (2, sI p2), (3, sI p3), (4, sI p4)] [] ((f_X0_narrow_3_L z p0 p1 p2 p3 p4 n v5 g).bind K)
  | 0, _, _ => J.eq rfl J.none
  | n + 1, v5, g => b_X0_narrow_3 hX z p0 p1 p2 p3 p4 _ K he (fun v5 g => l_X0_narrow_3 hX z p0 p1 p2 p3 p4 K he n v5 g) v5 g
set_option maxRecDepth 20000 in
theorem m_X0_narrow (z : Nat) (t : Option Nm) (a0 : Option Nm) (a1 : Int32) (a2 : Int32) (a3 : Int32) (g : Hp) : FM yX0_narrow cX0_narrow 7 none 2 37 rtV [sR t, sR a0, sI a1, sI a2, sI a3] g (f_X0_narrow z t a0 a1 a2 a3 g) := by
  refine FM.entry (by decide +kernel) (Nat.le_of_ble_eq_true rfl) (fun X hX => ?_)
  unfold f_X0_narrow
  show J yX0_narrow cX0_narrow 7 none 2 37 X g 0 [(0, sR t), (1, sR a0), (2, sI a1), (3, sI a2), (4, sI a3)] [] _
  refine j_iconst (pc := 0) (v := 0) dX0_narrow_0 (by decide) ?_
  refine j_istore (pc := 1) (lv' := [(5, sI 0), (0, sR t), (1, sR a0), (2, sI a1), (3, sI a2), (4, sI a3)]) dX0_narrow_1 (by decide) rfl ?_
  refine l_X0_narrow_3 hX z t a0 a1 a2 a3 _ (fun q10_0 q10_g => ?_) z 0 g
  exact j_return dX0_narrow_69 hX rfl rfl
/-! X0_has -/
noncomputable def f_X0_has (z : Nat) (t : Option Nm) (a0 : Int32) (g : Hp) : Option (Int32 × Hp) :=
  (getR t 1 0 g).bind fun x1 =>
  (aldI x1 a0 g).bind fun x2 =>
  (getR t 1 1 g).bind fun x3 =>
  (aldI x3 a0 g).bind fun x4 =>
  if x4 < x2 then (rtZ 0 g)
  else (rtZ 1 g)
set_option maxRecDepth 20000 in
theorem m_X0_has (z : Nat) (t : Option Nm) (a0 : Int32) (g : Hp) : FM yX0_has cX0_has 2 (some .boolean) 0 0 rtI [sR t, sI a0] g (f_X0_has z t a0 g) := by
  refine FM.entry (by decide +kernel) (Nat.le_of_ble_eq_true rfl) (fun X hX => ?_)
  unfold f_X0_has
  show J yX0_has cX0_has 2 (some .boolean) 0 0 X g 0 [(0, sR t), (1, sI a0)] [] _
  refine j_aload_n (pc := 0) 0 dX0_has_0 rfl rfl ?_
  refine j_getR (pc := 1) (own := RX0) dX0_has_1 lf_X0_9 rfl rfl (fun x1 => ?_)
  refine j_iload_n (pc := 4) 1 dX0_has_4 rfl rfl ?_
  refine j_aldI (pc := 5) dX0_has_5 rfl (fun x2 => ?_)
  refine j_aload_n (pc := 6) 0 dX0_has_6 rfl rfl ?_
  refine j_getR (pc := 7) (own := RX0) dX0_has_7 lf_X0_15 rfl rfl (fun x3 => ?_)
  refine j_iload_n (pc := 10) 1 dX0_has_10 rfl rfl ?_
  refine j_aldI (pc := 11) dX0_has_11 rfl (fun x4 => ?_)
  refine j_icmp_gt (pc := 12) (tgt := 19) dX0_has_12 (by decide) rfl (fun hc => ?_) (fun hc => ?_)
  · refine j_iconst (pc := 19) (v := 0) dX0_has_19 (by decide) ?_
    exact j_zreturn dX0_has_20 hX rfl rfl
  · refine j_iconst (pc := 15) (v := 1) dX0_has_15 (by decide) ?_
    refine j_goto (pc := 16) (tgt := 20) dX0_has_16 (by decide) ?_
    exact j_zreturn dX0_has_20 hX rfl rfl
/-! X0_countCells -/
noncomputable def f_X0_countCells_7_b (z : Nat) (p0 : Option Nm) (rec : Int32 → Hp → Option (Int32 × Hp)) (v1 : Int32) (g : Hp) : Option (Int32 × Hp) :=
  if 144 ≤ v1 then (some (v1, g))
  else ((ick p0 1 (f_X0_has z p0 v1 g)).bind fun q2 =>
    if q2.1 = 0 then (rec (v1 + 1) q2.2)
    else ((getI p0 1 2 q2.2).bind fun x3 =>
      (putI p0 1 2 (x3 + 1) q2.2).bind fun g4 =>
      rec (v1 + 1) g4))
noncomputable def f_X0_countCells_7_L (z : Nat) (p0 : Option Nm) : Nat → Int32 → Hp → Option (Int32 × Hp)
  | 0, _, _ => none
  | n + 1, v1, g => f_X0_countCells_7_b z p0 (f_X0_countCells_7_L z p0 n) v1 g
noncomputable def f_X0_countCells (z : Nat) (t : Option Nm) (g : Hp) : Option (Unit × Hp) :=
  (putI t 1 2 0 g).bind fun g1 =>
  (f_X0_countCells_7_L z t z 0 g1).bind fun q5 =>
  some ((), q5.2)
set_option maxRecDepth 20000 in
theorem b_X0_countCells_7 {X : Xt Unit} (hX : IsM rtV X) (z : Nat) (p0 : Option Nm) (rec : Int32 → Hp → Option (Int32 × Hp)) (K : Int32 × Hp → Option (Unit × Hp)) (he : ∀ (v1 : Int32) (g : Hp), J yX0_countCells cX0_countCells 2 none 1 21 X g 38 [(1, sI v1), (0, sR p0)] [] (K (v1, g))) (hr : ∀ (v1 : Int32) (g : Hp), J yX0_countCells cX0_countCells 2 none 1 21 X g 7 [(1, sI v1), (0, sR p0)] [] ((rec v1 g).bind K)) (v1 : Int32) (g : Hp) : J yX0_countCells cX0_countCells 2 none 1 21 X g 7 [(1, sI v1), (0, sR p0)] [] ((f_X0_countCells_7_b z p0 rec v1 g).bind K) := by
  unfold f_X0_countCells_7_b
  refine j_iload_n (pc := 7) 0 dX0_countCells_7 rfl rfl ?_
  refine j_sipush (pc := 8) (v := 144) dX0_countCells_8 (by decide) ?_
  refine j_icmp_ge (pc := 11) (tgt := 38) dX0_countCells_11 (by decide) bi (fun hc => ?_) (fun hc => ?_)
  · exact he v1 g
  · refine j_aload_n (pc := 14) 1 dX0_countCells_14 rfl rfl ?_
    refine j_iload_n (pc := 15) 0 dX0_countCells_15 rfl rfl ?_
    refine j_callV (pc := 16) (own := RX0) [sI v1] [] dX0_countCells_16 lc_X0_41 lv_X0_has rfl (m_X0_has z p0 v1 g) ⟨⟨Nat.le_of_ble_eq_true rfl, Nat.le_of_ble_eq_true rfl⟩, Nat.le_of_ble_eq_true rfl⟩ rfl bb (fun q2r q2g => ?_)
    refine j_if_eq (pc := 19) (tgt := 32) dX0_countCells_19 (by decide) bi (fun hc => ?_) (fun hc => ?_)
    · refine j_iinc (pc := 32) (v := (v1 + 1)) (lv' := [(1, sI (v1 + 1)), (0, sR p0)]) 0 dX0_countCells_32 rfl rfl (by decide) rfl ?_
      refine j_goto (pc := 35) (tgt := 7) dX0_countCells_35 (by decide) ?_
      exact hr (v1 + 1) q2g
    · refine j_aload_n (pc := 22) 1 dX0_countCells_22 rfl rfl ?_
      refine j_dup (pc := 23) dX0_countCells_23 rfl ?_
      refine j_getI (pc := 24) (own := RX0) dX0_countCells_24 lf_X0_38 rfl bb (fun x3 => ?_)
      refine j_iconst (pc := 27) (v := 1) dX0_countCells_27 (by decide) ?_
      refine j_iadd (pc := 28) dX0_countCells_28 ?_
      refine j_putI (pc := 29) (own := RX0) dX0_countCells_29 lf_X0_38 lt_1_2 lw_X0_38_X0_countCells rfl bb (fun g4 => ?_)
      refine j_iinc (pc := 32) (v := (v1 + 1)) (lv' := [(1, sI (v1 + 1)), (0, sR p0)]) 0 dX0_countCells_32 rfl rfl (by decide) rfl ?_
      refine j_goto (pc := 35) (tgt := 7) dX0_countCells_35 (by decide) ?_
      exact hr (v1 + 1) g4
set_option maxRecDepth 20000 in
theorem l_X0_countCells_7 {X : Xt Unit} (hX : IsM rtV X) (z : Nat) (p0 : Option Nm) (K : Int32 × Hp → Option (Unit × Hp)) (he : ∀ (v1 : Int32) (g : Hp), J yX0_countCells cX0_countCells 2 none 1 21 X g 38 [(1, sI v1), (0, sR p0)] [] (K (v1, g))) : ∀ (n : Nat) (v1 : Int32) (g : Hp), J yX0_countCells cX0_countCells 2 none 1 21 X g 7 [(1, sI v1), (0, sR p0)] [] ((f_X0_countCells_7_L z p0 n v1 g).bind K)
  | 0, _, _ => J.eq rfl J.none
  | n + 1, v1, g => b_X0_countCells_7 hX z p0 _ K he (fun v1 g => l_X0_countCells_7 hX z p0 K he n v1 g) v1 g
set_option maxRecDepth 20000 in
theorem m_X0_countCells (z : Nat) (t : Option Nm) (g : Hp) : FM yX0_countCells cX0_countCells 2 none 1 21 rtV [sR t] g (f_X0_countCells z t g) := by
  refine FM.entry (by decide +kernel) (Nat.le_of_ble_eq_true rfl) (fun X hX => ?_)
  unfold f_X0_countCells
  show J yX0_countCells cX0_countCells 2 none 1 21 X g 0 [(0, sR t)] [] _
  refine j_aload_n (pc := 0) 0 dX0_countCells_0 rfl rfl ?_
  refine j_iconst (pc := 1) (v := 0) dX0_countCells_1 (by decide) ?_
  refine j_putI (pc := 2) (own := RX0) dX0_countCells_2 lf_X0_38 lt_1_2 lw_X0_38_X0_countCells rfl rfl (fun g1 => ?_)
  refine j_iconst (pc := 5) (v := 0) dX0_countCells_5 (by decide) ?_
  refine j_istore_n (pc := 6) (lv' := [(1, sI 0), (0, sR t)]) dX0_countCells_6 rfl (by decide) rfl ?_
  refine l_X0_countCells_7 hX z t _ (fun q5_0 q5_g => ?_) z 0 g1
  exact j_return dX0_countCells_38 hX rfl rfl
end
section
/-! by program: words of the tables -/
set_option maxRecDepth 20000 in
theorem lo_X8_3 : FLI RX8 3 := ⟨⟨List.mem_append_right _ (List.mem_of_getElem? (i := 24) (by decide +kernel)), rfl⟩, ⟨List.mem_append_right _ (List.mem_of_getElem? (i := 25) (by decide +kernel)), rfl⟩, ⟨List.mem_append_right _ (List.mem_of_getElem? (i := 26) (by decide +kernel)), rfl⟩⟩
set_option maxRecDepth 20000 in
theorem ln_X8_9 : FLN RX8 9 8 := ⟨RX7, TX7, 1, tyX7, ⟨rfl, by decide, rfl⟩, tyX7_ok, (fun j hj b hb => by
  obtain rfl : j = 0 := (by omega)
  skip <;> (cases hb; rfl)), inTX7, ⟨List.mem_append_right _ (List.mem_of_getElem? (i := 27) (by decide +kernel)), rfl⟩, ⟨List.mem_append_right _ (List.mem_of_getElem? (i := 28) (by decide +kernel)), rfl⟩, ⟨List.mem_append_right _ (List.mem_of_getElem? (i := 2) (by decide +kernel)), rfl⟩⟩
set_option maxRecDepth 20000 in
theorem lc_X8_11 : FLC RX8 11 yX7_init cX7_init 2 none 1 := ⟨Or.inr ⟨RX8, List.mem_append_right _ (List.mem_of_getElem? (i := 29) (by decide +kernel))⟩, ⟨List.mem_append_right _ (List.mem_of_getElem? (i := 31) (by decide +kernel)), rfl⟩, ⟨List.mem_append_right _ (List.mem_of_getElem? (i := 2) (by decide +kernel)), rfl⟩, ⟨⟨by decide +kernel, by decide +kernel⟩, by decide +kernel⟩⟩
set_option maxRecDepth 20000 in
theorem li_X7_init : FLN0 yX7_init := ⟨by decide +kernel, List.mem_append_right _ (List.mem_of_getElem? (i := 30) (by decide +kernel)), rfl⟩
set_option maxRecDepth 20000 in
theorem inTX8 : ∀ w ∈ u_ws RX8 TX8 14, w ∈ lw_tbl ∧ okW w = true := List.forall_mem_map.mpr fun k hk => by
  have hk2 := List.mem_range.mp hk
  rcases (show k = 0 ∨ k = 1 ∨ k = 2 ∨ k = 3 ∨ k = 4 ∨ k = 5 ∨ k = 6 ∨ k = 7 ∨ k = 8 ∨ k = 9 ∨ k = 10 ∨ k = 11 ∨ k = 12 ∨ k = 13 by omega) with rfl | rfl | rfl | rfl | rfl | rfl | rfl | rfl | rfl | rfl | rfl | rfl | rfl | rfl
  · exact ⟨List.mem_append_right _ (List.mem_of_getElem? (i := 114) (by decide +kernel)), rfl⟩
  · exact ⟨List.mem_append_right _ (List.mem_of_getElem? (i := 116) (by decide +kernel)), rfl⟩
  · exact ⟨List.mem_append_right _ (List.mem_of_getElem? (i := 118) (by decide +kernel)), rfl⟩
  · exact ⟨List.mem_append_right _ (List.mem_of_getElem? (i := 120) (by decide +kernel)), rfl⟩
  · exact ⟨List.mem_append_right _ (List.mem_of_getElem? (i := 122) (by decide +kernel)), rfl⟩
  · exact ⟨List.mem_append_right _ (List.mem_of_getElem? (i := 124) (by decide +kernel)), rfl⟩
  · exact ⟨List.mem_append_right _ (List.mem_of_getElem? (i := 126) (by decide +kernel)), rfl⟩
  · exact ⟨List.mem_append_right _ (List.mem_of_getElem? (i := 128) (by decide +kernel)), rfl⟩
  · exact ⟨List.mem_append_right _ (List.mem_of_getElem? (i := 130) (by decide +kernel)), rfl⟩
  · exact ⟨List.mem_append_right _ (List.mem_of_getElem? (i := 132) (by decide +kernel)), rfl⟩
  · exact ⟨List.mem_append_right _ (List.mem_of_getElem? (i := 134) (by decide +kernel)), rfl⟩
  · exact ⟨List.mem_append_right _ (List.mem_of_getElem? (i := 136) (by decide +kernel)), rfl⟩
  · exact ⟨List.mem_append_right _ (List.mem_of_getElem? (i := 138) (by decide +kernel)), rfl⟩
  · exact ⟨List.mem_append_right _ (List.mem_of_getElem? (i := 140) (by decide +kernel)), rfl⟩
set_option maxRecDepth 20000 in
theorem lf_X8_14 : FLK RX8 14 9 0 true := ⟨RX8, TX8, 14, RX8, ⟨rfl, by decide, rfl, by decide⟩, inTX8, Or.inl ⟨List.mem_append_right _ (List.mem_of_getElem? (i := 102) (by decide +kernel)), rfl⟩, Or.inl rfl⟩
set_option maxRecDepth 20000 in
theorem lt_9_0 : FLT 9 0 (.object "FirstSeconds$Travels") := ⟨RX8, TX8, 14, tyX8, rfl, by decide +kernel, tyX8_ok, nmX8⟩
set_option maxRecDepth 20000 in
theorem lw_X8_14_X8_init : FLW yX8_init RX8 14 9 0 := ⟨RX8, TX8, 14, rfl, Or.inr ⟨rfl, rfl, rfl, List.mem_append_right _ (List.mem_of_getElem? (i := 102) (by decide +kernel)), rfl⟩⟩
set_option maxRecDepth 20000 in
theorem ln_X8_18 : FLN RX8 18 0 := ⟨RJx4a65c, TJx4a65c, 3, tyJx4a65c, ⟨rfl, by decide, rfl⟩, tyJx4a65c_ok, (fun j hj b hb => by
  rcases (show j = 0 ∨ j = 1 ∨ j = 2 by omega) with rfl | rfl | rfl <;> (cases hb; rfl)), inTJx4a65c, ⟨List.mem_append_right _ (List.mem_of_getElem? (i := 45) (by decide +kernel)), rfl⟩, ⟨List.mem_append_right _ (List.mem_of_getElem? (i := 46) (by decide +kernel)), rfl⟩, ⟨List.mem_append_right _ (List.mem_of_getElem? (i := 5) (by decide +kernel)), rfl⟩⟩
set_option maxRecDepth 20000 in
theorem lc_X8_20 : FLC RX8 20 yJx4a65c_init_da8c8 cJx4a65c_init_da8c8 1 none 0 := ⟨Or.inl ⟨List.mem_append_right _ (List.mem_of_getElem? (i := 47) (by decide +kernel)), rfl⟩, ⟨List.mem_append_right _ (List.mem_of_getElem? (i := 49) (by decide +kernel)), rfl⟩, ⟨List.mem_append_right _ (List.mem_of_getElem? (i := 5) (by decide +kernel)), rfl⟩, ⟨⟨by decide +kernel, by decide +kernel⟩, by decide +kernel⟩⟩
set_option maxRecDepth 20000 in
theorem li_Jx4a65c_init_da8c8 : FLN0 yJx4a65c_init_da8c8 := ⟨by decide +kernel, List.mem_append_right _ (List.mem_of_getElem? (i := 48) (by decide +kernel)), rfl⟩
set_option maxRecDepth 20000 in
theorem lf_X8_21 : FLK RX8 21 9 1 true := ⟨RX8, TX8, 14, RX8, ⟨rfl, by decide, rfl, by decide⟩, inTX8, Or.inl ⟨List.mem_append_right _ (List.mem_of_getElem? (i := 103) (by decide +kernel)), rfl⟩, Or.inl rfl⟩
set_option maxRecDepth 20000 in
theorem lt_9_1 : FLT 9 1 (.object "java/util/ArrayList") := ⟨RX8, TX8, 14, tyX8, rfl, by decide +kernel, tyX8_ok, nmX8⟩
set_option maxRecDepth 20000 in
theorem lw_X8_21_X8_init : FLW yX8_init RX8 21 9 1 := ⟨RX8, TX8, 14, rfl, Or.inr ⟨rfl, rfl, rfl, List.mem_append_right _ (List.mem_of_getElem? (i := 103) (by decide +kernel)), rfl⟩⟩
set_option maxRecDepth 20000 in
theorem lf_X8_25 : FLK RX8 25 9 2 true := ⟨RX8, TX8, 14, RX8, ⟨rfl, by decide, rfl, by decide⟩, inTX8, Or.inl ⟨List.mem_append_right _ (List.mem_of_getElem? (i := 104) (by decide +kernel)), rfl⟩, Or.inl rfl⟩
set_option maxRecDepth 20000 in
theorem lt_9_2 : FLT 9 2 (.object "java/util/ArrayList") := ⟨RX8, TX8, 14, tyX8, rfl, by decide +kernel, tyX8_ok, nmX8⟩
set_option maxRecDepth 20000 in
theorem lw_X8_25_X8_init : FLW yX8_init RX8 25 9 2 := ⟨RX8, TX8, 14, rfl, Or.inr ⟨rfl, rfl, rfl, List.mem_append_right _ (List.mem_of_getElem? (i := 104) (by decide +kernel)), rfl⟩⟩
set_option maxRecDepth 20000 in
theorem lf_X8_28 : FLK RX8 28 9 3 true := ⟨RX8, TX8, 14, RX8, ⟨rfl, by decide, rfl, by decide⟩, inTX8, Or.inl ⟨List.mem_append_right _ (List.mem_of_getElem? (i := 105) (by decide +kernel)), rfl⟩, Or.inl rfl⟩
set_option maxRecDepth 20000 in
theorem lt_9_3 : FLT 9 3 (.object "java/util/ArrayList") := ⟨RX8, TX8, 14, tyX8, rfl, by decide +kernel, tyX8_ok, nmX8⟩
set_option maxRecDepth 20000 in
theorem lw_X8_28_X8_init : FLW yX8_init RX8 28 9 3 := ⟨RX8, TX8, 14, rfl, Or.inr ⟨rfl, rfl, rfl, List.mem_append_right _ (List.mem_of_getElem? (i := 105) (by decide +kernel)), rfl⟩⟩
set_option maxRecDepth 20000 in
theorem lf_X8_31 : FLK RX8 31 9 4 true := ⟨RX8, TX8, 14, RX8, ⟨rfl, by decide, rfl, by decide⟩, inTX8, Or.inl ⟨List.mem_append_right _ (List.mem_of_getElem? (i := 106) (by decide +kernel)), rfl⟩, Or.inl rfl⟩
set_option maxRecDepth 20000 in
theorem lt_9_4 : FLT 9 4 (.object "java/util/ArrayList") := ⟨RX8, TX8, 14, tyX8, rfl, by decide +kernel, tyX8_ok, nmX8⟩
set_option maxRecDepth 20000 in
theorem lw_X8_31_X8_init : FLW yX8_init RX8 31 9 4 := ⟨RX8, TX8, 14, rfl, Or.inr ⟨rfl, rfl, rfl, List.mem_append_right _ (List.mem_of_getElem? (i := 106) (by decide +kernel)), rfl⟩⟩
set_option maxRecDepth 20000 in
theorem lf_X8_34 : FLK RX8 34 9 5 true := ⟨RX8, TX8, 14, RX8, ⟨rfl, by decide, rfl, by decide⟩, inTX8, Or.inl ⟨List.mem_append_right _ (List.mem_of_getElem? (i := 107) (by decide +kernel)), rfl⟩, Or.inl rfl⟩
set_option maxRecDepth 20000 in
theorem lt_9_5 : FLT 9 5 (.object "java/util/ArrayList") := ⟨RX8, TX8, 14, tyX8, rfl, by decide +kernel, tyX8_ok, nmX8⟩
set_option maxRecDepth 20000 in
theorem lw_X8_34_X8_init : FLW yX8_init RX8 34 9 5 := ⟨RX8, TX8, 14, rfl, Or.inr ⟨rfl, rfl, rfl, List.mem_append_right _ (List.mem_of_getElem? (i := 107) (by decide +kernel)), rfl⟩⟩
set_option maxRecDepth 20000 in
theorem ln_X8_37 : FLN RX8 37 1 := ⟨RX0, TX0, 6, tyX0, ⟨rfl, by decide, rfl⟩, tyX0_ok, (fun j hj b hb => by
  rcases (show j = 0 ∨ j = 1 ∨ j = 2 ∨ j = 3 ∨ j = 4 ∨ j = 5 by omega) with rfl | rfl | rfl | rfl | rfl | rfl <;> (cases hb; rfl)), inTX0, ⟨List.mem_append_right _ (List.mem_of_getElem? (i := 71) (by decide +kernel)), rfl⟩, ⟨List.mem_append_right _ (List.mem_of_getElem? (i := 72) (by decide +kernel)), rfl⟩, ⟨List.mem_append_right _ (List.mem_of_getElem? (i := 6) (by decide +kernel)), rfl⟩⟩
set_option maxRecDepth 20000 in
theorem lc_X8_39 : FLC RX8 39 yX0_init cX0_init 1 none 0 := ⟨Or.inr ⟨RX8, List.mem_append_right _ (List.mem_of_getElem? (i := 73) (by decide +kernel))⟩, ⟨List.mem_append_right _ (List.mem_of_getElem? (i := 75) (by decide +kernel)), rfl⟩, ⟨List.mem_append_right _ (List.mem_of_getElem? (i := 6) (by decide +kernel)), rfl⟩, ⟨⟨by decide +kernel, by decide +kernel⟩, by decide +kernel⟩⟩
set_option maxRecDepth 20000 in
theorem li_X0_init : FLN0 yX0_init := ⟨by decide +kernel, List.mem_append_right _ (List.mem_of_getElem? (i := 74) (by decide +kernel)), rfl⟩
set_option maxRecDepth 20000 in
theorem lf_X8_40 : FLK RX8 40 9 6 true := ⟨RX8, TX8, 14, RX8, ⟨rfl, by decide, rfl, by decide⟩, inTX8, Or.inl ⟨List.mem_append_right _ (List.mem_of_getElem? (i := 108) (by decide +kernel)), rfl⟩, Or.inl rfl⟩
set_option maxRecDepth 20000 in
theorem lt_9_6 : FLT 9 6 (.object "FirstSeconds$Heap") := ⟨RX8, TX8, 14, tyX8, rfl, by decide +kernel, tyX8_ok, nmX8⟩
set_option maxRecDepth 20000 in
theorem lw_X8_40_X8_init : FLW yX8_init RX8 40 9 6 := ⟨RX8, TX8, 14, rfl, Or.inr ⟨rfl, rfl, rfl, List.mem_append_right _ (List.mem_of_getElem? (i := 108) (by decide +kernel)), rfl⟩⟩
set_option maxRecDepth 20000 in
theorem lf_X8_44 : FLK RX8 44 9 7 true := ⟨RX8, TX8, 14, RX8, ⟨rfl, by decide, rfl, by decide⟩, inTX8, Or.inl ⟨List.mem_append_right _ (List.mem_of_getElem? (i := 109) (by decide +kernel)), rfl⟩, Or.inl rfl⟩
set_option maxRecDepth 20000 in
theorem lt_9_7 : FLT 9 7 (.array .int) := ⟨RX8, TX8, 14, tyX8, rfl, by decide +kernel, tyX8_ok, nmX8⟩
set_option maxRecDepth 20000 in
theorem lw_X8_44_X8_init : FLW yX8_init RX8 44 9 7 := ⟨RX8, TX8, 14, rfl, Or.inr ⟨rfl, rfl, rfl, List.mem_append_right _ (List.mem_of_getElem? (i := 109) (by decide +kernel)), rfl⟩⟩
set_option maxRecDepth 20000 in
theorem lf_X8_48 : FLK RX8 48 9 8 true := ⟨RX8, TX8, 14, RX8, ⟨rfl, by decide, rfl, by decide⟩, inTX8, Or.inl ⟨List.mem_append_right _ (List.mem_of_getElem? (i := 110) (by decide +kernel)), rfl⟩, Or.inl rfl⟩
set_option maxRecDepth 20000 in
theorem lt_9_8 : FLT 9 8 (.array .int) := ⟨RX8, TX8, 14, tyX8, rfl, by decide +kernel, tyX8_ok, nmX8⟩
set_option maxRecDepth 20000 in
theorem lw_X8_48_X8_init : FLW yX8_init RX8 48 9 8 := ⟨RX8, TX8, 14, rfl, Or.inr ⟨rfl, rfl, rfl, List.mem_append_right _ (List.mem_of_getElem? (i := 110) (by decide +kernel)), rfl⟩⟩
set_option maxRecDepth 20000 in
theorem lf_X8_51 : FLK RX8 51 9 11 false := ⟨RX8, TX8, 14, RX8, ⟨rfl, by decide, rfl, by decide⟩, inTX8, Or.inl ⟨List.mem_append_right _ (List.mem_of_getElem? (i := 112) (by decide +kernel)), rfl⟩, Or.inl rfl⟩
set_option maxRecDepth 20000 in
theorem lt_9_11 : FLT 9 11 .int := ⟨RX8, TX8, 14, tyX8, rfl, by decide +kernel, tyX8_ok, nmX8⟩
set_option maxRecDepth 20000 in
theorem lw_X8_51_X8_init : FLW yX8_init RX8 51 9 11 := ⟨RX8, TX8, 14, rfl, Or.inl rfl⟩
set_option maxRecDepth 20000 in
theorem lc_X8_55 : FLC RX8 55 yX8_isWithin cX8_isWithin 3 (some .boolean) 3 := ⟨Or.inl ⟨List.mem_append_right _ (List.mem_of_getElem? (i := 147) (by decide +kernel)), rfl⟩, ⟨List.mem_append_right _ (List.mem_of_getElem? (i := 149) (by decide +kernel)), rfl⟩, ⟨List.mem_append_right _ (List.mem_of_getElem? (i := 1) (by decide +kernel)), rfl⟩, ⟨⟨by decide +kernel, by decide +kernel⟩, by decide +kernel⟩⟩
set_option maxRecDepth 20000 in
theorem ls_X8_isWithin : FLS yX8_isWithin := ⟨List.mem_append_right _ (List.mem_of_getElem? (i := 148) (by decide +kernel)), rfl⟩
set_option maxRecDepth 20000 in
theorem lc_X8_59 : FLC RX8 59 yJx4a65c_isEmpty_aae02 cJx4a65c_isEmpty_aae02 1 (some .boolean) 0 := ⟨Or.inl ⟨List.mem_append_right _ (List.mem_of_getElem? (i := 150) (by decide +kernel)), rfl⟩, ⟨List.mem_append_right _ (List.mem_of_getElem? (i := 153) (by decide +kernel)), rfl⟩, ⟨List.mem_append_right _ (List.mem_of_getElem? (i := 5) (by decide +kernel)), rfl⟩, ⟨⟨by decide +kernel, by decide +kernel⟩, by decide +kernel⟩⟩
set_option maxRecDepth 20000 in
theorem lv_Jx4a65c_isEmpty_aae02 : FLV yJx4a65c_isEmpty_aae02 0 := ⟨by decide, by decide +kernel, ⟨List.mem_append_right _ (List.mem_of_getElem? (i := 151) (by decide +kernel)), rfl⟩, ⟨List.mem_append_right _ (List.mem_of_getElem? (i := 152) (by decide +kernel)), rfl⟩⟩
set_option maxRecDepth 20000 in
theorem lc_X8_63 : FLC RX8 63 yX7_reckon cX7_reckon 5 none 1 := ⟨Or.inr ⟨RX8, List.mem_append_right _ (List.mem_of_getElem? (i := 154) (by decide +kernel))⟩, ⟨List.mem_append_right _ (List.mem_of_getElem? (i := 36) (by decide +kernel)), rfl⟩, ⟨List.mem_append_right _ (List.mem_of_getElem? (i := 2) (by decide +kernel)), rfl⟩, ⟨⟨by decide +kernel, by decide +kernel⟩, by decide +kernel⟩⟩
set_option maxRecDepth 20000 in
theorem lw_X8_51_X8_rule : FLW yX8_rule RX8 51 9 11 := ⟨RX8, TX8, 14, rfl, Or.inl rfl⟩
set_option maxRecDepth 20000 in
theorem lc_X8_66 : FLC RX8 66 yX8_isCell cX8_isCell 1 (some .boolean) 1 := ⟨Or.inl ⟨List.mem_append_right _ (List.mem_of_getElem? (i := 159) (by decide +kernel)), rfl⟩, ⟨List.mem_append_right _ (List.mem_of_getElem? (i := 161) (by decide +kernel)), rfl⟩, ⟨List.mem_append_right _ (List.mem_of_getElem? (i := 1) (by decide +kernel)), rfl⟩, ⟨⟨by decide +kernel, by decide +kernel⟩, by decide +kernel⟩⟩
set_option maxRecDepth 20000 in
theorem ls_X8_isCell : FLS yX8_isCell := ⟨List.mem_append_right _ (List.mem_of_getElem? (i := 160) (by decide +kernel)), rfl⟩
set_option maxRecDepth 20000 in
theorem lc_X8_70 : FLC RX8 70 yJx4a65c_size_8abf5 cJx4a65c_size_8abf5 1 (some .int) 0 := ⟨Or.inl ⟨List.mem_append_right _ (List.mem_of_getElem? (i := 162) (by decide +kernel)), rfl⟩, ⟨List.mem_append_right _ (List.mem_of_getElem? (i := 165) (by decide +kernel)), rfl⟩, ⟨List.mem_append_right _ (List.mem_of_getElem? (i := 5) (by decide +kernel)), rfl⟩, ⟨⟨by decide +kernel, by decide +kernel⟩, by decide +kernel⟩⟩
set_option maxRecDepth 20000 in
theorem lv_Jx4a65c_size_8abf5 : FLV yJx4a65c_size_8abf5 0 := ⟨by decide, by decide +kernel, ⟨List.mem_append_right _ (List.mem_of_getElem? (i := 163) (by decide +kernel)), rfl⟩, ⟨List.mem_append_right _ (List.mem_of_getElem? (i := 164) (by decide +kernel)), rfl⟩⟩
set_option maxRecDepth 20000 in
theorem ln_X8_74 : FLN RX8 74 6 := ⟨RX5, TX5, 3, tyX5, ⟨rfl, by decide, rfl⟩, tyX5_ok, (fun j hj b hb => by
  rcases (show j = 0 ∨ j = 1 ∨ j = 2 by omega) with rfl | rfl | rfl <;> (cases hb; rfl)), inTX5, ⟨List.mem_append_right _ (List.mem_of_getElem? (i := 166) (by decide +kernel)), rfl⟩, ⟨List.mem_append_right _ (List.mem_of_getElem? (i := 167) (by decide +kernel)), rfl⟩, ⟨List.mem_append_right _ (List.mem_of_getElem? (i := 12) (by decide +kernel)), rfl⟩⟩
set_option maxRecDepth 20000 in
theorem lc_X8_76 : FLC RX8 76 yX5_init cX5_init 2 none 1 := ⟨Or.inr ⟨RX8, List.mem_append_right _ (List.mem_of_getElem? (i := 168) (by decide +kernel))⟩, ⟨List.mem_append_right _ (List.mem_of_getElem? (i := 170) (by decide +kernel)), rfl⟩, ⟨List.mem_append_right _ (List.mem_of_getElem? (i := 12) (by decide +kernel)), rfl⟩, ⟨⟨by decide +kernel, by decide +kernel⟩, by decide +kernel⟩⟩
set_option maxRecDepth 20000 in
theorem li_X5_init : FLN0 yX5_init := ⟨by decide +kernel, List.mem_append_right _ (List.mem_of_getElem? (i := 169) (by decide +kernel)), rfl⟩
set_option maxRecDepth 20000 in
theorem lc_X8_77 : FLC RX8 77 yJx4a65c_add_9ea2d cJx4a65c_add_9ea2d 2 (some .boolean) 1 := ⟨Or.inl ⟨List.mem_append_right _ (List.mem_of_getElem? (i := 196) (by decide +kernel)), rfl⟩, ⟨List.mem_append_right _ (List.mem_of_getElem? (i := 199) (by decide +kernel)), rfl⟩, ⟨List.mem_append_right _ (List.mem_of_getElem? (i := 5) (by decide +kernel)), rfl⟩, ⟨⟨by decide +kernel, by decide +kernel⟩, by decide +kernel⟩⟩
set_option maxRecDepth 20000 in
theorem lv_Jx4a65c_add_9ea2d : FLV yJx4a65c_add_9ea2d 0 := ⟨by decide, by decide +kernel, ⟨List.mem_append_right _ (List.mem_of_getElem? (i := 197) (by decide +kernel)), rfl⟩, ⟨List.mem_append_right _ (List.mem_of_getElem? (i := 198) (by decide +kernel)), rfl⟩⟩
set_option maxRecDepth 20000 in
theorem ln_X8_81 : FLN RX8 81 7 := ⟨RX6, TX6, 1, tyX6, ⟨rfl, by decide, rfl⟩, tyX6_ok, (fun j hj b hb => by
  obtain rfl : j = 0 := (by omega)
  skip <;> (cases hb; rfl)), inTX6, ⟨List.mem_append_right _ (List.mem_of_getElem? (i := 256) (by decide +kernel)), rfl⟩, ⟨List.mem_append_right _ (List.mem_of_getElem? (i := 257) (by decide +kernel)), rfl⟩, ⟨List.mem_append_right _ (List.mem_of_getElem? (i := 7) (by decide +kernel)), rfl⟩⟩
set_option maxRecDepth 20000 in
theorem lc_X8_83 : FLC RX8 83 yX6_init cX6_init 2 none 1 := ⟨Or.inr ⟨RX8, List.mem_append_right _ (List.mem_of_getElem? (i := 258) (by decide +kernel))⟩, ⟨List.mem_append_right _ (List.mem_of_getElem? (i := 260) (by decide +kernel)), rfl⟩, ⟨List.mem_append_right _ (List.mem_of_getElem? (i := 7) (by decide +kernel)), rfl⟩, ⟨⟨by decide +kernel, by decide +kernel⟩, by decide +kernel⟩⟩
set_option maxRecDepth 20000 in
theorem li_X6_init : FLN0 yX6_init := ⟨by decide +kernel, List.mem_append_right _ (List.mem_of_getElem? (i := 259) (by decide +kernel)), rfl⟩
set_option maxRecDepth 20000 in
theorem lc_X8_98 : FLC RX8 98 yX7_between cX7_between 5 (some .int) 2 := ⟨Or.inr ⟨RX8, List.mem_append_right _ (List.mem_of_getElem? (i := 271) (by decide +kernel))⟩, ⟨List.mem_append_right _ (List.mem_of_getElem? (i := 274) (by decide +kernel)), rfl⟩, ⟨List.mem_append_right _ (List.mem_of_getElem? (i := 2) (by decide +kernel)), rfl⟩, ⟨⟨by decide +kernel, by decide +kernel⟩, by decide +kernel⟩⟩
set_option maxRecDepth 20000 in
theorem lk_X8_102 : Cond.constant RX8 102 100000 ∈ lw_tbl := List.mem_append_right _ (List.mem_of_getElem? (i := 282) (by decide +kernel))
set_option maxRecDepth 20000 in
theorem lf_X8_103 : FLK RX8 103 9 10 false := ⟨RX8, TX8, 14, RX8, ⟨rfl, by decide, rfl, by decide⟩, inTX8, Or.inl ⟨List.mem_append_right _ (List.mem_of_getElem? (i := 111) (by decide +kernel)), rfl⟩, Or.inl rfl⟩
set_option maxRecDepth 20000 in
theorem lt_9_10 : FLT 9 10 .int := ⟨RX8, TX8, 14, tyX8, rfl, by decide +kernel, tyX8_ok, nmX8⟩
set_option maxRecDepth 20000 in
theorem lw_X8_103_X8_later : FLW yX8_later RX8 103 9 10 := ⟨RX8, TX8, 14, rfl, Or.inl rfl⟩
set_option maxRecDepth 20000 in
theorem lc_X8_95 : FLC RX8 95 yX0_forget cX0_forget 1 none 0 := ⟨Or.inr ⟨RX8, List.mem_append_right _ (List.mem_of_getElem? (i := 283) (by decide +kernel))⟩, ⟨List.mem_append_right _ (List.mem_of_getElem? (i := 286) (by decide +kernel)), rfl⟩, ⟨List.mem_append_right _ (List.mem_of_getElem? (i := 6) (by decide +kernel)), rfl⟩, ⟨⟨by decide +kernel, by decide +kernel⟩, by decide +kernel⟩⟩
set_option maxRecDepth 20000 in
theorem lv_X0_forget : FLV yX0_forget 1 := ⟨by decide, by decide +kernel, ⟨List.mem_append_right _ (List.mem_of_getElem? (i := 285) (by decide +kernel)), rfl⟩, ⟨List.mem_append_left _ (List.mem_of_getElem? (i := 5) (by decide +kernel)), rfl⟩⟩
set_option maxRecDepth 20000 in
theorem lc_X8_84 : FLC RX8 84 yX8_isStation cX8_isStation 2 (some .boolean) 1 := ⟨Or.inl ⟨List.mem_append_right _ (List.mem_of_getElem? (i := 291) (by decide +kernel)), rfl⟩, ⟨List.mem_append_right _ (List.mem_of_getElem? (i := 294) (by decide +kernel)), rfl⟩, ⟨List.mem_append_right _ (List.mem_of_getElem? (i := 1) (by decide +kernel)), rfl⟩, ⟨⟨by decide +kernel, by decide +kernel⟩, by decide +kernel⟩⟩
set_option maxRecDepth 20000 in
theorem lv_X8_isStation : FLV yX8_isStation 9 := ⟨by decide, by decide +kernel, ⟨List.mem_append_right _ (List.mem_of_getElem? (i := 293) (by decide +kernel)), rfl⟩, ⟨List.mem_append_left _ (List.mem_of_getElem? (i := 6) (by decide +kernel)), rfl⟩⟩
set_option maxRecDepth 20000 in
theorem lk_X8_149 : Cond.constant RX8 149 1000000 ∈ lw_tbl := List.mem_append_right _ (List.mem_of_getElem? (i := 295) (by decide +kernel))
set_option maxRecDepth 20000 in
theorem lc_X8_87 : FLC RX8 87 yJx4a65c_get_915e3 cJx4a65c_get_915e3 2 (some (.object "java/lang/Object")) 1 := ⟨Or.inl ⟨List.mem_append_right _ (List.mem_of_getElem? (i := 304) (by decide +kernel)), rfl⟩, ⟨List.mem_append_right _ (List.mem_of_getElem? (i := 307) (by decide +kernel)), rfl⟩, ⟨List.mem_append_right _ (List.mem_of_getElem? (i := 5) (by decide +kernel)), rfl⟩, ⟨⟨by decide +kernel, by decide +kernel⟩, by decide +kernel⟩⟩
set_option maxRecDepth 20000 in
theorem lv_Jx4a65c_get_915e3 : FLV yJx4a65c_get_915e3 0 := ⟨by decide, by decide +kernel, ⟨List.mem_append_right _ (List.mem_of_getElem? (i := 305) (by decide +kernel)), rfl⟩, ⟨List.mem_append_right _ (List.mem_of_getElem? (i := 306) (by decide +kernel)), rfl⟩⟩
set_option maxRecDepth 20000 in
theorem lq_X8_153 : Cond.classLink RX8 153 (oC 4) ∈ lw_tbl := List.mem_append_right _ (List.mem_of_getElem? (i := 318) (by decide +kernel))
set_option maxRecDepth 20000 in
theorem lc_X8_301 : FLC RX8 301 yX3_hears cX3_hears 2 (some .boolean) 1 := ⟨Or.inr ⟨RX8, List.mem_append_right _ (List.mem_of_getElem? (i := 319) (by decide +kernel))⟩, ⟨List.mem_append_right _ (List.mem_of_getElem? (i := 323) (by decide +kernel)), rfl⟩, ⟨List.mem_append_right _ (List.mem_of_getElem? (i := 18) (by decide +kernel)), rfl⟩, ⟨⟨by decide +kernel, by decide +kernel⟩, by decide +kernel⟩⟩
set_option maxRecDepth 20000 in
theorem lv_X3_hears : FLV yX3_hears 4 := ⟨by decide, by decide +kernel, ⟨List.mem_append_right _ (List.mem_of_getElem? (i := 321) (by decide +kernel)), rfl⟩, ⟨List.mem_append_left _ (List.mem_of_getElem? (i := 9) (by decide +kernel)), rfl⟩⟩
set_option maxRecDepth 20000 in
theorem lf_X8_308 : FLK RX8 308 1 5 false := ⟨RX0, TX0, 6, RX0, ⟨rfl, by decide, rfl, by decide⟩, inTX0, Or.inr ⟨RX8, List.mem_append_right _ (List.mem_of_getElem? (i := 88) (by decide +kernel))⟩, Or.inl rfl⟩
set_option maxRecDepth 20000 in
theorem lc_X8_322 : FLC RX8 322 yX0_clear cX0_clear 2 none 0 := ⟨Or.inr ⟨RX8, List.mem_append_right _ (List.mem_of_getElem? (i := 332) (by decide +kernel))⟩, ⟨List.mem_append_right _ (List.mem_of_getElem? (i := 335) (by decide +kernel)), rfl⟩, ⟨List.mem_append_right _ (List.mem_of_getElem? (i := 6) (by decide +kernel)), rfl⟩, ⟨⟨by decide +kernel, by decide +kernel⟩, by decide +kernel⟩⟩
set_option maxRecDepth 20000 in
theorem lv_X0_clear : FLV yX0_clear 1 := ⟨by decide, by decide +kernel, ⟨List.mem_append_right _ (List.mem_of_getElem? (i := 334) (by decide +kernel)), rfl⟩, ⟨List.mem_append_left _ (List.mem_of_getElem? (i := 12) (by decide +kernel)), rfl⟩⟩
set_option maxRecDepth 20000 in
theorem lq_X8_74 : Cond.classLink RX8 74 (oC 6) ∈ lw_tbl := List.mem_append_right _ (List.mem_of_getElem? (i := 166) (by decide +kernel))
set_option maxRecDepth 20000 in
theorem lf_X8_325 : FLK RX8 325 4 2 true := ⟨RX3, TX3, 6, RX3, ⟨rfl, by decide, rfl, by decide⟩, inTX3, Or.inr ⟨RX8, List.mem_append_right _ (List.mem_of_getElem? (i := 400) (by decide +kernel))⟩, Or.inl rfl⟩
set_option maxRecDepth 20000 in
theorem lf_X8_91 : FLK RX8 91 6 2 false := ⟨RX5, TX5, 3, RX5, ⟨rfl, by decide, rfl, by decide⟩, inTX5, Or.inr ⟨RX8, List.mem_append_right _ (List.mem_of_getElem? (i := 188) (by decide +kernel))⟩, Or.inl rfl⟩
set_option maxRecDepth 20000 in
theorem lf_X8_312 : FLK RX8 312 6 0 false := ⟨RX5, TX5, 3, RX5, ⟨rfl, by decide, rfl, by decide⟩, inTX5, Or.inr ⟨RX8, List.mem_append_right _ (List.mem_of_getElem? (i := 186) (by decide +kernel))⟩, Or.inl rfl⟩
set_option maxRecDepth 20000 in
theorem lc_X8_328 : FLC RX8 328 yX0_narrow cX0_narrow 7 none 4 := ⟨Or.inr ⟨RX8, List.mem_append_right _ (List.mem_of_getElem? (i := 338) (by decide +kernel))⟩, ⟨List.mem_append_right _ (List.mem_of_getElem? (i := 341) (by decide +kernel)), rfl⟩, ⟨List.mem_append_right _ (List.mem_of_getElem? (i := 6) (by decide +kernel)), rfl⟩, ⟨⟨by decide +kernel, by decide +kernel⟩, by decide +kernel⟩⟩
set_option maxRecDepth 20000 in
theorem lv_X0_narrow : FLV yX0_narrow 1 := ⟨by decide, by decide +kernel, ⟨List.mem_append_right _ (List.mem_of_getElem? (i := 340) (by decide +kernel)), rfl⟩, ⟨List.mem_append_left _ (List.mem_of_getElem? (i := 13) (by decide +kernel)), rfl⟩⟩
set_option maxRecDepth 20000 in
theorem lc_X8_332 : FLC RX8 332 yX0_countCells cX0_countCells 2 none 0 := ⟨Or.inr ⟨RX8, List.mem_append_right _ (List.mem_of_getElem? (i := 345) (by decide +kernel))⟩, ⟨List.mem_append_right _ (List.mem_of_getElem? (i := 348) (by decide +kernel)), rfl⟩, ⟨List.mem_append_right _ (List.mem_of_getElem? (i := 6) (by decide +kernel)), rfl⟩, ⟨⟨by decide +kernel, by decide +kernel⟩, by decide +kernel⟩⟩
set_option maxRecDepth 20000 in
theorem lv_X0_countCells : FLV yX0_countCells 1 := ⟨by decide, by decide +kernel, ⟨List.mem_append_right _ (List.mem_of_getElem? (i := 347) (by decide +kernel)), rfl⟩, ⟨List.mem_append_left _ (List.mem_of_getElem? (i := 14) (by decide +kernel)), rfl⟩⟩
set_option maxRecDepth 20000 in
theorem lc_X8_304 : FLC RX8 304 yX8_fillHeap cX8_fillHeap 7 none 3 := ⟨Or.inl ⟨List.mem_append_right _ (List.mem_of_getElem? (i := 328) (by decide +kernel)), rfl⟩, ⟨List.mem_append_right _ (List.mem_of_getElem? (i := 331) (by decide +kernel)), rfl⟩, ⟨List.mem_append_right _ (List.mem_of_getElem? (i := 1) (by decide +kernel)), rfl⟩, ⟨⟨by decide +kernel, by decide +kernel⟩, by decide +kernel⟩⟩
set_option maxRecDepth 20000 in
theorem lv_X8_fillHeap : FLV yX8_fillHeap 9 := ⟨by decide, by decide +kernel, ⟨List.mem_append_right _ (List.mem_of_getElem? (i := 330) (by decide +kernel)), rfl⟩, ⟨List.mem_append_left _ (List.mem_of_getElem? (i := 11) (by decide +kernel)), rfl⟩⟩
set_option maxRecDepth 20000 in
theorem lf_X8_309 : FLK RX8 309 4 0 false := ⟨RX3, TX3, 6, RX3, ⟨rfl, by decide, rfl, by decide⟩, inTX3, Or.inr ⟨RX8, List.mem_append_right _ (List.mem_of_getElem? (i := 396) (by decide +kernel))⟩, Or.inl rfl⟩
set_option maxRecDepth 20000 in
theorem lf_X8_315 : FLK RX8 315 4 1 false := ⟨RX3, TX3, 6, RX3, ⟨rfl, by decide, rfl, by decide⟩, inTX3, Or.inr ⟨RX8, List.mem_append_right _ (List.mem_of_getElem? (i := 398) (by decide +kernel))⟩, Or.inl rfl⟩
set_option maxRecDepth 20000 in
theorem lf_X0_45 : FLK RX0 45 1 3 false := ⟨RX0, TX0, 6, RX0, ⟨rfl, by decide, rfl, by decide⟩, inTX0, Or.inl ⟨List.mem_append_right _ (List.mem_of_getElem? (i := 83) (by decide +kernel)), rfl⟩, Or.inl rfl⟩
set_option maxRecDepth 20000 in
theorem lt_1_3 : FLT 1 3 .int := ⟨RX0, TX0, 6, tyX0, rfl, by decide +kernel, tyX0_ok, nmX0⟩
set_option maxRecDepth 20000 in
theorem lw_X0_45_X0_measure : FLW yX0_measure RX0 45 1 3 := ⟨RX0, TX0, 6, rfl, Or.inl rfl⟩
set_option maxRecDepth 20000 in
theorem lf_X0_48 : FLK RX0 48 1 4 false := ⟨RX0, TX0, 6, RX0, ⟨rfl, by decide, rfl, by decide⟩, inTX0, Or.inl ⟨List.mem_append_right _ (List.mem_of_getElem? (i := 85) (by decide +kernel)), rfl⟩, Or.inl rfl⟩
set_option maxRecDepth 20000 in
theorem lt_1_4 : FLT 1 4 .int := ⟨RX0, TX0, 6, tyX0, rfl, by decide +kernel, tyX0_ok, nmX0⟩
set_option maxRecDepth 20000 in
theorem lw_X0_48_X0_measure : FLW yX0_measure RX0 48 1 4 := ⟨RX0, TX0, 6, rfl, Or.inl rfl⟩
set_option maxRecDepth 20000 in
theorem lc_X8_291 : FLC RX8 291 yJ6_numberOfLeadingZeros_0f7a4 cJ6_numberOfLeadingZeros_0f7a4 2 (some .int) 1 := ⟨Or.inl ⟨List.mem_append_right _ (List.mem_of_getElem? (i := 360) (by decide +kernel)), rfl⟩, ⟨List.mem_append_right _ (List.mem_of_getElem? (i := 362) (by decide +kernel)), rfl⟩, ⟨List.mem_append_right _ (List.mem_of_getElem? (i := 16) (by decide +kernel)), rfl⟩, ⟨⟨by decide +kernel, by decide +kernel⟩, by decide +kernel⟩⟩
set_option maxRecDepth 20000 in
theorem ls_J6_numberOfLeadingZeros_0f7a4 : FLS yJ6_numberOfLeadingZeros_0f7a4 := ⟨List.mem_append_right _ (List.mem_of_getElem? (i := 361) (by decide +kernel)), rfl⟩
set_option maxRecDepth 20000 in
theorem lc_X0_51 : FLC RX0 51 yX8_bits cX8_bits 1 (some .int) 1 := ⟨Or.inr ⟨RX8, List.mem_append_right _ (List.mem_of_getElem? (i := 357) (by decide +kernel))⟩, ⟨List.mem_append_right _ (List.mem_of_getElem? (i := 359) (by decide +kernel)), rfl⟩, ⟨List.mem_append_right _ (List.mem_of_getElem? (i := 1) (by decide +kernel)), rfl⟩, ⟨⟨by decide +kernel, by decide +kernel⟩, by decide +kernel⟩⟩
set_option maxRecDepth 20000 in
theorem ls_X8_bits : FLS yX8_bits := ⟨List.mem_append_right _ (List.mem_of_getElem? (i := 358) (by decide +kernel)), rfl⟩
set_option maxRecDepth 20000 in
theorem lc_X8_318 : FLC RX8 318 yX0_measure cX0_measure 6 none 3 := ⟨Or.inr ⟨RX8, List.mem_append_right _ (List.mem_of_getElem? (i := 353) (by decide +kernel))⟩, ⟨List.mem_append_right _ (List.mem_of_getElem? (i := 356) (by decide +kernel)), rfl⟩, ⟨List.mem_append_right _ (List.mem_of_getElem? (i := 6) (by decide +kernel)), rfl⟩, ⟨⟨by decide +kernel, by decide +kernel⟩, by decide +kernel⟩⟩
set_option maxRecDepth 20000 in
theorem lv_X0_measure : FLV yX0_measure 1 := ⟨by decide, by decide +kernel, ⟨List.mem_append_right _ (List.mem_of_getElem? (i := 355) (by decide +kernel)), rfl⟩, ⟨List.mem_append_left _ (List.mem_of_getElem? (i := 16) (by decide +kernel)), rfl⟩⟩
set_option maxRecDepth 20000 in
theorem lw_X8_308_X8_heapOf : FLW yX8_heapOf RX8 308 1 5 := ⟨RX0, TX0, 6, rfl, Or.inl rfl⟩
set_option maxRecDepth 20000 in
theorem lc_X8_194 : FLC RX8 194 yX8_heapOf cX8_heapOf 3 (some (.object "FirstSeconds$Heap")) 1 := ⟨Or.inl ⟨List.mem_append_right _ (List.mem_of_getElem? (i := 324) (by decide +kernel)), rfl⟩, ⟨List.mem_append_right _ (List.mem_of_getElem? (i := 327) (by decide +kernel)), rfl⟩, ⟨List.mem_append_right _ (List.mem_of_getElem? (i := 1) (by decide +kernel)), rfl⟩, ⟨⟨by decide +kernel, by decide +kernel⟩, by decide +kernel⟩⟩
set_option maxRecDepth 20000 in
theorem lv_X8_heapOf : FLV yX8_heapOf 9 := ⟨by decide, by decide +kernel, ⟨List.mem_append_right _ (List.mem_of_getElem? (i := 326) (by decide +kernel)), rfl⟩, ⟨List.mem_append_left _ (List.mem_of_getElem? (i := 10) (by decide +kernel)), rfl⟩⟩
set_option maxRecDepth 20000 in
theorem lf_X8_198 : FLK RX8 198 1 2 false := ⟨RX0, TX0, 6, RX0, ⟨rfl, by decide, rfl, by decide⟩, inTX0, Or.inr ⟨RX8, List.mem_append_right _ (List.mem_of_getElem? (i := 82) (by decide +kernel))⟩, Or.inl rfl⟩
set_option maxRecDepth 20000 in
theorem lc_X8_298 : FLC RX8 298 yX8_takes cX8_takes 5 (some .boolean) 3 := ⟨Or.inl ⟨List.mem_append_right _ (List.mem_of_getElem? (i := 300) (by decide +kernel)), rfl⟩, ⟨List.mem_append_right _ (List.mem_of_getElem? (i := 303) (by decide +kernel)), rfl⟩, ⟨List.mem_append_right _ (List.mem_of_getElem? (i := 1) (by decide +kernel)), rfl⟩, ⟨⟨by decide +kernel, by decide +kernel⟩, by decide +kernel⟩⟩
set_option maxRecDepth 20000 in
theorem lv_X8_takes : FLV yX8_takes 9 := ⟨by decide, by decide +kernel, ⟨List.mem_append_right _ (List.mem_of_getElem? (i := 302) (by decide +kernel)), rfl⟩, ⟨List.mem_append_left _ (List.mem_of_getElem? (i := 8) (by decide +kernel)), rfl⟩⟩
set_option maxRecDepth 20000 in
theorem lc_X8_150 : FLC RX8 150 yX8_takerOf cX8_takerOf 4 (some .int) 2 := ⟨Or.inl ⟨List.mem_append_right _ (List.mem_of_getElem? (i := 296) (by decide +kernel)), rfl⟩, ⟨List.mem_append_right _ (List.mem_of_getElem? (i := 299) (by decide +kernel)), rfl⟩, ⟨List.mem_append_right _ (List.mem_of_getElem? (i := 1) (by decide +kernel)), rfl⟩, ⟨⟨by decide +kernel, by decide +kernel⟩, by decide +kernel⟩⟩
set_option maxRecDepth 20000 in
theorem lv_X8_takerOf : FLV yX8_takerOf 9 := ⟨by decide, by decide +kernel, ⟨List.mem_append_right _ (List.mem_of_getElem? (i := 298) (by decide +kernel)), rfl⟩, ⟨List.mem_append_left _ (List.mem_of_getElem? (i := 7) (by decide +kernel)), rfl⟩⟩
set_option maxRecDepth 20000 in
theorem ln_X8_159 : FLN RX8 159 3 := ⟨RX2, TX2, 5, tyX2, ⟨rfl, by decide, rfl⟩, tyX2_ok, (fun j hj b hb => by
  rcases (show j = 0 ∨ j = 1 ∨ j = 2 ∨ j = 3 ∨ j = 4 by omega) with rfl | rfl | rfl | rfl | rfl <;> (cases hb; rfl)), inTX2, ⟨List.mem_append_right _ (List.mem_of_getElem? (i := 368) (by decide +kernel)), rfl⟩, ⟨List.mem_append_right _ (List.mem_of_getElem? (i := 369) (by decide +kernel)), rfl⟩, ⟨List.mem_append_right _ (List.mem_of_getElem? (i := 17) (by decide +kernel)), rfl⟩⟩
set_option maxRecDepth 20000 in
theorem lc_X8_161 : FLC RX8 161 yX2_init cX2_init 6 none 5 := ⟨Or.inr ⟨RX8, List.mem_append_right _ (List.mem_of_getElem? (i := 370) (by decide +kernel))⟩, ⟨List.mem_append_right _ (List.mem_of_getElem? (i := 372) (by decide +kernel)), rfl⟩, ⟨List.mem_append_right _ (List.mem_of_getElem? (i := 17) (by decide +kernel)), rfl⟩, ⟨⟨by decide +kernel, by decide +kernel⟩, by decide +kernel⟩⟩
set_option maxRecDepth 20000 in
theorem li_X2_init : FLN0 yX2_init := ⟨by decide +kernel, List.mem_append_right _ (List.mem_of_getElem? (i := 371) (by decide +kernel)), rfl⟩
set_option maxRecDepth 20000 in
theorem ln_X8_153 : FLN RX8 153 4 := ⟨RX3, TX3, 6, tyX3, ⟨rfl, by decide, rfl⟩, tyX3_ok, (fun j hj b hb => by
  rcases (show j = 0 ∨ j = 1 ∨ j = 2 ∨ j = 3 ∨ j = 4 ∨ j = 5 by omega) with rfl | rfl | rfl | rfl | rfl | rfl <;> (cases hb; rfl)), inTX3, ⟨List.mem_append_right _ (List.mem_of_getElem? (i := 318) (by decide +kernel)), rfl⟩, ⟨List.mem_append_right _ (List.mem_of_getElem? (i := 322) (by decide +kernel)), rfl⟩, ⟨List.mem_append_right _ (List.mem_of_getElem? (i := 18) (by decide +kernel)), rfl⟩⟩
set_option maxRecDepth 20000 in
theorem lc_X8_164 : FLC RX8 164 yX3_init cX3_init 5 none 3 := ⟨Or.inr ⟨RX8, List.mem_append_right _ (List.mem_of_getElem? (i := 390) (by decide +kernel))⟩, ⟨List.mem_append_right _ (List.mem_of_getElem? (i := 392) (by decide +kernel)), rfl⟩, ⟨List.mem_append_right _ (List.mem_of_getElem? (i := 18) (by decide +kernel)), rfl⟩, ⟨⟨by decide +kernel, by decide +kernel⟩, by decide +kernel⟩⟩
set_option maxRecDepth 20000 in
theorem li_X3_init : FLN0 yX3_init := ⟨by decide +kernel, List.mem_append_right _ (List.mem_of_getElem? (i := 391) (by decide +kernel)), rfl⟩
set_option maxRecDepth 20000 in
theorem lc_X8_155 : FLC RX8 155 yX3_hear cX3_hear 3 none 2 := ⟨Or.inr ⟨RX8, List.mem_append_right _ (List.mem_of_getElem? (i := 364) (by decide +kernel))⟩, ⟨List.mem_append_right _ (List.mem_of_getElem? (i := 367) (by decide +kernel)), rfl⟩, ⟨List.mem_append_right _ (List.mem_of_getElem? (i := 18) (by decide +kernel)), rfl⟩, ⟨⟨by decide +kernel, by decide +kernel⟩, by decide +kernel⟩⟩
set_option maxRecDepth 20000 in
theorem lc_X8_188 : FLC RX8 188 yX8_isQuake cX8_isQuake 2 (some .boolean) 1 := ⟨Or.inl ⟨List.mem_append_right _ (List.mem_of_getElem? (i := 422) (by decide +kernel)), rfl⟩, ⟨List.mem_append_right _ (List.mem_of_getElem? (i := 425) (by decide +kernel)), rfl⟩, ⟨List.mem_append_right _ (List.mem_of_getElem? (i := 1) (by decide +kernel)), rfl⟩, ⟨⟨by decide +kernel, by decide +kernel⟩, by decide +kernel⟩⟩
set_option maxRecDepth 20000 in
theorem lv_X8_isQuake : FLV yX8_isQuake 9 := ⟨by decide, by decide +kernel, ⟨List.mem_append_right _ (List.mem_of_getElem? (i := 424) (by decide +kernel)), rfl⟩, ⟨List.mem_append_left _ (List.mem_of_getElem? (i := 18) (by decide +kernel)), rfl⟩⟩
set_option maxRecDepth 20000 in
theorem lf_X8_191 : FLK RX8 191 4 3 false := ⟨RX3, TX3, 6, RX3, ⟨rfl, by decide, rfl, by decide⟩, inTX3, Or.inr ⟨RX8, List.mem_append_right _ (List.mem_of_getElem? (i := 402) (by decide +kernel))⟩, Or.inl rfl⟩
set_option maxRecDepth 20000 in
theorem lf_X8_201 : FLK RX8 201 1 3 false := ⟨RX0, TX0, 6, RX0, ⟨rfl, by decide, rfl, by decide⟩, inTX0, Or.inr ⟨RX8, List.mem_append_right _ (List.mem_of_getElem? (i := 84) (by decide +kernel))⟩, Or.inl rfl⟩
set_option maxRecDepth 20000 in
theorem lf_X8_204 : FLK RX8 204 1 4 false := ⟨RX0, TX0, 6, RX0, ⟨rfl, by decide, rfl, by decide⟩, inTX0, Or.inr ⟨RX8, List.mem_append_right _ (List.mem_of_getElem? (i := 86) (by decide +kernel))⟩, Or.inl rfl⟩
set_option maxRecDepth 20000 in
theorem lc_X8_207 : FLC RX8 207 yX8_isOver cX8_isOver 2 (some .boolean) 1 := ⟨Or.inl ⟨List.mem_append_right _ (List.mem_of_getElem? (i := 426) (by decide +kernel)), rfl⟩, ⟨List.mem_append_right _ (List.mem_of_getElem? (i := 429) (by decide +kernel)), rfl⟩, ⟨List.mem_append_right _ (List.mem_of_getElem? (i := 1) (by decide +kernel)), rfl⟩, ⟨⟨by decide +kernel, by decide +kernel⟩, by decide +kernel⟩⟩
set_option maxRecDepth 20000 in
theorem lv_X8_isOver : FLV yX8_isOver 9 := ⟨by decide, by decide +kernel, ⟨List.mem_append_right _ (List.mem_of_getElem? (i := 428) (by decide +kernel)), rfl⟩, ⟨List.mem_append_left _ (List.mem_of_getElem? (i := 19) (by decide +kernel)), rfl⟩⟩
set_option maxRecDepth 20000 in
theorem lf_X8_218 : FLK RX8 218 1 0 true := ⟨RX0, TX0, 6, RX0, ⟨rfl, by decide, rfl, by decide⟩, inTX0, Or.inr ⟨RX8, List.mem_append_right _ (List.mem_of_getElem? (i := 78) (by decide +kernel))⟩, Or.inl rfl⟩
set_option maxRecDepth 20000 in
theorem lf_X8_215 : FLK RX8 215 1 1 true := ⟨RX0, TX0, 6, RX0, ⟨rfl, by decide, rfl, by decide⟩, inTX0, Or.inr ⟨RX8, List.mem_append_right _ (List.mem_of_getElem? (i := 80) (by decide +kernel))⟩, Or.inl rfl⟩
set_option maxRecDepth 20000 in
theorem lc_X8_221 : FLC RX8 221 yX8_isTown cX8_isTown 2 (some .boolean) 1 := ⟨Or.inl ⟨List.mem_append_right _ (List.mem_of_getElem? (i := 438) (by decide +kernel)), rfl⟩, ⟨List.mem_append_right _ (List.mem_of_getElem? (i := 441) (by decide +kernel)), rfl⟩, ⟨List.mem_append_right _ (List.mem_of_getElem? (i := 1) (by decide +kernel)), rfl⟩, ⟨⟨by decide +kernel, by decide +kernel⟩, by decide +kernel⟩⟩
set_option maxRecDepth 20000 in
theorem lv_X8_isTown : FLV yX8_isTown 9 := ⟨by decide, by decide +kernel, ⟨List.mem_append_right _ (List.mem_of_getElem? (i := 440) (by decide +kernel)), rfl⟩, ⟨List.mem_append_left _ (List.mem_of_getElem? (i := 20) (by decide +kernel)), rfl⟩⟩
set_option maxRecDepth 20000 in
theorem lq_X8_81 : Cond.classLink RX8 81 (oC 7) ∈ lw_tbl := List.mem_append_right _ (List.mem_of_getElem? (i := 256) (by decide +kernel))
set_option maxRecDepth 20000 in
theorem lf_X8_335 : FLK RX8 335 7 0 false := ⟨RX6, TX6, 1, RX6, ⟨rfl, by decide, rfl, by decide⟩, inTX6, Or.inr ⟨RX8, List.mem_append_right _ (List.mem_of_getElem? (i := 263) (by decide +kernel))⟩, Or.inl rfl⟩
set_option maxRecDepth 20000 in
theorem lk_X8_342 : Cond.constant RX8 342 (-1000000) ∈ lw_tbl := List.mem_append_right _ (List.mem_of_getElem? (i := 446) (by decide +kernel))
set_option maxRecDepth 20000 in
theorem lc_X8_213 : FLC RX8 213 yX0_has cX0_has 2 (some .boolean) 1 := ⟨Or.inr ⟨RX8, List.mem_append_right _ (List.mem_of_getElem? (i := 447) (by decide +kernel))⟩, ⟨List.mem_append_right _ (List.mem_of_getElem? (i := 352) (by decide +kernel)), rfl⟩, ⟨List.mem_append_right _ (List.mem_of_getElem? (i := 6) (by decide +kernel)), rfl⟩, ⟨⟨by decide +kernel, by decide +kernel⟩, by decide +kernel⟩⟩
set_option maxRecDepth 20000 in
theorem lM_X8_261 : FLM RX8 261 Lib.Math.max.name Lib.Math.max.code 2 := ⟨⟨List.mem_append_right _ (List.mem_of_getElem? (i := 448) (by decide +kernel)), rfl⟩, ⟨List.mem_append_right _ (List.mem_of_getElem? (i := 216) (by decide +kernel)), rfl⟩, ⟨List.mem_append_right _ (List.mem_of_getElem? (i := 9) (by decide +kernel)), rfl⟩, ⟨List.mem_append_right _ (List.mem_of_getElem? (i := 217) (by decide +kernel)), rfl⟩⟩
set_option maxRecDepth 20000 in
theorem lc_X8_255 : FLC RX8 255 yX8_latestArrival cX8_latestArrival 7 (some .int) 2 := ⟨Or.inl ⟨List.mem_append_right _ (List.mem_of_getElem? (i := 442) (by decide +kernel)), rfl⟩, ⟨List.mem_append_right _ (List.mem_of_getElem? (i := 445) (by decide +kernel)), rfl⟩, ⟨List.mem_append_right _ (List.mem_of_getElem? (i := 1) (by decide +kernel)), rfl⟩, ⟨⟨by decide +kernel, by decide +kernel⟩, by decide +kernel⟩⟩
set_option maxRecDepth 20000 in
theorem lv_X8_latestArrival : FLV yX8_latestArrival 9 := ⟨by decide, by decide +kernel, ⟨List.mem_append_right _ (List.mem_of_getElem? (i := 444) (by decide +kernel)), rfl⟩, ⟨List.mem_append_left _ (List.mem_of_getElem? (i := 21) (by decide +kernel)), rfl⟩⟩
set_option maxRecDepth 20000 in
theorem lM_X8_339 : FLM RX8 339 Lib.Math.min.name Lib.Math.min.code 2 := ⟨⟨List.mem_append_right _ (List.mem_of_getElem? (i := 453) (by decide +kernel)), rfl⟩, ⟨List.mem_append_right _ (List.mem_of_getElem? (i := 245) (by decide +kernel)), rfl⟩, ⟨List.mem_append_right _ (List.mem_of_getElem? (i := 9) (by decide +kernel)), rfl⟩, ⟨List.mem_append_right _ (List.mem_of_getElem? (i := 246) (by decide +kernel)), rfl⟩⟩
set_option maxRecDepth 20000 in
theorem lc_X8_258 : FLC RX8 258 yX8_earliestArrival cX8_earliestArrival 7 (some .int) 2 := ⟨Or.inl ⟨List.mem_append_right _ (List.mem_of_getElem? (i := 449) (by decide +kernel)), rfl⟩, ⟨List.mem_append_right _ (List.mem_of_getElem? (i := 452) (by decide +kernel)), rfl⟩, ⟨List.mem_append_right _ (List.mem_of_getElem? (i := 1) (by decide +kernel)), rfl⟩, ⟨⟨by decide +kernel, by decide +kernel⟩, by decide +kernel⟩⟩
set_option maxRecDepth 20000 in
theorem lv_X8_earliestArrival : FLV yX8_earliestArrival 9 := ⟨by decide, by decide +kernel, ⟨List.mem_append_right _ (List.mem_of_getElem? (i := 451) (by decide +kernel)), rfl⟩, ⟨List.mem_append_left _ (List.mem_of_getElem? (i := 22) (by decide +kernel)), rfl⟩⟩
set_option maxRecDepth 20000 in
theorem lf_X8_233 : FLK RX8 233 9 12 false := ⟨RX8, TX8, 14, RX8, ⟨rfl, by decide, rfl, by decide⟩, inTX8, Or.inl ⟨List.mem_append_right _ (List.mem_of_getElem? (i := 113) (by decide +kernel)), rfl⟩, Or.inl rfl⟩
/-! by program: what the methods do, and that their bytecode does it -/
/-! X8_init -/
noncomputable def f_X8_init (z : Nat) (t : Option Nm) (g : Hp) : Option (Unit × Hp) :=
  (nnu t).bind fun _ =>
  (mkO (8, 0) 8 g).bind fun q1 =>
  (nnl q1.1 (f_X7_init z q1.1 100 q1.2)).bind fun q2 =>
  (putR t 9 0 q1.1 q2.2).bind fun g3 =>
  (mkO (0, 0) 0 g3).bind fun q4 =>
  (nnl q4.1 (f_Jx4a65c_init_da8c8 z q4.1 q4.2)).bind fun q5 =>
  (putR t 9 1 q4.1 q5.2).bind fun g6 =>
  (mkO (0, 1) 0 g6).bind fun q7 =>
  (nnl q7.1 (f_Jx4a65c_init_da8c8 z q7.1 q7.2)).bind fun q8 =>
  (putR t 9 2 q7.1 q8.2).bind fun g9 =>
  (mkO (0, 2) 0 g9).bind fun q10 =>
  (nnl q10.1 (f_Jx4a65c_init_da8c8 z q10.1 q10.2)).bind fun q11 =>
  (putR t 9 3 q10.1 q11.2).bind fun g12 =>
  (mkO (0, 3) 0 g12).bind fun q13 =>
  (nnl q13.1 (f_Jx4a65c_init_da8c8 z q13.1 q13.2)).bind fun q14 =>
  (putR t 9 4 q13.1 q14.2).bind fun g15 =>
  (mkO (0, 4) 0 g15).bind fun q16 =>
  (nnl q16.1 (f_Jx4a65c_init_da8c8 z q16.1 q16.2)).bind fun q17 =>
  (putR t 9 5 q16.1 q17.2).bind fun g18 =>
  (mkO (1, 0) 1 g18).bind fun q19 =>
  (nnl q19.1 (f_X0_init z q19.1 q19.2)).bind fun q20 =>
  (putR t 9 6 q19.1 q20.2).bind fun g21 =>
  (mkI (23, 0) 6 g21).bind fun q22 =>
  (astI q22.1 0 0 q22.2).bind fun g23 =>
  (astI q22.1 1 4 g23).bind fun g24 =>
  (astI q22.1 2 8 g24).bind fun g25 =>
  (astI q22.1 3 12 g25).bind fun g26 =>
  (astI q22.1 4 16 g26).bind fun g27 =>
  (astI q22.1 5 61 g27).bind fun g28 =>
  (putR t 9 7 q22.1 g28).bind fun g29 =>
  (mkI (24, 0) 6 g29).bind fun q30 =>
  (putR t 9 8 q30.1 q30.2).bind fun g31 =>
  (putI t 9 11 2 g31).bind fun g32 =>
  some ((), g32)
set_option maxRecDepth 20000 in
theorem m_X8_init (z : Nat) (t : Option Nm) (g : Hp) : FM yX8_init cX8_init 1 none 4 72 rtV [sR t] g (f_X8_init z t g) := by
  refine FM.entry (by decide +kernel) (Nat.le_of_ble_eq_true rfl) (fun X hX => ?_)
  unfold f_X8_init
  show J yX8_init cX8_init 1 none 4 72 X g 0 [(0, sR t)] [] _
  refine j_aload_n (pc := 0) 0 dX8_init_0 rfl rfl ?_
  refine b_oinit (pc := 1) (own := RX8) dX8_init_1 lo_X8_3 rfl ⟨Nat.le_of_ble_eq_true rfl, Nat.le_of_ble_eq_true rfl⟩ rfl ?_
  refine j_aload_n (pc := 4) 0 dX8_init_4 rfl rfl ?_
  refine j_mkO (pc := 5) (own := RX8) dX8_init_5 ln_X8_9 rfl rfl (fun q1r q1g => ?_)
  refine j_dup (pc := 8) dX8_init_8 rfl ?_
  refine j_bipush (pc := 9) (v := 100) dX8_init_9 (by decide) ?_
  refine j_callI (pc := 11) (own := RX8) [sI 100] [sR q1r, sR t] dX8_init_11 lc_X8_11 li_X7_init rfl (m_X7_init z q1r 100 q1g) ⟨⟨Nat.le_of_ble_eq_true rfl, Nat.le_of_ble_eq_true rfl⟩, Nat.le_of_ble_eq_true rfl⟩ rfl rfl (fun q2r q2g => ?_)
  refine j_putR (pc := 14) (own := RX8) dX8_init_14 lf_X8_14 lt_9_0 rfl lw_X8_14_X8_init rfl rfl (fun g3 => ?_)
  refine j_aload_n (pc := 17) 0 dX8_init_17 rfl rfl ?_
  refine j_mkO (pc := 18) (own := RX8) dX8_init_18 ln_X8_18 rfl rfl (fun q4r q4g => ?_)
  refine j_dup (pc := 21) dX8_init_21 rfl ?_
  refine j_callI (pc := 22) (own := RX8) [] [sR q4r, sR t] dX8_init_22 lc_X8_20 li_Jx4a65c_init_da8c8 rfl (m_Jx4a65c_init_da8c8 z q4r q4g) ⟨⟨Nat.le_of_ble_eq_true rfl, Nat.le_of_ble_eq_true rfl⟩, Nat.le_of_ble_eq_true rfl⟩ rfl rfl (fun q5r q5g => ?_)
  refine j_putR (pc := 25) (own := RX8) dX8_init_25 lf_X8_21 lt_9_1 rfl lw_X8_21_X8_init rfl rfl (fun g6 => ?_)
  refine j_aload_n (pc := 28) 0 dX8_init_28 rfl rfl ?_
  refine j_mkO (pc := 29) (own := RX8) dX8_init_29 ln_X8_18 rfl rfl (fun q7r q7g => ?_)
  refine j_dup (pc := 32) dX8_init_32 rfl ?_
  refine j_callI (pc := 33) (own := RX8) [] [sR q7r, sR t] dX8_init_33 lc_X8_20 li_Jx4a65c_init_da8c8 rfl (m_Jx4a65c_init_da8c8 z q7r q7g) ⟨⟨Nat.le_of_ble_eq_true rfl, Nat.le_of_ble_eq_true rfl⟩, Nat.le_of_ble_eq_true rfl⟩ rfl rfl (fun q8r q8g => ?_)
  refine j_putR (pc := 36) (own := RX8) dX8_init_36 lf_X8_25 lt_9_2 rfl lw_X8_25_X8_init rfl rfl (fun g9 => ?_)
  refine j_aload_n (pc := 39) 0 dX8_init_39 rfl rfl ?_
  refine j_mkO (pc := 40) (own := RX8) dX8_init_40 ln_X8_18 rfl rfl (fun q10r q10g => ?_)
  refine j_dup (pc := 43) dX8_init_43 rfl ?_
  refine j_callI (pc := 44) (own := RX8) [] [sR q10r, sR t] dX8_init_44 lc_X8_20 li_Jx4a65c_init_da8c8 rfl (m_Jx4a65c_init_da8c8 z q10r q10g) ⟨⟨Nat.le_of_ble_eq_true rfl, Nat.le_of_ble_eq_true rfl⟩, Nat.le_of_ble_eq_true rfl⟩ rfl rfl (fun q11r q11g => ?_)
  refine j_putR (pc := 47) (own := RX8) dX8_init_47 lf_X8_28 lt_9_3 rfl lw_X8_28_X8_init rfl rfl (fun g12 => ?_)
  refine j_aload_n (pc := 50) 0 dX8_init_50 rfl rfl ?_
  refine j_mkO (pc := 51) (own := RX8) dX8_init_51 ln_X8_18 rfl rfl (fun q13r q13g => ?_)
  refine j_dup (pc := 54) dX8_init_54 rfl ?_
  refine j_callI (pc := 55) (own := RX8) [] [sR q13r, sR t] dX8_init_55 lc_X8_20 li_Jx4a65c_init_da8c8 rfl (m_Jx4a65c_init_da8c8 z q13r q13g) ⟨⟨Nat.le_of_ble_eq_true rfl, Nat.le_of_ble_eq_true rfl⟩, Nat.le_of_ble_eq_true rfl⟩ rfl rfl (fun q14r q14g => ?_)
  refine j_putR (pc := 58) (own := RX8) dX8_init_58 lf_X8_31 lt_9_4 rfl lw_X8_31_X8_init rfl rfl (fun g15 => ?_)
  refine j_aload_n (pc := 61) 0 dX8_init_61 rfl rfl ?_
  refine j_mkO (pc := 62) (own := RX8) dX8_init_62 ln_X8_18 rfl rfl (fun q16r q16g => ?_)
  refine j_dup (pc := 65) dX8_init_65 rfl ?_
  refine j_callI (pc := 66) (own := RX8) [] [sR q16r, sR t] dX8_init_66 lc_X8_20 li_Jx4a65c_init_da8c8 rfl (m_Jx4a65c_init_da8c8 z q16r q16g) ⟨⟨Nat.le_of_ble_eq_true rfl, Nat.le_of_ble_eq_true rfl⟩, Nat.le_of_ble_eq_true rfl⟩ rfl rfl (fun q17r q17g => ?_)
  refine j_putR (pc := 69) (own := RX8) dX8_init_69 lf_X8_34 lt_9_5 rfl lw_X8_34_X8_init rfl rfl (fun g18 => ?_)
  refine j_aload_n (pc := 72) 0 dX8_init_72 rfl rfl ?_
  refine j_mkO (pc := 73) (own := RX8) dX8_init_73 ln_X8_37 rfl rfl (fun q19r q19g => ?_)
  refine j_dup (pc := 76) dX8_init_76 rfl ?_
  refine j_callI (pc := 77) (own := RX8) [] [sR q19r, sR t] dX8_init_77 lc_X8_39 li_X0_init rfl (m_X0_init z q19r q19g) ⟨⟨Nat.le_of_ble_eq_true rfl, Nat.le_of_ble_eq_true rfl⟩, Nat.le_of_ble_eq_true rfl⟩ rfl rfl (fun q20r q20g => ?_)
  refine j_putR (pc := 80) (own := RX8) dX8_init_80 lf_X8_40 lt_9_6 rfl lw_X8_40_X8_init rfl rfl (fun g21 => ?_)
  refine j_aload_n (pc := 83) 0 dX8_init_83 rfl rfl ?_
  refine j_bipush (pc := 84) (v := 6) dX8_init_84 (by decide) ?_
  refine j_mkI (pc := 86) dX8_init_86 lA_int rfl (fun q22r q22g => ?_)
  refine j_dup (pc := 88) dX8_init_88 rfl ?_
  refine j_iconst (pc := 89) (v := 0) dX8_init_89 (by decide) ?_
  refine j_iconst (pc := 90) (v := 0) dX8_init_90 (by decide) ?_
  refine j_astI (pc := 91) dX8_init_91 rfl (fun g23 => ?_)
  refine j_dup (pc := 92) dX8_init_92 rfl ?_
  refine j_iconst (pc := 93) (v := 1) dX8_init_93 (by decide) ?_
  refine j_iconst (pc := 94) (v := 4) dX8_init_94 (by decide) ?_
  refine j_astI (pc := 95) dX8_init_95 rfl (fun g24 => ?_)
  refine j_dup (pc := 96) dX8_init_96 rfl ?_
  refine j_iconst (pc := 97) (v := 2) dX8_init_97 (by decide) ?_
  refine j_bipush (pc := 98) (v := 8) dX8_init_98 (by decide) ?_
  refine j_astI (pc := 100) dX8_init_100 rfl (fun g25 => ?_)
  refine j_dup (pc := 101) dX8_init_101 rfl ?_
  refine j_iconst (pc := 102) (v := 3) dX8_init_102 (by decide) ?_
  refine j_bipush (pc := 103) (v := 12) dX8_init_103 (by decide) ?_
  refine j_astI (pc := 105) dX8_init_105 rfl (fun g26 => ?_)
  refine j_dup (pc := 106) dX8_init_106 rfl ?_
  refine j_iconst (pc := 107) (v := 4) dX8_init_107 (by decide) ?_
  refine j_bipush (pc := 108) (v := 16) dX8_init_108 (by decide) ?_
  refine j_astI (pc := 110) dX8_init_110 rfl (fun g27 => ?_)
  refine j_dup (pc := 111) dX8_init_111 rfl ?_
  refine j_iconst (pc := 112) (v := 5) dX8_init_112 (by decide) ?_
  refine j_bipush (pc := 113) (v := 61) dX8_init_113 (by decide) ?_
  refine j_astI (pc := 115) dX8_init_115 rfl (fun g28 => ?_)
  refine j_putR (pc := 116) (own := RX8) dX8_init_116 lf_X8_44 lt_9_7 rfl lw_X8_44_X8_init rfl rfl (fun g29 => ?_)
  refine j_aload_n (pc := 119) 0 dX8_init_119 rfl rfl ?_
  refine j_bipush (pc := 120) (v := 6) dX8_init_120 (by decide) ?_
  refine j_mkI (pc := 122) dX8_init_122 lA_int rfl (fun q30r q30g => ?_)
  refine j_putR (pc := 124) (own := RX8) dX8_init_124 lf_X8_48 lt_9_8 rfl lw_X8_48_X8_init rfl rfl (fun g31 => ?_)
  refine j_aload_n (pc := 127) 0 dX8_init_127 rfl rfl ?_
  refine j_iconst (pc := 128) (v := 2) dX8_init_128 (by decide) ?_
  refine j_putI (pc := 129) (own := RX8) dX8_init_129 lf_X8_51 lt_9_11 lw_X8_51_X8_init rfl rfl (fun g32 => ?_)
  exact j_return dX8_init_132 hX rfl rfl
/-! X8_isWithin -/
noncomputable def f_X8_isWithin (z : Nat) (a0 : Int32) (a1 : Int32) (a2 : Int32) (g : Hp) : Option (Int32 × Hp) :=
  if a0 < a1 then (rtZ 0 g)
  else (if a2 < a0 then (rtZ 0 g)
    else (rtZ 1 g))
set_option maxRecDepth 20000 in
theorem m_X8_isWithin (z : Nat) (a0 : Int32) (a1 : Int32) (a2 : Int32) (g : Hp) : FM yX8_isWithin cX8_isWithin 3 (some .boolean) 0 0 rtI [sI a0, sI a1, sI a2] g (f_X8_isWithin z a0 a1 a2 g) := by
  refine FM.entry (by decide +kernel) (Nat.le_of_ble_eq_true rfl) (fun X hX => ?_)
  unfold f_X8_isWithin
  show J yX8_isWithin cX8_isWithin 3 (some .boolean) 0 0 X g 0 [(0, sI a0), (1, sI a1), (2, sI a2)] [] _
  refine j_iload_n (pc := 0) 0 dX8_isWithin_0 rfl rfl ?_
  refine j_iload_n (pc := 1) 1 dX8_isWithin_1 rfl rfl ?_
  refine j_icmp_lt (pc := 2) (tgt := 14) dX8_isWithin_2 (by decide) rfl (fun hc => ?_) (fun hc => ?_)
  · refine j_iconst (pc := 14) (v := 0) dX8_isWithin_14 (by decide) ?_
    exact j_zreturn dX8_isWithin_15 hX rfl rfl
  · refine j_iload_n (pc := 5) 0 dX8_isWithin_5 rfl rfl ?_
    refine j_iload_n (pc := 6) 2 dX8_isWithin_6 rfl rfl ?_
    refine j_icmp_gt (pc := 7) (tgt := 14) dX8_isWithin_7 (by decide) rfl (fun hc => ?_) (fun hc => ?_)
    · refine j_iconst (pc := 14) (v := 0) dX8_isWithin_14 (by decide) ?_
      exact j_zreturn dX8_isWithin_15 hX rfl rfl
    · refine j_iconst (pc := 10) (v := 1) dX8_isWithin_10 (by decide) ?_
      refine j_goto (pc := 11) (tgt := 15) dX8_isWithin_11 (by decide) ?_
      exact j_zreturn dX8_isWithin_15 hX rfl rfl
/-! X8_rule -/
noncomputable def f_X8_rule (z : Nat) (t : Option Nm) (a0 : Int32) (a1 : Int32) (g : Hp) : Option (Int32 × Hp) :=
  (f_X8_isWithin z a0 1 400 g).bind fun q1 =>
  if q1.1 = 0 then (some ((-1), q1.2))
  else ((f_X8_isWithin z a1 0 50 q1.2).bind fun q2 =>
    if q2.1 = 0 then (some ((-1), q2.2))
    else ((getR t 9 3 q2.2).bind fun x3 =>
      (ick x3 0 (f_Jx4a65c_isEmpty_aae02 z x3 q2.2)).bind fun q4 =>
      if q4.1 = 0 then (some ((-4), q4.2))
      else ((getR t 9 0 q4.2).bind fun x5 =>
        (ick x5 8 (f_X7_reckon z x5 a0 q4.2)).bind fun q6 =>
        (putI t 9 11 a1 q6.2).bind fun g7 =>
        some (1, g7))))
set_option maxRecDepth 20000 in
theorem m_X8_rule (z : Nat) (t : Option Nm) (a0 : Int32) (a1 : Int32) (g : Hp) : FM yX8_rule cX8_rule 3 (some .int) 2 46 rtI [sR t, sI a0, sI a1] g (f_X8_rule z t a0 a1 g) := by
  refine FM.entry (by decide +kernel) (Nat.le_of_ble_eq_true rfl) (fun X hX => ?_)
  unfold f_X8_rule
  show J yX8_rule cX8_rule 3 (some .int) 2 46 X g 0 [(0, sR t), (1, sI a0), (2, sI a1)] [] _
  refine j_iload_n (pc := 0) 1 dX8_rule_0 rfl rfl ?_
  refine j_iconst (pc := 1) (v := 1) dX8_rule_1 (by decide) ?_
  refine j_sipush (pc := 2) (v := 400) dX8_rule_2 (by decide) ?_
  refine j_callS (pc := 5) (own := RX8) [sI a0, sI 1, sI 400] [] dX8_rule_5 lc_X8_55 ls_X8_isWithin rfl (m_X8_isWithin z a0 1 400 g) ⟨⟨Nat.le_of_ble_eq_true rfl, Nat.le_of_ble_eq_true rfl⟩, Nat.le_of_ble_eq_true rfl⟩ rfl rfl (fun q1r q1g => ?_)
  refine j_if_eq (pc := 8) (tgt := 21) dX8_rule_8 (by decide) rfl (fun hc => ?_) (fun hc => ?_)
  · refine j_iconst (pc := 21) (v := (-1)) dX8_rule_21 (by decide) ?_
    exact j_ireturn dX8_rule_22 hX rfl rfl
  · refine j_iload_n (pc := 11) 2 dX8_rule_11 rfl rfl ?_
    refine j_iconst (pc := 12) (v := 0) dX8_rule_12 (by decide) ?_
    refine j_bipush (pc := 13) (v := 50) dX8_rule_13 (by decide) ?_
    refine j_callS (pc := 15) (own := RX8) [sI a1, sI 0, sI 50] [] dX8_rule_15 lc_X8_55 ls_X8_isWithin rfl (m_X8_isWithin z a1 0 50 q1g) ⟨⟨Nat.le_of_ble_eq_true rfl, Nat.le_of_ble_eq_true rfl⟩, Nat.le_of_ble_eq_true rfl⟩ rfl rfl (fun q2r q2g => ?_)
    refine j_if_ne (pc := 18) (tgt := 23) dX8_rule_18 (by decide) rfl (fun hc => ?_) (fun hc => ?_)
    · refine j_aload_n (pc := 23) 0 dX8_rule_23 rfl rfl ?_
      refine j_getR (pc := 24) (own := RX8) dX8_rule_24 lf_X8_28 rfl rfl (fun x3 => ?_)
      refine j_callV (pc := 27) (own := RX8) [] [] dX8_rule_27 lc_X8_59 lv_Jx4a65c_isEmpty_aae02 rfl (m_Jx4a65c_isEmpty_aae02 z x3 q2g) ⟨⟨Nat.le_of_ble_eq_true rfl, Nat.le_of_ble_eq_true rfl⟩, Nat.le_of_ble_eq_true rfl⟩ rfl rfl (fun q4r q4g => ?_)
      refine j_if_ne (pc := 30) (tgt := 36) dX8_rule_30 (by decide) rfl (fun hc => ?_) (fun hc => ?_)
      · refine j_aload_n (pc := 36) 0 dX8_rule_36 rfl rfl ?_
        refine j_getR (pc := 37) (own := RX8) dX8_rule_37 lf_X8_14 rfl rfl (fun x5 => ?_)
        refine j_iload_n (pc := 40) 1 dX8_rule_40 rfl rfl ?_
        refine j_callV (pc := 41) (own := RX8) [sI a0] [] dX8_rule_41 lc_X8_63 lv_X7_reckon rfl (m_X7_reckon z x5 a0 q4g) ⟨⟨Nat.le_of_ble_eq_true rfl, Nat.le_of_ble_eq_true rfl⟩, Nat.le_of_ble_eq_true rfl⟩ rfl rfl (fun q6r q6g => ?_)
        refine j_aload_n (pc := 44) 0 dX8_rule_44 rfl rfl ?_
        refine j_iload_n (pc := 45) 2 dX8_rule_45 rfl rfl ?_
        refine j_putI (pc := 46) (own := RX8) dX8_rule_46 lf_X8_51 lt_9_11 lw_X8_51_X8_rule rfl rfl (fun g7 => ?_)
        refine j_iconst (pc := 49) (v := 1) dX8_rule_49 (by decide) ?_
        exact j_ireturn dX8_rule_50 hX rfl rfl
      · refine j_bipush (pc := 33) (v := (-4)) dX8_rule_33 (by decide) ?_
        exact j_ireturn dX8_rule_35 hX rfl rfl
    · refine j_iconst (pc := 21) (v := (-1)) dX8_rule_21 (by decide) ?_
      exact j_ireturn dX8_rule_22 hX rfl rfl
/-! X8_isCell -/
noncomputable def f_X8_isCell (z : Nat) (a0 : Int32) (g : Hp) : Option (Int32 × Hp) :=
  (f_X8_isWithin z a0 0 143 g).bind fun q1 =>
  rtZ q1.1 q1.2
set_option maxRecDepth 20000 in
theorem m_X8_isCell (z : Nat) (a0 : Int32) (g : Hp) : FM yX8_isCell cX8_isCell 1 (some .boolean) 1 22 rtI [sI a0] g (f_X8_isCell z a0 g) := by
  refine FM.entry (by decide +kernel) (Nat.le_of_ble_eq_true rfl) (fun X hX => ?_)
  unfold f_X8_isCell
  show J yX8_isCell cX8_isCell 1 (some .boolean) 1 22 X g 0 [(0, sI a0)] [] _
  refine j_iload_n (pc := 0) 0 dX8_isCell_0 rfl rfl ?_
  refine j_iconst (pc := 1) (v := 0) dX8_isCell_1 (by decide) ?_
  refine j_sipush (pc := 2) (v := 143) dX8_isCell_2 (by decide) ?_
  refine j_callS (pc := 5) (own := RX8) [sI a0, sI 0, sI 143] [] dX8_isCell_5 lc_X8_55 ls_X8_isWithin rfl (m_X8_isWithin z a0 0 143 g) ⟨⟨Nat.le_of_ble_eq_true rfl, Nat.le_of_ble_eq_true rfl⟩, Nat.le_of_ble_eq_true rfl⟩ rfl rfl (fun q1r q1g => ?_)
  exact j_zreturn dX8_isCell_8 hX rfl rfl
/-! X8_station -/
noncomputable def f_X8_station (z : Nat) (t : Option Nm) (a0 : Int32) (g : Hp) : Option (Int32 × Hp) :=
  (f_X8_isCell z a0 g).bind fun q1 =>
  if q1.1 = 0 then (some ((-1), q1.2))
  else ((getR t 9 1 q1.2).bind fun x2 =>
    (ick x2 0 (f_Jx4a65c_size_8abf5 z x2 q1.2)).bind fun q3 =>
    if q3.1 < 10 then ((getR t 9 3 q3.2).bind fun x4 =>
      (ick x4 0 (f_Jx4a65c_isEmpty_aae02 z x4 q3.2)).bind fun q5 =>
      if q5.1 = 0 then (some ((-4), q5.2))
      else ((getR t 9 1 q5.2).bind fun x6 =>
        (mkO (6, lsz q5.2 0) 6 q5.2).bind fun q7 =>
        (nnl q7.1 (f_X5_init z q7.1 a0 q7.2)).bind fun q8 =>
        (ick x6 0 (f_Jx4a65c_add_9ea2d z x6 q7.1 q8.2)).bind fun q9 =>
        (getR t 9 1 q9.2).bind fun x10 =>
        (ick x10 0 (f_Jx4a65c_size_8abf5 z x10 q9.2)).bind fun q11 =>
        some ((q11.1 - 1), q11.2)))
    else (some ((-2), q3.2)))
set_option maxRecDepth 20000 in
theorem m_X8_station (z : Nat) (t : Option Nm) (a0 : Int32) (g : Hp) : FM yX8_station cX8_station 2 (some .int) 7 149 rtI [sR t, sI a0] g (f_X8_station z t a0 g) := by
  refine FM.entry (by decide +kernel) (Nat.le_of_ble_eq_true rfl) (fun X hX => ?_)
  unfold f_X8_station
  show J yX8_station cX8_station 2 (some .int) 7 149 X g 0 [(0, sR t), (1, sI a0)] [] _
  refine j_iload_n (pc := 0) 1 dX8_station_0 rfl rfl ?_
  refine j_callS (pc := 1) (own := RX8) [sI a0] [] dX8_station_1 lc_X8_66 ls_X8_isCell rfl (m_X8_isCell z a0 g) ⟨⟨Nat.le_of_ble_eq_true rfl, Nat.le_of_ble_eq_true rfl⟩, Nat.le_of_ble_eq_true rfl⟩ rfl rfl (fun q1r q1g => ?_)
  refine j_if_ne (pc := 4) (tgt := 9) dX8_station_4 (by decide) rfl (fun hc => ?_) (fun hc => ?_)
  · refine j_aload_n (pc := 9) 0 dX8_station_9 rfl rfl ?_
    refine j_getR (pc := 10) (own := RX8) dX8_station_10 lf_X8_21 rfl rfl (fun x2 => ?_)
    refine j_callV (pc := 13) (own := RX8) [] [] dX8_station_13 lc_X8_70 lv_Jx4a65c_size_8abf5 rfl (m_Jx4a65c_size_8abf5 z x2 q1g) ⟨⟨Nat.le_of_ble_eq_true rfl, Nat.le_of_ble_eq_true rfl⟩, Nat.le_of_ble_eq_true rfl⟩ rfl rfl (fun q3r q3g => ?_)
    refine j_bipush (pc := 16) (v := 10) dX8_station_16 (by decide) ?_
    refine j_icmp_lt (pc := 18) (tgt := 24) dX8_station_18 (by decide) rfl (fun hc => ?_) (fun hc => ?_)
    · refine j_aload_n (pc := 24) 0 dX8_station_24 rfl rfl ?_
      refine j_getR (pc := 25) (own := RX8) dX8_station_25 lf_X8_28 rfl rfl (fun x4 => ?_)
      refine j_callV (pc := 28) (own := RX8) [] [] dX8_station_28 lc_X8_59 lv_Jx4a65c_isEmpty_aae02 rfl (m_Jx4a65c_isEmpty_aae02 z x4 q3g) ⟨⟨Nat.le_of_ble_eq_true rfl, Nat.le_of_ble_eq_true rfl⟩, Nat.le_of_ble_eq_true rfl⟩ rfl rfl (fun q5r q5g => ?_)
      refine j_if_ne (pc := 31) (tgt := 37) dX8_station_31 (by decide) rfl (fun hc => ?_) (fun hc => ?_)
      · refine j_aload_n (pc := 37) 0 dX8_station_37 rfl rfl ?_
        refine j_getR (pc := 38) (own := RX8) dX8_station_38 lf_X8_21 rfl rfl (fun x6 => ?_)
        refine j_mkO (pc := 41) (own := RX8) dX8_station_41 ln_X8_74 rfl rfl (fun q7r q7g => ?_)
        refine j_dup (pc := 44) dX8_station_44 rfl ?_
        refine j_iload_n (pc := 45) 1 dX8_station_45 rfl rfl ?_
        refine j_callI (pc := 46) (own := RX8) [sI a0] [sR q7r, sR x6] dX8_station_46 lc_X8_76 li_X5_init rfl (m_X5_init z q7r a0 q7g) ⟨⟨Nat.le_of_ble_eq_true rfl, Nat.le_of_ble_eq_true rfl⟩, Nat.le_of_ble_eq_true rfl⟩ rfl rfl (fun q8r q8g => ?_)
        refine j_callV (pc := 49) (own := RX8) [sR q7r] [] dX8_station_49 lc_X8_77 lv_Jx4a65c_add_9ea2d rfl (m_Jx4a65c_add_9ea2d z x6 q7r q8g) ⟨⟨Nat.le_of_ble_eq_true rfl, Nat.le_of_ble_eq_true rfl⟩, Nat.le_of_ble_eq_true rfl⟩ rfl rfl (fun q9r q9g => ?_)
        refine j_pop (pc := 52) dX8_station_52 rfl ?_
        refine j_aload_n (pc := 53) 0 dX8_station_53 rfl rfl ?_
        refine j_getR (pc := 54) (own := RX8) dX8_station_54 lf_X8_21 rfl rfl (fun x10 => ?_)
        refine j_callV (pc := 57) (own := RX8) [] [] dX8_station_57 lc_X8_70 lv_Jx4a65c_size_8abf5 rfl (m_Jx4a65c_size_8abf5 z x10 q9g) ⟨⟨Nat.le_of_ble_eq_true rfl, Nat.le_of_ble_eq_true rfl⟩, Nat.le_of_ble_eq_true rfl⟩ rfl rfl (fun q11r q11g => ?_)
        refine j_iconst (pc := 60) (v := 1) dX8_station_60 (by decide) ?_
        refine j_isub (pc := 61) dX8_station_61 ?_
        exact j_ireturn dX8_station_62 hX rfl rfl
      · refine j_bipush (pc := 34) (v := (-4)) dX8_station_34 (by decide) ?_
        exact j_ireturn dX8_station_36 hX rfl rfl
    · refine j_bipush (pc := 21) (v := (-2)) dX8_station_21 (by decide) ?_
      exact j_ireturn dX8_station_23 hX rfl rfl
  · refine j_iconst (pc := 7) (v := (-1)) dX8_station_7 (by decide) ?_
    exact j_ireturn dX8_station_8 hX rfl rfl
/-! X8_town -/
noncomputable def f_X8_town (z : Nat) (t : Option Nm) (a0 : Int32) (g : Hp) : Option (Int32 × Hp) :=
  (f_X8_isCell z a0 g).bind fun q1 =>
  if q1.1 = 0 then (some ((-1), q1.2))
  else ((getR t 9 2 q1.2).bind fun x2 =>
    (ick x2 0 (f_Jx4a65c_size_8abf5 z x2 q1.2)).bind fun q3 =>
    if q3.1 < 6 then ((getR t 9 2 q3.2).bind fun x4 =>
      (mkO (7, lsz q3.2 1) 7 q3.2).bind fun q5 =>
      (nnl q5.1 (f_X6_init z q5.1 a0 q5.2)).bind fun q6 =>
      (ick x4 0 (f_Jx4a65c_add_9ea2d z x4 q5.1 q6.2)).bind fun q7 =>
      (getR t 9 2 q7.2).bind fun x8 =>
      (ick x8 0 (f_Jx4a65c_size_8abf5 z x8 q7.2)).bind fun q9 =>
      some ((q9.1 - 1), q9.2))
    else (some ((-2), q3.2)))
set_option maxRecDepth 20000 in
theorem m_X8_town (z : Nat) (t : Option Nm) (a0 : Int32) (g : Hp) : FM yX8_town cX8_town 2 (some .int) 7 149 rtI [sR t, sI a0] g (f_X8_town z t a0 g) := by
  refine FM.entry (by decide +kernel) (Nat.le_of_ble_eq_true rfl) (fun X hX => ?_)
  unfold f_X8_town
  show J yX8_town cX8_town 2 (some .int) 7 149 X g 0 [(0, sR t), (1, sI a0)] [] _
  refine j_iload_n (pc := 0) 1 dX8_town_0 rfl rfl ?_
  refine j_callS (pc := 1) (own := RX8) [sI a0] [] dX8_town_1 lc_X8_66 ls_X8_isCell rfl (m_X8_isCell z a0 g) ⟨⟨Nat.le_of_ble_eq_true rfl, Nat.le_of_ble_eq_true rfl⟩, Nat.le_of_ble_eq_true rfl⟩ rfl rfl (fun q1r q1g => ?_)
  refine j_if_ne (pc := 4) (tgt := 9) dX8_town_4 (by decide) rfl (fun hc => ?_) (fun hc => ?_)
  · refine j_aload_n (pc := 9) 0 dX8_town_9 rfl rfl ?_
    refine j_getR (pc := 10) (own := RX8) dX8_town_10 lf_X8_25 rfl rfl (fun x2 => ?_)
    refine j_callV (pc := 13) (own := RX8) [] [] dX8_town_13 lc_X8_70 lv_Jx4a65c_size_8abf5 rfl (m_Jx4a65c_size_8abf5 z x2 q1g) ⟨⟨Nat.le_of_ble_eq_true rfl, Nat.le_of_ble_eq_true rfl⟩, Nat.le_of_ble_eq_true rfl⟩ rfl rfl (fun q3r q3g => ?_)
    refine j_bipush (pc := 16) (v := 6) dX8_town_16 (by decide) ?_
    refine j_icmp_lt (pc := 18) (tgt := 24) dX8_town_18 (by decide) rfl (fun hc => ?_) (fun hc => ?_)
    · refine j_aload_n (pc := 24) 0 dX8_town_24 rfl rfl ?_
      refine j_getR (pc := 25) (own := RX8) dX8_town_25 lf_X8_25 rfl rfl (fun x4 => ?_)
      refine j_mkO (pc := 28) (own := RX8) dX8_town_28 ln_X8_81 rfl rfl (fun q5r q5g => ?_)
      refine j_dup (pc := 31) dX8_town_31 rfl ?_
      refine j_iload_n (pc := 32) 1 dX8_town_32 rfl rfl ?_
      refine j_callI (pc := 33) (own := RX8) [sI a0] [sR q5r, sR x4] dX8_town_33 lc_X8_83 li_X6_init rfl (m_X6_init z q5r a0 q5g) ⟨⟨Nat.le_of_ble_eq_true rfl, Nat.le_of_ble_eq_true rfl⟩, Nat.le_of_ble_eq_true rfl⟩ rfl rfl (fun q6r q6g => ?_)
      refine j_callV (pc := 36) (own := RX8) [sR q5r] [] dX8_town_36 lc_X8_77 lv_Jx4a65c_add_9ea2d rfl (m_Jx4a65c_add_9ea2d z x4 q5r q6g) ⟨⟨Nat.le_of_ble_eq_true rfl, Nat.le_of_ble_eq_true rfl⟩, Nat.le_of_ble_eq_true rfl⟩ rfl rfl (fun q7r q7g => ?_)
      refine j_pop (pc := 39) dX8_town_39 rfl ?_
      refine j_aload_n (pc := 40) 0 dX8_town_40 rfl rfl ?_
      refine j_getR (pc := 41) (own := RX8) dX8_town_41 lf_X8_25 rfl rfl (fun x8 => ?_)
      refine j_callV (pc := 44) (own := RX8) [] [] dX8_town_44 lc_X8_70 lv_Jx4a65c_size_8abf5 rfl (m_Jx4a65c_size_8abf5 z x8 q7g) ⟨⟨Nat.le_of_ble_eq_true rfl, Nat.le_of_ble_eq_true rfl⟩, Nat.le_of_ble_eq_true rfl⟩ rfl rfl (fun q9r q9g => ?_)
      refine j_iconst (pc := 47) (v := 1) dX8_town_47 (by decide) ?_
      refine j_isub (pc := 48) dX8_town_48 ?_
      exact j_ireturn dX8_town_49 hX rfl rfl
    · refine j_bipush (pc := 21) (v := (-2)) dX8_town_21 (by decide) ?_
      exact j_ireturn dX8_town_23 hX rfl rfl
  · refine j_iconst (pc := 7) (v := (-1)) dX8_town_7 (by decide) ?_
    exact j_ireturn dX8_town_8 hX rfl rfl
/-! X8_travel -/
noncomputable def f_X8_travel (z : Nat) (t : Option Nm) (a0 : Int32) (a1 : Int32) (g : Hp) : Option (Int32 × Hp) :=
  (f_X8_isCell z a0 g).bind fun q1 =>
  if q1.1 = 0 then (some ((-1), q1.2))
  else ((f_X8_isCell z a1 q1.2).bind fun q2 =>
    if q2.1 = 0 then (some ((-1), q2.2))
    else ((getR t 9 0 q2.2).bind fun x3 =>
      (ick x3 8 (f_X7_between z x3 a0 a1 q2.2)).bind fun q4 =>
      some (q4.1, q4.2)))
set_option maxRecDepth 20000 in
theorem m_X8_travel (z : Nat) (t : Option Nm) (a0 : Int32) (a1 : Int32) (g : Hp) : FM yX8_travel cX8_travel 3 (some .int) 2 42 rtI [sR t, sI a0, sI a1] g (f_X8_travel z t a0 a1 g) := by
  refine FM.entry (by decide +kernel) (Nat.le_of_ble_eq_true rfl) (fun X hX => ?_)
  unfold f_X8_travel
  show J yX8_travel cX8_travel 3 (some .int) 2 42 X g 0 [(0, sR t), (1, sI a0), (2, sI a1)] [] _
  refine j_iload_n (pc := 0) 1 dX8_travel_0 rfl rfl ?_
  refine j_callS (pc := 1) (own := RX8) [sI a0] [] dX8_travel_1 lc_X8_66 ls_X8_isCell rfl (m_X8_isCell z a0 g) ⟨⟨Nat.le_of_ble_eq_true rfl, Nat.le_of_ble_eq_true rfl⟩, Nat.le_of_ble_eq_true rfl⟩ rfl rfl (fun q1r q1g => ?_)
  refine j_if_eq (pc := 4) (tgt := 14) dX8_travel_4 (by decide) rfl (fun hc => ?_) (fun hc => ?_)
  · refine j_iconst (pc := 14) (v := (-1)) dX8_travel_14 (by decide) ?_
    exact j_ireturn dX8_travel_15 hX rfl rfl
  · refine j_iload_n (pc := 7) 2 dX8_travel_7 rfl rfl ?_
    refine j_callS (pc := 8) (own := RX8) [sI a1] [] dX8_travel_8 lc_X8_66 ls_X8_isCell rfl (m_X8_isCell z a1 q1g) ⟨⟨Nat.le_of_ble_eq_true rfl, Nat.le_of_ble_eq_true rfl⟩, Nat.le_of_ble_eq_true rfl⟩ rfl rfl (fun q2r q2g => ?_)
    refine j_if_ne (pc := 11) (tgt := 16) dX8_travel_11 (by decide) rfl (fun hc => ?_) (fun hc => ?_)
    · refine j_aload_n (pc := 16) 0 dX8_travel_16 rfl rfl ?_
      refine j_getR (pc := 17) (own := RX8) dX8_travel_17 lf_X8_14 rfl rfl (fun x3 => ?_)
      refine j_iload_n (pc := 20) 1 dX8_travel_20 rfl rfl ?_
      refine j_iload_n (pc := 21) 2 dX8_travel_21 rfl rfl ?_
      refine j_callV (pc := 22) (own := RX8) [sI a0, sI a1] [] dX8_travel_22 lc_X8_98 lv_X7_between rfl (m_X7_between z x3 a0 a1 q2g) ⟨⟨Nat.le_of_ble_eq_true rfl, Nat.le_of_ble_eq_true rfl⟩, Nat.le_of_ble_eq_true rfl⟩ rfl rfl (fun q4r q4g => ?_)
      exact j_ireturn dX8_travel_25 hX rfl rfl
    · refine j_iconst (pc := 14) (v := (-1)) dX8_travel_14 (by decide) ?_
      exact j_ireturn dX8_travel_15 hX rfl rfl
/-! X8_later -/
noncomputable def f_X8_later (z : Nat) (t : Option Nm) (a0 : Int32) (g : Hp) : Option (Int32 × Hp) :=
  (getI t 9 10 g).bind fun x1 =>
  (f_X8_isWithin z a0 0 (100000 - x1) g).bind fun q2 =>
  if q2.1 = 0 then (some ((-1), q2.2))
  else ((getI t 9 10 q2.2).bind fun x3 =>
    (putI t 9 10 (x3 + a0) q2.2).bind fun g4 =>
    (getR t 9 6 g4).bind fun x5 =>
    (ick x5 1 (f_X0_forget z x5 g4)).bind fun q6 =>
    (getI t 9 10 q6.2).bind fun x7 =>
    some (x7, q6.2))
set_option maxRecDepth 20000 in
theorem m_X8_later (z : Nat) (t : Option Nm) (a0 : Int32) (g : Hp) : FM yX8_later cX8_later 2 (some .int) 1 22 rtI [sR t, sI a0] g (f_X8_later z t a0 g) := by
  refine FM.entry (by decide +kernel) (Nat.le_of_ble_eq_true rfl) (fun X hX => ?_)
  unfold f_X8_later
  show J yX8_later cX8_later 2 (some .int) 1 22 X g 0 [(0, sR t), (1, sI a0)] [] _
  refine j_iload_n (pc := 0) 1 dX8_later_0 rfl rfl ?_
  refine j_iconst (pc := 1) (v := 0) dX8_later_1 (by decide) ?_
  refine j_ldc (pc := 2) (own := RX8) (v := 100000) dX8_later_2 rfl lk_X8_102 ?_
  refine j_aload_n (pc := 4) 0 dX8_later_4 rfl rfl ?_
  refine j_getI (pc := 5) (own := RX8) dX8_later_5 lf_X8_103 rfl rfl (fun x1 => ?_)
  refine j_isub (pc := 8) dX8_later_8 ?_
  refine j_callS (pc := 9) (own := RX8) [sI a0, sI 0, sI (100000 - x1)] [] dX8_later_9 lc_X8_55 ls_X8_isWithin rfl (m_X8_isWithin z a0 0 (100000 - x1) g) ⟨⟨Nat.le_of_ble_eq_true rfl, Nat.le_of_ble_eq_true rfl⟩, Nat.le_of_ble_eq_true rfl⟩ rfl rfl (fun q2r q2g => ?_)
  refine j_if_ne (pc := 12) (tgt := 17) dX8_later_12 (by decide) rfl (fun hc => ?_) (fun hc => ?_)
  · refine j_aload_n (pc := 17) 0 dX8_later_17 rfl rfl ?_
    refine j_dup (pc := 18) dX8_later_18 rfl ?_
    refine j_getI (pc := 19) (own := RX8) dX8_later_19 lf_X8_103 rfl rfl (fun x3 => ?_)
    refine j_iload_n (pc := 22) 1 dX8_later_22 rfl rfl ?_
    refine j_iadd (pc := 23) dX8_later_23 ?_
    refine j_putI (pc := 24) (own := RX8) dX8_later_24 lf_X8_103 lt_9_10 lw_X8_103_X8_later rfl rfl (fun g4 => ?_)
    refine j_aload_n (pc := 27) 0 dX8_later_27 rfl rfl ?_
    refine j_getR (pc := 28) (own := RX8) dX8_later_28 lf_X8_40 rfl rfl (fun x5 => ?_)
    refine j_callV (pc := 31) (own := RX8) [] [] dX8_later_31 lc_X8_95 lv_X0_forget rfl (m_X0_forget z x5 g4) ⟨⟨Nat.le_of_ble_eq_true rfl, Nat.le_of_ble_eq_true rfl⟩, Nat.le_of_ble_eq_true rfl⟩ rfl rfl (fun q6r q6g => ?_)
    refine j_aload_n (pc := 34) 0 dX8_later_34 rfl rfl ?_
    refine j_getI (pc := 35) (own := RX8) dX8_later_35 lf_X8_103 rfl rfl (fun x7 => ?_)
    exact j_ireturn dX8_later_38 hX rfl rfl
  · refine j_iconst (pc := 15) (v := (-1)) dX8_later_15 (by decide) ?_
    exact j_ireturn dX8_later_16 hX rfl rfl
/-! X8_isStation -/
noncomputable def f_X8_isStation (z : Nat) (t : Option Nm) (a0 : Int32) (g : Hp) : Option (Int32 × Hp) :=
  (getR t 9 1 g).bind fun x1 =>
  (ick x1 0 (f_Jx4a65c_size_8abf5 z x1 g)).bind fun q2 =>
  (f_X8_isWithin z a0 0 (q2.1 - 1) q2.2).bind fun q3 =>
  rtZ q3.1 q3.2
set_option maxRecDepth 20000 in
theorem m_X8_isStation (z : Nat) (t : Option Nm) (a0 : Int32) (g : Hp) : FM yX8_isStation cX8_isStation 2 (some .boolean) 1 22 rtI [sR t, sI a0] g (f_X8_isStation z t a0 g) := by
  refine FM.entry (by decide +kernel) (Nat.le_of_ble_eq_true rfl) (fun X hX => ?_)
  unfold f_X8_isStation
  show J yX8_isStation cX8_isStation 2 (some .boolean) 1 22 X g 0 [(0, sR t), (1, sI a0)] [] _
  refine j_iload_n (pc := 0) 1 dX8_isStation_0 rfl rfl ?_
  refine j_iconst (pc := 1) (v := 0) dX8_isStation_1 (by decide) ?_
  refine j_aload_n (pc := 2) 0 dX8_isStation_2 rfl rfl ?_
  refine j_getR (pc := 3) (own := RX8) dX8_isStation_3 lf_X8_21 rfl rfl (fun x1 => ?_)
  refine j_callV (pc := 6) (own := RX8) [] [sI 0, sI a0] dX8_isStation_6 lc_X8_70 lv_Jx4a65c_size_8abf5 rfl (m_Jx4a65c_size_8abf5 z x1 g) ⟨⟨Nat.le_of_ble_eq_true rfl, Nat.le_of_ble_eq_true rfl⟩, Nat.le_of_ble_eq_true rfl⟩ rfl rfl (fun q2r q2g => ?_)
  refine j_iconst (pc := 9) (v := 1) dX8_isStation_9 (by decide) ?_
  refine j_isub (pc := 10) dX8_isStation_10 ?_
  refine j_callS (pc := 11) (own := RX8) [sI a0, sI 0, sI (q2r - 1)] [] dX8_isStation_11 lc_X8_55 ls_X8_isWithin rfl (m_X8_isWithin z a0 0 (q2r - 1) q2g) ⟨⟨Nat.le_of_ble_eq_true rfl, Nat.le_of_ble_eq_true rfl⟩, Nat.le_of_ble_eq_true rfl⟩ rfl rfl (fun q3r q3g => ?_)
  exact j_zreturn dX8_isStation_14 hX rfl rfl
/-! X8_fillHeap -/
noncomputable def f_X8_fillHeap_10_b (z : Nat) (p0 : Option Nm) (p1 : Option Nm) (p2 : Int32) (p3 : Int32) (rec : Int32 → Hp → Option (Int32 × Hp)) (v4 : Int32) (g : Hp) : Option (Int32 × Hp) :=
  (getR p0 9 1 g).bind fun x3 =>
  (ick x3 0 (f_Jx4a65c_size_8abf5 z x3 g)).bind fun q4 =>
  if q4.1 ≤ v4 then (some (v4, q4.2))
  else ((getR p0 9 1 q4.2).bind fun x5 =>
    (ick x5 0 (f_Jx4a65c_get_915e3 z x5 v4 q4.2)).bind fun q6 =>
    (ckc q6.1 6).bind fun _ =>
    ((if v4 = p2 then (some (p3))
      else ((getR p1 4 2 q6.2).bind fun x8 =>
        (aldI x8 v4 q6.2).bind fun x9 =>
        some (x9))) : Option (Int32)).bind fun q10 =>
    if q10 = (-1) then ((getI q6.1 6 2 q6.2).bind fun x11 =>
      if x11 = 0 then ((getR p0 9 6 q6.2).bind fun x12 =>
        (getR p0 9 0 q6.2).bind fun x13 =>
        (getI q6.1 6 0 q6.2).bind fun x14 =>
        (getI p0 9 10 q6.2).bind fun x15 =>
        (getI p0 9 11 q6.2).bind fun x16 =>
        (ick x12 1 (f_X0_narrow z x12 x13 x14 (x15 - x16) 1000000 q6.2)).bind fun q17 =>
        rec (v4 + 1) q17.2)
      else (rec (v4 + 1) q6.2))
    else ((getR p0 9 6 q6.2).bind fun x18 =>
      (getR p0 9 0 q6.2).bind fun x19 =>
      (getI q6.1 6 0 q6.2).bind fun x20 =>
      (getI p0 9 11 q6.2).bind fun x21 =>
      (getI p0 9 11 q6.2).bind fun x22 =>
      (ick x18 1 (f_X0_narrow z x18 x19 x20 (q10 - x21) (q10 + x22) q6.2)).bind fun q23 =>
      rec (v4 + 1) q23.2))
noncomputable def f_X8_fillHeap_10_L (z : Nat) (p0 : Option Nm) (p1 : Option Nm) (p2 : Int32) (p3 : Int32) : Nat → Int32 → Hp → Option (Int32 × Hp)
  | 0, _, _ => none
  | n + 1, v4, g => f_X8_fillHeap_10_b z p0 p1 p2 p3 (f_X8_fillHeap_10_L z p0 p1 p2 p3 n) v4 g
noncomputable def f_X8_fillHeap (z : Nat) (t : Option Nm) (a0 : Option Nm) (a1 : Int32) (a2 : Int32) (g : Hp) : Option (Unit × Hp) :=
  (getR t 9 6 g).bind fun x1 =>
  (ick x1 1 (f_X0_clear z x1 g)).bind fun q2 =>
  (f_X8_fillHeap_10_L z t a0 a1 a2 z 0 q2.2).bind fun q24 =>
  (getR t 9 6 q24.2).bind fun x25 =>
  (ick x25 1 (f_X0_countCells z x25 q24.2)).bind fun q26 =>
  some ((), q26.2)
set_option maxRecDepth 20000 in
theorem b_X8_fillHeap_10 {X : Xt Unit} (hX : IsM rtV X) (z : Nat) (p0 : Option Nm) (p1 : Option Nm) (p2 : Int32) (p3 : Int32) (rec : Int32 → Hp → Option (Int32 × Hp)) (K : Int32 × Hp → Option (Unit × Hp)) (he : ∀ (v4 : Int32) (g : Hp), J yX8_fillHeap cX8_fillHeap 7 none 3 64 X g 135 [(4, sI v4), (0, sR p0), (1, sR p1), (2, sI p2), (3, sI p3)] [] (K (v4, g))) (hr : ∀ (v4 : Int32) (g : Hp), J yX8_fillHeap cX8_fillHeap 7 none 3 64 X g 10 [(4, sI v4), (0, sR p0), (1, sR p1), (2, sI p2), (3, sI p3)] [] ((rec v4 g).bind K)) (v4 : Int32) (g : Hp) : J yX8_fillHeap cX8_fillHeap 7 none 3 64 X g 10 [(4, sI v4), (0, sR p0), (1, sR p1), (2, sI p2), (3, sI p3)] [] ((f_X8_fillHeap_10_b z p0 p1 p2 p3 rec v4 g).bind K) := by
  unfold f_X8_fillHeap_10_b
  refine j_iload (pc := 10) 0 dX8_fillHeap_10 rfl ?_
  refine j_aload_n (pc := 12) 1 dX8_fillHeap_12 rfl rfl ?_
  refine j_getR (pc := 13) (own := RX8) dX8_fillHeap_13 lf_X8_21 rfl bb (fun x3 => ?_)
  refine j_callV (pc := 16) (own := RX8) [] [sI v4] dX8_fillHeap_16 lc_X8_70 lv_Jx4a65c_size_8abf5 rfl (m_Jx4a65c_size_8abf5 z x3 g) ⟨⟨Nat.le_of_ble_eq_true rfl, Nat.le_of_ble_eq_true rfl⟩, Nat.le_of_ble_eq_true rfl⟩ rfl bb (fun q4r q4g => ?_)
  refine j_icmp_ge (pc := 19) (tgt := 135) dX8_fillHeap_19 (by decide) bi (fun hc => ?_) (fun hc => ?_)
  · exact he v4 q4g
  · refine j_aload_n (pc := 22) 1 dX8_fillHeap_22 rfl rfl ?_
    refine j_getR (pc := 23) (own := RX8) dX8_fillHeap_23 lf_X8_21 rfl bb (fun x5 => ?_)
    refine j_iload (pc := 26) 0 dX8_fillHeap_26 rfl ?_
    refine j_callV (pc := 28) (own := RX8) [sI v4] [] dX8_fillHeap_28 lc_X8_87 lv_Jx4a65c_get_915e3 rfl (m_Jx4a65c_get_915e3 z x5 v4 q4g) ⟨⟨Nat.le_of_ble_eq_true rfl, Nat.le_of_ble_eq_true rfl⟩, Nat.le_of_ble_eq_true rfl⟩ rfl bb (fun q6r q6g => ?_)
    refine b_cst (pc := 31) (own := RX8) (c := 6) dX8_fillHeap_31 rfl (by decide) lq_X8_74 bb ?_
    refine j_astore (pc := 34) (lv' := [(5, sR q6r), (4, sI v4), (0, sR p0), (1, sR p1), (2, sI p2), (3, sI p3)]) dX8_fillHeap_34 (by decide) rfl ?_
    refine j_iload (pc := 36) 1 dX8_fillHeap_36 rfl ?_
    refine j_iload_n (pc := 38) 4 dX8_fillHeap_38 rfl rfl ?_
    refine J.eq bb ?_
    refine J.jn (σ := Int32) (fun q10 pr => J yX8_fillHeap cX8_fillHeap 7 none 3 64 X q6g 53 [(5, sR q6r), (4, sI v4), (0, sR p0), (1, sR p1), (2, sI p2), (3, sI p3)] [sI q10] pr) (fun K53 hK53 => ?_) (fun q10 => ?_)
    · refine j_icmp_ne (pc := 39) (tgt := 46) dX8_fillHeap_39 (by decide) bi (fun hc => ?_) (fun hc => ?_)
      · refine j_aload_n (pc := 46) 3 dX8_fillHeap_46 rfl rfl ?_
        refine j_getR (pc := 47) (own := RX8) dX8_fillHeap_47 lf_X8_325 rfl bb (fun x8 => ?_)
        refine j_iload (pc := 50) 1 dX8_fillHeap_50 rfl ?_
        refine j_aldI (pc := 52) dX8_fillHeap_52 bb (fun x9 => ?_)
        exact hK53 (x9)
      · refine j_iload_n (pc := 42) 5 dX8_fillHeap_42 rfl rfl ?_
        refine j_goto (pc := 43) (tgt := 53) dX8_fillHeap_43 (by decide) ?_
        exact hK53 (p3)
    · refine j_istore (pc := 53) (lv' := [(6, sI q10), (5, sR q6r), (4, sI v4), (0, sR p0), (1, sR p1), (2, sI p2), (3, sI p3)]) dX8_fillHeap_53 (by decide) rfl ?_
      refine j_iload (pc := 55) 0 dX8_fillHeap_55 rfl ?_
      refine j_iconst (pc := 57) (v := (-1)) dX8_fillHeap_57 (by decide) ?_
      refine j_icmp_eq (pc := 58) (tgt := 94) dX8_fillHeap_58 (by decide) bi (fun hc => ?_) (fun hc => ?_)
      · refine j_aload (pc := 94) 1 dX8_fillHeap_94 rfl ?_
        refine j_getI (pc := 96) (own := RX8) dX8_fillHeap_96 lf_X8_91 rfl bb (fun x11 => ?_)
        refine j_if_ne (pc := 99) (tgt := 129) dX8_fillHeap_99 (by decide) bi (fun hc => ?_) (fun hc => ?_)
        · refine j_iinc (pc := 129) (v := (v4 + 1)) (lv' := [(4, sI (v4 + 1)), (6, sI q10), (5, sR q6r), (0, sR p0), (1, sR p1), (2, sI p2), (3, sI p3)]) 2 dX8_fillHeap_129 rfl rfl (by decide) rfl ?_
          refine j_goto (pc := 132) (tgt := 10) dX8_fillHeap_132 (by decide) ?_
          refine J.sub [0, 3, 4, 5, 6] rfl ?_
          exact hr (v4 + 1) q6g
        · refine j_aload_n (pc := 102) 3 dX8_fillHeap_102 rfl rfl ?_
          refine j_getR (pc := 103) (own := RX8) dX8_fillHeap_103 lf_X8_40 rfl bb (fun x12 => ?_)
          refine j_aload_n (pc := 106) 3 dX8_fillHeap_106 rfl rfl ?_
          refine j_getR (pc := 107) (own := RX8) dX8_fillHeap_107 lf_X8_14 rfl bb (fun x13 => ?_)
          refine j_aload (pc := 110) 1 dX8_fillHeap_110 rfl ?_
          refine j_getI (pc := 112) (own := RX8) dX8_fillHeap_112 lf_X8_312 rfl bb (fun x14 => ?_)
          refine j_aload_n (pc := 115) 3 dX8_fillHeap_115 rfl rfl ?_
          refine j_getI (pc := 116) (own := RX8) dX8_fillHeap_116 lf_X8_103 rfl bb (fun x15 => ?_)
          refine j_aload_n (pc := 119) 3 dX8_fillHeap_119 rfl rfl ?_
          refine j_getI (pc := 120) (own := RX8) dX8_fillHeap_120 lf_X8_51 rfl bb (fun x16 => ?_)
          refine j_isub (pc := 123) dX8_fillHeap_123 ?_
          refine j_ldc (pc := 124) (own := RX8) (v := 1000000) dX8_fillHeap_124 rfl lk_X8_149 ?_
          refine j_callV (pc := 126) (own := RX8) [sR x13, sI x14, sI (x15 - x16), sI 1000000] [] dX8_fillHeap_126 lc_X8_328 lv_X0_narrow rfl (m_X0_narrow z x12 x13 x14 (x15 - x16) 1000000 q6g) ⟨⟨Nat.le_of_ble_eq_true rfl, Nat.le_of_ble_eq_true rfl⟩, Nat.le_of_ble_eq_true rfl⟩ rfl bb (fun q17r q17g => ?_)
          refine j_iinc (pc := 129) (v := (v4 + 1)) (lv' := [(4, sI (v4 + 1)), (6, sI q10), (5, sR q6r), (0, sR p0), (1, sR p1), (2, sI p2), (3, sI p3)]) 2 dX8_fillHeap_129 rfl rfl (by decide) rfl ?_
          refine j_goto (pc := 132) (tgt := 10) dX8_fillHeap_132 (by decide) ?_
          refine J.sub [0, 3, 4, 5, 6] rfl ?_
          exact hr (v4 + 1) q17g
      · refine j_aload_n (pc := 61) 3 dX8_fillHeap_61 rfl rfl ?_
        refine j_getR (pc := 62) (own := RX8) dX8_fillHeap_62 lf_X8_40 rfl bb (fun x18 => ?_)
        refine j_aload_n (pc := 65) 3 dX8_fillHeap_65 rfl rfl ?_
        refine j_getR (pc := 66) (own := RX8) dX8_fillHeap_66 lf_X8_14 rfl bb (fun x19 => ?_)
        refine j_aload (pc := 69) 1 dX8_fillHeap_69 rfl ?_
        refine j_getI (pc := 71) (own := RX8) dX8_fillHeap_71 lf_X8_312 rfl bb (fun x20 => ?_)
        refine j_iload (pc := 74) 0 dX8_fillHeap_74 rfl ?_
        refine j_aload_n (pc := 76) 3 dX8_fillHeap_76 rfl rfl ?_
        refine j_getI (pc := 77) (own := RX8) dX8_fillHeap_77 lf_X8_51 rfl bb (fun x21 => ?_)
        refine j_isub (pc := 80) dX8_fillHeap_80 ?_
        refine j_iload (pc := 81) 0 dX8_fillHeap_81 rfl ?_
        refine j_aload_n (pc := 83) 3 dX8_fillHeap_83 rfl rfl ?_
        refine j_getI (pc := 84) (own := RX8) dX8_fillHeap_84 lf_X8_51 rfl bb (fun x22 => ?_)
        refine j_iadd (pc := 87) dX8_fillHeap_87 ?_
        refine j_callV (pc := 88) (own := RX8) [sR x19, sI x20, sI (q10 - x21), sI (q10 + x22)] [] dX8_fillHeap_88 lc_X8_328 lv_X0_narrow rfl (m_X0_narrow z x18 x19 x20 (q10 - x21) (q10 + x22) q6g) ⟨⟨Nat.le_of_ble_eq_true rfl, Nat.le_of_ble_eq_true rfl⟩, Nat.le_of_ble_eq_true rfl⟩ rfl bb (fun q23r q23g => ?_)
        refine j_goto (pc := 91) (tgt := 129) dX8_fillHeap_91 (by decide) ?_
        refine j_iinc (pc := 129) (v := (v4 + 1)) (lv' := [(4, sI (v4 + 1)), (6, sI q10), (5, sR q6r), (0, sR p0), (1, sR p1), (2, sI p2), (3, sI p3)]) 2 dX8_fillHeap_129 rfl rfl (by decide) rfl ?_
        refine j_goto (pc := 132) (tgt := 10) dX8_fillHeap_132 (by decide) ?_
        refine J.sub [0, 3, 4, 5, 6] rfl ?_
        exact hr (v4 + 1) q23g
set_option maxRecDepth 20000 in
theorem l_X8_fillHeap_10 {X : Xt Unit} (hX : IsM rtV X) (z : Nat) (p0 : Option Nm) (p1 : Option Nm) (p2 : Int32) (p3 : Int32) (K : Int32 × Hp → Option (Unit × Hp)) (he : ∀ (v4 : Int32) (g : Hp), J yX8_fillHeap cX8_fillHeap 7 none 3 64 X g 135 [(4, sI v4), (0, sR p0), (1, sR p1), (2, sI p2), (3, sI p3)] [] (K (v4, g))) : ∀ (n : Nat) (v4 : Int32) (g : Hp), J yX8_fillHeap cX8_fillHeap 7 none 3 64 X g 10 [(4, sI v4), (0, sR p0), (1, sR p1), (2, sI p2), (3, sI p3)] [] ((f_X8_fillHeap_10_L z p0 p1 p2 p3 n v4 g).bind K)
  | 0, _, _ => J.eq rfl J.none
  | n + 1, v4, g => b_X8_fillHeap_10 hX z p0 p1 p2 p3 _ K he (fun v4 g => l_X8_fillHeap_10 hX z p0 p1 p2 p3 K he n v4 g) v4 g
set_option maxRecDepth 20000 in
theorem m_X8_fillHeap (z : Nat) (t : Option Nm) (a0 : Option Nm) (a1 : Int32) (a2 : Int32) (g : Hp) : FM yX8_fillHeap cX8_fillHeap 7 none 3 64 rtV [sR t, sR a0, sI a1, sI a2] g (f_X8_fillHeap z t a0 a1 a2 g) := by
  refine FM.entry (by decide +kernel) (Nat.le_of_ble_eq_true rfl) (fun X hX => ?_)
  unfold f_X8_fillHeap
  show J yX8_fillHeap cX8_fillHeap 7 none 3 64 X g 0 [(0, sR t), (1, sR a0), (2, sI a1), (3, sI a2)] [] _
  refine j_aload_n (pc := 0) 0 dX8_fillHeap_0 rfl rfl ?_
  refine j_getR (pc := 1) (own := RX8) dX8_fillHeap_1 lf_X8_40 rfl rfl (fun x1 => ?_)
  refine j_callV (pc := 4) (own := RX8) [] [] dX8_fillHeap_4 lc_X8_322 lv_X0_clear rfl (m_X0_clear z x1 g) ⟨⟨Nat.le_of_ble_eq_true rfl, Nat.le_of_ble_eq_true rfl⟩, Nat.le_of_ble_eq_true rfl⟩ rfl rfl (fun q2r q2g => ?_)
  refine j_iconst (pc := 7) (v := 0) dX8_fillHeap_7 (by decide) ?_
  refine j_istore (pc := 8) (lv' := [(4, sI 0), (0, sR t), (1, sR a0), (2, sI a1), (3, sI a2)]) dX8_fillHeap_8 (by decide) rfl ?_
  refine l_X8_fillHeap_10 hX z t a0 a1 a2 _ (fun q24_0 q24_g => ?_) z 0 q2g
  refine j_aload_n (pc := 135) 1 dX8_fillHeap_135 rfl rfl ?_
  refine j_getR (pc := 136) (own := RX8) dX8_fillHeap_136 lf_X8_40 rfl rfl (fun x25 => ?_)
  refine j_callV (pc := 139) (own := RX8) [] [] dX8_fillHeap_139 lc_X8_332 lv_X0_countCells rfl (m_X0_countCells z x25 q24_g) ⟨⟨Nat.le_of_ble_eq_true rfl, Nat.le_of_ble_eq_true rfl⟩, Nat.le_of_ble_eq_true rfl⟩ rfl rfl (fun q26r q26g => ?_)
  exact j_return dX8_fillHeap_142 hX rfl rfl
/-! X8_bits -/
noncomputable def f_X8_bits (z : Nat) (a0 : Int32) (g : Hp) : Option (Int32 × Hp) :=
  (f_J6_numberOfLeadingZeros_0f7a4 z a0 g).bind fun q1 =>
  some ((32 - q1.1), q1.2)
set_option maxRecDepth 20000 in
theorem m_X8_bits (z : Nat) (a0 : Int32) (g : Hp) : FM yX8_bits cX8_bits 1 (some .int) 1 21 rtI [sI a0] g (f_X8_bits z a0 g) := by
  refine FM.entry (by decide +kernel) (Nat.le_of_ble_eq_true rfl) (fun X hX => ?_)
  unfold f_X8_bits
  show J yX8_bits cX8_bits 1 (some .int) 1 21 X g 0 [(0, sI a0)] [] _
  refine j_bipush (pc := 0) (v := 32) dX8_bits_0 (by decide) ?_
  refine j_iload_n (pc := 2) 0 dX8_bits_2 rfl rfl ?_
  refine j_callS (pc := 3) (own := RX8) [sI a0] [sI 32] dX8_bits_3 lc_X8_291 ls_J6_numberOfLeadingZeros_0f7a4 rfl (m_J6_numberOfLeadingZeros_0f7a4 z a0 g) ⟨⟨Nat.le_of_ble_eq_true rfl, Nat.le_of_ble_eq_true rfl⟩, Nat.le_of_ble_eq_true rfl⟩ rfl rfl (fun q1r q1g => ?_)
  refine j_isub (pc := 6) dX8_bits_6 ?_
  exact j_ireturn dX8_bits_7 hX rfl rfl
/-! X0_measure -/
noncomputable def f_X0_measure_15_b (z : Nat) (p0 : Option Nm) (p1 : Option Nm) (p2 : Int32) (p3 : Int32) (rec : Int32 → Hp → Option (Int32 × Hp)) (v4 : Int32) (g : Hp) : Option (Int32 × Hp) :=
  if 144 ≤ v4 then (some (v4, g))
  else ((ick p0 1 (f_X0_has z p0 v4 g)).bind fun q3 =>
    if q3.1 = 0 then (rec (v4 + 1) q3.2)
    else ((ick p1 8 (f_X7_between z p1 v4 p2 q3.2)).bind fun q4 =>
      (f_X8_bits z (p3 * (q4.1 + 1)) q4.2).bind fun q5 =>
      (getI p0 1 3 q5.2).bind fun x6 =>
      ((if x6 = (-9) then ((putI p0 1 3 q5.1 q5.2).bind fun g7 =>
          some (g7))
        else ((getI p0 1 3 q5.2).bind fun x8 =>
          if x8 ≤ q5.1 then (some (q5.2))
          else ((putI p0 1 3 q5.1 q5.2).bind fun g9 =>
            some (g9)))) : Option (Hp)).bind fun q10 =>
      (getI p0 1 4 q10).bind fun x11 =>
      if q5.1 ≤ x11 then (rec (v4 + 1) q10)
      else ((putI p0 1 4 q5.1 q10).bind fun g12 =>
        rec (v4 + 1) g12)))
noncomputable def f_X0_measure_15_L (z : Nat) (p0 : Option Nm) (p1 : Option Nm) (p2 : Int32) (p3 : Int32) : Nat → Int32 → Hp → Option (Int32 × Hp)
  | 0, _, _ => none
  | n + 1, v4, g => f_X0_measure_15_b z p0 p1 p2 p3 (f_X0_measure_15_L z p0 p1 p2 p3 n) v4 g
noncomputable def f_X0_measure (z : Nat) (t : Option Nm) (a0 : Option Nm) (a1 : Int32) (a2 : Int32) (g : Hp) : Option (Unit × Hp) :=
  (putI t 1 3 (-9) g).bind fun g1 =>
  (putI t 1 4 (-9) g1).bind fun g2 =>
  (f_X0_measure_15_L z t a0 a1 a2 z 0 g2).bind fun q13 =>
  some ((), q13.2)
set_option maxRecDepth 20000 in
theorem b_X0_measure_15 {X : Xt Unit} (hX : IsM rtV X) (z : Nat) (p0 : Option Nm) (p1 : Option Nm) (p2 : Int32) (p3 : Int32) (rec : Int32 → Hp → Option (Int32 × Hp)) (K : Int32 × Hp → Option (Unit × Hp)) (he : ∀ (v4 : Int32) (g : Hp), J yX0_measure cX0_measure 6 none 2 41 X g 96 [(4, sI v4), (0, sR p0), (1, sR p1), (2, sI p2), (3, sI p3)] [] (K (v4, g))) (hr : ∀ (v4 : Int32) (g : Hp), J yX0_measure cX0_measure 6 none 2 41 X g 15 [(4, sI v4), (0, sR p0), (1, sR p1), (2, sI p2), (3, sI p3)] [] ((rec v4 g).bind K)) (v4 : Int32) (g : Hp) : J yX0_measure cX0_measure 6 none 2 41 X g 15 [(4, sI v4), (0, sR p0), (1, sR p1), (2, sI p2), (3, sI p3)] [] ((f_X0_measure_15_b z p0 p1 p2 p3 rec v4 g).bind K) := by
  unfold f_X0_measure_15_b
  refine j_iload (pc := 15) 0 dX0_measure_15 rfl ?_
  refine j_sipush (pc := 17) (v := 144) dX0_measure_17 (by decide) ?_
  refine j_icmp_ge (pc := 20) (tgt := 96) dX0_measure_20 (by decide) bi (fun hc => ?_) (fun hc => ?_)
  · exact he v4 g
  · refine j_aload_n (pc := 23) 1 dX0_measure_23 rfl rfl ?_
    refine j_iload (pc := 24) 0 dX0_measure_24 rfl ?_
    refine j_callV (pc := 26) (own := RX0) [sI v4] [] dX0_measure_26 lc_X0_41 lv_X0_has rfl (m_X0_has z p0 v4 g) ⟨⟨Nat.le_of_ble_eq_true rfl, Nat.le_of_ble_eq_true rfl⟩, Nat.le_of_ble_eq_true rfl⟩ rfl bb (fun q3r q3g => ?_)
    refine j_if_ne (pc := 29) (tgt := 35) dX0_measure_29 (by decide) bi (fun hc => ?_) (fun hc => ?_)
    · refine j_iload_n (pc := 35) 4 dX0_measure_35 rfl rfl ?_
      refine j_aload_n (pc := 36) 2 dX0_measure_36 rfl rfl ?_
      refine j_iload (pc := 37) 0 dX0_measure_37 rfl ?_
      refine j_iload_n (pc := 39) 3 dX0_measure_39 rfl rfl ?_
      refine j_callV (pc := 40) (own := RX0) [sI v4, sI p2] [sI p3] dX0_measure_40 lc_X0_24 lv_X7_between rfl (m_X7_between z p1 v4 p2 q3g) ⟨⟨Nat.le_of_ble_eq_true rfl, Nat.le_of_ble_eq_true rfl⟩, Nat.le_of_ble_eq_true rfl⟩ rfl bb (fun q4r q4g => ?_)
      refine j_iconst (pc := 43) (v := 1) dX0_measure_43 (by decide) ?_
      refine j_iadd (pc := 44) dX0_measure_44 ?_
      refine j_imul (pc := 45) dX0_measure_45 ?_
      refine j_callS (pc := 46) (own := RX0) [sI (p3 * (q4r + 1))] [] dX0_measure_46 lc_X0_51 ls_X8_bits rfl (m_X8_bits z (p3 * (q4r + 1)) q4g) ⟨⟨Nat.le_of_ble_eq_true rfl, Nat.le_of_ble_eq_true rfl⟩, Nat.le_of_ble_eq_true rfl⟩ rfl bb (fun q5r q5g => ?_)
      refine j_istore (pc := 49) (lv' := [(5, sI q5r), (4, sI v4), (0, sR p0), (1, sR p1), (2, sI p2), (3, sI p3)]) dX0_measure_49 (by decide) rfl ?_
      refine j_aload_n (pc := 51) 2 dX0_measure_51 rfl rfl ?_
      refine j_getI (pc := 52) (own := RX0) dX0_measure_52 lf_X0_45 rfl bb (fun x6 => ?_)
      refine j_bipush (pc := 55) (v := (-9)) dX0_measure_55 (by decide) ?_
      refine J.eq bb ?_
      refine J.jn (σ := Hp) (fun q10 pr => J yX0_measure cX0_measure 6 none 2 41 X q10 75 [(5, sI q5r), (4, sI v4), (0, sR p0), (1, sR p1), (2, sI p2), (3, sI p3)] [] pr) (fun K75 hK75 => ?_) (fun q10 => ?_)
      · refine j_icmp_eq (pc := 57) (tgt := 69) dX0_measure_57 (by decide) bi (fun hc => ?_) (fun hc => ?_)
        · refine j_aload_n (pc := 69) 2 dX0_measure_69 rfl rfl ?_
          refine j_iload (pc := 70) 0 dX0_measure_70 rfl ?_
          refine j_putI (pc := 72) (own := RX0) dX0_measure_72 lf_X0_45 lt_1_3 lw_X0_45_X0_measure rfl bb (fun g7 => ?_)
          exact hK75 (g7)
        · refine j_iload (pc := 60) 0 dX0_measure_60 rfl ?_
          refine j_aload_n (pc := 62) 2 dX0_measure_62 rfl rfl ?_
          refine j_getI (pc := 63) (own := RX0) dX0_measure_63 lf_X0_45 rfl bb (fun x8 => ?_)
          refine j_icmp_ge (pc := 66) (tgt := 75) dX0_measure_66 (by decide) bi (fun hc => ?_) (fun hc => ?_)
          · exact hK75 (q5g)
          · refine j_aload_n (pc := 69) 2 dX0_measure_69 rfl rfl ?_
            refine j_iload (pc := 70) 0 dX0_measure_70 rfl ?_
            refine j_putI (pc := 72) (own := RX0) dX0_measure_72 lf_X0_45 lt_1_3 lw_X0_45_X0_measure rfl bb (fun g9 => ?_)
            exact hK75 (g9)
      · refine j_iload (pc := 75) 0 dX0_measure_75 rfl ?_
        refine j_aload_n (pc := 77) 2 dX0_measure_77 rfl rfl ?_
        refine j_getI (pc := 78) (own := RX0) dX0_measure_78 lf_X0_48 rfl bb (fun x11 => ?_)
        refine j_icmp_le (pc := 81) (tgt := 90) dX0_measure_81 (by decide) bi (fun hc => ?_) (fun hc => ?_)
        · refine j_iinc (pc := 90) (v := (v4 + 1)) (lv' := [(4, sI (v4 + 1)), (5, sI q5r), (0, sR p0), (1, sR p1), (2, sI p2), (3, sI p3)]) 1 dX0_measure_90 rfl rfl (by decide) rfl ?_
          refine j_goto (pc := 93) (tgt := 15) dX0_measure_93 (by decide) ?_
          refine J.sub [0, 2, 3, 4, 5] rfl ?_
          exact hr (v4 + 1) q10
        · refine j_aload_n (pc := 84) 2 dX0_measure_84 rfl rfl ?_
          refine j_iload (pc := 85) 0 dX0_measure_85 rfl ?_
          refine j_putI (pc := 87) (own := RX0) dX0_measure_87 lf_X0_48 lt_1_4 lw_X0_48_X0_measure rfl bb (fun g12 => ?_)
          refine j_iinc (pc := 90) (v := (v4 + 1)) (lv' := [(4, sI (v4 + 1)), (5, sI q5r), (0, sR p0), (1, sR p1), (2, sI p2), (3, sI p3)]) 1 dX0_measure_90 rfl rfl (by decide) rfl ?_
          refine j_goto (pc := 93) (tgt := 15) dX0_measure_93 (by decide) ?_
          refine J.sub [0, 2, 3, 4, 5] rfl ?_
          exact hr (v4 + 1) g12
    · refine j_goto (pc := 32) (tgt := 90) dX0_measure_32 (by decide) ?_
      refine j_iinc (pc := 90) (v := (v4 + 1)) (lv' := [(4, sI (v4 + 1)), (0, sR p0), (1, sR p1), (2, sI p2), (3, sI p3)]) 0 dX0_measure_90 rfl rfl (by decide) rfl ?_
      refine j_goto (pc := 93) (tgt := 15) dX0_measure_93 (by decide) ?_
      exact hr (v4 + 1) q3g
set_option maxRecDepth 20000 in
theorem l_X0_measure_15 {X : Xt Unit} (hX : IsM rtV X) (z : Nat) (p0 : Option Nm) (p1 : Option Nm) (p2 : Int32) (p3 : Int32) (K : Int32 × Hp → Option (Unit × Hp)) (he : ∀ (v4 : Int32) (g : Hp), J yX0_measure cX0_measure 6 none 2 41 X g 96 [(4, sI v4), (0, sR p0), (1, sR p1), (2, sI p2), (3, sI p3)] [] (K (v4, g))) : ∀ (n : Nat) (v4 : Int32) (g : Hp), J yX0_measure cX0_measure 6 none 2 41 X g 15 [(4, sI v4), (0, sR p0), (1, sR p1), (2, sI p2), (3, sI p3)] [] ((f_X0_measure_15_L z p0 p1 p2 p3 n v4 g).bind K)
  | 0, _, _ => J.eq rfl J.none
  | n + 1, v4, g => b_X0_measure_15 hX z p0 p1 p2 p3 _ K he (fun v4 g => l_X0_measure_15 hX z p0 p1 p2 p3 K he n v4 g) v4 g
set_option maxRecDepth 20000 in
theorem m_X0_measure (z : Nat) (t : Option Nm) (a0 : Option Nm) (a1 : Int32) (a2 : Int32) (g : Hp) : FM yX0_measure cX0_measure 6 none 2 41 rtV [sR t, sR a0, sI a1, sI a2] g (f_X0_measure z t a0 a1 a2 g) := by
  refine FM.entry (by decide +kernel) (Nat.le_of_ble_eq_true rfl) (fun X hX => ?_)
  unfold f_X0_measure
  show J yX0_measure cX0_measure 6 none 2 41 X g 0 [(0, sR t), (1, sR a0), (2, sI a1), (3, sI a2)] [] _
  refine j_aload_n (pc := 0) 0 dX0_measure_0 rfl rfl ?_
  refine j_bipush (pc := 1) (v := (-9)) dX0_measure_1 (by decide) ?_
  refine j_putI (pc := 3) (own := RX0) dX0_measure_3 lf_X0_45 lt_1_3 lw_X0_45_X0_measure rfl rfl (fun g1 => ?_)
  refine j_aload_n (pc := 6) 0 dX0_measure_6 rfl rfl ?_
  refine j_bipush (pc := 7) (v := (-9)) dX0_measure_7 (by decide) ?_
  refine j_putI (pc := 9) (own := RX0) dX0_measure_9 lf_X0_48 lt_1_4 lw_X0_48_X0_measure rfl rfl (fun g2 => ?_)
  refine j_iconst (pc := 12) (v := 0) dX0_measure_12 (by decide) ?_
  refine j_istore (pc := 13) (lv' := [(4, sI 0), (0, sR t), (1, sR a0), (2, sI a1), (3, sI a2)]) dX0_measure_13 (by decide) rfl ?_
  refine l_X0_measure_15 hX z t a0 a1 a2 _ (fun q13_0 q13_g => ?_) z 0 g2
  exact j_return dX0_measure_96 hX rfl rfl
/-! X8_heapOf -/
noncomputable def f_X8_heapOf (z : Nat) (t : Option Nm) (a0 : Int32) (g : Hp) : Option ((Option Nm) × Hp) :=
  (getR t 9 6 g).bind fun x1 =>
  (getI x1 1 5 g).bind fun x2 =>
  if x2 = a0 then ((getR t 9 6 g).bind fun x3 =>
    some (x3, g))
  else ((getR t 9 4 g).bind fun x4 =>
    (ick x4 0 (f_Jx4a65c_get_915e3 z x4 a0 g)).bind fun q5 =>
    (ckc q5.1 4).bind fun _ =>
    (ick t 9 (f_X8_fillHeap z t q5.1 (-9) (-1) q5.2)).bind fun q7 =>
    (getR t 9 6 q7.2).bind fun x8 =>
    (getR t 9 0 q7.2).bind fun x9 =>
    (getR t 9 1 q7.2).bind fun x10 =>
    (getI q5.1 4 0 q7.2).bind fun x11 =>
    (ick x10 0 (f_Jx4a65c_get_915e3 z x10 x11 q7.2)).bind fun q12 =>
    (ckc q12.1 6).bind fun _ =>
    (getI q12.1 6 0 q12.2).bind fun x14 =>
    (getI q5.1 4 1 q12.2).bind fun x15 =>
    (ick x8 1 (f_X0_measure z x8 x9 x14 x15 q12.2)).bind fun q16 =>
    (getR t 9 6 q16.2).bind fun x17 =>
    (putI x17 1 5 a0 q16.2).bind fun g18 =>
    (getR t 9 6 g18).bind fun x19 =>
    some (x19, g18))
set_option maxRecDepth 20000 in
theorem m_X8_heapOf (z : Nat) (t : Option Nm) (a0 : Int32) (g : Hp) : FM yX8_heapOf cX8_heapOf 3 (some (.object "FirstSeconds$Heap")) 4 90 rtR [sR t, sI a0] g (f_X8_heapOf z t a0 g) := by
  refine FM.entry (by decide +kernel) (Nat.le_of_ble_eq_true rfl) (fun X hX => ?_)
  unfold f_X8_heapOf
  show J yX8_heapOf cX8_heapOf 3 (some (.object "FirstSeconds$Heap")) 4 90 X g 0 [(0, sR t), (1, sI a0)] [] _
  refine j_aload_n (pc := 0) 0 dX8_heapOf_0 rfl rfl ?_
  refine j_getR (pc := 1) (own := RX8) dX8_heapOf_1 lf_X8_40 rfl rfl (fun x1 => ?_)
  refine j_getI (pc := 4) (own := RX8) dX8_heapOf_4 lf_X8_308 rfl rfl (fun x2 => ?_)
  refine j_iload_n (pc := 7) 1 dX8_heapOf_7 rfl rfl ?_
  refine j_icmp_eq (pc := 8) (tgt := 71) dX8_heapOf_8 (by decide) rfl (fun hc => ?_) (fun hc => ?_)
  · refine j_aload_n (pc := 71) 0 dX8_heapOf_71 rfl rfl ?_
    refine j_getR (pc := 72) (own := RX8) dX8_heapOf_72 lf_X8_40 rfl rfl (fun x3 => ?_)
    exact j_areturn dX8_heapOf_75 hX rfl (Or.inl ⟨_, rfl⟩) rfl
  · refine j_aload_n (pc := 11) 0 dX8_heapOf_11 rfl rfl ?_
    refine j_getR (pc := 12) (own := RX8) dX8_heapOf_12 lf_X8_31 rfl rfl (fun x4 => ?_)
    refine j_iload_n (pc := 15) 1 dX8_heapOf_15 rfl rfl ?_
    refine j_callV (pc := 16) (own := RX8) [sI a0] [] dX8_heapOf_16 lc_X8_87 lv_Jx4a65c_get_915e3 rfl (m_Jx4a65c_get_915e3 z x4 a0 g) ⟨⟨Nat.le_of_ble_eq_true rfl, Nat.le_of_ble_eq_true rfl⟩, Nat.le_of_ble_eq_true rfl⟩ rfl rfl (fun q5r q5g => ?_)
    refine b_cst (pc := 19) (own := RX8) (c := 4) dX8_heapOf_19 rfl (by decide) lq_X8_153 rfl ?_
    refine j_astore_n (pc := 22) (lv' := [(2, sR q5r), (0, sR t), (1, sI a0)]) dX8_heapOf_22 rfl (by decide) rfl ?_
    refine j_aload_n (pc := 23) 1 dX8_heapOf_23 rfl rfl ?_
    refine j_aload_n (pc := 24) 0 dX8_heapOf_24 rfl rfl ?_
    refine j_bipush (pc := 25) (v := (-9)) dX8_heapOf_25 (by decide) ?_
    refine j_iconst (pc := 27) (v := (-1)) dX8_heapOf_27 (by decide) ?_
    refine j_callV (pc := 28) (own := RX8) [sR q5r, sI (-9), sI (-1)] [] dX8_heapOf_28 lc_X8_304 lv_X8_fillHeap rfl (m_X8_fillHeap z t q5r (-9) (-1) q5g) ⟨⟨Nat.le_of_ble_eq_true rfl, Nat.le_of_ble_eq_true rfl⟩, Nat.le_of_ble_eq_true rfl⟩ rfl rfl (fun q7r q7g => ?_)
    refine j_aload_n (pc := 31) 1 dX8_heapOf_31 rfl rfl ?_
    refine j_getR (pc := 32) (own := RX8) dX8_heapOf_32 lf_X8_40 rfl rfl (fun x8 => ?_)
    refine j_aload_n (pc := 35) 1 dX8_heapOf_35 rfl rfl ?_
    refine j_getR (pc := 36) (own := RX8) dX8_heapOf_36 lf_X8_14 rfl rfl (fun x9 => ?_)
    refine j_aload_n (pc := 39) 1 dX8_heapOf_39 rfl rfl ?_
    refine j_getR (pc := 40) (own := RX8) dX8_heapOf_40 lf_X8_21 rfl rfl (fun x10 => ?_)
    refine j_aload_n (pc := 43) 0 dX8_heapOf_43 rfl rfl ?_
    refine j_getI (pc := 44) (own := RX8) dX8_heapOf_44 lf_X8_309 rfl rfl (fun x11 => ?_)
    refine j_callV (pc := 47) (own := RX8) [sI x11] [sR x9, sR x8] dX8_heapOf_47 lc_X8_87 lv_Jx4a65c_get_915e3 rfl (m_Jx4a65c_get_915e3 z x10 x11 q7g) ⟨⟨Nat.le_of_ble_eq_true rfl, Nat.le_of_ble_eq_true rfl⟩, Nat.le_of_ble_eq_true rfl⟩ rfl rfl (fun q12r q12g => ?_)
    refine b_cst (pc := 50) (own := RX8) (c := 6) dX8_heapOf_50 rfl (by decide) lq_X8_74 rfl ?_
    refine j_getI (pc := 53) (own := RX8) dX8_heapOf_53 lf_X8_312 rfl rfl (fun x14 => ?_)
    refine j_aload_n (pc := 56) 0 dX8_heapOf_56 rfl rfl ?_
    refine j_getI (pc := 57) (own := RX8) dX8_heapOf_57 lf_X8_315 rfl rfl (fun x15 => ?_)
    refine j_callV (pc := 60) (own := RX8) [sR x9, sI x14, sI x15] [] dX8_heapOf_60 lc_X8_318 lv_X0_measure rfl (m_X0_measure z x8 x9 x14 x15 q12g) ⟨⟨Nat.le_of_ble_eq_true rfl, Nat.le_of_ble_eq_true rfl⟩, Nat.le_of_ble_eq_true rfl⟩ rfl rfl (fun q16r q16g => ?_)
    refine j_aload_n (pc := 63) 1 dX8_heapOf_63 rfl rfl ?_
    refine j_getR (pc := 64) (own := RX8) dX8_heapOf_64 lf_X8_40 rfl rfl (fun x17 => ?_)
    refine j_iload_n (pc := 67) 2 dX8_heapOf_67 rfl rfl ?_
    refine j_putI (pc := 68) (own := RX8) dX8_heapOf_68 lf_X8_308 lt_1_5 lw_X8_308_X8_heapOf rfl rfl (fun g18 => ?_)
    refine j_aload_n (pc := 71) 1 dX8_heapOf_71 rfl rfl ?_
    refine j_getR (pc := 72) (own := RX8) dX8_heapOf_72 lf_X8_40 rfl rfl (fun x19 => ?_)
    exact j_areturn dX8_heapOf_75 hX rfl (Or.inl ⟨_, rfl⟩) rfl
/-! X8_takes -/
noncomputable def f_X8_takes (z : Nat) (t : Option Nm) (a0 : Int32) (a1 : Int32) (a2 : Int32) (g : Hp) : Option (Int32 × Hp) :=
  (getR t 9 4 g).bind fun x1 =>
  (ick x1 0 (f_Jx4a65c_get_915e3 z x1 a0 g)).bind fun q2 =>
  (ckc q2.1 4).bind fun _ =>
  (ick q2.1 4 (f_X3_hears z q2.1 a1 q2.2)).bind fun q4 =>
  if q4.1 = 0 then ((ick t 9 (f_X8_heapOf z t a0 q4.2)).bind fun q5 =>
    (getI q5.1 1 2 q5.2).bind fun x6 =>
    if x6 = 0 then (rtZ 0 q5.2)
    else ((ick t 9 (f_X8_fillHeap z t q2.1 a1 a2 q5.2)).bind fun q7 =>
      (getR t 9 6 q7.2).bind fun x8 =>
      (getI x8 1 2 q7.2).bind fun x9 =>
      if x9 ≤ 0 then (rtZ 0 q7.2)
      else (rtZ 1 q7.2)))
  else (rtZ 0 q4.2)
set_option maxRecDepth 20000 in
theorem m_X8_takes (z : Nat) (t : Option Nm) (a0 : Int32) (a1 : Int32) (a2 : Int32) (g : Hp) : FM yX8_takes cX8_takes 5 (some .boolean) 5 112 rtI [sR t, sI a0, sI a1, sI a2] g (f_X8_takes z t a0 a1 a2 g) := by
  refine FM.entry (by decide +kernel) (Nat.le_of_ble_eq_true rfl) (fun X hX => ?_)
  unfold f_X8_takes
  show J yX8_takes cX8_takes 5 (some .boolean) 5 112 X g 0 [(0, sR t), (1, sI a0), (2, sI a1), (3, sI a2)] [] _
  refine j_aload_n (pc := 0) 0 dX8_takes_0 rfl rfl ?_
  refine j_getR (pc := 1) (own := RX8) dX8_takes_1 lf_X8_31 rfl rfl (fun x1 => ?_)
  refine j_iload_n (pc := 4) 1 dX8_takes_4 rfl rfl ?_
  refine j_callV (pc := 5) (own := RX8) [sI a0] [] dX8_takes_5 lc_X8_87 lv_Jx4a65c_get_915e3 rfl (m_Jx4a65c_get_915e3 z x1 a0 g) ⟨⟨Nat.le_of_ble_eq_true rfl, Nat.le_of_ble_eq_true rfl⟩, Nat.le_of_ble_eq_true rfl⟩ rfl rfl (fun q2r q2g => ?_)
  refine b_cst (pc := 8) (own := RX8) (c := 4) dX8_takes_8 rfl (by decide) lq_X8_153 rfl ?_
  refine j_astore (pc := 11) (lv' := [(4, sR q2r), (0, sR t), (1, sI a0), (2, sI a1), (3, sI a2)]) dX8_takes_11 (by decide) rfl ?_
  refine j_aload (pc := 13) 0 dX8_takes_13 rfl ?_
  refine j_iload_n (pc := 15) 3 dX8_takes_15 rfl rfl ?_
  refine j_callV (pc := 16) (own := RX8) [sI a1] [] dX8_takes_16 lc_X8_301 lv_X3_hears rfl (m_X3_hears z q2r a1 q2g) ⟨⟨Nat.le_of_ble_eq_true rfl, Nat.le_of_ble_eq_true rfl⟩, Nat.le_of_ble_eq_true rfl⟩ rfl rfl (fun q4r q4g => ?_)
  refine j_if_ne (pc := 19) (tgt := 33) dX8_takes_19 (by decide) rfl (fun hc => ?_) (fun hc => ?_)
  · refine j_iconst (pc := 33) (v := 0) dX8_takes_33 (by decide) ?_
    exact j_zreturn dX8_takes_34 hX rfl rfl
  · refine j_aload_n (pc := 22) 1 dX8_takes_22 rfl rfl ?_
    refine j_iload_n (pc := 23) 2 dX8_takes_23 rfl rfl ?_
    refine j_callV (pc := 24) (own := RX8) [sI a0] [] dX8_takes_24 lc_X8_194 lv_X8_heapOf rfl (m_X8_heapOf z t a0 q4g) ⟨⟨Nat.le_of_ble_eq_true rfl, Nat.le_of_ble_eq_true rfl⟩, Nat.le_of_ble_eq_true rfl⟩ rfl rfl (fun q5r q5g => ?_)
    refine j_getI (pc := 27) (own := RX8) dX8_takes_27 lf_X8_198 rfl rfl (fun x6 => ?_)
    refine j_if_ne (pc := 30) (tgt := 35) dX8_takes_30 (by decide) rfl (fun hc => ?_) (fun hc => ?_)
    · refine j_aload_n (pc := 35) 1 dX8_takes_35 rfl rfl ?_
      refine j_aload (pc := 36) 0 dX8_takes_36 rfl ?_
      refine j_iload_n (pc := 38) 3 dX8_takes_38 rfl rfl ?_
      refine j_iload_n (pc := 39) 4 dX8_takes_39 rfl rfl ?_
      refine j_callV (pc := 40) (own := RX8) [sR q2r, sI a1, sI a2] [] dX8_takes_40 lc_X8_304 lv_X8_fillHeap rfl (m_X8_fillHeap z t q2r a1 a2 q5g) ⟨⟨Nat.le_of_ble_eq_true rfl, Nat.le_of_ble_eq_true rfl⟩, Nat.le_of_ble_eq_true rfl⟩ rfl rfl (fun q7r q7g => ?_)
      refine j_aload_n (pc := 43) 1 dX8_takes_43 rfl rfl ?_
      refine j_getR (pc := 44) (own := RX8) dX8_takes_44 lf_X8_40 rfl rfl (fun x8 => ?_)
      refine j_getI (pc := 47) (own := RX8) dX8_takes_47 lf_X8_198 rfl rfl (fun x9 => ?_)
      refine j_if_le (pc := 50) (tgt := 57) dX8_takes_50 (by decide) rfl (fun hc => ?_) (fun hc => ?_)
      · refine j_iconst (pc := 57) (v := 0) dX8_takes_57 (by decide) ?_
        exact j_zreturn dX8_takes_58 hX rfl rfl
      · refine j_iconst (pc := 53) (v := 1) dX8_takes_53 (by decide) ?_
        refine j_goto (pc := 54) (tgt := 58) dX8_takes_54 (by decide) ?_
        exact j_zreturn dX8_takes_58 hX rfl rfl
    · refine j_iconst (pc := 33) (v := 0) dX8_takes_33 (by decide) ?_
      exact j_zreturn dX8_takes_34 hX rfl rfl
/-! X8_takerOf -/
noncomputable def f_X8_takerOf_2_b (z : Nat) (p0 : Option Nm) (p1 : Int32) (p2 : Int32) (rec : Int32 → Hp → Option (Int32 × Hp)) (v3 : Int32) (g : Hp) : Option (Int32 × Hp) :=
  (getR p0 9 4 g).bind fun x1 =>
  (ick x1 0 (f_Jx4a65c_size_8abf5 z x1 g)).bind fun q2 =>
  if q2.1 ≤ v3 then (some ((-9), q2.2))
  else ((ick p0 9 (f_X8_takes z p0 v3 p1 p2 q2.2)).bind fun q3 =>
    if q3.1 = 0 then (rec (v3 + 1) q3.2)
    else (some (v3, q3.2)))
noncomputable def f_X8_takerOf_2_L (z : Nat) (p0 : Option Nm) (p1 : Int32) (p2 : Int32) : Nat → Int32 → Hp → Option (Int32 × Hp)
  | 0, _, _ => none
  | n + 1, v3, g => f_X8_takerOf_2_b z p0 p1 p2 (f_X8_takerOf_2_L z p0 p1 p2 n) v3 g
noncomputable def f_X8_takerOf (z : Nat) (t : Option Nm) (a0 : Int32) (a1 : Int32) (g : Hp) : Option (Int32 × Hp) :=
  f_X8_takerOf_2_L z t a0 a1 z 0 g
set_option maxRecDepth 20000 in
theorem b_X8_takerOf_2 {X : Xt Int32} (hX : IsM rtI X) (z : Nat) (p0 : Option Nm) (p1 : Int32) (p2 : Int32) (rec : Int32 → Hp → Option (Int32 × Hp)) (hr : ∀ (v3 : Int32) (g : Hp), J yX8_takerOf cX8_takerOf 4 (some .int) 6 136 X g 2 [(3, sI v3), (0, sR p0), (1, sI p1), (2, sI p2)] [] (rec v3 g)) (v3 : Int32) (g : Hp) : J yX8_takerOf cX8_takerOf 4 (some .int) 6 136 X g 2 [(3, sI v3), (0, sR p0), (1, sI p1), (2, sI p2)] [] (f_X8_takerOf_2_b z p0 p1 p2 rec v3 g) := by
  unfold f_X8_takerOf_2_b
  refine j_iload_n (pc := 2) 0 dX8_takerOf_2 rfl rfl ?_
  refine j_aload_n (pc := 3) 1 dX8_takerOf_3 rfl rfl ?_
  refine j_getR (pc := 4) (own := RX8) dX8_takerOf_4 lf_X8_31 rfl rfl (fun x1 => ?_)
  refine j_callV (pc := 7) (own := RX8) [] [sI v3] dX8_takerOf_7 lc_X8_70 lv_Jx4a65c_size_8abf5 rfl (m_Jx4a65c_size_8abf5 z x1 g) ⟨⟨Nat.le_of_ble_eq_true rfl, Nat.le_of_ble_eq_true rfl⟩, Nat.le_of_ble_eq_true rfl⟩ rfl rfl (fun q2r q2g => ?_)
  refine j_icmp_ge (pc := 10) (tgt := 31) dX8_takerOf_10 (by decide) rfl (fun hc => ?_) (fun hc => ?_)
  · refine j_bipush (pc := 31) (v := (-9)) dX8_takerOf_31 (by decide) ?_
    exact j_ireturn dX8_takerOf_33 hX rfl rfl
  · refine j_aload_n (pc := 13) 1 dX8_takerOf_13 rfl rfl ?_
    refine j_iload_n (pc := 14) 0 dX8_takerOf_14 rfl rfl ?_
    refine j_iload_n (pc := 15) 2 dX8_takerOf_15 rfl rfl ?_
    refine j_iload_n (pc := 16) 3 dX8_takerOf_16 rfl rfl ?_
    refine j_callV (pc := 17) (own := RX8) [sI v3, sI p1, sI p2] [] dX8_takerOf_17 lc_X8_298 lv_X8_takes rfl (m_X8_takes z p0 v3 p1 p2 q2g) ⟨⟨Nat.le_of_ble_eq_true rfl, Nat.le_of_ble_eq_true rfl⟩, Nat.le_of_ble_eq_true rfl⟩ rfl rfl (fun q3r q3g => ?_)
    refine j_if_eq (pc := 20) (tgt := 25) dX8_takerOf_20 (by decide) rfl (fun hc => ?_) (fun hc => ?_)
    · refine j_iinc (pc := 25) (v := (v3 + 1)) (lv' := [(3, sI (v3 + 1)), (0, sR p0), (1, sI p1), (2, sI p2)]) 0 dX8_takerOf_25 rfl rfl (by decide) rfl ?_
      refine j_goto (pc := 28) (tgt := 2) dX8_takerOf_28 (by decide) ?_
      exact hr (v3 + 1) q3g
    · refine j_iload_n (pc := 23) 0 dX8_takerOf_23 rfl rfl ?_
      exact j_ireturn dX8_takerOf_24 hX rfl rfl
set_option maxRecDepth 20000 in
theorem l_X8_takerOf_2 {X : Xt Int32} (hX : IsM rtI X) (z : Nat) (p0 : Option Nm) (p1 : Int32) (p2 : Int32) : ∀ (n : Nat) (v3 : Int32) (g : Hp), J yX8_takerOf cX8_takerOf 4 (some .int) 6 136 X g 2 [(3, sI v3), (0, sR p0), (1, sI p1), (2, sI p2)] [] (f_X8_takerOf_2_L z p0 p1 p2 n v3 g)
  | 0, _, _ => J.none
  | n + 1, v3, g => b_X8_takerOf_2 hX z p0 p1 p2 _ (fun v3 g => l_X8_takerOf_2 hX z p0 p1 p2 n v3 g) v3 g
set_option maxRecDepth 20000 in
theorem m_X8_takerOf (z : Nat) (t : Option Nm) (a0 : Int32) (a1 : Int32) (g : Hp) : FM yX8_takerOf cX8_takerOf 4 (some .int) 6 136 rtI [sR t, sI a0, sI a1] g (f_X8_takerOf z t a0 a1 g) := by
  refine FM.entry (by decide +kernel) (Nat.le_of_ble_eq_true rfl) (fun X hX => ?_)
  unfold f_X8_takerOf
  show J yX8_takerOf cX8_takerOf 4 (some .int) 6 136 X g 0 [(0, sR t), (1, sI a0), (2, sI a1)] [] _
  refine j_iconst (pc := 0) (v := 0) dX8_takerOf_0 (by decide) ?_
  refine j_istore_n (pc := 1) (lv' := [(3, sI 0), (0, sR t), (1, sI a0), (2, sI a1)]) dX8_takerOf_1 rfl (by decide) rfl ?_
  exact l_X8_takerOf_2 hX z t a0 a1 z 0 g
/-! X8_pick -/
noncomputable def f_X8_pick (z : Nat) (t : Option Nm) (a0 : Int32) (a1 : Int32) (a2 : Int32) (g : Hp) : Option (Int32 × Hp) :=
  (ick t 9 (f_X8_isStation z t a0 g)).bind fun q1 =>
  if q1.1 = 0 then (some ((-1), q1.2))
  else ((getI t 9 10 q1.2).bind fun x2 =>
    (f_X8_isWithin z a1 0 x2 q1.2).bind fun q3 =>
    if q3.1 = 0 then (some ((-1), q3.2))
    else ((f_X8_isWithin z a2 1 1000000 q3.2).bind fun q4 =>
      if q4.1 = 0 then (some ((-1), q4.2))
      else ((getR t 9 3 q4.2).bind fun x5 =>
        (ick x5 0 (f_Jx4a65c_size_8abf5 z x5 q4.2)).bind fun q6 =>
        if q6.1 < 60 then ((ick t 9 (f_X8_takerOf z t a0 a1 q6.2)).bind fun q7 =>
          if q7.1 = (-9) then ((getR t 9 4 q7.2).bind fun x8 =>
            (ick x8 0 (f_Jx4a65c_size_8abf5 z x8 q7.2)).bind fun q9 =>
            if 5 ≤ q9.1 then ((getR t 9 3 q9.2).bind fun x10 =>
              (mkO (3, lsz q9.2 2) 3 q9.2).bind fun q11 =>
              (nnl q11.1 (f_X2_init z q11.1 a0 a1 a2 3 (-9) q11.2)).bind fun q12 =>
              (ick x10 0 (f_Jx4a65c_add_9ea2d z x10 q11.1 q12.2)).bind fun q13 =>
              some ((-9), q13.2))
            else ((getR t 9 4 q9.2).bind fun x14 =>
              (ick x14 0 (f_Jx4a65c_size_8abf5 z x14 q9.2)).bind fun q15 =>
              (getR t 9 4 q15.2).bind fun x16 =>
              (mkO (4, lsz q15.2 3) 4 q15.2).bind fun q17 =>
              (nnl q17.1 (f_X3_init z q17.1 a0 a1 a2 q17.2)).bind fun q18 =>
              (ick x16 0 (f_Jx4a65c_add_9ea2d z x16 q17.1 q18.2)).bind fun q19 =>
              (getR t 9 3 q19.2).bind fun x20 =>
              (mkO (3, lsz q19.2 2) 3 q19.2).bind fun q21 =>
              (nnl q21.1 (f_X2_init z q21.1 a0 a1 a2 2 q15.1 q21.2)).bind fun q22 =>
              (ick x20 0 (f_Jx4a65c_add_9ea2d z x20 q21.1 q22.2)).bind fun q23 =>
              some ((10 + q15.1), q23.2)))
          else ((getR t 9 4 q7.2).bind fun x24 =>
            (ick x24 0 (f_Jx4a65c_get_915e3 z x24 q7.1 q7.2)).bind fun q25 =>
            (ckc q25.1 4).bind fun _ =>
            (ick q25.1 4 (f_X3_hear z q25.1 a0 a1 q25.2)).bind fun q27 =>
            (getR t 9 6 q27.2).bind fun x28 =>
            (ick x28 1 (f_X0_forget z x28 q27.2)).bind fun q29 =>
            (getR t 9 3 q29.2).bind fun x30 =>
            (mkO (3, lsz q29.2 2) 3 q29.2).bind fun q31 =>
            (nnl q31.1 (f_X2_init z q31.1 a0 a1 a2 1 q7.1 q31.2)).bind fun q32 =>
            (ick x30 0 (f_Jx4a65c_add_9ea2d z x30 q31.1 q32.2)).bind fun q33 =>
            some (q7.1, q33.2)))
        else (some ((-2), q6.2)))))
set_option maxRecDepth 20000 in
theorem m_X8_pick (z : Nat) (t : Option Nm) (a0 : Int32) (a1 : Int32) (a2 : Int32) (g : Hp) : FM yX8_pick cX8_pick 6 (some .int) 7 159 rtI [sR t, sI a0, sI a1, sI a2] g (f_X8_pick z t a0 a1 a2 g) := by
  refine FM.entry (by decide +kernel) (Nat.le_of_ble_eq_true rfl) (fun X hX => ?_)
  unfold f_X8_pick
  show J yX8_pick cX8_pick 6 (some .int) 7 159 X g 0 [(0, sR t), (1, sI a0), (2, sI a1), (3, sI a2)] [] _
  refine j_aload_n (pc := 0) 0 dX8_pick_0 rfl rfl ?_
  refine j_iload_n (pc := 1) 1 dX8_pick_1 rfl rfl ?_
  refine j_callV (pc := 2) (own := RX8) [sI a0] [] dX8_pick_2 lc_X8_84 lv_X8_isStation rfl (m_X8_isStation z t a0 g) ⟨⟨Nat.le_of_ble_eq_true rfl, Nat.le_of_ble_eq_true rfl⟩, Nat.le_of_ble_eq_true rfl⟩ rfl rfl (fun q1r q1g => ?_)
  refine j_if_ne (pc := 5) (tgt := 10) dX8_pick_5 (by decide) rfl (fun hc => ?_) (fun hc => ?_)
  · refine j_iload_n (pc := 10) 2 dX8_pick_10 rfl rfl ?_
    refine j_iconst (pc := 11) (v := 0) dX8_pick_11 (by decide) ?_
    refine j_aload_n (pc := 12) 0 dX8_pick_12 rfl rfl ?_
    refine j_getI (pc := 13) (own := RX8) dX8_pick_13 lf_X8_103 rfl rfl (fun x2 => ?_)
    refine j_callS (pc := 16) (own := RX8) [sI a1, sI 0, sI x2] [] dX8_pick_16 lc_X8_55 ls_X8_isWithin rfl (m_X8_isWithin z a1 0 x2 q1g) ⟨⟨Nat.le_of_ble_eq_true rfl, Nat.le_of_ble_eq_true rfl⟩, Nat.le_of_ble_eq_true rfl⟩ rfl rfl (fun q3r q3g => ?_)
    refine j_if_eq (pc := 19) (tgt := 32) dX8_pick_19 (by decide) rfl (fun hc => ?_) (fun hc => ?_)
    · refine j_iconst (pc := 32) (v := (-1)) dX8_pick_32 (by decide) ?_
      exact j_ireturn dX8_pick_33 hX rfl rfl
    · refine j_iload_n (pc := 22) 3 dX8_pick_22 rfl rfl ?_
      refine j_iconst (pc := 23) (v := 1) dX8_pick_23 (by decide) ?_
      refine j_ldc (pc := 24) (own := RX8) (v := 1000000) dX8_pick_24 rfl lk_X8_149 ?_
      refine j_callS (pc := 26) (own := RX8) [sI a2, sI 1, sI 1000000] [] dX8_pick_26 lc_X8_55 ls_X8_isWithin rfl (m_X8_isWithin z a2 1 1000000 q3g) ⟨⟨Nat.le_of_ble_eq_true rfl, Nat.le_of_ble_eq_true rfl⟩, Nat.le_of_ble_eq_true rfl⟩ rfl rfl (fun q4r q4g => ?_)
      refine j_if_ne (pc := 29) (tgt := 34) dX8_pick_29 (by decide) rfl (fun hc => ?_) (fun hc => ?_)
      · refine j_aload_n (pc := 34) 0 dX8_pick_34 rfl rfl ?_
        refine j_getR (pc := 35) (own := RX8) dX8_pick_35 lf_X8_28 rfl rfl (fun x5 => ?_)
        refine j_callV (pc := 38) (own := RX8) [] [] dX8_pick_38 lc_X8_70 lv_Jx4a65c_size_8abf5 rfl (m_Jx4a65c_size_8abf5 z x5 q4g) ⟨⟨Nat.le_of_ble_eq_true rfl, Nat.le_of_ble_eq_true rfl⟩, Nat.le_of_ble_eq_true rfl⟩ rfl rfl (fun q6r q6g => ?_)
        refine j_bipush (pc := 41) (v := 60) dX8_pick_41 (by decide) ?_
        refine j_icmp_lt (pc := 43) (tgt := 49) dX8_pick_43 (by decide) rfl (fun hc => ?_) (fun hc => ?_)
        · refine j_aload_n (pc := 49) 0 dX8_pick_49 rfl rfl ?_
          refine j_iload_n (pc := 50) 1 dX8_pick_50 rfl rfl ?_
          refine j_iload_n (pc := 51) 2 dX8_pick_51 rfl rfl ?_
          refine j_callV (pc := 52) (own := RX8) [sI a0, sI a1] [] dX8_pick_52 lc_X8_150 lv_X8_takerOf rfl (m_X8_takerOf z t a0 a1 q6g) ⟨⟨Nat.le_of_ble_eq_true rfl, Nat.le_of_ble_eq_true rfl⟩, Nat.le_of_ble_eq_true rfl⟩ rfl rfl (fun q7r q7g => ?_)
          refine j_istore (pc := 55) (lv' := [(4, sI q7r), (0, sR t), (1, sI a0), (2, sI a1), (3, sI a2)]) dX8_pick_55 (by decide) rfl ?_
          refine j_iload (pc := 57) 0 dX8_pick_57 rfl ?_
          refine j_bipush (pc := 59) (v := (-9)) dX8_pick_59 (by decide) ?_
          refine j_icmp_eq (pc := 61) (tgt := 112) dX8_pick_61 (by decide) rfl (fun hc => ?_) (fun hc => ?_)
          · refine j_aload_n (pc := 112) 1 dX8_pick_112 rfl rfl ?_
            refine j_getR (pc := 113) (own := RX8) dX8_pick_113 lf_X8_31 rfl rfl (fun x8 => ?_)
            refine j_callV (pc := 116) (own := RX8) [] [] dX8_pick_116 lc_X8_70 lv_Jx4a65c_size_8abf5 rfl (m_Jx4a65c_size_8abf5 z x8 q7g) ⟨⟨Nat.le_of_ble_eq_true rfl, Nat.le_of_ble_eq_true rfl⟩, Nat.le_of_ble_eq_true rfl⟩ rfl rfl (fun q9r q9g => ?_)
            refine j_iconst (pc := 119) (v := 5) dX8_pick_119 (by decide) ?_
            refine j_icmp_ge (pc := 120) (tgt := 177) dX8_pick_120 (by decide) rfl (fun hc => ?_) (fun hc => ?_)
            · refine j_aload_n (pc := 177) 1 dX8_pick_177 rfl rfl ?_
              refine j_getR (pc := 178) (own := RX8) dX8_pick_178 lf_X8_28 rfl rfl (fun x10 => ?_)
              refine j_mkO (pc := 181) (own := RX8) dX8_pick_181 ln_X8_159 rfl rfl (fun q11r q11g => ?_)
              refine j_dup (pc := 184) dX8_pick_184 rfl ?_
              refine j_iload_n (pc := 185) 2 dX8_pick_185 rfl rfl ?_
              refine j_iload_n (pc := 186) 3 dX8_pick_186 rfl rfl ?_
              refine j_iload_n (pc := 187) 4 dX8_pick_187 rfl rfl ?_
              refine j_iconst (pc := 188) (v := 3) dX8_pick_188 (by decide) ?_
              refine j_bipush (pc := 189) (v := (-9)) dX8_pick_189 (by decide) ?_
              refine j_callI (pc := 191) (own := RX8) [sI a0, sI a1, sI a2, sI 3, sI (-9)] [sR q11r, sR x10] dX8_pick_191 lc_X8_161 li_X2_init rfl (m_X2_init z q11r a0 a1 a2 3 (-9) q11g) ⟨⟨Nat.le_of_ble_eq_true rfl, Nat.le_of_ble_eq_true rfl⟩, Nat.le_of_ble_eq_true rfl⟩ rfl rfl (fun q12r q12g => ?_)
              refine j_callV (pc := 194) (own := RX8) [sR q11r] [] dX8_pick_194 lc_X8_77 lv_Jx4a65c_add_9ea2d rfl (m_Jx4a65c_add_9ea2d z x10 q11r q12g) ⟨⟨Nat.le_of_ble_eq_true rfl, Nat.le_of_ble_eq_true rfl⟩, Nat.le_of_ble_eq_true rfl⟩ rfl rfl (fun q13r q13g => ?_)
              refine j_pop (pc := 197) dX8_pick_197 rfl ?_
              refine j_bipush (pc := 198) (v := (-9)) dX8_pick_198 (by decide) ?_
              exact j_ireturn dX8_pick_200 hX rfl rfl
            · refine j_aload_n (pc := 123) 1 dX8_pick_123 rfl rfl ?_
              refine j_getR (pc := 124) (own := RX8) dX8_pick_124 lf_X8_31 rfl rfl (fun x14 => ?_)
              refine j_callV (pc := 127) (own := RX8) [] [] dX8_pick_127 lc_X8_70 lv_Jx4a65c_size_8abf5 rfl (m_Jx4a65c_size_8abf5 z x14 q9g) ⟨⟨Nat.le_of_ble_eq_true rfl, Nat.le_of_ble_eq_true rfl⟩, Nat.le_of_ble_eq_true rfl⟩ rfl rfl (fun q15r q15g => ?_)
              refine j_istore (pc := 130) (lv' := [(5, sI q15r), (4, sI q7r), (0, sR t), (1, sI a0), (2, sI a1), (3, sI a2)]) dX8_pick_130 (by decide) rfl ?_
              refine j_aload_n (pc := 132) 2 dX8_pick_132 rfl rfl ?_
              refine j_getR (pc := 133) (own := RX8) dX8_pick_133 lf_X8_31 rfl rfl (fun x16 => ?_)
              refine j_mkO (pc := 136) (own := RX8) dX8_pick_136 ln_X8_153 rfl rfl (fun q17r q17g => ?_)
              refine j_dup (pc := 139) dX8_pick_139 rfl ?_
              refine j_iload_n (pc := 140) 3 dX8_pick_140 rfl rfl ?_
              refine j_iload_n (pc := 141) 4 dX8_pick_141 rfl rfl ?_
              refine j_iload_n (pc := 142) 5 dX8_pick_142 rfl rfl ?_
              refine j_callI (pc := 143) (own := RX8) [sI a0, sI a1, sI a2] [sR q17r, sR x16] dX8_pick_143 lc_X8_164 li_X3_init rfl (m_X3_init z q17r a0 a1 a2 q17g) ⟨⟨Nat.le_of_ble_eq_true rfl, Nat.le_of_ble_eq_true rfl⟩, Nat.le_of_ble_eq_true rfl⟩ rfl rfl (fun q18r q18g => ?_)
              refine j_callV (pc := 146) (own := RX8) [sR q17r] [] dX8_pick_146 lc_X8_77 lv_Jx4a65c_add_9ea2d rfl (m_Jx4a65c_add_9ea2d z x16 q17r q18g) ⟨⟨Nat.le_of_ble_eq_true rfl, Nat.le_of_ble_eq_true rfl⟩, Nat.le_of_ble_eq_true rfl⟩ rfl rfl (fun q19r q19g => ?_)
              refine j_pop (pc := 149) dX8_pick_149 rfl ?_
              refine j_aload_n (pc := 150) 2 dX8_pick_150 rfl rfl ?_
              refine j_getR (pc := 151) (own := RX8) dX8_pick_151 lf_X8_28 rfl rfl (fun x20 => ?_)
              refine j_mkO (pc := 154) (own := RX8) dX8_pick_154 ln_X8_159 rfl rfl (fun q21r q21g => ?_)
              refine j_dup (pc := 157) dX8_pick_157 rfl ?_
              refine j_iload_n (pc := 158) 3 dX8_pick_158 rfl rfl ?_
              refine j_iload_n (pc := 159) 4 dX8_pick_159 rfl rfl ?_
              refine j_iload_n (pc := 160) 5 dX8_pick_160 rfl rfl ?_
              refine j_iconst (pc := 161) (v := 2) dX8_pick_161 (by decide) ?_
              refine j_iload (pc := 162) 0 dX8_pick_162 rfl ?_
              refine j_callI (pc := 164) (own := RX8) [sI a0, sI a1, sI a2, sI 2, sI q15r] [sR q21r, sR x20] dX8_pick_164 lc_X8_161 li_X2_init rfl (m_X2_init z q21r a0 a1 a2 2 q15r q21g) ⟨⟨Nat.le_of_ble_eq_true rfl, Nat.le_of_ble_eq_true rfl⟩, Nat.le_of_ble_eq_true rfl⟩ rfl rfl (fun q22r q22g => ?_)
              refine j_callV (pc := 167) (own := RX8) [sR q21r] [] dX8_pick_167 lc_X8_77 lv_Jx4a65c_add_9ea2d rfl (m_Jx4a65c_add_9ea2d z x20 q21r q22g) ⟨⟨Nat.le_of_ble_eq_true rfl, Nat.le_of_ble_eq_true rfl⟩, Nat.le_of_ble_eq_true rfl⟩ rfl rfl (fun q23r q23g => ?_)
              refine j_pop (pc := 170) dX8_pick_170 rfl ?_
              refine j_bipush (pc := 171) (v := 10) dX8_pick_171 (by decide) ?_
              refine j_iload (pc := 173) 0 dX8_pick_173 rfl ?_
              refine j_iadd (pc := 175) dX8_pick_175 ?_
              exact j_ireturn dX8_pick_176 hX rfl rfl
          · refine j_aload_n (pc := 64) 1 dX8_pick_64 rfl rfl ?_
            refine j_getR (pc := 65) (own := RX8) dX8_pick_65 lf_X8_31 rfl rfl (fun x24 => ?_)
            refine j_iload (pc := 68) 0 dX8_pick_68 rfl ?_
            refine j_callV (pc := 70) (own := RX8) [sI q7r] [] dX8_pick_70 lc_X8_87 lv_Jx4a65c_get_915e3 rfl (m_Jx4a65c_get_915e3 z x24 q7r q7g) ⟨⟨Nat.le_of_ble_eq_true rfl, Nat.le_of_ble_eq_true rfl⟩, Nat.le_of_ble_eq_true rfl⟩ rfl rfl (fun q25r q25g => ?_)
            refine b_cst (pc := 73) (own := RX8) (c := 4) dX8_pick_73 rfl (by decide) lq_X8_153 rfl ?_
            refine j_iload_n (pc := 76) 2 dX8_pick_76 rfl rfl ?_
            refine j_iload_n (pc := 77) 3 dX8_pick_77 rfl rfl ?_
            refine j_callV (pc := 78) (own := RX8) [sI a0, sI a1] [] dX8_pick_78 lc_X8_155 lv_X3_hear rfl (m_X3_hear z q25r a0 a1 q25g) ⟨⟨Nat.le_of_ble_eq_true rfl, Nat.le_of_ble_eq_true rfl⟩, Nat.le_of_ble_eq_true rfl⟩ rfl rfl (fun q27r q27g => ?_)
            refine j_aload_n (pc := 81) 1 dX8_pick_81 rfl rfl ?_
            refine j_getR (pc := 82) (own := RX8) dX8_pick_82 lf_X8_40 rfl rfl (fun x28 => ?_)
            refine j_callV (pc := 85) (own := RX8) [] [] dX8_pick_85 lc_X8_95 lv_X0_forget rfl (m_X0_forget z x28 q27g) ⟨⟨Nat.le_of_ble_eq_true rfl, Nat.le_of_ble_eq_true rfl⟩, Nat.le_of_ble_eq_true rfl⟩ rfl rfl (fun q29r q29g => ?_)
            refine j_aload_n (pc := 88) 1 dX8_pick_88 rfl rfl ?_
            refine j_getR (pc := 89) (own := RX8) dX8_pick_89 lf_X8_28 rfl rfl (fun x30 => ?_)
            refine j_mkO (pc := 92) (own := RX8) dX8_pick_92 ln_X8_159 rfl rfl (fun q31r q31g => ?_)
            refine j_dup (pc := 95) dX8_pick_95 rfl ?_
            refine j_iload_n (pc := 96) 2 dX8_pick_96 rfl rfl ?_
            refine j_iload_n (pc := 97) 3 dX8_pick_97 rfl rfl ?_
            refine j_iload_n (pc := 98) 4 dX8_pick_98 rfl rfl ?_
            refine j_iconst (pc := 99) (v := 1) dX8_pick_99 (by decide) ?_
            refine j_iload (pc := 100) 0 dX8_pick_100 rfl ?_
            refine j_callI (pc := 102) (own := RX8) [sI a0, sI a1, sI a2, sI 1, sI q7r] [sR q31r, sR x30] dX8_pick_102 lc_X8_161 li_X2_init rfl (m_X2_init z q31r a0 a1 a2 1 q7r q31g) ⟨⟨Nat.le_of_ble_eq_true rfl, Nat.le_of_ble_eq_true rfl⟩, Nat.le_of_ble_eq_true rfl⟩ rfl rfl (fun q32r q32g => ?_)
            refine j_callV (pc := 105) (own := RX8) [sR q31r] [] dX8_pick_105 lc_X8_77 lv_Jx4a65c_add_9ea2d rfl (m_Jx4a65c_add_9ea2d z x30 q31r q32g) ⟨⟨Nat.le_of_ble_eq_true rfl, Nat.le_of_ble_eq_true rfl⟩, Nat.le_of_ble_eq_true rfl⟩ rfl rfl (fun q33r q33g => ?_)
            refine j_pop (pc := 108) dX8_pick_108 rfl ?_
            refine j_iload (pc := 109) 0 dX8_pick_109 rfl ?_
            exact j_ireturn dX8_pick_111 hX rfl rfl
        · refine j_bipush (pc := 46) (v := (-2)) dX8_pick_46 (by decide) ?_
          exact j_ireturn dX8_pick_48 hX rfl rfl
      · refine j_iconst (pc := 32) (v := (-1)) dX8_pick_32 (by decide) ?_
        exact j_ireturn dX8_pick_33 hX rfl rfl
  · refine j_iconst (pc := 8) (v := (-1)) dX8_pick_8 (by decide) ?_
    exact j_ireturn dX8_pick_9 hX rfl rfl
/-! X8_isQuake -/
noncomputable def f_X8_isQuake (z : Nat) (t : Option Nm) (a0 : Int32) (g : Hp) : Option (Int32 × Hp) :=
  (getR t 9 4 g).bind fun x1 =>
  (ick x1 0 (f_Jx4a65c_size_8abf5 z x1 g)).bind fun q2 =>
  (f_X8_isWithin z a0 0 (q2.1 - 1) q2.2).bind fun q3 =>
  rtZ q3.1 q3.2
set_option maxRecDepth 20000 in
theorem m_X8_isQuake (z : Nat) (t : Option Nm) (a0 : Int32) (g : Hp) : FM yX8_isQuake cX8_isQuake 2 (some .boolean) 1 22 rtI [sR t, sI a0] g (f_X8_isQuake z t a0 g) := by
  refine FM.entry (by decide +kernel) (Nat.le_of_ble_eq_true rfl) (fun X hX => ?_)
  unfold f_X8_isQuake
  show J yX8_isQuake cX8_isQuake 2 (some .boolean) 1 22 X g 0 [(0, sR t), (1, sI a0)] [] _
  refine j_iload_n (pc := 0) 1 dX8_isQuake_0 rfl rfl ?_
  refine j_iconst (pc := 1) (v := 0) dX8_isQuake_1 (by decide) ?_
  refine j_aload_n (pc := 2) 0 dX8_isQuake_2 rfl rfl ?_
  refine j_getR (pc := 3) (own := RX8) dX8_isQuake_3 lf_X8_31 rfl rfl (fun x1 => ?_)
  refine j_callV (pc := 6) (own := RX8) [] [sI 0, sI a0] dX8_isQuake_6 lc_X8_70 lv_Jx4a65c_size_8abf5 rfl (m_Jx4a65c_size_8abf5 z x1 g) ⟨⟨Nat.le_of_ble_eq_true rfl, Nat.le_of_ble_eq_true rfl⟩, Nat.le_of_ble_eq_true rfl⟩ rfl rfl (fun q2r q2g => ?_)
  refine j_iconst (pc := 9) (v := 1) dX8_isQuake_9 (by decide) ?_
  refine j_isub (pc := 10) dX8_isQuake_10 ?_
  refine j_callS (pc := 11) (own := RX8) [sI a0, sI 0, sI (q2r - 1)] [] dX8_isQuake_11 lc_X8_55 ls_X8_isWithin rfl (m_X8_isWithin z a0 0 (q2r - 1) q2g) ⟨⟨Nat.le_of_ble_eq_true rfl, Nat.le_of_ble_eq_true rfl⟩, Nat.le_of_ble_eq_true rfl⟩ rfl rfl (fun q3r q3g => ?_)
  exact j_zreturn dX8_isQuake_14 hX rfl rfl
/-! X8_isOver -/
noncomputable def f_X8_isOver (z : Nat) (t : Option Nm) (a0 : Int32) (g : Hp) : Option (Int32 × Hp) :=
  (ick t 9 (f_X8_heapOf z t a0 g)).bind fun q1 =>
  (getI q1.1 1 2 q1.2).bind fun x2 =>
  if x2 = 0 then (rtZ 1 q1.2)
  else (rtZ 0 q1.2)
set_option maxRecDepth 20000 in
theorem m_X8_isOver (z : Nat) (t : Option Nm) (a0 : Int32) (g : Hp) : FM yX8_isOver cX8_isOver 2 (some .boolean) 5 112 rtI [sR t, sI a0] g (f_X8_isOver z t a0 g) := by
  refine FM.entry (by decide +kernel) (Nat.le_of_ble_eq_true rfl) (fun X hX => ?_)
  unfold f_X8_isOver
  show J yX8_isOver cX8_isOver 2 (some .boolean) 5 112 X g 0 [(0, sR t), (1, sI a0)] [] _
  refine j_aload_n (pc := 0) 0 dX8_isOver_0 rfl rfl ?_
  refine j_iload_n (pc := 1) 1 dX8_isOver_1 rfl rfl ?_
  refine j_callV (pc := 2) (own := RX8) [sI a0] [] dX8_isOver_2 lc_X8_194 lv_X8_heapOf rfl (m_X8_heapOf z t a0 g) ⟨⟨Nat.le_of_ble_eq_true rfl, Nat.le_of_ble_eq_true rfl⟩, Nat.le_of_ble_eq_true rfl⟩ rfl rfl (fun q1r q1g => ?_)
  refine j_getI (pc := 5) (own := RX8) dX8_isOver_5 lf_X8_198 rfl rfl (fun x2 => ?_)
  refine j_if_ne (pc := 8) (tgt := 15) dX8_isOver_8 (by decide) rfl (fun hc => ?_) (fun hc => ?_)
  · refine j_iconst (pc := 15) (v := 0) dX8_isOver_15 (by decide) ?_
    exact j_zreturn dX8_isOver_16 hX rfl rfl
  · refine j_iconst (pc := 11) (v := 1) dX8_isOver_11 (by decide) ?_
    refine j_goto (pc := 12) (tgt := 16) dX8_isOver_12 (by decide) ?_
    exact j_zreturn dX8_isOver_16 hX rfl rfl
/-! X8_quake -/
noncomputable def f_X8_quake (z : Nat) (t : Option Nm) (a0 : Int32) (a1 : Int32) (g : Hp) : Option (Int32 × Hp) :=
  (ick t 9 (f_X8_isQuake z t a0 g)).bind fun q1 =>
  if q1.1 = 0 then (some ((-1), q1.2))
  else (tsw a1 [0, 1, 2, 3, 4] [
      ((getR t 9 4 q1.2).bind fun x2 =>
        (ick x2 0 (f_Jx4a65c_get_915e3 z x2 a0 q1.2)).bind fun q3 =>
        (ckc q3.1 4).bind fun _ =>
        (getI q3.1 4 3 q3.2).bind fun x5 =>
        some (x5, q3.2)),
      ((ick t 9 (f_X8_heapOf z t a0 q1.2)).bind fun q6 =>
        (getI q6.1 1 2 q6.2).bind fun x7 =>
        some (x7, q6.2)),
      ((ick t 9 (f_X8_heapOf z t a0 q1.2)).bind fun q8 =>
        (getI q8.1 1 3 q8.2).bind fun x9 =>
        some (x9, q8.2)),
      ((ick t 9 (f_X8_heapOf z t a0 q1.2)).bind fun q10 =>
        (getI q10.1 1 4 q10.2).bind fun x11 =>
        some (x11, q10.2)),
      ((ick t 9 (f_X8_isOver z t a0 q1.2)).bind fun q12 =>
        if q12.1 = 0 then (some (0, q12.2))
        else (some (1, q12.2)))]
      (some ((-1), q1.2)))
set_option maxRecDepth 20000 in
theorem m_X8_quake (z : Nat) (t : Option Nm) (a0 : Int32) (a1 : Int32) (g : Hp) : FM yX8_quake cX8_quake 3 (some .int) 6 133 rtI [sR t, sI a0, sI a1] g (f_X8_quake z t a0 a1 g) := by
  refine FM.entry (by decide +kernel) (Nat.le_of_ble_eq_true rfl) (fun X hX => ?_)
  unfold f_X8_quake
  show J yX8_quake cX8_quake 3 (some .int) 6 133 X g 0 [(0, sR t), (1, sI a0), (2, sI a1)] [] _
  refine j_aload_n (pc := 0) 0 dX8_quake_0 rfl rfl ?_
  refine j_iload_n (pc := 1) 1 dX8_quake_1 rfl rfl ?_
  refine j_callV (pc := 2) (own := RX8) [sI a0] [] dX8_quake_2 lc_X8_188 lv_X8_isQuake rfl (m_X8_isQuake z t a0 g) ⟨⟨Nat.le_of_ble_eq_true rfl, Nat.le_of_ble_eq_true rfl⟩, Nat.le_of_ble_eq_true rfl⟩ rfl rfl (fun q1r q1g => ?_)
  refine j_if_ne (pc := 5) (tgt := 10) dX8_quake_5 (by decide) rfl (fun hc => ?_) (fun hc => ?_)
  · refine j_iload_n (pc := 10) 2 dX8_quake_10 rfl rfl ?_
    refine j_tsw (ts := [44, 59, 68, 77, 86]) (td := 100) dX8_quake_11 (by decide) (by decide) (by decide) (by decide) (by decide) rfl ?_ ⟨?_, ?_, ?_, ?_, ?_, trivial⟩
    · refine j_iconst (pc := 100) (v := (-1)) dX8_quake_100 (by decide) ?_
      exact j_ireturn dX8_quake_101 hX rfl rfl
    · refine j_aload_n (pc := 44) 0 dX8_quake_44 rfl rfl ?_
      refine j_getR (pc := 45) (own := RX8) dX8_quake_45 lf_X8_31 rfl rfl (fun x2 => ?_)
      refine j_iload_n (pc := 48) 1 dX8_quake_48 rfl rfl ?_
      refine j_callV (pc := 49) (own := RX8) [sI a0] [] dX8_quake_49 lc_X8_87 lv_Jx4a65c_get_915e3 rfl (m_Jx4a65c_get_915e3 z x2 a0 q1g) ⟨⟨Nat.le_of_ble_eq_true rfl, Nat.le_of_ble_eq_true rfl⟩, Nat.le_of_ble_eq_true rfl⟩ rfl rfl (fun q3r q3g => ?_)
      refine b_cst (pc := 52) (own := RX8) (c := 4) dX8_quake_52 rfl (by decide) lq_X8_153 rfl ?_
      refine j_getI (pc := 55) (own := RX8) dX8_quake_55 lf_X8_191 rfl rfl (fun x5 => ?_)
      exact j_ireturn dX8_quake_58 hX rfl rfl
    · refine j_aload_n (pc := 59) 0 dX8_quake_59 rfl rfl ?_
      refine j_iload_n (pc := 60) 1 dX8_quake_60 rfl rfl ?_
      refine j_callV (pc := 61) (own := RX8) [sI a0] [] dX8_quake_61 lc_X8_194 lv_X8_heapOf rfl (m_X8_heapOf z t a0 q1g) ⟨⟨Nat.le_of_ble_eq_true rfl, Nat.le_of_ble_eq_true rfl⟩, Nat.le_of_ble_eq_true rfl⟩ rfl rfl (fun q6r q6g => ?_)
      refine j_getI (pc := 64) (own := RX8) dX8_quake_64 lf_X8_198 rfl rfl (fun x7 => ?_)
      exact j_ireturn dX8_quake_67 hX rfl rfl
    · refine j_aload_n (pc := 68) 0 dX8_quake_68 rfl rfl ?_
      refine j_iload_n (pc := 69) 1 dX8_quake_69 rfl rfl ?_
      refine j_callV (pc := 70) (own := RX8) [sI a0] [] dX8_quake_70 lc_X8_194 lv_X8_heapOf rfl (m_X8_heapOf z t a0 q1g) ⟨⟨Nat.le_of_ble_eq_true rfl, Nat.le_of_ble_eq_true rfl⟩, Nat.le_of_ble_eq_true rfl⟩ rfl rfl (fun q8r q8g => ?_)
      refine j_getI (pc := 73) (own := RX8) dX8_quake_73 lf_X8_201 rfl rfl (fun x9 => ?_)
      exact j_ireturn dX8_quake_76 hX rfl rfl
    · refine j_aload_n (pc := 77) 0 dX8_quake_77 rfl rfl ?_
      refine j_iload_n (pc := 78) 1 dX8_quake_78 rfl rfl ?_
      refine j_callV (pc := 79) (own := RX8) [sI a0] [] dX8_quake_79 lc_X8_194 lv_X8_heapOf rfl (m_X8_heapOf z t a0 q1g) ⟨⟨Nat.le_of_ble_eq_true rfl, Nat.le_of_ble_eq_true rfl⟩, Nat.le_of_ble_eq_true rfl⟩ rfl rfl (fun q10r q10g => ?_)
      refine j_getI (pc := 82) (own := RX8) dX8_quake_82 lf_X8_204 rfl rfl (fun x11 => ?_)
      exact j_ireturn dX8_quake_85 hX rfl rfl
    · refine j_aload_n (pc := 86) 0 dX8_quake_86 rfl rfl ?_
      refine j_iload_n (pc := 87) 1 dX8_quake_87 rfl rfl ?_
      refine j_callV (pc := 88) (own := RX8) [sI a0] [] dX8_quake_88 lc_X8_207 lv_X8_isOver rfl (m_X8_isOver z t a0 q1g) ⟨⟨Nat.le_of_ble_eq_true rfl, Nat.le_of_ble_eq_true rfl⟩, Nat.le_of_ble_eq_true rfl⟩ rfl rfl (fun q12r q12g => ?_)
      refine j_if_eq (pc := 91) (tgt := 98) dX8_quake_91 (by decide) rfl (fun hc => ?_) (fun hc => ?_)
      · refine j_iconst (pc := 98) (v := 0) dX8_quake_98 (by decide) ?_
        exact j_ireturn dX8_quake_99 hX rfl rfl
      · refine j_iconst (pc := 94) (v := 1) dX8_quake_94 (by decide) ?_
        refine j_goto (pc := 95) (tgt := 99) dX8_quake_95 (by decide) ?_
        exact j_ireturn dX8_quake_99 hX rfl rfl
  · refine j_iconst (pc := 8) (v := (-1)) dX8_quake_8 (by decide) ?_
    exact j_ireturn dX8_quake_9 hX rfl rfl
/-! X8_holds -/
noncomputable def f_X8_holds (z : Nat) (t : Option Nm) (a0 : Int32) (a1 : Int32) (a2 : Int32) (g : Hp) : Option (Int32 × Hp) :=
  (ick t 9 (f_X8_isQuake z t a0 g)).bind fun q1 =>
  if q1.1 = 0 then (some ((-1), q1.2))
  else ((f_X8_isCell z a1 q1.2).bind fun q2 =>
    if q2.1 = 0 then (some ((-1), q2.2))
    else ((ick t 9 (f_X8_heapOf z t a0 q2.2)).bind fun q3 =>
      (getR q3.1 1 0 q3.2).bind fun x4 =>
      (aldI x4 a1 q3.2).bind fun x5 =>
      (getR q3.1 1 1 q3.2).bind fun x6 =>
      (aldI x6 a1 q3.2).bind fun x7 =>
      (f_X8_isWithin z a2 x5 x7 q3.2).bind fun q8 =>
      if q8.1 = 0 then (some (0, q8.2))
      else (some (1, q8.2))))
set_option maxRecDepth 20000 in
theorem m_X8_holds (z : Nat) (t : Option Nm) (a0 : Int32) (a1 : Int32) (a2 : Int32) (g : Hp) : FM yX8_holds cX8_holds 5 (some .int) 5 112 rtI [sR t, sI a0, sI a1, sI a2] g (f_X8_holds z t a0 a1 a2 g) := by
  refine FM.entry (by decide +kernel) (Nat.le_of_ble_eq_true rfl) (fun X hX => ?_)
  unfold f_X8_holds
  show J yX8_holds cX8_holds 5 (some .int) 5 112 X g 0 [(0, sR t), (1, sI a0), (2, sI a1), (3, sI a2)] [] _
  refine j_aload_n (pc := 0) 0 dX8_holds_0 rfl rfl ?_
  refine j_iload_n (pc := 1) 1 dX8_holds_1 rfl rfl ?_
  refine j_callV (pc := 2) (own := RX8) [sI a0] [] dX8_holds_2 lc_X8_188 lv_X8_isQuake rfl (m_X8_isQuake z t a0 g) ⟨⟨Nat.le_of_ble_eq_true rfl, Nat.le_of_ble_eq_true rfl⟩, Nat.le_of_ble_eq_true rfl⟩ rfl rfl (fun q1r q1g => ?_)
  refine j_if_eq (pc := 5) (tgt := 15) dX8_holds_5 (by decide) rfl (fun hc => ?_) (fun hc => ?_)
  · refine j_iconst (pc := 15) (v := (-1)) dX8_holds_15 (by decide) ?_
    exact j_ireturn dX8_holds_16 hX rfl rfl
  · refine j_iload_n (pc := 8) 2 dX8_holds_8 rfl rfl ?_
    refine j_callS (pc := 9) (own := RX8) [sI a1] [] dX8_holds_9 lc_X8_66 ls_X8_isCell rfl (m_X8_isCell z a1 q1g) ⟨⟨Nat.le_of_ble_eq_true rfl, Nat.le_of_ble_eq_true rfl⟩, Nat.le_of_ble_eq_true rfl⟩ rfl rfl (fun q2r q2g => ?_)
    refine j_if_ne (pc := 12) (tgt := 17) dX8_holds_12 (by decide) rfl (fun hc => ?_) (fun hc => ?_)
    · refine j_aload_n (pc := 17) 0 dX8_holds_17 rfl rfl ?_
      refine j_iload_n (pc := 18) 1 dX8_holds_18 rfl rfl ?_
      refine j_callV (pc := 19) (own := RX8) [sI a0] [] dX8_holds_19 lc_X8_194 lv_X8_heapOf rfl (m_X8_heapOf z t a0 q2g) ⟨⟨Nat.le_of_ble_eq_true rfl, Nat.le_of_ble_eq_true rfl⟩, Nat.le_of_ble_eq_true rfl⟩ rfl rfl (fun q3r q3g => ?_)
      refine j_astore (pc := 22) (lv' := [(4, sR q3r), (0, sR t), (1, sI a0), (2, sI a1), (3, sI a2)]) dX8_holds_22 (by decide) rfl ?_
      refine j_iload_n (pc := 24) 4 dX8_holds_24 rfl rfl ?_
      refine j_aload (pc := 25) 0 dX8_holds_25 rfl ?_
      refine j_getR (pc := 27) (own := RX8) dX8_holds_27 lf_X8_218 rfl rfl (fun x4 => ?_)
      refine j_iload_n (pc := 30) 3 dX8_holds_30 rfl rfl ?_
      refine j_aldI (pc := 31) dX8_holds_31 rfl (fun x5 => ?_)
      refine j_aload (pc := 32) 0 dX8_holds_32 rfl ?_
      refine j_getR (pc := 34) (own := RX8) dX8_holds_34 lf_X8_215 rfl rfl (fun x6 => ?_)
      refine j_iload_n (pc := 37) 3 dX8_holds_37 rfl rfl ?_
      refine j_aldI (pc := 38) dX8_holds_38 rfl (fun x7 => ?_)
      refine j_callS (pc := 39) (own := RX8) [sI a2, sI x5, sI x7] [] dX8_holds_39 lc_X8_55 ls_X8_isWithin rfl (m_X8_isWithin z a2 x5 x7 q3g) ⟨⟨Nat.le_of_ble_eq_true rfl, Nat.le_of_ble_eq_true rfl⟩, Nat.le_of_ble_eq_true rfl⟩ rfl rfl (fun q8r q8g => ?_)
      refine j_if_eq (pc := 42) (tgt := 49) dX8_holds_42 (by decide) rfl (fun hc => ?_) (fun hc => ?_)
      · refine j_iconst (pc := 49) (v := 0) dX8_holds_49 (by decide) ?_
        exact j_ireturn dX8_holds_50 hX rfl rfl
      · refine j_iconst (pc := 45) (v := 1) dX8_holds_45 (by decide) ?_
        refine j_goto (pc := 46) (tgt := 50) dX8_holds_46 (by decide) ?_
        exact j_ireturn dX8_holds_50 hX rfl rfl
    · refine j_iconst (pc := 15) (v := (-1)) dX8_holds_15 (by decide) ?_
      exact j_ireturn dX8_holds_16 hX rfl rfl
/-! X8_isTown -/
noncomputable def f_X8_isTown (z : Nat) (t : Option Nm) (a0 : Int32) (g : Hp) : Option (Int32 × Hp) :=
  (getR t 9 2 g).bind fun x1 =>
  (ick x1 0 (f_Jx4a65c_size_8abf5 z x1 g)).bind fun q2 =>
  (f_X8_isWithin z a0 0 (q2.1 - 1) q2.2).bind fun q3 =>
  rtZ q3.1 q3.2
set_option maxRecDepth 20000 in
theorem m_X8_isTown (z : Nat) (t : Option Nm) (a0 : Int32) (g : Hp) : FM yX8_isTown cX8_isTown 2 (some .boolean) 1 22 rtI [sR t, sI a0] g (f_X8_isTown z t a0 g) := by
  refine FM.entry (by decide +kernel) (Nat.le_of_ble_eq_true rfl) (fun X hX => ?_)
  unfold f_X8_isTown
  show J yX8_isTown cX8_isTown 2 (some .boolean) 1 22 X g 0 [(0, sR t), (1, sI a0)] [] _
  refine j_iload_n (pc := 0) 1 dX8_isTown_0 rfl rfl ?_
  refine j_iconst (pc := 1) (v := 0) dX8_isTown_1 (by decide) ?_
  refine j_aload_n (pc := 2) 0 dX8_isTown_2 rfl rfl ?_
  refine j_getR (pc := 3) (own := RX8) dX8_isTown_3 lf_X8_25 rfl rfl (fun x1 => ?_)
  refine j_callV (pc := 6) (own := RX8) [] [sI 0, sI a0] dX8_isTown_6 lc_X8_70 lv_Jx4a65c_size_8abf5 rfl (m_Jx4a65c_size_8abf5 z x1 g) ⟨⟨Nat.le_of_ble_eq_true rfl, Nat.le_of_ble_eq_true rfl⟩, Nat.le_of_ble_eq_true rfl⟩ rfl rfl (fun q2r q2g => ?_)
  refine j_iconst (pc := 9) (v := 1) dX8_isTown_9 (by decide) ?_
  refine j_isub (pc := 10) dX8_isTown_10 ?_
  refine j_callS (pc := 11) (own := RX8) [sI a0, sI 0, sI (q2r - 1)] [] dX8_isTown_11 lc_X8_55 ls_X8_isWithin rfl (m_X8_isWithin z a0 0 (q2r - 1) q2g) ⟨⟨Nat.le_of_ble_eq_true rfl, Nat.le_of_ble_eq_true rfl⟩, Nat.le_of_ble_eq_true rfl⟩ rfl rfl (fun q3r q3g => ?_)
  exact j_zreturn dX8_isTown_14 hX rfl rfl
/-! X8_latestArrival -/
noncomputable def f_X8_latestArrival_30_b (z : Nat) (p4 : Int32) (p3 : Option Nm) (p0 : Option Nm) (p1 : Int32) (p2 : Int32) (rec : Int32 → Int32 → Hp → Option (Int32 × Int32 × Hp)) (v6 : Int32) (v5 : Int32) (g : Hp) : Option (Int32 × Int32 × Hp) :=
  if 144 ≤ v6 then (some (v6, v5, g))
  else ((ick p3 1 (f_X0_has z p3 v6 g)).bind fun q6 =>
    if q6.1 = 0 then (rec (v6 + 1) v5 q6.2)
    else ((getR p3 1 1 q6.2).bind fun x7 =>
      (aldI x7 v6 q6.2).bind fun x8 =>
      (getR p0 9 0 q6.2).bind fun x9 =>
      (ick x9 8 (f_X7_between z x9 v6 p4 q6.2)).bind fun q10 =>
      rec (v6 + 1) (imax v5 (x8 + q10.1)) q10.2))
noncomputable def f_X8_latestArrival_30_L (z : Nat) (p4 : Int32) (p3 : Option Nm) (p0 : Option Nm) (p1 : Int32) (p2 : Int32) : Nat → Int32 → Int32 → Hp → Option (Int32 × Int32 × Hp)
  | 0, _, _, _ => none
  | n + 1, v6, v5, g => f_X8_latestArrival_30_b z p4 p3 p0 p1 p2 (f_X8_latestArrival_30_L z p4 p3 p0 p1 p2 n) v6 v5 g
noncomputable def f_X8_latestArrival (z : Nat) (t : Option Nm) (a0 : Int32) (a1 : Int32) (g : Hp) : Option (Int32 × Hp) :=
  (ick t 9 (f_X8_heapOf z t a1 g)).bind fun q1 =>
  (getR t 9 2 q1.2).bind fun x2 =>
  (ick x2 0 (f_Jx4a65c_get_915e3 z x2 a0 q1.2)).bind fun q3 =>
  (ckc q3.1 7).bind fun _ =>
  (getI q3.1 7 0 q3.2).bind fun x5 =>
  (f_X8_latestArrival_30_L z x5 q1.1 t a0 a1 z 0 (-1000000) q3.2).bind fun q11 =>
  some (q11.2.1, q11.2.2)
set_option maxRecDepth 20000 in
theorem b_X8_latestArrival_30 {X : Xt Int32} (hX : IsM rtI X) (z : Nat) (p4 : Int32) (p3 : Option Nm) (p0 : Option Nm) (p1 : Int32) (p2 : Int32) (rec : Int32 → Int32 → Hp → Option (Int32 × Int32 × Hp)) (K : Int32 × Int32 × Hp → Option (Int32 × Hp)) (he : ∀ (v6 : Int32) (v5 : Int32) (g : Hp), J yX8_latestArrival cX8_latestArrival 7 (some .int) 5 112 X g 82 [(6, sI v6), (5, sI v5), (4, sI p4), (3, sR p3), (0, sR p0), (1, sI p1), (2, sI p2)] [] (K (v6, v5, g))) (hr : ∀ (v6 : Int32) (v5 : Int32) (g : Hp), J yX8_latestArrival cX8_latestArrival 7 (some .int) 5 112 X g 30 [(6, sI v6), (5, sI v5), (4, sI p4), (3, sR p3), (0, sR p0), (1, sI p1), (2, sI p2)] [] ((rec v6 v5 g).bind K)) (v6 : Int32) (v5 : Int32) (g : Hp) : J yX8_latestArrival cX8_latestArrival 7 (some .int) 5 112 X g 30 [(6, sI v6), (5, sI v5), (4, sI p4), (3, sR p3), (0, sR p0), (1, sI p1), (2, sI p2)] [] ((f_X8_latestArrival_30_b z p4 p3 p0 p1 p2 rec v6 v5 g).bind K) := by
  unfold f_X8_latestArrival_30_b
  refine j_iload (pc := 30) 0 dX8_latestArrival_30 rfl ?_
  refine j_sipush (pc := 32) (v := 144) dX8_latestArrival_32 (by decide) ?_
  refine j_icmp_ge (pc := 35) (tgt := 82) dX8_latestArrival_35 (by decide) bi (fun hc => ?_) (fun hc => ?_)
  · exact he v6 v5 g
  · refine j_aload_n (pc := 38) 3 dX8_latestArrival_38 rfl rfl ?_
    refine j_iload (pc := 39) 0 dX8_latestArrival_39 rfl ?_
    refine j_callV (pc := 41) (own := RX8) [sI v6] [] dX8_latestArrival_41 lc_X8_213 lv_X0_has rfl (m_X0_has z p3 v6 g) ⟨⟨Nat.le_of_ble_eq_true rfl, Nat.le_of_ble_eq_true rfl⟩, Nat.le_of_ble_eq_true rfl⟩ rfl bb (fun q6r q6g => ?_)
    refine j_if_ne (pc := 44) (tgt := 50) dX8_latestArrival_44 (by decide) bi (fun hc => ?_) (fun hc => ?_)
    · refine j_iload (pc := 50) 1 dX8_latestArrival_50 rfl ?_
      refine j_aload_n (pc := 52) 3 dX8_latestArrival_52 rfl rfl ?_
      refine j_getR (pc := 53) (own := RX8) dX8_latestArrival_53 lf_X8_215 rfl bb (fun x7 => ?_)
      refine j_iload (pc := 56) 0 dX8_latestArrival_56 rfl ?_
      refine j_aldI (pc := 58) dX8_latestArrival_58 bb (fun x8 => ?_)
      refine j_aload_n (pc := 59) 4 dX8_latestArrival_59 rfl rfl ?_
      refine j_getR (pc := 60) (own := RX8) dX8_latestArrival_60 lf_X8_14 rfl bb (fun x9 => ?_)
      refine j_iload (pc := 63) 0 dX8_latestArrival_63 rfl ?_
      refine j_iload (pc := 65) 2 dX8_latestArrival_65 rfl ?_
      refine j_callV (pc := 67) (own := RX8) [sI v6, sI p4] [sI x8, sI v5] dX8_latestArrival_67 lc_X8_98 lv_X7_between rfl (m_X7_between z x9 v6 p4 q6g) ⟨⟨Nat.le_of_ble_eq_true rfl, Nat.le_of_ble_eq_true rfl⟩, Nat.le_of_ble_eq_true rfl⟩ rfl bb (fun q10r q10g => ?_)
      refine j_iadd (pc := 70) dX8_latestArrival_70 ?_
      refine j_max (pc := 71) (own := RX8) dX8_latestArrival_71 lM_X8_261 rfl ⟨Nat.le_of_ble_eq_true rfl, Nat.le_of_ble_eq_true rfl⟩ ?_
      refine j_istore (pc := 74) (lv' := [(5, sI (imax v5 (x8 + q10r))), (6, sI v6), (4, sI p4), (3, sR p3), (0, sR p0), (1, sI p1), (2, sI p2)]) dX8_latestArrival_74 (by decide) rfl ?_
      refine j_iinc (pc := 76) (v := (v6 + 1)) (lv' := [(6, sI (v6 + 1)), (5, sI (imax v5 (x8 + q10r))), (4, sI p4), (3, sR p3), (0, sR p0), (1, sI p1), (2, sI p2)]) 1 dX8_latestArrival_76 rfl rfl (by decide) rfl ?_
      refine j_goto (pc := 79) (tgt := 30) dX8_latestArrival_79 (by decide) ?_
      exact hr (v6 + 1) (imax v5 (x8 + q10r)) q10g
    · refine j_goto (pc := 47) (tgt := 76) dX8_latestArrival_47 (by decide) ?_
      refine j_iinc (pc := 76) (v := (v6 + 1)) (lv' := [(6, sI (v6 + 1)), (5, sI v5), (4, sI p4), (3, sR p3), (0, sR p0), (1, sI p1), (2, sI p2)]) 0 dX8_latestArrival_76 rfl rfl (by decide) rfl ?_
      refine j_goto (pc := 79) (tgt := 30) dX8_latestArrival_79 (by decide) ?_
      exact hr (v6 + 1) v5 q6g
set_option maxRecDepth 20000 in
theorem l_X8_latestArrival_30 {X : Xt Int32} (hX : IsM rtI X) (z : Nat) (p4 : Int32) (p3 : Option Nm) (p0 : Option Nm) (p1 : Int32) (p2 : Int32) (K : Int32 × Int32 × Hp → Option (Int32 × Hp)) (he : ∀ (v6 : Int32) (v5 : Int32) (g : Hp), J yX8_latestArrival cX8_latestArrival 7 (some .int) 5 112 X g 82 [(6, sI v6), (5, sI v5), (4, sI p4), (3, sR p3), (0, sR p0), (1, sI p1), (2, sI p2)] [] (K (v6, v5, g))) : ∀ (n : Nat) (v6 : Int32) (v5 : Int32) (g : Hp), J yX8_latestArrival cX8_latestArrival 7 (some .int) 5 112 X g 30 [(6, sI v6), (5, sI v5), (4, sI p4), (3, sR p3), (0, sR p0), (1, sI p1), (2, sI p2)] [] ((f_X8_latestArrival_30_L z p4 p3 p0 p1 p2 n v6 v5 g).bind K)
  | 0, _, _, _ => J.eq rfl J.none
  | n + 1, v6, v5, g => b_X8_latestArrival_30 hX z p4 p3 p0 p1 p2 _ K he (fun v6 v5 g => l_X8_latestArrival_30 hX z p4 p3 p0 p1 p2 K he n v6 v5 g) v6 v5 g
set_option maxRecDepth 20000 in
theorem m_X8_latestArrival (z : Nat) (t : Option Nm) (a0 : Int32) (a1 : Int32) (g : Hp) : FM yX8_latestArrival cX8_latestArrival 7 (some .int) 5 112 rtI [sR t, sI a0, sI a1] g (f_X8_latestArrival z t a0 a1 g) := by
  refine FM.entry (by decide +kernel) (Nat.le_of_ble_eq_true rfl) (fun X hX => ?_)
  unfold f_X8_latestArrival
  show J yX8_latestArrival cX8_latestArrival 7 (some .int) 5 112 X g 0 [(0, sR t), (1, sI a0), (2, sI a1)] [] _
  refine j_aload_n (pc := 0) 0 dX8_latestArrival_0 rfl rfl ?_
  refine j_iload_n (pc := 1) 2 dX8_latestArrival_1 rfl rfl ?_
  refine j_callV (pc := 2) (own := RX8) [sI a1] [] dX8_latestArrival_2 lc_X8_194 lv_X8_heapOf rfl (m_X8_heapOf z t a1 g) ⟨⟨Nat.le_of_ble_eq_true rfl, Nat.le_of_ble_eq_true rfl⟩, Nat.le_of_ble_eq_true rfl⟩ rfl rfl (fun q1r q1g => ?_)
  refine j_astore_n (pc := 5) (lv' := [(3, sR q1r), (0, sR t), (1, sI a0), (2, sI a1)]) dX8_latestArrival_5 rfl (by decide) rfl ?_
  refine j_aload_n (pc := 6) 1 dX8_latestArrival_6 rfl rfl ?_
  refine j_getR (pc := 7) (own := RX8) dX8_latestArrival_7 lf_X8_25 rfl rfl (fun x2 => ?_)
  refine j_iload_n (pc := 10) 2 dX8_latestArrival_10 rfl rfl ?_
  refine j_callV (pc := 11) (own := RX8) [sI a0] [] dX8_latestArrival_11 lc_X8_87 lv_Jx4a65c_get_915e3 rfl (m_Jx4a65c_get_915e3 z x2 a0 q1g) ⟨⟨Nat.le_of_ble_eq_true rfl, Nat.le_of_ble_eq_true rfl⟩, Nat.le_of_ble_eq_true rfl⟩ rfl rfl (fun q3r q3g => ?_)
  refine b_cst (pc := 14) (own := RX8) (c := 7) dX8_latestArrival_14 rfl (by decide) lq_X8_81 rfl ?_
  refine j_getI (pc := 17) (own := RX8) dX8_latestArrival_17 lf_X8_335 rfl rfl (fun x5 => ?_)
  refine j_istore (pc := 20) (lv' := [(4, sI x5), (3, sR q1r), (0, sR t), (1, sI a0), (2, sI a1)]) dX8_latestArrival_20 (by decide) rfl ?_
  refine j_ldcw (pc := 22) (own := RX8) (v := (-1000000)) dX8_latestArrival_22 rfl lk_X8_342 ?_
  refine j_istore (pc := 25) (lv' := [(5, sI (-1000000)), (4, sI x5), (3, sR q1r), (0, sR t), (1, sI a0), (2, sI a1)]) dX8_latestArrival_25 (by decide) rfl ?_
  refine j_iconst (pc := 27) (v := 0) dX8_latestArrival_27 (by decide) ?_
  refine j_istore (pc := 28) (lv' := [(6, sI 0), (5, sI (-1000000)), (4, sI x5), (3, sR q1r), (0, sR t), (1, sI a0), (2, sI a1)]) dX8_latestArrival_28 (by decide) rfl ?_
  refine l_X8_latestArrival_30 hX z x5 q1r t a0 a1 _ (fun q11_0 q11_1 q11_g => ?_) z 0 (-1000000) q3g
  refine j_iload (pc := 82) 1 dX8_latestArrival_82 rfl ?_
  exact j_ireturn dX8_latestArrival_84 hX rfl rfl
/-! X8_earliestArrival -/
noncomputable def f_X8_earliestArrival_29_b (z : Nat) (p4 : Int32) (p3 : Option Nm) (p0 : Option Nm) (p1 : Int32) (p2 : Int32) (rec : Int32 → Int32 → Hp → Option (Int32 × Int32 × Hp)) (v6 : Int32) (v5 : Int32) (g : Hp) : Option (Int32 × Int32 × Hp) :=
  if 144 ≤ v6 then (some (v6, v5, g))
  else ((ick p3 1 (f_X0_has z p3 v6 g)).bind fun q6 =>
    if q6.1 = 0 then (rec (v6 + 1) v5 q6.2)
    else ((getR p3 1 0 q6.2).bind fun x7 =>
      (aldI x7 v6 q6.2).bind fun x8 =>
      (getR p0 9 0 q6.2).bind fun x9 =>
      (ick x9 8 (f_X7_between z x9 v6 p4 q6.2)).bind fun q10 =>
      rec (v6 + 1) (imin v5 (x8 + q10.1)) q10.2))
noncomputable def f_X8_earliestArrival_29_L (z : Nat) (p4 : Int32) (p3 : Option Nm) (p0 : Option Nm) (p1 : Int32) (p2 : Int32) : Nat → Int32 → Int32 → Hp → Option (Int32 × Int32 × Hp)
  | 0, _, _, _ => none
  | n + 1, v6, v5, g => f_X8_earliestArrival_29_b z p4 p3 p0 p1 p2 (f_X8_earliestArrival_29_L z p4 p3 p0 p1 p2 n) v6 v5 g
noncomputable def f_X8_earliestArrival (z : Nat) (t : Option Nm) (a0 : Int32) (a1 : Int32) (g : Hp) : Option (Int32 × Hp) :=
  (ick t 9 (f_X8_heapOf z t a1 g)).bind fun q1 =>
  (getR t 9 2 q1.2).bind fun x2 =>
  (ick x2 0 (f_Jx4a65c_get_915e3 z x2 a0 q1.2)).bind fun q3 =>
  (ckc q3.1 7).bind fun _ =>
  (getI q3.1 7 0 q3.2).bind fun x5 =>
  (f_X8_earliestArrival_29_L z x5 q1.1 t a0 a1 z 0 1000000 q3.2).bind fun q11 =>
  some (q11.2.1, q11.2.2)
set_option maxRecDepth 20000 in
theorem b_X8_earliestArrival_29 {X : Xt Int32} (hX : IsM rtI X) (z : Nat) (p4 : Int32) (p3 : Option Nm) (p0 : Option Nm) (p1 : Int32) (p2 : Int32) (rec : Int32 → Int32 → Hp → Option (Int32 × Int32 × Hp)) (K : Int32 × Int32 × Hp → Option (Int32 × Hp)) (he : ∀ (v6 : Int32) (v5 : Int32) (g : Hp), J yX8_earliestArrival cX8_earliestArrival 7 (some .int) 5 112 X g 81 [(6, sI v6), (5, sI v5), (4, sI p4), (3, sR p3), (0, sR p0), (1, sI p1), (2, sI p2)] [] (K (v6, v5, g))) (hr : ∀ (v6 : Int32) (v5 : Int32) (g : Hp), J yX8_earliestArrival cX8_earliestArrival 7 (some .int) 5 112 X g 29 [(6, sI v6), (5, sI v5), (4, sI p4), (3, sR p3), (0, sR p0), (1, sI p1), (2, sI p2)] [] ((rec v6 v5 g).bind K)) (v6 : Int32) (v5 : Int32) (g : Hp) : J yX8_earliestArrival cX8_earliestArrival 7 (some .int) 5 112 X g 29 [(6, sI v6), (5, sI v5), (4, sI p4), (3, sR p3), (0, sR p0), (1, sI p1), (2, sI p2)] [] ((f_X8_earliestArrival_29_b z p4 p3 p0 p1 p2 rec v6 v5 g).bind K) := by
  unfold f_X8_earliestArrival_29_b
  refine j_iload (pc := 29) 0 dX8_earliestArrival_29 rfl ?_
  refine j_sipush (pc := 31) (v := 144) dX8_earliestArrival_31 (by decide) ?_
  refine j_icmp_ge (pc := 34) (tgt := 81) dX8_earliestArrival_34 (by decide) bi (fun hc => ?_) (fun hc => ?_)
  · exact he v6 v5 g
  · refine j_aload_n (pc := 37) 3 dX8_earliestArrival_37 rfl rfl ?_
    refine j_iload (pc := 38) 0 dX8_earliestArrival_38 rfl ?_
    refine j_callV (pc := 40) (own := RX8) [sI v6] [] dX8_earliestArrival_40 lc_X8_213 lv_X0_has rfl (m_X0_has z p3 v6 g) ⟨⟨Nat.le_of_ble_eq_true rfl, Nat.le_of_ble_eq_true rfl⟩, Nat.le_of_ble_eq_true rfl⟩ rfl bb (fun q6r q6g => ?_)
    refine j_if_ne (pc := 43) (tgt := 49) dX8_earliestArrival_43 (by decide) bi (fun hc => ?_) (fun hc => ?_)
    · refine j_iload (pc := 49) 1 dX8_earliestArrival_49 rfl ?_
      refine j_aload_n (pc := 51) 3 dX8_earliestArrival_51 rfl rfl ?_
      refine j_getR (pc := 52) (own := RX8) dX8_earliestArrival_52 lf_X8_218 rfl bb (fun x7 => ?_)
      refine j_iload (pc := 55) 0 dX8_earliestArrival_55 rfl ?_
      refine j_aldI (pc := 57) dX8_earliestArrival_57 bb (fun x8 => ?_)
      refine j_aload_n (pc := 58) 4 dX8_earliestArrival_58 rfl rfl ?_
      refine j_getR (pc := 59) (own := RX8) dX8_earliestArrival_59 lf_X8_14 rfl bb (fun x9 => ?_)
      refine j_iload (pc := 62) 0 dX8_earliestArrival_62 rfl ?_
      refine j_iload (pc := 64) 2 dX8_earliestArrival_64 rfl ?_
      refine j_callV (pc := 66) (own := RX8) [sI v6, sI p4] [sI x8, sI v5] dX8_earliestArrival_66 lc_X8_98 lv_X7_between rfl (m_X7_between z x9 v6 p4 q6g) ⟨⟨Nat.le_of_ble_eq_true rfl, Nat.le_of_ble_eq_true rfl⟩, Nat.le_of_ble_eq_true rfl⟩ rfl bb (fun q10r q10g => ?_)
      refine j_iadd (pc := 69) dX8_earliestArrival_69 ?_
      refine j_min (pc := 70) (own := RX8) dX8_earliestArrival_70 lM_X8_339 rfl ⟨Nat.le_of_ble_eq_true rfl, Nat.le_of_ble_eq_true rfl⟩ ?_
      refine j_istore (pc := 73) (lv' := [(5, sI (imin v5 (x8 + q10r))), (6, sI v6), (4, sI p4), (3, sR p3), (0, sR p0), (1, sI p1), (2, sI p2)]) dX8_earliestArrival_73 (by decide) rfl ?_
      refine j_iinc (pc := 75) (v := (v6 + 1)) (lv' := [(6, sI (v6 + 1)), (5, sI (imin v5 (x8 + q10r))), (4, sI p4), (3, sR p3), (0, sR p0), (1, sI p1), (2, sI p2)]) 1 dX8_earliestArrival_75 rfl rfl (by decide) rfl ?_
      refine j_goto (pc := 78) (tgt := 29) dX8_earliestArrival_78 (by decide) ?_
      exact hr (v6 + 1) (imin v5 (x8 + q10r)) q10g
    · refine j_goto (pc := 46) (tgt := 75) dX8_earliestArrival_46 (by decide) ?_
      refine j_iinc (pc := 75) (v := (v6 + 1)) (lv' := [(6, sI (v6 + 1)), (5, sI v5), (4, sI p4), (3, sR p3), (0, sR p0), (1, sI p1), (2, sI p2)]) 0 dX8_earliestArrival_75 rfl rfl (by decide) rfl ?_
      refine j_goto (pc := 78) (tgt := 29) dX8_earliestArrival_78 (by decide) ?_
      exact hr (v6 + 1) v5 q6g
set_option maxRecDepth 20000 in
theorem l_X8_earliestArrival_29 {X : Xt Int32} (hX : IsM rtI X) (z : Nat) (p4 : Int32) (p3 : Option Nm) (p0 : Option Nm) (p1 : Int32) (p2 : Int32) (K : Int32 × Int32 × Hp → Option (Int32 × Hp)) (he : ∀ (v6 : Int32) (v5 : Int32) (g : Hp), J yX8_earliestArrival cX8_earliestArrival 7 (some .int) 5 112 X g 81 [(6, sI v6), (5, sI v5), (4, sI p4), (3, sR p3), (0, sR p0), (1, sI p1), (2, sI p2)] [] (K (v6, v5, g))) : ∀ (n : Nat) (v6 : Int32) (v5 : Int32) (g : Hp), J yX8_earliestArrival cX8_earliestArrival 7 (some .int) 5 112 X g 29 [(6, sI v6), (5, sI v5), (4, sI p4), (3, sR p3), (0, sR p0), (1, sI p1), (2, sI p2)] [] ((f_X8_earliestArrival_29_L z p4 p3 p0 p1 p2 n v6 v5 g).bind K)
  | 0, _, _, _ => J.eq rfl J.none
  | n + 1, v6, v5, g => b_X8_earliestArrival_29 hX z p4 p3 p0 p1 p2 _ K he (fun v6 v5 g => l_X8_earliestArrival_29 hX z p4 p3 p0 p1 p2 K he n v6 v5 g) v6 v5 g
set_option maxRecDepth 20000 in
theorem m_X8_earliestArrival (z : Nat) (t : Option Nm) (a0 : Int32) (a1 : Int32) (g : Hp) : FM yX8_earliestArrival cX8_earliestArrival 7 (some .int) 5 112 rtI [sR t, sI a0, sI a1] g (f_X8_earliestArrival z t a0 a1 g) := by
  refine FM.entry (by decide +kernel) (Nat.le_of_ble_eq_true rfl) (fun X hX => ?_)
  unfold f_X8_earliestArrival
  show J yX8_earliestArrival cX8_earliestArrival 7 (some .int) 5 112 X g 0 [(0, sR t), (1, sI a0), (2, sI a1)] [] _
  refine j_aload_n (pc := 0) 0 dX8_earliestArrival_0 rfl rfl ?_
  refine j_iload_n (pc := 1) 2 dX8_earliestArrival_1 rfl rfl ?_
  refine j_callV (pc := 2) (own := RX8) [sI a1] [] dX8_earliestArrival_2 lc_X8_194 lv_X8_heapOf rfl (m_X8_heapOf z t a1 g) ⟨⟨Nat.le_of_ble_eq_true rfl, Nat.le_of_ble_eq_true rfl⟩, Nat.le_of_ble_eq_true rfl⟩ rfl rfl (fun q1r q1g => ?_)
  refine j_astore_n (pc := 5) (lv' := [(3, sR q1r), (0, sR t), (1, sI a0), (2, sI a1)]) dX8_earliestArrival_5 rfl (by decide) rfl ?_
  refine j_aload_n (pc := 6) 1 dX8_earliestArrival_6 rfl rfl ?_
  refine j_getR (pc := 7) (own := RX8) dX8_earliestArrival_7 lf_X8_25 rfl rfl (fun x2 => ?_)
  refine j_iload_n (pc := 10) 2 dX8_earliestArrival_10 rfl rfl ?_
  refine j_callV (pc := 11) (own := RX8) [sI a0] [] dX8_earliestArrival_11 lc_X8_87 lv_Jx4a65c_get_915e3 rfl (m_Jx4a65c_get_915e3 z x2 a0 q1g) ⟨⟨Nat.le_of_ble_eq_true rfl, Nat.le_of_ble_eq_true rfl⟩, Nat.le_of_ble_eq_true rfl⟩ rfl rfl (fun q3r q3g => ?_)
  refine b_cst (pc := 14) (own := RX8) (c := 7) dX8_earliestArrival_14 rfl (by decide) lq_X8_81 rfl ?_
  refine j_getI (pc := 17) (own := RX8) dX8_earliestArrival_17 lf_X8_335 rfl rfl (fun x5 => ?_)
  refine j_istore (pc := 20) (lv' := [(4, sI x5), (3, sR q1r), (0, sR t), (1, sI a0), (2, sI a1)]) dX8_earliestArrival_20 (by decide) rfl ?_
  refine j_ldc (pc := 22) (own := RX8) (v := 1000000) dX8_earliestArrival_22 rfl lk_X8_149 ?_
  refine j_istore (pc := 24) (lv' := [(5, sI 1000000), (4, sI x5), (3, sR q1r), (0, sR t), (1, sI a0), (2, sI a1)]) dX8_earliestArrival_24 (by decide) rfl ?_
  refine j_iconst (pc := 26) (v := 0) dX8_earliestArrival_26 (by decide) ?_
  refine j_istore (pc := 27) (lv' := [(6, sI 0), (5, sI 1000000), (4, sI x5), (3, sR q1r), (0, sR t), (1, sI a0), (2, sI a1)]) dX8_earliestArrival_27 (by decide) rfl ?_
  refine l_X8_earliestArrival_29 hX z x5 q1r t a0 a1 _ (fun q11_0 q11_1 q11_g => ?_) z 0 1000000 q3g
  refine j_iload (pc := 81) 1 dX8_earliestArrival_81 rfl ?_
  exact j_ireturn dX8_earliestArrival_83 hX rfl rfl
/-! X8_late -/
noncomputable def f_X8_late (z : Nat) (t : Option Nm) (a0 : Int32) (a1 : Int32) (g : Hp) : Option (Int32 × Hp) :=
  (ick t 9 (f_X8_isTown z t a0 g)).bind fun q1 =>
  if q1.1 = 0 then (some ((-1), q1.2))
  else ((ick t 9 (f_X8_isQuake z t a1 q1.2)).bind fun q2 =>
    if q2.1 = 0 then (some ((-1), q2.2))
    else ((ick t 9 (f_X8_isOver z t a1 q2.2)).bind fun q3 =>
      if q3.1 = 0 then ((ick t 9 (f_X8_latestArrival z t a0 a1 q3.2)).bind fun q4 =>
        (getI t 9 10 q4.2).bind fun x5 =>
        if x5 < q4.1 then ((ick t 9 (f_X8_earliestArrival z t a0 a1 q4.2)).bind fun q6 =>
          (getI t 9 10 q6.2).bind fun x7 =>
          if q6.1 ≤ x7 then (some (0, q6.2))
          else (some (2, q6.2)))
        else (some (1, q4.2)))
      else (some ((-9), q3.2))))
set_option maxRecDepth 20000 in
theorem m_X8_late (z : Nat) (t : Option Nm) (a0 : Int32) (a1 : Int32) (g : Hp) : FM yX8_late cX8_late 3 (some .int) 6 138 rtI [sR t, sI a0, sI a1] g (f_X8_late z t a0 a1 g) := by
  refine FM.entry (by decide +kernel) (Nat.le_of_ble_eq_true rfl) (fun X hX => ?_)
  unfold f_X8_late
  show J yX8_late cX8_late 3 (some .int) 6 138 X g 0 [(0, sR t), (1, sI a0), (2, sI a1)] [] _
  refine j_aload_n (pc := 0) 0 dX8_late_0 rfl rfl ?_
  refine j_iload_n (pc := 1) 1 dX8_late_1 rfl rfl ?_
  refine j_callV (pc := 2) (own := RX8) [sI a0] [] dX8_late_2 lc_X8_221 lv_X8_isTown rfl (m_X8_isTown z t a0 g) ⟨⟨Nat.le_of_ble_eq_true rfl, Nat.le_of_ble_eq_true rfl⟩, Nat.le_of_ble_eq_true rfl⟩ rfl rfl (fun q1r q1g => ?_)
  refine j_if_eq (pc := 5) (tgt := 16) dX8_late_5 (by decide) rfl (fun hc => ?_) (fun hc => ?_)
  · refine j_iconst (pc := 16) (v := (-1)) dX8_late_16 (by decide) ?_
    exact j_ireturn dX8_late_17 hX rfl rfl
  · refine j_aload_n (pc := 8) 0 dX8_late_8 rfl rfl ?_
    refine j_iload_n (pc := 9) 2 dX8_late_9 rfl rfl ?_
    refine j_callV (pc := 10) (own := RX8) [sI a1] [] dX8_late_10 lc_X8_188 lv_X8_isQuake rfl (m_X8_isQuake z t a1 q1g) ⟨⟨Nat.le_of_ble_eq_true rfl, Nat.le_of_ble_eq_true rfl⟩, Nat.le_of_ble_eq_true rfl⟩ rfl rfl (fun q2r q2g => ?_)
    refine j_if_ne (pc := 13) (tgt := 18) dX8_late_13 (by decide) rfl (fun hc => ?_) (fun hc => ?_)
    · refine j_aload_n (pc := 18) 0 dX8_late_18 rfl rfl ?_
      refine j_iload_n (pc := 19) 2 dX8_late_19 rfl rfl ?_
      refine j_callV (pc := 20) (own := RX8) [sI a1] [] dX8_late_20 lc_X8_207 lv_X8_isOver rfl (m_X8_isOver z t a1 q2g) ⟨⟨Nat.le_of_ble_eq_true rfl, Nat.le_of_ble_eq_true rfl⟩, Nat.le_of_ble_eq_true rfl⟩ rfl rfl (fun q3r q3g => ?_)
      refine j_if_eq (pc := 23) (tgt := 29) dX8_late_23 (by decide) rfl (fun hc => ?_) (fun hc => ?_)
      · refine j_aload_n (pc := 29) 0 dX8_late_29 rfl rfl ?_
        refine j_iload_n (pc := 30) 1 dX8_late_30 rfl rfl ?_
        refine j_iload_n (pc := 31) 2 dX8_late_31 rfl rfl ?_
        refine j_callV (pc := 32) (own := RX8) [sI a0, sI a1] [] dX8_late_32 lc_X8_255 lv_X8_latestArrival rfl (m_X8_latestArrival z t a0 a1 q3g) ⟨⟨Nat.le_of_ble_eq_true rfl, Nat.le_of_ble_eq_true rfl⟩, Nat.le_of_ble_eq_true rfl⟩ rfl rfl (fun q4r q4g => ?_)
        refine j_aload_n (pc := 35) 0 dX8_late_35 rfl rfl ?_
        refine j_getI (pc := 36) (own := RX8) dX8_late_36 lf_X8_103 rfl rfl (fun x5 => ?_)
        refine j_icmp_gt (pc := 39) (tgt := 44) dX8_late_39 (by decide) rfl (fun hc => ?_) (fun hc => ?_)
        · refine j_aload_n (pc := 44) 0 dX8_late_44 rfl rfl ?_
          refine j_iload_n (pc := 45) 1 dX8_late_45 rfl rfl ?_
          refine j_iload_n (pc := 46) 2 dX8_late_46 rfl rfl ?_
          refine j_callV (pc := 47) (own := RX8) [sI a0, sI a1] [] dX8_late_47 lc_X8_258 lv_X8_earliestArrival rfl (m_X8_earliestArrival z t a0 a1 q4g) ⟨⟨Nat.le_of_ble_eq_true rfl, Nat.le_of_ble_eq_true rfl⟩, Nat.le_of_ble_eq_true rfl⟩ rfl rfl (fun q6r q6g => ?_)
          refine j_aload_n (pc := 50) 0 dX8_late_50 rfl rfl ?_
          refine j_getI (pc := 51) (own := RX8) dX8_late_51 lf_X8_103 rfl rfl (fun x7 => ?_)
          refine j_icmp_le (pc := 54) (tgt := 61) dX8_late_54 (by decide) rfl (fun hc => ?_) (fun hc => ?_)
          · refine j_iconst (pc := 61) (v := 0) dX8_late_61 (by decide) ?_
            exact j_ireturn dX8_late_62 hX rfl rfl
          · refine j_iconst (pc := 57) (v := 2) dX8_late_57 (by decide) ?_
            refine j_goto (pc := 58) (tgt := 62) dX8_late_58 (by decide) ?_
            exact j_ireturn dX8_late_62 hX rfl rfl
        · refine j_iconst (pc := 42) (v := 1) dX8_late_42 (by decide) ?_
          exact j_ireturn dX8_late_43 hX rfl rfl
      · refine j_bipush (pc := 26) (v := (-9)) dX8_late_26 (by decide) ?_
        exact j_ireturn dX8_late_28 hX rfl rfl
    · refine j_iconst (pc := 16) (v := (-1)) dX8_late_16 (by decide) ?_
      exact j_ireturn dX8_late_17 hX rfl rfl
/-! X8_left -/
noncomputable def f_X8_left (z : Nat) (t : Option Nm) (a0 : Int32) (a1 : Int32) (g : Hp) : Option (Int32 × Hp) :=
  (ick t 9 (f_X8_isTown z t a0 g)).bind fun q1 =>
  if q1.1 = 0 then (some ((-1), q1.2))
  else ((ick t 9 (f_X8_isQuake z t a1 q1.2)).bind fun q2 =>
    if q2.1 = 0 then (some ((-1), q2.2))
    else ((ick t 9 (f_X8_isOver z t a1 q2.2)).bind fun q3 =>
      if q3.1 = 0 then ((ick t 9 (f_X8_earliestArrival z t a0 a1 q3.2)).bind fun q4 =>
        (getI t 9 10 q4.2).bind fun x5 =>
        some ((imax 0 (q4.1 - x5)), q4.2))
      else (some ((-9), q3.2))))
set_option maxRecDepth 20000 in
theorem m_X8_left (z : Nat) (t : Option Nm) (a0 : Int32) (a1 : Int32) (g : Hp) : FM yX8_left cX8_left 3 (some .int) 6 138 rtI [sR t, sI a0, sI a1] g (f_X8_left z t a0 a1 g) := by
  refine FM.entry (by decide +kernel) (Nat.le_of_ble_eq_true rfl) (fun X hX => ?_)
  unfold f_X8_left
  show J yX8_left cX8_left 3 (some .int) 6 138 X g 0 [(0, sR t), (1, sI a0), (2, sI a1)] [] _
  refine j_aload_n (pc := 0) 0 dX8_left_0 rfl rfl ?_
  refine j_iload_n (pc := 1) 1 dX8_left_1 rfl rfl ?_
  refine j_callV (pc := 2) (own := RX8) [sI a0] [] dX8_left_2 lc_X8_221 lv_X8_isTown rfl (m_X8_isTown z t a0 g) ⟨⟨Nat.le_of_ble_eq_true rfl, Nat.le_of_ble_eq_true rfl⟩, Nat.le_of_ble_eq_true rfl⟩ rfl rfl (fun q1r q1g => ?_)
  refine j_if_eq (pc := 5) (tgt := 16) dX8_left_5 (by decide) rfl (fun hc => ?_) (fun hc => ?_)
  · refine j_iconst (pc := 16) (v := (-1)) dX8_left_16 (by decide) ?_
    exact j_ireturn dX8_left_17 hX rfl rfl
  · refine j_aload_n (pc := 8) 0 dX8_left_8 rfl rfl ?_
    refine j_iload_n (pc := 9) 2 dX8_left_9 rfl rfl ?_
    refine j_callV (pc := 10) (own := RX8) [sI a1] [] dX8_left_10 lc_X8_188 lv_X8_isQuake rfl (m_X8_isQuake z t a1 q1g) ⟨⟨Nat.le_of_ble_eq_true rfl, Nat.le_of_ble_eq_true rfl⟩, Nat.le_of_ble_eq_true rfl⟩ rfl rfl (fun q2r q2g => ?_)
    refine j_if_ne (pc := 13) (tgt := 18) dX8_left_13 (by decide) rfl (fun hc => ?_) (fun hc => ?_)
    · refine j_aload_n (pc := 18) 0 dX8_left_18 rfl rfl ?_
      refine j_iload_n (pc := 19) 2 dX8_left_19 rfl rfl ?_
      refine j_callV (pc := 20) (own := RX8) [sI a1] [] dX8_left_20 lc_X8_207 lv_X8_isOver rfl (m_X8_isOver z t a1 q2g) ⟨⟨Nat.le_of_ble_eq_true rfl, Nat.le_of_ble_eq_true rfl⟩, Nat.le_of_ble_eq_true rfl⟩ rfl rfl (fun q3r q3g => ?_)
      refine j_if_eq (pc := 23) (tgt := 29) dX8_left_23 (by decide) rfl (fun hc => ?_) (fun hc => ?_)
      · refine j_iconst (pc := 29) (v := 0) dX8_left_29 (by decide) ?_
        refine j_aload_n (pc := 30) 0 dX8_left_30 rfl rfl ?_
        refine j_iload_n (pc := 31) 1 dX8_left_31 rfl rfl ?_
        refine j_iload_n (pc := 32) 2 dX8_left_32 rfl rfl ?_
        refine j_callV (pc := 33) (own := RX8) [sI a0, sI a1] [sI 0] dX8_left_33 lc_X8_258 lv_X8_earliestArrival rfl (m_X8_earliestArrival z t a0 a1 q3g) ⟨⟨Nat.le_of_ble_eq_true rfl, Nat.le_of_ble_eq_true rfl⟩, Nat.le_of_ble_eq_true rfl⟩ rfl rfl (fun q4r q4g => ?_)
        refine j_aload_n (pc := 36) 0 dX8_left_36 rfl rfl ?_
        refine j_getI (pc := 37) (own := RX8) dX8_left_37 lf_X8_103 rfl rfl (fun x5 => ?_)
        refine j_isub (pc := 40) dX8_left_40 ?_
        refine j_max (pc := 41) (own := RX8) dX8_left_41 lM_X8_261 rfl ⟨Nat.le_of_ble_eq_true rfl, Nat.le_of_ble_eq_true rfl⟩ ?_
        exact j_ireturn dX8_left_44 hX rfl rfl
      · refine j_bipush (pc := 26) (v := (-9)) dX8_left_26 (by decide) ?_
        exact j_ireturn dX8_left_28 hX rfl rfl
    · refine j_iconst (pc := 16) (v := (-1)) dX8_left_16 (by decide) ?_
      exact j_ireturn dX8_left_17 hX rfl rfl
/-! X8_count -/
noncomputable def f_X8_count (z : Nat) (t : Option Nm) (a0 : Int32) (g : Hp) : Option (Int32 × Hp) :=
  tsw a0 [0, 1, 2, 3, 4, 5] [
    ((getR t 9 1 g).bind fun x1 =>
      (ick x1 0 (f_Jx4a65c_size_8abf5 z x1 g)).bind fun q2 =>
      some (q2.1, q2.2)),
    ((getR t 9 2 g).bind fun x3 =>
      (ick x3 0 (f_Jx4a65c_size_8abf5 z x3 g)).bind fun q4 =>
      some (q4.1, q4.2)),
    ((getR t 9 3 g).bind fun x5 =>
      (ick x5 0 (f_Jx4a65c_size_8abf5 z x5 g)).bind fun q6 =>
      some (q6.1, q6.2)),
    ((getR t 9 4 g).bind fun x7 =>
      (ick x7 0 (f_Jx4a65c_size_8abf5 z x7 g)).bind fun q8 =>
      some (q8.1, q8.2)),
    ((getI t 9 12 g).bind fun x9 =>
      some (x9, g)),
    ((getI t 9 10 g).bind fun x10 =>
      some (x10, g))]
    (some ((-1), g))
set_option maxRecDepth 20000 in
theorem m_X8_count (z : Nat) (t : Option Nm) (a0 : Int32) (g : Hp) : FM yX8_count cX8_count 2 (some .int) 1 20 rtI [sR t, sI a0] g (f_X8_count z t a0 g) := by
  refine FM.entry (by decide +kernel) (Nat.le_of_ble_eq_true rfl) (fun X hX => ?_)
  unfold f_X8_count
  show J yX8_count cX8_count 2 (some .int) 1 20 X g 0 [(0, sR t), (1, sI a0)] [] _
  refine j_iload_n (pc := 0) 1 dX8_count_0 rfl rfl ?_
  refine j_tsw (ts := [40, 48, 56, 64, 72, 77]) (td := 82) dX8_count_1 (by decide) (by decide) (by decide) (by decide) (by decide) rfl ?_ ⟨?_, ?_, ?_, ?_, ?_, ?_, trivial⟩
  · refine j_iconst (pc := 82) (v := (-1)) dX8_count_82 (by decide) ?_
    exact j_ireturn dX8_count_83 hX rfl rfl
  · refine j_aload_n (pc := 40) 0 dX8_count_40 rfl rfl ?_
    refine j_getR (pc := 41) (own := RX8) dX8_count_41 lf_X8_21 rfl rfl (fun x1 => ?_)
    refine j_callV (pc := 44) (own := RX8) [] [] dX8_count_44 lc_X8_70 lv_Jx4a65c_size_8abf5 rfl (m_Jx4a65c_size_8abf5 z x1 g) ⟨⟨Nat.le_of_ble_eq_true rfl, Nat.le_of_ble_eq_true rfl⟩, Nat.le_of_ble_eq_true rfl⟩ rfl rfl (fun q2r q2g => ?_)
    exact j_ireturn dX8_count_47 hX rfl rfl
  · refine j_aload_n (pc := 48) 0 dX8_count_48 rfl rfl ?_
    refine j_getR (pc := 49) (own := RX8) dX8_count_49 lf_X8_25 rfl rfl (fun x3 => ?_)
    refine j_callV (pc := 52) (own := RX8) [] [] dX8_count_52 lc_X8_70 lv_Jx4a65c_size_8abf5 rfl (m_Jx4a65c_size_8abf5 z x3 g) ⟨⟨Nat.le_of_ble_eq_true rfl, Nat.le_of_ble_eq_true rfl⟩, Nat.le_of_ble_eq_true rfl⟩ rfl rfl (fun q4r q4g => ?_)
    exact j_ireturn dX8_count_55 hX rfl rfl
  · refine j_aload_n (pc := 56) 0 dX8_count_56 rfl rfl ?_
    refine j_getR (pc := 57) (own := RX8) dX8_count_57 lf_X8_28 rfl rfl (fun x5 => ?_)
    refine j_callV (pc := 60) (own := RX8) [] [] dX8_count_60 lc_X8_70 lv_Jx4a65c_size_8abf5 rfl (m_Jx4a65c_size_8abf5 z x5 g) ⟨⟨Nat.le_of_ble_eq_true rfl, Nat.le_of_ble_eq_true rfl⟩, Nat.le_of_ble_eq_true rfl⟩ rfl rfl (fun q6r q6g => ?_)
    exact j_ireturn dX8_count_63 hX rfl rfl
  · refine j_aload_n (pc := 64) 0 dX8_count_64 rfl rfl ?_
    refine j_getR (pc := 65) (own := RX8) dX8_count_65 lf_X8_31 rfl rfl (fun x7 => ?_)
    refine j_callV (pc := 68) (own := RX8) [] [] dX8_count_68 lc_X8_70 lv_Jx4a65c_size_8abf5 rfl (m_Jx4a65c_size_8abf5 z x7 g) ⟨⟨Nat.le_of_ble_eq_true rfl, Nat.le_of_ble_eq_true rfl⟩, Nat.le_of_ble_eq_true rfl⟩ rfl rfl (fun q8r q8g => ?_)
    exact j_ireturn dX8_count_71 hX rfl rfl
  · refine j_aload_n (pc := 72) 0 dX8_count_72 rfl rfl ?_
    refine j_getI (pc := 73) (own := RX8) dX8_count_73 lf_X8_233 rfl rfl (fun x9 => ?_)
    exact j_ireturn dX8_count_76 hX rfl rfl
  · refine j_aload_n (pc := 77) 0 dX8_count_77 rfl rfl ?_
    refine j_getI (pc := 78) (own := RX8) dX8_count_78 lf_X8_103 rfl rfl (fun x10 => ?_)
    exact j_ireturn dX8_count_81 hX rfl rfl
end
section
def R_law : String := "FirstSecondsLaw"
def lw_P (b : Addr) (xs : List Int32) (args : Array Value) (s : State) : Prop := args = #[.ref b] ∧ s.IntsAt b xs ∧ xs.length ≤ 260 ∧ (Jvm.Cond.and given_1 narrow_1).before args s = true
def lw_Q (_ : Array Value) (s : State) (o : Outcome) (t : State) : Prop := o = .returned (some (.int 1)) ∧ Framed s o t [] 600000 7302250
def lw_Z (below : List Frame) (a : Array Value) (s : State) : State → Prop := fun t => ∃ o, t.status = .running ∧ Ended t below o ∧ lw_Q a s o t
/-- the law's own end, with 1 on the stack, nothing written that was there before, its room as the claim has it -/
theorem lw_ret {p : Program} {l : Launch} {e : Env} {s : State} {m : MethodId} {below : List Frame} {meth : Method} {c : Code} {b : Nat} (hx : p.tables.exec = Jvm.exec) (hb : c.code = code) (hr : meth.sig.returnType = ret) (hlocks : meth.locks = false) {pc : Nat} {H : Heap} {ls : Array Slot} (hdg : decode code pc = .ok (.ireturn, 1)) : W p l e room_1 s m #[Value.ref b] below meth c H [] 600000 7302250 (lw_Z below #[Value.ref b] s) (F0 m pc ls [.int 1]) := by
  intro T hT X
  obtain ⟨fs, hret, hrun, hended, hW, hframe⟩ := X.leave (v := some (.int 1)) (hlocks := hlocks) (fun h => by rw [hr] at h; cases h)
  have hmeth' : T.vm.method? m = some meth := X.method'
  refine ⟨T.setFrames fs, ?_, .returned (some (.int 1)), hrun, hended, rfl, ⟨_, rfl⟩, hW, hframe⟩
  jvm_step X.here [X.here.top, hx, hb, hdg, hmeth', hr, ret, narrow_b1]
  (try refine ⟨rfl, ?_⟩); (try refine ⟨rfl, ?_⟩)
  first | (intro acts; rw [hret _ acts rfl rfl rfl]) | rw [hret _ _ rfl rfl rfl]
  exact Steps.refl _
/-- what holds at the law's entry: the machine, the code, the tables' words (any of lw_tbl by 'hts w (by decide +kernel)'), the script of L ints xs at the cell b, what the Statement gives of the start (any of its parts by flat_of_before) -/
def lw_At (p : Program) (s : State) (m : MethodId) (meth : Method) (c : Code) (b L : Nat) (xs : Nat → Int32) : Prop :=
  p.tables.exec = Jvm.exec ∧ c.code = code ∧ meth.sig.returnType = ret ∧ c.maxLocals = 17 ∧ s.vm.findClass R_law = some m.cls ∧ (∀ w ∈ lw_tbl, w.before #[Value.ref b] s = true) ∧ va_X b L xs s s.heap ∧ b < s.heap.size ∧ meth.locks = false ∧ (Jvm.Cond.and given_1 narrow_1).before #[Value.ref b] s = true
/-! the law's own reads and end -/
noncomputable def aldS (r : Option Nm) (i : Int32) (L : Nat) (xs : Nat → Int32) : Option Int32 := by
  classical exact if r = some (18, 0) ∧ vp_in i L then some (xs i.toNatClampNeg) else none
def alnS (r : Option Nm) (L : Nat) : Option Int32 := if r = some (18, 0) then some (Int32.ofNat L) else none
def IsL (X : Xt Int32) (L : Nat) (xs : Nat → Int32) : Prop := match X with
  | ((_, _, _, s, _, args, below, _, _), (_, _, A), ad0, _, RF, QF) => args = #[Value.ref (ad0 (18, 0))] ∧ (A = fun q : Nat => s.heap.size ≤ q) ∧ va_X (ad0 (18, 0)) L xs s s.heap ∧ ad0 (18, 0) < s.heap.size ∧ (∀ g, RF g = room_1) ∧ (∀ r g1, QF r g1 = fun t => r = 1 → lw_Z below #[Value.ref (ad0 (18, 0))] s t)
/-- the script stands where it stood, out of reach -/
def IsS {ρ : Type} (X : Xt ρ) (L : Nat) (xs : Nat → Int32) : Prop := match X with
  | ((_, _, _, s, _, _, _, _, _), (_, _, A), ad0, _, _, _) => va_X (ad0 (18, 0)) L xs s s.heap ∧ ad0 (18, 0) < s.heap.size ∧ ¬ A (ad0 (18, 0))
theorem IsL.s {X : Xt Int32} {L : Nat} {xs : Nat → Int32} (h : IsL X L xs) : IsS X L xs := by
  obtain ⟨⟨p, l, e, s, m, args, below, meth, c⟩, ⟨D, cs, A⟩, ad0, g0, RF, QF⟩ := X
  obtain ⟨q1, q2, q3, q4, q5, q6⟩ := h
  exact ⟨q3, q4, by rw [q2]; exact Nat.not_le.mpr q4⟩
section LRU
variable {y : MethodName} {nL : Nat} {rf rl : Nat} {X : Xt Int32} {L : Nat} {xs : Nat → Int32} {g : Hp} {pc : Nat} {lv lv' : List (Nat × SV)} {st : List SV} {pr pr2 : Option (Int32 × Hp)}
theorem j_aldS {cc : ByteArray} {rt : Option FieldType} {r : Option Nm} {i : Int32} {F : Int32 → Option (Int32 × Hp)} (hd : decode cc pc = .ok (.iaload, 1)) (hX : IsS X L xs) (hp : pr = (aldS r i L xs).bind F) (kk : ∀ x, J y cc nL rt rf rl X g (pc + 1) lv (sI x :: st) (F x)) : J y cc nL rt rf rl X g pc lv (sI i :: sR r :: st) pr := by
  subst hp
  by_cases hn : r = some (18, 0) ∧ vp_in i L
  · obtain ⟨rfl, hi⟩ := hn
    have e : (aldS (some (18, 0)) i L xs).bind F = F (xs i.toNatClampNeg) := by simp [aldS, hi]
    refine J.eq e ?_
    have k := kk (xs i.toNatClampNeg)
    obtain ⟨⟨p, l, e, s, m, args, below, meth, c⟩, ⟨D, cs, A⟩, ad0, g0, RF, QF⟩ := X
    intro r g' h
    obtain ⟨a, b⟩ := k r g' h
    obtain ⟨q3, q4, q5⟩ := hX
    refine ⟨a, fun hG hM hc ad H locs ls h1 h2 h3 h4 h5 h6 h7 h0 => ?_⟩
    obtain ⟨x1, x2, -⟩ := id hG
    have e18 : ad (18, 0) = ad0 (18, 0) := h1 _ (Or.inr (Or.inr (Or.inl rfl)))
    have K0 := b hG hM hc ad H locs ls h1 h2 h3 h4 h5 h6 (h7.tail.tail.ci (x := xs i.toNatClampNeg)) h0
    have e9 : stm ad (sI i :: sR (some (18, 0)) :: st) = .int i :: .ref (ad0 (18, 0)) :: stm ad st := by
      show Value.int i :: va_rf (some (ad (18, 0))) :: stm ad st = _
      rw [e18]; rfl
    rw [e9]
    exact va_sld x1 x2 q3 q4 q5 h4 hi hd K0
  · have e : (aldS r i L xs).bind F = none := by simp only [aldS, if_neg hn, Option.bind_none]
    exact J.eq e J.none
theorem j_alnS {cc : ByteArray} {rt : Option FieldType} {r : Option Nm} {F : Int32 → Option (Int32 × Hp)} (hd : decode cc pc = .ok (.arraylength, 1)) (hX : IsS X L xs) (hp : pr = (alnS r L).bind F) (kk : ∀ x, J y cc nL rt rf rl X g (pc + 1) lv (sI x :: st) (F x)) : J y cc nL rt rf rl X g pc lv (sR r :: st) pr := by
  subst hp
  by_cases hn : r = some (18, 0)
  · subst hn
    have e : (alnS (some (18, 0)) L).bind F = F (Int32.ofNat L) := by simp [alnS]
    refine J.eq e ?_
    have k := kk (Int32.ofNat L)
    obtain ⟨⟨p, l, e, s, m, args, below, meth, c⟩, ⟨D, cs, A⟩, ad0, g0, RF, QF⟩ := X
    intro r g' h
    obtain ⟨a, b⟩ := k r g' h
    obtain ⟨q3, q4, q5⟩ := hX
    refine ⟨a, fun hG hM hc ad H locs ls h1 h2 h3 h4 h5 h6 h7 h0 => ?_⟩
    obtain ⟨x1, x2, -⟩ := id hG
    have e18 : ad (18, 0) = ad0 (18, 0) := h1 _ (Or.inr (Or.inr (Or.inl rfl)))
    have K0 := b hG hM hc ad H locs ls h1 h2 h3 h4 h5 h6 (h7.tail.ci (x := Int32.ofNat L)) h0
    have e9 : stm ad (sR (some (18, 0)) :: st) = .ref (ad0 (18, 0)) :: stm ad st := by
      show va_rf (some (ad (18, 0))) :: stm ad st = _
      rw [e18]; rfl
    rw [e9]
    exact va_slen x1 x2 q3 q4 q5 h4 hd K0
  · have e : (alnS r L).bind F = none := by simp only [alnS, if_neg hn, Option.bind_none]
    exact J.eq e J.none
theorem j_lawret {x : Int32} (hd : decode code pc = .ok (.ireturn, 1)) (hX : IsL X L xs) (hp : pr = some (x, g)) : J y code nL ret rf rl X g pc lv (sI x :: []) pr := by
  obtain ⟨⟨p, l, e, s, m, args, below, meth, c⟩, ⟨D, cs, A⟩, ad0, g0, RF, QF⟩ := X
  intro r g' h
  rw [hp] at h
  cases h
  refine ⟨Mn.rf g, fun hG hM hc ad H locs ls h1 h2 h3 h4 h5 h6 h7 h0 => ?_⟩
  obtain ⟨x1, x2, x3, x4, x5, x6, x7, x8, x9, x10, x11, x12⟩ := id hG
  obtain ⟨rfl, q2, q3, q4, q5, q6⟩ := hX
  rw [q6]
  rw [q5] at hc ⊢
  by_cases h9 : x = 1
  · subst h9
    refine va_forget (fun q hq => by have := h4.2.2 q hq; rw [q2] at this; exact this) ?_
    refine W.widen (k := 600000) (n := 7302250) hc.1 hc.2 ?_
    intro T hT X0
    obtain ⟨t, k1, k2⟩ := lw_ret (b := ad0 (18, 0)) x1 x2 x5 x6 hd T hT X0
    exact ⟨t, k1, fun _ => k2⟩
  · intro T hT X0
    exact ⟨_, Steps.refl _, fun z => absurd z h9⟩
end LRU
/-! a method that reads the script -/
def PcS (D : va_G) (cs : ClassId × ClassId × ClassId) (ad : Nm → Nat) (g : Hp) (sz : Nat) (L : Nat) (xs : Nat → Int32) : State → Prop := fun U => PcF D cs ad g sz U ∧ va_X (ad (18, 0)) L xs U U.heap ∧ ad (18, 0) < U.heap.size ∧ ¬ va_A (wld cs ad g) sz (ad (18, 0))
def FMS {ρ : Type} (y : MethodName) (cc : ByteArray) (nL : Nat) (rt : Option FieldType) (rf rl : Nat) (ret : ρ → Option SV) (L : Nat) (xs : Nat → Int32) (as : List SV) (g : Hp) (pr : Option (ρ × Hp)) : Prop :=
  ∀ (r : ρ) (g1 : Hp), pr = some (r, g1) → Mn g g1 ∧ ∀ (l : Launch) (D : va_G) (cs : ClassId × ClassId × ClassId) (ad : Nm → Nat) (sz : Nat), oks g as → Cl g →
    Met l y [Cond.code y cc nL rt] { frames := rf, cells := gc g1 - gc g, slots := gs g1 - gs g, locals := rl } (va_Pc (stm ad as) (PcS D cs ad g sz L xs)) (QcF D cs ad g (va_A (wld cs ad g) sz) ret r g1) (gc g1 - gc g) (gs g1 - gs g) (va_A (wld cs ad g) sz)
theorem FMS.entry {ρ : Type} {y : MethodName} {cc : ByteArray} {nL : Nat} {rt : Option FieldType} {rf rl : Nat} {ret : ρ → Option SV} {L : Nat} {xs : Nat → Int32} {as : List SV} {g : Hp} {pr : Option (ρ × Hp)} (hy : plainName y.cls = true) (hn : (as.map sc).sum ≤ nL) (hmn : ∀ r g1, pr = some (r, g1) → Mn g g1) (hJ : ∀ X : Xt ρ, IsM ret X → IsS X L xs → J y cc nL rt rf rl X g 0 (lva 0 as) [] pr) : FMS y cc nL rt rf rl ret L xs as g pr := by
  intro r g1 h
  refine ⟨hmn r g1 h, fun l D cs ad sz hok hcl => ?_⟩
  refine Met.ofW (cc := cc) (maxL := nL) (ret := rt) hy rfl ?_
  intro p e s m args below meth c s₁ B hml hv
  obtain ⟨rfl, ⟨hsz, hP, hD0, hK, hTB, hE⟩, hX, hbl, hbA⟩ := hv
  subst hsz
  have hown : s.vm.findClass y.cls = some m.cls := findClass_of_methodNamed B.named
  have hl := lv_entry (stm ad as) (n := nL) (by rw [lg_len]; exact hn)
  rw [lg_entry_eq]
  generalize (lg_sl (stm ad as) ++ List.replicate (nL - (lg_sl (stm ad as)).length) Slot.unset).toArray = ls at hl ⊢
  rw [lva_lv] at hl
  let A := va_A (wld cs ad g) s.heap.size
  let RF : Hp → Room := fun g1 => { frames := rf, cells := gc g1 - gc g, slots := gs g1 - gs g, locals := rl }
  let QF : ρ → Hp → State → Prop := fun r g1 => MQ below (QcF D cs ad g A ret r g1) (stm ad as).toArray s (gc g1 - gc g) (gs g1 - gs g) A
  have hk := (hJ ((p, l, e, s, m, (stm ad as).toArray, below, meth, c), (D, cs, A), ad, g, RF, QF) (fun _ _ => rfl) ⟨hX, hbl, hbA⟩ r g1 h).2 ⟨B.exec, B.bytes, hml, hown, B.returns, B.notSynchronized, fun hq => (name_of_methodNamed B.named B.method).1.trans hq, hTB, hK, fun q hq => Or.inr hq, hE, fun _ => ⟨rfl, rfl⟩⟩ (Mn.rf g) ⟨Nat.le_refl _, Nat.le_refl _⟩ ad s.heap [] ls (fun _ _ => rfl) hP hD0.self va_S.rf hl (fun q hq => by
    have : ∀ (as : List SV) (i : Nat), oks g as → ∀ q ∈ lva i as, okv g q.2 := by
      intro as
      induction as with
      | nil => intro i _ q hq; cases hq
      | cons v vs ih => intro i ho q hq; rcases List.mem_cons.mp hq with e | e
                        · subst e; exact ho.head
                        · exact ih _ ho.tail q e
    exact this as 0 hok q hq) (fun v hv => by cases hv) hcl
  rw [Nat.sub_self, Nat.sub_self] at hk
  exact hk
section CSR
variable {ρ : Type} {y : MethodName} {cc : ByteArray} {nL : Nat} {rt : Option FieldType} {rf rl : Nat} {X : Xt ρ} {L : Nat} {xs : Nat → Int32} {g : Hp} {pc : Nat} {lv lv' : List (Nat × SV)} {st : List SV} {pr pr2 : Option (ρ × Hp)}
theorem J.callS {σ : Type} {y2 : MethodName} {cc2 : ByteArray} {nL2 : Nat} {rt2 : Option FieldType} {rf2 rl2 : Nat} {ret2 : σ → Option SV} {as rest : List SV} {P : Option (σ × Hp)} {F : σ × Hp → Option (ρ × Hp)}
    (hX : IsS X L xs) (hM : FMS y2 cc2 nL2 rt2 rf2 rl2 ret2 L xs as g P)
    (hrun : ∀ (p : Program) (l : Launch) (e : Env) (s : State) (m : MethodId) (args : Array Value) (below : List Frame) (meth : Method) (c : Code) (R : Room) (H : Heap) (locs : List Loc) (cells slots : Nat) (D : va_G) (cs : ClassId × ClassId × ClassId) (ad : Nm → Nat) (ls : Array Slot) (Pc : Array Value → State → Prop) (Qc : Array Value → State → Outcome → State → Prop) (mc ms : Nat) (free : Addr → Prop) (rm : Room),
      p.tables.exec = Jvm.exec → c.code = cc → ls.size = nL → c.maxLocals = nL → s.vm.findClass y.cls = some m.cls → TB s → va_K D vwCl (tyl cs) s → va_P D vwCl (wld cs ad g) H → oks g st →
      Met l y2 [Cond.code y2 cc2 nL2 rt2] rm Pc Qc mc ms free → rm.cells = mc ∧ rm.slots = ms → rm.frames + 1 ≤ R.frames ∧ 8 + (nL2 + 11) + rm.locals ≤ R.locals → FrameBlind Pc → (∀ U : State, U.heap = H → s.WarmedH U.vm → Pc (stm ad as).toArray U) → cells + mc ≤ R.cells ∧ slots + ms ≤ R.slots →
      va_Run p l e R s m args below meth c H locs cells slots mc ms (F0 m pc ls (stm ad st)) (stm ad rest) (Qc (stm ad as).toArray) free)
    (hroom : rf2 + 1 ≤ rf ∧ 8 + (nL2 + 11) + rl2 ≤ rl) (hp : pr = P.bind F) (hst : oks g st → oks g as ∧ oks g rest)
    (kk : ∀ r g1, J y cc nL rt rf rl X g1 (pc + 3) lv ((ret2 r).toList ++ rest) (F (r, g1))) : J y cc nL rt rf rl X g pc lv st pr := by
  subst hp
  cases P with
  | none => exact J.none
  | some q =>
    obtain ⟨r2, g1⟩ := q
    refine J.eq (show (some (r2, g1)).bind F = F (r2, g1) from rfl) ?_
    have hk := kk r2 g1
    obtain ⟨hmn, hmet⟩ := hM r2 g1 rfl
    obtain ⟨⟨p, l, e, s, m, args, below, meth, c⟩, ⟨D, cs, A⟩, ad0, g0, RF, QF⟩ := X
    obtain ⟨X1, X2, X3⟩ := hX
    have hM1 := hmn
    intro r g' h
    obtain ⟨a, b⟩ := hk r g' h
    have a' := hM1.tr a
    refine ⟨a', fun hG hM hc ad H locs ls h1 h2 h3 h4 h5 h6 h7 h0 => ?_⟩
    obtain ⟨x1, x2, x3, x4, x5, x6, x7, x8, x9, x10, x11, x12⟩ := id hG
    have hs := hst h7
    have e18 : ad (18, 0) = ad0 (18, 0) := h1 _ (Or.inr (Or.inr (Or.inl rfl)))
    have hE : EX ad A s s.heap := x11.ad (h1 _ (Or.inr (Or.inl rfl))) (h1 _ (Or.inr (Or.inr (Or.inr rfl))))
    have hfree := va_D.freeA (sz := H.size) h3 x10 h4.1
    have hmc : gc g - gc g0 + (gc g1 - gc g) ≤ (RF g').cells ∧ gs g - gs g0 + (gs g1 - gs g) ≤ (RF g').slots := by
      have c1 := hM.1; have c2 := hM.2.1; have c3 := hM1.1; have c4 := hM1.2.1; have c5 := a.1; have c6 := a.2.1; have c7 := hc.1; have c8 := hc.2
      constructor <;> omega
    have hrn := hrun p l e s m args below meth c (RF g') H locs (gc g - gc g0) (gs g - gs g0) D cs ad ls _ _ _ _ _ _ x1 x2 h5.1 x3 x4 x8 x9 h2 h7 (hmet l D cs ad H.size hs.1 h0) ⟨rfl, rfl⟩ (by rw [(x12 g').1, (x12 g').2]; exact hroom)
      (fun a2 U gg mk hq => by
        obtain ⟨q1, ⟨q2, q3, q4, q5, q6, q7⟩, q8, q9, q0⟩ := hq
        exact ⟨q1, ⟨q2, q3, q4, va_K.moved (u := U) (U := U.calling gg mk a2) (Vm.Alike.refl U.vm) q5, TB.warm (s := U) (U := U.calling gg mk a2) q6 (State.WarmedH.refl U), EX.moved (u := U) (U := U.calling gg mk a2) (Vm.Alike.refl U.vm) q7⟩, va_X.moved (u := U) (U := U.calling gg mk a2) (Vm.Alike.refl U.vm) q8, q9, q0⟩)
      (fun U hU hW => ⟨rfl, ⟨by rw [hU], by rw [hU]; exact h2, h3.weaken (fun _ _ _ _ => trivial), va_K.moved hW.alike x9, x8.warm hW, by
        rw [hU]
        exact ((hE.kept (H1 := H) (fun q hq hn => h4.2.1 q hq hn)).narrow hfree).moved hW.alike⟩, by
        rw [hU, e18]
        exact (X1.kept (H1 := H) (h4.2.1 _ X2 X3)).moved hW.alike, by
        rw [hU, e18]; exact Nat.lt_of_lt_of_le X2 h4.1, by
        rw [e18]; exact fun z => X3 (hfree _ z)⟩) hmc
    intro T hT X0
    obtain ⟨v, st₀, t, T', L, z0, X', hL, e1, e2, ⟨⟨ad1, hv, hok, hcl, hag, hP1, hD1⟩, hF⟩, stp⟩ := hrn T hT X0
    rw [← e1] at hP1
    have hmvm : s.vm.Alike T'.vm := X'.warmed.alike
    have hag0 : Ag g0 ad0 ad1 := fun w hw => by
      rw [hag w (hw.elim (fun z => Or.inl (hM.2.2 w z)) Or.inr)]
      exact h1 w hw
    have hS1 : va_S A s.heap T'.heap (locs ++ L) := by
      obtain ⟨f1, f2⟩ := hF
      rw [z0, ← e1] at f1
      refine ⟨Nat.le_trans h4.1 f1, fun q hq hn => ?_, fun q hq => ?_⟩
      · have f3 := f2 q (by rw [z0]; exact Nat.lt_of_lt_of_le hq h4.1) (fun z => hn (hfree q z))
        rw [z0, ← e1] at f3
        rw [f3]
        exact h4.2.1 q hq hn
      · rcases List.mem_append.mp hq with h8 | h8
        · exact h4.2.2 q h8
        · exact hfree _ (hL q h8)
    have hk2 := b hG (hM.tr hM1) hc ad1 T'.heap (locs ++ L) ls hag0 hP1 (hD1.weaken (fun _ q _ z => hfree q.1 z)) hS1 (by rw [lvm_ag hag h6]; exact h5) (h6.mn hM1) (by
      intro w hw
      rcases List.mem_append.mp hw with h8 | h8
      · exact hok w (Option.mem_toList.mp h8)
      · exact (hs.2.mn hM1) w h8) hcl
    have e3 : gc g1 - gc g0 = gc g - gc g0 + (gc g1 - gc g) := by have := hM.1; have := hM1.1; omega
    have e4 : gs g1 - gs g0 = gs g - gs g0 + (gs g1 - gs g) := by have := hM.2.1; have := hM1.2.1; omega
    rw [e3, e4] at hk2
    obtain ⟨t2, k1, k2⟩ := hk2 T' rfl X'
    refine ⟨t2, stp t2 ?_, k2⟩
    have e5 : stm ad1 ((ret2 r2).toList ++ rest) = v.toList ++ stm ad rest := by
      have hv2 : v = (ret2 r2).map (cv ad1) := by injection hv
      rw [hv2]
      show List.map (cv ad1) ((ret2 r2).toList ++ rest) = _
      rw [List.map_append]
      have e6 : List.map (cv ad1) rest = stm ad rest := stm_ag hag hs.2
      rw [e6]
      cases ret2 r2 <;> rfl
    rw [e5] at k1
    exact k1
/-- a method of none that reads the script -/
theorem j_callC {σ : Type} {y2 : MethodName} {cc2 : ByteArray} {nL2 : Nat} {rt2 : Option FieldType} {rf2 rl2 : Nat} {ret2 : σ → Option SV} {own : String} {ix : Nat} (as rest : List SV) {P : Option (σ × Hp)} {F : σ × Hp → Option (ρ × Hp)}
    (hd : decode cc pc = .ok (.invokestatic ix, 3)) (hC : FLC own ix y2 cc2 nL2 rt2 as.length) (hV : FLS y2) (ho : own = y.cls) (hX : IsS X L xs) (hM : FMS y2 cc2 nL2 rt2 rf2 rl2 ret2 L xs as g P) (hroom : (rf2 + 1 ≤ rf ∧ 8 + (nL2 + 11) + rl2 ≤ rl) ∧ (rest.map sc).sum ≤ 8) (hst : st = as.reverse ++ rest) (hp : pr = P.bind F)
    (kk : ∀ x g1, J y cc nL rt rf rl X g1 (pc + 3) lv ((ret2 x).toList ++ rest) (F (x, g1))) : J y cc nL rt rf rl X g pc lv st pr := by
  subst hp
  subst hst
  refine J.callS hX hM (fun p l e s m args below meth c0 R H locs cells slots D cs ad ls Pc Qc mc ms free rm hx hb hz hml hw htb hK hP hos hMet hrm hfr hbl hpc hf => ?_) hroom.1 rfl (fun h => oks_rev h) kk
  have hstk : (F0 m pc ls (stm ad (as.reverse ++ rest))).stack = (stm ad as).reverse ++ stm ad rest := stm_rev ad as _
  have hlen : (stm ad as).length = as.length := by simp [stm]
  have hwc := lv_room (pc := pc) (ls := ls) (m := m) (st := stm ad rest) (rest := stm ad (as.reverse ++ rest)) (by rw [stm_cat]; exact hroom.2)
  rcases hC.1 with ⟨l1, l2⟩ | ⟨host, l1⟩
  · exact va_runS (own := own) (As := stm ad as) (n := as.length) (bytes := cc2) (maxL := nL2) (ret := rt2) (index := ix) ⟨hx, hb, hml, by rw [ho]; exact hw, fun w h => absurd h List.not_mem_nil⟩ (Ts := []) hMet ⟨⟨hrm.1, hrm.2, hfr.1, hfr.2, code_ok (args := args) htb hC.2.1, List.mem_cons_self, htb _ hC.2.1.1 hC.2.1.2 args, htb _ hC.2.2.1.1 hC.2.2.1.2 args, hC.2.2.2.1, len_ok hC.2.2.2, htb _ l1 l2 args⟩, htb _ hV.1 hV.2 args⟩ ⟨hbl, hpc⟩ rfl hlen hz hstk hwc hd hf
  · exact va_runSN (own := own) (host := host) (As := stm ad as) (n := as.length) (bytes := cc2) (maxL := nL2) (ret := rt2) (index := ix) ⟨hx, hb, hml, by rw [ho]; exact hw, fun w h => absurd h List.not_mem_nil⟩ (Ts := []) hMet ⟨⟨⟨hrm.1, hrm.2, hfr.1, hfr.2, code_ok (args := args) htb hC.2.1, List.mem_cons_self⟩, htb _ hC.2.1.1 hC.2.1.2 args, htb _ hC.2.2.1.1 hC.2.2.1.2 args, hC.2.2.2.1, len_ok hC.2.2.2, htb _ l1 (by simp [okW, isNw]) args⟩, htb _ hV.1 hV.2 args, trivial⟩ ⟨hbl, hpc⟩ rfl hlen hz hstk hwc hd hf
end CSR
end
section
/-! by program: words of the tables -/
set_option maxRecDepth 20000 in
theorem lk_L_7 : Cond.constant RL 7 2147483647 ∈ lw_tbl := List.mem_append_right _ (List.mem_of_getElem? (i := 465) (by decide +kernel))
set_option maxRecDepth 20000 in
theorem lk_L_8 : Cond.constant RL 8 40503 ∈ lw_tbl := List.mem_append_right _ (List.mem_of_getElem? (i := 469) (by decide +kernel))
set_option maxRecDepth 20000 in
theorem ln_L_9 : FLN RL 9 9 := ⟨RX8, TX8, 14, tyX8, ⟨rfl, by decide, rfl⟩, tyX8_ok, (fun j hj b hb => by
  rcases (show j = 0 ∨ j = 1 ∨ j = 2 ∨ j = 3 ∨ j = 4 ∨ j = 5 ∨ j = 6 ∨ j = 7 ∨ j = 8 ∨ j = 9 ∨ j = 10 ∨ j = 11 ∨ j = 12 ∨ j = 13 by omega) with rfl | rfl | rfl | rfl | rfl | rfl | rfl | rfl | rfl | rfl | rfl | rfl | rfl | rfl <;> (cases hb; rfl)), inTX8, ⟨List.mem_append_right _ (List.mem_of_getElem? (i := 19) (by decide +kernel)), rfl⟩, ⟨List.mem_append_right _ (List.mem_of_getElem? (i := 20) (by decide +kernel)), rfl⟩, ⟨List.mem_append_right _ (List.mem_of_getElem? (i := 1) (by decide +kernel)), rfl⟩⟩
set_option maxRecDepth 20000 in
theorem lc_L_11 : FLC RL 11 yX8_init cX8_init 1 none 0 := ⟨Or.inl ⟨List.mem_append_right _ (List.mem_of_getElem? (i := 21) (by decide +kernel)), rfl⟩, ⟨List.mem_append_right _ (List.mem_of_getElem? (i := 23) (by decide +kernel)), rfl⟩, ⟨List.mem_append_right _ (List.mem_of_getElem? (i := 1) (by decide +kernel)), rfl⟩, ⟨⟨by decide +kernel, by decide +kernel⟩, by decide +kernel⟩⟩
set_option maxRecDepth 20000 in
theorem li_X8_init : FLN0 yX8_init := ⟨by decide +kernel, List.mem_append_right _ (List.mem_of_getElem? (i := 22) (by decide +kernel)), rfl⟩
set_option maxRecDepth 20000 in
theorem lc_L_12 : FLC RL 12 yL_cell cL_cell 2 (some .int) 2 := ⟨Or.inl ⟨List.mem_append_right _ (List.mem_of_getElem? (i := 466) (by decide +kernel)), rfl⟩, ⟨List.mem_append_right _ (List.mem_of_getElem? (i := 468) (by decide +kernel)), rfl⟩, ⟨List.mem_append_right _ (List.mem_of_getElem? (i := 0) (by decide +kernel)), rfl⟩, ⟨⟨by decide +kernel, by decide +kernel⟩, by decide +kernel⟩⟩
set_option maxRecDepth 20000 in
theorem ls_L_cell : FLS yL_cell := ⟨List.mem_append_right _ (List.mem_of_getElem? (i := 467) (by decide +kernel)), rfl⟩
set_option maxRecDepth 20000 in
theorem lc_L_18 : FLC RL 18 yL_low cL_low 2 (some .int) 2 := ⟨Or.inl ⟨List.mem_append_right _ (List.mem_of_getElem? (i := 462) (by decide +kernel)), rfl⟩, ⟨List.mem_append_right _ (List.mem_of_getElem? (i := 464) (by decide +kernel)), rfl⟩, ⟨List.mem_append_right _ (List.mem_of_getElem? (i := 0) (by decide +kernel)), rfl⟩, ⟨⟨by decide +kernel, by decide +kernel⟩, by decide +kernel⟩⟩
set_option maxRecDepth 20000 in
theorem ls_L_low : FLS yL_low := ⟨List.mem_append_right _ (List.mem_of_getElem? (i := 463) (by decide +kernel)), rfl⟩
set_option maxRecDepth 20000 in
theorem lc_L_22 : FLC RL 22 yX8_rule cX8_rule 3 (some .int) 2 := ⟨Or.inl ⟨List.mem_append_right _ (List.mem_of_getElem? (i := 143) (by decide +kernel)), rfl⟩, ⟨List.mem_append_right _ (List.mem_of_getElem? (i := 146) (by decide +kernel)), rfl⟩, ⟨List.mem_append_right _ (List.mem_of_getElem? (i := 1) (by decide +kernel)), rfl⟩, ⟨⟨by decide +kernel, by decide +kernel⟩, by decide +kernel⟩⟩
set_option maxRecDepth 20000 in
theorem lv_X8_rule : FLV yX8_rule 9 := ⟨by decide, by decide +kernel, ⟨List.mem_append_right _ (List.mem_of_getElem? (i := 144) (by decide +kernel)), rfl⟩, ⟨List.mem_append_right _ (List.mem_of_getElem? (i := 145) (by decide +kernel)), rfl⟩⟩
set_option maxRecDepth 20000 in
theorem lc_L_25 : FLC RL 25 yX8_town cX8_town 2 (some .int) 1 := ⟨Or.inl ⟨List.mem_append_right _ (List.mem_of_getElem? (i := 252) (by decide +kernel)), rfl⟩, ⟨List.mem_append_right _ (List.mem_of_getElem? (i := 255) (by decide +kernel)), rfl⟩, ⟨List.mem_append_right _ (List.mem_of_getElem? (i := 1) (by decide +kernel)), rfl⟩, ⟨⟨by decide +kernel, by decide +kernel⟩, by decide +kernel⟩⟩
set_option maxRecDepth 20000 in
theorem lv_X8_town : FLV yX8_town 9 := ⟨by decide, by decide +kernel, ⟨List.mem_append_right _ (List.mem_of_getElem? (i := 253) (by decide +kernel)), rfl⟩, ⟨List.mem_append_right _ (List.mem_of_getElem? (i := 254) (by decide +kernel)), rfl⟩⟩
set_option maxRecDepth 20000 in
theorem lc_L_38 : FLC RL 38 yX8_later cX8_later 2 (some .int) 1 := ⟨Or.inl ⟨List.mem_append_right _ (List.mem_of_getElem? (i := 278) (by decide +kernel)), rfl⟩, ⟨List.mem_append_right _ (List.mem_of_getElem? (i := 281) (by decide +kernel)), rfl⟩, ⟨List.mem_append_right _ (List.mem_of_getElem? (i := 1) (by decide +kernel)), rfl⟩, ⟨⟨by decide +kernel, by decide +kernel⟩, by decide +kernel⟩⟩
set_option maxRecDepth 20000 in
theorem lv_X8_later : FLV yX8_later 9 := ⟨by decide, by decide +kernel, ⟨List.mem_append_right _ (List.mem_of_getElem? (i := 279) (by decide +kernel)), rfl⟩, ⟨List.mem_append_right _ (List.mem_of_getElem? (i := 280) (by decide +kernel)), rfl⟩⟩
set_option maxRecDepth 20000 in
theorem lc_L_45 : FLC RL 45 yX8_quake cX8_quake 3 (some .int) 2 := ⟨Or.inl ⟨List.mem_append_right _ (List.mem_of_getElem? (i := 418) (by decide +kernel)), rfl⟩, ⟨List.mem_append_right _ (List.mem_of_getElem? (i := 421) (by decide +kernel)), rfl⟩, ⟨List.mem_append_right _ (List.mem_of_getElem? (i := 1) (by decide +kernel)), rfl⟩, ⟨⟨by decide +kernel, by decide +kernel⟩, by decide +kernel⟩⟩
set_option maxRecDepth 20000 in
theorem lv_X8_quake : FLV yX8_quake 9 := ⟨by decide, by decide +kernel, ⟨List.mem_append_right _ (List.mem_of_getElem? (i := 419) (by decide +kernel)), rfl⟩, ⟨List.mem_append_right _ (List.mem_of_getElem? (i := 420) (by decide +kernel)), rfl⟩⟩
set_option maxRecDepth 20000 in
theorem lc_L_48 : FLC RL 48 yX8_holds cX8_holds 5 (some .int) 3 := ⟨Or.inl ⟨List.mem_append_right _ (List.mem_of_getElem? (i := 430) (by decide +kernel)), rfl⟩, ⟨List.mem_append_right _ (List.mem_of_getElem? (i := 433) (by decide +kernel)), rfl⟩, ⟨List.mem_append_right _ (List.mem_of_getElem? (i := 1) (by decide +kernel)), rfl⟩, ⟨⟨by decide +kernel, by decide +kernel⟩, by decide +kernel⟩⟩
set_option maxRecDepth 20000 in
theorem lv_X8_holds : FLV yX8_holds 9 := ⟨by decide, by decide +kernel, ⟨List.mem_append_right _ (List.mem_of_getElem? (i := 431) (by decide +kernel)), rfl⟩, ⟨List.mem_append_right _ (List.mem_of_getElem? (i := 432) (by decide +kernel)), rfl⟩⟩
set_option maxRecDepth 20000 in
theorem lc_L_35 : FLC RL 35 yX8_count cX8_count 2 (some .int) 1 := ⟨Or.inl ⟨List.mem_append_right _ (List.mem_of_getElem? (i := 458) (by decide +kernel)), rfl⟩, ⟨List.mem_append_right _ (List.mem_of_getElem? (i := 461) (by decide +kernel)), rfl⟩, ⟨List.mem_append_right _ (List.mem_of_getElem? (i := 1) (by decide +kernel)), rfl⟩, ⟨⟨by decide +kernel, by decide +kernel⟩, by decide +kernel⟩⟩
set_option maxRecDepth 20000 in
theorem lv_X8_count : FLV yX8_count 9 := ⟨by decide, by decide +kernel, ⟨List.mem_append_right _ (List.mem_of_getElem? (i := 459) (by decide +kernel)), rfl⟩, ⟨List.mem_append_right _ (List.mem_of_getElem? (i := 460) (by decide +kernel)), rfl⟩⟩
set_option maxRecDepth 20000 in
theorem lc_L_41 : FLC RL 41 yX8_pick cX8_pick 6 (some .int) 3 := ⟨Or.inl ⟨List.mem_append_right _ (List.mem_of_getElem? (i := 287) (by decide +kernel)), rfl⟩, ⟨List.mem_append_right _ (List.mem_of_getElem? (i := 290) (by decide +kernel)), rfl⟩, ⟨List.mem_append_right _ (List.mem_of_getElem? (i := 1) (by decide +kernel)), rfl⟩, ⟨⟨by decide +kernel, by decide +kernel⟩, by decide +kernel⟩⟩
set_option maxRecDepth 20000 in
theorem lv_X8_pick : FLV yX8_pick 9 := ⟨by decide, by decide +kernel, ⟨List.mem_append_right _ (List.mem_of_getElem? (i := 288) (by decide +kernel)), rfl⟩, ⟨List.mem_append_right _ (List.mem_of_getElem? (i := 289) (by decide +kernel)), rfl⟩⟩
set_option maxRecDepth 20000 in
theorem lc_L_51 : FLC RL 51 yX8_left cX8_left 3 (some .int) 2 := ⟨Or.inl ⟨List.mem_append_right _ (List.mem_of_getElem? (i := 454) (by decide +kernel)), rfl⟩, ⟨List.mem_append_right _ (List.mem_of_getElem? (i := 457) (by decide +kernel)), rfl⟩, ⟨List.mem_append_right _ (List.mem_of_getElem? (i := 1) (by decide +kernel)), rfl⟩, ⟨⟨by decide +kernel, by decide +kernel⟩, by decide +kernel⟩⟩
set_option maxRecDepth 20000 in
theorem lv_X8_left : FLV yX8_left 9 := ⟨by decide, by decide +kernel, ⟨List.mem_append_right _ (List.mem_of_getElem? (i := 455) (by decide +kernel)), rfl⟩, ⟨List.mem_append_right _ (List.mem_of_getElem? (i := 456) (by decide +kernel)), rfl⟩⟩
set_option maxRecDepth 20000 in
theorem lc_L_54 : FLC RL 54 yX8_late cX8_late 3 (some .int) 2 := ⟨Or.inl ⟨List.mem_append_right _ (List.mem_of_getElem? (i := 434) (by decide +kernel)), rfl⟩, ⟨List.mem_append_right _ (List.mem_of_getElem? (i := 437) (by decide +kernel)), rfl⟩, ⟨List.mem_append_right _ (List.mem_of_getElem? (i := 1) (by decide +kernel)), rfl⟩, ⟨⟨by decide +kernel, by decide +kernel⟩, by decide +kernel⟩⟩
set_option maxRecDepth 20000 in
theorem lv_X8_late : FLV yX8_late 9 := ⟨by decide, by decide +kernel, ⟨List.mem_append_right _ (List.mem_of_getElem? (i := 435) (by decide +kernel)), rfl⟩, ⟨List.mem_append_right _ (List.mem_of_getElem? (i := 436) (by decide +kernel)), rfl⟩⟩
set_option maxRecDepth 20000 in
theorem lc_L_29 : FLC RL 29 yX8_station cX8_station 2 (some .int) 1 := ⟨Or.inl ⟨List.mem_append_right _ (List.mem_of_getElem? (i := 155) (by decide +kernel)), rfl⟩, ⟨List.mem_append_right _ (List.mem_of_getElem? (i := 158) (by decide +kernel)), rfl⟩, ⟨List.mem_append_right _ (List.mem_of_getElem? (i := 1) (by decide +kernel)), rfl⟩, ⟨⟨by decide +kernel, by decide +kernel⟩, by decide +kernel⟩⟩
set_option maxRecDepth 20000 in
theorem lv_X8_station : FLV yX8_station 9 := ⟨by decide, by decide +kernel, ⟨List.mem_append_right _ (List.mem_of_getElem? (i := 156) (by decide +kernel)), rfl⟩, ⟨List.mem_append_right _ (List.mem_of_getElem? (i := 157) (by decide +kernel)), rfl⟩⟩
set_option maxRecDepth 20000 in
theorem lc_L_32 : FLC RL 32 yX8_travel cX8_travel 3 (some .int) 2 := ⟨Or.inl ⟨List.mem_append_right _ (List.mem_of_getElem? (i := 267) (by decide +kernel)), rfl⟩, ⟨List.mem_append_right _ (List.mem_of_getElem? (i := 270) (by decide +kernel)), rfl⟩, ⟨List.mem_append_right _ (List.mem_of_getElem? (i := 1) (by decide +kernel)), rfl⟩, ⟨⟨by decide +kernel, by decide +kernel⟩, by decide +kernel⟩⟩
set_option maxRecDepth 20000 in
theorem lv_X8_travel : FLV yX8_travel 9 := ⟨by decide, by decide +kernel, ⟨List.mem_append_right _ (List.mem_of_getElem? (i := 268) (by decide +kernel)), rfl⟩, ⟨List.mem_append_right _ (List.mem_of_getElem? (i := 269) (by decide +kernel)), rfl⟩⟩
/-! by program: what the methods do, and that their bytecode does it -/
/-! L_low -/
noncomputable def f_L_low (z : Nat) (a0 : Int32) (a1 : Int32) (g : Hp) : Option (Int32 × Hp) :=
  (rmI (a0 &&& 2147483647) a1).bind fun x1 =>
  some (x1, g)
set_option maxRecDepth 20000 in
theorem m_L_low (z : Nat) (a0 : Int32) (a1 : Int32) (g : Hp) : FM yL_low cL_low 2 (some .int) 0 0 rtI [sI a0, sI a1] g (f_L_low z a0 a1 g) := by
  refine FM.entry (by decide +kernel) (Nat.le_of_ble_eq_true rfl) (fun X hX => ?_)
  unfold f_L_low
  show J yL_low cL_low 2 (some .int) 0 0 X g 0 [(0, sI a0), (1, sI a1)] [] _
  refine j_iload_n (pc := 0) 0 dL_low_0 rfl rfl ?_
  refine j_ldc (pc := 1) (own := RL) (v := 2147483647) dL_low_1 rfl lk_L_7 ?_
  refine j_iand (pc := 3) dL_low_3 ?_
  refine j_iload_n (pc := 4) 1 dL_low_4 rfl rfl ?_
  refine b_irem (pc := 5) dL_low_5 rfl (fun x1 => ?_)
  exact j_ireturn dL_low_6 hX rfl rfl
/-! L_cell -/
noncomputable def f_L_cell (z : Nat) (L : Nat) (xs : Nat → Int32) (a0 : Option Nm) (a1 : Int32) (g : Hp) : Option (Int32 × Hp) :=
  (alnS a0 L).bind fun x1 =>
  if x1 ≤ a1 then (some (((40503 * a1) + 977), g))
  else ((aldS a0 a1 L xs).bind fun x2 =>
    some (x2, g))
set_option maxRecDepth 20000 in
theorem cell_mn {z L : Nat} {xs : Nat → Int32} {a0 : Option Nm} {a1 : Int32} {g g1 : Hp} {r : Int32} (h : f_L_cell z L xs a0 a1 g = some (r, g1)) : Mn g g1 := by
  have e : g1 = g := by
    unfold f_L_cell at h
    cases h1 : alnS a0 L with
    | none => rw [h1] at h; exact nomatch h
    | some w =>
      rw [h1] at h
      simp only [Option.bind_some] at h
      split at h
      · exact (congrArg Prod.snd (Option.some.inj h)).symm
      · cases h2 : aldS a0 a1 L xs with
        | none => rw [h2] at h; exact nomatch h
        | some w2 => rw [h2] at h; exact (congrArg Prod.snd (Option.some.inj h)).symm
  rw [e]; exact Mn.rf g
set_option maxRecDepth 20000 in
theorem m_L_cell (z : Nat) (L : Nat) (xs : Nat → Int32) (a0 : Option Nm) (a1 : Int32) (g : Hp) : FMS yL_cell cL_cell 2 (some .int) 0 0 rtI L xs [sR a0, sI a1] g (f_L_cell z L xs a0 a1 g) := by
  refine FMS.entry (by decide +kernel) (Nat.le_of_ble_eq_true rfl) (fun r g1 h => cell_mn h) (fun X h1 h2 => ?_)
  have hX : IsM rtI X ∧ IsS X L xs := ⟨h1, h2⟩
  unfold f_L_cell
  show J yL_cell cL_cell 2 (some .int) 0 0 X g 0 [(0, sR a0), (1, sI a1)] [] _
  refine j_iload_n (pc := 0) 1 dL_cell_0 rfl rfl ?_
  refine j_aload_n (pc := 1) 0 dL_cell_1 rfl rfl ?_
  refine j_alnS (pc := 2) dL_cell_2 hX.2 rfl (fun x1 => ?_)
  refine j_icmp_ge (pc := 3) (tgt := 12) dL_cell_3 (by decide) rfl (fun hc => ?_) (fun hc => ?_)
  · refine j_ldc (pc := 12) (own := RL) (v := 40503) dL_cell_12 rfl lk_L_8 ?_
    refine j_iload_n (pc := 14) 1 dL_cell_14 rfl rfl ?_
    refine j_imul (pc := 15) dL_cell_15 ?_
    refine j_sipush (pc := 16) (v := 977) dL_cell_16 (by decide) ?_
    refine j_iadd (pc := 19) dL_cell_19 ?_
    exact j_ireturn dL_cell_20 hX.1 rfl rfl
  · refine j_aload_n (pc := 6) 0 dL_cell_6 rfl rfl ?_
    refine j_iload_n (pc := 7) 1 dL_cell_7 rfl rfl ?_
    refine j_aldS (pc := 8) dL_cell_8 hX.2 rfl (fun x2 => ?_)
    refine j_goto (pc := 9) (tgt := 20) dL_cell_9 (by decide) ?_
    exact j_ireturn dL_cell_20 hX.1 rfl rfl
/-! L_law -/
noncomputable def f_L_law_251_b (z : Nat) (L : Nat) (xs : Nat → Int32) (p10 : Int32) (p9 : Int32) (p8 : Int32) (p7 : Int32) (p6 : Int32) (p5 : Option Nm) (p4 : Option Nm) (p3 : Int32) (p2 : Int32) (p1 : Option Nm) (p0 : Option Nm) (rec : Int32 → Int32 → Hp → Option (Int32 × Int32 × Hp)) (v12 : Int32) (v11 : Int32) (g : Hp) : Option (Int32 × Int32 × Hp) :=
  if p3 ≤ v12 then (some (v12, v11, g))
  else ((aldI p5 v12 g).bind fun x22 =>
    if x22 < 0 then (rec (v12 + 1) v11 g)
    else (if v11 < 0 then (rec (v12 + 1) v12 g)
      else ((aldI p5 v12 g).bind fun x23 =>
        (aldI p5 v11 g).bind fun x24 =>
        if x24 ≤ x23 then (rec (v12 + 1) v11 g)
        else (rec (v12 + 1) v12 g))))
noncomputable def f_L_law_251_L (z : Nat) (L : Nat) (xs : Nat → Int32) (p10 : Int32) (p9 : Int32) (p8 : Int32) (p7 : Int32) (p6 : Int32) (p5 : Option Nm) (p4 : Option Nm) (p3 : Int32) (p2 : Int32) (p1 : Option Nm) (p0 : Option Nm) : Nat → Int32 → Int32 → Hp → Option (Int32 × Int32 × Hp)
  | 0, _, _, _ => none
  | n + 1, v12, v11, g => f_L_law_251_b z L xs p10 p9 p8 p7 p6 p5 p4 p3 p2 p1 p0 (f_L_law_251_L z L xs p10 p9 p8 p7 p6 p5 p4 p3 p2 p1 p0 n) v12 v11 g
noncomputable def f_L_law_237_b (z : Nat) (L : Nat) (xs : Nat → Int32) (p7 : Int32) (p6 : Int32) (p5 : Option Nm) (p4 : Option Nm) (p3 : Int32) (p2 : Int32) (p1 : Option Nm) (p0 : Option Nm) (rec : Int32 → Int32 → Int32 → Hp → Option (Int32 × Hp)) (v10 : Int32) (v9 : Int32) (v8 : Int32) (g : Hp) : Option (Int32 × Hp) :=
  if 400 ≤ v10 then (if v9 = p3 then ((ick p1 9 (f_X8_later z p1 500 g)).bind fun q19 =>
      if q19.1 ≤ 0 then (some (0, q19.2))
      else ((ick p1 9 (f_X8_quake z p1 0 1 q19.2)).bind fun q20 =>
        if q20.1 = v8 then ((ick p1 9 (f_X8_holds z p1 0 p6 p7 q20.2)).bind fun q21 =>
          if q21.1 = 1 then (some (1, q21.2))
          else (some (0, q21.2)))
        else (some (0, q20.2))))
    else (some (0, g)))
  else ((f_L_law_251_L z L xs v10 v9 v8 p7 p6 p5 p4 p3 p2 p1 p0 z 0 (-1) g).bind fun q25 =>
    if 0 ≤ q25.2.1 then ((aldI p5 q25.2.1 q25.2.2).bind fun x26 =>
      (ick p1 9 (f_X8_count z p1 5 q25.2.2)).bind fun q27 =>
      (ick p1 9 (f_X8_later z p1 (x26 - q27.1) q27.2)).bind fun q28 =>
      if q28.1 = x26 then ((ick p1 9 (f_X8_pick z p1 q25.2.1 x26 1000 q28.2)).bind fun q29 =>
        ((if v9 = 0 then (some (10))
          else (some (0))) : Option (Int32)).bind fun q30 =>
        if q29.1 = q30 then ((astI p5 q25.2.1 (-1) q29.2).bind fun g31 =>
          (ick p1 9 (f_X8_quake z p1 0 1 g31)).bind fun q32 =>
          (ick p1 9 (f_X8_quake z p1 0 0 q32.2)).bind fun q33 =>
          if q33.1 = (v9 + 1) then (if q32.1 < 1 then (some (0, q33.2))
            else (if v8 < q32.1 then (some (0, q33.2))
              else ((ick p1 9 (f_X8_holds z p1 0 p6 p7 q33.2)).bind fun q34 =>
                if q34.1 = 1 then ((ick p1 9 (f_X8_quake z p1 0 4 q34.2)).bind fun q35 =>
                  if q35.1 = 0 then ((ick p1 9 (f_X8_count z p1 3 q35.2)).bind fun q36 =>
                    if q36.1 = 1 then ((ick p1 9 (f_X8_left z p1 0 0 q36.2)).bind fun q37 =>
                      (ick p1 9 (f_X8_late z p1 0 0 q37.2)).bind fun q38 =>
                      if q37.1 < 0 then (some (0, q38.2))
                      else (if q38.1 < 0 then (some (0, q38.2))
                        else (if q38.1 = 2 then (if q37.1 = 0 then (some (0, q38.2))
                            else (if q38.1 = 1 then (if q37.1 ≤ 0 then ((f_L_cell z L xs p0 (26 + (v9 + 1)) q38.2).bind fun q45 =>
                                  (f_L_low z q45.1 7 q45.2).bind fun q46 =>
                                  rec (v10 + (1 + q46.1)) (v9 + 1) q32.1 q46.2)
                                else (some (0, q38.2)))
                              else ((f_L_cell z L xs p0 (26 + (v9 + 1)) q38.2).bind fun q43 =>
                                (f_L_low z q43.1 7 q43.2).bind fun q44 =>
                                rec (v10 + (1 + q44.1)) (v9 + 1) q32.1 q44.2)))
                          else (if q38.1 = 1 then (if q37.1 ≤ 0 then ((f_L_cell z L xs p0 (26 + (v9 + 1)) q38.2).bind fun q41 =>
                                (f_L_low z q41.1 7 q41.2).bind fun q42 =>
                                rec (v10 + (1 + q42.1)) (v9 + 1) q32.1 q42.2)
                              else (some (0, q38.2)))
                            else ((f_L_cell z L xs p0 (26 + (v9 + 1)) q38.2).bind fun q39 =>
                              (f_L_low z q39.1 7 q39.2).bind fun q40 =>
                              rec (v10 + (1 + q40.1)) (v9 + 1) q32.1 q40.2)))))
                    else (some (0, q36.2)))
                  else (some (0, q35.2)))
                else (some (0, q34.2)))))
          else (some (0, q33.2)))
        else (some (0, q29.2)))
      else (some (0, q28.2)))
    else (if v9 = p3 then ((ick p1 9 (f_X8_later z p1 500 q25.2.2)).bind fun q47 =>
        if q47.1 ≤ 0 then (some (0, q47.2))
        else ((ick p1 9 (f_X8_quake z p1 0 1 q47.2)).bind fun q48 =>
          if q48.1 = v8 then ((ick p1 9 (f_X8_holds z p1 0 p6 p7 q48.2)).bind fun q49 =>
            if q49.1 = 1 then (some (1, q49.2))
            else (some (0, q49.2)))
          else (some (0, q48.2))))
      else (some (0, q25.2.2))))
noncomputable def f_L_law_237_L (z : Nat) (L : Nat) (xs : Nat → Int32) (p7 : Int32) (p6 : Int32) (p5 : Option Nm) (p4 : Option Nm) (p3 : Int32) (p2 : Int32) (p1 : Option Nm) (p0 : Option Nm) : Nat → Int32 → Int32 → Int32 → Hp → Option (Int32 × Hp)
  | 0, _, _, _, _ => none
  | n + 1, v10, v9, v8, g => f_L_law_237_b z L xs p7 p6 p5 p4 p3 p2 p1 p0 (f_L_law_237_L z L xs p7 p6 p5 p4 p3 p2 p1 p0 n) v10 v9 v8 g
noncomputable def f_L_law_117_b (z : Nat) (L : Nat) (xs : Nat → Int32) (p7 : Int32) (p6 : Int32) (p5 : Option Nm) (p4 : Option Nm) (p3 : Int32) (p2 : Int32) (p1 : Option Nm) (p0 : Option Nm) (rec : Int32 → Hp → Option (Int32 × Hp)) (v8 : Int32) (g : Hp) : Option (Int32 × Hp) :=
  if p3 ≤ v8 then (f_L_law_237_L z L xs p7 p6 p5 p4 p3 p2 p1 p0 z 0 0 145 g)
  else ((f_L_cell z L xs p0 (6 + v8) g).bind fun q51 =>
    (f_L_low z q51.1 144 q51.2).bind fun q52 =>
    (astI p4 v8 q52.1 q52.2).bind fun g53 =>
    (aldI p4 v8 g53).bind fun x54 =>
    (ick p1 9 (f_X8_station z p1 x54 g53)).bind fun q55 =>
    if q55.1 = v8 then ((aldI p4 v8 q55.2).bind fun x56 =>
      (ick p1 9 (f_X8_travel z p1 p6 x56 q55.2)).bind fun q57 =>
      (f_L_cell z L xs p0 (16 + v8) q57.2).bind fun q58 =>
      (f_L_low z q58.1 ((2 * p2) + 1) q58.2).bind fun q59 =>
      (astI p5 v8 (((p7 + q57.1) + q59.1) - p2) q59.2).bind fun g60 =>
      (aldI p5 v8 g60).bind fun x61 =>
      if 0 ≤ x61 then ((aldI p5 v8 g60).bind fun x62 =>
        (astI p5 v8 x62 g60).bind fun g63 =>
        rec (v8 + 1) g63)
      else ((astI p5 v8 0 g60).bind fun g64 =>
        rec (v8 + 1) g64))
    else (some (0, q55.2)))
noncomputable def f_L_law_117_L (z : Nat) (L : Nat) (xs : Nat → Int32) (p7 : Int32) (p6 : Int32) (p5 : Option Nm) (p4 : Option Nm) (p3 : Int32) (p2 : Int32) (p1 : Option Nm) (p0 : Option Nm) : Nat → Int32 → Hp → Option (Int32 × Hp)
  | 0, _, _ => none
  | n + 1, v8, g => f_L_law_117_b z L xs p7 p6 p5 p4 p3 p2 p1 p0 (f_L_law_117_L z L xs p7 p6 p5 p4 p3 p2 p1 p0 n) v8 g
noncomputable def f_L_law (z : Nat) (L : Nat) (xs : Nat → Int32) (a0 : Option Nm) (g : Hp) : Option (Int32 × Hp) :=
  (mkO (9, 0) 9 g).bind fun q1 =>
  (nnl q1.1 (f_X8_init z q1.1 q1.2)).bind fun q2 =>
  (f_L_cell z L xs a0 0 q2.2).bind fun q3 =>
  (f_L_low z q3.1 8 q3.2).bind fun q4 =>
  (f_L_cell z L xs a0 1 q4.2).bind fun q5 =>
  (f_L_low z q5.1 7 q5.2).bind fun q6 =>
  (f_L_cell z L xs a0 2 q6.2).bind fun q7 =>
  (f_L_low z q7.1 300 q7.2).bind fun q8 =>
  (ick q1.1 9 (f_X8_rule z q1.1 (1 + q8.1) q4.1 q8.2)).bind fun q9 =>
  if q9.1 = 1 then ((f_L_cell z L xs a0 3 q9.2).bind fun q10 =>
    (f_L_low z q10.1 144 q10.2).bind fun q11 =>
    (ick q1.1 9 (f_X8_town z q1.1 q11.1 q11.2)).bind fun q12 =>
    if q12.1 = 0 then ((mkI (29, 0) 9 q12.2).bind fun q13 =>
      (mkI (30, 0) 9 q13.2).bind fun q14 =>
      (f_L_cell z L xs a0 4 q14.2).bind fun q15 =>
      (f_L_low z q15.1 144 q15.2).bind fun q16 =>
      (f_L_cell z L xs a0 5 q16.2).bind fun q17 =>
      (f_L_low z q17.1 50 q17.2).bind fun q18 =>
      f_L_law_117_L z L xs (10 + q18.1) q16.1 q14.1 q13.1 (2 + q6.1) q4.1 q1.1 a0 z 0 q18.2)
    else (some (0, q12.2)))
  else (some (0, q9.2))
set_option maxRecDepth 20000 in
theorem b_L_law_251 {X : Xt Int32} {L : Nat} {xs : Nat → Int32} (hX : IsL X L xs) (z : Nat) (p10 : Int32) (p9 : Int32) (p8 : Int32) (p7 : Int32) (p6 : Int32) (p5 : Option Nm) (p4 : Option Nm) (p3 : Int32) (p2 : Int32) (p1 : Option Nm) (p0 : Option Nm) (rec : Int32 → Int32 → Hp → Option (Int32 × Int32 × Hp)) (K : Int32 × Int32 × Hp → Option (Int32 × Hp)) (he : ∀ (v12 : Int32) (v11 : Int32) (g : Hp), J yL_law cL_law 17 (some .boolean) 10 380 X g 298 [(12, sI v12), (11, sI v11), (10, sI p10), (9, sI p9), (8, sI p8), (7, sI p7), (6, sI p6), (5, sR p5), (4, sR p4), (3, sI p3), (2, sI p2), (1, sR p1), (0, sR p0)] [] (K (v12, v11, g))) (hr : ∀ (v12 : Int32) (v11 : Int32) (g : Hp), J yL_law cL_law 17 (some .boolean) 10 380 X g 251 [(12, sI v12), (11, sI v11), (10, sI p10), (9, sI p9), (8, sI p8), (7, sI p7), (6, sI p6), (5, sR p5), (4, sR p4), (3, sI p3), (2, sI p2), (1, sR p1), (0, sR p0)] [] ((rec v12 v11 g).bind K)) (v12 : Int32) (v11 : Int32) (g : Hp) : J yL_law cL_law 17 (some .boolean) 10 380 X g 251 [(12, sI v12), (11, sI v11), (10, sI p10), (9, sI p9), (8, sI p8), (7, sI p7), (6, sI p6), (5, sR p5), (4, sR p4), (3, sI p3), (2, sI p2), (1, sR p1), (0, sR p0)] [] ((f_L_law_251_b z L xs p10 p9 p8 p7 p6 p5 p4 p3 p2 p1 p0 rec v12 v11 g).bind K) := by
  unfold f_L_law_251_b
  refine j_iload (pc := 251) 0 dL_law_251 rfl ?_
  refine j_iload_n (pc := 253) 9 dL_law_253 rfl rfl ?_
  refine j_icmp_ge (pc := 254) (tgt := 298) dL_law_254 (by decide) bi (fun hc => ?_) (fun hc => ?_)
  · exact he v12 v11 g
  · refine j_aload (pc := 257) 7 dL_law_257 rfl ?_
    refine j_iload (pc := 259) 0 dL_law_259 rfl ?_
    refine j_aldI (pc := 261) dL_law_261 bb (fun x22 => ?_)
    refine j_if_lt (pc := 262) (tgt := 288) dL_law_262 (by decide) bi (fun hc => ?_) (fun hc => ?_)
    · refine j_iload (pc := 288) 1 dL_law_288 rfl ?_
      refine j_istore (pc := 290) (lv' := [(11, sI v11), (12, sI v12), (10, sI p10), (9, sI p9), (8, sI p8), (7, sI p7), (6, sI p6), (5, sR p5), (4, sR p4), (3, sI p3), (2, sI p2), (1, sR p1), (0, sR p0)]) dL_law_290 (by decide) rfl ?_
      refine j_iinc (pc := 292) (v := (v12 + 1)) (lv' := [(12, sI (v12 + 1)), (11, sI v11), (10, sI p10), (9, sI p9), (8, sI p8), (7, sI p7), (6, sI p6), (5, sR p5), (4, sR p4), (3, sI p3), (2, sI p2), (1, sR p1), (0, sR p0)]) 1 dL_law_292 rfl rfl (by decide) rfl ?_
      refine j_goto (pc := 295) (tgt := 251) dL_law_295 (by decide) ?_
      exact hr (v12 + 1) v11 g
    · refine j_iload (pc := 265) 1 dL_law_265 rfl ?_
      refine j_if_lt (pc := 267) (tgt := 283) dL_law_267 (by decide) bi (fun hc => ?_) (fun hc => ?_)
      · refine j_iload (pc := 283) 0 dL_law_283 rfl ?_
        refine j_goto (pc := 285) (tgt := 290) dL_law_285 (by decide) ?_
        refine j_istore (pc := 290) (lv' := [(11, sI v12), (12, sI v12), (10, sI p10), (9, sI p9), (8, sI p8), (7, sI p7), (6, sI p6), (5, sR p5), (4, sR p4), (3, sI p3), (2, sI p2), (1, sR p1), (0, sR p0)]) dL_law_290 (by decide) rfl ?_
        refine j_iinc (pc := 292) (v := (v12 + 1)) (lv' := [(12, sI (v12 + 1)), (11, sI v12), (10, sI p10), (9, sI p9), (8, sI p8), (7, sI p7), (6, sI p6), (5, sR p5), (4, sR p4), (3, sI p3), (2, sI p2), (1, sR p1), (0, sR p0)]) 1 dL_law_292 rfl rfl (by decide) rfl ?_
        refine j_goto (pc := 295) (tgt := 251) dL_law_295 (by decide) ?_
        exact hr (v12 + 1) v12 g
      · refine j_aload (pc := 270) 7 dL_law_270 rfl ?_
        refine j_iload (pc := 272) 0 dL_law_272 rfl ?_
        refine j_aldI (pc := 274) dL_law_274 bb (fun x23 => ?_)
        refine j_aload (pc := 275) 7 dL_law_275 rfl ?_
        refine j_iload (pc := 277) 1 dL_law_277 rfl ?_
        refine j_aldI (pc := 279) dL_law_279 bb (fun x24 => ?_)
        refine j_icmp_ge (pc := 280) (tgt := 288) dL_law_280 (by decide) bi (fun hc => ?_) (fun hc => ?_)
        · refine j_iload (pc := 288) 1 dL_law_288 rfl ?_
          refine j_istore (pc := 290) (lv' := [(11, sI v11), (12, sI v12), (10, sI p10), (9, sI p9), (8, sI p8), (7, sI p7), (6, sI p6), (5, sR p5), (4, sR p4), (3, sI p3), (2, sI p2), (1, sR p1), (0, sR p0)]) dL_law_290 (by decide) rfl ?_
          refine j_iinc (pc := 292) (v := (v12 + 1)) (lv' := [(12, sI (v12 + 1)), (11, sI v11), (10, sI p10), (9, sI p9), (8, sI p8), (7, sI p7), (6, sI p6), (5, sR p5), (4, sR p4), (3, sI p3), (2, sI p2), (1, sR p1), (0, sR p0)]) 1 dL_law_292 rfl rfl (by decide) rfl ?_
          refine j_goto (pc := 295) (tgt := 251) dL_law_295 (by decide) ?_
          exact hr (v12 + 1) v11 g
        · refine j_iload (pc := 283) 0 dL_law_283 rfl ?_
          refine j_goto (pc := 285) (tgt := 290) dL_law_285 (by decide) ?_
          refine j_istore (pc := 290) (lv' := [(11, sI v12), (12, sI v12), (10, sI p10), (9, sI p9), (8, sI p8), (7, sI p7), (6, sI p6), (5, sR p5), (4, sR p4), (3, sI p3), (2, sI p2), (1, sR p1), (0, sR p0)]) dL_law_290 (by decide) rfl ?_
          refine j_iinc (pc := 292) (v := (v12 + 1)) (lv' := [(12, sI (v12 + 1)), (11, sI v12), (10, sI p10), (9, sI p9), (8, sI p8), (7, sI p7), (6, sI p6), (5, sR p5), (4, sR p4), (3, sI p3), (2, sI p2), (1, sR p1), (0, sR p0)]) 1 dL_law_292 rfl rfl (by decide) rfl ?_
          refine j_goto (pc := 295) (tgt := 251) dL_law_295 (by decide) ?_
          exact hr (v12 + 1) v12 g
set_option maxRecDepth 20000 in
theorem l_L_law_251 {X : Xt Int32} {L : Nat} {xs : Nat → Int32} (hX : IsL X L xs) (z : Nat) (p10 : Int32) (p9 : Int32) (p8 : Int32) (p7 : Int32) (p6 : Int32) (p5 : Option Nm) (p4 : Option Nm) (p3 : Int32) (p2 : Int32) (p1 : Option Nm) (p0 : Option Nm) (K : Int32 × Int32 × Hp → Option (Int32 × Hp)) (he : ∀ (v12 : Int32) (v11 : Int32) (g : Hp), J yL_law cL_law 17 (some .boolean) 10 380 X g 298 [(12, sI v12), (11, sI v11), (10, sI p10), (9, sI p9), (8, sI p8), (7, sI p7), (6, sI p6), (5, sR p5), (4, sR p4), (3, sI p3), (2, sI p2), (1, sR p1), (0, sR p0)] [] (K (v12, v11, g))) : ∀ (n : Nat) (v12 : Int32) (v11 : Int32) (g : Hp), J yL_law cL_law 17 (some .boolean) 10 380 X g 251 [(12, sI v12), (11, sI v11), (10, sI p10), (9, sI p9), (8, sI p8), (7, sI p7), (6, sI p6), (5, sR p5), (4, sR p4), (3, sI p3), (2, sI p2), (1, sR p1), (0, sR p0)] [] ((f_L_law_251_L z L xs p10 p9 p8 p7 p6 p5 p4 p3 p2 p1 p0 n v12 v11 g).bind K)
  | 0, _, _, _ => J.eq rfl J.none
  | n + 1, v12, v11, g => b_L_law_251 hX z p10 p9 p8 p7 p6 p5 p4 p3 p2 p1 p0 _ K he (fun v12 v11 g => l_L_law_251 hX z p10 p9 p8 p7 p6 p5 p4 p3 p2 p1 p0 K he n v12 v11 g) v12 v11 g
set_option maxRecDepth 20000 in
theorem b_L_law_237 {X : Xt Int32} {L : Nat} {xs : Nat → Int32} (hX : IsL X L xs) (z : Nat) (p7 : Int32) (p6 : Int32) (p5 : Option Nm) (p4 : Option Nm) (p3 : Int32) (p2 : Int32) (p1 : Option Nm) (p0 : Option Nm) (rec : Int32 → Int32 → Int32 → Hp → Option (Int32 × Hp)) (hr : ∀ (v10 : Int32) (v9 : Int32) (v8 : Int32) (g : Hp), J yL_law cL_law 17 (some .boolean) 10 380 X g 237 [(10, sI v10), (9, sI v9), (8, sI v8), (7, sI p7), (6, sI p6), (5, sR p5), (4, sR p4), (3, sI p3), (2, sI p2), (1, sR p1), (0, sR p0)] [] (rec v10 v9 v8 g)) (v10 : Int32) (v9 : Int32) (v8 : Int32) (g : Hp) : J yL_law cL_law 17 (some .boolean) 10 380 X g 237 [(10, sI v10), (9, sI v9), (8, sI v8), (7, sI p7), (6, sI p6), (5, sR p5), (4, sR p4), (3, sI p3), (2, sI p2), (1, sR p1), (0, sR p0)] [] (f_L_law_237_b z L xs p7 p6 p5 p4 p3 p2 p1 p0 rec v10 v9 v8 g) := by
  unfold f_L_law_237_b
  refine j_iload (pc := 237) 0 dL_law_237 rfl ?_
  refine j_sipush (pc := 239) (v := 400) dL_law_239 (by decide) ?_
  refine j_icmp_ge (pc := 242) (tgt := 515) dL_law_242 (by decide) rfl (fun hc => ?_) (fun hc => ?_)
  · refine j_iload (pc := 515) 1 dL_law_515 rfl ?_
    refine j_iload_n (pc := 517) 7 dL_law_517 rfl rfl ?_
    refine j_icmp_ne (pc := 518) (tgt := 559) dL_law_518 (by decide) rfl (fun hc => ?_) (fun hc => ?_)
    · refine j_iconst (pc := 559) (v := 0) dL_law_559 (by decide) ?_
      exact j_lawret dL_law_560 hX rfl
    · refine j_aload_n (pc := 521) 9 dL_law_521 rfl rfl ?_
      refine j_sipush (pc := 522) (v := 500) dL_law_522 (by decide) ?_
      refine j_callV (pc := 525) (own := RL) [sI 500] [] dL_law_525 lc_L_38 lv_X8_later rfl (m_X8_later z p1 500 g) ⟨⟨Nat.le_of_ble_eq_true rfl, Nat.le_of_ble_eq_true rfl⟩, Nat.le_of_ble_eq_true rfl⟩ rfl rfl (fun q19r q19g => ?_)
      refine j_if_le (pc := 528) (tgt := 559) dL_law_528 (by decide) rfl (fun hc => ?_) (fun hc => ?_)
      · refine j_iconst (pc := 559) (v := 0) dL_law_559 (by decide) ?_
        exact j_lawret dL_law_560 hX rfl
      · refine j_aload_n (pc := 531) 9 dL_law_531 rfl rfl ?_
        refine j_iconst (pc := 532) (v := 0) dL_law_532 (by decide) ?_
        refine j_iconst (pc := 533) (v := 1) dL_law_533 (by decide) ?_
        refine j_callV (pc := 534) (own := RL) [sI 0, sI 1] [] dL_law_534 lc_L_45 lv_X8_quake rfl (m_X8_quake z p1 0 1 q19g) ⟨⟨Nat.le_of_ble_eq_true rfl, Nat.le_of_ble_eq_true rfl⟩, Nat.le_of_ble_eq_true rfl⟩ rfl rfl (fun q20r q20g => ?_)
        refine j_iload (pc := 537) 2 dL_law_537 rfl ?_
        refine j_icmp_ne (pc := 539) (tgt := 559) dL_law_539 (by decide) rfl (fun hc => ?_) (fun hc => ?_)
        · refine j_iconst (pc := 559) (v := 0) dL_law_559 (by decide) ?_
          exact j_lawret dL_law_560 hX rfl
        · refine j_aload_n (pc := 542) 9 dL_law_542 rfl rfl ?_
          refine j_iconst (pc := 543) (v := 0) dL_law_543 (by decide) ?_
          refine j_iload (pc := 544) 4 dL_law_544 rfl ?_
          refine j_iload (pc := 546) 3 dL_law_546 rfl ?_
          refine j_callV (pc := 548) (own := RL) [sI 0, sI p6, sI p7] [] dL_law_548 lc_L_48 lv_X8_holds rfl (m_X8_holds z p1 0 p6 p7 q20g) ⟨⟨Nat.le_of_ble_eq_true rfl, Nat.le_of_ble_eq_true rfl⟩, Nat.le_of_ble_eq_true rfl⟩ rfl rfl (fun q21r q21g => ?_)
          refine j_iconst (pc := 551) (v := 1) dL_law_551 (by decide) ?_
          refine j_icmp_ne (pc := 552) (tgt := 559) dL_law_552 (by decide) rfl (fun hc => ?_) (fun hc => ?_)
          · refine j_iconst (pc := 559) (v := 0) dL_law_559 (by decide) ?_
            exact j_lawret dL_law_560 hX rfl
          · refine j_iconst (pc := 555) (v := 1) dL_law_555 (by decide) ?_
            refine j_goto (pc := 556) (tgt := 560) dL_law_556 (by decide) ?_
            exact j_lawret dL_law_560 hX rfl
  · refine j_iconst (pc := 245) (v := (-1)) dL_law_245 (by decide) ?_
    refine j_istore (pc := 246) (lv' := [(11, sI (-1)), (10, sI v10), (9, sI v9), (8, sI v8), (7, sI p7), (6, sI p6), (5, sR p5), (4, sR p4), (3, sI p3), (2, sI p2), (1, sR p1), (0, sR p0)]) dL_law_246 (by decide) rfl ?_
    refine j_iconst (pc := 248) (v := 0) dL_law_248 (by decide) ?_
    refine j_istore (pc := 249) (lv' := [(12, sI 0), (11, sI (-1)), (10, sI v10), (9, sI v9), (8, sI v8), (7, sI p7), (6, sI p6), (5, sR p5), (4, sR p4), (3, sI p3), (2, sI p2), (1, sR p1), (0, sR p0)]) dL_law_249 (by decide) rfl ?_
    refine l_L_law_251 hX z v10 v9 v8 p7 p6 p5 p4 p3 p2 p1 p0 _ (fun q25_0 q25_1 q25_g => ?_) z 0 (-1) g
    refine j_iload (pc := 298) 1 dL_law_298 rfl ?_
    refine j_if_ge (pc := 300) (tgt := 306) dL_law_300 (by decide) rfl (fun hc => ?_) (fun hc => ?_)
    · refine j_aload (pc := 306) 7 dL_law_306 rfl ?_
      refine j_iload (pc := 308) 1 dL_law_308 rfl ?_
      refine j_aldI (pc := 310) dL_law_310 rfl (fun x26 => ?_)
      refine j_istore (pc := 311) (lv' := [(12, sI x26), (11, sI q25_1), (10, sI v10), (9, sI v9), (8, sI v8), (7, sI p7), (6, sI p6), (5, sR p5), (4, sR p4), (3, sI p3), (2, sI p2), (1, sR p1), (0, sR p0)]) dL_law_311 (by decide) rfl ?_
      refine j_aload_n (pc := 313) 11 dL_law_313 rfl rfl ?_
      refine j_iload (pc := 314) 0 dL_law_314 rfl ?_
      refine j_aload_n (pc := 316) 11 dL_law_316 rfl rfl ?_
      refine j_iconst (pc := 317) (v := 5) dL_law_317 (by decide) ?_
      refine j_callV (pc := 318) (own := RL) [sI 5] [sI x26, sR p1] dL_law_318 lc_L_35 lv_X8_count rfl (m_X8_count z p1 5 q25_g) ⟨⟨Nat.le_of_ble_eq_true rfl, Nat.le_of_ble_eq_true rfl⟩, Nat.le_of_ble_eq_true rfl⟩ rfl rfl (fun q27r q27g => ?_)
      refine j_isub (pc := 321) dL_law_321 ?_
      refine j_callV (pc := 322) (own := RL) [sI (x26 - q27r)] [] dL_law_322 lc_L_38 lv_X8_later rfl (m_X8_later z p1 (x26 - q27r) q27g) ⟨⟨Nat.le_of_ble_eq_true rfl, Nat.le_of_ble_eq_true rfl⟩, Nat.le_of_ble_eq_true rfl⟩ rfl rfl (fun q28r q28g => ?_)
      refine j_iload (pc := 325) 0 dL_law_325 rfl ?_
      refine j_icmp_eq (pc := 327) (tgt := 332) dL_law_327 (by decide) rfl (fun hc => ?_) (fun hc => ?_)
      · refine j_aload_n (pc := 332) 11 dL_law_332 rfl rfl ?_
        refine j_iload (pc := 333) 1 dL_law_333 rfl ?_
        refine j_iload (pc := 335) 0 dL_law_335 rfl ?_
        refine j_sipush (pc := 337) (v := 1000) dL_law_337 (by decide) ?_
        refine j_callV (pc := 340) (own := RL) [sI q25_1, sI x26, sI 1000] [] dL_law_340 lc_L_41 lv_X8_pick rfl (m_X8_pick z p1 q25_1 x26 1000 q28g) ⟨⟨Nat.le_of_ble_eq_true rfl, Nat.le_of_ble_eq_true rfl⟩, Nat.le_of_ble_eq_true rfl⟩ rfl rfl (fun q29r q29g => ?_)
        refine j_istore (pc := 343) (lv' := [(13, sI q29r), (12, sI x26), (11, sI q25_1), (10, sI v10), (9, sI v9), (8, sI v8), (7, sI p7), (6, sI p6), (5, sR p5), (4, sR p4), (3, sI p3), (2, sI p2), (1, sR p1), (0, sR p0)]) dL_law_343 (by decide) rfl ?_
        refine j_iload (pc := 345) 0 dL_law_345 rfl ?_
        refine j_iload (pc := 347) 4 dL_law_347 rfl ?_
        refine J.jn (σ := Int32) (fun q30 pr => J yL_law cL_law 17 (some .boolean) 10 380 X q29g 358 [(13, sI q29r), (12, sI x26), (11, sI q25_1), (10, sI v10), (9, sI v9), (8, sI v8), (7, sI p7), (6, sI p6), (5, sR p5), (4, sR p4), (3, sI p3), (2, sI p2), (1, sR p1), (0, sR p0)] [sI q30, sI q29r] pr) (fun K358 hK358 => ?_) (fun q30 => ?_)
        · refine j_if_ne (pc := 349) (tgt := 357) dL_law_349 (by decide) bi (fun hc => ?_) (fun hc => ?_)
          · refine j_iconst (pc := 357) (v := 0) dL_law_357 (by decide) ?_
            exact hK358 (0)
          · refine j_bipush (pc := 352) (v := 10) dL_law_352 (by decide) ?_
            refine j_goto (pc := 354) (tgt := 358) dL_law_354 (by decide) ?_
            exact hK358 (10)
        · refine j_icmp_eq (pc := 358) (tgt := 363) dL_law_358 (by decide) rfl (fun hc => ?_) (fun hc => ?_)
          · refine j_iinc (pc := 363) (v := (v9 + 1)) (lv' := [(9, sI (v9 + 1)), (13, sI q29r), (12, sI x26), (11, sI q25_1), (10, sI v10), (8, sI v8), (7, sI p7), (6, sI p6), (5, sR p5), (4, sR p4), (3, sI p3), (2, sI p2), (1, sR p1), (0, sR p0)]) 4 dL_law_363 rfl rfl (by decide) rfl ?_
            refine j_aload (pc := 366) 8 dL_law_366 rfl ?_
            refine j_iload (pc := 368) 3 dL_law_368 rfl ?_
            refine j_iconst (pc := 370) (v := (-1)) dL_law_370 (by decide) ?_
            refine j_astI (pc := 371) dL_law_371 rfl (fun g31 => ?_)
            refine j_aload_n (pc := 372) 12 dL_law_372 rfl rfl ?_
            refine j_iconst (pc := 373) (v := 0) dL_law_373 (by decide) ?_
            refine j_iconst (pc := 374) (v := 1) dL_law_374 (by decide) ?_
            refine j_callV (pc := 375) (own := RL) [sI 0, sI 1] [] dL_law_375 lc_L_45 lv_X8_quake rfl (m_X8_quake z p1 0 1 g31) ⟨⟨Nat.le_of_ble_eq_true rfl, Nat.le_of_ble_eq_true rfl⟩, Nat.le_of_ble_eq_true rfl⟩ rfl rfl (fun q32r q32g => ?_)
            refine j_istore (pc := 378) (lv' := [(14, sI q32r), (9, sI (v9 + 1)), (13, sI q29r), (12, sI x26), (11, sI q25_1), (10, sI v10), (8, sI v8), (7, sI p7), (6, sI p6), (5, sR p5), (4, sR p4), (3, sI p3), (2, sI p2), (1, sR p1), (0, sR p0)]) dL_law_378 (by decide) rfl ?_
            refine j_aload_n (pc := 380) 13 dL_law_380 rfl rfl ?_
            refine j_iconst (pc := 381) (v := 0) dL_law_381 (by decide) ?_
            refine j_iconst (pc := 382) (v := 0) dL_law_382 (by decide) ?_
            refine j_callV (pc := 383) (own := RL) [sI 0, sI 0] [] dL_law_383 lc_L_45 lv_X8_quake rfl (m_X8_quake z p1 0 0 q32g) ⟨⟨Nat.le_of_ble_eq_true rfl, Nat.le_of_ble_eq_true rfl⟩, Nat.le_of_ble_eq_true rfl⟩ rfl rfl (fun q33r q33g => ?_)
            refine j_iload (pc := 386) 1 dL_law_386 rfl ?_
            refine j_icmp_ne (pc := 388) (tgt := 435) dL_law_388 (by decide) rfl (fun hc => ?_) (fun hc => ?_)
            · refine j_iconst (pc := 435) (v := 0) dL_law_435 (by decide) ?_
              exact j_lawret dL_law_436 hX rfl
            · refine j_iload (pc := 391) 0 dL_law_391 rfl ?_
              refine j_iconst (pc := 393) (v := 1) dL_law_393 (by decide) ?_
              refine j_icmp_lt (pc := 394) (tgt := 435) dL_law_394 (by decide) rfl (fun hc => ?_) (fun hc => ?_)
              · refine j_iconst (pc := 435) (v := 0) dL_law_435 (by decide) ?_
                exact j_lawret dL_law_436 hX rfl
              · refine j_iload (pc := 397) 0 dL_law_397 rfl ?_
                refine j_iload (pc := 399) 6 dL_law_399 rfl ?_
                refine j_icmp_gt (pc := 401) (tgt := 435) dL_law_401 (by decide) rfl (fun hc => ?_) (fun hc => ?_)
                · refine j_iconst (pc := 435) (v := 0) dL_law_435 (by decide) ?_
                  exact j_lawret dL_law_436 hX rfl
                · refine j_aload_n (pc := 404) 13 dL_law_404 rfl rfl ?_
                  refine j_iconst (pc := 405) (v := 0) dL_law_405 (by decide) ?_
                  refine j_iload (pc := 406) 8 dL_law_406 rfl ?_
                  refine j_iload (pc := 408) 7 dL_law_408 rfl ?_
                  refine j_callV (pc := 410) (own := RL) [sI 0, sI p6, sI p7] [] dL_law_410 lc_L_48 lv_X8_holds rfl (m_X8_holds z p1 0 p6 p7 q33g) ⟨⟨Nat.le_of_ble_eq_true rfl, Nat.le_of_ble_eq_true rfl⟩, Nat.le_of_ble_eq_true rfl⟩ rfl rfl (fun q34r q34g => ?_)
                  refine j_iconst (pc := 413) (v := 1) dL_law_413 (by decide) ?_
                  refine j_icmp_ne (pc := 414) (tgt := 435) dL_law_414 (by decide) rfl (fun hc => ?_) (fun hc => ?_)
                  · refine j_iconst (pc := 435) (v := 0) dL_law_435 (by decide) ?_
                    exact j_lawret dL_law_436 hX rfl
                  · refine j_aload_n (pc := 417) 13 dL_law_417 rfl rfl ?_
                    refine j_iconst (pc := 418) (v := 0) dL_law_418 (by decide) ?_
                    refine j_iconst (pc := 419) (v := 4) dL_law_419 (by decide) ?_
                    refine j_callV (pc := 420) (own := RL) [sI 0, sI 4] [] dL_law_420 lc_L_45 lv_X8_quake rfl (m_X8_quake z p1 0 4 q34g) ⟨⟨Nat.le_of_ble_eq_true rfl, Nat.le_of_ble_eq_true rfl⟩, Nat.le_of_ble_eq_true rfl⟩ rfl rfl (fun q35r q35g => ?_)
                    refine j_if_ne (pc := 423) (tgt := 435) dL_law_423 (by decide) rfl (fun hc => ?_) (fun hc => ?_)
                    · refine j_iconst (pc := 435) (v := 0) dL_law_435 (by decide) ?_
                      exact j_lawret dL_law_436 hX rfl
                    · refine j_aload_n (pc := 426) 13 dL_law_426 rfl rfl ?_
                      refine j_iconst (pc := 427) (v := 3) dL_law_427 (by decide) ?_
                      refine j_callV (pc := 428) (own := RL) [sI 3] [] dL_law_428 lc_L_35 lv_X8_count rfl (m_X8_count z p1 3 q35g) ⟨⟨Nat.le_of_ble_eq_true rfl, Nat.le_of_ble_eq_true rfl⟩, Nat.le_of_ble_eq_true rfl⟩ rfl rfl (fun q36r q36g => ?_)
                      refine j_iconst (pc := 431) (v := 1) dL_law_431 (by decide) ?_
                      refine j_icmp_eq (pc := 432) (tgt := 437) dL_law_432 (by decide) rfl (fun hc => ?_) (fun hc => ?_)
                      · refine j_iload (pc := 437) 0 dL_law_437 rfl ?_
                        refine j_istore (pc := 439) (lv' := [(8, sI q32r), (14, sI q32r), (9, sI (v9 + 1)), (13, sI q29r), (12, sI x26), (11, sI q25_1), (10, sI v10), (7, sI p7), (6, sI p6), (5, sR p5), (4, sR p4), (3, sI p3), (2, sI p2), (1, sR p1), (0, sR p0)]) dL_law_439 (by decide) rfl ?_
                        refine j_aload_n (pc := 441) 13 dL_law_441 rfl rfl ?_
                        refine j_iconst (pc := 442) (v := 0) dL_law_442 (by decide) ?_
                        refine j_iconst (pc := 443) (v := 0) dL_law_443 (by decide) ?_
                        refine j_callV (pc := 444) (own := RL) [sI 0, sI 0] [] dL_law_444 lc_L_51 lv_X8_left rfl (m_X8_left z p1 0 0 q36g) ⟨⟨Nat.le_of_ble_eq_true rfl, Nat.le_of_ble_eq_true rfl⟩, Nat.le_of_ble_eq_true rfl⟩ rfl rfl (fun q37r q37g => ?_)
                        refine j_istore (pc := 447) (lv' := [(15, sI q37r), (8, sI q32r), (14, sI q32r), (9, sI (v9 + 1)), (13, sI q29r), (12, sI x26), (11, sI q25_1), (10, sI v10), (7, sI p7), (6, sI p6), (5, sR p5), (4, sR p4), (3, sI p3), (2, sI p2), (1, sR p1), (0, sR p0)]) dL_law_447 (by decide) rfl ?_
                        refine j_aload_n (pc := 449) 14 dL_law_449 rfl rfl ?_
                        refine j_iconst (pc := 450) (v := 0) dL_law_450 (by decide) ?_
                        refine j_iconst (pc := 451) (v := 0) dL_law_451 (by decide) ?_
                        refine j_callV (pc := 452) (own := RL) [sI 0, sI 0] [] dL_law_452 lc_L_54 lv_X8_late rfl (m_X8_late z p1 0 0 q37g) ⟨⟨Nat.le_of_ble_eq_true rfl, Nat.le_of_ble_eq_true rfl⟩, Nat.le_of_ble_eq_true rfl⟩ rfl rfl (fun q38r q38g => ?_)
                        refine j_istore (pc := 455) (lv' := [(16, sI q38r), (15, sI q37r), (8, sI q32r), (14, sI q32r), (9, sI (v9 + 1)), (13, sI q29r), (12, sI x26), (11, sI q25_1), (10, sI v10), (7, sI p7), (6, sI p6), (5, sR p5), (4, sR p4), (3, sI p3), (2, sI p2), (1, sR p1), (0, sR p0)]) dL_law_455 (by decide) rfl ?_
                        refine j_iload (pc := 457) 1 dL_law_457 rfl ?_
                        refine j_if_lt (pc := 459) (tgt := 489) dL_law_459 (by decide) rfl (fun hc => ?_) (fun hc => ?_)
                        · refine j_iconst (pc := 489) (v := 0) dL_law_489 (by decide) ?_
                          exact j_lawret dL_law_490 hX rfl
                        · refine j_iload (pc := 462) 0 dL_law_462 rfl ?_
                          refine j_if_lt (pc := 464) (tgt := 489) dL_law_464 (by decide) rfl (fun hc => ?_) (fun hc => ?_)
                          · refine j_iconst (pc := 489) (v := 0) dL_law_489 (by decide) ?_
                            exact j_lawret dL_law_490 hX rfl
                          · refine j_iload (pc := 467) 0 dL_law_467 rfl ?_
                            refine j_iconst (pc := 469) (v := 2) dL_law_469 (by decide) ?_
                            refine j_icmp_ne (pc := 470) (tgt := 478) dL_law_470 (by decide) rfl (fun hc => ?_) (fun hc => ?_)
                            · refine j_iload (pc := 478) 0 dL_law_478 rfl ?_
                              refine j_iconst (pc := 480) (v := 1) dL_law_480 (by decide) ?_
                              refine j_icmp_ne (pc := 481) (tgt := 491) dL_law_481 (by decide) rfl (fun hc => ?_) (fun hc => ?_)
                              · refine j_iload (pc := 491) 8 dL_law_491 rfl ?_
                                refine j_iconst (pc := 493) (v := 1) dL_law_493 (by decide) ?_
                                refine j_aload_n (pc := 494) 16 dL_law_494 rfl rfl ?_
                                refine j_bipush (pc := 495) (v := 26) dL_law_495 (by decide) ?_
                                refine j_iload (pc := 497) 4 dL_law_497 rfl ?_
                                refine j_iadd (pc := 499) dL_law_499 ?_
                                refine j_callC (pc := 500) (own := RL) [sR p0, sI (26 + (v9 + 1))] [sI 1, sI v10] dL_law_500 lc_L_12 ls_L_cell rfl hX.s (m_L_cell z L xs p0 (26 + (v9 + 1)) q38g) ⟨⟨Nat.le_of_ble_eq_true rfl, Nat.le_of_ble_eq_true rfl⟩, Nat.le_of_ble_eq_true rfl⟩ rfl rfl (fun q39r q39g => ?_)
                                refine j_bipush (pc := 503) (v := 7) dL_law_503 (by decide) ?_
                                refine j_callS (pc := 505) (own := RL) [sI q39r, sI 7] [sI 1, sI v10] dL_law_505 lc_L_18 ls_L_low rfl (m_L_low z q39r 7 q39g) ⟨⟨Nat.le_of_ble_eq_true rfl, Nat.le_of_ble_eq_true rfl⟩, Nat.le_of_ble_eq_true rfl⟩ rfl rfl (fun q40r q40g => ?_)
                                refine j_iadd (pc := 508) dL_law_508 ?_
                                refine j_iadd (pc := 509) dL_law_509 ?_
                                refine j_istore (pc := 510) (lv' := [(10, sI (v10 + (1 + q40r))), (16, sI q38r), (15, sI q37r), (8, sI q32r), (14, sI q32r), (9, sI (v9 + 1)), (13, sI q29r), (12, sI x26), (11, sI q25_1), (7, sI p7), (6, sI p6), (5, sR p5), (4, sR p4), (3, sI p3), (2, sI p2), (1, sR p1), (0, sR p0)]) dL_law_510 (by decide) rfl ?_
                                refine j_goto (pc := 512) (tgt := 237) dL_law_512 (by decide) ?_
                                refine J.sub [0, 5, 3, 9, 10, 11, 12, 13, 14, 15, 16] rfl ?_
                                exact hr (v10 + (1 + q40r)) (v9 + 1) q32r q40g
                              · refine j_iload (pc := 484) 1 dL_law_484 rfl ?_
                                refine j_if_le (pc := 486) (tgt := 491) dL_law_486 (by decide) rfl (fun hc => ?_) (fun hc => ?_)
                                · refine j_iload (pc := 491) 8 dL_law_491 rfl ?_
                                  refine j_iconst (pc := 493) (v := 1) dL_law_493 (by decide) ?_
                                  refine j_aload_n (pc := 494) 16 dL_law_494 rfl rfl ?_
                                  refine j_bipush (pc := 495) (v := 26) dL_law_495 (by decide) ?_
                                  refine j_iload (pc := 497) 4 dL_law_497 rfl ?_
                                  refine j_iadd (pc := 499) dL_law_499 ?_
                                  refine j_callC (pc := 500) (own := RL) [sR p0, sI (26 + (v9 + 1))] [sI 1, sI v10] dL_law_500 lc_L_12 ls_L_cell rfl hX.s (m_L_cell z L xs p0 (26 + (v9 + 1)) q38g) ⟨⟨Nat.le_of_ble_eq_true rfl, Nat.le_of_ble_eq_true rfl⟩, Nat.le_of_ble_eq_true rfl⟩ rfl rfl (fun q41r q41g => ?_)
                                  refine j_bipush (pc := 503) (v := 7) dL_law_503 (by decide) ?_
                                  refine j_callS (pc := 505) (own := RL) [sI q41r, sI 7] [sI 1, sI v10] dL_law_505 lc_L_18 ls_L_low rfl (m_L_low z q41r 7 q41g) ⟨⟨Nat.le_of_ble_eq_true rfl, Nat.le_of_ble_eq_true rfl⟩, Nat.le_of_ble_eq_true rfl⟩ rfl rfl (fun q42r q42g => ?_)
                                  refine j_iadd (pc := 508) dL_law_508 ?_
                                  refine j_iadd (pc := 509) dL_law_509 ?_
                                  refine j_istore (pc := 510) (lv' := [(10, sI (v10 + (1 + q42r))), (16, sI q38r), (15, sI q37r), (8, sI q32r), (14, sI q32r), (9, sI (v9 + 1)), (13, sI q29r), (12, sI x26), (11, sI q25_1), (7, sI p7), (6, sI p6), (5, sR p5), (4, sR p4), (3, sI p3), (2, sI p2), (1, sR p1), (0, sR p0)]) dL_law_510 (by decide) rfl ?_
                                  refine j_goto (pc := 512) (tgt := 237) dL_law_512 (by decide) ?_
                                  refine J.sub [0, 5, 3, 9, 10, 11, 12, 13, 14, 15, 16] rfl ?_
                                  exact hr (v10 + (1 + q42r)) (v9 + 1) q32r q42g
                                · refine j_iconst (pc := 489) (v := 0) dL_law_489 (by decide) ?_
                                  exact j_lawret dL_law_490 hX rfl
                            · refine j_iload (pc := 473) 1 dL_law_473 rfl ?_
                              refine j_if_eq (pc := 475) (tgt := 489) dL_law_475 (by decide) rfl (fun hc => ?_) (fun hc => ?_)
                              · refine j_iconst (pc := 489) (v := 0) dL_law_489 (by decide) ?_
                                exact j_lawret dL_law_490 hX rfl
                              · refine j_iload (pc := 478) 0 dL_law_478 rfl ?_
                                refine j_iconst (pc := 480) (v := 1) dL_law_480 (by decide) ?_
                                refine j_icmp_ne (pc := 481) (tgt := 491) dL_law_481 (by decide) rfl (fun hc => ?_) (fun hc => ?_)
                                · refine j_iload (pc := 491) 8 dL_law_491 rfl ?_
                                  refine j_iconst (pc := 493) (v := 1) dL_law_493 (by decide) ?_
                                  refine j_aload_n (pc := 494) 16 dL_law_494 rfl rfl ?_
                                  refine j_bipush (pc := 495) (v := 26) dL_law_495 (by decide) ?_
                                  refine j_iload (pc := 497) 4 dL_law_497 rfl ?_
                                  refine j_iadd (pc := 499) dL_law_499 ?_
                                  refine j_callC (pc := 500) (own := RL) [sR p0, sI (26 + (v9 + 1))] [sI 1, sI v10] dL_law_500 lc_L_12 ls_L_cell rfl hX.s (m_L_cell z L xs p0 (26 + (v9 + 1)) q38g) ⟨⟨Nat.le_of_ble_eq_true rfl, Nat.le_of_ble_eq_true rfl⟩, Nat.le_of_ble_eq_true rfl⟩ rfl rfl (fun q43r q43g => ?_)
                                  refine j_bipush (pc := 503) (v := 7) dL_law_503 (by decide) ?_
                                  refine j_callS (pc := 505) (own := RL) [sI q43r, sI 7] [sI 1, sI v10] dL_law_505 lc_L_18 ls_L_low rfl (m_L_low z q43r 7 q43g) ⟨⟨Nat.le_of_ble_eq_true rfl, Nat.le_of_ble_eq_true rfl⟩, Nat.le_of_ble_eq_true rfl⟩ rfl rfl (fun q44r q44g => ?_)
                                  refine j_iadd (pc := 508) dL_law_508 ?_
                                  refine j_iadd (pc := 509) dL_law_509 ?_
                                  refine j_istore (pc := 510) (lv' := [(10, sI (v10 + (1 + q44r))), (16, sI q38r), (15, sI q37r), (8, sI q32r), (14, sI q32r), (9, sI (v9 + 1)), (13, sI q29r), (12, sI x26), (11, sI q25_1), (7, sI p7), (6, sI p6), (5, sR p5), (4, sR p4), (3, sI p3), (2, sI p2), (1, sR p1), (0, sR p0)]) dL_law_510 (by decide) rfl ?_
                                  refine j_goto (pc := 512) (tgt := 237) dL_law_512 (by decide) ?_
                                  refine J.sub [0, 5, 3, 9, 10, 11, 12, 13, 14, 15, 16] rfl ?_
                                  exact hr (v10 + (1 + q44r)) (v9 + 1) q32r q44g
                                · refine j_iload (pc := 484) 1 dL_law_484 rfl ?_
                                  refine j_if_le (pc := 486) (tgt := 491) dL_law_486 (by decide) rfl (fun hc => ?_) (fun hc => ?_)
                                  · refine j_iload (pc := 491) 8 dL_law_491 rfl ?_
                                    refine j_iconst (pc := 493) (v := 1) dL_law_493 (by decide) ?_
                                    refine j_aload_n (pc := 494) 16 dL_law_494 rfl rfl ?_
                                    refine j_bipush (pc := 495) (v := 26) dL_law_495 (by decide) ?_
                                    refine j_iload (pc := 497) 4 dL_law_497 rfl ?_
                                    refine j_iadd (pc := 499) dL_law_499 ?_
                                    refine j_callC (pc := 500) (own := RL) [sR p0, sI (26 + (v9 + 1))] [sI 1, sI v10] dL_law_500 lc_L_12 ls_L_cell rfl hX.s (m_L_cell z L xs p0 (26 + (v9 + 1)) q38g) ⟨⟨Nat.le_of_ble_eq_true rfl, Nat.le_of_ble_eq_true rfl⟩, Nat.le_of_ble_eq_true rfl⟩ rfl rfl (fun q45r q45g => ?_)
                                    refine j_bipush (pc := 503) (v := 7) dL_law_503 (by decide) ?_
                                    refine j_callS (pc := 505) (own := RL) [sI q45r, sI 7] [sI 1, sI v10] dL_law_505 lc_L_18 ls_L_low rfl (m_L_low z q45r 7 q45g) ⟨⟨Nat.le_of_ble_eq_true rfl, Nat.le_of_ble_eq_true rfl⟩, Nat.le_of_ble_eq_true rfl⟩ rfl rfl (fun q46r q46g => ?_)
                                    refine j_iadd (pc := 508) dL_law_508 ?_
                                    refine j_iadd (pc := 509) dL_law_509 ?_
                                    refine j_istore (pc := 510) (lv' := [(10, sI (v10 + (1 + q46r))), (16, sI q38r), (15, sI q37r), (8, sI q32r), (14, sI q32r), (9, sI (v9 + 1)), (13, sI q29r), (12, sI x26), (11, sI q25_1), (7, sI p7), (6, sI p6), (5, sR p5), (4, sR p4), (3, sI p3), (2, sI p2), (1, sR p1), (0, sR p0)]) dL_law_510 (by decide) rfl ?_
                                    refine j_goto (pc := 512) (tgt := 237) dL_law_512 (by decide) ?_
                                    refine J.sub [0, 5, 3, 9, 10, 11, 12, 13, 14, 15, 16] rfl ?_
                                    exact hr (v10 + (1 + q46r)) (v9 + 1) q32r q46g
                                  · refine j_iconst (pc := 489) (v := 0) dL_law_489 (by decide) ?_
                                    exact j_lawret dL_law_490 hX rfl
                      · refine j_iconst (pc := 435) (v := 0) dL_law_435 (by decide) ?_
                        exact j_lawret dL_law_436 hX rfl
          · refine j_iconst (pc := 361) (v := 0) dL_law_361 (by decide) ?_
            exact j_lawret dL_law_362 hX rfl
      · refine j_iconst (pc := 330) (v := 0) dL_law_330 (by decide) ?_
        exact j_lawret dL_law_331 hX rfl
    · refine j_goto (pc := 303) (tgt := 515) dL_law_303 (by decide) ?_
      refine j_iload (pc := 515) 3 dL_law_515 rfl ?_
      refine j_iload_n (pc := 517) 9 dL_law_517 rfl rfl ?_
      refine j_icmp_ne (pc := 518) (tgt := 559) dL_law_518 (by decide) rfl (fun hc => ?_) (fun hc => ?_)
      · refine j_iconst (pc := 559) (v := 0) dL_law_559 (by decide) ?_
        exact j_lawret dL_law_560 hX rfl
      · refine j_aload_n (pc := 521) 11 dL_law_521 rfl rfl ?_
        refine j_sipush (pc := 522) (v := 500) dL_law_522 (by decide) ?_
        refine j_callV (pc := 525) (own := RL) [sI 500] [] dL_law_525 lc_L_38 lv_X8_later rfl (m_X8_later z p1 500 q25_g) ⟨⟨Nat.le_of_ble_eq_true rfl, Nat.le_of_ble_eq_true rfl⟩, Nat.le_of_ble_eq_true rfl⟩ rfl rfl (fun q47r q47g => ?_)
        refine j_if_le (pc := 528) (tgt := 559) dL_law_528 (by decide) rfl (fun hc => ?_) (fun hc => ?_)
        · refine j_iconst (pc := 559) (v := 0) dL_law_559 (by decide) ?_
          exact j_lawret dL_law_560 hX rfl
        · refine j_aload_n (pc := 531) 11 dL_law_531 rfl rfl ?_
          refine j_iconst (pc := 532) (v := 0) dL_law_532 (by decide) ?_
          refine j_iconst (pc := 533) (v := 1) dL_law_533 (by decide) ?_
          refine j_callV (pc := 534) (own := RL) [sI 0, sI 1] [] dL_law_534 lc_L_45 lv_X8_quake rfl (m_X8_quake z p1 0 1 q47g) ⟨⟨Nat.le_of_ble_eq_true rfl, Nat.le_of_ble_eq_true rfl⟩, Nat.le_of_ble_eq_true rfl⟩ rfl rfl (fun q48r q48g => ?_)
          refine j_iload (pc := 537) 4 dL_law_537 rfl ?_
          refine j_icmp_ne (pc := 539) (tgt := 559) dL_law_539 (by decide) rfl (fun hc => ?_) (fun hc => ?_)
          · refine j_iconst (pc := 559) (v := 0) dL_law_559 (by decide) ?_
            exact j_lawret dL_law_560 hX rfl
          · refine j_aload_n (pc := 542) 11 dL_law_542 rfl rfl ?_
            refine j_iconst (pc := 543) (v := 0) dL_law_543 (by decide) ?_
            refine j_iload (pc := 544) 6 dL_law_544 rfl ?_
            refine j_iload (pc := 546) 5 dL_law_546 rfl ?_
            refine j_callV (pc := 548) (own := RL) [sI 0, sI p6, sI p7] [] dL_law_548 lc_L_48 lv_X8_holds rfl (m_X8_holds z p1 0 p6 p7 q48g) ⟨⟨Nat.le_of_ble_eq_true rfl, Nat.le_of_ble_eq_true rfl⟩, Nat.le_of_ble_eq_true rfl⟩ rfl rfl (fun q49r q49g => ?_)
            refine j_iconst (pc := 551) (v := 1) dL_law_551 (by decide) ?_
            refine j_icmp_ne (pc := 552) (tgt := 559) dL_law_552 (by decide) rfl (fun hc => ?_) (fun hc => ?_)
            · refine j_iconst (pc := 559) (v := 0) dL_law_559 (by decide) ?_
              exact j_lawret dL_law_560 hX rfl
            · refine j_iconst (pc := 555) (v := 1) dL_law_555 (by decide) ?_
              refine j_goto (pc := 556) (tgt := 560) dL_law_556 (by decide) ?_
              exact j_lawret dL_law_560 hX rfl
set_option maxRecDepth 20000 in
theorem l_L_law_237 {X : Xt Int32} {L : Nat} {xs : Nat → Int32} (hX : IsL X L xs) (z : Nat) (p7 : Int32) (p6 : Int32) (p5 : Option Nm) (p4 : Option Nm) (p3 : Int32) (p2 : Int32) (p1 : Option Nm) (p0 : Option Nm) : ∀ (n : Nat) (v10 : Int32) (v9 : Int32) (v8 : Int32) (g : Hp), J yL_law cL_law 17 (some .boolean) 10 380 X g 237 [(10, sI v10), (9, sI v9), (8, sI v8), (7, sI p7), (6, sI p6), (5, sR p5), (4, sR p4), (3, sI p3), (2, sI p2), (1, sR p1), (0, sR p0)] [] (f_L_law_237_L z L xs p7 p6 p5 p4 p3 p2 p1 p0 n v10 v9 v8 g)
  | 0, _, _, _, _ => J.none
  | n + 1, v10, v9, v8, g => b_L_law_237 hX z p7 p6 p5 p4 p3 p2 p1 p0 _ (fun v10 v9 v8 g => l_L_law_237 hX z p7 p6 p5 p4 p3 p2 p1 p0 n v10 v9 v8 g) v10 v9 v8 g
set_option maxRecDepth 20000 in
theorem b_L_law_117 {X : Xt Int32} {L : Nat} {xs : Nat → Int32} (hX : IsL X L xs) (z : Nat) (p7 : Int32) (p6 : Int32) (p5 : Option Nm) (p4 : Option Nm) (p3 : Int32) (p2 : Int32) (p1 : Option Nm) (p0 : Option Nm) (rec : Int32 → Hp → Option (Int32 × Hp)) (hr : ∀ (v8 : Int32) (g : Hp), J yL_law cL_law 17 (some .boolean) 10 380 X g 117 [(8, sI v8), (7, sI p7), (6, sI p6), (5, sR p5), (4, sR p4), (3, sI p3), (2, sI p2), (1, sR p1), (0, sR p0)] [] (rec v8 g)) (v8 : Int32) (g : Hp) : J yL_law cL_law 17 (some .boolean) 10 380 X g 117 [(8, sI v8), (7, sI p7), (6, sI p6), (5, sR p5), (4, sR p4), (3, sI p3), (2, sI p2), (1, sR p1), (0, sR p0)] [] (f_L_law_117_b z L xs p7 p6 p5 p4 p3 p2 p1 p0 rec v8 g) := by
  unfold f_L_law_117_b
  refine j_iload (pc := 117) 0 dL_law_117 rfl ?_
  refine j_iload_n (pc := 119) 5 dL_law_119 rfl rfl ?_
  refine j_icmp_ge (pc := 120) (tgt := 226) dL_law_120 (by decide) rfl (fun hc => ?_) (fun hc => ?_)
  · refine j_sipush (pc := 226) (v := 145) dL_law_226 (by decide) ?_
    refine j_istore (pc := 229) (lv' := [(8, sI 145), (7, sI p7), (6, sI p6), (5, sR p5), (4, sR p4), (3, sI p3), (2, sI p2), (1, sR p1), (0, sR p0)]) dL_law_229 (by decide) rfl ?_
    refine j_iconst (pc := 231) (v := 0) dL_law_231 (by decide) ?_
    refine j_istore (pc := 232) (lv' := [(9, sI 0), (8, sI 145), (7, sI p7), (6, sI p6), (5, sR p5), (4, sR p4), (3, sI p3), (2, sI p2), (1, sR p1), (0, sR p0)]) dL_law_232 (by decide) rfl ?_
    refine j_iconst (pc := 234) (v := 0) dL_law_234 (by decide) ?_
    refine j_istore (pc := 235) (lv' := [(10, sI 0), (9, sI 0), (8, sI 145), (7, sI p7), (6, sI p6), (5, sR p5), (4, sR p4), (3, sI p3), (2, sI p2), (1, sR p1), (0, sR p0)]) dL_law_235 (by decide) rfl ?_
    exact l_L_law_237 hX z p7 p6 p5 p4 p3 p2 p1 p0 z 0 0 145 g
  · refine j_aload (pc := 123) 4 dL_law_123 rfl ?_
    refine j_iload (pc := 125) 0 dL_law_125 rfl ?_
    refine j_aload_n (pc := 127) 8 dL_law_127 rfl rfl ?_
    refine j_bipush (pc := 128) (v := 6) dL_law_128 (by decide) ?_
    refine j_iload (pc := 130) 0 dL_law_130 rfl ?_
    refine j_iadd (pc := 132) dL_law_132 ?_
    refine j_callC (pc := 133) (own := RL) [sR p0, sI (6 + v8)] [sI v8, sR p4] dL_law_133 lc_L_12 ls_L_cell rfl hX.s (m_L_cell z L xs p0 (6 + v8) g) ⟨⟨Nat.le_of_ble_eq_true rfl, Nat.le_of_ble_eq_true rfl⟩, Nat.le_of_ble_eq_true rfl⟩ rfl rfl (fun q51r q51g => ?_)
    refine j_sipush (pc := 136) (v := 144) dL_law_136 (by decide) ?_
    refine j_callS (pc := 139) (own := RL) [sI q51r, sI 144] [sI v8, sR p4] dL_law_139 lc_L_18 ls_L_low rfl (m_L_low z q51r 144 q51g) ⟨⟨Nat.le_of_ble_eq_true rfl, Nat.le_of_ble_eq_true rfl⟩, Nat.le_of_ble_eq_true rfl⟩ rfl rfl (fun q52r q52g => ?_)
    refine j_astI (pc := 142) dL_law_142 rfl (fun g53 => ?_)
    refine j_aload_n (pc := 143) 7 dL_law_143 rfl rfl ?_
    refine j_aload (pc := 144) 4 dL_law_144 rfl ?_
    refine j_iload (pc := 146) 0 dL_law_146 rfl ?_
    refine j_aldI (pc := 148) dL_law_148 rfl (fun x54 => ?_)
    refine j_callV (pc := 149) (own := RL) [sI x54] [] dL_law_149 lc_L_29 lv_X8_station rfl (m_X8_station z p1 x54 g53) ⟨⟨Nat.le_of_ble_eq_true rfl, Nat.le_of_ble_eq_true rfl⟩, Nat.le_of_ble_eq_true rfl⟩ rfl rfl (fun q55r q55g => ?_)
    refine j_iload (pc := 152) 0 dL_law_152 rfl ?_
    refine j_icmp_eq (pc := 154) (tgt := 159) dL_law_154 (by decide) rfl (fun hc => ?_) (fun hc => ?_)
    · refine j_aload (pc := 159) 3 dL_law_159 rfl ?_
      refine j_iload (pc := 161) 0 dL_law_161 rfl ?_
      refine j_iload (pc := 163) 1 dL_law_163 rfl ?_
      refine j_aload_n (pc := 165) 7 dL_law_165 rfl rfl ?_
      refine j_iload (pc := 166) 2 dL_law_166 rfl ?_
      refine j_aload (pc := 168) 4 dL_law_168 rfl ?_
      refine j_iload (pc := 170) 0 dL_law_170 rfl ?_
      refine j_aldI (pc := 172) dL_law_172 rfl (fun x56 => ?_)
      refine j_callV (pc := 173) (own := RL) [sI p6, sI x56] [sI p7, sI v8, sR p5] dL_law_173 lc_L_32 lv_X8_travel rfl (m_X8_travel z p1 p6 x56 q55g) ⟨⟨Nat.le_of_ble_eq_true rfl, Nat.le_of_ble_eq_true rfl⟩, Nat.le_of_ble_eq_true rfl⟩ rfl rfl (fun q57r q57g => ?_)
      refine j_iadd (pc := 176) dL_law_176 ?_
      refine j_aload_n (pc := 177) 8 dL_law_177 rfl rfl ?_
      refine j_bipush (pc := 178) (v := 16) dL_law_178 (by decide) ?_
      refine j_iload (pc := 180) 0 dL_law_180 rfl ?_
      refine j_iadd (pc := 182) dL_law_182 ?_
      refine j_callC (pc := 183) (own := RL) [sR p0, sI (16 + v8)] [sI (p7 + q57r), sI v8, sR p5] dL_law_183 lc_L_12 ls_L_cell rfl hX.s (m_L_cell z L xs p0 (16 + v8) q57g) ⟨⟨Nat.le_of_ble_eq_true rfl, Nat.le_of_ble_eq_true rfl⟩, Nat.le_of_ble_eq_true rfl⟩ rfl rfl (fun q58r q58g => ?_)
      refine j_iconst (pc := 186) (v := 2) dL_law_186 (by decide) ?_
      refine j_iload_n (pc := 187) 6 dL_law_187 rfl rfl ?_
      refine j_imul (pc := 188) dL_law_188 ?_
      refine j_iconst (pc := 189) (v := 1) dL_law_189 (by decide) ?_
      refine j_iadd (pc := 190) dL_law_190 ?_
      refine j_callS (pc := 191) (own := RL) [sI q58r, sI ((2 * p2) + 1)] [sI (p7 + q57r), sI v8, sR p5] dL_law_191 lc_L_18 ls_L_low rfl (m_L_low z q58r ((2 * p2) + 1) q58g) ⟨⟨Nat.le_of_ble_eq_true rfl, Nat.le_of_ble_eq_true rfl⟩, Nat.le_of_ble_eq_true rfl⟩ rfl rfl (fun q59r q59g => ?_)
      refine j_iadd (pc := 194) dL_law_194 ?_
      refine j_iload_n (pc := 195) 6 dL_law_195 rfl rfl ?_
      refine j_isub (pc := 196) dL_law_196 ?_
      refine j_astI (pc := 197) dL_law_197 rfl (fun g60 => ?_)
      refine j_aload (pc := 198) 3 dL_law_198 rfl ?_
      refine j_iload (pc := 200) 0 dL_law_200 rfl ?_
      refine j_aload (pc := 202) 3 dL_law_202 rfl ?_
      refine j_iload (pc := 204) 0 dL_law_204 rfl ?_
      refine j_aldI (pc := 206) dL_law_206 rfl (fun x61 => ?_)
      refine j_if_ge (pc := 207) (tgt := 214) dL_law_207 (by decide) rfl (fun hc => ?_) (fun hc => ?_)
      · refine j_aload (pc := 214) 3 dL_law_214 rfl ?_
        refine j_iload (pc := 216) 0 dL_law_216 rfl ?_
        refine j_aldI (pc := 218) dL_law_218 rfl (fun x62 => ?_)
        refine j_astI (pc := 219) dL_law_219 rfl (fun g63 => ?_)
        refine j_iinc (pc := 220) (v := (v8 + 1)) (lv' := [(8, sI (v8 + 1)), (7, sI p7), (6, sI p6), (5, sR p5), (4, sR p4), (3, sI p3), (2, sI p2), (1, sR p1), (0, sR p0)]) 0 dL_law_220 rfl rfl (by decide) rfl ?_
        refine j_goto (pc := 223) (tgt := 117) dL_law_223 (by decide) ?_
        exact hr (v8 + 1) g63
      · refine j_iconst (pc := 210) (v := 0) dL_law_210 (by decide) ?_
        refine j_goto (pc := 211) (tgt := 219) dL_law_211 (by decide) ?_
        refine j_astI (pc := 219) dL_law_219 rfl (fun g64 => ?_)
        refine j_iinc (pc := 220) (v := (v8 + 1)) (lv' := [(8, sI (v8 + 1)), (7, sI p7), (6, sI p6), (5, sR p5), (4, sR p4), (3, sI p3), (2, sI p2), (1, sR p1), (0, sR p0)]) 0 dL_law_220 rfl rfl (by decide) rfl ?_
        refine j_goto (pc := 223) (tgt := 117) dL_law_223 (by decide) ?_
        exact hr (v8 + 1) g64
    · refine j_iconst (pc := 157) (v := 0) dL_law_157 (by decide) ?_
      exact j_lawret dL_law_158 hX rfl
set_option maxRecDepth 20000 in
theorem l_L_law_117 {X : Xt Int32} {L : Nat} {xs : Nat → Int32} (hX : IsL X L xs) (z : Nat) (p7 : Int32) (p6 : Int32) (p5 : Option Nm) (p4 : Option Nm) (p3 : Int32) (p2 : Int32) (p1 : Option Nm) (p0 : Option Nm) : ∀ (n : Nat) (v8 : Int32) (g : Hp), J yL_law cL_law 17 (some .boolean) 10 380 X g 117 [(8, sI v8), (7, sI p7), (6, sI p6), (5, sR p5), (4, sR p4), (3, sI p3), (2, sI p2), (1, sR p1), (0, sR p0)] [] (f_L_law_117_L z L xs p7 p6 p5 p4 p3 p2 p1 p0 n v8 g)
  | 0, _, _ => J.none
  | n + 1, v8, g => b_L_law_117 hX z p7 p6 p5 p4 p3 p2 p1 p0 _ (fun v8 g => l_L_law_117 hX z p7 p6 p5 p4 p3 p2 p1 p0 n v8 g) v8 g
set_option maxRecDepth 20000 in
theorem m_L_law {X : Xt Int32} {L : Nat} {xs : Nat → Int32} (hX : IsL X L xs) (z : Nat) (a0 : Option Nm) (g : Hp) : J yL_law cL_law 17 (some .boolean) 10 380 X g 0 [(0, sR a0)] [] (f_L_law z L xs a0 g) := by
  unfold f_L_law
  refine j_mkO (pc := 0) (own := RL) dL_law_0 ln_L_9 rfl rfl (fun q1r q1g => ?_)
  refine j_dup (pc := 3) dL_law_3 rfl ?_
  refine j_callI (pc := 4) (own := RL) [] [sR q1r] dL_law_4 lc_L_11 li_X8_init rfl (m_X8_init z q1r q1g) ⟨⟨Nat.le_of_ble_eq_true rfl, Nat.le_of_ble_eq_true rfl⟩, Nat.le_of_ble_eq_true rfl⟩ rfl rfl (fun q2r q2g => ?_)
  refine j_astore_n (pc := 7) (lv' := [(1, sR q1r), (0, sR a0)]) dL_law_7 rfl (by decide) rfl ?_
  refine j_aload_n (pc := 8) 1 dL_law_8 rfl rfl ?_
  refine j_iconst (pc := 9) (v := 0) dL_law_9 (by decide) ?_
  refine j_callC (pc := 10) (own := RL) [sR a0, sI 0] [] dL_law_10 lc_L_12 ls_L_cell rfl hX.s (m_L_cell z L xs a0 0 q2g) ⟨⟨Nat.le_of_ble_eq_true rfl, Nat.le_of_ble_eq_true rfl⟩, Nat.le_of_ble_eq_true rfl⟩ rfl rfl (fun q3r q3g => ?_)
  refine j_bipush (pc := 13) (v := 8) dL_law_13 (by decide) ?_
  refine j_callS (pc := 15) (own := RL) [sI q3r, sI 8] [] dL_law_15 lc_L_18 ls_L_low rfl (m_L_low z q3r 8 q3g) ⟨⟨Nat.le_of_ble_eq_true rfl, Nat.le_of_ble_eq_true rfl⟩, Nat.le_of_ble_eq_true rfl⟩ rfl rfl (fun q4r q4g => ?_)
  refine j_istore_n (pc := 18) (lv' := [(2, sI q4r), (1, sR q1r), (0, sR a0)]) dL_law_18 rfl (by decide) rfl ?_
  refine j_iconst (pc := 19) (v := 2) dL_law_19 (by decide) ?_
  refine j_aload_n (pc := 20) 2 dL_law_20 rfl rfl ?_
  refine j_iconst (pc := 21) (v := 1) dL_law_21 (by decide) ?_
  refine j_callC (pc := 22) (own := RL) [sR a0, sI 1] [sI 2] dL_law_22 lc_L_12 ls_L_cell rfl hX.s (m_L_cell z L xs a0 1 q4g) ⟨⟨Nat.le_of_ble_eq_true rfl, Nat.le_of_ble_eq_true rfl⟩, Nat.le_of_ble_eq_true rfl⟩ rfl rfl (fun q5r q5g => ?_)
  refine j_bipush (pc := 25) (v := 7) dL_law_25 (by decide) ?_
  refine j_callS (pc := 27) (own := RL) [sI q5r, sI 7] [sI 2] dL_law_27 lc_L_18 ls_L_low rfl (m_L_low z q5r 7 q5g) ⟨⟨Nat.le_of_ble_eq_true rfl, Nat.le_of_ble_eq_true rfl⟩, Nat.le_of_ble_eq_true rfl⟩ rfl rfl (fun q6r q6g => ?_)
  refine j_iadd (pc := 30) dL_law_30 ?_
  refine j_istore_n (pc := 31) (lv' := [(3, sI (2 + q6r)), (2, sI q4r), (1, sR q1r), (0, sR a0)]) dL_law_31 rfl (by decide) rfl ?_
  refine j_aload_n (pc := 32) 2 dL_law_32 rfl rfl ?_
  refine j_iconst (pc := 33) (v := 1) dL_law_33 (by decide) ?_
  refine j_aload_n (pc := 34) 3 dL_law_34 rfl rfl ?_
  refine j_iconst (pc := 35) (v := 2) dL_law_35 (by decide) ?_
  refine j_callC (pc := 36) (own := RL) [sR a0, sI 2] [sI 1, sR q1r] dL_law_36 lc_L_12 ls_L_cell rfl hX.s (m_L_cell z L xs a0 2 q6g) ⟨⟨Nat.le_of_ble_eq_true rfl, Nat.le_of_ble_eq_true rfl⟩, Nat.le_of_ble_eq_true rfl⟩ rfl rfl (fun q7r q7g => ?_)
  refine j_sipush (pc := 39) (v := 300) dL_law_39 (by decide) ?_
  refine j_callS (pc := 42) (own := RL) [sI q7r, sI 300] [sI 1, sR q1r] dL_law_42 lc_L_18 ls_L_low rfl (m_L_low z q7r 300 q7g) ⟨⟨Nat.le_of_ble_eq_true rfl, Nat.le_of_ble_eq_true rfl⟩, Nat.le_of_ble_eq_true rfl⟩ rfl rfl (fun q8r q8g => ?_)
  refine j_iadd (pc := 45) dL_law_45 ?_
  refine j_iload_n (pc := 46) 1 dL_law_46 rfl rfl ?_
  refine j_callV (pc := 47) (own := RL) [sI (1 + q8r), sI q4r] [] dL_law_47 lc_L_22 lv_X8_rule rfl (m_X8_rule z q1r (1 + q8r) q4r q8g) ⟨⟨Nat.le_of_ble_eq_true rfl, Nat.le_of_ble_eq_true rfl⟩, Nat.le_of_ble_eq_true rfl⟩ rfl rfl (fun q9r q9g => ?_)
  refine j_iconst (pc := 50) (v := 1) dL_law_50 (by decide) ?_
  refine j_icmp_ne (pc := 51) (tgt := 72) dL_law_51 (by decide) rfl (fun hc => ?_) (fun hc => ?_)
  · refine j_iconst (pc := 72) (v := 0) dL_law_72 (by decide) ?_
    exact j_lawret dL_law_73 hX rfl
  · refine j_aload_n (pc := 54) 2 dL_law_54 rfl rfl ?_
    refine j_aload_n (pc := 55) 3 dL_law_55 rfl rfl ?_
    refine j_iconst (pc := 56) (v := 3) dL_law_56 (by decide) ?_
    refine j_callC (pc := 57) (own := RL) [sR a0, sI 3] [sR q1r] dL_law_57 lc_L_12 ls_L_cell rfl hX.s (m_L_cell z L xs a0 3 q9g) ⟨⟨Nat.le_of_ble_eq_true rfl, Nat.le_of_ble_eq_true rfl⟩, Nat.le_of_ble_eq_true rfl⟩ rfl rfl (fun q10r q10g => ?_)
    refine j_sipush (pc := 60) (v := 144) dL_law_60 (by decide) ?_
    refine j_callS (pc := 63) (own := RL) [sI q10r, sI 144] [sR q1r] dL_law_63 lc_L_18 ls_L_low rfl (m_L_low z q10r 144 q10g) ⟨⟨Nat.le_of_ble_eq_true rfl, Nat.le_of_ble_eq_true rfl⟩, Nat.le_of_ble_eq_true rfl⟩ rfl rfl (fun q11r q11g => ?_)
    refine j_callV (pc := 66) (own := RL) [sI q11r] [] dL_law_66 lc_L_25 lv_X8_town rfl (m_X8_town z q1r q11r q11g) ⟨⟨Nat.le_of_ble_eq_true rfl, Nat.le_of_ble_eq_true rfl⟩, Nat.le_of_ble_eq_true rfl⟩ rfl rfl (fun q12r q12g => ?_)
    refine j_if_eq (pc := 69) (tgt := 74) dL_law_69 (by decide) rfl (fun hc => ?_) (fun hc => ?_)
    · refine j_bipush (pc := 74) (v := 9) dL_law_74 (by decide) ?_
      refine j_mkI (pc := 76) dL_law_76 lA_int rfl (fun q13r q13g => ?_)
      refine j_astore (pc := 78) (lv' := [(4, sR q13r), (3, sI (2 + q6r)), (2, sI q4r), (1, sR q1r), (0, sR a0)]) dL_law_78 (by decide) rfl ?_
      refine j_bipush (pc := 80) (v := 9) dL_law_80 (by decide) ?_
      refine j_mkI (pc := 82) dL_law_82 lA_int rfl (fun q14r q14g => ?_)
      refine j_astore (pc := 84) (lv' := [(5, sR q14r), (4, sR q13r), (3, sI (2 + q6r)), (2, sI q4r), (1, sR q1r), (0, sR a0)]) dL_law_84 (by decide) rfl ?_
      refine j_aload_n (pc := 86) 5 dL_law_86 rfl rfl ?_
      refine j_iconst (pc := 87) (v := 4) dL_law_87 (by decide) ?_
      refine j_callC (pc := 88) (own := RL) [sR a0, sI 4] [] dL_law_88 lc_L_12 ls_L_cell rfl hX.s (m_L_cell z L xs a0 4 q14g) ⟨⟨Nat.le_of_ble_eq_true rfl, Nat.le_of_ble_eq_true rfl⟩, Nat.le_of_ble_eq_true rfl⟩ rfl rfl (fun q15r q15g => ?_)
      refine j_sipush (pc := 91) (v := 144) dL_law_91 (by decide) ?_
      refine j_callS (pc := 94) (own := RL) [sI q15r, sI 144] [] dL_law_94 lc_L_18 ls_L_low rfl (m_L_low z q15r 144 q15g) ⟨⟨Nat.le_of_ble_eq_true rfl, Nat.le_of_ble_eq_true rfl⟩, Nat.le_of_ble_eq_true rfl⟩ rfl rfl (fun q16r q16g => ?_)
      refine j_istore (pc := 97) (lv' := [(6, sI q16r), (5, sR q14r), (4, sR q13r), (3, sI (2 + q6r)), (2, sI q4r), (1, sR q1r), (0, sR a0)]) dL_law_97 (by decide) rfl ?_
      refine j_bipush (pc := 99) (v := 10) dL_law_99 (by decide) ?_
      refine j_aload_n (pc := 101) 6 dL_law_101 rfl rfl ?_
      refine j_iconst (pc := 102) (v := 5) dL_law_102 (by decide) ?_
      refine j_callC (pc := 103) (own := RL) [sR a0, sI 5] [sI 10] dL_law_103 lc_L_12 ls_L_cell rfl hX.s (m_L_cell z L xs a0 5 q16g) ⟨⟨Nat.le_of_ble_eq_true rfl, Nat.le_of_ble_eq_true rfl⟩, Nat.le_of_ble_eq_true rfl⟩ rfl rfl (fun q17r q17g => ?_)
      refine j_bipush (pc := 106) (v := 50) dL_law_106 (by decide) ?_
      refine j_callS (pc := 108) (own := RL) [sI q17r, sI 50] [sI 10] dL_law_108 lc_L_18 ls_L_low rfl (m_L_low z q17r 50 q17g) ⟨⟨Nat.le_of_ble_eq_true rfl, Nat.le_of_ble_eq_true rfl⟩, Nat.le_of_ble_eq_true rfl⟩ rfl rfl (fun q18r q18g => ?_)
      refine j_iadd (pc := 111) dL_law_111 ?_
      refine j_istore (pc := 112) (lv' := [(7, sI (10 + q18r)), (6, sI q16r), (5, sR q14r), (4, sR q13r), (3, sI (2 + q6r)), (2, sI q4r), (1, sR q1r), (0, sR a0)]) dL_law_112 (by decide) rfl ?_
      refine j_iconst (pc := 114) (v := 0) dL_law_114 (by decide) ?_
      refine j_istore (pc := 115) (lv' := [(8, sI 0), (7, sI (10 + q18r)), (6, sI q16r), (5, sR q14r), (4, sR q13r), (3, sI (2 + q6r)), (2, sI q4r), (1, sR q1r), (0, sR a0)]) dL_law_115 (by decide) rfl ?_
      exact l_L_law_117 hX z (10 + q18r) q16r q14r q13r (2 + q6r) q4r q1r a0 z 0 q18g
    · refine j_iconst (pc := 72) (v := 0) dL_law_72 (by decide) ?_
      exact j_lawret dL_law_73 hX rfl
end
section
/-! plain programs: what they come to -/
def OK {α : Type} (pr : Option α) (Q : α → Prop) : Prop := ∃ a, pr = some a ∧ Q a
theorem OK.of {α : Type} {pr : Option α} {Q : α → Prop} {a : α} (h : pr = some a) (hq : Q a) : OK pr Q := ⟨a, h, hq⟩
theorem OK.mono {α : Type} {pr : Option α} {Q Q2 : α → Prop} (h : OK pr Q) (hq : ∀ a, Q a → Q2 a) : OK pr Q2 := by
  obtain ⟨a, e, q⟩ := h
  exact ⟨a, e, hq a q⟩
theorem ok_some {α : Type} {a : α} {Q : α → Prop} : OK (some a) Q ↔ Q a := ⟨fun ⟨_, e, q⟩ => by cases e; exact q, fun q => ⟨a, rfl, q⟩⟩
theorem ok_bind {α β : Type} {A : Option α} {F : α → Option β} {Q : β → Prop} : OK (A.bind F) Q ↔ OK A (fun a => OK (F a) Q) := by
  cases A with
  | none => exact ⟨(fun ⟨_, e, _⟩ => nomatch e), (fun ⟨_, e, _⟩ => nomatch e)⟩
  | some a => rw [ok_some]; exact Iff.rfl
theorem OK.bind {α β : Type} {A : Option α} {F : α → Option β} {Q : β → Prop} {P : α → Prop} (h : OK A P) (k : ∀ a, P a → OK (F a) Q) : OK (A.bind F) Q := ok_bind.mpr (h.mono k)
theorem ok_ite {α : Type} {c : Prop} [Decidable c] {A B : Option α} {Q : α → Prop} : OK (if c then A else B) Q ↔ (c → OK A Q) ∧ (¬ c → OK B Q) := by
  by_cases h : c
  · simp [h]
  · simp [h]
theorem OK.ite {α : Type} {c : Prop} [Decidable c] {A B : Option α} {Q : α → Prop} (h1 : c → OK A Q) (h2 : ¬ c → OK B Q) : OK (if c then A else B) Q := ok_ite.mpr ⟨h1, h2⟩
/-! numbers -/
def iI (x : Int) : Int32 := Int32.ofInt x
theorem iI_add (x y : Int) : iI x + iI y = iI (x + y) := (Int32.ofInt_add x y).symm
theorem iI_sub (x y : Int) : iI x - iI y = iI (x - y) := (Int32.ofInt_sub x y).symm
theorem iI_mul (x y : Int) : iI x * iI y = iI (x * y) := (Int32.ofInt_mul x y).symm
theorem iI_neg (x : Int) : - iI x = iI (-x) := (Int32.ofInt_neg x).symm
theorem nI_iI (n : Nat) : nI n = iI (n : Int) := by
  apply Int32.toBitVec_inj.mp
  simp [nI, iI, Int32.ofNat, Int32.ofInt]
theorem iI_toInt {x : Int} (h1 : -2147483648 ≤ x) (h2 : x < 2147483648) : (iI x).toInt = x := Int32.toInt_ofInt_of_le h1 h2
theorem iI_le {x y : Int} (h1 : -2147483648 ≤ x) (h2 : x < 2147483648) (h3 : -2147483648 ≤ y) (h4 : y < 2147483648) : iI x ≤ iI y ↔ x ≤ y := by
  rw [Int32.le_iff_toInt_le, iI_toInt h1 h2, iI_toInt h3 h4]
theorem iI_lt {x y : Int} (h1 : -2147483648 ≤ x) (h2 : x < 2147483648) (h3 : -2147483648 ≤ y) (h4 : y < 2147483648) : iI x < iI y ↔ x < y := by
  rw [Int32.lt_iff_toInt_lt, iI_toInt h1 h2, iI_toInt h3 h4]
theorem iI_eq {x y : Int} (h1 : -2147483648 ≤ x) (h2 : x < 2147483648) (h3 : -2147483648 ≤ y) (h4 : y < 2147483648) : iI x = iI y ↔ x = y := by
  constructor
  · intro h
    have := congrArg Int32.toInt h
    rwa [iI_toInt h1 h2, iI_toInt h3 h4] at this
  · intro h; rw [h]
theorem lit_nI (n : Nat) : (OfNat.ofNat n : Int32) = nI n := rfl
/-! whole roots -/
def isq : Nat → Nat
  | 0 => 0
  | n + 1 => if (isq n + 1) * (isq n + 1) ≤ n + 1 then isq n + 1 else isq n
theorem isq_spec : ∀ n : Nat, isq n * isq n ≤ n ∧ n < (isq n + 1) * (isq n + 1)
  | 0 => by simp [isq]
  | n + 1 => by
    obtain ⟨h1, h2⟩ := isq_spec n
    unfold isq
    split
    · rename_i h
      refine ⟨h, ?_⟩
      have e : (isq n + 1 + 1) * (isq n + 1 + 1) = (isq n + 1) * (isq n + 1) + 2 * (isq n + 1) + 1 := by
        simp only [Nat.mul_add, Nat.add_mul]; omega
      omega
    · rename_i h
      exact ⟨by omega, by omega⟩
theorem isq_uniq {n t : Nat} (h1 : t * t ≤ n) (h2 : n < (t + 1) * (t + 1)) : t = isq n := by
  obtain ⟨g1, g2⟩ := isq_spec n
  rcases Nat.lt_trichotomy t (isq n) with h | h | h
  · have := Nat.mul_le_mul (show t + 1 ≤ isq n from h) (show t + 1 ≤ isq n from h)
    omega
  · exact h
  · have := Nat.mul_le_mul (show isq n + 1 ≤ t from h) (show isq n + 1 ≤ t from h)
    omega
theorem isq_lt {n k : Nat} (h : n < k * k) : isq n < k := by
  obtain ⟨g1, g2⟩ := isq_spec n
  rcases Nat.lt_or_ge (isq n) k with h1 | h1
  · exact h1
  · have := Nat.mul_le_mul h1 h1
    omega
def sq (a b : Nat) : Nat := (a - b + (b - a)) * (a - b + (b - a))
theorem nI_sq (a b : Nat) : (nI a - nI b) * (nI a - nI b) = nI (sq a b) := by
  rcases Nat.le_total b a with h | h
  · rw [pk_sub h, pk_mul]
    have : b - a = 0 := Nat.sub_eq_zero_of_le h
    simp [sq, this]
  · have e : nI a - nI b = - nI (b - a) := by
      rw [nI_iI, nI_iI, nI_iI, iI_sub, iI_neg]
      congr 1
      omega
    have : a - b = 0 := Nat.sub_eq_zero_of_le h
    rw [e]
    simp only [nI_iI, iI_neg, iI_mul, sq, this, Nat.zero_add]
    congr 1
    rw [Int.neg_mul_neg]
    norm_cast
/-- how long shaking takes -/
def tv (q a b : Nat) : Nat := isq (q * (sq (a % 12) (b % 12) + sq (a / 12) (b / 12)))
theorem sq_le {a b : Nat} (ha : a ≤ 11) (hb : b ≤ 11) : sq a b ≤ 121 := by
  have h : a - b + (b - a) ≤ 11 := by omega
  have := Nat.mul_le_mul h h
  exact this
theorem tv_arg {q a b : Nat} (hq : q ≤ 400) (ha : a < 144) (hb : b < 144) : q * (sq (a % 12) (b % 12) + sq (a / 12) (b / 12)) ≤ 96800 := by
  have h1 := sq_le (a := a % 12) (b := b % 12) (by omega) (by omega)
  have h2 := sq_le (a := a / 12) (b := b / 12) (by omega) (by omega)
  have := Nat.mul_le_mul hq (show sq (a % 12) (b % 12) + sq (a / 12) (b / 12) ≤ 242 by omega)
  omega
theorem tv_lt {q a b : Nat} (hq : q ≤ 400) (ha : a < 144) (hb : b < 144) : tv q a b < 312 := isq_lt (Nat.lt_of_le_of_lt (tv_arg hq ha hb) (by decide))
end
section
/-! the model's cells as a table V : code, place; the heap with this table in its model's cells -/
abbrev VV : Type := Nat → Nat → Int32
abbrev wM (g : Hp) (_ : VV) : Hp := g
def vs (V : VV) (c k : Nat) (v : Int32) : VV := fun c' k' => if c' = c ∧ k' = k then v else V c' k'
theorem vs_ne {V : VV} {c k c' : Nat} {v : Int32} (h : c' ≠ c) : vs V c k v c' = V c' := by funext j; simp [vs, h]
theorem vs_eq {V : VV} {c k : Nat} {v : Int32} : vs V c k v c k = v := by simp [vs]
theorem vs_nk {V : VV} {c k c' k' : Nat} {v : Int32} (h : k' ≠ k) : vs V c k v c' k' = V c' k' := by simp [vs, h]
def SM (_ : Hp) : Prop := True
theorem wM_X {g : Hp} {V : VV} {n : Nm} (_ : n.1 ≠ 10) (_ : n.1 < 40) : gI (wM g V) n = gI g n := rfl
theorem wM_R {g : Hp} {V : VV} : gR (wM g V) = gR g := rfl
theorem wM_N {g : Hp} {V : VV} : gN (wM g V) = gN g := rfl
theorem wM_L {g : Hp} {V : VV} : gL (wM g V) = gL g := rfl
theorem vp_n {n N : Nat} (h : n < N) (hN : N < 2147483648) : vp_in (nI n) N := vp_in_nI h (by omega)
theorem nI_cl {n : Nat} (h : n < 2147483648) : (nI n).toNatClampNeg = n := nI_clamp (by omega)
theorem ick_X {α : Type} {P : Option α} {c i : Nat} : ick (some (c, i)) c P = P := by simp [ick]
/-- within bounds: 1, 0 -/
def inB (a lo hi : Int32) : Int32 := if a < lo then 0 else if hi < a then 0 else 1
theorem inB_01 (a lo hi : Int32) : inB a lo hi = 0 ∨ inB a lo hi = 1 := by unfold inB; split; exact Or.inl rfl; split; exact Or.inl rfl; exact Or.inr rfl
theorem rtZ_01 {x : Int32} {g : Hp} (h : x = 0 ∨ x = 1) : rtZ x g = some (x, g) := by simp [rtZ, h]
theorem rtZ_0 {g : Hp} : rtZ 0 g = some (0, g) := rtZ_01 (Or.inl rfl)
theorem rtZ_1 {g : Hp} : rtZ 1 g = some (1, g) := rtZ_01 (Or.inr rfl)
theorem inB_ne {a lo hi : Int32} (h : ¬ inB a lo hi = 0) : lo ≤ a ∧ a ≤ hi := by
  unfold inB at h
  by_cases h1 : a < lo
  · simp [h1] at h
  · by_cases h2 : hi < a
    · simp [h1, h2] at h
    · exact ⟨Int32.not_lt.mp h1, Int32.not_lt.mp h2⟩
theorem inB_nI {a : Int32} {n : Nat} (hn : n < 1073741824) (h : ¬ inB a 0 (nI n - 1) = 0) : ∃ i, i < n ∧ a = nI i := by
  obtain ⟨h1, h2⟩ := inB_ne h
  obtain ⟨j, hj, rfl⟩ := nI_of (x := a) (Int32.not_lt.mpr h1)
  refine ⟨j, ?_, rfl⟩
  cases n with
  | zero =>
    exfalso
    have e : nI 0 - 1 = iI (-1) := by decide
    rw [e, nI_iI, iI_le (by omega) (by omega) (by omega) (by omega)] at h2
    omega
  | succ n =>
    rw [nI_pred, nI_leI (by omega) (by omega)] at h2
    omega
theorem inB_nIr {a : Int32} {m : Nat} (hm : m < 1073741824) (h : ¬ inB a 0 (nI m) = 0) : ∃ i, i ≤ m ∧ a = nI i := by
  obtain ⟨h1, h2⟩ := inB_ne h
  obtain ⟨j, hj, rfl⟩ := nI_of (x := a) (Int32.not_lt.mpr h1)
  rw [nI_leI (by omega) (by omega)] at h2
  exact ⟨j, h2, rfl⟩
theorem in8 (z : Nat) (a b c : Int32) (g : Hp) : f_X8_isWithin z a b c g = some (inB a b c, g) := by
  unfold f_X8_isWithin inB
  split
  · exact rtZ_0
  · split
    · exact rtZ_0
    · exact rtZ_1
theorem cell8 (z : Nat) (a : Int32) (g : Hp) : f_X8_isCell z a g = some (inB a 0 143, g) := by
  simp only [f_X8_isCell, in8, Option.bind_some, rtZ_01 (inB_01 _ _ _)]
section MOD
variable {g : Hp} {V : VV} (h : SM g) (z : Nat)
end MOD
end
section
/-! what the document's words are over the model's table -/
def nst (V : VV) : Nat := (V 10 6).toNatClampNeg
def ntw (V : VV) : Nat := (V 10 9).toNatClampNeg
def npk (V : VV) : Nat := (V 10 15).toNatClampNeg
def nqk (V : VV) : Nat := (V 10 20).toNatClampNeg
def nms (V : VV) : Nat := (V 10 24).toNatClampNeg
def slo (V : VV) : Nat := (V 10 3).toNatClampNeg
def err (V : VV) : Nat := (V 10 4).toNatClampNeg
def nw (V : VV) : Nat := (V 10 5).toNatClampNeg
def cS (V : VV) (s : Nat) : Nat := (V 41 s).toNatClampNeg
def cT (V : VV) (t : Nat) : Nat := (V 42 t).toNatClampNeg
def sP (V : VV) (p : Nat) : Nat := (V 47 p).toNatClampNeg
def tk (V : VV) (p : Nat) : Nat := (V 48 p).toNatClampNeg
def sg (V : VV) (p : Nat) : Nat := (V 49 p).toNatClampNeg
/-- what a heap needs -/
def HV (V : VV) : Prop := (V 10 6 = nI (nst V) ∧ nst V ≤ 10) ∧ (V 10 15 = nI (npk V) ∧ npk V ≤ 60) ∧ (V 10 3 = nI (slo V) ∧ slo V ≤ 400) ∧ (V 10 4 = nI (err V) ∧ err V ≤ 50) ∧ (V 10 5 = nI (nw V) ∧ nw V ≤ 100000) ∧
  (∀ s, s < nst V → V 41 s = nI (cS V s) ∧ cS V s < 144 ∧ (V 60 s = 0 ∨ V 60 s = 1)) ∧
  (∀ p, p < npk V → V 47 p = nI (sP V p) ∧ sP V p < nst V ∧ V 48 p = nI (tk V p) ∧ tk V p ≤ nw V)
def VI (V : VV) : Prop := HV V ∧ (V 10 9 = nI (ntw V) ∧ ntw V ≤ 6) ∧ (V 10 20 = nI (nqk V) ∧ nqk V ≤ 5) ∧ V 10 24 = nI (nms V) ∧
  (∀ s, s < nst V → V 43 s = -9 ∨ ∃ m, m ≤ 30 ∧ V 43 s = nI m) ∧
  (∀ t, t < ntw V → V 42 t = nI (cT V t) ∧ cT V t < 144) ∧
  (∀ p, p < npk V → V 49 p = nI (sg V p) ∧ 1 ≤ sg V p ∧ sg V p ≤ 1000000 ∧ (V 50 p = -9 ∨ ∃ q, q < nqk V ∧ V 50 p = nI q)) ∧
  (∀ q, q < nqk V → ∃ p, p < npk V ∧ V 51 q = nI p ∧ V 50 p = nI q) ∧
  (∀ p p', p < npk V → p' < npk V → V 50 p = V 50 p' → V 50 p ≠ -9 → sP V p = sP V p' → p = p') ∧
  (∀ q t k, q < 5 → t < 6 → 1 ≤ k → k < 5 → V 55 (30 * q + 5 * t + k) = 0 ∨ V 55 (30 * q + 5 * t + k) = 1 ∨ V 55 (30 * q + 5 * t + k) = 2)
def TV (V : VV) (c d : Nat) : Int := (tv (slo V) c d : Int)
def pkT (V : VV) (p c : Nat) : Int := (tk V p : Int) - TV V c (cS V (sP V p))
def hrd (V : VV) (q s : Nat) : Nat → Bool
  | 0 => false
  | p + 1 => hrd V q s p || (decide (V 50 p = nI q) && decide (V 47 p = nI s))
def loP (V : VV) (q c : Nat) : Nat → Int
  | 0 => -1000000000
  | p + 1 => if V 50 p = nI q then max (loP V q c p) (pkT V p c - err V) else loP V q c p
def hiP (V : VV) (q c : Nat) : Nat → Int
  | 0 => 1000000000
  | p + 1 => if V 50 p = nI q then min (hiP V q c p) (pkT V p c + err V) else hiP V q c p
def loS (V : VV) (q c : Nat) : Nat → Int
  | 0 => loP V q c (npk V)
  | s + 1 => if V 60 s = 0 ∧ hrd V q s (npk V) = false then max (loS V q c s) ((nw V : Int) - TV V c (cS V s) - err V) else loS V q c s
def lo (V : VV) (q c : Nat) : Int := loS V q c (nst V)
def hi (V : VV) (q c : Nat) : Int := hiP V q c (npk V)
def ncl (V : VV) (q : Nat) : Nat → Nat
  | 0 => 0
  | c + 1 => if lo V q c ≤ hi V q c then ncl V q c + 1 else ncl V q c
theorem ncl_le (V : VV) (q : Nat) : ∀ n, ncl V q n ≤ n
  | 0 => Nat.le_refl _
  | c + 1 => by unfold ncl; have := ncl_le V q c; split <;> omega
/-- the heap that is laid: where a cell is over, its first time may be told too low -/
def HP (V : VV) (q : Nat) (V2 : VV) (n : Nat) : Prop := ∀ c, c < n → V2 53 c = iI (hi V q c) ∧ ∃ x : Int, V2 52 c = iI x ∧ -1000000000 ≤ x ∧ x ≤ 100100 ∧ (x ≤ hi V q c ↔ lo V q c ≤ hi V q c) ∧ (lo V q c ≤ hi V q c → x = lo V q c)
def EqR (V V2 : VV) : Prop := ∀ c, c ≠ 52 → c ≠ 53 → V2 c = V c
theorem TV_b {V : VV} (hq : slo V ≤ 400) {c d : Nat} (hc : c < 144) (hd : d < 144) : 0 ≤ TV V c d ∧ TV V c d ≤ 311 := by
  have := tv_lt hq hc hd
  unfold TV
  omega
theorem loP_b {V : VV} (h : HV V) {q c : Nat} (hc : c < 144) : ∀ p, p ≤ npk V → -1000000000 ≤ loP V q c p ∧ loP V q c p ≤ 100000
  | 0, _ => by simp [loP]
  | p + 1, hp => by
    have ih := loP_b h (q := q) hc p (by omega)
    obtain ⟨-, -, ⟨-, h3⟩, ⟨-, h4⟩, ⟨-, h5⟩, h6, h7⟩ := h
    obtain ⟨a1, a2, a3, a4⟩ := h7 p (by omega)
    have := TV_b h3 hc (h6 _ a2).2.1
    unfold loP
    split
    · unfold pkT
      omega
    · exact ih
theorem hiP_b {V : VV} (h : HV V) {q c : Nat} (hc : c < 144) : ∀ p, p ≤ npk V → -400 ≤ hiP V q c p ∧ hiP V q c p ≤ 1000000000
  | 0, _ => by simp [hiP]
  | p + 1, hp => by
    have ih := hiP_b h (q := q) hc p (by omega)
    obtain ⟨-, -, ⟨-, h3⟩, ⟨-, h4⟩, ⟨-, h5⟩, h6, h7⟩ := h
    obtain ⟨a1, a2, a3, a4⟩ := h7 p (by omega)
    have := TV_b h3 hc (h6 _ a2).2.1
    unfold hiP
    split
    · unfold pkT
      omega
    · exact ih
theorem loS_b {V : VV} (h : HV V) {q c : Nat} (hc : c < 144) : ∀ s, s ≤ nst V → -1000000000 ≤ loS V q c s ∧ loS V q c s ≤ 100000
  | 0, _ => loP_b h hc _ (Nat.le_refl _)
  | s + 1, hs => by
    have ih := loS_b h (q := q) hc s (by omega)
    obtain ⟨-, -, ⟨-, h3⟩, ⟨-, h4⟩, ⟨-, h5⟩, h6, h7⟩ := h
    have := TV_b h3 hc (h6 s (by omega)).2.1
    unfold loS
    split <;> omega
theorem loS_mono {V : VV} {q c : Nat} {s : Nat} : ∀ n, s ≤ n → loS V q c s ≤ loS V q c n := by
  intro n hn
  induction n with
  | zero => have : s = 0 := by omega
            subst this; exact Int.le_refl _
  | succ n ih =>
    by_cases h : s = n + 1
    · subst h; exact Int.le_refl _
    · have := ih (by omega)
      have e : loS V q c n ≤ loS V q c (n + 1) := by
        conv => rhs; unfold loS
        split <;> omega
      omega
theorem iI_max {a b : Int} (h1 : -2147483648 ≤ a) (h2 : a < 2147483648) (h3 : -2147483648 ≤ b) (h4 : b < 2147483648) : (if iI b ≤ iI a then iI a else iI b) = iI (max a b) := by
  by_cases h : b ≤ a
  · rw [if_pos ((iI_le h3 h4 h1 h2).mpr h)]; congr 1; omega
  · rw [if_neg (fun q => h ((iI_le h3 h4 h1 h2).mp q))]; congr 1; omega
theorem iI_min {a b : Int} (h1 : -2147483648 ≤ a) (h2 : a < 2147483648) (h3 : -2147483648 ≤ b) (h4 : b < 2147483648) : (if iI a ≤ iI b then iI a else iI b) = iI (min a b) := by
  by_cases h : a ≤ b
  · rw [if_pos ((iI_le h1 h2 h3 h4).mpr h)]; congr 1; omega
  · rw [if_neg (fun q => h ((iI_le h1 h2 h3 h4).mp q))]; congr 1; omega
/-- how many bits -/
def bl (w : Nat) : Nat := if w = 0 then 0 else w.log2 + 1
theorem bl_le {w k : Nat} : w < 2 ^ k ↔ bl w ≤ k := by
  unfold bl
  split
  · rename_i h; subst h; simp [Nat.pow_pos]
  · rename_i h; rw [← Nat.log2_lt h]; omega
end
section
/-! the model's leaves -/
theorem s_l : ∀ n, n < 32 → ((nI n &&& 31).toBitVec.smod 32).toNat = n := by decide +kernel
theorem shr_nI {w n : Nat} (hw : w < 2 ^ 31) (hn : n < 32) : nI w >>> (nI n &&& 31) = nI (w / 2 ^ n) := pk_shrN hw _ n (s_l n hn)
theorem rmI_n {a d : Nat} (ha : a < 2 ^ 31) (h0 : 0 < d) (hd : d < 2 ^ 31) : rmI (nI a) (nI d) = some (nI (a % d)) := by
  unfold rmI
  rw [if_neg (nI_ne0 h0 hd), pk_rem ha h0 hd]
theorem dvI_n {a d : Nat} (ha : a < 2 ^ 31) (h0 : 0 < d) (hd : d < 2 ^ 31) : dvI (nI a) (nI d) = some (nI (a / d)) := by
  unfold dvI
  rw [if_neg (nI_ne0 h0 hd), pk_div ha h0 hd]
section MLE
variable {g : Hp} {V : VV} {z : Nat}
end MLE
end
section
/-! the model lays a heap -/
section MHE
variable {g : Hp} {V : VV} {z : Nat}
theorem EqR.rf (V : VV) : EqR V V := fun _ _ _ => rfl
theorem EqR.tr {a b c : VV} (h : EqR a b) (h2 : EqR b c) : EqR a c := fun k h3 h4 => (h2 k h3 h4).trans (h k h3 h4)
theorem EqR.s2 {V V2 : VV} {k : Nat} {v : Int32} (h : EqR V V2) : EqR V (vs V2 52 k v) := fun c h1 h2 => (vs_ne h1).trans (h c h1 h2)
theorem EqR.s3 {V V2 : VV} {k : Nat} {v : Int32} (h : EqR V V2) : EqR V (vs V2 53 k v) := fun c h1 h2 => (vs_ne h2).trans (h c h1 h2)
/-- only place c of the two rows -/
def At1 (c : Nat) (V V2 : VV) : Prop := ∀ r, r = 52 ∨ r = 53 → ∀ k, k ≠ c → V2 r k = V r k
theorem At1.rf (c : Nat) (V : VV) : At1 c V V := fun _ _ _ _ => rfl
theorem At1.tr {c : Nat} {a b d : VV} (h : At1 c a b) (h2 : At1 c b d) : At1 c a d := fun r hr k hk => (h2 r hr k hk).trans (h r hr k hk)
theorem At1.s {c r : Nat} {V V2 : VV} {v : Int32} (h : At1 c V V2) : At1 c V (vs V2 r c v) := fun r2 hr k hk => (vs_nk hk).trans (h r2 hr k hk)
theorem HP.ext {V V2 V3 : VV} {q n : Nat} (h : HP V q V2 n) (hA : ∀ r, r = 52 ∨ r = 53 → ∀ k, k < n → V3 r k = V2 r k) : HP V q V3 n := by
  intro c hc
  rw [hA 52 (Or.inl rfl) c hc, hA 53 (Or.inr rfl) c hc]
  exact h c hc
end MHE
end
section
/-! what the model reads off a heap -/
def fP (V : VV) (q : Nat) : Nat := (V 51 q).toNatClampNeg
def szF (V : VV) (q c : Nat) : Nat := bl (sg V (fP V q) * (tv (slo V) c (cS V (sP V (fP V q))) + 1))
def lwF (V : VV) (q : Nat) : Nat → Int
  | 0 => -9
  | c + 1 => if lo V q c ≤ hi V q c then (if lwF V q c < 0 ∨ (szF V q c : Int) < lwF V q c then (szF V q c : Int) else lwF V q c) else lwF V q c
def hgF (V : VV) (q : Nat) : Nat → Int
  | 0 => -9
  | c + 1 => if lo V q c ≤ hi V q c then (if hgF V q c < 0 ∨ hgF V q c < (szF V q c : Int) then (szF V q c : Int) else hgF V q c) else hgF V q c
def lsF (V : VV) (q t : Nat) : Nat → Nat
  | 0 => 0
  | c + 1 => if lo V q c ≤ hi V q c then max (lsF V q t c) (bl (tv (slo V) c (cT V t) + 1)) else lsF V q t c
def feV (V : VV) (q t : Nat) : Int := if lwF V q 144 < 0 then -9 else if lwF V q 144 ≤ lsF V q t 144 then 0 else lwF V q 144 - lsF V q t 144
def cmF (V : VV) (q t : Nat) : Nat → Int
  | 0 => 1000000000
  | c + 1 => if lo V q c ≤ hi V q c then min (cmF V q t c) (lo V q c + TV V c (cT V t)) else cmF V q t c
def cxF (V : VV) (q t : Nat) : Nat → Int
  | 0 => -1000000000
  | c + 1 => if lo V q c ≤ hi V q c then max (cxF V q t c) (hi V q c + TV V c (cT V t)) else cxF V q t c
def cntF (V : VV) (q : Nat) : Nat → Nat
  | 0 => 0
  | p + 1 => if V 50 p = nI q then cntF V q p + 1 else cntF V q p
def clS (V : VV) (q : Nat) (i : Int32) : Nat → Nat → Int32
  | 0, _ => -9
  | m + 1, k => if lo V q (143 - m) ≤ hi V q (143 - m) then (if nI k = i then nI (143 - m) else clS V q i m (k + 1)) else clS V q i m k
theorem HV.ns {V : VV} (h : HV V) : V 10 6 = nI (nst V) ∧ nst V ≤ 10 := h.1
theorem HV.np {V : VV} (h : HV V) : V 10 15 = nI (npk V) ∧ npk V ≤ 60 := h.2.1
theorem HV.sl {V : VV} (h : HV V) : V 10 3 = nI (slo V) ∧ slo V ≤ 400 := h.2.2.1
theorem HV.er {V : VV} (h : HV V) : V 10 4 = nI (err V) ∧ err V ≤ 50 := h.2.2.2.1
theorem HV.no {V : VV} (h : HV V) : V 10 5 = nI (nw V) ∧ nw V ≤ 100000 := h.2.2.2.2.1
theorem HV.st {V : VV} (h : HV V) {s : Nat} (hs : s < nst V) : V 41 s = nI (cS V s) ∧ cS V s < 144 ∧ (V 60 s = 0 ∨ V 60 s = 1) := h.2.2.2.2.2.1 s hs
theorem HV.pk {V : VV} (h : HV V) {p : Nat} (hp : p < npk V) : V 47 p = nI (sP V p) ∧ sP V p < nst V ∧ V 48 p = nI (tk V p) ∧ tk V p ≤ nw V := h.2.2.2.2.2.2 p hp
theorem VI.hv {V : VV} (h : VI V) : HV V := h.1
theorem VI.tw {V : VV} (h : VI V) : V 10 9 = nI (ntw V) ∧ ntw V ≤ 6 := h.2.1
theorem VI.qk {V : VV} (h : VI V) : V 10 20 = nI (nqk V) ∧ nqk V ≤ 5 := h.2.2.1
theorem VI.ms {V : VV} (h : VI V) : V 10 24 = nI (nms V) := h.2.2.2.1
theorem VI.sz {V : VV} (h : VI V) {s : Nat} (hs : s < nst V) : V 43 s = -9 ∨ ∃ m, m ≤ 30 ∧ V 43 s = nI m := h.2.2.2.2.1 s hs
theorem VI.to {V : VV} (h : VI V) {t : Nat} (ht : t < ntw V) : V 42 t = nI (cT V t) ∧ cT V t < 144 := h.2.2.2.2.2.1 t ht
theorem VI.pq {V : VV} (h : VI V) {p : Nat} (hp : p < npk V) : V 49 p = nI (sg V p) ∧ 1 ≤ sg V p ∧ sg V p ≤ 1000000 ∧ (V 50 p = -9 ∨ ∃ q, q < nqk V ∧ V 50 p = nI q) := h.2.2.2.2.2.2.1 p hp
theorem VI.fp {V : VV} (h : VI V) {q : Nat} (hq : q < nqk V) : fP V q < npk V ∧ V 51 q = nI (fP V q) ∧ V 50 (fP V q) = nI q := by
  obtain ⟨p, hp, e1, e2⟩ := h.2.2.2.2.2.2.2.1 q hq
  have hp60 := h.hv.np.2
  have ep : fP V q = p := by unfold fP; rw [e1]; exact nI_cl (by omega)
  rw [ep]
  exact ⟨hp, e1, e2⟩
theorem VI.un {V : VV} (h : VI V) {p p2 : Nat} (hp : p < npk V) (hp2 : p2 < npk V) (e : V 50 p = V 50 p2) (e2 : V 50 p ≠ -9) (e3 : sP V p = sP V p2) : p = p2 := h.2.2.2.2.2.2.2.2.1 p p2 hp hp2 e e2 e3
theorem VI.tt {V : VV} (h : VI V) {q t k : Nat} (hq : q < 5) (ht : t < 6) (h1 : 1 ≤ k) (h2 : k < 5) : V 55 (30 * q + 5 * t + k) = 0 ∨ V 55 (30 * q + 5 * t + k) = 1 ∨ V 55 (30 * q + 5 * t + k) = 2 := h.2.2.2.2.2.2.2.2.2 q t k hq ht h1 h2
theorem szF_b {V : VV} (h : VI V) {q c : Nat} (hq : q < nqk V) (hc : c < 144) : 1 ≤ szF V q c ∧ szF V q c ≤ 31 ∧ sg V (fP V q) * (tv (slo V) c (cS V (sP V (fP V q))) + 1) < 2 ^ 31 := by
  obtain ⟨h3, h3'⟩ := h.hv.sl
  obtain ⟨hp, e1, e2⟩ := h.fp hq
  unfold szF
  generalize fP V q = p at hp e1 e2 ⊢
  obtain ⟨a1, a2, a3, a4⟩ := h.hv.pk hp
  obtain ⟨b1, b2, b3, b4⟩ := h.pq hp
  have ht := tv_lt h3' hc (h.hv.st a2).2.1
  have hm : sg V p * (tv (slo V) c (cS V (sP V p)) + 1) ≤ 1000000 * 312 := Nat.mul_le_mul b3 (by omega)
  have h0 : 1 * 1 ≤ sg V p * (tv (slo V) c (cS V (sP V p)) + 1) := Nat.mul_le_mul b2 (by omega)
  generalize sg V p * (tv (slo V) c (cS V (sP V p)) + 1) = w at hm h0 ⊢
  refine ⟨?_, bl_le.mp (by omega), by omega⟩
  rcases Nat.eq_zero_or_pos (bl w) with e | e
  · have := (bl_le (w := w) (k := 0)).mpr (by omega); omega
  · exact e
theorem lwF_b {V : VV} (h : VI V) {q : Nat} (hq : q < nqk V) : ∀ n, n ≤ 144 → -9 ≤ lwF V q n ∧ lwF V q n ≤ 31 ∧ (lwF V q n < 0 → lwF V q n = -9) ∧ (lwF V q n < 0 ↔ ncl V q n = 0) ∧ -9 ≤ hgF V q n ∧ hgF V q n ≤ 31 ∧ (hgF V q n < 0 → hgF V q n = -9)
  | 0, _ => by simp [lwF, hgF, ncl]
  | n + 1, hn => by
    obtain ⟨a1, a2, a3, a4, a5, a6, a7⟩ := lwF_b h hq n (by omega)
    obtain ⟨b1, b2, -⟩ := szF_b h hq (c := n) (by omega)
    unfold lwF hgF ncl
    by_cases hh : lo V q n ≤ hi V q n
    · simp only [if_pos hh]
      refine ⟨?_, ?_, ?_, ?_, ?_, ?_, ?_⟩ <;> (try split) <;> omega
    · simp only [if_neg hh]
      exact ⟨a1, a2, a3, a4, a5, a6, a7⟩
theorem lsF_b {V : VV} (h : VI V) {q t : Nat} (ht : t < ntw V) : ∀ n, n ≤ 144 → lsF V q t n ≤ 31
  | 0, _ => by simp [lsF]
  | n + 1, hn => by
    have ih := lsF_b h (q := q) ht n (by omega)
    obtain ⟨⟨-, -, ⟨-, h3⟩, -⟩, -, -, -, -, h6, -⟩ := h
    have hb : bl (tv (slo V) n (cT V t) + 1) ≤ 31 := bl_le.mp (by have := tv_lt h3 (show n < 144 by omega) (h6 t ht).2; omega)
    unfold lsF
    split <;> omega
section MRD
variable {g : Hp} {V V2 : VV} {z : Nat}
end MRD
end
section
/-! the class's cells: what stands where -/
def kp (V : VV) : Nat := if nms V ≤ 400 then nms V else 400
def cRef : Nat → Option Nm
  | 0 => some (8, 0)
  | 1 => some (0, 0)
  | 2 => some (0, 1)
  | 3 => some (0, 2)
  | 4 => some (0, 3)
  | 5 => some (0, 4)
  | 6 => some (1, 0)
  | 7 => some (23, 0)
  | 8 => some (24, 0)
  | _ => none
abbrev HR : Type := List Nm × (Nm → Nat → Option Nm) × (Nm → Nat)
def LR (h : HR) (j c n : Nat) : Prop := (n = 0 ∧ h.2.1 (0, j) 1 = some (17, 0) ∧ ∀ e, (12 + j, e) ∉ h.1) ∨ ∃ e, h.2.1 (0, j) 1 = some (12 + j, e) ∧ n ≤ h.2.2 (12 + j, e) ∧ 0 < h.2.2 (12 + j, e) ∧ h.2.2 (12 + j, e) ≤ 2 * n + 10 ∧ (12 + j, e) ∈ h.1 ∧ (∀ e2, e < e2 → (12 + j, e2) ∉ h.1) ∧ ∀ i, i < n → h.2.1 (12 + j, e) i = some (c, i)
def RC1 (h : HR) : Prop := ((∀ i, h.2.1 (9, 0) i = cRef i) ∧ h.2.1 (8, 0) 0 = some (20, 0) ∧ h.2.1 (1, 0) 0 = some (21, 0) ∧ h.2.1 (1, 0) 1 = some (22, 0)) ∧ (h.2.2 (20, 0) = 144 ∧ h.2.2 (21, 0) = 144 ∧ h.2.2 (22, 0) = 144 ∧ h.2.2 (23, 0) = 6 ∧ h.2.2 (24, 0) = 6)
def RCs (h : HR) (a : Nat) : Prop := LR h 0 6 a ∧ (∀ i, i < a → h.2.1 (6, i) 1 = some (5, i) ∧ h.2.1 (5, i) 0 = some (25, i) ∧ h.2.2 (25, i) = 30) ∧ ∀ i, a ≤ i → (6, i) ∉ h.1 ∧ (5, i) ∉ h.1 ∧ (25, i) ∉ h.1
def RCt (h : HR) (b : Nat) : Prop := LR h 1 7 b ∧ ∀ i, b ≤ i → (7, i) ∉ h.1
def RCp (h : HR) (p : Nat) : Prop := LR h 2 3 p ∧ ∀ i, p ≤ i → (3, i) ∉ h.1
def RCq (h : HR) (q : Nat) : Prop := LR h 3 4 q ∧ (∀ i, i < q → h.2.1 (4, i) 2 = some (26, i) ∧ h.2.1 (4, i) 4 = some (27, i) ∧ h.2.1 (4, i) 5 = some (28, i) ∧ h.2.2 (26, i) = 10 ∧ h.2.2 (27, i) = 6 ∧ h.2.2 (28, i) = 6) ∧ ∀ i, q ≤ i → (4, i) ∉ h.1 ∧ (26, i) ∉ h.1 ∧ (27, i) ∉ h.1 ∧ (28, i) ∉ h.1
def RCm (h : HR) (k : Nat) : Prop := LR h 4 2 k ∧ ∀ i, k ≤ i → (2, i) ∉ h.1
def RC (h : HR) (V : VV) : Prop := RC1 h ∧ RCs h (nst V) ∧ RCt h (ntw V) ∧ RCp h (npk V) ∧ RCq h (nqk V) ∧ RCm h (kp V)
/-- when a quake has heard a station: -1, not yet -/
def tkS (V : VV) (q s : Nat) : Nat → Int
  | 0 => -1
  | p + 1 => if V 50 p = nI q ∧ V 47 p = nI s then (tk V p : Int) else tkS V q s p
def kdF (V : VV) (p : Nat) : Int32 := if V 50 p = -9 then 3 else if V 51 (V 50 p).toNatClampNeg = nI p then 2 else 1
/-- the bits of the levels 1 .. 4 -/
def bt (f : Nat → Bool) : Nat := (if f 1 then 2 else 0) + (if f 2 then 4 else 0) + (if f 3 then 8 else 0) + (if f 4 then 16 else 0)
def toldF (V : VV) (q t : Nat) (k : Nat) : Bool := decide (V 55 (30 * q + 5 * t + k) ≠ 0)
def backF (V : VV) (q t : Nat) (k : Nat) : Bool := decide (V 55 (30 * q + 5 * t + k) = 2)
def cI (V : VV) (n : Nm) (k : Nat) : Option Int32 :=
  if n.1 = 0 then (if k = 2 then (if n.2 = 0 then some (nI (nst V)) else if n.2 = 1 then some (nI (ntw V)) else if n.2 = 2 then some (nI (npk V)) else if n.2 = 3 then some (nI (nqk V)) else if n.2 = 4 then some (nI (kp V)) else none) else none)
  else if n.1 = 2 then (if n.2 < kp V ∧ k < 4 then some (V 54 (4 * n.2 + k)) else none)
  else if n.1 = 3 then (if n.2 < npk V then (if k = 0 then some (V 47 n.2) else if k = 1 then some (V 48 n.2) else if k = 2 then some (V 49 n.2) else if k = 3 then some (kdF V n.2) else if k = 4 then some (V 50 n.2) else none) else none)
  else if n.1 = 4 then (if n.2 < nqk V then (if k = 0 then some (nI (sP V (fP V n.2))) else if k = 1 then some (nI (sg V (fP V n.2))) else if k = 3 then some (nI (cntF V n.2 (npk V))) else none) else none)
  else if n.1 = 5 then (if n.2 < nst V ∧ k = 1 then some (if V 43 n.2 = -9 then -1 else V 43 n.2) else none)
  else if n.1 = 6 then (if n.2 < nst V then (if k = 0 then some (V 41 n.2) else if k = 2 then some (V 60 n.2) else none) else none)
  else if n.1 = 7 then (if n.2 < ntw V ∧ k = 0 then some (V 42 n.2) else none)
  else if n.1 = 9 then (if k = 9 then some (V 10 0) else if k = 10 then some (V 10 5) else if k = 11 then some (V 10 4) else if k = 12 then some (V 10 24) else if k = 13 then some (V 10 2) else none)
  else if n.1 = 20 then (if k < 144 then some (nI (isq (slo V * ((k / 12) * (k / 12) + (k % 12) * (k % 12))))) else none)
  else if n.1 = 23 then (if k < 6 then some (V 45 k) else none)
  else if n.1 = 24 then (if k < 6 then some (V 40 k) else none)
  else if n.1 = 25 then (if n.2 < nst V ∧ k < 30 then some (V 44 (30 * n.2 + k)) else none)
  else if n.1 = 26 then (if n.2 < nqk V ∧ k < 10 then some (iI (tkS V n.2 k (npk V))) else none)
  else if n.1 = 27 then (if n.2 < nqk V ∧ k < 6 then some (nI (bt (toldF V n.2 k))) else none)
  else if n.1 = 28 then (if n.2 < nqk V ∧ k < 6 then some (nI (bt (backF V n.2 k))) else none)
  else none
def HC (g : Hp) (V : VV) : Prop := gI g (1, 0) 5 = -9 ∨ ∃ q, q < nqk V ∧ gI g (1, 0) 5 = nI q ∧ (∀ c, c < 144 → gI g (21, 0) c = iI (lo V q c) ∧ gI g (22, 0) c = iI (hi V q c)) ∧ gI g (1, 0) 2 = nI (ncl V q 144) ∧ gI g (1, 0) 3 = iI (lwF V q 144) ∧ gI g (1, 0) 4 = iI (hgF V q 144)
/-- the base row names are numbered 0 -/
def Z0 (n : Nm) : Prop := (n.1 = 9 ∨ n.1 = 20 ∨ n.1 = 23 ∨ n.1 = 24) → n.2 = 0
def IC (g : Hp) (V : VV) : Prop := ∀ n k v, Z0 n → cI V n k = some v → gI g n k = v
def cnt (V : VV) : Nat := nst V + ntw V + npk V + nqk V + kp V
def CB (g : Hp) (V : VV) : Prop := gc g ≤ 100 + 10 * cnt V ∧ gs g ≤ 10000 + 1000 * cnt V
/-- what is not yet used -/
def VF (V : VV) : Prop := (∀ s, nst V ≤ s → s < 10 → V 60 s = 0 ∧ V 43 s = -9 ∧ ∀ k, k < 30 → V 44 (30 * s + k) = 0) ∧ ∀ q, nqk V ≤ q → q < 5 → ∀ j, j < 30 → V 55 (30 * q + j) = 0
def IN (g : Hp) (V : VV) : Prop := True ∧ SM g ∧ VI V ∧ RC g.1 V ∧ IC g V ∧ HC g V ∧ CB g V ∧ VF V
/-- only ints of these codes -/
def Ch (C : List Nat) (g g1 : Hp) : Prop := g1.1 = g.1 ∧ g1.2.2 = g.2.2 ∧ ∀ n k, n.1 ∉ C → gI g1 n k = gI g n k
theorem Ch.rf (C : List Nat) (g : Hp) : Ch C g g := ⟨rfl, rfl, fun _ _ _ => rfl⟩
theorem Ch.tr {C : List Nat} {a b d : Hp} (h : Ch C a b) (h2 : Ch C b d) : Ch C a d := ⟨h2.1.trans h.1, h2.2.1.trans h.2.1, fun n k hn => (h2.2.2 n k hn).trans (h.2.2 n k hn)⟩
theorem Ch.set {C : List Nat} {g : Hp} {n : Nm} {k : Nat} {v : Int32} (h : n.1 ∈ C) : Ch C g (setI g n k v) := ⟨rfl, rfl, fun m j hm => by
  have : m ≠ n := fun e => hm (e ▸ h)
  simp [setI, gI, this]⟩
theorem Ch.sub {C D : List Nat} {g g1 : Hp} (h : Ch C g g1) (hs : ∀ x, x ∈ C → x ∈ D) : Ch D g g1 := ⟨h.1, h.2.1, fun n k hn => h.2.2 n k (fun q => hn (hs _ q))⟩
theorem Ch.r {C : List Nat} {g g1 : Hp} (h : Ch C g g1) : gR g1 = gR g := congrArg (fun w : HR => w.2.1) h.1
theorem Ch.n {C : List Nat} {g g1 : Hp} (h : Ch C g g1) : gN g1 = gN g := congrArg (fun w : HR => w.2.2) h.1
theorem Ch.l {C : List Nat} {g g1 : Hp} (h : Ch C g g1) : gL g1 = gL g := congrArg (fun w : HR => w.1) h.1
theorem Ch.i {C : List Nat} {g g1 : Hp} (h : Ch C g g1) {n : Nm} {k : Nat} (hn : n.1 ∉ C) : gI g1 n k = gI g n k := h.2.2 n k hn
theorem gI_set {g : Hp} {n m : Nm} {k j : Nat} {v : Int32} : gI (setI g n k v) m j = if m = n ∧ j = k then v else gI g m j := rfl
/-- the law's rows are untouched -/
def noM (C : List Nat) : Bool := C.all (fun c => decide (c ≠ 29) && decide (c ≠ 30))
theorem noM_x {C : List Nat} (h : noM C = true) {c : Nat} (hc : c = 29 ∨ c = 30) : c ∉ C := by
  intro q
  have := List.all_eq_true.mp h c q
  simp at this
  omega
theorem Z0.c {c k : Nat} (h : c ≠ 9) (h2 : c ≠ 20) (h3 : c ≠ 23) (h4 : c ≠ 24) : Z0 (c, k) := fun q => by simp at q; omega
theorem Z0.z {c : Nat} : Z0 (c, 0) := fun _ => rfl
section EVA
variable {g : Hp} {V : VV} {z : Nat}
theorem IN.s (h : IN g V) : SM g := h.2.1
theorem IN.v (h : IN g V) : VI V := h.2.2.1
theorem IN.r (h : IN g V) : RC g.1 V := h.2.2.2.1
theorem IN.i (h : IN g V) {c i k : Nat} {v : Int32} (e : cI V (c, i) k = some v) (hz : Z0 (c, i) := by first | exact Z0.z | exact Z0.c (by decide) (by decide) (by decide) (by decide)) : gI g (c, i) k = v := h.2.2.2.2.1 (c, i) k v hz e
theorem IN.h (h : IN g V) : HC g V := h.2.2.2.2.2.1
theorem IN.c (h : IN g V) : CB g V := h.2.2.2.2.2.2.1
theorem IN.vf (h : IN g V) : VF V := h.2.2.2.2.2.2.2
theorem gi_C {k : Nat} : getI (some (9, 0)) 9 k g = some (gI g (9, 0) k) := rfl
theorem pu_C {k : Nat} {v : Int32} : putI (some (9, 0)) 9 k v g = some (setI g (9, 0) k v) := rfl
theorem gr_C (h : RC1 g.1) {k : Nat} : getR (some (9, 0)) 9 k g = some (cRef k) := congrArg some (h.1.1 k)
theorem gI_X {c i k : Nat} : getI (some (c, i)) c k g = some (gI g (c, i) k) := by simp [getI]
theorem gR_X {c i k : Nat} : getR (some (c, i)) c k g = some (gR g (c, i) k) := by simp [getR]
theorem pI_X {c i k : Nat} {v : Int32} : putI (some (c, i)) c k v g = some (setI g (c, i) k v) := by simp [putI]
theorem pR_X {c i k : Nat} {v : Option Nm} : putR (some (c, i)) c k v g = some (setR g (c, i) k v) := by simp [putR]
theorem ckc_X {c i : Nat} : ckc (some (c, i)) c = some () := by simp [ckc]
theorem nnl_X {α : Type} {n : Nm} {P : Option α} : nnl (some n) P = P := rfl
theorem ald_X {c i k N : Nat} (h : gN g (c, i) = N) (h1 : 20 ≤ c) (h2 : c < 60) (hk : k < N) (hN : N < 2147483648) : aldI (some (c, i)) (nI k) g = some (gI g (c, i) k) := by
  have : (20 ≤ c ∧ c < 60) ∧ vp_in (nI k) (gN g (c, i)) := ⟨⟨h1, h2⟩, by rw [h]; exact vp_n hk hN⟩
  simp only [aldI, if_pos this, nI_cl (show k < 2147483648 by omega)]
theorem ast_X {c i k N : Nat} {v : Int32} (h : gN g (c, i) = N) (h1 : 20 ≤ c) (h2 : c < 60) (hk : k < N) (hN : N < 2147483648) : astI (some (c, i)) (nI k) v g = some (setI g (c, i) k v) := by
  have : (20 ≤ c ∧ c < 60) ∧ vp_in (nI k) (gN g (c, i)) := ⟨⟨h1, h2⟩, by rw [h]; exact vp_n hk hN⟩
  simp only [astI, if_pos this, nI_cl (show k < 2147483648 by omega)]
theorem sizeJ {j n : Nat} (h : gI g (0, j) 2 = nI n) : f_Jx4a65c_size_8abf5 z (some (0, j)) g = some (nI n, g) := by
  simp only [f_Jx4a65c_size_8abf5, gI_X, Option.bind_some, h]
theorem emptyJ {j n : Nat} (h : gI g (0, j) 2 = nI n) (hn : n < 2147483648) : f_Jx4a65c_isEmpty_aae02 z (some (0, j)) g = some ((if n = 0 then 1 else 0), g) := by
  simp only [f_Jx4a65c_isEmpty_aae02, gI_X, Option.bind_some, h]
  by_cases e : n = 0
  · subst e; rw [if_pos nI_0]; exact rtZ_1
  · rw [if_neg (nI_ne0 (by omega) (by omega)), if_neg e]; exact rtZ_0
theorem getJ {j c n i : Nat} (h : gI g (0, j) 2 = nI n) (hl : LR g.1 j c n) (hi : i < n) (hn : n < 1000000) (hj : j < 5) : f_Jx4a65c_get_915e3 z (some (0, j)) (nI i) g = some (some (c, i), g) := by
  rcases hl with ⟨h0, -⟩ | ⟨e, h1, h2, -, h3, -, -, h4⟩
  · omega
  · have k1 : gR g (0, j) 1 = some (12 + j, e) := h1
    have k4 : gR g (12 + j, e) i = some (c, i) := h4 i hi
    have k2 : n ≤ gN g (12 + j, e) := h2
    have k3 : gN g (12 + j, e) ≤ 2 * n + 10 := h3
    have hv : (12 ≤ 12 + j ∧ 12 + j < 17) ∧ vp_in (nI i) (gN g (12 + j, e)) := ⟨⟨by omega, by omega⟩, vp_n (by omega) (by omega)⟩
    have ha : aldR (some (12 + j, e)) (nI i) g = some (some (c, i)) := by
      simp only [aldR, if_pos hv, nI_cl (show i < 2147483648 by omega), k4]
    have hlt : nI i < nI n := (nI_ltI (by omega) (by omega)).mpr hi
    have hnn : ¬ nI i < 0 := by
      rw [show (0 : Int32) = nI 0 from rfl, nI_ltI (by omega) (by omega)]; omega
    simp only [f_Jx4a65c_get_915e3, f_J15_checkIndex_7cf53, f_J3_checkIndex_8e157, f_Jx4a65c_elementData_915e3, gI_X, gR_X, Option.bind_some, h, if_neg hnn, if_pos hlt, ick_X, k1, ha]
end EVA
end
section
/-! what a change of the table leaves -/
def Ev (D E : List Nat) (V V2 : VV) : Prop := (∀ c, c ≠ 10 → c ∉ D → V2 c = V c) ∧ ∀ k, k ∉ E → V2 10 k = V 10 k
theorem Ev.rf (D E : List Nat) (V : VV) : Ev D E V V := ⟨fun _ _ _ => rfl, fun _ _ => rfl⟩
theorem Ev.tr {D E : List Nat} {a b d : VV} (h : Ev D E a b) (h2 : Ev D E b d) : Ev D E a d := ⟨fun c h3 h4 => (h2.1 c h3 h4).trans (h.1 c h3 h4), fun k h3 => (h2.2 k h3).trans (h.2 k h3)⟩
theorem Ev.s {D E : List Nat} {a b : VV} (h : Ev D E a b) {c k : Nat} {v : Int32} (hc : c ∈ D) (h0 : c ≠ 10) : Ev D E a (vs b c k v) := h.tr ⟨fun c2 _ h2 => vs_ne (fun e => h2 (e ▸ hc)), fun k2 _ => by rw [vs_ne (fun e => h0 e.symm)]⟩
theorem Ev.t {D E : List Nat} {a b : VV} (h : Ev D E a b) {k : Nat} {v : Int32} (hc : k ∈ E) : Ev D E a (vs b 10 k v) := h.tr ⟨fun c2 h1 _ => vs_ne h1, fun k2 h2 => vs_nk (fun e => h2 (e ▸ hc))⟩
theorem Ev.q {a b : VV} (h : EqR a b) : Ev [52, 53] [] a b := ⟨fun c _ h2 => h c (fun e => h2 (by simp [e])) (fun e => h2 (by simp [e])), fun k _ => by rw [h 10 (by decide) (by decide)]⟩
theorem Ev.sub {D E D2 E2 : List Nat} {a b : VV} (h : Ev D E a b) (h1 : ∀ x, x ∈ D → x ∈ D2) (h2 : ∀ x, x ∈ E → x ∈ E2) : Ev D2 E2 a b := ⟨fun c h3 h4 => h.1 c h3 (fun q => h4 (h1 c q)), fun k h3 => h.2 k (fun q => h3 (h2 k q))⟩
def nR : Nat → List Nat
  | 2 => [54]
  | 3 => [47, 48, 49, 50, 51]
  | 4 => [47, 49, 50, 51]
  | 5 => [43]
  | 6 => [41, 60]
  | 7 => [42]
  | 23 => [45]
  | 24 => [40]
  | 25 => [44]
  | 26 => [47, 48, 50]
  | 27 => [55]
  | 28 => [55]
  | _ => []
def nE : Nat → List Nat
  | 0 => [6, 9, 15, 20, 24]
  | 2 => [24]
  | 3 => [15]
  | 4 => [20, 15]
  | 5 => [6]
  | 6 => [6]
  | 7 => [9]
  | 9 => [0, 5, 4, 24, 2]
  | 20 => [3]
  | 25 => [6]
  | 26 => [20, 15]
  | 27 => [20]
  | 28 => [20]
  | _ => []
def dj (A B : List Nat) : Bool := A.all (fun x => !B.contains x)
theorem dj_x {A B : List Nat} (h : dj A B = true) {x : Nat} (hx : x ∈ A) : x ∉ B := by
  have := List.all_eq_true.mp h x hx
  simpa using this
def depOk (C D E : List Nat) : Bool := [0, 2, 3, 4, 5, 6, 7, 9, 20, 23, 24, 25, 26, 27, 28].all (fun c => C.contains c || (dj (nR c) D && dj (nE c) E))
theorem depOk_x {C D E : List Nat} (h : depOk C D E = true) {c : Nat} (hc : c ∈ [0, 2, 3, 4, 5, 6, 7, 9, 20, 23, 24, 25, 26, 27, 28]) (hn : c ∉ C) : dj (nR c) D = true ∧ dj (nE c) E = true := by
  have := List.all_eq_true.mp h c hc
  simp [hn] at this
  exact this
theorem nst_e {V V2 : VV} (h : V2 10 6 = V 10 6) : nst V2 = nst V := by unfold nst; rw [h]
theorem ntw_e {V V2 : VV} (h : V2 10 9 = V 10 9) : ntw V2 = ntw V := by unfold ntw; rw [h]
theorem npk_e {V V2 : VV} (h : V2 10 15 = V 10 15) : npk V2 = npk V := by unfold npk; rw [h]
theorem nqk_e {V V2 : VV} (h : V2 10 20 = V 10 20) : nqk V2 = nqk V := by unfold nqk; rw [h]
theorem nms_e {V V2 : VV} (h : V2 10 24 = V 10 24) : nms V2 = nms V := by unfold nms; rw [h]
theorem kp_e {V V2 : VV} (h : V2 10 24 = V 10 24) : kp V2 = kp V := by unfold kp; rw [nms_e h]
theorem tkS_e {V V2 : VV} {q s : Nat} (h1 : V2 50 = V 50) (h2 : V2 47 = V 47) (h3 : V2 48 = V 48) : ∀ p, tkS V2 q s p = tkS V q s p
  | 0 => rfl
  | p + 1 => by unfold tkS tk; rw [h1, h2, h3, tkS_e h1 h2 h3 p]
theorem cntF_e {V V2 : VV} {q : Nat} (h1 : V2 50 = V 50) : ∀ p, cntF V2 q p = cntF V q p
  | 0 => rfl
  | p + 1 => by unfold cntF; rw [h1, cntF_e h1 p]
theorem cI_ev {C D E : List Nat} {V V2 : VV} (h : Ev D E V V2) (hd : depOk C D E = true) {n : Nm} (hn : n.1 ∉ C) (k : Nat) : cI V2 n k = cI V n k := by
  have hr : ∀ c r, n.1 = c → c ∈ [0, 2, 3, 4, 5, 6, 7, 9, 20, 23, 24, 25, 26, 27, 28] → r ∈ nR c → r ≠ 10 → V2 r = V r := fun c r e hc h1 h2 => h.1 r h2 (dj_x (depOk_x hd hc (e ▸ hn)).1 h1)
  have he : ∀ c k, n.1 = c → c ∈ [0, 2, 3, 4, 5, 6, 7, 9, 20, 23, 24, 25, 26, 27, 28] → k ∈ nE c → V2 10 k = V 10 k := fun c k e hc h1 => h.2 k (dj_x (depOk_x hd hc (e ▸ hn)).2 h1)
  unfold cI
  by_cases c0 : n.1 = 0
  · simp only [if_pos c0]
    rw [nst_e (he 0 6 c0 (by decide) (by decide)), ntw_e (he 0 9 c0 (by decide) (by decide)), npk_e (he 0 15 c0 (by decide) (by decide)), nqk_e (he 0 20 c0 (by decide) (by decide)), kp_e (he 0 24 c0 (by decide) (by decide))]
  simp only [if_neg c0]
  by_cases c2 : n.1 = 2
  · simp only [if_pos c2]
    rw [kp_e (he 2 24 c2 (by decide) (by decide)), hr 2 54 c2 (by decide) (by decide) (by decide)]
  simp only [if_neg c2]
  by_cases c3 : n.1 = 3
  · simp only [if_pos c3]
    unfold kdF
    rw [npk_e (he 3 15 c3 (by decide) (by decide)), hr 3 47 c3 (by decide) (by decide) (by decide), hr 3 48 c3 (by decide) (by decide) (by decide), hr 3 49 c3 (by decide) (by decide) (by decide), hr 3 50 c3 (by decide) (by decide) (by decide), hr 3 51 c3 (by decide) (by decide) (by decide)]
  simp only [if_neg c3]
  by_cases c4 : n.1 = 4
  · simp only [if_pos c4]
    unfold sP sg fP
    rw [npk_e (he 4 15 c4 (by decide) (by decide)), nqk_e (he 4 20 c4 (by decide) (by decide)), hr 4 47 c4 (by decide) (by decide) (by decide), hr 4 49 c4 (by decide) (by decide) (by decide), hr 4 51 c4 (by decide) (by decide) (by decide), cntF_e (hr 4 50 c4 (by decide) (by decide) (by decide))]
  simp only [if_neg c4]
  by_cases c5 : n.1 = 5
  · simp only [if_pos c5]
    rw [nst_e (he 5 6 c5 (by decide) (by decide)), hr 5 43 c5 (by decide) (by decide) (by decide)]
  simp only [if_neg c5]
  by_cases c6 : n.1 = 6
  · simp only [if_pos c6]
    rw [nst_e (he 6 6 c6 (by decide) (by decide)), hr 6 41 c6 (by decide) (by decide) (by decide), hr 6 60 c6 (by decide) (by decide) (by decide)]
  simp only [if_neg c6]
  by_cases c7 : n.1 = 7
  · simp only [if_pos c7]
    rw [ntw_e (he 7 9 c7 (by decide) (by decide)), hr 7 42 c7 (by decide) (by decide) (by decide)]
  simp only [if_neg c7]
  by_cases c9 : n.1 = 9
  · simp only [if_pos c9]
    rw [he 9 0 c9 (by decide) (by decide), he 9 5 c9 (by decide) (by decide), he 9 4 c9 (by decide) (by decide), he 9 24 c9 (by decide) (by decide), he 9 2 c9 (by decide) (by decide)]
  simp only [if_neg c9]
  by_cases c20 : n.1 = 20
  · simp only [if_pos c20]
    unfold slo
    rw [he 20 3 c20 (by decide) (by decide)]
  simp only [if_neg c20]
  by_cases c23 : n.1 = 23
  · simp only [if_pos c23]
    rw [hr 23 45 c23 (by decide) (by decide) (by decide)]
  simp only [if_neg c23]
  by_cases c24 : n.1 = 24
  · simp only [if_pos c24]
    rw [hr 24 40 c24 (by decide) (by decide) (by decide)]
  simp only [if_neg c24]
  by_cases c25 : n.1 = 25
  · simp only [if_pos c25]
    rw [nst_e (he 25 6 c25 (by decide) (by decide)), hr 25 44 c25 (by decide) (by decide) (by decide)]
  simp only [if_neg c25]
  by_cases c26 : n.1 = 26
  · simp only [if_pos c26]
    rw [nqk_e (he 26 20 c26 (by decide) (by decide)), npk_e (he 26 15 c26 (by decide) (by decide)), tkS_e (hr 26 50 c26 (by decide) (by decide) (by decide)) (hr 26 47 c26 (by decide) (by decide) (by decide)) (hr 26 48 c26 (by decide) (by decide) (by decide))]
  simp only [if_neg c26]
  by_cases c27 : n.1 = 27
  · simp only [if_pos c27]
    have e : toldF V2 n.2 k = toldF V n.2 k := by unfold toldF; rw [hr 27 55 c27 (by decide) (by decide) (by decide)]
    rw [nqk_e (he 27 20 c27 (by decide) (by decide)), e]
  simp only [if_neg c27]
  by_cases c28 : n.1 = 28
  · simp only [if_pos c28]
    have e : backF V2 n.2 k = backF V n.2 k := by unfold backF; rw [hr 28 55 c28 (by decide) (by decide) (by decide)]
    rw [nqk_e (he 28 20 c28 (by decide) (by decide)), e]
  simp only [if_neg c28]
theorem cI_cls {V : VV} {n : Nm} {k : Nat} {v : Int32} (h : cI V n k = some v) : n.1 ∈ [0, 2, 3, 4, 5, 6, 7, 9, 20, 23, 24, 25, 26, 27, 28] := by
  by_cases hm : n.1 ∈ [0, 2, 3, 4, 5, 6, 7, 9, 20, 23, 24, 25, 26, 27, 28]
  · exact hm
  · exfalso
    simp only [List.mem_cons, List.not_mem_nil, or_false, not_or] at hm
    obtain ⟨a0, a2, a3, a4, a5, a6, a7, a9, a20, a23, a24, a25, a26, a27, a28⟩ := hm
    simp only [cI, if_neg a0, if_neg a2, if_neg a3, if_neg a4, if_neg a5, if_neg a6, if_neg a7, if_neg a9, if_neg a20, if_neg a23, if_neg a24, if_neg a25, if_neg a26, if_neg a27, if_neg a28] at h
    exact nomatch h
/-! heaps -/
def hpR : List Nat := [41, 60, 47, 48, 49, 50, 51]
def hpE : List Nat := [3, 4, 5, 6, 15, 20]
def EqH (V V2 : VV) : Prop := (∀ c, c ∈ hpR → V2 c = V c) ∧ ∀ k, k ∈ hpE → V2 10 k = V 10 k
theorem Ev.h {D E : List Nat} {V V2 : VV} (h : Ev D E V V2) (h1 : dj hpR D = true) (h2 : dj hpE E = true) : EqH V V2 := ⟨fun c hc => h.1 c (by revert hc; unfold hpR; intro hc e; subst e; revert hc; decide) (dj_x h1 hc), fun k hk => h.2 k (dj_x h2 hk)⟩
section HEQ
variable {V V2 : VV} (h : EqH V V2)
theorem EqH.ns (h : EqH V V2) : nst V2 = nst V := nst_e (h.2 6 (by decide))
theorem EqH.np (h : EqH V V2) : npk V2 = npk V := npk_e (h.2 15 (by decide))
theorem EqH.nq (h : EqH V V2) : nqk V2 = nqk V := nqk_e (h.2 20 (by decide))
theorem EqH.sl (h : EqH V V2) : slo V2 = slo V := by unfold slo; rw [h.2 3 (by decide)]
theorem EqH.er (h : EqH V V2) : err V2 = err V := by unfold err; rw [h.2 4 (by decide)]
theorem EqH.no (h : EqH V V2) : nw V2 = nw V := by unfold nw; rw [h.2 5 (by decide)]
theorem EqH.cS_ (h : EqH V V2) {s : Nat} : cS V2 s = cS V s := by unfold cS; rw [h.1 41 (by decide)]
theorem EqH.sP_ (h : EqH V V2) {p : Nat} : sP V2 p = sP V p := by unfold sP; rw [h.1 47 (by decide)]
theorem EqH.tk_ (h : EqH V V2) {p : Nat} : tk V2 p = tk V p := by unfold tk; rw [h.1 48 (by decide)]
theorem EqH.sg_ (h : EqH V V2) {p : Nat} : sg V2 p = sg V p := by unfold sg; rw [h.1 49 (by decide)]
theorem EqH.fP_ (h : EqH V V2) {q : Nat} : fP V2 q = fP V q := by unfold fP; rw [h.1 51 (by decide)]
theorem EqH.TV_ (h : EqH V V2) {c d : Nat} : TV V2 c d = TV V c d := by unfold TV; rw [h.sl]
theorem EqH.pkT_ (h : EqH V V2) {p c : Nat} : pkT V2 p c = pkT V p c := by unfold pkT; rw [h.tk_, h.TV_, h.sP_, h.cS_]
theorem EqH.hrd_ (h : EqH V V2) {q s : Nat} : ∀ p, hrd V2 q s p = hrd V q s p
  | 0 => rfl
  | p + 1 => by unfold hrd; rw [EqH.hrd_ h p, h.1 50 (by decide), h.1 47 (by decide)]
theorem EqH.loP_ (h : EqH V V2) {q c : Nat} : ∀ p, loP V2 q c p = loP V q c p
  | 0 => rfl
  | p + 1 => by unfold loP; rw [EqH.loP_ h p, h.1 50 (by decide), h.pkT_, h.er]
theorem EqH.hiP_ (h : EqH V V2) {q c : Nat} : ∀ p, hiP V2 q c p = hiP V q c p
  | 0 => rfl
  | p + 1 => by unfold hiP; rw [EqH.hiP_ h p, h.1 50 (by decide), h.pkT_, h.er]
theorem EqH.loS_ (h : EqH V V2) {q c : Nat} : ∀ s, loS V2 q c s = loS V q c s
  | 0 => by unfold loS; rw [h.np, h.loP_]
  | s + 1 => by unfold loS; rw [EqH.loS_ h s, h.1 60 (by decide), h.np, h.hrd_, h.no, h.TV_, h.cS_, h.er]
theorem EqH.lo_ (h : EqH V V2) {q c : Nat} : lo V2 q c = lo V q c := by unfold lo; rw [h.ns, h.loS_]
theorem EqH.hi_ (h : EqH V V2) {q c : Nat} : hi V2 q c = hi V q c := by unfold hi; rw [h.np, h.hiP_]
theorem EqH.ncl_ (h : EqH V V2) {q : Nat} : ∀ c, ncl V2 q c = ncl V q c
  | 0 => rfl
  | c + 1 => by unfold ncl; rw [EqH.ncl_ h c, h.lo_, h.hi_]
theorem EqH.szF_ (h : EqH V V2) {q c : Nat} : szF V2 q c = szF V q c := by unfold szF; rw [h.fP_, h.sg_, h.sl, h.sP_, h.cS_]
theorem EqH.lwF_ (h : EqH V V2) {q : Nat} : ∀ c, lwF V2 q c = lwF V q c
  | 0 => rfl
  | c + 1 => by unfold lwF; rw [EqH.lwF_ h c, h.lo_, h.hi_, h.szF_]
theorem EqH.hgF_ (h : EqH V V2) {q : Nat} : ∀ c, hgF V2 q c = hgF V q c
  | 0 => rfl
  | c + 1 => by unfold hgF; rw [EqH.hgF_ h c, h.lo_, h.hi_, h.szF_]
theorem HC.cg {g g1 : Hp} (hh : HC g V) (h : EqH V V2) (e1 : ∀ k, gI g1 (1, 0) k = gI g (1, 0) k) (e2 : ∀ k, gI g1 (21, 0) k = gI g (21, 0) k) (e3 : ∀ k, gI g1 (22, 0) k = gI g (22, 0) k) : HC g1 V2 := by
  rcases hh with h1 | ⟨q, h1, h2, h3, h4, h5, h6⟩
  · exact Or.inl (by rw [e1]; exact h1)
  · refine Or.inr ⟨q, by rw [h.nq]; exact h1, by rw [e1]; exact h2, fun c hc => ?_, by rw [e1, h.ncl_]; exact h4, by rw [e1, h.lwF_]; exact h5, by rw [e1, h.hgF_]; exact h6⟩
    rw [e2, e3, h.lo_, h.hi_]; exact h3 c hc
end HEQ
def viR : List Nat := [41, 60, 47, 48, 49, 50, 51, 43, 42, 55]
def viE : List Nat := [3, 4, 5, 6, 9, 15, 20]
theorem VI.cg {D E : List Nat} {V V2 : VV} (hv : VI V) (h : Ev D E V V2) (h1 : dj viR D = true) (h2 : dj viE E = true) (h24 : V2 10 24 = nI (nms V2)) : VI V2 := by
  have hr : ∀ r, r ∈ viR → r ≠ 10 → V2 r = V r := fun r hr h0 => h.1 r h0 (dj_x h1 hr)
  have he : ∀ k, k ∈ viE → V2 10 k = V 10 k := fun k hk => h.2 k (dj_x h2 hk)
  have e6 := he 6 (by decide)
  have e15 := he 15 (by decide)
  have e3 := he 3 (by decide)
  have e4 := he 4 (by decide)
  have e5 := he 5 (by decide)
  have e9 := he 9 (by decide)
  have e20 := he 20 (by decide)
  have r41 := hr 41 (by decide) (by decide)
  have r60 := hr 60 (by decide) (by decide)
  have r47 := hr 47 (by decide) (by decide)
  have r48 := hr 48 (by decide) (by decide)
  have r49 := hr 49 (by decide) (by decide)
  have r50 := hr 50 (by decide) (by decide)
  have r51 := hr 51 (by decide) (by decide)
  have r43 := hr 43 (by decide) (by decide)
  have r42 := hr 42 (by decide) (by decide)
  have r55 := hr 55 (by decide) (by decide)
  unfold VI HV at hv ⊢
  unfold nst npk slo err nw ntw nqk cS cT sP tk sg at hv ⊢
  rw [e6, e15, e3, e4, e5, e9, e20, r41, r60, r47, r48, r49, r50, r51, r43, r42, r55]
  exact ⟨hv.1, hv.2.1, hv.2.2.1, h24, hv.2.2.2.2⟩
theorem wM_C {g : Hp} {V : VV} {n : Nm} (h : n.1 ∈ [0, 2, 3, 4, 5, 6, 7, 9, 20, 23, 24, 25, 26, 27, 28]) : gI (wM g V) n = gI g n := by
  refine wM_X (fun e => ?_) ?_
  · rw [e] at h; exact absurd h (by decide)
  · simp at h; omega
theorem HC.w {g : Hp} {V V2 : VV} (h : HC g V) : HC (wM g V2) V := h
theorem VF.cg {D E : List Nat} {V V2 : VV} (h : VF V) (hev : Ev D E V V2) (h1 : dj [43, 44, 55, 60] D = true) (h2 : dj [6, 20] E = true) : VF V2 := by
  have hr : ∀ r, r ∈ [43, 44, 55, 60] → r ≠ 10 → V2 r = V r := fun r hr h0 => hev.1 r h0 (dj_x h1 hr)
  unfold VF
  rw [nst_e (hev.2 6 (dj_x h2 (by decide))), nqk_e (hev.2 20 (dj_x h2 (by decide))), hr 43 (by decide) (by decide), hr 44 (by decide) (by decide), hr 55 (by decide) (by decide), hr 60 (by decide) (by decide)]
  exact h
theorem VF.st {D E : List Nat} {V V2 : VV} (h : VF V) (hev : Ev D E V V2) (h1 : dj [55] D = true) (h2 : dj [6, 20] E = true) (hs : ∀ s, nst V ≤ s → s < 10 → V2 60 s = V 60 s ∧ V2 43 s = V 43 s ∧ ∀ k, k < 30 → V2 44 (30 * s + k) = V 44 (30 * s + k)) : VF V2 := by
  unfold VF
  rw [nst_e (hev.2 6 (dj_x h2 (by decide))), nqk_e (hev.2 20 (dj_x h2 (by decide))), hev.1 55 (by decide) (dj_x h1 (by decide))]
  refine ⟨fun s h3 h4 => ?_, h.2⟩
  obtain ⟨a1, a2, a3⟩ := h.1 s h3 h4
  obtain ⟨b1, b2, b3⟩ := hs s h3 h4
  exact ⟨b1.trans a1, b2.trans a2, fun k hk => (b3 k hk).trans (a3 k hk)⟩
/-- an answer that changes ints of the class's codes C and the model's rows D, cells E -/
theorem IN.upd {C D E : List Nat} {g g1 : Hp} {V V2 : VV} (h : IN g V) (hch : Ch C g g1) (hev : Ev D E V V2) (hd : depOk C D E = true) (hE : dj [6, 9, 15, 20, 24] E = true) (hv : VI V2) (hI : ∀ n k v, Z0 n → n.1 ∈ C → cI V2 n k = some v → gI g1 n k = v) (hH : HC g1 V2) (hvf : VF V2) : IN (wM g1 V2) V2 := by
  obtain ⟨h1, h2, h3, h4, h5, h6, h7, -⟩ := h
  have he : ∀ k, k ∈ [6, 9, 15, 20, 24] → V2 10 k = V 10 k := fun k hk => hev.2 k (dj_x hE hk)
  have e1 := nst_e (he 6 (by decide))
  have e2 := ntw_e (he 9 (by decide))
  have e3 := npk_e (he 15 (by decide))
  have e4 := nqk_e (he 20 (by decide))
  have e5 := kp_e (he 24 (by decide))
  refine ⟨trivial, ?_, hv, ?_, ?_, hH.w, ?_, hvf⟩
  · trivial
  · show RC g1.1 V2
    rw [hch.1]; unfold RC; rw [e1, e2, e3, e4, e5]; exact h4
  · intro n k v hz hk
    rw [wM_C (cI_cls hk)]
    by_cases hn : n.1 ∈ C
    · exact hI n k v hz hn hk
    · rw [hch.i hn]
      rw [cI_ev hev hd hn] at hk
      exact h5 n k v hz hk
  · unfold CB cnt
    rw [e1, e2, e3, e4, e5]
    have : gc (wM g1 V2) = gc g ∧ gs (wM g1 V2) = gs g := by
      show g1.2.2.1 = g.2.2.1 ∧ g1.2.2.2 = g.2.2.2
      rw [hch.2.1]; exact ⟨rfl, rfl⟩
    rw [this.1, this.2]
    exact h7
theorem IN.sm1 {C : List Nat} {g g1 : Hp} {V : VV} (_ : IN g V) (_ : Ch C g g1) : SM g1 := trivial
theorem IN.unw {g : Hp} {U V : VV} (h : IN (wM g U) V) : IN g V := h
end
section
/-! the calls that read, and the plain ones that write -/
section SIM
variable {g : Hp} {V : VV} {z : Nat}
theorem IN.c0 (h : IN g V) : gI g (0, 0) 2 = nI (nst V) := h.i (by simp [cI])
theorem IN.c1 (h : IN g V) : gI g (0, 1) 2 = nI (ntw V) := h.i (by simp [cI])
theorem IN.c2 (h : IN g V) : gI g (0, 2) 2 = nI (npk V) := h.i (by simp [cI])
theorem IN.c3 (h : IN g V) : gI g (0, 3) 2 = nI (nqk V) := h.i (by simp [cI])
theorem IN.c4 (h : IN g V) : gI g (0, 4) 2 = nI (kp V) := h.i (by simp [cI])
theorem IN.f9 (h : IN g V) : gI g (9, 0) 9 = V 10 0 := h.i (by simp [cI])
theorem IN.f10 (h : IN g V) : gI g (9, 0) 10 = V 10 5 := h.i (by simp [cI])
theorem IN.f11 (h : IN g V) : gI g (9, 0) 11 = V 10 4 := h.i (by simp [cI])
theorem IN.f12 (h : IN g V) : gI g (9, 0) 12 = V 10 24 := h.i (by simp [cI])
theorem IN.f13 (h : IN g V) : gI g (9, 0) 13 = V 10 2 := h.i (by simp [cI])
theorem IN.s0 (h : IN g V) {i : Nat} (hi : i < nst V) : gI g (6, i) 0 = V 41 i := h.i (by simp [cI, hi])
theorem IN.s2 (h : IN g V) {i : Nat} (hi : i < nst V) : gI g (6, i) 2 = V 60 i := h.i (by simp [cI, hi])
theorem IN.r1 (h : IN g V) {i : Nat} (hi : i < nst V) : gI g (5, i) 1 = if V 43 i = -9 then -1 else V 43 i := h.i (by simp [cI, hi])
theorem IN.rd (h : IN g V) {i k : Nat} (hi : i < nst V) (hk : k < 30) : gI g (25, i) k = V 44 (30 * i + k) := h.i (by simp [cI, hi, hk])
theorem IN.t0 (h : IN g V) {i : Nat} (hi : i < ntw V) : gI g (7, i) 0 = V 42 i := h.i (by simp [cI, hi])
theorem IN.p0 (h : IN g V) {i : Nat} (hi : i < npk V) : gI g (3, i) 0 = V 47 i := h.i (by simp [cI, hi])
theorem IN.p1 (h : IN g V) {i : Nat} (hi : i < npk V) : gI g (3, i) 1 = V 48 i := h.i (by simp [cI, hi])
theorem IN.p2 (h : IN g V) {i : Nat} (hi : i < npk V) : gI g (3, i) 2 = V 49 i := h.i (by simp [cI, hi])
theorem IN.p3 (h : IN g V) {i : Nat} (hi : i < npk V) : gI g (3, i) 3 = kdF V i := h.i (by simp [cI, hi])
theorem IN.p4 (h : IN g V) {i : Nat} (hi : i < npk V) : gI g (3, i) 4 = V 50 i := h.i (by simp [cI, hi])
theorem IN.q0 (h : IN g V) {i : Nat} (hi : i < nqk V) : gI g (4, i) 0 = nI (sP V (fP V i)) := h.i (by simp [cI, hi])
theorem IN.q1 (h : IN g V) {i : Nat} (hi : i < nqk V) : gI g (4, i) 1 = nI (sg V (fP V i)) := h.i (by simp [cI, hi])
theorem IN.q3 (h : IN g V) {i : Nat} (hi : i < nqk V) : gI g (4, i) 3 = nI (cntF V i (npk V)) := h.i (by simp [cI, hi])
theorem IN.qt (h : IN g V) {i k : Nat} (hi : i < nqk V) (hk : k < 10) : gI g (26, i) k = iI (tkS V i k (npk V)) := h.i (by simp [cI, hi, hk])
theorem IN.q27 (h : IN g V) {i k : Nat} (hi : i < nqk V) (hk : k < 6) : gI g (27, i) k = nI (bt (toldF V i k)) := h.i (by simp [cI, hi, hk])
theorem IN.q28 (h : IN g V) {i k : Nat} (hi : i < nqk V) (hk : k < 6) : gI g (28, i) k = nI (bt (backF V i k)) := h.i (by simp [cI, hi, hk])
theorem IN.m0 (h : IN g V) {i k : Nat} (hi : i < kp V) (hk : k < 4) : gI g (2, i) k = V 54 (4 * i + k) := h.i (by simp [cI, hi, hk])
theorem IN.ne (h : IN g V) {k : Nat} (hk : k < 6) : gI g (23, 0) k = V 45 k := h.i (by simp [cI, hk])
theorem IN.an (h : IN g V) {k : Nat} (hk : k < 6) : gI g (24, 0) k = V 40 k := h.i (by simp [cI, hk])
theorem IN.tr (h : IN g V) {k : Nat} (hk : k < 144) : gI g (20, 0) k = nI (isq (slo V * ((k / 12) * (k / 12) + (k % 12) * (k % 12)))) := h.i (by simp [cI, hk])
theorem IN.b1 (h : IN g V) : RC1 g.1 := h.r.1
theorem kp_b (V : VV) : kp V ≤ 400 ∧ kp V ≤ nms V := by unfold kp; split <;> omega
theorem isStation8 (h : IN g V) (a : Int32) : f_X8_isStation z (some (9, 0)) a g = some (inB a 0 (V 10 6 - 1), g) := by
  simp only [f_X8_isStation, gr_C h.b1, cRef, Option.bind_some, ick_X, sizeJ h.c0, in8, ← h.v.hv.ns.1, rtZ_01 (inB_01 _ _ _)]
theorem isTown8 (h : IN g V) (a : Int32) : f_X8_isTown z (some (9, 0)) a g = some (inB a 0 (V 10 9 - 1), g) := by
  simp only [f_X8_isTown, gr_C h.b1, cRef, Option.bind_some, ick_X, sizeJ h.c1, in8, ← h.v.tw.1, rtZ_01 (inB_01 _ _ _)]
theorem isQuake8 (h : IN g V) (a : Int32) : f_X8_isQuake z (some (9, 0)) a g = some (inB a 0 (V 10 20 - 1), g) := by
  simp only [f_X8_isQuake, gr_C h.b1, cRef, Option.bind_some, ick_X, sizeJ h.c3, in8, ← h.v.qk.1, rtZ_01 (inB_01 _ _ _)]
theorem stOf (h : IN g V) {a : Int32} (hb : ¬ inB a 0 (V 10 6 - 1) = 0) : ∃ i, i < nst V ∧ a = nI i := by
  have := h.v.hv.ns; rw [this.1] at hb; exact inB_nI (by omega) hb
theorem twOf (h : IN g V) {a : Int32} (hb : ¬ inB a 0 (V 10 9 - 1) = 0) : ∃ i, i < ntw V ∧ a = nI i := by
  have := h.v.tw; rw [this.1] at hb; exact inB_nI (by omega) hb
theorem pkOf (h : IN g V) {a : Int32} (hb : ¬ inB a 0 (V 10 15 - 1) = 0) : ∃ i, i < npk V ∧ a = nI i := by
  have := h.v.hv.np; rw [this.1] at hb; exact inB_nI (by omega) hb
theorem qkOf (h : IN g V) {a : Int32} (hb : ¬ inB a 0 (V 10 20 - 1) = 0) : ∃ i, i < nqk V ∧ a = nI i := by
  have := h.v.qk; rw [this.1] at hb; exact inB_nI (by omega) hb
theorem clOf {a : Int32} (hb : ¬ inB a 0 143 = 0) : ∃ i, i < 144 ∧ a = nI i := by
  rw [show (143 : Int32) = nI 143 from rfl] at hb
  obtain ⟨i, h1, h2⟩ := inB_nIr (by omega) hb
  exact ⟨i, by omega, h2⟩
theorem getS (h : IN g V) {i : Nat} (hi : i < nst V) : f_Jx4a65c_get_915e3 z (some (0, 0)) (nI i) g = some (some (6, i), g) := getJ h.c0 h.r.2.1.1 hi (by have := h.v.hv.ns.2; omega) (by decide)
theorem getT (h : IN g V) {i : Nat} (hi : i < ntw V) : f_Jx4a65c_get_915e3 z (some (0, 1)) (nI i) g = some (some (7, i), g) := getJ h.c1 h.r.2.2.1.1 hi (by have := h.v.tw.2; omega) (by decide)
theorem getP (h : IN g V) {i : Nat} (hi : i < npk V) : f_Jx4a65c_get_915e3 z (some (0, 2)) (nI i) g = some (some (3, i), g) := getJ h.c2 h.r.2.2.2.1.1 hi (by have := h.v.hv.np.2; omega) (by decide)
theorem getQ (h : IN g V) {i : Nat} (hi : i < nqk V) : f_Jx4a65c_get_915e3 z (some (0, 3)) (nI i) g = some (some (4, i), g) := getJ h.c3 h.r.2.2.2.2.1.1 hi (by have := h.v.qk.2; omega) (by decide)
theorem getM (h : IN g V) {i : Nat} (hi : i < kp V) : f_Jx4a65c_get_915e3 z (some (0, 4)) (nI i) g = some (some (2, i), g) := getJ h.c4 h.r.2.2.2.2.2.1 hi (by have := kp_b V; omega) (by decide)
theorem gR61 (h : IN g V) {i : Nat} (hi : i < nst V) : gR g (6, i) 1 = some (5, i) := (h.r.2.1.2.1 i hi).1
theorem gR50 (h : IN g V) {i : Nat} (hi : i < nst V) : gR g (5, i) 0 = some (25, i) := (h.r.2.1.2.1 i hi).2.1
theorem gN25 (h : IN g V) {i : Nat} (hi : i < nst V) : gN g (25, i) = 30 := (h.r.2.1.2.1 i hi).2.2
theorem nI_ne9 {n : Nat} (h : n < 1000000) : nI n ≠ -9 := by
  intro e
  rw [nI_iI, show (-9 : Int32) = iI (-9) from by decide, iI_eq (by omega) (by omega) (by omega) (by omega)] at e
  omega
end SIM
end
section
section REA
variable {z : Nat}
theorem count8 {g : Hp} {V : VV} (h : IN g V) : f_X8_count z (some (9, 0)) 5 g = some (V 10 5, g) ∧ f_X8_count z (some (9, 0)) 3 g = some (nI (nqk V), g) := by
  constructor
  · simp only [f_X8_count, tsw, gi_C, h.f10, Option.bind_some]
    rw [if_neg (by decide), if_neg (by decide), if_neg (by decide), if_neg (by decide), if_neg (by decide), if_pos trivial]
  · simp only [f_X8_count, tsw, gr_C h.b1, cRef, Option.bind_some, ick_X, sizeJ h.c3]
    rw [if_neg (by decide), if_neg (by decide), if_neg (by decide), if_pos trivial]
theorem findOf {a : Int32} (hb : ¬ inB a 1 5 = 0) : ∃ i, 1 ≤ i ∧ i < 6 ∧ a = nI i := by
  obtain ⟨h1, h2⟩ := inB_ne hb
  have h0 : ¬ a < 0 := by
    intro q
    exact absurd (Int32.lt_of_lt_of_le q (show (0 : Int32) ≤ 1 by decide)) (Int32.not_lt.mpr h1)
  obtain ⟨j, hj, rfl⟩ := nI_of h0
  rw [show (5 : Int32) = nI 5 from rfl, nI_leI (by omega) (by omega)] at h2
  rw [show (1 : Int32) = nI 1 from rfl, nI_leI (by omega) (by omega)] at h1
  exact ⟨j, h1, by omega, rfl⟩
theorem iabs_n {x y : Nat} (hx : x < 1000000) (hy : y < 1000000) : iabs (nI x - nI y) = nI (x - y + (y - x)) := by
  unfold iabs
  rw [nI_iI x, nI_iI y, iI_sub, show (0 : Int32) = iI 0 from by decide]
  by_cases h : (0 : Int) ≤ (x : Int) - y
  · rw [if_pos ((iI_le (by omega) (by omega) (by omega) (by omega)).mpr h), nI_iI]; congr 1; omega
  · rw [if_neg (fun w => h ((iI_le (by omega) (by omega) (by omega) (by omega)).mp w)), iI_sub, nI_iI]; congr 1; omega
/-- the class's table of travels -/
def TT (g : Hp) (V : VV) : Prop := RC1 g.1 ∧ slo V ≤ 400 ∧ ∀ k, k < 144 → gI g (20, 0) k = nI (isq (slo V * ((k / 12) * (k / 12) + (k % 12) * (k % 12))))
theorem IN.tt {g : Hp} {V : VV} (h : IN g V) : TT g V := ⟨h.b1, h.v.hv.sl.2, fun _ hk => h.tr hk⟩
theorem between8 {g : Hp} {V : VV} (h : TT g V) {a b : Nat} (ha : a < 144) (hb : b < 144) : f_X7_between z (some (8, 0)) (nI a) (nI b) g = some (nI (tv (slo V) a b), g) := by
  have e : gR g (8, 0) 0 = some (20, 0) := h.1.1.2.1
  have hn : gN g (20, 0) = 144 := h.1.2.1
  unfold f_X7_between
  rw [show (12 : Int32) = nI 12 from rfl]
  simp only [rmI_n (show a < 2 ^ 31 by omega) (show 0 < 12 by decide) (show 12 < 2 ^ 31 by decide), rmI_n (show b < 2 ^ 31 by omega) (show 0 < 12 by decide) (show 12 < 2 ^ 31 by decide), dvI_n (show a < 2 ^ 31 by omega) (show 0 < 12 by decide) (show 12 < 2 ^ 31 by decide), dvI_n (show b < 2 ^ 31 by omega) (show 0 < 12 by decide) (show 12 < 2 ^ 31 by decide), gR_X, Option.bind_some, e, iabs_n (show a / 12 < 1000000 by omega) (show b / 12 < 1000000 by omega), iabs_n (show a % 12 < 1000000 by omega) (show b % 12 < 1000000 by omega), pk_mul, nI_add]
  have hd2 : a % 12 - b % 12 + (b % 12 - a % 12) < 12 := by omega
  have hd1 : a / 12 - b / 12 + (b / 12 - a / 12) < 12 := by omega
  unfold tv sq
  generalize a % 12 - b % 12 + (b % 12 - a % 12) = d2 at hd2 ⊢
  generalize a / 12 - b / 12 + (b / 12 - a / 12) = d1 at hd1 ⊢
  rw [ald_X hn (by decide) (by decide) (show 12 * d1 + d2 < 144 by omega) (by decide), h.2.2 _ (by omega)]
  have e1 : (12 * d1 + d2) / 12 = d1 := by omega
  have e2 : (12 * d1 + d2) % 12 = d2 := by omega
  rw [e1, e2, Nat.add_comm (d1 * d1)]
  rfl
theorem cl_in {d : Nat} (hd : d < 144) : ¬ inB (nI d) 0 143 = 0 := by
  unfold inB
  rw [show (0 : Int32) = nI 0 from rfl, show (143 : Int32) = nI 143 from rfl, if_neg (fun w => by have := (nI_ltI (by omega) (by omega)).mp w; omega), if_neg (fun w => by have := (nI_ltI (by omega) (by omega)).mp w; omega)]; decide
theorem travel8 {g : Hp} {V : VV} (h : IN g V) {i j : Nat} (hi : i < 144) (hj : j < 144) : f_X8_travel z (some (9, 0)) (nI i) (nI j) g = some (nI (tv (slo V) i j), g) := by
  simp only [f_X8_travel, cell8, Option.bind_some, if_neg (cl_in hi), if_neg (cl_in hj), gr_C h.b1, cRef, ick_X, between8 h.tt hi hj]
theorem inB_in {i n : Nat} (h : i < n) (hn : n < 1073741824) : inB (nI i) 0 (nI n - 1) = 1 := by
  cases n with
  | zero => omega
  | succ n =>
    unfold inB
    rw [nI_pred, show (0 : Int32) = nI 0 from rfl, if_neg (fun w => by have := (nI_ltI (by omega) (by omega)).mp w; omega), if_neg (fun w => by have := (nI_ltI (by omega) (by omega)).mp w; omega)]
end REA
end
section
section WRI
variable {z : Nat}
theorem in04 {b : Int32} (h : ¬ inB b 0 4 = 0) : ∃ k, k ≤ 4 ∧ b = nI k := by
  rw [show (4 : Int32) = nI 4 from rfl] at h
  exact inB_nIr (by omega) h
theorem in04n {b : Int32} (h : inB b 0 4 = 0) : b ≠ 0 ∧ b ≠ 1 ∧ b ≠ 2 ∧ b ≠ 3 ∧ b ≠ 4 := by
  refine ⟨?_, ?_, ?_, ?_, ?_⟩ <;> (intro e; subst e; revert h; decide)
def tellF (V : VV) (p : Nat) (b : Int32) : Int32 := if b = 0 then V 47 p else if b = 1 then V 48 p else if b = 2 then V 49 p else if b = 3 then kdF V p else V 50 p
theorem in03n {b : Int32} (h : ¬ inB b 0 3 = 0) : ∃ k, k ≤ 3 ∧ b = nI k := by
  rw [show (3 : Int32) = nI 3 from rfl] at h
  exact inB_nIr (by omega) h
theorem bindeta {α : Type} {A : Option (α × Hp)} : (A.bind fun q => some (q.1, q.2)) = A := by cases A <;> rfl
end WRI
end
section
section WRJ
variable {z : Nat}
theorem HC.forget {g : Hp} {V : VV} : HC (setI g (1, 0) 5 (-9)) V := Or.inl (by rw [gI_set, if_pos ⟨rfl, rfl⟩])
theorem forget8 {g : Hp} : f_X0_forget z (some (1, 0)) g = some ((), setI g (1, 0) 5 (-9)) := by simp only [f_X0_forget, pI_X, Option.bind_some]
theorem later8 {g : Hp} {V : VV} (h : IN g V) {i : Nat} (hi : i ≤ 100000 - nw V) : ∃ g2, f_X8_later z (some (9, 0)) (nI i) g = some (nI (nw V + i), g2) ∧ IN g2 (vs V 10 5 (nI (nw V + i))) ∧ Ch [1, 9] g g2 := by
  obtain ⟨hn, hn2⟩ := h.v.hv.no
  have e0 : (100000 : Int32) - nI (nw V) = nI (100000 - nw V) := by rw [show (100000 : Int32) = nI 100000 from rfl, pk_sub hn2]
  have h1 : ¬ inB (nI i) 0 (100000 - V 10 5) = 0 := by
    unfold inB
    rw [hn, e0, show (0 : Int32) = nI 0 from rfl, if_neg (fun w => by have := (nI_ltI (by omega) (by omega)).mp w; omega), if_neg (fun w => by have := (nI_ltI (by omega) (by omega)).mp w; omega)]; decide
  have hev : Ev [] [5] V (vs V 10 5 (V 10 5 + nI i)) := (Ev.rf _ _ V).t (by decide)
  have e5 : V 10 5 + nI i = nI (nw V + i) := by rw [hn, nI_add]
  rw [← e5]
  have hch : Ch [1, 9] g (setI (setI g (9, 0) 10 (V 10 5 + nI i)) (1, 0) 5 (-9)) := (Ch.set (by decide)).tr (Ch.set (by decide))
  refine ⟨setI (setI g (9, 0) 10 (V 10 5 + nI i)) (1, 0) 5 (-9), ?_, h.upd hch hev (by decide) (by decide) ?_ ?_ HC.forget (h.vf.cg hev (by decide) (by decide)), hch⟩
  · have e : getR (some (9, 0)) 9 6 (setI g (9, 0) 10 (V 10 5 + nI i)) = some (some (1, 0)) := gr_C (g := setI g (9, 0) 10 (V 10 5 + nI i)) h.b1
    simp only [f_X8_later, gi_C, h.f10, in8, Option.bind_some, if_neg h1, pu_C, e, ick_X, forget8, gI_set]
    simp
  · have e6 : vs V 10 5 (V 10 5 + nI i) 10 5 = nI (nw V + i) := vs_eq.trans e5
    have e7 : nw (vs V 10 5 (V 10 5 + nI i)) = nw V + i := by
      show (vs V 10 5 (V 10 5 + nI i) 10 5).toNatClampNeg = _
      rw [e6]; exact nI_cl (by omega)
    obtain ⟨hv, w⟩ := h.v
    obtain ⟨v1, v2, v3, v4, v5, v6, v7⟩ := hv
    refine ⟨⟨v1, v2, v3, v4, ?_, v6, fun p hp => ?_⟩, w⟩
    · rw [e7]; exact ⟨e6, by omega⟩
    · obtain ⟨w1, w2, w3, w4⟩ := v7 p hp
      refine ⟨w1, w2, w3, ?_⟩
      rw [e7]
      exact Nat.le_trans w4 (by omega)
  · intro n k v hz hn hk
    obtain ⟨c, j⟩ := n
    simp only [List.mem_cons, List.not_mem_nil, or_false] at hn
    rcases hn with rfl | rfl
    · simp [cI] at hk
    · have hj : j = 0 := hz (by simp)
      subst hj
      rw [gI_set, if_neg (by simp), gI_set]
      by_cases e : k = 10
      · subst e
        simp [cI, vs] at hk
        rw [if_pos ⟨rfl, rfl⟩]; exact hk
      · rw [if_neg (by simp [e])]
        refine h.i (v := v) ?_
        rw [← hk]
        simp [cI, vs, e]
end WRJ
end
section
section ROX
variable {z : Nat}
theorem n9lt : ¬ (0 : Int32) ≤ -9 := by decide
theorem nIge {m : Nat} (h : m < 1000000) : (0 : Int32) ≤ nI m := by
  rw [show (0 : Int32) = nI 0 from rfl, nI_leI (by omega) (by omega)]; omega
/-- the readings changed : rows 25 against 44 -/
theorem VI.c44 {V V2 : VV} {E : List Nat} (hv : VI V) (hev : Ev [44, 46] E V V2) (hE : dj (24 :: viE) E = true) : VI V2 := by
  have h24 : V2 10 24 = V 10 24 := hev.2 24 (dj_x hE (by decide))
  refine hv.cg hev (by decide) ?_ (by rw [h24, nms_e h24]; exact hv.ms)
  rw [dj] at hE ⊢
  simp only [List.all_cons, Bool.and_eq_true] at hE
  exact hE.2
end ROX
end
section
section SUM
variable {z : Nat}
def sumF (V : VV) (i : Nat) : Nat → Nat → Int64 → Int64
  | _, 0, acc => acc
  | f, c + 1, acc => sumF V i (f + 1) c (acc + (iabs (V 44 (30 * i + f))).toInt64)
def fstF (V : VV) (i s l : Nat) (a b : Int32) (m : Nat) : Nat → Nat → Option Int32
  | 0, _ => none
  | n + 1, v => if m < v + s then some (-9) else if lg_cmp (sumF V i v s 0 * (nI l).toInt64 * b.toInt64) (sumF V i (v - l) l 0 * (nI s).toInt64 * a.toInt64) ≤ 0 then fstF V i s l a b m n (v + 1) else some (nI v)
theorem fstF_s {V : VV} {i s l : Nat} {a b : Int32} {m : Nat} (hs : 1 ≤ s) : ∀ n v, m + 1 - v < n → ∃ r, fstF V i s l a b m n v = some r
  | 0, v, h => absurd h (Nat.not_lt_zero _)
  | n + 1, v, h => by
    unfold fstF
    by_cases h1 : m < v + s
    · rw [if_pos h1]; exact ⟨_, rfl⟩
    · rw [if_neg h1]
      split
      · exact fstF_s hs n (v + 1) (by omega)
      · exact ⟨_, rfl⟩
theorem in1 {a : Int32} {m : Nat} (hm : m < 100000) (h : ¬ inB a 1 (nI m) = 0) : ∃ i, 1 ≤ i ∧ i ≤ m ∧ a = nI i := by
  obtain ⟨w1, w2⟩ := inB_ne h
  have h0 : ¬ a < 0 := fun q => absurd (Int32.lt_of_lt_of_le q (show (0 : Int32) ≤ 1 by decide)) (Int32.not_lt.mpr w1)
  obtain ⟨j, hj, rfl⟩ := nI_of h0
  rw [nI_leI (by omega) (by omega)] at w2
  rw [show (1 : Int32) = nI 1 from rfl, nI_leI (by omega) (by omega)] at w1
  exact ⟨j, w1, w2, rfl⟩
end SUM
end
section
section RUL
variable {z : Nat}
theorem root_L {w : Nat} (hw : w < 512 * 512) (g : Hp) : ∀ (k n t : Nat), k ≤ 8 → k + 1 < n → t + 2 * 2 ^ k ≤ 512 → t * t ≤ w → w < (t + 2 * 2 ^ k) * (t + 2 * 2 ^ k) → f_X7_root_6_L z (nI w) n (nI (2 ^ k)) (nI t) g = some (0, nI (isq w), g)
  | k, 0, t, _, h, _, _, _ => by omega
  | k, 1, t, _, h, _, _, _ => by omega
  | 0, n + 2, t, _, _, h3, h4, h5 => by
    show f_X7_root_6_b z (nI w) (f_X7_root_6_L z (nI w) (n + 1)) (nI (2 ^ 0)) (nI t) g = _
    unfold f_X7_root_6_b
    rw [Nat.pow_zero] at *
    have hm : (t + 1) * (t + 1) ≤ 512 * 512 := Nat.mul_le_mul (by omega) (by omega)
    rw [if_neg (show ¬ nI 1 ≤ 0 by decide), nI_add, pk_mul, show (2 : Int32) = nI 2 from rfl, dvI_n (by decide) (by decide) (by decide)]
    have hend : ∀ r, f_X7_root_6_L z (nI w) (n + 1) (nI 0) r g = some (0, r, g) := fun r => by
      show f_X7_root_6_b z (nI w) (f_X7_root_6_L z (nI w) n) (nI 0) r g = _
      unfold f_X7_root_6_b
      rw [if_pos (by decide)]; rfl
    by_cases h6 : w < (t + 1) * (t + 1)
    · rw [if_pos ((nI_ltI (by omega) (by omega)).mpr h6)]
      simp only [Option.bind_some]
      rw [show 1 / 2 = 0 from rfl, hend, isq_uniq h4 h6]
    · rw [if_neg (fun q => h6 ((nI_ltI (by omega) (by omega)).mp q))]
      simp only [Option.bind_some]
      rw [show 1 / 2 = 0 from rfl, hend, isq_uniq (n := w) (t := t + 1) (by omega) (by simpa using h5)]
  | k + 1, n + 2, t, h1, h2, h3, h4, h5 => by
    show f_X7_root_6_b z (nI w) (f_X7_root_6_L z (nI w) (n + 1)) (nI (2 ^ (k + 1))) (nI t) g = _
    unfold f_X7_root_6_b
    have hp : 2 ^ (k + 1) = 2 * 2 ^ k := by rw [Nat.pow_succ, Nat.mul_comm]
    have hpos : 0 < 2 ^ k := Nat.pow_pos (by decide)
    have ih := fun t2 => root_L hw g k (n + 1) t2 (by omega) (by omega)
    rw [hp] at h3 h5 ⊢
    generalize 2 ^ k = d at *
    have hm : (t + 2 * d) * (t + 2 * d) ≤ 512 * 512 := Nat.mul_le_mul (by omega) (by omega)
    have e4 : t + 2 * (2 * d) = t + 2 * d + 2 * d := by omega
    rw [e4] at h5
    rw [if_neg (fun q => by have := (nI_leI (by omega) (by omega)).mp (show nI (2 * d) ≤ nI 0 from q); omega), nI_add, pk_mul, show (2 : Int32) = nI 2 from rfl, dvI_n (by omega) (by decide) (by decide), show 2 * d / 2 = d by omega]
    by_cases h6 : w < (t + 2 * d) * (t + 2 * d)
    · rw [if_pos ((nI_ltI (by omega) (by omega)).mpr h6)]
      simp only [Option.bind_some]
      exact ih t (by omega) h4 h6
    · rw [if_neg (fun q => h6 ((nI_ltI (by omega) (by omega)).mp q))]
      simp only [Option.bind_some]
      exact ih (t + 2 * d) (by omega) (by omega) h5
theorem root8 {w : Nat} (hz : 2000 ≤ z) (hw : w < 512 * 512) (g : Hp) : f_X7_root z (nI w) g = some (nI (isq w), g) := by
  have := root_L (z := z) hw g 8 z 0 (by decide) (by omega) (by decide) (by omega) (by omega)
  unfold f_X7_root
  rw [show (256 : Int32) = nI (2 ^ 8) from rfl, show (0 : Int32) = nI 0 from rfl, this]
  rfl
theorem reckon_L (hz : 2000 ≤ z) {q : Nat} (hq : q ≤ 400) : ∀ (n v : Nat) (g1 : Hp), gR g1 (8, 0) 0 = some (20, 0) → gN g1 (20, 0) = 144 → v ≤ 144 → 144 - v < n → (∀ k, k < v → gI g1 (20, 0) k = nI (isq (q * ((k / 12) * (k / 12) + (k % 12) * (k % 12))))) → ∃ g2, f_X7_reckon_2_L z (some (8, 0)) (nI q) n (nI v) g1 = some (144, g2) ∧ Ch [20] g1 g2 ∧ ∀ k, k < 144 → gI g2 (20, 0) k = nI (isq (q * ((k / 12) * (k / 12) + (k % 12) * (k % 12))))
  | 0, v, _, _, _, _, h2, _ => absurd h2 (Nat.not_lt_zero _)
  | n + 1, v, g1, hr, hl, h1, h2, h3 => by
    show ∃ g2, f_X7_reckon_2_b z (some (8, 0)) (nI q) (f_X7_reckon_2_L z (some (8, 0)) (nI q) n) (nI v) g1 = _ ∧ _
    unfold f_X7_reckon_2_b
    rw [show (144 : Int32) = nI 144 from rfl]
    by_cases he : 144 ≤ v
    · have e : v = 144 := by omega
      rw [if_pos ((nI_leI (by omega) (by omega)).mpr he)]
      subst e
      exact ⟨g1, rfl, Ch.rf _ _, h3⟩
    · rw [if_neg (fun w => he ((nI_leI (by omega) (by omega)).mp w)), show (12 : Int32) = nI 12 from rfl, dvI_n (by omega) (by decide) (by decide), rmI_n (by omega) (by decide) (by decide)]
      simp only [Option.bind_some, gR_X, hr, pk_mul, nI_add]
      have hb : q * ((v / 12) * (v / 12) + (v % 12) * (v % 12)) ≤ 400 * 242 := Nat.mul_le_mul hq (by
        have h1 : v / 12 * (v / 12) ≤ 11 * 11 := Nat.mul_le_mul (by omega) (by omega)
        have h2 : v % 12 * (v % 12) ≤ 11 * 11 := Nat.mul_le_mul (by omega) (by omega)
        omega)
      rw [root8 hz (by omega)]
      simp only [Option.bind_some]
      rw [ast_X hl (by decide) (by decide) (by omega) (by decide)]
      simp only [Option.bind_some, nI_1]
      obtain ⟨g2, k1, k2, k3⟩ := reckon_L hz hq n (v + 1) (setI g1 (20, 0) v (nI (isq (q * ((v / 12) * (v / 12) + (v % 12) * (v % 12)))))) hr hl (by omega) (by omega) (fun k hk => by
        rw [gI_set]
        by_cases e : k = v
        · rw [if_pos ⟨rfl, e⟩, e]
        · rw [if_neg (fun w => e w.2)]; exact h3 k (by omega))
      exact ⟨g2, k1, (Ch.set (show 20 ∈ [20] by decide)).tr k2, k3⟩
theorem rule8 (hz : 2000 ≤ z) {g : Hp} {V : VV} (h : IN g V) (h3 : npk V = 0) {q e : Nat} (hq1 : 1 ≤ q) (hq2 : q ≤ 400) (he : e ≤ 50) : ∃ g2, f_X8_rule z (some (9, 0)) (nI q) (nI e) g = some (1, g2) ∧ IN g2 (vs (vs V 10 3 (nI q)) 10 4 (nI e)) ∧ Ch [9, 20] g g2 := by
  have hp60 := h.v.hv.np
  have h1 : ¬ inB (nI q) 1 400 = 0 := by
    unfold inB
    rw [show (1 : Int32) = nI 1 from rfl, show (400 : Int32) = nI 400 from rfl, if_neg (fun w => by have := (nI_ltI (by omega) (by omega)).mp w; omega), if_neg (fun w => by have := (nI_ltI (by omega) (by omega)).mp w; omega)]; decide
  have h2 : ¬ inB (nI e) 0 50 = 0 := by
    unfold inB
    rw [show (0 : Int32) = nI 0 from rfl, show (50 : Int32) = nI 50 from rfl, if_neg (fun w => by have := (nI_ltI (by omega) (by omega)).mp w; omega), if_neg (fun w => by have := (nI_ltI (by omega) (by omega)).mp w; omega)]; decide
  obtain ⟨g2, k1, k2, k3⟩ := reckon_L hz hq2 z 0 g h.b1.1.2.1 h.b1.2.1 (by omega) (by omega) (fun k hk => absurd hk (Nat.not_lt_zero _))
  have hev : Ev [] [3, 4] V (vs (vs V 10 3 (nI q)) 10 4 (nI e)) := ((Ev.rf _ _ V).t (by decide)).t (by decide)
  have hch : Ch [9, 20] g (setI g2 (9, 0) 11 (nI e)) := (k2.sub (by decide)).tr (Ch.set (show 9 ∈ [9, 20] by decide))
  have hq0 : nqk V = 0 := by
    rcases Nat.eq_zero_or_pos (nqk V) with w | w
    · exact w
    · have := (h.v.fp w).1; omega
  have eE : vs (vs V 10 3 (nI q)) 10 4 (nI e) 10 4 = nI e := vs_eq
  have eS : vs (vs V 10 3 (nI q)) 10 4 (nI e) 10 3 = nI q := by rw [vs_nk (by decide), vs_eq]
  have sS : slo (vs (vs V 10 3 (nI q)) 10 4 (nI e)) = q := by
    show (vs (vs V 10 3 (nI q)) 10 4 (nI e) 10 3).toNatClampNeg = q
    rw [eS]; exact nI_cl (by omega)
  have sE : err (vs (vs V 10 3 (nI q)) 10 4 (nI e)) = e := by
    show (vs (vs V 10 3 (nI q)) 10 4 (nI e) 10 4).toNatClampNeg = e
    rw [eE]; exact nI_cl (by omega)
  refine ⟨setI g2 (9, 0) 11 (nI e), ?_, h.upd hch hev (by decide) (by decide) ?_ ?_ ?_ (h.vf.cg hev (by decide) (by decide)), hch⟩
  · simp only [f_X8_rule, in8, Option.bind_some, if_neg h1, if_neg h2, gr_C h.b1, cRef, ick_X, emptyJ h.c2 (show npk V < 2147483648 by omega), h3, if_true, f_X7_reckon]
    rw [if_neg (by decide), show (0 : Int32) = nI 0 from rfl, k1]
    simp only [Option.bind_some, pu_C]
  · obtain ⟨hv, w⟩ := h.v
    obtain ⟨v1, v2, v3, v4, v5, v6, v7⟩ := hv
    refine ⟨⟨v1, v2, ?_, ?_, v5, v6, v7⟩, w⟩
    · rw [sS]; exact ⟨eS, hq2⟩
    · rw [sE]; exact ⟨eE, he⟩
  · intro n k v hz2 hn hk
    obtain ⟨c, j⟩ := n
    simp only [List.mem_cons, List.not_mem_nil, or_false] at hn
    rcases hn with rfl | rfl
    · have hj : j = 0 := hz2 (by simp)
      subst hj
      rw [gI_set]
      by_cases e5 : k = 11
      · subst e5
        simp [cI, vs] at hk
        rw [if_pos ⟨rfl, rfl⟩]; exact hk
      · rw [if_neg (by simp [e5]), k2.i (by simp)]
        refine h.i (v := v) ?_
        rw [← hk]
        simp [cI, vs, e5]
    · have hj : j = 0 := hz2 (by simp)
      subst hj
      rw [gI_set, if_neg (by simp)]
      simp only [cI, sS] at hk
      simp at hk
      rw [← hk.2]
      exact k3 k hk.1
  · rcases h.h with w | ⟨q2, hq2, -⟩
    · exact Or.inl (by rw [hch.i (by decide)]; exact w)
    · omega

end RUL
end
section
section HEA
variable {z : Nat}
theorem nlz_st {w k B : Nat} (hw : w < 2 ^ 31) (hk : k < 32) (hB : 2 ^ k = B) : ((nI w).toUInt32 >>> ((nI k).toUInt32 &&& Int32.toUInt32 31)).toInt32 = nI (w / B) := by
  rw [← hB]
  refine pk_ushrN (by omega) (nI k) k ?_
  revert k
  intro k hk _
  exact (show ∀ n, n < 32 → (((nI n).toUInt32 &&& Int32.toUInt32 31).toBitVec % 32).toNat = n by decide +kernel) k hk
theorem bl_div {w k B : Nat} (hB : 2 ^ k = B) (h : B ≤ w) : bl w = bl (w / B) + k := by
  have h0 : 0 < B := by rw [← hB]; exact Nat.pow_pos (by decide)
  apply Nat.le_antisymm
  · apply bl_le.mp
    have := bl_le.mpr (Nat.le_refl (bl (w / B)))
    rw [Nat.pow_add, hB]
    exact (Nat.div_lt_iff_lt_mul h0).mp this
  · have h1 : bl (w / B) ≤ bl w - k := by
      apply bl_le.mp
      apply (Nat.div_lt_iff_lt_mul h0).mpr
      rw [← hB, ← Nat.pow_add]
      have hk : k ≤ bl w := by
        rcases Nat.lt_or_ge (bl w) k with q | q
        · have := bl_le.mpr (Nat.le_of_lt q)
          omega
        · exact q
      rw [Nat.sub_add_cancel hk]
      exact bl_le.mpr (Nat.le_refl _)
    have hk : k ≤ bl w := by
      rcases Nat.lt_or_ge (bl w) k with q | q
      · have := bl_le.mpr (Nat.le_of_lt q)
        omega
      · exact q
    omega
theorem bl4 : bl 1 = 1 ∧ bl 2 = 2 ∧ bl 3 = 2 := by decide
theorem nlz_step {w n k B : Nat} {g : Hp} (hw : 0 < w) (hw2 : w < 2 ^ 31) (hk : k < 32) (hB : 2 ^ k = B) (hB2 : B < 2 ^ 31) (hn : n ≤ 31) (hn2 : k ≤ n ∨ w < B) : ∃ w2 n2, (if nI w < nI B then some (nI n, nI w) else some (nI n + -nI k, ((nI w).toUInt32 >>> ((nI k).toUInt32 &&& Int32.toUInt32 31)).toInt32)) = some (nI n2, nI w2) ∧ 0 < w2 ∧ w2 ≤ w ∧ n2 ≤ 31 ∧ n2 + bl w = n + bl w2 ∧ ((w < B ∧ w2 = w) ∨ w2 = w / B) := by
  by_cases h : w < B
  · rw [if_pos ((nI_ltI hw2 hB2).mpr h)]
    exact ⟨w, n, rfl, hw, Nat.le_refl _, hn, rfl, Or.inl ⟨h, rfl⟩⟩
  · rw [if_neg (fun q => h ((nI_ltI hw2 hB2).mp q)), nlz_st hw2 hk hB]
    have h0 : 0 < B := by rw [← hB]; exact Nat.pow_pos (by decide)
    have hb := bl_div hB (Nat.le_of_not_lt h)
    have hkn : k ≤ n := by omega
    refine ⟨w / B, n - k, ?_, Nat.div_pos (by omega) h0, Nat.div_le_self _ _, by omega, by omega, Or.inr rfl⟩
    congr 2
    rw [nI_iI n, nI_iI k, iI_neg, iI_add, nI_iI]
    congr 1
    omega
theorem bits8 {w : Nat} (hw : w < 2 ^ 31) (g : Hp) : f_X8_bits z (nI w) g = some (nI (bl w), g) := by
  have key : f_J6_numberOfLeadingZeros_0f7a4 z (nI w) g = some (nI (32 - bl w), g) := by
    unfold f_J6_numberOfLeadingZeros_0f7a4
    rcases Nat.eq_zero_or_pos w with h0 | h0
    · subst h0
      rw [if_neg (by decide), if_pos (by decide)]
      rfl
    · rw [if_pos (show (0 : Int32) < nI w from (nI_ltI (a := 0) (by decide) hw).mpr h0)]
      rw [show (31 + -16 : Int32) = nI 31 + -nI 16 from rfl, show (65536 : Int32) = nI 65536 from rfl, show (31 : Int32) = nI 31 from rfl, show (16 : Int32) = nI 16 from rfl]
      obtain ⟨w1, n1, e1, p1, q1, r1, s1, t1⟩ := nlz_step (n := 31) (k := 16) (B := 65536) (g := g) h0 hw (by decide) (by decide) (by decide) (by decide) (Or.inl (by decide))
      rw [show (nI 31).toUInt32 = Int32.toUInt32 31 from rfl, e1]
      have hw1 : w1 < 65536 := by rcases t1 with ⟨a, b⟩ | b <;> omega
      have hn1 : 15 ≤ n1 := by
        have a1 := bl_le.mp hw
        have a2 : w1 < 2 ^ 15 ∨ 2 ^ 15 ≤ w1 := by omega
        rcases t1 with ⟨a, b⟩ | b
        · subst b; omega
        · by_cases hB : 65536 ≤ w
          · have := bl_div (k := 16) (B := 65536) (by decide) hB
            rw [← b] at this; omega
          · have : w1 = 0 := by omega
            omega
      simp only [Option.bind_some]
      rw [show (256 : Int32) = nI 256 from rfl, show (-8 : Int32) = -nI 8 from rfl, show (8 : Int32) = nI 8 from rfl]
      obtain ⟨w2, n2, e2, p2, q2, r2, s2, t2⟩ := nlz_step (n := n1) (k := 8) (B := 256) (g := g) p1 (by omega) (by decide) (by decide) (by decide) r1 (Or.inl (by omega))
      rw [e2]
      have hw2 : w2 < 256 := by rcases t2 with ⟨a, b⟩ | b <;> omega
      have hn2 : 7 ≤ n2 := by
        rcases t2 with ⟨a, b⟩ | b
        · subst b; omega
        · by_cases hB : 256 ≤ w1
          · have := bl_div (k := 8) (B := 256) (by decide) hB
            rw [← b] at this; omega
          · have : w2 = 0 := by omega
            omega
      simp only [Option.bind_some]
      rw [show (-4 : Int32) = -nI 4 from rfl, show (4 : Int32) = nI 4 from rfl]
      obtain ⟨w3, n3, e3, p3, q3, r3, s3, t3⟩ := nlz_step (n := n2) (k := 4) (B := 16) (g := g) p2 (by omega) (by decide) (by decide) (by decide) r2 (Or.inl (by omega))
      rw [e3]
      have hw3 : w3 < 16 := by rcases t3 with ⟨a, b⟩ | b <;> omega
      have hn3 : 3 ≤ n3 := by
        rcases t3 with ⟨a, b⟩ | b
        · subst b; omega
        · by_cases hB : 16 ≤ w2
          · have := bl_div (k := 4) (B := 16) (by decide) hB
            rw [← b] at this; omega
          · have : w3 = 0 := by omega
            omega
      simp only [Option.bind_some]
      rw [show (-2 : Int32) = -nI 2 from rfl, show (2 : Int32) = nI 2 from rfl]
      obtain ⟨w4, n4, e4, p4, q4, r4, s4, t4⟩ := nlz_step (n := n3) (k := 2) (B := 4) (g := g) p3 (by omega) (by decide) (by decide) (by decide) r3 (Or.inl (by omega))
      rw [e4]
      have hw4 : w4 < 4 := by rcases t4 with ⟨a, b⟩ | b <;> omega
      simp only [Option.bind_some]
      rw [show (1 : Int32) = nI 1 from rfl, nlz_st (by omega) (by decide) (show 2 ^ 1 = 2 from rfl)]
      have hn4 : 1 ≤ n4 := by
        rcases t4 with ⟨a, b⟩ | b
        · subst b; omega
        · by_cases hB : 4 ≤ w3
          · have := bl_div (k := 2) (B := 4) (by decide) hB
            rw [← b] at this; omega
          · have : w4 = 0 := by omega
            omega
      have hb4 : bl w4 = 1 + w4 / 2 := by
        rcases (by omega : w4 = 1 ∨ w4 = 2 ∨ w4 = 3) with rfl | rfl | rfl <;> decide
      rw [pk_sub (by omega)]
      congr 3
      omega
  unfold f_X8_bits
  rw [key]
  have hb : bl w ≤ 31 := bl_le.mp hw
  simp only [Option.bind_some]
  rw [show (32 : Int32) = nI 32 from rfl, pk_sub (by omega)]
  congr 3
  omega
end HEA
section HEB
variable {z : Nat}
theorem imax_i {a b : Int} (h1 : -2147483648 ≤ a) (h2 : a < 2147483648) (h3 : -2147483648 ≤ b) (h4 : b < 2147483648) : imax (iI a) (iI b) = iI (max a b) := by
  unfold imax
  by_cases h : a < b
  · rw [if_pos ((iI_lt h1 h2 h3 h4).mpr h)]; congr 1; omega
  · rw [if_neg (fun q => h ((iI_lt h1 h2 h3 h4).mp q))]; congr 1; omega
theorem imin_i {a b : Int} (h1 : -2147483648 ≤ a) (h2 : a < 2147483648) (h3 : -2147483648 ≤ b) (h4 : b < 2147483648) : imin (iI a) (iI b) = iI (min a b) := by
  unfold imin
  by_cases h : b < a
  · rw [if_pos ((iI_lt h3 h4 h1 h2).mpr h)]; congr 1; omega
  · rw [if_neg (fun q => h ((iI_lt h3 h4 h1 h2).mp q))]; congr 1; omega
/-- with the cache nobody's, its cells are free -/
theorem IN.scr {g g1 : Hp} {V : VV} (h : IN g V) (hch : Ch [1, 21, 22] g g1) (h5 : gI g1 (1, 0) 5 = -9) : IN g1 V := by
  have := h.upd (C := [1, 21, 22]) (D := []) (E := []) (V2 := V) hch (Ev.rf _ _ _) (by decide) (by decide) h.v (fun n k v _ hn hk => by
    have := cI_cls hk
    simp only [List.mem_cons, List.not_mem_nil, or_false] at hn
    rcases hn with e | e | e <;> rw [e] at this <;> exact absurd this (by decide)) (Or.inl h5) h.vf
  exact this.unw
def HF (g : Hp) (A B : Nat → Int) : Prop := ∀ c, c < 144 → gI g (21, 0) c = iI (A c) ∧ gI g (22, 0) c = iI (B c)
theorem Ch.b1 {C : List Nat} {g g1 : Hp} (h : Ch C g g1) (hb : RC1 g.1) : RC1 g1.1 := by rw [h.1]; exact hb
theorem clear_L {g : Hp} (hb : RC1 g.1) : ∀ (n v : Nat) (g1 : Hp), Ch [21, 22] g g1 → v ≤ 144 → 144 - v < n → (∀ c, c < v → gI g1 (21, 0) c = iI (-1000000) ∧ gI g1 (22, 0) c = iI 1000000) → ∃ g2, f_X0_clear_8_L z (some (1, 0)) n (nI v) g1 = some (144, g2) ∧ Ch [21, 22] g g2 ∧ HF g2 (fun _ => -1000000) (fun _ => 1000000)
  | 0, v, _, _, _, h2, _ => absurd h2 (Nat.not_lt_zero _)
  | n + 1, v, g1, hc, h1, h2, h3 => by
    show ∃ g2, f_X0_clear_8_b z (some (1, 0)) (f_X0_clear_8_L z (some (1, 0)) n) (nI v) g1 = _ ∧ _
    unfold f_X0_clear_8_b
    rw [show (144 : Int32) = nI 144 from rfl]
    have hb1 := hc.b1 hb
    by_cases he : 144 ≤ v
    · have e : v = 144 := by omega
      rw [if_pos ((nI_leI (by omega) (by omega)).mpr he)]
      subst e
      exact ⟨g1, rfl, hc, h3⟩
    · rw [if_neg (fun w => he ((nI_leI (by omega) (by omega)).mp w))]
      have r0 : gR g1 (1, 0) 0 = some (21, 0) := hb1.1.2.2.1
      have r1 : ∀ w, gR (setI g1 (21, 0) v w) (1, 0) 1 = some (22, 0) := fun w => hb1.1.2.2.2
      have n1 : ∀ w, gN (setI g1 (21, 0) v w) (22, 0) = 144 := fun w => hb1.2.2.2.1
      simp only [gR_X, Option.bind_some, r0, ast_X hb1.2.2.1 (by decide) (by decide) (show v < 144 by omega) (by decide), r1, ast_X (n1 _) (by decide) (by decide) (show v < 144 by omega) (by decide), nI_1]
      refine clear_L hb n (v + 1) _ (hc.tr ((Ch.set (by decide)).tr (Ch.set (by decide)))) (by omega) (by omega) (fun c hc2 => ?_)
      by_cases e : c = v
      · subst e
        rw [gI_set, if_neg (by simp), gI_set, if_pos ⟨rfl, rfl⟩, gI_set, if_pos ⟨rfl, rfl⟩]
        exact ⟨by decide, by decide⟩
      · rw [gI_set, if_neg (by simp), gI_set, if_neg (by simp [e]), gI_set, if_neg (by simp [e]), gI_set, if_neg (by simp)]
        exact h3 c (by omega)
theorem clear8 (hz : 2000 ≤ z) {g : Hp} (hb : RC1 g.1) : ∃ g2, f_X0_clear z (some (1, 0)) g = some ((), g2) ∧ Ch [1, 21, 22] g g2 ∧ gI g2 (1, 0) 5 = -9 ∧ HF g2 (fun _ => -1000000) (fun _ => 1000000) := by
  obtain ⟨g2, k1, k2, k3⟩ := clear_L (z := z) (g := setI g (1, 0) 5 (-9)) hb z 0 _ (Ch.rf _ _) (by omega) (by omega) (fun c hc => absurd hc (Nat.not_lt_zero _))
  refine ⟨g2, ?_, (Ch.set (show 1 ∈ [1, 21, 22] by decide)).tr (k2.sub (by decide)), ?_, k3⟩
  · simp only [f_X0_clear, pI_X, Option.bind_some]
    rw [show (0 : Int32) = nI 0 from rfl, k1]; rfl
  · rw [k2.i (by decide), gI_set, if_pos ⟨rfl, rfl⟩]
theorem narrow_L {g : Hp} {V : VV} (ht : TT g V) {d : Nat} (hd : d < 144) {x y : Int} (hx : -2000000 ≤ x ∧ x ≤ 2000000) (hy : -2000000 ≤ y ∧ y ≤ 2000000) {A B : Nat → Int} (hA : ∀ c, c < 144 → -10000000 ≤ A c ∧ A c ≤ 10000000 ∧ -10000000 ≤ B c ∧ B c ≤ 10000000) : ∀ (n v : Nat) (g1 : Hp), Ch [21, 22] g g1 → v ≤ 144 → 144 - v < n → HF g1 (fun c => if c < v then max (A c) (x - TV V c d) else A c) (fun c => if c < v then min (B c) (y - TV V c d) else B c) → ∃ g2, f_X0_narrow_3_L z (some (1, 0)) (some (8, 0)) (nI d) (iI x) (iI y) n (nI v) g1 = some (144, g2) ∧ Ch [21, 22] g g2 ∧ HF g2 (fun c => max (A c) (x - TV V c d)) (fun c => min (B c) (y - TV V c d))
  | 0, v, _, _, _, h2, _ => absurd h2 (Nat.not_lt_zero _)
  | n + 1, v, g1, hc, h1, h2, h3 => by
    show ∃ g2, f_X0_narrow_3_b z (some (1, 0)) (some (8, 0)) (nI d) (iI x) (iI y) (f_X0_narrow_3_L z (some (1, 0)) (some (8, 0)) (nI d) (iI x) (iI y) n) (nI v) g1 = _ ∧ _
    unfold f_X0_narrow_3_b
    rw [show (144 : Int32) = nI 144 from rfl]
    have hb1 := hc.b1 ht.1
    have ht1 : TT g1 V := ⟨hb1, ht.2.1, fun k hk => by rw [hc.i (by decide)]; exact ht.2.2 k hk⟩
    by_cases he : 144 ≤ v
    · have e : v = 144 := by omega
      rw [if_pos ((nI_leI (by omega) (by omega)).mpr he)]
      subst e
      refine ⟨g1, rfl, hc, fun c hc2 => ?_⟩
      have := h3 c hc2
      simp only [if_pos hc2] at this
      exact this
    · rw [if_neg (fun w => he ((nI_leI (by omega) (by omega)).mp w))]
      have hv : v < 144 := by omega
      have htv := TV_b ht.2.1 hv hd
      have r0 : gR g1 (1, 0) 0 = some (21, 0) := hb1.1.2.2.1
      have r1 : ∀ w, gR (setI g1 (21, 0) v w) (1, 0) 1 = some (22, 0) := fun w => hb1.1.2.2.2
      have n1 : ∀ w, gN (setI g1 (21, 0) v w) (22, 0) = 144 := fun w => hb1.2.2.2.1
      obtain ⟨a1, a2⟩ := h3 v hv
      simp only [Nat.lt_irrefl, if_false] at a1 a2
      have a2' : ∀ w, gI (setI g1 (21, 0) v w) (22, 0) v = iI (B v) := fun w => by rw [gI_set, if_neg (by simp)]; exact a2
      obtain ⟨b1, b2, b3, b4⟩ := hA v hv
      have hw : ∀ x : Int, iI x - nI (tv (slo V) v d) = iI (x - TV V v d) := fun x => by rw [nI_iI, iI_sub]; rfl
      simp only [ick_X, between8 ht1 hv hd, gR_X, Option.bind_some, r0, ald_X hb1.2.2.1 (by decide) (by decide) hv (by decide), a1, hw, imax_i (show -2147483648 ≤ A v by omega) (show A v < 2147483648 by omega) (show -2147483648 ≤ x - TV V v d by omega) (show x - TV V v d < 2147483648 by omega), ast_X hb1.2.2.1 (by decide) (by decide) hv (by decide), r1, ald_X (n1 _) (by decide) (by decide) hv (by decide), a2', imin_i (show -2147483648 ≤ B v by omega) (show B v < 2147483648 by omega) (show -2147483648 ≤ y - TV V v d by omega) (show y - TV V v d < 2147483648 by omega), ast_X (n1 _) (by decide) (by decide) hv (by decide), nI_1]
      refine narrow_L ht hd hx hy hA n (v + 1) _ (hc.tr ((Ch.set (by decide)).tr (Ch.set (by decide)))) (by omega) (by omega) (fun c hc2 => ?_)
      by_cases e : c = v
      · subst e
        rw [gI_set, if_neg (by simp), gI_set, if_pos ⟨rfl, rfl⟩, gI_set, if_pos ⟨rfl, rfl⟩]
        simp
      · rw [gI_set, if_neg (by simp), gI_set, if_neg (by simp [e]), gI_set, if_neg (by simp [e]), gI_set, if_neg (by simp)]
        have := h3 c hc2
        by_cases e2 : c < v
        · simp only [if_pos e2, if_pos (show c < v + 1 by omega)] at this ⊢; exact this
        · simp only [if_neg e2, if_neg (show ¬ c < v + 1 by omega)] at this ⊢; exact this
theorem narrow8 (hz : 2000 ≤ z) {g : Hp} {V : VV} (ht : TT g V) {d : Nat} (hd : d < 144) {x y : Int} (hx : -2000000 ≤ x ∧ x ≤ 2000000) (hy : -2000000 ≤ y ∧ y ≤ 2000000) {A B : Nat → Int} (hA : ∀ c, c < 144 → -10000000 ≤ A c ∧ A c ≤ 10000000 ∧ -10000000 ≤ B c ∧ B c ≤ 10000000) (hF : HF g A B) : ∃ g2, f_X0_narrow z (some (1, 0)) (some (8, 0)) (nI d) (iI x) (iI y) g = some ((), g2) ∧ Ch [21, 22] g g2 ∧ HF g2 (fun c => max (A c) (x - TV V c d)) (fun c => min (B c) (y - TV V c d)) := by
  obtain ⟨g2, k1, k2, k3⟩ := narrow_L (z := z) ht hd hx hy hA z 0 g (Ch.rf _ _) (by omega) (by omega) (fun c hc => by simp; exact hF c hc)
  refine ⟨g2, ?_, k2, k3⟩
  unfold f_X0_narrow
  rw [show (0 : Int32) = nI 0 from rfl, k1]; rfl
def cLo (V : VV) (hd : Nat → Int) (c : Nat) : Nat → Int
  | 0 => -1000000
  | s + 1 => if hd s = -1 then (if V 60 s = 0 then max (cLo V hd c s) ((nw V : Int) - err V - TV V c (cS V s)) else cLo V hd c s) else max (cLo V hd c s) (hd s - err V - TV V c (cS V s))
def cHi (V : VV) (hd : Nat → Int) (c : Nat) : Nat → Int
  | 0 => 1000000
  | s + 1 => if hd s = -1 then (if V 60 s = 0 then min (cHi V hd c s) (1000000 - TV V c (cS V s)) else cHi V hd c s) else min (cHi V hd c s) (hd s + err V - TV V c (cS V s))
theorem cLo_b {V : VV} (h : HV V) {hd : Nat → Int} (hh : ∀ s, s < nst V → -1 ≤ hd s ∧ hd s ≤ 100000) {c : Nat} (hc : c < 144) : ∀ n, n ≤ nst V → -1000000 ≤ cLo V hd c n ∧ cLo V hd c n ≤ 1000000 ∧ -1000000 ≤ cHi V hd c n ∧ cHi V hd c n ≤ 1000000
  | 0, _ => by simp [cLo, cHi]
  | s + 1, hs => by
    have ih := cLo_b h hh hc s (by omega)
    have h5 := h.no.2
    have h4 := h.er.2
    have := TV_b h.sl.2 hc (h.st (s := s) (by omega)).2.1
    have := hh s (by omega)
    unfold cLo cHi
    split
    · split <;> omega
    · omega
theorem fill_L (hz : 2000 ≤ z) {V : VV} {q : Nat} {m t : Int32} {hd : Nat → Int} (hq : q < nqk V) : ∀ (n s : Nat) (g : Hp), IN g V → (∀ s, s < nst V → -1 ≤ hd s ∧ hd s ≤ 100000 ∧ (if nI s = m then t else gI g (26, q) s) = iI (hd s)) → gI g (1, 0) 5 = -9 → s ≤ nst V → nst V - s < n → HF g (fun c => cLo V hd c s) (fun c => cHi V hd c s) → ∃ w g2, f_X8_fillHeap_10_L z (some (9, 0)) (some (4, q)) m t n (nI s) g = some (w, g2) ∧ Ch [21, 22] g g2 ∧ HF g2 (fun c => cLo V hd c (nst V)) (fun c => cHi V hd c (nst V))
  | 0, s, _, _, _, _, _, h2, _ => absurd h2 (Nat.not_lt_zero _)
  | n + 1, s, g, h, hh, h5, h1, h2, hF => by
    show ∃ w g2, f_X8_fillHeap_10_b z (some (9, 0)) (some (4, q)) m t (f_X8_fillHeap_10_L z (some (9, 0)) (some (4, q)) m t n) (nI s) g = _ ∧ _
    unfold f_X8_fillHeap_10_b
    have ns := h.v.hv.ns.2
    have hno := h.v.hv.no
    have her := h.v.hv.er
    simp only [gr_C h.b1, cRef, Option.bind_some, ick_X, sizeJ h.c0]
    by_cases he : nst V ≤ s
    · have e : s = nst V := by omega
      rw [if_pos ((nI_leI (by omega) (by omega)).mpr he)]
      subst e
      exact ⟨_, g, rfl, Ch.rf _ _, hF⟩
    · have hs : s < nst V := by omega
      rw [if_neg (fun w => he ((nI_leI (by omega) (by omega)).mp w)), getS h hs]
      obtain ⟨b1, b2, b3⟩ := hh s hs
      have hst := h.v.hv.st hs
      have hr : (if nI s = m then some t else (getR (some (4, q)) 4 2 g).bind fun x8 => (aldI x8 (nI s) g).bind fun x9 => some x9) = some (iI (hd s)) := by
        rw [← b3]
        by_cases e : nI s = m
        · rw [if_pos e, if_pos e]
        · have r26 : gR g (4, q) 2 = some (26, q) := (h.r.2.2.2.2.1.2.1 q hq).1
          have n26 : gN g (26, q) = 10 := (h.r.2.2.2.2.1.2.1 q hq).2.2.2.1
          rw [if_neg e, if_neg e]
          simp only [gR_X, Option.bind_some, r26, ald_X n26 (by decide) (by decide) (show s < 10 by omega) (by decide)]
      simp only [Option.bind_some, ckc_X, hr, gI_X, h.s0 hs, h.s2 hs, gi_C, h.f10, h.f11, hno.1, her.1, hst.1]
      have hbd := fun c (hc : c < 144) => cLo_b h.v.hv (fun s hs => ⟨(hh s hs).1, (hh s hs).2.1⟩) (hd := hd) hc s (by omega)
      have hgo : ∀ g3, Ch [21, 22] g g3 → HF g3 (fun c => cLo V hd c (s + 1)) (fun c => cHi V hd c (s + 1)) → ∃ w g2, f_X8_fillHeap_10_L z (some (9, 0)) (some (4, q)) m t n (nI s + 1) g3 = some (w, g2) ∧ Ch [21, 22] g g2 ∧ HF g2 (fun c => cLo V hd c (nst V)) (fun c => cHi V hd c (nst V)) := by
        intro g3 k1 k2
        have e5 : gI g3 (1, 0) 5 = -9 := by rw [k1.i (by decide)]; exact h5
        obtain ⟨w, g2, j1, j2, j3⟩ := fill_L hz hq n (s + 1) g3 (h.scr (k1.sub (by decide)) e5) (fun s hs => ⟨(hh s hs).1, (hh s hs).2.1, by rw [k1.i (by simp)]; exact (hh s hs).2.2⟩) e5 (by omega) (by omega) k2
        exact ⟨w, g2, by rw [nI_1]; exact j1, k1.tr j2, j3⟩
      have hbd2 : ∀ c, c < 144 → -10000000 ≤ cLo V hd c s ∧ cLo V hd c s ≤ 10000000 ∧ -10000000 ≤ cHi V hd c s ∧ cHi V hd c s ≤ 10000000 := fun c hc => by have := hbd c hc; omega
      by_cases e1 : hd s = -1
      · rw [e1, if_pos (show iI (-1) = -1 by decide)]
        by_cases e2 : V 60 s = 0
        · rw [if_pos e2]
          have ea : nI (nw V) - nI (err V) = iI ((nw V : Int) - err V) := by rw [nI_iI, nI_iI, iI_sub]
          obtain ⟨g3, k1, k2, k3⟩ := narrow8 hz h.tt hst.2.1 (x := (nw V : Int) - err V) (y := 1000000) (by omega) (by omega) hbd2 hF
          rw [ea, show (1000000 : Int32) = iI 1000000 from by decide]
          simp only [gr_C h.b1, cRef, Option.bind_some, ick_X, k1]
          refine hgo g3 k2 (fun c hc => ?_)
          have := k3 c hc
          simp only [cLo, cHi, e1, e2, if_true]
          exact this
        · rw [if_neg e2]
          refine hgo g (Ch.rf _ _) (fun c hc => ?_)
          have := hF c hc
          simp only [cLo, cHi, e1, if_neg e2, if_true]
          exact this
      · rw [if_neg (fun w => e1 ((iI_eq (y := -1) (by omega) (by omega) (by omega) (by omega)).mp (w.trans (by decide))))]
        have ea : iI (hd s) - nI (err V) = iI (hd s - err V) := by rw [nI_iI, iI_sub]
        have eb : iI (hd s) + nI (err V) = iI (hd s + err V) := by rw [nI_iI, iI_add]
        obtain ⟨g3, k1, k2, k3⟩ := narrow8 hz h.tt hst.2.1 (x := hd s - err V) (y := hd s + err V) (by omega) (by omega) hbd2 hF
        rw [ea, eb]
        simp only [gr_C h.b1, cRef, Option.bind_some, ick_X, k1]
        refine hgo g3 k2 (fun c hc => ?_)
        have := k3 c hc
        simp only [cLo, cHi, if_neg e1]
        exact this
end HEB
section HEC
variable {z : Nat}
def ccF (A B : Nat → Int) : Nat → Nat
  | 0 => 0
  | c + 1 => if A c ≤ B c then ccF A B c + 1 else ccF A B c
theorem ccF_le (A B : Nat → Int) : ∀ n, ccF A B n ≤ n
  | 0 => Nat.le_refl _
  | c + 1 => by unfold ccF; have := ccF_le A B c; split <;> omega
def Bd (A B : Nat → Int) : Prop := ∀ c, c < 144 → -10000000 ≤ A c ∧ A c ≤ 10000000 ∧ -10000000 ≤ B c ∧ B c ≤ 10000000
theorem hs8 {g : Hp} (hb : RC1 g.1) {A B : Nat → Int} (hF : HF g A B) (hB : Bd A B) {c : Nat} (hc : c < 144) : f_X0_has z (some (1, 0)) (nI c) g = some ((if A c ≤ B c then 1 else 0), g) := by
  obtain ⟨b1, b2, b3, b4⟩ := hB c hc
  unfold f_X0_has
  simp only [gR_X, hb.1.2.2.1, hb.1.2.2.2, Option.bind_some, show gR g (1, 0) 0 = some (21, 0) from hb.1.2.2.1, show gR g (1, 0) 1 = some (22, 0) from hb.1.2.2.2, ald_X hb.2.2.1 (by decide) (by decide) hc (by decide), ald_X hb.2.2.2.1 (by decide) (by decide) hc (by decide), (hF c hc).1, (hF c hc).2]
  by_cases h : A c ≤ B c
  · rw [if_neg (fun w => by have := (iI_lt (by omega) (by omega) (by omega) (by omega)).mp w; omega), if_pos h]; exact rtZ_1
  · rw [if_pos ((iI_lt (by omega) (by omega) (by omega) (by omega)).mpr (by omega)), if_neg h]; exact rtZ_0
theorem count_L {A B : Nat → Int} (hB : Bd A B) : ∀ (n v : Nat) (g : Hp), RC1 g.1 → HF g A B → gI g (1, 0) 2 = nI (ccF A B v) → v ≤ 144 → 144 - v < n → ∃ g2, f_X0_countCells_7_L z (some (1, 0)) n (nI v) g = some (144, g2) ∧ Ch [1] g g2 ∧ gI g2 (1, 0) 2 = nI (ccF A B 144) ∧ ∀ k, k ≠ 2 → gI g2 (1, 0) k = gI g (1, 0) k
  | 0, v, _, _, _, _, _, h2 => absurd h2 (Nat.not_lt_zero _)
  | n + 1, v, g, hb, hF, h3, h1, h2 => by
    show ∃ g2, f_X0_countCells_7_b z (some (1, 0)) (f_X0_countCells_7_L z (some (1, 0)) n) (nI v) g = _ ∧ _
    unfold f_X0_countCells_7_b
    rw [show (144 : Int32) = nI 144 from rfl]
    by_cases he : 144 ≤ v
    · have e : v = 144 := by omega
      rw [if_pos ((nI_leI (by omega) (by omega)).mpr he)]
      subst e
      exact ⟨g, rfl, Ch.rf _ _, h3, fun _ _ => rfl⟩
    · rw [if_neg (fun w => he ((nI_leI (by omega) (by omega)).mp w)), ick_X, hs8 hb hF hB (by omega)]
      simp only [Option.bind_some, gI_X, pI_X, h3]
      by_cases h : A v ≤ B v
      · rw [if_pos h, if_neg (by decide), nI_1, nI_1]
        have e : ccF A B v + 1 = ccF A B (v + 1) := by conv => rhs; unfold ccF; rw [if_pos h]
        have hc : Ch [1] g (setI g (1, 0) 2 (nI (ccF A B v + 1))) := Ch.set (by decide)
        obtain ⟨g2, k1, k2, k3, k4⟩ := count_L hB n (v + 1) _ (hc.b1 hb) (fun c hc2 => by rw [hc.i (by decide), hc.i (by decide)]; exact hF c hc2) (by rw [gI_set, if_pos ⟨rfl, rfl⟩, e]) (by omega) (by omega)
        exact ⟨g2, k1, hc.tr k2, k3, fun k hk => by rw [k4 k hk, gI_set, if_neg (fun w => hk w.2)]⟩
      · rw [if_neg h, if_pos rfl, nI_1]
        have e : ccF A B v = ccF A B (v + 1) := by conv => rhs; unfold ccF; rw [if_neg h]
        exact count_L hB n (v + 1) g hb hF (by rw [h3, e]) (by omega) (by omega)
theorem fill8 (hz : 2000 ≤ z) {g : Hp} {V : VV} (h : IN g V) {q : Nat} {m t : Int32} {hd : Nat → Int} (hq : q < nqk V) (hh : ∀ s, s < nst V → -1 ≤ hd s ∧ hd s ≤ 100000 ∧ (if nI s = m then t else gI g (26, q) s) = iI (hd s)) : ∃ g2, f_X8_fillHeap z (some (9, 0)) (some (4, q)) m t g = some ((), g2) ∧ Ch [1, 21, 22] g g2 ∧ gI g2 (1, 0) 5 = -9 ∧ HF g2 (fun c => cLo V hd c (nst V)) (fun c => cHi V hd c (nst V)) ∧ gI g2 (1, 0) 2 = nI (ccF (fun c => cLo V hd c (nst V)) (fun c => cHi V hd c (nst V)) 144) := by
  obtain ⟨g1, a1, a2, a3, a4⟩ := clear8 hz h.b1
  have h1 := h.scr a2 a3
  obtain ⟨w, g2, b1, b2, b3⟩ := fill_L hz (m := m) (t := t) (hd := hd) hq z 0 g1 h1 (fun s hs => ⟨(hh s hs).1, (hh s hs).2.1, by rw [a2.i (by simp)]; exact (hh s hs).2.2⟩) a3 (Nat.zero_le _) (by have := h.v.hv.ns.2; omega) (fun c hc => a4 c hc)
  have hc2 := a2.tr (b2.sub (D := [1, 21, 22]) (by decide))
  have hBd : Bd (fun c => cLo V hd c (nst V)) (fun c => cHi V hd c (nst V)) := fun c hc => by
    have := cLo_b h.v.hv (fun s hs => ⟨(hh s hs).1, (hh s hs).2.1⟩) (hd := hd) hc (nst V) (Nat.le_refl _)
    show -10000000 ≤ cLo V hd c (nst V) ∧ cLo V hd c (nst V) ≤ 10000000 ∧ -10000000 ≤ cHi V hd c (nst V) ∧ cHi V hd c (nst V) ≤ 10000000
    omega
  have hc3 : Ch [1] g2 (setI g2 (1, 0) 2 0) := Ch.set (by decide)
  obtain ⟨g3, c1, c2, c3, c4⟩ := count_L (z := z) hBd z 0 (setI g2 (1, 0) 2 0) ((hc2.tr (hc3.sub (by decide))).b1 h.b1) (fun c hc => by rw [hc3.i (by decide), hc3.i (by decide)]; exact b3 c hc) (by rw [gI_set, if_pos ⟨rfl, rfl⟩]; rfl) (by omega) (by omega)
  refine ⟨g3, ?_, hc2.tr ((hc3.tr c2).sub (by decide)), ?_, fun c hc => ?_, c3⟩
  · unfold f_X8_fillHeap
    simp only [gr_C h.b1, cRef, Option.bind_some, ick_X, a1]
    rw [show (0 : Int32) = nI 0 from rfl, b1]
    simp only [Option.bind_some, gr_C (hc2.b1 h.b1), cRef, ick_X, f_X0_countCells, pI_X]
    rw [show (0 : Int32) = nI 0 from rfl, show setI g2 (1, 0) 2 (nI 0) = setI g2 (1, 0) 2 0 from rfl, c1]
    rfl
  · rw [c4 5 (by decide), gI_set, if_neg (by simp), b2.i (by decide), a3]
  · rw [c2.i (by decide), c2.i (by decide), hc3.i (by decide), hc3.i (by decide)]; exact b3 c hc
/-! the two foldings agree -/
theorem loP_le {W : VV} {q c : Nat} {x : Int} : ∀ n, loP W q c n ≤ x ↔ -1000000000 ≤ x ∧ ∀ p, p < n → W 50 p = nI q → pkT W p c - err W ≤ x
  | 0 => by simp [loP]
  | n + 1 => by
    have ih := loP_le (W := W) (q := q) (c := c) (x := x) n
    unfold loP
    constructor
    · intro h
      by_cases e : W 50 n = nI q
      · rw [if_pos e] at h
        obtain ⟨h1, h2⟩ := ih.mp (by omega)
        refine ⟨h1, fun p hp hq => ?_⟩
        by_cases e2 : p = n
        · subst e2; omega
        · exact h2 p (by omega) hq
      · rw [if_neg e] at h
        obtain ⟨h1, h2⟩ := ih.mp h
        refine ⟨h1, fun p hp hq => ?_⟩
        by_cases e2 : p = n
        · subst e2; exact absurd hq e
        · exact h2 p (by omega) hq
    · intro ⟨h1, h2⟩
      have h3 := ih.mpr ⟨h1, fun p hp hq => h2 p (by omega) hq⟩
      by_cases e : W 50 n = nI q
      · rw [if_pos e]; have := h2 n (by omega) e; omega
      · rw [if_neg e]; exact h3
theorem hiP_ge {W : VV} {q c : Nat} {x : Int} : ∀ n, x ≤ hiP W q c n ↔ x ≤ 1000000000 ∧ ∀ p, p < n → W 50 p = nI q → x ≤ pkT W p c + err W
  | 0 => by simp [hiP]
  | n + 1 => by
    have ih := hiP_ge (W := W) (q := q) (c := c) (x := x) n
    unfold hiP
    constructor
    · intro h
      by_cases e : W 50 n = nI q
      · rw [if_pos e] at h
        obtain ⟨h1, h2⟩ := ih.mp (by omega)
        refine ⟨h1, fun p hp hq => ?_⟩
        by_cases e2 : p = n
        · subst e2; omega
        · exact h2 p (by omega) hq
      · rw [if_neg e] at h
        obtain ⟨h1, h2⟩ := ih.mp h
        refine ⟨h1, fun p hp hq => ?_⟩
        by_cases e2 : p = n
        · subst e2; exact absurd hq e
        · exact h2 p (by omega) hq
    · intro ⟨h1, h2⟩
      have h3 := ih.mpr ⟨h1, fun p hp hq => h2 p (by omega) hq⟩
      by_cases e : W 50 n = nI q
      · rw [if_pos e]; have := h2 n (by omega) e; omega
      · rw [if_neg e]; exact h3
theorem loS_le {W : VV} {q c : Nat} {x : Int} : ∀ n, loS W q c n ≤ x ↔ loP W q c (npk W) ≤ x ∧ ∀ s, s < n → W 60 s = 0 → hrd W q s (npk W) = false → (nw W : Int) - TV W c (cS W s) - err W ≤ x
  | 0 => by simp [loS]
  | n + 1 => by
    have ih := loS_le (W := W) (q := q) (c := c) (x := x) n
    unfold loS
    constructor
    · intro h
      by_cases e : W 60 n = 0 ∧ hrd W q n (npk W) = false
      · rw [if_pos e] at h
        obtain ⟨h1, h2⟩ := ih.mp (by omega)
        refine ⟨h1, fun p hp h3 h4 => ?_⟩
        by_cases e2 : p = n
        · subst e2; omega
        · exact h2 p (by omega) h3 h4
      · rw [if_neg e] at h
        obtain ⟨h1, h2⟩ := ih.mp h
        refine ⟨h1, fun p hp h3 h4 => ?_⟩
        by_cases e2 : p = n
        · subst e2; exact absurd ⟨h3, h4⟩ e
        · exact h2 p (by omega) h3 h4
    · intro ⟨h1, h2⟩
      have h3 := ih.mpr ⟨h1, fun p hp h4 h5 => h2 p (by omega) h4 h5⟩
      by_cases e : W 60 n = 0 ∧ hrd W q n (npk W) = false
      · rw [if_pos e]; have := h2 n (by omega) e.1 e.2; omega
      · rw [if_neg e]; exact h3
theorem cLo_le {W : VV} {hd : Nat → Int} {c : Nat} {x : Int} : ∀ n, cLo W hd c n ≤ x ↔ -1000000 ≤ x ∧ ∀ s, s < n → (hd s ≠ -1 → hd s - err W - TV W c (cS W s) ≤ x) ∧ (hd s = -1 → W 60 s = 0 → (nw W : Int) - err W - TV W c (cS W s) ≤ x)
  | 0 => by simp [cLo]
  | n + 1 => by
    have ih := cLo_le (W := W) (hd := hd) (c := c) (x := x) n
    unfold cLo
    constructor
    · intro h
      have h0 : cLo W hd c n ≤ x := by
        by_cases e1 : hd n = -1
        · rw [if_pos e1] at h
          by_cases e2 : W 60 n = 0
          · rw [if_pos e2] at h; omega
          · rw [if_neg e2] at h; exact h
        · rw [if_neg e1] at h; omega
      obtain ⟨h1, h2⟩ := ih.mp h0
      refine ⟨h1, fun s hs => ?_⟩
      by_cases e : s = n
      · subst e
        refine ⟨fun e1 => ?_, fun e1 e2 => ?_⟩
        · rw [if_neg e1] at h; omega
        · rw [if_pos e1, if_pos e2] at h; omega
      · exact h2 s (by omega)
    · intro ⟨h1, h2⟩
      have h3 := ih.mpr ⟨h1, fun s hs => h2 s (by omega)⟩
      have h4 := h2 n (by omega)
      by_cases e1 : hd n = -1
      · rw [if_pos e1]
        by_cases e2 : W 60 n = 0
        · rw [if_pos e2]; have := h4.2 e1 e2; omega
        · rw [if_neg e2]; exact h3
      · rw [if_neg e1]; have := h4.1 e1; omega
theorem cHi_ge {W : VV} {hd : Nat → Int} {c : Nat} {x : Int} : ∀ n, x ≤ cHi W hd c n ↔ x ≤ 1000000 ∧ ∀ s, s < n → (hd s ≠ -1 → x ≤ hd s + err W - TV W c (cS W s)) ∧ (hd s = -1 → W 60 s = 0 → x ≤ 1000000 - TV W c (cS W s))
  | 0 => by simp [cHi]
  | n + 1 => by
    have ih := cHi_ge (W := W) (hd := hd) (c := c) (x := x) n
    unfold cHi
    constructor
    · intro h
      have h0 : x ≤ cHi W hd c n := by
        by_cases e1 : hd n = -1
        · rw [if_pos e1] at h
          by_cases e2 : W 60 n = 0
          · rw [if_pos e2] at h; omega
          · rw [if_neg e2] at h; exact h
        · rw [if_neg e1] at h; omega
      obtain ⟨h1, h2⟩ := ih.mp h0
      refine ⟨h1, fun s hs => ?_⟩
      by_cases e : s = n
      · subst e
        refine ⟨fun e1 => ?_, fun e1 e2 => ?_⟩
        · rw [if_neg e1] at h; omega
        · rw [if_pos e1, if_pos e2] at h; omega
      · exact h2 s (by omega)
    · intro ⟨h1, h2⟩
      have h3 := ih.mpr ⟨h1, fun s hs => h2 s (by omega)⟩
      have h4 := h2 n (by omega)
      by_cases e1 : hd n = -1
      · rw [if_pos e1]
        by_cases e2 : W 60 n = 0
        · rw [if_pos e2]; have := h4.2 e1 e2; omega
        · rw [if_neg e2]; exact h3
      · rw [if_neg e1]; have := h4.1 e1; omega
theorem tkS_sp {W : VV} {q s : Nat} : ∀ n, (tkS W q s n = -1 ∧ hrd W q s n = false ∧ ∀ p, p < n → ¬ (W 50 p = nI q ∧ W 47 p = nI s)) ∨ ∃ p, p < n ∧ W 50 p = nI q ∧ W 47 p = nI s ∧ tkS W q s n = (tk W p : Int) ∧ hrd W q s n = true
  | 0 => Or.inl ⟨rfl, rfl, fun p hp => absurd hp (Nat.not_lt_zero _)⟩
  | n + 1 => by
    by_cases e : W 50 n = nI q ∧ W 47 n = nI s
    · exact Or.inr ⟨n, by omega, e.1, e.2, by simp [tkS, e], by simp [hrd, e]⟩
    · have hh : hrd W q s (n + 1) = hrd W q s n := by
        show (hrd W q s n || (decide (W 50 n = nI q) && decide (W 47 n = nI s))) = hrd W q s n
        have e3 : (decide (W 50 n = nI q) && decide (W 47 n = nI s)) = false := by rw [← Bool.decide_and]; exact decide_eq_false e
        rw [e3, Bool.or_false]
      have ht : tkS W q s (n + 1) = tkS W q s n := by conv => lhs; unfold tkS; rw [if_neg e]
      rcases tkS_sp (W := W) (q := q) (s := s) n with ⟨h1, h2, h3⟩ | ⟨p, h1, h2, h3, h4, h5⟩
      · refine Or.inl ⟨ht.trans h1, hh.trans h2, fun p hp => ?_⟩
        by_cases e2 : p = n
        · subst e2; exact e
        · exact h3 p (by omega)
      · exact Or.inr ⟨p, by omega, h2, h3, ht.trans h4, hh.trans h5⟩
end HEC
end
section
section HOF
theorem nI_inj2 {a b : Nat} (h : nI a = nI b) (ha : a < 1000000) (hb : b < 1000000) : a = b := by
  have := congrArg Int32.toNatClampNeg h
  rwa [nI_cl (by omega), nI_cl (by omega)] at this
variable {z : Nat}
theorem fold_eq {W : VV} (hv : HV W) {q c : Nat} (hc : c < 144) (uq : ∀ p p2, p < npk W → p2 < npk W → W 50 p = nI q → W 50 p2 = nI q → sP W p = sP W p2 → p = p2) (ex : ∃ p, p < npk W ∧ W 50 p = nI q) : cLo W (fun s => tkS W q s (npk W)) c (nst W) = lo W q c ∧ cHi W (fun s => tkS W q s (npk W)) c (nst W) = hi W q c := by
  obtain ⟨p0, hp0, e0⟩ := ex
  have hno := hv.no.2
  have her := hv.er.2
  have hns := hv.ns.2
  have hb : ∀ p, p < npk W → -311 ≤ pkT W p c ∧ pkT W p c ≤ 100000 := fun p hp => by
    obtain ⟨a1, a2, a3, a4⟩ := hv.pk hp
    have := TV_b hv.sl.2 hc (hv.st a2).2.1
    unfold pkT; omega
  have h47 : ∀ p, p < npk W → ∀ s, s < nst W → (W 47 p = nI s ↔ sP W p = s) := fun p hp s hs => by
    obtain ⟨a1, a2, -⟩ := hv.pk hp
    constructor
    · intro h
      have : (W 47 p).toNatClampNeg = s := by rw [h]; exact nI_cl (by omega)
      exact this
    · intro h; rw [a1, h]
  have lo1 : lo W q c ≤ lo W q c := Int.le_refl _
  have hi1 : hi W q c ≤ hi W q c := Int.le_refl _
  unfold lo at lo1
  obtain ⟨l1, l2⟩ := (loS_le (nst W)).mp lo1
  obtain ⟨-, l3⟩ := (loP_le (npk W)).mp l1
  obtain ⟨-, u3⟩ := (hiP_ge (npk W)).mp hi1
  have hb0 := hb p0 hp0
  have lo_lb : -1000 ≤ lo W q c := by have := l3 p0 hp0 e0; unfold lo; omega
  have hi_ub : hi W q c ≤ 200000 := by have := u3 p0 hp0 e0; omega
  have c1 := (cLo_le (W := W) (hd := fun s => tkS W q s (npk W)) (c := c) (nst W)).mp (Int.le_refl _)
  have c2 := (cHi_ge (W := W) (hd := fun s => tkS W q s (npk W)) (c := c) (nst W)).mp (Int.le_refl _)
  constructor
  · apply Int.le_antisymm
    · apply (cLo_le (nst W)).mpr
      refine ⟨by omega, fun s hs => ⟨fun h1 => ?_, fun h1 h2 => ?_⟩⟩
      · rcases tkS_sp (W := W) (q := q) (s := s) (npk W) with ⟨a1, -⟩ | ⟨p, a1, a2, a3, a4, -⟩
        · exact absurd a1 h1
        · have := l3 p a1 a2
          have e := (h47 p a1 s hs).mp a3
          unfold pkT at this
          rw [e] at this
          show tkS W q s (npk W) - err W - TV W c (cS W s) ≤ lo W q c
          unfold lo
          omega
      · rcases tkS_sp (W := W) (q := q) (s := s) (npk W) with ⟨-, a2, -⟩ | ⟨p, a1, a2, a3, a4, -⟩
        · have := l2 s hs h2 a2
          unfold lo
          omega
        · have : tkS W q s (npk W) = -1 := h1
          omega
    · unfold lo
      apply (loS_le (nst W)).mpr
      refine ⟨(loP_le (npk W)).mpr ⟨by omega, fun p hp hq => ?_⟩, fun s hs h1 h2 => ?_⟩
      · obtain ⟨a1, a2, a3, a4⟩ := hv.pk hp
        rcases tkS_sp (W := W) (q := q) (s := sP W p) (npk W) with ⟨-, -, b3⟩ | ⟨p2, b1, b2, b3, b4, -⟩
        · exact absurd ⟨hq, a1⟩ (b3 p hp)
        · have e := uq p p2 hp b1 hq b2 ((h47 p2 b1 _ a2).mp b3).symm
          subst e
          have := (c1.2 (sP W p) a2).1 (by show tkS W q (sP W p) (npk W) ≠ -1; omega)
          unfold pkT
          rw [b4] at this
          omega
      · rcases tkS_sp (W := W) (q := q) (s := s) (npk W) with ⟨a1, -⟩ | ⟨p, -, -, -, -, a5⟩
        · have := (c1.2 s hs).2 a1 h1
          omega
        · rw [a5] at h2; exact absurd h2 (by decide)
  · apply Int.le_antisymm
    · apply (hiP_ge (npk W)).mpr
      refine ⟨by omega, fun p hp hq => ?_⟩
      obtain ⟨a1, a2, a3, a4⟩ := hv.pk hp
      rcases tkS_sp (W := W) (q := q) (s := sP W p) (npk W) with ⟨-, -, b3⟩ | ⟨p2, b1, b2, b3, b4, -⟩
      · exact absurd ⟨hq, a1⟩ (b3 p hp)
      · have e := uq p p2 hp b1 hq b2 ((h47 p2 b1 _ a2).mp b3).symm
        subst e
        have := (c2.2 (sP W p) a2).1 (by show tkS W q (sP W p) (npk W) ≠ -1; omega)
        unfold pkT
        rw [b4] at this
        omega
    · apply (cHi_ge (nst W)).mpr
      refine ⟨by omega, fun s hs => ⟨fun h1 => ?_, fun h1 h2 => ?_⟩⟩
      · rcases tkS_sp (W := W) (q := q) (s := s) (npk W) with ⟨a1, -⟩ | ⟨p, a1, a2, a3, a4, -⟩
        · exact absurd a1 h1
        · have := u3 p a1 a2
          have e := (h47 p a1 s hs).mp a3
          unfold pkT at this
          rw [e] at this
          show hi W q c ≤ tkS W q s (npk W) + err W - TV W c (cS W s)
          unfold hi at this ⊢
          omega
      · have := TV_b hv.sl.2 hc (hv.st hs).2.1
        omega
theorem VI.uq {V : VV} (h : VI V) {q : Nat} (hq : q < 1000) : ∀ p p2, p < npk V → p2 < npk V → V 50 p = nI q → V 50 p2 = nI q → sP V p = sP V p2 → p = p2 := fun p p2 h1 h2 h3 h4 h5 => h.un h1 h2 (h3.trans h4.symm) (by rw [h3]; exact nI_ne9 (by omega)) h5
def HG (g : Hp) (V : VV) (q : Nat) : Prop := HF g (lo V q) (hi V q) ∧ gI g (1, 0) 2 = nI (ncl V q 144) ∧ gI g (1, 0) 3 = iI (lwF V q 144) ∧ gI g (1, 0) 4 = iI (hgF V q 144)
theorem bd_lo {V : VV} (h : VI V) {q : Nat} (hq : q < nqk V) : Bd (lo V q) (hi V q) := by
  intro c hc
  obtain ⟨e1, e2⟩ := fold_eq h.hv hc (h.uq (q := q) (by have := h.qk.2; omega)) ⟨fP V q, (h.fp hq).1, (h.fp hq).2.2⟩
  have hh : ∀ s, s < nst V → -1 ≤ tkS V q s (npk V) ∧ tkS V q s (npk V) ≤ 100000 := fun s hs => by
    rcases tkS_sp (W := V) (q := q) (s := s) (npk V) with ⟨a1, -⟩ | ⟨p, a1, -, -, a4, -⟩
    · omega
    · have := (h.hv.pk a1).2.2.2
      have := h.hv.no.2
      omega
  have := cLo_b h.hv (hd := fun s => tkS V q s (npk V)) hh hc (nst V) (Nat.le_refl _)
  rw [e1, e2] at this
  omega
theorem tkS_bd {V : VV} (h : HV V) {q : Nat} {s : Nat} : -1 ≤ tkS V q s (npk V) ∧ tkS V q s (npk V) ≤ 100000 := by
  rcases tkS_sp (W := V) (q := q) (s := s) (npk V) with ⟨a1, -⟩ | ⟨p, a1, -, -, a4, -⟩
  · omega
  · have := (h.pk a1).2.2.2
    have := h.no.2
    omega
theorem meas_L {V : VV} (hV : VI V) {q : Nat} (hq : q < nqk V) : ∀ (n v : Nat) (g : Hp), TT g V → HF g (lo V q) (hi V q) → gI g (1, 0) 3 = iI (lwF V q v) → gI g (1, 0) 4 = iI (hgF V q v) → v ≤ 144 → 144 - v < n → ∃ g2, f_X0_measure_15_L z (some (1, 0)) (some (8, 0)) (nI (cS V (sP V (fP V q)))) (nI (sg V (fP V q))) n (nI v) g = some (144, g2) ∧ Ch [1] g g2 ∧ gI g2 (1, 0) 3 = iI (lwF V q 144) ∧ gI g2 (1, 0) 4 = iI (hgF V q 144) ∧ gI g2 (1, 0) 2 = gI g (1, 0) 2
  | 0, v, _, _, _, _, _, _, h2 => absurd h2 (Nat.not_lt_zero _)
  | n + 1, v, g, ht, hF, h3, h4, h1, h2 => by
    show ∃ g2, f_X0_measure_15_b z (some (1, 0)) (some (8, 0)) (nI (cS V (sP V (fP V q)))) (nI (sg V (fP V q))) (f_X0_measure_15_L z (some (1, 0)) (some (8, 0)) (nI (cS V (sP V (fP V q)))) (nI (sg V (fP V q))) n) (nI v) g = _ ∧ _
    unfold f_X0_measure_15_b
    rw [show (144 : Int32) = nI 144 from rfl]
    by_cases he : 144 ≤ v
    · have e : v = 144 := by omega
      rw [if_pos ((nI_leI (by omega) (by omega)).mpr he)]
      subst e
      exact ⟨g, rfl, Ch.rf _ _, h3, h4, rfl⟩
    · have hv : v < 144 := by omega
      obtain ⟨p1, p2, p3⟩ := hV.fp hq
      obtain ⟨a1, a2, -⟩ := hV.hv.pk p1
      have hcs := (hV.hv.st a2).2.1
      obtain ⟨s1, s2, s3⟩ := szF_b hV hq hv
      obtain ⟨l1, l2, l3, -, l5, l6, l7⟩ := lwF_b hV hq v (by omega)
      rw [if_neg (fun w => he ((nI_leI (by omega) (by omega)).mp w)), ick_X, hs8 ht.1 hF (bd_lo hV hq) hv]
      simp only [Option.bind_some]
      by_cases hh : lo V q v ≤ hi V q v
      · rw [if_pos hh, if_neg (by decide), ick_X, between8 ht hv hcs]
        simp only [Option.bind_some, nI_1, pk_mul]
        rw [bits8 s3]
        have ez : bl (sg V (fP V q) * (tv (slo V) v (cS V (sP V (fP V q))) + 1)) = szF V q v := rfl
        simp only [Option.bind_some, ez, gI_X, pI_X, h3]
        have e1 : lwF V q (v + 1) = if lwF V q v < 0 ∨ (szF V q v : Int) < lwF V q v then (szF V q v : Int) else lwF V q v := by conv => lhs; unfold lwF; rw [if_pos hh]
        have e2 : hgF V q (v + 1) = if hgF V q v < 0 ∨ hgF V q v < (szF V q v : Int) then (szF V q v : Int) else hgF V q v := by conv => lhs; unfold hgF; rw [if_pos hh]
        have hstep : ∃ ga, (if iI (lwF V q v) = -9 then some (setI g (1, 0) 3 (nI (szF V q v))) else if iI (lwF V q v) ≤ nI (szF V q v) then some g else some (setI g (1, 0) 3 (nI (szF V q v)))) = some ga ∧ Ch [1] g ga ∧ gI ga (1, 0) 3 = iI (lwF V q (v + 1)) ∧ gI ga (1, 0) 4 = iI (hgF V q v) ∧ gI ga (1, 0) 2 = gI g (1, 0) 2 := by
          have hset : Ch [1] g (setI g (1, 0) 3 (nI (szF V q v))) ∧ gI (setI g (1, 0) 3 (nI (szF V q v))) (1, 0) 3 = iI (szF V q v) ∧ gI (setI g (1, 0) 3 (nI (szF V q v))) (1, 0) 4 = iI (hgF V q v) ∧ gI (setI g (1, 0) 3 (nI (szF V q v))) (1, 0) 2 = gI g (1, 0) 2 := ⟨Ch.set (by decide), by rw [gI_set, if_pos ⟨rfl, rfl⟩, nI_iI], by rw [gI_set, if_neg (by simp)]; exact h4, by rw [gI_set, if_neg (by simp)]⟩
          by_cases c1 : lwF V q v < 0
          · rw [l3 c1, if_pos (by decide), e1, if_pos (Or.inl c1)]
            exact ⟨_, rfl, hset⟩
          · rw [if_neg (fun w => by have := (iI_eq (y := -9) (by omega) (by omega) (by omega) (by omega)).mp (w.trans (by decide)); omega)]
            by_cases c2 : (szF V q v : Int) < lwF V q v
            · rw [if_neg (fun w => by rw [nI_iI] at w; have := (iI_le (by omega) (by omega) (by omega) (by omega)).mp w; omega), e1, if_pos (Or.inr c2)]
              exact ⟨_, rfl, hset⟩
            · rw [if_pos (by rw [nI_iI]; exact (iI_le (by omega) (by omega) (by omega) (by omega)).mpr (by omega)), e1, if_neg (by omega)]
              exact ⟨_, rfl, Ch.rf _ _, h3, h4, rfl⟩
        obtain ⟨ga, b1, b2, b3, b4, b5⟩ := hstep
        rw [b1]
        simp only [Option.bind_some, gI_X, pI_X, b4]
        have hta : TT ga V := ⟨b2.b1 ht.1, ht.2.1, fun k hk => by rw [b2.i (by decide)]; exact ht.2.2 k hk⟩
        have hFa : HF ga (lo V q) (hi V q) := fun c hc => by rw [b2.i (by decide), b2.i (by decide)]; exact hF c hc
        by_cases c3 : (szF V q v : Int) ≤ hgF V q v
        · rw [if_pos (by rw [nI_iI]; exact (iI_le (by omega) (by omega) (by omega) (by omega)).mpr c3)]
          obtain ⟨g2, k1, k2, k3, k4, k5⟩ := meas_L hV hq n (v + 1) ga hta hFa b3 (by rw [b4, e2, if_neg (by omega)]) (by omega) (by omega)
          exact ⟨g2, k1, b2.tr k2, k3, k4, k5.trans b5⟩
        · rw [if_neg (fun w => by rw [nI_iI] at w; have := (iI_le (by omega) (by omega) (by omega) (by omega)).mp w; omega)]
          have hc2 : Ch [1] ga (setI ga (1, 0) 4 (nI (szF V q v))) := Ch.set (by decide)
          obtain ⟨g2, k1, k2, k3, k4, k5⟩ := meas_L hV hq n (v + 1) (setI ga (1, 0) 4 (nI (szF V q v))) ⟨hc2.b1 hta.1, ht.2.1, fun k hk => by rw [hc2.i (by decide)]; exact hta.2.2 k hk⟩ (fun c hc => by rw [hc2.i (by decide), hc2.i (by decide)]; exact hFa c hc) (by rw [gI_set, if_neg (by simp)]; exact b3) (by rw [gI_set, if_pos ⟨rfl, rfl⟩, e2, if_pos (by omega), nI_iI]) (by omega) (by omega)
          exact ⟨g2, k1, b2.tr (hc2.tr k2), k3, k4, by rw [k5, gI_set, if_neg (by simp), b5]⟩
      · rw [if_neg hh, if_pos rfl, nI_1]
        have e1 : lwF V q (v + 1) = lwF V q v := by conv => lhs; unfold lwF; rw [if_neg hh]
        have e2 : hgF V q (v + 1) = hgF V q v := by conv => lhs; unfold hgF; rw [if_neg hh]
        exact meas_L hV hq n (v + 1) g ht hF (by rw [h3, e1]) (by rw [h4, e2]) (by omega) (by omega)
theorem ccF_e {A B A2 B2 : Nat → Int} : ∀ n, (∀ c, c < n → A c = A2 c ∧ B c = B2 c) → ccF A B n = ccF A2 B2 n
  | 0, _ => rfl
  | n + 1, h => by unfold ccF; rw [ccF_e n (fun c hc => h c (by omega)), (h n (by omega)).1, (h n (by omega)).2]
theorem ccF_ncl {V : VV} {q : Nat} : ∀ n, ccF (lo V q) (hi V q) n = ncl V q n
  | 0 => rfl
  | n + 1 => by unfold ccF ncl; rw [ccF_ncl n]
theorem heapOf8 (hz : 2000 ≤ z) {g : Hp} {V : VV} (h : IN g V) {q : Nat} (hq : q < nqk V) : ∃ g2, f_X8_heapOf z (some (9, 0)) (nI q) g = some (some (1, 0), g2) ∧ Ch [1, 21, 22] g g2 ∧ IN g2 V ∧ HG g2 V q := by
  have hq5 := h.v.qk.2
  unfold f_X8_heapOf
  simp only [gr_C h.b1, cRef, Option.bind_some, gI_X]
  by_cases hc : gI g (1, 0) 5 = nI q
  · rw [if_pos hc]
    refine ⟨g, rfl, Ch.rf _ _, h, ?_⟩
    rcases h.h with w | ⟨q2, b1, b2, b3, b4, b5, b6⟩
    · rw [w] at hc; exact absurd hc.symm (nI_ne9 (by omega))
    · have : q2 = q := nI_inj2 (b2.symm.trans hc) (by omega) (by omega)
      subst this
      exact ⟨b3, b4, b5, b6⟩
  · rw [if_neg hc]
    have hst : ∀ s, s < nst V → -1 ≤ tkS V q s (npk V) ∧ tkS V q s (npk V) ≤ 100000 ∧ (if nI s = -9 then (-1 : Int32) else gI g (26, q) s) = iI (tkS V q s (npk V)) := fun s hs => by
      have ns := h.v.hv.ns.2
      refine ⟨(tkS_bd h.v.hv).1, (tkS_bd h.v.hv).2, ?_⟩
      rw [if_neg (nI_ne9 (by omega))]
      exact h.qt hq (by omega)
    obtain ⟨g1, a1, a2, a3, a4, a5⟩ := fill8 hz h (m := -9) (t := -1) (hd := fun s => tkS V q s (npk V)) hq hst
    have h1 := h.scr a2 a3
    have hfe := fun c (hc : c < 144) => fold_eq h.v.hv hc (h.v.uq (q := q) (by omega)) ⟨fP V q, (h.v.fp hq).1, (h.v.fp hq).2.2⟩
    have hF1 : HF g1 (lo V q) (hi V q) := fun c hc => by
      have := a4 c hc
      rw [← (hfe c hc).1, ← (hfe c hc).2]; exact this
    have hn1 : gI g1 (1, 0) 2 = nI (ncl V q 144) := by
      rw [a5, ← ccF_ncl, ccF_e 144 (fun c hc => hfe c hc)]
    obtain ⟨p1, p2, p3⟩ := h.v.fp hq
    obtain ⟨w1, w2, w3, w4⟩ := h.v.hv.pk p1
    simp only [ick_X, getQ h hq, ckc_X, Option.bind_some, a1, gr_C h1.b1, cRef, gI_X, h1.q0 hq, h1.q1 hq, getS h1 w2, h1.s0 w2, (h.v.hv.st w2).1, f_X0_measure, pI_X]
    have hcA : Ch [1] g1 (setI (setI g1 (1, 0) 3 (-9)) (1, 0) 4 (-9)) := (Ch.set (by decide)).tr (Ch.set (by decide))
    obtain ⟨g2, m1, m2, m3, m4, m5⟩ := meas_L (z := z) h.v hq z 0 (setI (setI g1 (1, 0) 3 (-9)) (1, 0) 4 (-9)) ⟨hcA.b1 h1.b1, h.v.hv.sl.2, fun k hk => by rw [hcA.i (by decide)]; exact h1.tr hk⟩ (fun c hc => by rw [hcA.i (by decide), hcA.i (by decide)]; exact hF1 c hc) (by rw [gI_set, if_neg (by simp), gI_set, if_pos ⟨rfl, rfl⟩]; exact (by decide : (-9 : Int32) = iI (-9))) (by rw [gI_set, if_pos ⟨rfl, rfl⟩]; exact (by decide : (-9 : Int32) = iI (-9))) (by omega) (by omega)
    rw [show (0 : Int32) = nI 0 from rfl, m1]
    have hcB : Ch [1] g1 g2 := hcA.tr m2
    have hcC : Ch [1] g1 (setI g2 (1, 0) 5 (nI q)) := hcB.tr (Ch.set (by decide))
    simp only [Option.bind_some, gr_C (hcB.b1 h1.b1), gr_C (hcC.b1 h1.b1), cRef]
    have hcD : Ch [1, 21, 22] g (setI g2 (1, 0) 5 (nI q)) := a2.tr (hcC.sub (by decide))
    have hG : HG (setI g2 (1, 0) 5 (nI q)) V q := by
      refine ⟨fun c hc => ?_, ?_, ?_, ?_⟩
      · rw [hcC.i (by decide), hcC.i (by decide)]; exact hF1 c hc
      · rw [gI_set, if_neg (by simp), m5, gI_set, if_neg (by simp), gI_set, if_neg (by simp)]; exact hn1
      · rw [gI_set, if_neg (by simp)]; exact m3
      · rw [gI_set, if_neg (by simp)]; exact m4
    refine ⟨setI g2 (1, 0) 5 (nI q), ?_, hcD, ?_, hG⟩
    · rw [pI_X]
      simp only [Option.bind_some]
      rw [gr_C (hcC.b1 h1.b1)]
      rfl
    have := h.upd (C := [1, 21, 22]) (D := []) (E := []) (V2 := V) hcD (Ev.rf _ _ _) (by decide) (by decide) h.v (fun n k v _ hn hk => by
      have := cI_cls hk
      simp only [List.mem_cons, List.not_mem_nil, or_false] at hn
      rcases hn with e | e | e <;> rw [e] at this <;> exact absurd this (by decide)) (Or.inr ⟨q, hq, by rw [gI_set, if_pos ⟨rfl, rfl⟩], hG.1, hG.2.1, hG.2.2.1, hG.2.2.2⟩) h.vf
    exact this.unw
end HOF
end
section
section QUA
variable {z : Nat}
theorem IN.rows {g : Hp} {V V2 : VV} (h : IN g V) (e : EqR V V2) : IN (wM g V2) V2 := by
  refine h.upd (C := []) (Ch.rf _ _) (Ev.q e) (by decide) (by decide) (h.v.cg (Ev.q e) (by decide) (by decide) ?_) (fun n k v _ hn _ => absurd hn (by simp)) (h.h.cg ((Ev.q e).h (by decide) (by decide)) (fun _ => rfl) (fun _ => rfl) (fun _ => rfl)) (h.vf.cg (Ev.q e) (by decide) (by decide))
  rw [nms_e (by rw [e 10 (by decide) (by decide)]), e 10 (by decide) (by decide)]; exact h.v.ms
def tqF (V : VV) (q : Nat) (b : Int32) : Int32 := if b = 0 then nI (cntF V q (npk V)) else if b = 1 then nI (ncl V q 144) else if b = 2 then iI (lwF V q 144) else if b = 3 then iI (hgF V q 144) else if nI (ncl V q 144) = 0 then 1 else 0
theorem VI.eqr {V V2 : VV} (h : VI V) (e : EqR V V2) : VI V2 := by
  refine h.cg (Ev.q e) (by decide) (by decide) ?_
  rw [nms_e (by rw [e 10 (by decide) (by decide)]), e 10 (by decide) (by decide)]; exact h.ms
theorem quake8 (hz : 2000 ≤ z) {g : Hp} {V : VV} (h : IN g V) {q : Nat} (hq : q < nqk V) {b : Int32} (hb : ¬ inB b 0 4 = 0) : ∃ g2, f_X8_quake z (some (9, 0)) (nI q) b g = some (tqF V q b, g2) ∧ Ch [1, 21, 22] g g2 ∧ IN g2 V := by
  have hqi : ¬ inB (nI q) 0 (V 10 20 - 1) = 0 := by have := h.v.qk; rw [this.1, inB_in hq (by omega)]; decide
  obtain ⟨g2, a1, a2, a3, a4, a5, a6, a7⟩ := heapOf8 hz h hq
  have hov : f_X8_isOver z (some (9, 0)) (nI q) g = some ((if nI (ncl V q 144) = 0 then 1 else 0), g2) := by
    simp only [f_X8_isOver, ick_X, a1, Option.bind_some, gI_X, a5]
    split
    · exact rtZ_1
    · exact rtZ_0
  obtain ⟨k, hk, rfl⟩ := in04 hb
  unfold tqF
  simp only [f_X8_quake, ick_X, isQuake8 h, Option.bind_some, if_neg hqi, tsw, gr_C h.b1, cRef, getQ h hq, ckc_X, gI_X, h.q3 hq, a1, a5, a6, a7, hov]
  rcases (by omega : k = 0 ∨ k = 1 ∨ k = 2 ∨ k = 3 ∨ k = 4) with rfl | rfl | rfl | rfl | rfl
  · exact ⟨g, by rw [if_pos (by decide), if_pos (by decide)], Ch.rf _ _, h⟩
  · exact ⟨g2, by rw [if_neg (by decide), if_pos (by decide), if_neg (by decide), if_pos (by decide)], a2, a3⟩
  · exact ⟨g2, by rw [if_neg (by decide), if_neg (by decide), if_pos (by decide), if_neg (by decide), if_neg (by decide), if_pos (by decide)], a2, a3⟩
  · exact ⟨g2, by rw [if_neg (by decide), if_neg (by decide), if_neg (by decide), if_pos (by decide), if_neg (by decide), if_neg (by decide), if_neg (by decide), if_pos (by decide)], a2, a3⟩
  · refine ⟨g2, ?_, a2, a3⟩
    simp only [show (nI 4 = 0) = False from by simp; decide, show (nI 4 = 1) = False from by simp; decide, show (nI 4 = 2) = False from by simp; decide, show (nI 4 = 3) = False from by simp; decide, show (nI 4 = 4) = True from by simp; decide, if_true, if_false]
    by_cases e : nI (ncl V q 144) = 0
    · simp only [if_pos e]; rw [if_neg (by decide)]
    · simp only [if_neg e]; rw [if_pos trivial]
theorem ncl_mono {V : VV} {q : Nat} {a : Nat} : ∀ b, a ≤ b → ncl V q a ≤ ncl V q b
  | 0, h => by have : a = 0 := by omega
               subst this; exact Nat.le_refl _
  | b + 1, h => by
    by_cases e : a = b + 1
    · subst e; exact Nat.le_refl _
    · have := ncl_mono (V := V) (q := q) (a := a) b (by omega)
      conv => rhs; unfold ncl
      split <;> omega
theorem clS_no {V : VV} {q : Nat} {i : Int32} (hno : ∀ k, k < ncl V q 144 → nI k ≠ i) : ∀ m, m ≤ 144 → clS V q i m (ncl V q (144 - m)) = -9
  | 0, _ => rfl
  | m + 1, h => by
    unfold clS
    have e : ncl V q (144 - m) = if lo V q (143 - m) ≤ hi V q (143 - m) then ncl V q (143 - m) + 1 else ncl V q (143 - m) := by
      rw [show 144 - m = (143 - m) + 1 by omega]; rfl
    rw [show 144 - (m + 1) = 143 - m by omega]
    have ih := clS_no hno m (by omega)
    have hm := ncl_mono (V := V) (q := q) (a := 144 - m) 144 (by omega)
    by_cases hh : lo V q (143 - m) ≤ hi V q (143 - m)
    · rw [if_pos hh] at e ⊢
      rw [if_neg (hno _ (by omega)), ← e]; exact ih
    · rw [if_neg hh] at e ⊢
      rw [← e]; exact ih
end QUA
end
section
section TIM
variable {z : Nat}
theorem holds8 (hz : 2000 ≤ z) {g : Hp} {V : VV} (h : IN g V) {q d : Nat} (hq : q < nqk V) (hd : d < 144) (c : Int32) : ∃ g2, f_X8_holds z (some (9, 0)) (nI q) (nI d) c g = some ((if inB c (iI (lo V q d)) (iI (hi V q d)) = 0 then 0 else 1), g2) ∧ Ch [1, 21, 22] g g2 ∧ IN g2 V := by
  have h1 : ¬ inB (nI q) 0 (V 10 20 - 1) = 0 := by have := h.v.qk; rw [this.1, inB_in hq (by omega)]; decide
  have h2 := cl_in hd
  obtain ⟨g2, a1, a2, a3, a4, a5, a6, a7⟩ := heapOf8 hz h hq
  obtain ⟨f1, f2⟩ := a4 d hd
  refine ⟨g2, ?_, a2, a3⟩
  simp only [f_X8_holds, ick_X, isQuake8 h, Option.bind_some, if_neg h1, cell8, if_neg h2, a1, gR_X, show gR g2 (1, 0) 0 = some (21, 0) from a3.b1.1.2.2.1, show gR g2 (1, 0) 1 = some (22, 0) from a3.b1.1.2.2.2, ald_X a3.b1.2.2.1 (by decide) (by decide) hd (by decide), ald_X a3.b1.2.2.2.1 (by decide) (by decide) hd (by decide), f1, f2, in8]
  split <;> rfl

end TIM
end
section
section FEL
variable {z : Nat}
theorem isOver8 (hz : 2000 ≤ z) {g : Hp} {V : VV} (h : IN g V) {q : Nat} (hq : q < nqk V) : ∃ g2, f_X8_isOver z (some (9, 0)) (nI q) g = some ((if ncl V q 144 = 0 then 1 else 0), g2) ∧ Ch [1, 21, 22] g g2 ∧ IN g2 V := by
  obtain ⟨g2, a1, a2, a3, a4, a5, a6, a7⟩ := heapOf8 hz h hq
  have hcl := ncl_le V q 144
  refine ⟨g2, ?_, a2, a3⟩
  simp only [f_X8_isOver, ick_X, a1, Option.bind_some, gI_X, a5]
  by_cases e : ncl V q 144 = 0
  · rw [e, if_pos (by decide), if_pos rfl]; exact rtZ_1
  · rw [if_neg (nI_ne0 (by omega) (by omega)), if_neg e]; exact rtZ_0
/-! arrivals -/
theorem cm_b {V : VV} (hV : VI V) {q t : Nat} (hq : q < nqk V) (ht : t < ntw V) : ∀ n, n ≤ 144 → -10000000 ≤ cmF V q t n ∧ cmF V q t n ≤ 1000000000 ∧ -1000000000 ≤ cxF V q t n ∧ cxF V q t n ≤ 20000000 ∧ (ncl V q n ≠ 0 → cmF V q t n ≤ 900000 ∧ -900000 ≤ cxF V q t n)
  | 0, _ => by simp [cmF, cxF, ncl]
  | n + 1, hn => by
    have ih := cm_b hV hq ht n (by omega)
    have hb := bd_lo hV hq n (by omega)
    have htv := TV_b hV.hv.sl.2 (c := n) (by omega) (hV.to ht).2
    have hl := loS_b hV.hv (q := q) (c := n) (by omega) (nst V) (Nat.le_refl _)
    have hh2 : -400 ≤ hi V q n := (hiP_b hV.hv (q := q) (c := n) (by omega) (npk V) (Nat.le_refl _)).1
    have hl2 : lo V q n ≤ 100000 := hl.2
    unfold cmF cxF ncl
    by_cases hh : lo V q n ≤ hi V q n
    · simp only [if_pos hh]; omega
    · simp only [if_neg hh]; exact ih
end FEL
end
section
section LAT
variable {z : Nat}
theorem ear_L {g : Hp} {V : VV} (ht : TT g V) (hV : VI V) {q t : Nat} (hq : q < nqk V) (htw : t < ntw V) (hF : HF g (lo V q) (hi V q)) (p1 p2 : Int32) : ∀ (n v : Nat), v ≤ 144 → 144 - v < n → f_X8_earliestArrival_29_L z (nI (cT V t)) (some (1, 0)) (some (9, 0)) p1 p2 n (nI v) (iI (min 1000000 (cmF V q t v))) g = some (144, iI (min 1000000 (cmF V q t 144)), g) ∧ f_X8_latestArrival_30_L z (nI (cT V t)) (some (1, 0)) (some (9, 0)) p1 p2 n (nI v) (iI (max (-1000000) (cxF V q t v))) g = some (144, iI (max (-1000000) (cxF V q t 144)), g)
  | 0, v, _, h2 => absurd h2 (Nat.not_lt_zero _)
  | n + 1, v, h1, h2 => by
    show f_X8_earliestArrival_29_b z (nI (cT V t)) (some (1, 0)) (some (9, 0)) p1 p2 (f_X8_earliestArrival_29_L z (nI (cT V t)) (some (1, 0)) (some (9, 0)) p1 p2 n) (nI v) _ g = _ ∧ f_X8_latestArrival_30_b z (nI (cT V t)) (some (1, 0)) (some (9, 0)) p1 p2 (f_X8_latestArrival_30_L z (nI (cT V t)) (some (1, 0)) (some (9, 0)) p1 p2 n) (nI v) _ g = _
    unfold f_X8_earliestArrival_29_b f_X8_latestArrival_30_b
    rw [show (144 : Int32) = nI 144 from rfl]
    by_cases he : 144 ≤ v
    · have e : v = 144 := by omega
      rw [if_pos ((nI_leI (by omega) (by omega)).mpr he), if_pos ((nI_leI (by omega) (by omega)).mpr he)]
      subst e
      exact ⟨rfl, rfl⟩
    · have hv : v < 144 := by omega
      obtain ⟨i1, i2⟩ := ear_L ht hV hq htw hF p1 p2 n (v + 1) (by omega) (by omega)
      have h6 := hV.to htw
      obtain ⟨b1, b2, b3, b4, -⟩ := cm_b hV hq htw v (by omega)
      have hb := bd_lo hV hq v hv
      have htv := TV_b hV.hv.sl.2 hv h6.2
      have htv2 : nI (tv (slo V) v (cT V t)) = iI (TV V v (cT V t)) := by rw [nI_iI]; rfl
      rw [if_neg (fun w => he ((nI_leI (by omega) (by omega)).mp w)), if_neg (fun w => he ((nI_leI (by omega) (by omega)).mp w)), ick_X, hs8 ht.1 hF (bd_lo hV hq) hv]
      simp only [Option.bind_some]
      by_cases hh : lo V q v ≤ hi V q v
      · have hx : cxF V q t (v + 1) = max (cxF V q t v) (hi V q v + TV V v (cT V t)) := by simp [cxF, hh]
        have hm : cmF V q t (v + 1) = min (cmF V q t v) (lo V q v + TV V v (cT V t)) := by simp [cmF, hh]
        rw [if_pos hh, if_neg (by decide), if_neg (by decide)]
        simp only [gR_X, show gR g (1, 0) 0 = some (21, 0) from ht.1.1.2.2.1, show gR g (1, 0) 1 = some (22, 0) from ht.1.1.2.2.2, Option.bind_some, ald_X ht.1.2.2.1 (by decide) (by decide) hv (by decide), ald_X ht.1.2.2.2.1 (by decide) (by decide) hv (by decide), (hF v hv).1, (hF v hv).2, gr_C ht.1, cRef, ick_X, between8 ht hv h6.2, htv2, iI_add, nI_1]
        rw [imin_i (by omega) (by omega) (by omega) (by omega), imax_i (by omega) (by omega) (by omega) (by omega)]
        rw [hm, show min 1000000 (min (cmF V q t v) (lo V q v + TV V v (cT V t))) = min (min 1000000 (cmF V q t v)) (lo V q v + TV V v (cT V t)) by omega] at i1
        rw [hx, show max (-1000000) (max (cxF V q t v) (hi V q v + TV V v (cT V t))) = max (max (-1000000) (cxF V q t v)) (hi V q v + TV V v (cT V t)) by omega] at i2
        exact ⟨i1, i2⟩
      · rw [if_neg hh, if_pos rfl, if_pos rfl, nI_1]
        rw [show cmF V q t (v + 1) = cmF V q t v by simp [cmF, hh]] at i1
        rw [show cxF V q t (v + 1) = cxF V q t v by simp [cxF, hh]] at i2
        exact ⟨i1, i2⟩
theorem ear8 (hz : 2000 ≤ z) {g : Hp} {V : VV} (h : IN g V) {q t : Nat} (hq : q < nqk V) (ht : t < ntw V) (ho : ¬ ncl V q 144 = 0) : (∃ g2, f_X8_earliestArrival z (some (9, 0)) (nI t) (nI q) g = some (iI (cmF V q t 144), g2) ∧ Ch [1, 21, 22] g g2 ∧ IN g2 V) ∧ ∃ g2, f_X8_latestArrival z (some (9, 0)) (nI t) (nI q) g = some (iI (cxF V q t 144), g2) ∧ Ch [1, 21, 22] g g2 ∧ IN g2 V := by
  obtain ⟨g2, a1, a2, a3, a4, a5, a6, a7⟩ := heapOf8 hz h hq
  obtain ⟨l1, l2⟩ := ear_L (z := z) a3.tt h.v hq ht a4 (nI t) (nI q) z 0 (by omega) (by omega)
  obtain ⟨b1, b2, b3, b4, b5⟩ := cm_b h.v hq ht 144 (by omega)
  have b6 := b5 ho
  rw [show iI (min 1000000 (cmF V q t 0)) = 1000000 from by show iI (min 1000000 1000000000) = _; decide, show nI 0 = (0 : Int32) from rfl, show min 1000000 (cmF V q t 144) = cmF V q t 144 by omega] at l1
  rw [show iI (max (-1000000) (cxF V q t 0)) = -1000000 from by show iI (max (-1000000) (-1000000000)) = _; decide, show nI 0 = (0 : Int32) from rfl, show max (-1000000) (cxF V q t 144) = cxF V q t 144 by omega] at l2
  refine ⟨⟨g2, ?_, a2, a3⟩, ⟨g2, ?_, a2, a3⟩⟩
  · simp only [f_X8_earliestArrival, ick_X, a1, Option.bind_some, gr_C a3.b1, cRef, getT a3 ht, ckc_X, gI_X, a3.t0 ht, (h.v.to ht).1, l1]
  · simp only [f_X8_latestArrival, ick_X, a1, Option.bind_some, gr_C a3.b1, cRef, getT a3 ht, ckc_X, gI_X, a3.t0 ht, (h.v.to ht).1, l2]
theorem late8 (hz : 2000 ≤ z) {g : Hp} {V : VV} (h : IN g V) {t q : Nat} (ht : t < ntw V) (hq : q < nqk V) (ho : ¬ ncl V q 144 = 0) : ∃ g2, f_X8_late z (some (9, 0)) (nI t) (nI q) g = some ((if V 10 5 < iI (cxF V q t 144) then (if iI (cmF V q t 144) ≤ V 10 5 then 0 else 2) else 1), g2) ∧ Ch [1, 21, 22] g g2 ∧ IN g2 V := by
  have h1 : ¬ inB (nI t) 0 (V 10 9 - 1) = 0 := by have := h.v.tw; rw [this.1, inB_in ht (by omega)]; decide
  have h2 : ¬ inB (nI q) 0 (V 10 20 - 1) = 0 := by have := h.v.qk; rw [this.1, inB_in hq (by omega)]; decide
  obtain ⟨g2, a1, a2, a3⟩ := isOver8 hz h hq
  obtain ⟨-, g3, c1, c2, c3⟩ := ear8 hz a3 hq ht ho
  by_cases hl : V 10 5 < iI (cxF V q t 144)
  · obtain ⟨⟨g4, d1, d2, d3⟩, -⟩ := ear8 hz c3 hq ht ho
    refine ⟨g4, ?_, a2.tr (c2.tr d2), d3⟩
    simp only [f_X8_late, ick_X, isTown8 h, isQuake8 h, Option.bind_some, if_neg h1, if_neg h2, a1, if_neg ho, c1, gi_C, c3.f10, if_pos hl, d1, d3.f10]
    rw [if_pos trivial]
    split <;> rfl
  · refine ⟨g3, ?_, a2.tr c2, c3⟩
    simp only [f_X8_late, ick_X, isTown8 h, isQuake8 h, Option.bind_some, if_neg h1, if_neg h2, a1, if_neg ho, c1, gi_C, c3.f10, if_neg hl]
    rw [if_pos trivial]
theorem left8 (hz : 2000 ≤ z) {g : Hp} {V : VV} (h : IN g V) {t q : Nat} (ht : t < ntw V) (hq : q < nqk V) (ho : ¬ ncl V q 144 = 0) : ∃ g2, f_X8_left z (some (9, 0)) (nI t) (nI q) g = some (imax 0 (iI (cmF V q t 144) - V 10 5), g2) ∧ Ch [1, 21, 22] g g2 ∧ IN g2 V := by
  have h1 : ¬ inB (nI t) 0 (V 10 9 - 1) = 0 := by have := h.v.tw; rw [this.1, inB_in ht (by omega)]; decide
  have h2 : ¬ inB (nI q) 0 (V 10 20 - 1) = 0 := by have := h.v.qk; rw [this.1, inB_in hq (by omega)]; decide
  obtain ⟨g2, a1, a2, a3⟩ := isOver8 hz h hq
  obtain ⟨⟨g3, c1, c2, c3⟩, -⟩ := ear8 hz a3 hq ht ho
  refine ⟨g3, ?_, a2.tr c2, c3⟩
  simp only [f_X8_left, ick_X, isTown8 h, isQuake8 h, Option.bind_some, if_neg h1, if_neg h2, a1, if_neg ho, c1, gi_C, c3.f10]
  rw [if_pos trivial]
/-! bits of levels -/
end LAT
end
section
section ALA
variable {z : Nat}
def alC (V : VV) (q t : Nat) : Nat → Int32
  | 0 => 0
  | l + 1 => if V 55 (30 * q + 5 * t + (l + 1)) = 1 then nI (l + 1) else alC V q t l
end ALA
/-! what is made -/
def Fr (P : Nm → Prop) (g g2 : Hp) : Prop := ∀ m, ¬ P m → gI g2 m = gI g m ∧ gR g2 m = gR g m ∧ gN g2 m = gN g m ∧ (m ∈ gL g2 ↔ m ∈ gL g)
theorem Fr.tr {P Q : Nm → Prop} {a b c : Hp} (h : Fr P a b) (h2 : Fr Q b c) : Fr (fun m => P m ∨ Q m) a c := fun m hm => by
  obtain ⟨a1, a2, a3, a4⟩ := h m (fun q => hm (Or.inl q))
  obtain ⟨b1, b2, b3, b4⟩ := h2 m (fun q => hm (Or.inr q))
  exact ⟨b1.trans a1, b2.trans a2, b3.trans a3, b4.trans a4⟩
theorem Fr.mono {P Q : Nm → Prop} {a b : Hp} (h : Fr P a b) (hq : ∀ m, P m → Q m) : Fr Q a b := fun m hm => h m (fun p => hm (hq m p))
theorem Fr.sI {g : Hp} {n : Nm} {k : Nat} {v : Int32} : Fr (fun m => m = n) g (setI g n k v) := fun m hm => ⟨by funext j; rw [gI_set, if_neg (fun w => hm w.1)], rfl, rfl, Iff.rfl⟩
theorem Fr.sR {g : Hp} {n : Nm} {k : Nat} {v : Option Nm} : Fr (fun m => m = n) g (setR g n k v) := fun m hm => ⟨rfl, by funext j; show (if m = n ∧ j = k then v else gR g m j) = _; rw [if_neg (fun w => hm w.1)], rfl, Iff.rfl⟩
theorem Fr.nN {g : Hp} {n : Nm} {l s : Nat} : Fr (fun m => m = n) g (newN g n l s) := fun m hm => ⟨by funext j; show (if m = n then 0 else gI g m j) = _; rw [if_neg hm], by funext j; show (if m = n then none else gR g m j) = _; rw [if_neg hm], by show (if m = n then l else gN g m) = _; rw [if_neg hm], by show m ∈ gL g ++ [n] ↔ _; simp [hm]⟩
theorem Fr.cR {g : Hp} {a b : Nm} {x y n : Nat} : Fr (fun m => m = b) g (cpR g a x b y n) := fun m hm => ⟨rfl, by funext j; show (if m = b then _ else gR g m j) = _; rw [if_neg hm], rfl, Iff.rfl⟩
section ADD
variable {z : Nat}
theorem addJ {g : Hp} {j c n : Nat} (hs : gI g (0, j) 2 = nI n) (hl : LR g.1 j c n) (hj : j < 5) (hn : n ≤ 400) (hc : c < 11) : ∃ g2, f_Jx4a65c_add_9ea2d z (some (0, j)) (some (c, n)) g = some (1, g2) ∧ gI g2 (0, j) 2 = nI (n + 1) ∧ LR g2.1 j c (n + 1) ∧ Fr (fun m => m = (0, j) ∨ m.1 = 12 + j) g g2 ∧ gc g2 ≤ gc g + 1 ∧ gs g2 ≤ gs g + 820 := by
  unfold f_Jx4a65c_add_9ea2d f_Jx4a65c_add_72be8
  simp only [gI_X, pI_X, gR_X, Option.bind_some, ick_X]
  have f0 : Fr (fun m => m = (0, j) ∨ m.1 = 12 + j) g (setI g (0, j) 0 (gI g (0, j) 0 + 1)) := Fr.sI.mono (fun m h => Or.inl h)
  have s0 : gI (setI g (0, j) 0 (gI g (0, j) 0 + 1)) (0, j) 2 = nI n := by rw [gI_set, if_neg (by simp)]; exact hs
  have hl0 : LR (setI g (0, j) 0 (gI g (0, j) 0 + 1)).1 j c n := hl
  have hcs : gc (setI g (0, j) 0 (gI g (0, j) 0 + 1)) = gc g ∧ gs (setI g (0, j) 0 (gI g (0, j) 0 + 1)) = gs g := ⟨rfl, rfl⟩
  generalize setI g (0, j) 0 (gI g (0, j) 0 + 1) = g0 at *
  rw [s0]
  have fin : ∀ (r : Nm) (g1 : Hp), r.1 = 12 + j → gR g1 (0, j) 1 = some r → n < gN g1 r → gN g1 r ≤ 2 * n + 12 → r ∈ gL g1 → (∀ e2, r.2 < e2 → (12 + j, e2) ∉ gL g1) → (∀ i, i < n → gR g1 r i = some (c, i)) → Fr (fun m => m = (0, j) ∨ m.1 = 12 + j) g g1 → gc g1 ≤ gc g + 1 → gs g1 ≤ gs g + 820 → ∃ g2, (((astR (some r) (nI n) (some (c, n)) g1).bind fun g4 => (putI (some (0, j)) 0 2 (nI n + 1) g4).bind fun g5 => some ((), g5)).bind fun q5 => rtZ 1 q5.2) = some (1, g2) ∧ gI g2 (0, j) 2 = nI (n + 1) ∧ LR g2.1 j c (n + 1) ∧ Fr (fun m => m = (0, j) ∨ m.1 = 12 + j) g g2 ∧ gc g2 ≤ gc g + 1 ∧ gs g2 ≤ gs g + 820 := by
    intro r g1 hr e1 e2 e3 e4 e5 e6 e7 e8 e9
    have ha : astR (some r) (nI n) (some (c, n)) g1 = some (setR g1 r n (some (c, n))) := by
      have : (12 ≤ r.1 ∧ r.1 < 17) ∧ vp_in (nI n) (gN g1 r) ∧ c < 11 := ⟨by omega, vp_n e2 (by omega), hc⟩
      simp only [astR, if_pos this, nI_cl (show n < 2147483648 by omega)]
    rw [ha]
    simp only [Option.bind_some, pI_X, rtZ_1, nI_1]
    refine ⟨_, rfl, by rw [gI_set, if_pos ⟨rfl, rfl⟩], Or.inr ⟨r.2, ?_⟩, ?_, e8, e9⟩
    · have er : (12 + j, r.2) = r := by rw [← hr]
      rw [er]
      have ge : ∀ m i, gR (setR g1 r n (some (c, n))) m i = if m = r ∧ i = n then some (c, n) else gR g1 m i := fun _ _ => rfl
      refine ⟨?_, by show n + 1 ≤ gN g1 r; omega, by show 0 < gN g1 r; omega, by show gN g1 r ≤ _; omega, e4, e5, fun i hi => ?_⟩
      · show gR (setR g1 r n (some (c, n))) (0, j) 1 = some r
        rw [ge, if_neg (fun w => by have := w.1; rw [← this] at hr; have hr2 : 0 = 12 + j := hr; omega), e1]
      · show gR (setR g1 r n (some (c, n))) r i = some (c, i)
        rw [ge]
        by_cases e : i = n
        · rw [if_pos ⟨rfl, e⟩, e]
        · rw [if_neg (fun w => e w.2)]; exact e6 i (by omega)
    · refine ((e7.tr (Fr.sR (g := g1) (n := r) (k := n) (v := some (c, n)))).tr Fr.sI).mono (fun m hm => ?_)
      rcases hm with (hm | hm) | hm
      · exact hm
      · exact Or.inr (by rw [hm]; exact hr)
      · exact Or.inl hm
  rcases hl0 with ⟨h0, h1, h2⟩ | ⟨e, h1, h2, h3, h4, h5, h6, h7⟩
  · have k1 : gR g0 (0, j) 1 = some (17, 0) := h1
    subst h0
    rw [k1]
    have a1 : alen (some (17, 0)) g0 = some 0 := rfl
    have a2 : acq (some (17, 0)) (some (17, 0)) g0 = some true := by simp [acq]
    have a3 : mkR (12 + nix (some (0, j)), 0) (imax 10 (nI 0 + 1)) g0 = some (some (12 + j, 0), newN g0 (12 + j, 0) 10 10) := by
      have e10 : imax 10 (nI 0 + 1) = nI 10 := by decide
      have : (12 ≤ 12 + j ∧ 12 + j < 17) ∧ (12 + j, 0) ∉ gL g0 ∧ ¬ nI 10 < 0 ∧ (nI 10).toNatClampNeg ≤ 100000 := ⟨by omega, h2 0, by decide, by decide⟩
      simp only [mkR, nix, e10]
      rw [if_pos this, nI_cl (by decide)]
    simp only [a1, Option.bind_some]
    rw [if_pos (show nI 0 = 0 from rfl)]
    simp only [f_Jx4a65c_grow_d5877, f_Jx4a65c_grow_92f84, gI_X, gR_X, ick_X, Option.bind_some, s0, k1, a1]
    rw [if_neg (by decide)]
    simp only [Option.bind_some, a2, if_true, a3, pR_X]
    refine fin (12 + j, 0) _ rfl ?_ ?_ ?_ ?_ ?_ (fun i hi => absurd hi (Nat.not_lt_zero _)) ?_ ?_ ?_
    · show (if (0, j) = (0, j) ∧ 1 = 1 then some (12 + j, 0) else _) = _
      rw [if_pos ⟨rfl, rfl⟩]
    · show 0 < (if (12 + j, 0) = (12 + j, 0) then 10 else _)
      rw [if_pos rfl]; decide
    · show (if (12 + j, 0) = (12 + j, 0) then 10 else _) ≤ _
      rw [if_pos rfl]; omega
    · show (12 + j, 0) ∈ gL g0 ++ [(12 + j, 0)]
      simp
    · intro e2 he2
      show (12 + j, e2) ∉ gL g0 ++ [(12 + j, 0)]
      simp only [List.mem_append, List.mem_singleton, not_or]
      exact ⟨h2 e2, fun w => by have := congrArg Prod.snd w; simp at this; omega⟩
    · refine ((f0.tr (Fr.nN (g := g0) (n := (12 + j, 0)) (l := 10) (s := 10))).tr Fr.sR).mono (fun m hm => ?_)
      rcases hm with (hm | hm) | hm
      · exact hm
      · exact Or.inr (by rw [hm])
      · exact Or.inl hm
    · show gc g0 + 1 ≤ _; omega
    · show gs g0 + 10 ≤ _; omega
  · have k1 : gR g0 (0, j) 1 = some (12 + j, e) := h1
    have k2 : n ≤ gN g0 (12 + j, e) := h2
    have k3 : 0 < gN g0 (12 + j, e) := h3
    have k4 : gN g0 (12 + j, e) ≤ 2 * n + 10 := h4
    have k7 : ∀ i, i < n → gR g0 (12 + j, e) i = some (c, i) := h7
    rw [k1]
    have a1 : ∀ g3 : Hp, gN g3 (12 + j, e) = gN g0 (12 + j, e) → alen (some (12 + j, e)) g3 = some (nI (gN g0 (12 + j, e))) := fun g3 h => by
      have : (12 ≤ 12 + j ∧ 12 + j < 17) ∨ 20 ≤ 12 + j := Or.inl ⟨by omega, by omega⟩
      have n17 : ¬ (12 + j, e) = (17, 0) := fun w => by have := congrArg Prod.fst w; simp at this; omega
      simp only [alen, if_neg n17, if_pos this, h]; rfl
    simp only [a1 g0 rfl, Option.bind_some]
    by_cases hf : n = gN g0 (12 + j, e)
    · rw [if_pos (by rw [← hf])]
      have hl2 : 0 < nI (gN g0 (12 + j, e)) := by rw [show (0 : Int32) = nI 0 from rfl, nI_ltI (by omega) (by omega)]; exact k3
      simp only [f_Jx4a65c_grow_d5877, f_Jx4a65c_grow_92f84, gI_X, gR_X, ick_X, Option.bind_some, s0, k1, a1 g0 rfl]
      rw [if_pos hl2]
      have esh : nI (gN g0 (12 + j, e)) >>> (1 &&& 31) = nI (n / 2) := by
        rw [show (1 : Int32) = nI 1 from rfl, shr_nI (by omega) (by decide), ← hf]
      have esub : nI n + 1 - nI (gN g0 (12 + j, e)) = nI 1 := by
        rw [nI_1, ← hf, pk_sub (by omega)]; congr 1; omega
      have emx : imax (nI 1) (nI (n / 2)) = nI (max 1 (n / 2)) := by
        rw [nI_iI 1, nI_iI (n / 2), imax_i (by omega) (by omega) (by omega) (by omega), nI_iI]; congr 1; omega
      have enl : f_J8_newLength_cabcc z (nI (gN g0 (12 + j, e))) (nI n + 1 - nI (gN g0 (12 + j, e))) (nI (gN g0 (12 + j, e)) >>> (1 &&& 31)) g0 = some (nI (n + max 1 (n / 2)), g0) := by
        unfold f_J8_newLength_cabcc
        rw [esub, esh, emx, ← hf, nI_add, if_neg (fun w => by have := (nI_leI (b := 0) (by omega) (by omega)).mp w; omega), show (2147483639 : Int32) = nI 2147483639 from rfl, if_neg (fun w => by have := (nI_ltI (by omega) (by omega)).mp w; omega)]
      have em : mkR (nca (some (12 + j, e)), nix (some (12 + j, e)) + 1) (nI (n + max 1 (n / 2))) g0 = some (some (12 + j, e + 1), newN g0 (12 + j, e + 1) (n + max 1 (n / 2)) (n + max 1 (n / 2))) := by
        have : (12 ≤ 12 + j ∧ 12 + j < 17) ∧ (12 + j, e + 1) ∉ gL g0 ∧ ¬ nI (n + max 1 (n / 2)) < 0 ∧ (nI (n + max 1 (n / 2))).toNatClampNeg ≤ 100000 := ⟨by omega, h6 _ (by omega), by rw [show (0 : Int32) = nI 0 from rfl, nI_ltI (by omega) (by omega)]; omega, by rw [nI_cl (by omega)]; omega⟩
        unfold mkR
        refine (if_pos this).trans ?_
        rw [nI_cl (by omega)]; rfl
      have hne : ¬ (12 + j, e) = (12 + j, e + 1) := fun w => by have := congrArg Prod.snd w; simp at this
      have eN : gN (newN g0 (12 + j, e + 1) (n + max 1 (n / 2)) (n + max 1 (n / 2))) (12 + j, e) = gN g0 (12 + j, e) := by
        show (if (12 + j, e) = (12 + j, e + 1) then _ else _) = _
        rw [if_neg hne]
      have eN2 : gN (newN g0 (12 + j, e + 1) (n + max 1 (n / 2)) (n + max 1 (n / 2))) (12 + j, e + 1) = n + max 1 (n / 2) := by
        show (if (12 + j, e + 1) = (12 + j, e + 1) then _ else _) = _
        rw [if_pos rfl]
      have eR : ∀ i, gR (newN g0 (12 + j, e + 1) (n + max 1 (n / 2)) (n + max 1 (n / 2))) (12 + j, e) i = gR g0 (12 + j, e) i := fun i => by
        show (if (12 + j, e) = (12 + j, e + 1) then none else _) = _
        rw [if_neg hne]
      have emn : imin (nI (gN g0 (12 + j, e))) (nI (n + max 1 (n / 2))) = nI n := by
        rw [← hf, nI_iI n, nI_iI (n + max 1 (n / 2)), imin_i (by omega) (by omega) (by omega) (by omega)]; congr 1; omega
      have ec : cpyR (some (12 + j, e)) 0 (some (12 + j, e + 1)) 0 (nI n) (newN g0 (12 + j, e + 1) (n + max 1 (n / 2)) (n + max 1 (n / 2))) = some (cpR (newN g0 (12 + j, e + 1) (n + max 1 (n / 2)) (n + max 1 (n / 2))) (12 + j, e) 0 (12 + j, e + 1) 0 n) := by
        have z0 : ¬ nI n < 0 := by rw [show (0 : Int32) = nI 0 from rfl, nI_ltI (by omega) (by omega)]; omega
        have c0 : (0 : Int32).toNatClampNeg = 0 := by decide
        unfold cpyR
        simp only [c0, nI_cl (show n < 2147483648 by omega)]
        rw [if_pos ⟨⟨⟨by omega, by omega⟩, by omega, by omega⟩, ⟨by decide, by decide, z0⟩, by rw [eN]; omega, by rw [eN2]; omega, fun i hi w hw => by
          rw [Nat.zero_add, eR, k7 i hi] at hw
          cases hw; exact hc⟩]
      simp only [enl, Option.bind_some, gR_X, k1, f_J7_copyOf_1904c, gclas, if_pos (show 12 ≤ 12 + j ∧ 12 + j < 17 by omega), f_J7_copyOf_6403c]
      rw [show acq (some (19, 0)) (some (19, 0)) g0 = some true by simp [acq]]
      simp only [Option.bind_some, if_true, em, a1 _ eN, emn, ec, pR_X]
      refine fin (12 + j, e + 1) _ rfl ?_ ?_ ?_ ?_ ?_ ?_ ?_ ?_ ?_
      · show (if (0, j) = (0, j) ∧ 1 = 1 then some (12 + j, e + 1) else _) = _
        rw [if_pos ⟨rfl, rfl⟩]
      · rw [show ∀ g3 : Hp, gN (setR g3 (0, j) 1 (some (12 + j, e + 1))) = gN g3 from fun _ => rfl, show ∀ (g3 : Hp) a b x y n, gN (cpR g3 a x b y n) = gN g3 from fun _ _ _ _ _ _ => rfl, eN2]; omega
      · rw [show ∀ g3 : Hp, gN (setR g3 (0, j) 1 (some (12 + j, e + 1))) = gN g3 from fun _ => rfl, show ∀ (g3 : Hp) a b x y n, gN (cpR g3 a x b y n) = gN g3 from fun _ _ _ _ _ _ => rfl, eN2]; omega
      · show (12 + j, e + 1) ∈ gL g0 ++ [(12 + j, e + 1)]
        simp
      · intro e2 he2
        show (12 + j, e2) ∉ gL g0 ++ [(12 + j, e + 1)]
        simp only [List.mem_append, List.mem_singleton, not_or]
        have he3 : e + 1 < e2 := he2
        exact ⟨h6 e2 (by omega), fun w => by have := congrArg Prod.snd w; simp at this; omega⟩
      · intro i hi
        show (if (12 + j, e + 1) = (0, j) ∧ i = 1 then _ else (if (12 + j, e + 1) = (12 + j, e + 1) then va_cpy (gR (newN g0 (12 + j, e + 1) (n + max 1 (n / 2)) (n + max 1 (n / 2))) (12 + j, e)) (gR (newN g0 (12 + j, e + 1) (n + max 1 (n / 2)) (n + max 1 (n / 2))) (12 + j, e + 1)) 0 0 n i else _)) = some (c, i)
        rw [if_neg (fun w => by have := congrArg Prod.fst w.1; simp at this), if_pos rfl, pk_cpy_in (Nat.zero_le _) (by omega), eR, show 0 + (i - 0) = i by omega]
        exact k7 i hi
      · refine (((f0.tr (Fr.nN (g := g0) (n := (12 + j, e + 1)) (l := n + max 1 (n / 2)) (s := n + max 1 (n / 2)))).tr (Fr.cR (a := (12 + j, e)) (b := (12 + j, e + 1)) (x := 0) (y := 0) (n := n))).tr Fr.sR).mono (fun m hm => ?_)
        rcases hm with ((hm | hm) | hm) | hm
        · exact hm
        · exact Or.inr (by rw [hm])
        · exact Or.inr (by rw [hm])
        · exact Or.inl hm
      · show gc g0 + 1 ≤ _; omega
      · show gs g0 + (n + max 1 (n / 2)) ≤ _; omega
    · rw [if_neg (fun w => hf (nI_inj2 w (by omega) (by omega)))]
      simp only [Option.bind_some]
      exact fin (12 + j, e) g0 rfl k1 (by omega) (by omega) h5 h6 k7 f0 (by omega) (by omega)
end ADD
end
section
section MAD
variable {z : Nat}
def PC (j : Nat) (C : List Nat) (m : Nm) : Prop := m = (0, j) ∨ m.1 ∈ C
theorem PC.n {j : Nat} {C : List Nat} {c i : Nat} (h : c ∉ C) (h0 : c ≠ 0) : ¬ PC j C (c, i) := fun q => q.elim (fun e => h0 (congrArg Prod.fst e)) h
theorem PC.n0 {j : Nat} {C : List Nat} {i : Nat} (h : 0 ∉ C) (h0 : i ≠ j) : ¬ PC j C (0, i) := fun q => q.elim (fun e => h0 (congrArg Prod.snd e)) h
theorem LR.fr {j2 : Nat} {C : List Nat} {g g2 : Hp} (hf : Fr (PC j2 C) g g2) {j c n : Nat} (hj : j ≠ j2) (h0 : 0 ∉ C) (hC : 12 + j ∉ C) (h : LR g.1 j c n) : LR g2.1 j c n := by
  have a1 : gR g2 (0, j) = gR g (0, j) := (hf (0, j) (PC.n0 h0 hj)).2.1
  have a2 := fun e => hf (12 + j, e) (PC.n hC (by omega))
  rcases h with ⟨b1, b2, b3⟩ | ⟨e, b1, b2, b3, b4, b5, b6, b7⟩
  · exact Or.inl ⟨b1, (congrFun a1 1).trans b2, fun e => fun q => b3 e ((a2 e).2.2.2.mp q)⟩
  · refine Or.inr ⟨e, (congrFun a1 1).trans b1, ?_, ?_, ?_, (a2 e).2.2.2.mpr b5, fun e2 he q => b6 e2 he ((a2 e2).2.2.2.mp q), fun i hi => (congrFun (a2 e).2.1 i).trans (b7 i hi)⟩
    · show n ≤ gN g2 (12 + j, e); rw [(a2 e).2.2.1]; exact b2
    · show 0 < gN g2 (12 + j, e); rw [(a2 e).2.2.1]; exact b3
    · show gN g2 (12 + j, e) ≤ _; rw [(a2 e).2.2.1]; exact b4
variable {j2 : Nat} {C : List Nat} {g g2 : Hp}
theorem fr_nm (hf : Fr (PC j2 C) g g2) {c i : Nat} (h : c ∉ C) (h0 : c ≠ 0) : (c, i) ∉ gL g → (c, i) ∉ gL g2 := fun hn q => hn ((hf (c, i) (PC.n h h0)).2.2.2.mp q)
theorem fr_R (hf : Fr (PC j2 C) g g2) {c i k : Nat} (h : c ∉ C) (h0 : c ≠ 0) : gR g2 (c, i) k = gR g (c, i) k := congrFun (hf (c, i) (PC.n h h0)).2.1 k
theorem fr_N (hf : Fr (PC j2 C) g g2) {c i : Nat} (h : c ∉ C) (h0 : c ≠ 0) : gN g2 (c, i) = gN g (c, i) := (hf (c, i) (PC.n h h0)).2.2.1
theorem fr_I (hf : Fr (PC j2 C) g g2) {c i k : Nat} (h : c ∉ C) (h0 : c ≠ 0) : gI g2 (c, i) k = gI g (c, i) k := congrFun (hf (c, i) (PC.n h h0)).1 k
theorem RC1.fr (hf : Fr (PC j2 C) g g2) (hC : dj [9, 8, 1, 20, 21, 22, 23, 24] C = true) (h : RC1 g.1) : RC1 g2.1 := by
  have hx : ∀ c, c ∈ [9, 8, 1, 20, 21, 22, 23, 24] → c ∉ C := fun c hc => dj_x hC hc
  obtain ⟨⟨a1, a2, a3, a4⟩, b1, b2, b3, b4, b5⟩ := h
  exact ⟨⟨fun i => (fr_R hf (hx 9 (by decide)) (by decide)).trans (a1 i), (fr_R hf (hx 8 (by decide)) (by decide)).trans a2, (fr_R hf (hx 1 (by decide)) (by decide)).trans a3, (fr_R hf (hx 1 (by decide)) (by decide)).trans a4⟩, (fr_N hf (hx 20 (by decide)) (by decide)).trans b1, (fr_N hf (hx 21 (by decide)) (by decide)).trans b2, (fr_N hf (hx 22 (by decide)) (by decide)).trans b3, (fr_N hf (hx 23 (by decide)) (by decide)).trans b4, (fr_N hf (hx 24 (by decide)) (by decide)).trans b5⟩
theorem RCs.fr (hf : Fr (PC j2 C) g g2) (hC : dj [0, 12, 6, 5, 25] C = true) (hj : 0 ≠ j2) {a : Nat} (h : RCs g.1 a) : RCs g2.1 a := by
  have hx : ∀ c, c ∈ [0, 12, 6, 5, 25] → c ∉ C := fun c hc => dj_x hC hc
  obtain ⟨a1, a2, a3⟩ := h
  exact ⟨a1.fr hf hj (hx 0 (by decide)) (hx 12 (by decide)), fun i hi => ⟨(fr_R hf (hx 6 (by decide)) (by decide)).trans (a2 i hi).1, (fr_R hf (hx 5 (by decide)) (by decide)).trans (a2 i hi).2.1, (fr_N hf (hx 25 (by decide)) (by decide)).trans (a2 i hi).2.2⟩, fun i hi => ⟨fr_nm hf (hx 6 (by decide)) (by decide) (a3 i hi).1, fr_nm hf (hx 5 (by decide)) (by decide) (a3 i hi).2.1, fr_nm hf (hx 25 (by decide)) (by decide) (a3 i hi).2.2⟩⟩
theorem RCt.fr (hf : Fr (PC j2 C) g g2) (hC : dj [0, 13, 7] C = true) (hj : 1 ≠ j2) {a : Nat} (h : RCt g.1 a) : RCt g2.1 a := by
  have hx : ∀ c, c ∈ [0, 13, 7] → c ∉ C := fun c hc => dj_x hC hc
  exact ⟨h.1.fr hf hj (hx 0 (by decide)) (hx 13 (by decide)), fun i hi => fr_nm hf (hx 7 (by decide)) (by decide) (h.2 i hi)⟩
theorem RCp.fr (hf : Fr (PC j2 C) g g2) (hC : dj [0, 14, 3] C = true) (hj : 2 ≠ j2) {a : Nat} (h : RCp g.1 a) : RCp g2.1 a := by
  have hx : ∀ c, c ∈ [0, 14, 3] → c ∉ C := fun c hc => dj_x hC hc
  exact ⟨h.1.fr hf hj (hx 0 (by decide)) (hx 14 (by decide)), fun i hi => fr_nm hf (hx 3 (by decide)) (by decide) (h.2 i hi)⟩
theorem RCm.fr (hf : Fr (PC j2 C) g g2) (hC : dj [0, 16, 2] C = true) (hj : 4 ≠ j2) {a : Nat} (h : RCm g.1 a) : RCm g2.1 a := by
  have hx : ∀ c, c ∈ [0, 16, 2] → c ∉ C := fun c hc => dj_x hC hc
  exact ⟨h.1.fr hf hj (hx 0 (by decide)) (hx 16 (by decide)), fun i hi => fr_nm hf (hx 2 (by decide)) (by decide) (h.2 i hi)⟩
theorem RCq.fr (hf : Fr (PC j2 C) g g2) (hC : dj [0, 15, 4, 26, 27, 28] C = true) (hj : 3 ≠ j2) {a : Nat} (h : RCq g.1 a) : RCq g2.1 a := by
  have hx : ∀ c, c ∈ [0, 15, 4, 26, 27, 28] → c ∉ C := fun c hc => dj_x hC hc
  obtain ⟨a1, a2, a3⟩ := h
  exact ⟨a1.fr hf hj (hx 0 (by decide)) (hx 15 (by decide)), fun i hi => by
    obtain ⟨b1, b2, b3, b4, b5, b6⟩ := a2 i hi
    exact ⟨(fr_R hf (hx 4 (by decide)) (by decide)).trans b1, (fr_R hf (hx 4 (by decide)) (by decide)).trans b2, (fr_R hf (hx 4 (by decide)) (by decide)).trans b3, (fr_N hf (hx 26 (by decide)) (by decide)).trans b4, (fr_N hf (hx 27 (by decide)) (by decide)).trans b5, (fr_N hf (hx 28 (by decide)) (by decide)).trans b6⟩, fun i hi => ⟨fr_nm hf (hx 4 (by decide)) (by decide) (a3 i hi).1, fr_nm hf (hx 26 (by decide)) (by decide) (a3 i hi).2.1, fr_nm hf (hx 27 (by decide)) (by decide) (a3 i hi).2.2.1, fr_nm hf (hx 28 (by decide)) (by decide) (a3 i hi).2.2.2⟩⟩
theorem fr_SM (_ : Fr (PC j2 C) g g2) (_ : noM C = true) (_ : SM g) : SM g2 := trivial
theorem IN.made {D E : List Nat} {V V2 : VV} (h : IN g V) (hf : Fr (PC j2 C) g g2) (hev : Ev D E V V2) (hC : noM C = true) (hC1 : dj [9, 8, 1, 20, 21, 22, 23, 24] C = true) (hd : depOk (0 :: C) D E = true) (hv : VI V2) (hS : RCs g2.1 (nst V2)) (hT : RCt g2.1 (ntw V2)) (hP : RCp g2.1 (npk V2)) (hQ : RCq g2.1 (nqk V2)) (hM : RCm g2.1 (kp V2)) (h0 : gI g2 (0, 0) 2 = nI (nst V2) ∧ gI g2 (0, 1) 2 = nI (ntw V2) ∧ gI g2 (0, 2) 2 = nI (npk V2) ∧ gI g2 (0, 3) 2 = nI (nqk V2) ∧ gI g2 (0, 4) 2 = nI (kp V2)) (hI : ∀ c i k v, c ∈ C → Z0 (c, i) → cI V2 (c, i) k = some v → gI g2 (c, i) k = v) (hH : HC g2 V2) (hcb : CB g2 V2) (hvf : VF V2) : IN (wM g2 V2) V2 := by
  have hrc : RC g2.1 V2 := ⟨RC1.fr hf hC1 h.b1, hS, hT, hP, hQ, hM⟩
  have hsm : SM g2 := fr_SM hf hC h.s
  refine ⟨trivial, hsm, hv, hrc, ?_, hH.w, hcb, hvf⟩
  intro n k v hz hk
  rw [wM_C (cI_cls hk)]
  obtain ⟨c, i⟩ := n
  by_cases hn : c ∈ C
  · exact hI c i k v hn hz hk
  · by_cases c0 : c = 0
    · subst c0
      obtain ⟨z0, z1, z2, z3, z4⟩ := h0
      simp only [cI, if_true] at hk
      by_cases hk2 : k = 2
      · subst hk2
        simp only [if_true] at hk
        by_cases i0 : i = 0
        · subst i0; simp at hk; rw [z0]; exact hk
        by_cases i1 : i = 1
        · subst i1; simp at hk; rw [z1]; exact hk
        by_cases i2 : i = 2
        · subst i2; simp at hk; rw [z2]; exact hk
        by_cases i3 : i = 3
        · subst i3; simp at hk; rw [z3]; exact hk
        by_cases i4 : i = 4
        · subst i4; simp at hk; rw [z4]; exact hk
        simp [i0, i1, i2, i3, i4] at hk
      · simp [hk2] at hk
    · rw [fr_I hf hn c0]
      rw [cI_ev hev hd (n := (c, i)) (by simp [hn, c0])] at hk
      exact h.i hk hz
end MAD
end
section
section TOW
variable {z : Nat}
theorem mkO_X {g : Hp} {c n : Nat} (h : (c, n) ∉ gL g) : mkO (c, n) c g = some (some (c, n), newN g (c, n) 0 (flds c).length) := by
  unfold mkO
  exact if_pos ⟨rfl, h⟩
theorem lsz_e {g : Hp} {j n : Nat} (h : gI g (0, j) 2 = nI n) (hn : n < 2147483648) : lsz g j = n := by unfold lsz; rw [h, nI_cl hn]
theorem gIn {g : Hp} {m n : Nm} {l s k : Nat} (h : m ≠ n) : gI (newN g n l s) m k = gI g m k := by show (if m = n then 0 else _) = _; rw [if_neg h]
theorem gRn {g : Hp} {m n : Nm} {l s k : Nat} (h : m ≠ n) : gR (newN g n l s) m k = gR g m k := by show (if m = n then none else _) = _; rw [if_neg h]
theorem town8 {g : Hp} {V : VV} (h : IN g V) (h2 : ntw V < 6) {d : Nat} (hd : d < 144) : ∃ g2, f_X8_town z (some (9, 0)) (nI d) g = some (nI (ntw V), g2) ∧ IN g2 (vs (vs V 42 (ntw V) (nI d)) 10 9 (nI (ntw V + 1))) ∧ Fr (PC 1 [7, 13]) g g2 ∧ gc g2 ≤ gc g + 2 ∧ gs g2 ≤ gs g + 821 := by
  have htw := h.v.tw
  have h1 := cl_in hd
  have hfr := h.r.2.2.1.2 (ntw V) (Nat.le_refl _)
  have hL : LR (setI (newN g (7, ntw V) 0 1) (7, ntw V) 0 (nI d)).1 1 7 (ntw V) := LR.fr (j2 := 5) (C := [7]) (g := g) (((Fr.nN (g := g) (n := (7, ntw V)) (l := 0) (s := 1)).tr (Fr.sI (k := 0) (v := nI d))).mono (fun m hm => Or.inr (by rcases hm with e | e <;> (rw [e]; simp)))) (by decide) (by decide) (by decide) h.r.2.2.1.1
  have s1 : gI (setI (newN g (7, ntw V) 0 1) (7, ntw V) 0 (nI d)) (0, 1) 2 = nI (ntw V) := by
    rw [gI_set, if_neg (by simp), gIn (by simp)]; exact h.c1
  obtain ⟨g2, b1, b2, b3, b4, b5, b6⟩ := addJ (z := z) s1 hL (by decide) (by omega) (by decide)
  have F1 : Fr (fun m => m.1 = 7) g (setI (newN g (7, ntw V) 0 1) (7, ntw V) 0 (nI d)) := ((Fr.nN (g := g) (n := (7, ntw V)) (l := 0) (s := 1)).tr (Fr.sI (k := 0) (v := nI d))).mono (fun m hm => by rcases hm with e | e <;> rw [e])
  have F : Fr (PC 1 [7, 13]) g g2 := (F1.tr b4).mono (fun m hm => by
    rcases hm with e | e | e
    · exact Or.inr (by rw [e]; simp)
    · exact Or.inl e
    · exact Or.inr (by rw [e]; simp))
  have hev : Ev [42] [9] V (vs (vs V 42 (ntw V) (nI d)) 10 9 (nI (ntw V + 1))) := ((Ev.rf _ _ V).s (by decide) (by decide)).t (by decide)
  have n2 : ntw (vs (vs V 42 (ntw V) (nI d)) 10 9 (nI (ntw V + 1))) = ntw V + 1 := by
    show (vs (vs V 42 (ntw V) (nI d)) 10 9 (nI (ntw V + 1)) 10 9).toNatClampNeg = _
    rw [vs_eq]; exact nI_cl (by omega)
  have r1 := RC1.fr F (by decide) h.b1
  have sz1 : f_Jx4a65c_size_8abf5 z (some (0, 1)) g2 = some (nI (ntw V + 1), g2) := sizeJ b2
  have ka : kp (vs (vs V 42 (ntw V) (nI d)) 10 9 (nI (ntw V + 1))) = kp V := rfl
  have i7 : ∀ i k, i < ntw V → gI g2 (7, i) k = gI g (7, i) k := fun i k hi => by
    have e1 := congrFun (b4 (7, i) (fun w => by rcases w with w | w <;> simp at w)).1 k
    rw [e1, gI_set, if_neg (by simp; omega), gIn (by simp; omega)]
  have i7n : gI g2 (7, ntw V) 0 = nI d := by
    have e1 := congrFun (b4 (7, ntw V) (fun w => by rcases w with w | w <;> simp at w)).1 0
    rw [e1, gI_set, if_pos ⟨rfl, rfl⟩]
  have f0 : ∀ j, j ≠ 1 → gI g2 (0, j) 2 = gI g (0, j) 2 := fun j hj => congrFun (F (0, j) (PC.n0 (by decide) hj)).1 2
  have x1 : gc (setI (newN g (7, ntw V) 0 1) (7, ntw V) 0 (nI d)) = gc g + 1 := rfl
  have x2 : gs (setI (newN g (7, ntw V) 0 1) (7, ntw V) 0 (nI d)) = gs g + 1 := rfl
  refine ⟨g2, ?_, ?_, F, by omega, by omega⟩
  · simp only [f_X8_town, cell8, Option.bind_some, if_neg h1, gr_C h.b1, cRef, ick_X, sizeJ h.c1]
    rw [show (6 : Int32) = nI 6 from rfl, if_pos ((nI_ltI (by omega) (by omega)).mpr h2), lsz_e h.c1 (by omega), mkO_X hfr]
    simp only [Option.bind_some, nnl_X, f_X6_init, nnu, pI_X, ick_X, flds, List.length]
    rw [show (0 + 1 : Nat) = 1 from rfl, b1]
    simp only [Option.bind_some, gr_C r1, cRef, ick_X, sz1]
    rw [nI_pred]
  · refine h.made F hev (by decide) (by decide) (by decide) ?_ (RCs.fr F (by decide) (by decide) h.r.2.1) ?_ (RCp.fr F (by decide) (by decide) h.r.2.2.2.1) (RCq.fr F (by decide) (by decide) h.r.2.2.2.2.1) (RCm.fr F (by decide) (by decide) h.r.2.2.2.2.2) ⟨(f0 0 (by decide)).trans h.c0, by rw [n2]; exact b2, (f0 2 (by decide)).trans h.c2, (f0 3 (by decide)).trans h.c3, (f0 4 (by decide)).trans h.c4⟩ ?_ ?_ ?_ (h.vf.cg hev (by decide) (by decide))
    · obtain ⟨w0, -, w2, w3, w4, w5, w6⟩ := h.v
      refine ⟨w0, ?_, w2, w3, w4, fun t ht => ?_, w6⟩
      · rw [n2]; exact ⟨vs_eq, by omega⟩
      · rw [n2] at ht
        show vs V 42 (ntw V) (nI d) 42 t = nI ((vs V 42 (ntw V) (nI d) 42 t).toNatClampNeg) ∧ (vs V 42 (ntw V) (nI d) 42 t).toNatClampNeg < 144
        by_cases e : t = ntw V
        · rw [e, vs_eq, nI_cl (by omega)]; exact ⟨rfl, hd⟩
        · rw [vs_nk e]; exact w5 t (by omega)
    · rw [n2]
      refine ⟨b3, fun i hi q => ?_⟩
      have e1 := (b4 (7, i) (fun w => by rcases w with w | w <;> simp at w)).2.2.2.mp q
      have e2 : (7, i) ∈ gL g ++ [(7, ntw V)] := e1
      simp only [List.mem_append, List.mem_singleton, Prod.mk.injEq, true_and] at e2
      rcases e2 with e2 | e2
      · exact h.r.2.2.1.2 i (by omega) e2
      · omega
    · intro c i k v hc hz hk
      simp only [List.mem_cons, List.not_mem_nil, or_false] at hc
      rcases hc with rfl | rfl
      · simp only [cI, n2] at hk
        simp at hk
        obtain ⟨⟨hi, rfl⟩, hk⟩ := hk
        by_cases e : i = ntw V
        · subst e
          rw [vs_ne (by decide), vs_eq] at hk
          rw [i7n]; exact hk
        · rw [vs_ne (by decide), vs_nk e] at hk
          rw [i7 i 0 (by omega), h.t0 (by omega)]; exact hk
      · exact absurd (show 13 ∈ [0, 2, 3, 4, 5, 6, 7, 9, 20, 23, 24, 25, 26, 27, 28] from cI_cls hk) (by decide)
    · exact h.h.cg (hev.h (by decide) (by decide)) (fun k => fr_I F (by decide) (by decide)) (fun k => fr_I F (by decide) (by decide)) (fun k => fr_I F (by decide) (by decide))
    · obtain ⟨c1, c2⟩ := h.c
      have x3 : cnt (vs (vs V 42 (ntw V) (nI d)) 10 9 (nI (ntw V + 1))) = cnt V + 1 := by
        show nst V + ntw _ + npk V + nqk V + kp V = nst V + ntw V + npk V + nqk V + kp V + 1
        rw [n2]; omega
      unfold CB
      rw [x3]
      omega

end TOW
end
section
section STA
variable {z : Nat}
theorem station8 {g : Hp} {V : VV} (h : IN g V) {n d : Nat} (hn : nst V = n) (h2 : n < 10) (h3 : npk V = 0) (hd : d < 144) : ∃ g2, f_X8_station z (some (9, 0)) (nI d) g = some (nI n, g2) ∧ IN g2 (vs (vs V 41 n (nI d)) 10 6 (nI (n + 1))) ∧ Fr (PC 0 [6, 5, 25, 12]) g g2 := by
  have hns := h.v.hv.ns
  have hnp := h.v.hv.np
  have h1 := cl_in hd
  rw [← hn] at h2
  have hlt : nI (nst V) < 10 := by rw [show (10 : Int32) = nI 10 from rfl]; exact (nI_ltI (by omega) (by omega)).mpr h2
  obtain ⟨hf6, hf5, hf25⟩ := h.r.2.1.2.2 (nst V) (Nat.le_refl _)
  have hq0 : nqk V = 0 := by
    rcases Nat.eq_zero_or_pos (nqk V) with w | w
    · exact w
    · have := (h.v.fp w).1; omega
  subst hn
  generalize hn : nst V = n at *
  have ga : ∃ ga, f_X5_init z (some (6, n)) (nI d) (newN g (6, n) 0 3) = some ((), ga) ∧ Fr (fun m => m = (6, n) ∨ m = (5, n) ∨ m = (25, n)) g ga ∧ gI ga (6, n) 0 = nI d ∧ gI ga (6, n) 2 = 0 ∧ gR ga (6, n) 1 = some (5, n) ∧ gR ga (5, n) 0 = some (25, n) ∧ gI ga (5, n) 1 = -1 ∧ gN ga (25, n) = 30 ∧ (∀ k, gI ga (25, n) k = 0) ∧ gc ga = gc g + 3 ∧ gs ga = gs g + 35 := by
    have m5 : (5, n) ∉ gL (newN g (6, n) 0 3) := by
      show (5, n) ∉ gL g ++ [(6, n)]
      have w : (5, n) ∉ gL g := hf5
      simp [w]
    have m25 : ¬ (25, n) ∈ gL (newN (newN g (6, n) 0 3) (5, n) 0 2) := by
      show (25, n) ∉ (gL g ++ [(6, n)]) ++ [(5, n)]
      have w : (25, n) ∉ gL g := hf25
      simp [w]
    have mi : mkI (25, n) 30 (newN (newN g (6, n) 0 3) (5, n) 0 2) = some (some (25, n), newN (newN (newN g (6, n) 0 3) (5, n) 0 2) (25, n) 30 30) := by
      unfold mkI
      exact if_pos ⟨⟨show 20 ≤ 25 by decide, show 25 < 60 by decide⟩, m25, by decide, by decide⟩
    refine ⟨setI (setR (setI (setR (newN (newN (newN g (6, n) 0 3) (5, n) 0 2) (25, n) 30 30) (5, n) 0 (some (25, n))) (5, n) 1 (-1)) (6, n) 1 (some (5, n))) (6, n) 0 (nI d), ?_, ?_, ?_⟩
    · simp only [f_X5_init, nnu, Option.bind_some, nix, mkO_X m5, nnl_X, f_X4_init, flds, List.length]
      rw [show (0 + 1 + 1 : Nat) = 2 from rfl, mi]
      simp only [Option.bind_some, pR_X, pI_X]
    · refine ((((((Fr.nN (g := g) (n := (6, n)) (l := 0) (s := 3)).tr (Fr.nN (n := (5, n)) (l := 0) (s := 2))).tr (Fr.nN (n := (25, n)) (l := 30) (s := 30))).tr Fr.sR).tr Fr.sI).tr Fr.sR).tr Fr.sI |>.mono (fun m hm => ?_)
      rcases hm with (((((hm | hm) | hm) | hm) | hm) | hm) | hm
      · exact Or.inl hm
      · exact Or.inr (Or.inl hm)
      · exact Or.inr (Or.inr hm)
      · exact Or.inr (Or.inl hm)
      · exact Or.inr (Or.inl hm)
      · exact Or.inl hm
      · exact Or.inl hm
    · simp [gI, gR, gN, gc, gs, setI, setR, newN]
  obtain ⟨ga, a1, a2, a3, a4, a5, a6, a7, a8, a9, a10, a11⟩ := ga
  have A2 : Fr (PC 5 [6, 5, 25]) g ga := a2.mono (fun m hm => Or.inr (by rcases hm with e | e | e <;> (rw [e]; simp)))
  have hL : LR ga.1 0 6 n := LR.fr A2 (by decide) (by decide) (by decide) (by have := h.r.2.1.1; rwa [hn] at this)
  have s1 : gI ga (0, 0) 2 = nI n := (congrFun (A2 (0, 0) (PC.n0 (by decide) (by decide))).1 2).trans (by have := h.c0; rwa [hn] at this)
  obtain ⟨g2, b1, b2, b3, b4, b5, b6⟩ := addJ (z := z) s1 hL (by decide) (by omega) (by decide)
  have F : Fr (PC 0 [6, 5, 25, 12]) g g2 := (a2.tr b4).mono (fun m hm => by
    rcases hm with (e | e | e) | e | e
    · exact Or.inr (by rw [e]; simp)
    · exact Or.inr (by rw [e]; simp)
    · exact Or.inr (by rw [e]; simp)
    · exact Or.inl e
    · exact Or.inr (by rw [e]; simp))
  have hev : Ev [41] [6] V (vs (vs V 41 n (nI d)) 10 6 (nI (n + 1))) := ((Ev.rf _ _ V).s (by decide) (by decide)).t (by decide)
  have n2 : nst (vs (vs V 41 n (nI d)) 10 6 (nI (n + 1))) = n + 1 := by
    show (vs (vs V 41 n (nI d)) 10 6 (nI (n + 1)) 10 6).toNatClampNeg = _
    rw [vs_eq]; exact nI_cl (by omega)
  have r1 := RC1.fr F (by decide) h.b1
  have sz1 : f_Jx4a65c_size_8abf5 z (some (0, 0)) g2 = some (nI (n + 1), g2) := sizeJ b2
  have hb : ∀ c i, c ≠ 0 → c ≠ 12 → gI g2 (c, i) = gI ga (c, i) ∧ gR g2 (c, i) = gR ga (c, i) ∧ gN g2 (c, i) = gN ga (c, i) ∧ ((c, i) ∈ gL g2 ↔ (c, i) ∈ gL ga) := fun c i c0 c12 => b4 (c, i) (fun w => by rcases w with w | w <;> simp at w <;> omega)
  have hold : ∀ c i, c ≠ 0 → i ≠ n → gI ga (c, i) = gI g (c, i) ∧ gR ga (c, i) = gR g (c, i) ∧ gN ga (c, i) = gN g (c, i) ∧ ((c, i) ∈ gL ga ↔ (c, i) ∈ gL g) := fun c i c0 hi => a2 (c, i) (fun w => by rcases w with w | w | w <;> simp at w <;> omega)
  have f0 : ∀ j, j ≠ 0 → gI g2 (0, j) 2 = gI g (0, j) 2 := fun j hj => congrFun (F (0, j) (PC.n0 (by decide) hj)).1 2
  have hdf : V 60 n = 0 ∧ V 43 n = -9 ∧ ∀ k, k < 30 → V 44 (30 * n + k) = 0 := by
    have := h.vf.1 n (by omega) h2
    exact this
  refine ⟨g2, ?_, ?_, F⟩
  · simp only [f_X8_station, cell8, Option.bind_some, if_neg h1, gr_C h.b1, cRef, ick_X, sizeJ (show gI g (0, 0) 2 = nI n from hn ▸ h.c0), if_pos hlt, emptyJ h.c2 (show npk V < 2147483648 by omega), if_pos h3]
    rw [if_neg (by decide), lsz_e (show gI g (0, 0) 2 = nI n from hn ▸ h.c0) (by omega), mkO_X hf6]
    simp only [Option.bind_some, nnl_X, flds, List.length]
    rw [show (0 + 1 + 1 + 1 : Nat) = 3 from rfl, a1]
    simp only [Option.bind_some, b1, gr_C r1, cRef, ick_X, sz1]
    rw [nI_pred]
  · refine h.made F hev (by decide) (by decide) (by decide) ?_ ?_ (RCt.fr F (by decide) (by decide) h.r.2.2.1) (RCp.fr F (by decide) (by decide) h.r.2.2.2.1) (RCq.fr F (by decide) (by decide) h.r.2.2.2.2.1) (RCm.fr F (by decide) (by decide) h.r.2.2.2.2.2) ⟨by rw [n2]; exact b2, (f0 1 (by decide)).trans h.c1, (f0 2 (by decide)).trans h.c2, (f0 3 (by decide)).trans h.c3, (f0 4 (by decide)).trans h.c4⟩ ?_ ?_ ?_ ⟨fun s h3 h4 => h.vf.1 s (by rw [n2] at h3; omega) h4, h.vf.2⟩
    · obtain ⟨⟨-, w1, w2, w3, w4, w5, w6⟩, w7, w8, w9, wa, wb, wc⟩ := h.v
      refine ⟨⟨?_, w1, w2, w3, w4, fun s hs => ?_, fun p hp => ?_⟩, w7, w8, w9, fun s hs => ?_, wb, wc⟩
      · rw [n2]; exact ⟨vs_eq, by omega⟩
      · rw [n2] at hs
        show vs V 41 n (nI d) 41 s = nI ((vs V 41 n (nI d) 41 s).toNatClampNeg) ∧ (vs V 41 n (nI d) 41 s).toNatClampNeg < 144 ∧ (V 60 s = 0 ∨ V 60 s = 1)
        by_cases e : s = n
        · rw [e, vs_eq, nI_cl (by omega)]; exact ⟨rfl, hd, Or.inl hdf.1⟩
        · rw [vs_nk e]; exact w5 s (by omega)
      · have : p < npk V := hp
        omega
      · rw [n2] at hs
        by_cases e : s = n
        · rw [e]; exact Or.inl hdf.2.1
        · exact wa s (by omega)
    · rw [n2]
      refine ⟨b3, fun i hi => ?_, fun i hi => ?_⟩
      · have x6 := hb 6 i (by decide) (by decide)
        have x5 := hb 5 i (by decide) (by decide)
        have x25 := hb 25 i (by decide) (by decide)
        by_cases e : i = n
        · subst e
          exact ⟨(congrFun x6.2.1 1).trans a5, (congrFun x5.2.1 0).trans a6, x25.2.2.1.trans a8⟩
        · have y := h.r.2.1.2.1 i (by omega)
          exact ⟨(congrFun (x6.2.1.trans (hold 6 i (by decide) e).2.1) 1).trans y.1, (congrFun (x5.2.1.trans (hold 5 i (by decide) e).2.1) 0).trans y.2.1, (x25.2.2.1.trans (hold 25 i (by decide) e).2.2.1).trans y.2.2⟩
      · have y := h.r.2.1.2.2 i (by omega)
        exact ⟨fun q => y.1 ((hold 6 i (by decide) (by omega)).2.2.2.mp ((hb 6 i (by decide) (by decide)).2.2.2.mp q)), fun q => y.2.1 ((hold 5 i (by decide) (by omega)).2.2.2.mp ((hb 5 i (by decide) (by decide)).2.2.2.mp q)), fun q => y.2.2 ((hold 25 i (by decide) (by omega)).2.2.2.mp ((hb 25 i (by decide) (by decide)).2.2.2.mp q))⟩
    · intro c i k v hc hz hk
      simp only [List.mem_cons, List.not_mem_nil, or_false] at hc
      rcases hc with rfl | rfl | rfl | rfl
      · simp only [cI, n2] at hk
        simp at hk
        obtain ⟨hi, hk⟩ := hk
        rw [(hb 6 i (by decide) (by decide)).1]
        by_cases e : i = n
        · subst e
          by_cases k0 : k = 0
          · subst k0; simp [vs] at hk; rw [a3]; exact hk
          · by_cases k2 : k = 2
            · subst k2; simp [vs, hdf.1] at hk; rw [a4]; exact hk
            · simp [k0, k2] at hk
        · rw [(hold 6 i (by decide) e).1]
          by_cases k0 : k = 0
          · subst k0; simp [vs, e] at hk; rw [h.s0 (by omega)]; exact hk
          · by_cases k2 : k = 2
            · subst k2; simp [vs] at hk; rw [h.s2 (by omega)]; exact hk
            · simp [k0, k2] at hk
      · simp only [cI, n2] at hk
        simp at hk
        obtain ⟨⟨hi, rfl⟩, hk⟩ := hk
        rw [(hb 5 i (by decide) (by decide)).1]
        by_cases e : i = n
        · subst e
          simp [vs, hdf.2.1] at hk; rw [a7]; exact hk
        · rw [(hold 5 i (by decide) e).1, h.r1 (by omega)]; simp [vs] at hk; exact hk
      · simp only [cI, n2] at hk
        simp at hk
        obtain ⟨⟨hi, hk3⟩, hk⟩ := hk
        rw [(hb 25 i (by decide) (by decide)).1]
        by_cases e : i = n
        · subst e
          simp [vs] at hk; rw [a9, ← hk, hdf.2.2 k hk3]
        · rw [(hold 25 i (by decide) e).1, h.rd (by omega) hk3]; simp [vs] at hk; exact hk
      · exact absurd (show 12 ∈ [0, 2, 3, 4, 5, 6, 7, 9, 20, 23, 24, 25, 26, 27, 28] from cI_cls hk) (by decide)
    · rcases h.h with w | ⟨q, hq, -⟩
      · exact Or.inl ((fr_I F (by decide) (by decide)).trans w)
      · omega
    · obtain ⟨c1, c2⟩ := h.c
      have x3 : cnt (vs (vs V 41 n (nI d)) 10 6 (nI (n + 1))) = cnt V + 1 := by
        show nst _ + ntw V + npk V + nqk V + kp V = nst V + ntw V + npk V + nqk V + kp V + 1
        rw [n2, hn]; omega
      unfold CB
      rw [x3]
      omega

end STA
end
section
section SEN
variable {z : Nat}
theorem sayL {m : Nat} (hm : m ≤ 2000000) : (400 : Int32) ≤ nI m ↔ 400 ≤ m := nI_leI (a := 400) (by decide) (by omega)
theorem ob {α β : Type} (a : α) (F : α → Option β) : (some a).bind F = F a := by
  apply Option.ext
  intro b
  exact Iff.rfl
end SEN
end
section
/-! warn: the class -/
def PCl (m : Nm) : Prop := m.1 ≠ 29 ∧ m.1 ≠ 30
theorem PC.cl {j : Nat} {C : List Nat} (hC : noM C = true) {m : Nm} (h : PC j C m) : PCl m := by
  rcases h with h | h
  · rw [h]; exact ⟨show 0 ≠ 29 by decide, show 0 ≠ 30 by decide⟩
  · have := List.all_eq_true.mp hC m.1 h
    simpa [PCl] using this
theorem Fr.rf {P : Nm → Prop} (g : Hp) : Fr P g g := fun _ _ => ⟨rfl, rfl, rfl, Iff.rfl⟩
theorem Fr.cl {j : Nat} {C : List Nat} {g g2 : Hp} (h : Fr (PC j C) g g2) (hC : noM C = true) : Fr PCl g g2 := h.mono (fun _ hm => PC.cl hC hm)
theorem Fr.t {P : Nm → Prop} {a b c : Hp} (h : Fr P a b) (h2 : Fr P b c) : Fr P a c := (h.tr h2).mono (fun _ hm => hm.elim id id)
theorem Ch.cl {C : List Nat} {g g2 : Hp} (h : Ch C g g2) (hC : noM C = true) : Fr PCl g g2 := fun m hm => by
  have hn : m.1 ∉ C := noM_x hC (by unfold PCl at hm; omega)
  exact ⟨funext fun k => h.i hn, congrFun h.r m, congrFun h.n m, by rw [h.l]⟩
theorem bt_c {f f' : Nat → Bool} (h : ∀ k, 1 ≤ k → k < 5 → f k = f' k) : bt f = bt f' := by
  unfold bt
  rw [h 1 (by decide) (by decide), h 2 (by decide) (by decide), h 3 (by decide) (by decide), h 4 (by decide) (by decide)]
section WAC
variable {z : Nat}
theorem nms55 {V : VV} {k : Nat} {v : Int32} : nms (vs V 55 k v) = nms V := nms_e (by rw [vs_ne (by decide)])
end WAC
end
section
/-! pick: tables that agree on the picks there are -/
theorem hrd_w {V V2 : VV} {q s : Nat} : ∀ n, (∀ p, p < n → V2 47 p = V 47 p ∧ V2 50 p = V 50 p) → hrd V2 q s n = hrd V q s n
  | 0, _ => rfl
  | n + 1, h => by unfold hrd; rw [hrd_w n (fun p hp => h p (by omega)), (h n (by omega)).1, (h n (by omega)).2]
theorem tkS_w {V V2 : VV} {q s : Nat} : ∀ n, (∀ p, p < n → V2 47 p = V 47 p ∧ V2 48 p = V 48 p ∧ V2 50 p = V 50 p) → tkS V2 q s n = tkS V q s n
  | 0, _ => rfl
  | n + 1, h => by
    obtain ⟨h1, h2, h3⟩ := h n (by omega)
    unfold tkS tk
    rw [tkS_w n (fun p hp => h p (by omega)), h1, h2, h3]
theorem cntF_w {V V2 : VV} {q : Nat} : ∀ n, (∀ p, p < n → V2 50 p = V 50 p) → cntF V2 q n = cntF V q n
  | 0, _ => rfl
  | n + 1, h => by unfold cntF; rw [cntF_w n (fun p hp => h p (by omega)), h n (by omega)]
theorem loP_w {V V2 : VV} {q c : Nat} (he : err V2 = err V) : ∀ n, (∀ p, p < n → V2 50 p = V 50 p ∧ pkT V2 p c = pkT V p c) → loP V2 q c n = loP V q c n ∧ hiP V2 q c n = hiP V q c n
  | 0, _ => ⟨rfl, rfl⟩
  | n + 1, h => by
    obtain ⟨h1, h2⟩ := h n (by omega)
    obtain ⟨i1, i2⟩ := loP_w (q := q) he n (fun p hp => h p (by omega))
    unfold loP hiP
    rw [i1, i2, h1, h2, he]
    exact ⟨rfl, rfl⟩
theorem cLo_w {V V2 : VV} {hd : Nat → Int} {c : Nat} (e60 : V2 60 = V 60) (e41 : V2 41 = V 41) (en : nw V2 = nw V) (ee : err V2 = err V) (es : slo V2 = slo V) : ∀ n, cLo V2 hd c n = cLo V hd c n ∧ cHi V2 hd c n = cHi V hd c n
  | 0 => ⟨rfl, rfl⟩
  | n + 1 => by
    obtain ⟨i1, i2⟩ := cLo_w (hd := hd) (c := c) e60 e41 en ee es n
    unfold cLo cHi TV cS
    rw [i1, i2, e60, e41, en, ee, es]
    exact ⟨rfl, rfl⟩
def EqW (V V2 : VV) : Prop := (∀ c, c ∈ [41, 60] → V2 c = V c) ∧ (∀ k, k ∈ [3, 4, 5, 6, 15] → V2 10 k = V 10 k) ∧ ∀ p, p < npk V → V2 47 p = V 47 p ∧ V2 48 p = V 48 p ∧ V2 50 p = V 50 p
section EQW
variable {V V2 : VV}
theorem EqW.ns (h : EqW V V2) : nst V2 = nst V := nst_e (h.2.1 6 (by decide))
theorem EqW.np (h : EqW V V2) : npk V2 = npk V := npk_e (h.2.1 15 (by decide))
theorem EqW.sl (h : EqW V V2) : slo V2 = slo V := by unfold slo; rw [h.2.1 3 (by decide)]
theorem EqW.er (h : EqW V V2) : err V2 = err V := by unfold err; rw [h.2.1 4 (by decide)]
theorem EqW.no (h : EqW V V2) : nw V2 = nw V := by unfold nw; rw [h.2.1 5 (by decide)]
theorem EqW.cS_ (h : EqW V V2) {s : Nat} : cS V2 s = cS V s := by unfold cS; rw [h.1 41 (by decide)]
theorem EqW.TV_ (h : EqW V V2) {c d : Nat} : TV V2 c d = TV V c d := by unfold TV; rw [h.sl]
theorem EqW.pkT_ (h : EqW V V2) {p c : Nat} (hp : p < npk V) : pkT V2 p c = pkT V p c := by
  obtain ⟨h1, h2, h3⟩ := h.2.2 p hp
  unfold pkT tk sP
  rw [h.TV_, h.cS_, h1, h2]
theorem EqW.hrd_ (h : EqW V V2) {q s : Nat} : hrd V2 q s (npk V) = hrd V q s (npk V) := hrd_w _ (fun p hp => ⟨(h.2.2 p hp).1, (h.2.2 p hp).2.2⟩)
theorem EqW.loP_ (h : EqW V V2) {q c : Nat} : loP V2 q c (npk V) = loP V q c (npk V) ∧ hiP V2 q c (npk V) = hiP V q c (npk V) := loP_w h.er _ (fun p hp => ⟨(h.2.2 p hp).2.2, h.pkT_ hp⟩)
theorem EqW.loS_ (h : EqW V V2) {q c : Nat} : ∀ s, loS V2 q c s = loS V q c s
  | 0 => by unfold loS; rw [h.np, h.loP_.1]
  | s + 1 => by unfold loS; rw [EqW.loS_ h s, h.1 60 (by decide), h.np, h.hrd_, h.no, h.TV_, h.cS_, h.er]
theorem EqW.lo_ (h : EqW V V2) {q c : Nat} : lo V2 q c = lo V q c := by unfold lo; rw [h.ns, h.loS_]
theorem EqW.hi_ (h : EqW V V2) {q c : Nat} : hi V2 q c = hi V q c := by unfold hi; rw [h.np, h.loP_.2]
theorem EqW.ncl_ (h : EqW V V2) {q : Nat} : ∀ c, ncl V2 q c = ncl V q c
  | 0 => rfl
  | c + 1 => by unfold ncl; rw [EqW.ncl_ h c, h.lo_, h.hi_]
theorem lwF_w {q : Nat} (hl : ∀ c, lo V2 q c = lo V q c ∧ hi V2 q c = hi V q c) (hs : ∀ c, szF V2 q c = szF V q c) : ∀ n, lwF V2 q n = lwF V q n ∧ hgF V2 q n = hgF V q n
  | 0 => ⟨rfl, rfl⟩
  | n + 1 => by
    obtain ⟨i1, i2⟩ := lwF_w hl hs n
    unfold lwF hgF
    rw [i1, i2, (hl n).1, (hl n).2, hs n]
    exact ⟨rfl, rfl⟩
theorem EqW.hv (h : EqW V V2) (hv : HV V) : HV V2 := by
  refine ⟨?_, ?_, ?_, ?_, ?_, fun s hs => ?_, fun p hp => ?_⟩
  · rw [h.ns, h.2.1 6 (by decide)]; exact hv.ns
  · rw [h.np, h.2.1 15 (by decide)]; exact hv.np
  · rw [h.sl, h.2.1 3 (by decide)]; exact hv.sl
  · rw [h.er, h.2.1 4 (by decide)]; exact hv.er
  · rw [h.no, h.2.1 5 (by decide)]; exact hv.no
  · rw [h.ns] at hs
    rw [h.cS_, h.1 41 (by decide), h.1 60 (by decide)]; exact hv.st hs
  · rw [h.np] at hp
    obtain ⟨h1, h2, h3⟩ := h.2.2 p hp
    have e1 : sP V2 p = sP V p := by unfold sP; rw [h1]
    have e2 : tk V2 p = tk V p := by unfold tk; rw [h2]
    rw [e1, e2, h1, h2, h.ns, h.no]; exact hv.pk hp
end EQW
/-- a pick more -/
def apV (V : VV) (s t : Nat) (c qv : Int32) : VV := vs (vs (vs (vs (vs V 47 (npk V) (nI s)) 48 (npk V) (nI t)) 49 (npk V) c) 50 (npk V) qv) 10 15 (nI (npk V + 1))
section APV
variable {V : VV} {s t : Nat} {c qv : Int32}
theorem ap_ev : Ev [47, 48, 49, 50] [15] V (apV V s t c qv) := (((((Ev.rf _ _ V).s (by decide) (by decide)).s (by decide) (by decide)).s (by decide) (by decide)).s (by decide) (by decide)).t (by decide)
theorem ap_15 : apV V s t c qv 10 15 = nI (npk V + 1) := vs_eq
theorem ap_np (hp : npk V < 60) : npk (apV V s t c qv) = npk V + 1 := by
  show (apV V s t c qv 10 15).toNatClampNeg = _
  rw [ap_15]; exact nI_cl (by omega)
theorem ap_ns : nst (apV V s t c qv) = nst V := nst_e (ap_ev.2 6 (by decide))
theorem ap_nt : ntw (apV V s t c qv) = ntw V := ntw_e (ap_ev.2 9 (by decide))
theorem ap_nq : nqk (apV V s t c qv) = nqk V := nqk_e (ap_ev.2 20 (by decide))
theorem ap_nm : nms (apV V s t c qv) = nms V := nms_e (ap_ev.2 24 (by decide))
theorem ap_sl : slo (apV V s t c qv) = slo V := by unfold slo; rw [ap_ev.2 3 (by decide)]
theorem ap_er : err (apV V s t c qv) = err V := by unfold err; rw [ap_ev.2 4 (by decide)]
theorem ap_no : nw (apV V s t c qv) = nw V := by unfold nw; rw [ap_ev.2 5 (by decide)]
theorem ap_lt {p : Nat} (hp : p ≠ npk V) : apV V s t c qv 47 p = V 47 p ∧ apV V s t c qv 48 p = V 48 p ∧ apV V s t c qv 49 p = V 49 p ∧ apV V s t c qv 50 p = V 50 p := by
  simp [apV, vs, hp]
theorem ap_at : apV V s t c qv 47 (npk V) = nI s ∧ apV V s t c qv 48 (npk V) = nI t ∧ apV V s t c qv 49 (npk V) = c ∧ apV V s t c qv 50 (npk V) = qv := by
  simp [apV, vs]
theorem ap_TV {a b : Nat} : TV (apV V s t c qv) a b = TV V a b := by unfold TV; rw [ap_sl]
theorem ap_cS {i : Nat} : cS (apV V s t c qv) i = cS V i := by unfold cS; rw [ap_ev.1 41 (by decide) (by decide)]
theorem ap_pkT {p k : Nat} (hp : p ≠ npk V) : pkT (apV V s t c qv) p k = pkT V p k := by
  obtain ⟨h1, h2, h3, h4⟩ := ap_lt (V := V) (s := s) (t := t) (c := c) (qv := qv) hp
  unfold pkT tk sP
  rw [ap_TV, ap_cS, h1, h2]
theorem ap_sP {p : Nat} (hp : p ≠ npk V) : sP (apV V s t c qv) p = sP V p := by unfold sP; rw [(ap_lt hp).1]
theorem ap_tk {p : Nat} (hp : p ≠ npk V) : tk (apV V s t c qv) p = tk V p := by unfold tk; rw [(ap_lt hp).2.1]
theorem ap_sg {p : Nat} (hp : p ≠ npk V) : sg (apV V s t c qv) p = sg V p := by unfold sg; rw [(ap_lt hp).2.2.1]
theorem ap_sPa (hs : s < 100) : sP (apV V s t c qv) (npk V) = s := by unfold sP; rw [ap_at.1]; exact nI_cl (by omega)
theorem ap_tka (ht : t ≤ 100000) : tk (apV V s t c qv) (npk V) = t := by unfold tk; rw [ap_at.2.1]; exact nI_cl (by omega)
theorem ap_hv (h : HV V) (hs : s < nst V) (ht : t ≤ nw V) (hp : npk V < 60) : HV (apV V s t c qv) := by
  have h10 := h.ns.2
  have hno := h.no.2
  refine ⟨?_, ?_, ?_, ?_, ?_, fun i hi => ?_, fun p hq => ?_⟩
  · rw [ap_ns, ap_ev.2 6 (by decide)]; exact h.ns
  · rw [ap_np hp, ap_15]; exact ⟨rfl, by omega⟩
  · rw [ap_sl, ap_ev.2 3 (by decide)]; exact h.sl
  · rw [ap_er, ap_ev.2 4 (by decide)]; exact h.er
  · rw [ap_no, ap_ev.2 5 (by decide)]; exact h.no
  · rw [ap_ns] at hi
    rw [ap_cS, ap_ev.1 41 (by decide) (by decide), ap_ev.1 60 (by decide) (by decide)]; exact h.st hi
  · rw [ap_np hp] at hq
    rw [ap_ns, ap_no]
    by_cases e : p = npk V
    · subst e
      rw [ap_sPa (by omega), ap_tka (by omega), ap_at.1, ap_at.2.1]
      exact ⟨rfl, hs, rfl, ht⟩
    · rw [ap_sP e, ap_tk e, (ap_lt e).1, (ap_lt e).2.1]
      exact h.pk (by omega)
/-- a quake that the pick isn't of keeps its heap -/
theorem ap_hrd {q i : Nat} (hq : qv ≠ nI q) : hrd (apV V s t c qv) q i (npk V + 1) = hrd V q i (npk V) := by
  have e : hrd (apV V s t c qv) q i (npk V) = hrd V q i (npk V) := hrd_w _ (fun p hp => ⟨(ap_lt (by omega)).1, (ap_lt (by omega)).2.2.2⟩)
  show (hrd (apV V s t c qv) q i (npk V) || _) = _
  rw [e, ap_at.2.2.2]
  simp [hq]
theorem ap_tkS {q i : Nat} (hq : qv ≠ nI q ∨ nI s ≠ nI i) : tkS (apV V s t c qv) q i (npk V + 1) = tkS V q i (npk V) := by
  have e : tkS (apV V s t c qv) q i (npk V) = tkS V q i (npk V) := tkS_w _ (fun p hp => ⟨(ap_lt (by omega)).1, (ap_lt (by omega)).2.1, (ap_lt (by omega)).2.2.2⟩)
  conv => lhs; unfold tkS
  rw [ap_at.1, ap_at.2.2.2, if_neg (fun w => hq.elim (fun a => a w.1) (fun a => a w.2)), e]
theorem ap_tkSa {q : Nat} (ht : t ≤ 100000) (hq : qv = nI q) : tkS (apV V s t c qv) q s (npk V + 1) = t := by
  unfold tkS
  rw [ap_at.1, ap_at.2.2.2, if_pos ⟨hq, rfl⟩, ap_tka ht]
theorem ap_cnt {q : Nat} (hq : qv ≠ nI q) : cntF (apV V s t c qv) q (npk V + 1) = cntF V q (npk V) := by
  have e : cntF (apV V s t c qv) q (npk V) = cntF V q (npk V) := cntF_w _ (fun p hp => (ap_lt (by omega)).2.2.2)
  conv => lhs; unfold cntF
  rw [ap_at.2.2.2, if_neg hq, e]
theorem ap_cnta {q : Nat} (hq : qv = nI q) : cntF (apV V s t c qv) q (npk V + 1) = cntF V q (npk V) + 1 := by
  have e : cntF (apV V s t c qv) q (npk V) = cntF V q (npk V) := cntF_w _ (fun p hp => (ap_lt (by omega)).2.2.2)
  conv => lhs; unfold cntF
  rw [ap_at.2.2.2, if_pos hq, e]
theorem ap_loP {q k : Nat} (hq : qv ≠ nI q) : loP (apV V s t c qv) q k (npk V + 1) = loP V q k (npk V) ∧ hiP (apV V s t c qv) q k (npk V + 1) = hiP V q k (npk V) := by
  obtain ⟨e1, e2⟩ := loP_w (V := V) (V2 := apV V s t c qv) (q := q) (c := k) ap_er (npk V) (fun p hp => ⟨(ap_lt (by omega)).2.2.2, ap_pkT (by omega)⟩)
  constructor
  · conv => lhs; unfold loP
    rw [ap_at.2.2.2, if_neg hq, e1]
  · conv => lhs; unfold hiP
    rw [ap_at.2.2.2, if_neg hq, e2]
theorem ap_loS (hp : npk V < 60) {q k : Nat} (hq : qv ≠ nI q) : ∀ n, loS (apV V s t c qv) q k n = loS V q k n
  | 0 => by unfold loS; rw [ap_np hp, (ap_loP hq).1]
  | n + 1 => by unfold loS; rw [ap_loS hp hq n, ap_ev.1 60 (by decide) (by decide), ap_np hp, ap_hrd hq, ap_no, ap_TV, ap_cS, ap_er]
theorem ap_lo (hp : npk V < 60) {q k : Nat} (hq : qv ≠ nI q) : lo (apV V s t c qv) q k = lo V q k ∧ hi (apV V s t c qv) q k = hi V q k := by
  unfold lo hi
  rw [ap_ns, ap_loS hp hq, ap_np hp, (ap_loP hq).2]
  exact ⟨rfl, rfl⟩
theorem ap_ncl (hp : npk V < 60) {q : Nat} (hq : qv ≠ nI q) : ∀ n, ncl (apV V s t c qv) q n = ncl V q n
  | 0 => rfl
  | n + 1 => by unfold ncl; rw [ap_ncl hp hq n, (ap_lo hp hq).1, (ap_lo hp hq).2]
theorem ap_fP {q : Nat} : fP (apV V s t c qv) q = fP V q := by unfold fP; rw [ap_ev.1 51 (by decide) (by decide)]
theorem ap_szF {q k : Nat} (hf : fP V q < npk V) : szF (apV V s t c qv) q k = szF V q k := by
  unfold szF
  rw [ap_fP, ap_sl, ap_cS, ap_sg (by omega), ap_sP (by omega)]
theorem ap_lwF (hp : npk V < 60) {q : Nat} (hq : qv ≠ nI q) (hf : fP V q < npk V) (n : Nat) : lwF (apV V s t c qv) q n = lwF V q n ∧ hgF (apV V s t c qv) q n = hgF V q n := lwF_w (fun _ => ap_lo hp hq) (fun _ => ap_szF hf) n
end APV
/-- a quake more -/
def opV (V : VV) : VV := vs (vs V 51 (nqk V) (nI (npk V))) 10 20 (nI (nqk V + 1))
section OPV
variable {V : VV}
theorem op_ev : Ev [51] [20] V (opV V) := ((Ev.rf _ _ V).s (by decide) (by decide)).t (by decide)
theorem op_w : EqW V (opV V) := ⟨fun c hc => op_ev.1 c (by simp at hc; omega) (by simp at hc ⊢; omega), fun k hk => op_ev.2 k (by simp at hk ⊢; omega), fun p _ => ⟨by rw [op_ev.1 47 (by decide) (by decide)], by rw [op_ev.1 48 (by decide) (by decide)], by rw [op_ev.1 50 (by decide) (by decide)]⟩⟩
theorem op_20 : opV V 10 20 = nI (nqk V + 1) := vs_eq
theorem op_nq (h : nqk V < 1000) : nqk (opV V) = nqk V + 1 := by
  show (opV V 10 20).toNatClampNeg = _
  rw [op_20]; exact nI_cl (by omega)
theorem op_51 {q : Nat} (h : q ≠ nqk V) : opV V 51 q = V 51 q := by simp [opV, vs, h]
theorem op_51a : opV V 51 (nqk V) = nI (npk V) := by simp [opV, vs]
theorem op_fP {q : Nat} (h : q ≠ nqk V) : fP (opV V) q = fP V q := by unfold fP; rw [op_51 h]
theorem op_szF {q c : Nat} (h : q ≠ nqk V) : szF (opV V) q c = szF V q c := by
  unfold szF sg sP
  rw [op_fP h, op_w.sl, op_w.cS_, op_ev.1 49 (by decide) (by decide), op_ev.1 47 (by decide) (by decide)]
theorem op_lwF {q : Nat} (h : q ≠ nqk V) (n : Nat) : lwF (opV V) q n = lwF V q n ∧ hgF (opV V) q n = hgF V q n := lwF_w (fun _ => ⟨op_w.lo_, op_w.hi_⟩) (fun _ => op_szF h) n
end OPV
end
section
/-! pick: which quake takes it -/
def tkB (V : VV) (s t q : Nat) : Bool := !(hrd V q s (npk V)) && (decide (ncl V q 144 ≠ 0) && decide (ncl (apV V s t 0 (nI q)) q 144 ≠ 0))
def tkF (V : VV) (s t : Nat) : Nat → Nat → Int32
  | 0, _ => -9
  | k + 1, q => if tkB V s t q = true then nI q else tkF V s t k (q + 1)
theorem tkF_sp {V : VV} {s t : Nat} : ∀ k q, tkF V s t k q = -9 ∨ ∃ q2, q ≤ q2 ∧ q2 < q + k ∧ tkF V s t k q = nI q2 ∧ tkB V s t q2 = true
  | 0, q => Or.inl rfl
  | k + 1, q => by
    by_cases e : tkB V s t q = true
    · exact Or.inr ⟨q, by omega, by omega, if_pos e, e⟩
    · rcases tkF_sp (V := V) (s := s) (t := t) k (q + 1) with h | ⟨q2, h1, h2, h3, h4⟩
      · exact Or.inl ((if_neg e).trans h)
      · exact Or.inr ⟨q2, by omega, by omega, (if_neg e).trans h3, h4⟩
section TAK
variable {z : Nat}
theorem ap_fold {V : VV} (h : VI V) {s t q : Nat} (c0 : Int32) (hq : q < nqk V) (hs : s < nst V) (ht : t ≤ nw V) (hp : npk V < 60) (hh : hrd V q s (npk V) = false) {c : Nat} (hc : c < 144) : cLo V (fun i => tkS (apV V s t c0 (nI q)) q i (npk V + 1)) c (nst V) = lo (apV V s t c0 (nI q)) q c ∧ cHi V (fun i => tkS (apV V s t c0 (nI q)) q i (npk V + 1)) c (nst V) = hi (apV V s t c0 (nI q)) q c := by
  have h10 := h.hv.ns.2
  have hno := h.hv.no.2
  have hv := ap_hv (c := c0) (qv := nI q) h.hv hs ht hp
  have hf : ∀ p, p < npk V → V 50 p = nI q → sP V p ≠ s := fun p h1 h2 h3 => by
    rcases tkS_sp (W := V) (q := q) (s := s) (npk V) with ⟨-, -, w⟩ | ⟨-, -, -, -, -, w⟩
    · exact w p h1 ⟨h2, by rw [(h.hv.pk h1).1, h3]⟩
    · rw [w] at hh; exact absurd hh (by decide)
  have hx := fold_eq (W := apV V s t c0 (nI q)) hv (q := q) (c := c) hc (fun p p2 h1 h2 h3 h4 h5 => by
    rw [ap_np hp] at h1 h2
    by_cases e1 : p = npk V
    · by_cases e2 : p2 = npk V
      · rw [e1, e2]
      · exfalso
        rw [e1, ap_sPa (by omega), ap_sP e2] at h5
        rw [(ap_lt e2).2.2.2] at h4
        exact hf p2 (by omega) h4 h5.symm
    · rw [(ap_lt e1).2.2.2] at h3
      by_cases e2 : p2 = npk V
      · exfalso
        rw [e2, ap_sPa (by omega), ap_sP e1] at h5
        exact hf p (by omega) h3 h5
      · rw [(ap_lt e2).2.2.2] at h4
        rw [ap_sP e1, ap_sP e2] at h5
        exact h.un (by omega) (by omega) (h3.trans h4.symm) (by rw [h3]; exact nI_ne9 (by have := h.qk.2; omega)) h5) ⟨npk V, by rw [ap_np hp]; omega, ap_at.2.2.2⟩
  rw [ap_np hp, ap_ns] at hx
  obtain ⟨w1, w2⟩ := cLo_w (V := V) (V2 := apV V s t c0 (nI q)) (hd := fun i => tkS (apV V s t c0 (nI q)) q i (npk V + 1)) (c := c) (ap_ev.1 60 (by decide) (by decide)) (ap_ev.1 41 (by decide) (by decide)) ap_no ap_er ap_sl (nst V)
  rw [← w1, ← w2]
  exact hx
theorem hears8 {g : Hp} {V : VV} (h : IN g V) {s q : Nat} (hq : q < nqk V) (hs : s < nst V) : f_X3_hears z (some (4, q)) (nI s) g = some ((if hrd V q s (npk V) = true then 1 else 0), g) := by
  have h10 := h.v.hv.ns.2
  have r26 : gR g (4, q) 2 = some (26, q) := (h.r.2.2.2.2.1.2.1 q hq).1
  have n26 : gN g (26, q) = 10 := (h.r.2.2.2.2.1.2.1 q hq).2.2.2.1
  simp only [f_X3_hears, gR_X, r26, Option.bind_some, ald_X n26 (by decide) (by decide) (show s < 10 by omega) (by decide), h.qt hq (show s < 10 by omega)]
  rcases tkS_sp (W := V) (q := q) (s := s) (npk V) with ⟨w1, w2, -⟩ | ⟨p, w1, -, -, w4, w5⟩
  · rw [w1, w2, if_pos (by decide)]; exact rtZ_0
  · have := (h.v.hv.pk w1).2.2.2
    have := h.v.hv.no.2
    rw [w4, w5, if_neg (fun w => by have := (iI_eq (y := -1) (by omega) (by omega) (by omega) (by omega)).mp (w.trans (by decide)); omega)]; exact rtZ_1
theorem takes8 (hz : 2000 ≤ z) {g : Hp} {V : VV} (h : IN g V) {s t q : Nat} (hq : q < nqk V) (hs : s < nst V) (ht : t ≤ nw V) (hp : npk V < 60) : ∃ g2, f_X8_takes z (some (9, 0)) (nI q) (nI s) (nI t) g = some ((if tkB V s t q = true then 1 else 0), g2) ∧ Ch [1, 21, 22] g g2 ∧ IN g2 V := by
  have h10 := h.v.hv.ns.2
  have hno := h.v.hv.no.2
  have hn1 := ncl_le V q 144
  have hn2 := ncl_le (apV V s t 0 (nI q)) q 144
  unfold f_X8_takes
  simp only [gr_C h.b1, cRef, Option.bind_some, ick_X, getQ h hq, ckc_X, hears8 h hq hs]
  by_cases hh : hrd V q s (npk V) = true
  · have e : ¬ tkB V s t q = true := by unfold tkB; rw [hh]; simp
    refine ⟨g, ?_, Ch.rf _ _, h⟩
    rw [if_pos hh, if_neg (by decide), if_neg e]; exact rtZ_0
  · have hf : hrd V q s (npk V) = false := by simpa using hh
    rw [if_neg hh, if_pos rfl]
    obtain ⟨g1, a1, a2, a3, a4, a5, a6, a7⟩ := heapOf8 hz h hq
    simp only [a1, Option.bind_some, gI_X, a5]
    by_cases h0 : ncl V q 144 = 0
    · have e : ¬ tkB V s t q = true := by unfold tkB; rw [h0]; simp
      refine ⟨g1, ?_, a2, a3⟩
      rw [h0, if_pos (by decide), if_neg e]; exact rtZ_0
    · rw [if_neg (nI_ne0 (by omega) (by omega))]
      have hfold := fun c (hc : c < 144) => ap_fold (c0 := 0) h.v hq hs ht hp hf hc
      have hv := ap_hv (c := 0) (qv := nI q) h.v.hv hs ht hp
      obtain ⟨g2, b1, b2, b3, b4, b5⟩ := fill8 hz a3 (m := nI s) (t := nI t) (hd := fun i => tkS (apV V s t 0 (nI q)) q i (npk V + 1)) hq (fun i hi => by
        have hb := tkS_bd hv (q := q) (s := i)
        rw [ap_np hp] at hb
        refine ⟨hb.1, hb.2, ?_⟩
        by_cases e : i = s
        · subst e
          rw [if_pos rfl, ap_tkSa (by omega) rfl, nI_iI]
        · have en : nI s ≠ nI i := fun w => e (nI_inj2 w (by omega) (by omega)).symm
          rw [if_neg (fun w => en w.symm), ap_tkS (Or.inr en)]
          exact a3.qt hq (by omega))
      have en : gI g2 (1, 0) 2 = nI (ncl (apV V s t 0 (nI q)) q 144) := by
        rw [b5, ← ccF_ncl, ccF_e 144 (fun c hc => hfold c hc)]
      have i2 := a3.scr b2 b3
      refine ⟨g2, ?_, a2.tr b2, i2⟩
      simp only [b1, Option.bind_some, gr_C i2.b1, cRef, gI_X, en]
      by_cases h1 : ncl (apV V s t 0 (nI q)) q 144 = 0
      · have e : ¬ tkB V s t q = true := by unfold tkB; rw [h1]; simp
        rw [h1, if_pos (by decide), if_neg e]; exact rtZ_0
      · have e : tkB V s t q = true := by unfold tkB; rw [hf]; simp [h0, h1]
        rw [if_neg (fun w => by have := (nI_leI (b := 0) (by omega) (by omega)).mp w; omega), if_pos e]; exact rtZ_1
theorem taker8_L (hz : 2000 ≤ z) {V : VV} {s t : Nat} (hs : s < nst V) (ht : t ≤ nw V) (hp : npk V < 60) : ∀ (k n q : Nat) (g : Hp), IN g V → q + k = nqk V → k < n → ∃ g2, f_X8_takerOf_2_L z (some (9, 0)) (nI s) (nI t) n (nI q) g = some (tkF V s t k q, g2) ∧ Ch [1, 21, 22] g g2 ∧ IN g2 V
  | k, 0, _, _, _, _, h => absurd h (Nat.not_lt_zero _)
  | 0, n + 1, q, g, h, e, _ => by
    have h5 := h.v.qk.2
    refine ⟨g, ?_, Ch.rf _ _, h⟩
    show f_X8_takerOf_2_b z (some (9, 0)) (nI s) (nI t) (f_X8_takerOf_2_L z (some (9, 0)) (nI s) (nI t) n) (nI q) g = some (-9, g)
    unfold f_X8_takerOf_2_b
    simp only [gr_C h.b1, cRef, Option.bind_some, ick_X, sizeJ h.c3]
    rw [if_pos ((nI_leI (by omega) (by omega)).mpr (by omega))]
  | k + 1, n + 1, q, g, h, e, hn => by
    have h5 := h.v.qk.2
    obtain ⟨g1, a1, a2, a3⟩ := takes8 hz h (show q < nqk V by omega) hs ht hp
    show ∃ g2, f_X8_takerOf_2_b z (some (9, 0)) (nI s) (nI t) (f_X8_takerOf_2_L z (some (9, 0)) (nI s) (nI t) n) (nI q) g = some ((if tkB V s t q = true then nI q else tkF V s t k (q + 1)), g2) ∧ _
    unfold f_X8_takerOf_2_b
    simp only [gr_C h.b1, cRef, Option.bind_some, ick_X, sizeJ h.c3]
    rw [if_neg (fun w => by have := (nI_leI (by omega) (by omega)).mp w; omega), a1]
    simp only [Option.bind_some]
    by_cases hb : tkB V s t q = true
    · refine ⟨g1, ?_, a2, a3⟩
      rw [if_pos hb, if_neg (by decide), if_pos hb]
    · rw [if_neg hb, if_pos rfl, if_neg hb, nI_1]
      obtain ⟨g2, b1, b2, b3⟩ := taker8_L hz hs ht hp k n (q + 1) g1 a3 (by omega) (by omega)
      exact ⟨g2, b1, a2.tr b2, b3⟩
end TAK
end
section
/-! pick: the model's search -/
def EqP (V V2 : VV) : Prop := ∀ c k, c ≠ 52 → c ≠ 53 → ¬ ((c = 47 ∨ c = 48 ∨ c = 50) ∧ k = npk V) → V2 c k = V c k
theorem EqP.rf (V : VV) : EqP V V := fun _ _ _ _ _ => rfl
theorem EqP.row {V V2 : VV} (h : EqP V V2) {c : Nat} (h1 : c ≠ 52) (h2 : c ≠ 53) (h3 : c ≠ 47) (h4 : c ≠ 48) (h5 : c ≠ 50) : V2 c = V c := by
  funext k
  exact h c k h1 h2 (fun w => by omega)
theorem EqP.w {V V2 : VV} (h : EqP V V2) : EqW V V2 := by
  refine ⟨fun c hc => h.row ?_ ?_ ?_ ?_ ?_, fun k hk => by rw [h.row (c := 10) (by decide) (by decide) (by decide) (by decide) (by decide)], fun p hp => ⟨h 47 p (by decide) (by decide) (by omega), h 48 p (by decide) (by decide) (by omega), h 50 p (by decide) (by decide) (by omega)⟩⟩ <;> (simp at hc; omega)
theorem EqP.q {V V2 V3 : VV} (h : EqP V V2) (h2 : EqR V2 V3) : EqP V V3 := fun c k h3 h4 h5 => by rw [h2 c h3 h4]; exact h c k h3 h4 h5
theorem EqW.q {V V2 V3 : VV} (h : EqW V V2) (h2 : EqR V2 V3) : EqW V V3 := ⟨fun c hc => by rw [h2 c (by simp at hc; omega) (by simp at hc; omega)]; exact h.1 c hc, fun k hk => by rw [h2 10 (by decide) (by decide)]; exact h.2.1 k hk, fun p hp => by rw [h2 47 (by decide) (by decide), h2 48 (by decide) (by decide), h2 50 (by decide) (by decide)]; exact h.2.2 p hp⟩
def pkV (V V2 : VV) (s t q : Nat) : VV := vs (vs (vs (vs V2 47 (npk V) (nI s)) 48 (npk V) (nI t)) 50 (npk V) (nI q)) 10 15 (nI (npk V + 1))
theorem pkV_w {V V2 : VV} (h : EqP V V2) {s t q : Nat} (hp : npk V < 60) : EqW (apV V s t 0 (nI q)) (pkV V V2 s t q) := by
  refine ⟨fun c hc => ?_, fun k hk => ?_, fun p hq => ?_⟩
  · simp only [List.mem_cons, List.not_mem_nil, or_false] at hc
    rcases hc with rfl | rfl
    · rw [ap_ev.1 41 (by decide) (by decide)]
      unfold pkV
      rw [vs_ne (by decide), vs_ne (by decide), vs_ne (by decide), vs_ne (by decide)]
      exact h.row (by decide) (by decide) (by decide) (by decide) (by decide)
    · rw [ap_ev.1 60 (by decide) (by decide)]
      unfold pkV
      rw [vs_ne (by decide), vs_ne (by decide), vs_ne (by decide), vs_ne (by decide)]
      exact h.row (by decide) (by decide) (by decide) (by decide) (by decide)
  · by_cases e : k = 15
    · subst e
      rw [ap_15]; exact vs_eq
    · rw [ap_ev.2 k (by simp [e])]
      unfold pkV
      rw [vs_nk e, vs_ne (by decide), vs_ne (by decide), vs_ne (by decide), h.row (c := 10) (by decide) (by decide) (by decide) (by decide) (by decide)]
  · rw [ap_np hp] at hq
    by_cases e : p = npk V
    · subst e
      rw [ap_at.1, ap_at.2.1, ap_at.2.2.2]
      simp [pkV, vs]
    · obtain ⟨a1, a2, a3, a4⟩ := ap_lt (V := V) (s := s) (t := t) (c := 0) (qv := nI q) e
      rw [a1, a2, a4]
      simp only [pkV, vs]
      simp [e]
      exact ⟨h 47 p (by decide) (by decide) (by omega), h 48 p (by decide) (by decide) (by omega), h 50 p (by decide) (by decide) (by omega)⟩
theorem pkV_b {V V2 V3 : VV} (h : EqP V V2) (hV : V 10 15 = nI (npk V)) {s t q : Nat} (h2 : EqR (pkV V V2 s t q) V3) : EqP V (vs V3 10 15 (nI (npk V))) := fun c k h3 h4 h5 => by
  by_cases e : c = 10 ∧ k = 15
  · rw [e.1, e.2, vs_eq, hV]
  · have e1 : vs V3 10 15 (nI (npk V)) c k = V3 c k := by simp only [vs, if_neg e]
    rw [e1, h2 c h3 h4]
    have w1 : ¬ (c = 50 ∧ k = npk V) := fun w => h5 ⟨Or.inr (Or.inr w.1), w.2⟩
    have w2 : ¬ (c = 48 ∧ k = npk V) := fun w => h5 ⟨Or.inr (Or.inl w.1), w.2⟩
    have w3 : ¬ (c = 47 ∧ k = npk V) := fun w => h5 ⟨Or.inl w.1, w.2⟩
    simp only [pkV, vs, if_neg e, if_neg w1, if_neg w2, if_neg w3]
    exact h c k h3 h4 h5
section TAM
variable {z : Nat}
theorem nI_le0 {n : Nat} (h : n < 1000000) : nI n ≤ 0 ↔ n = 0 := by
  have := nI_leI (a := n) (b := 0) (by omega) (by omega)
  rw [show (0 : Int32) = nI 0 from rfl, this]
  omega
end TAM
end
section
/-! pick: the table with a pick more is sound -/
theorem ap_vi {U : VV} {s t x : Nat} {qv : Int32} (hv : HV U) (tw : U 10 9 = nI (ntw U) ∧ ntw U ≤ 6) (qk : U 10 20 = nI (nqk U) ∧ nqk U ≤ 5) (ms : U 10 24 = nI (nms U)) (sz : ∀ i, i < nst U → U 43 i = -9 ∨ ∃ m, m ≤ 30 ∧ U 43 i = nI m) (to : ∀ i, i < ntw U → U 42 i = nI (cT U i) ∧ cT U i < 144) (pq : ∀ p, p < npk U → U 49 p = nI (sg U p) ∧ 1 ≤ sg U p ∧ sg U p ≤ 1000000 ∧ (U 50 p = -9 ∨ ∃ q, q < nqk U ∧ U 50 p = nI q)) (fp : ∀ q, q < nqk U → (∃ p, p < npk U ∧ U 51 q = nI p ∧ U 50 p = nI q) ∨ (U 51 q = nI (npk U) ∧ qv = nI q)) (un : ∀ p p2, p < npk U → p2 < npk U → U 50 p = U 50 p2 → U 50 p ≠ -9 → sP U p = sP U p2 → p = p2) (tt : ∀ q t k, q < 5 → t < 6 → 1 ≤ k → k < 5 → U 55 (30 * q + 5 * t + k) = 0 ∨ U 55 (30 * q + 5 * t + k) = 1 ∨ U 55 (30 * q + 5 * t + k) = 2) (hs : s < nst U) (ht : t ≤ nw U) (hp : npk U < 60) (h1 : 1 ≤ x) (h2 : x ≤ 1000000) (hq : qv = -9 ∨ ∃ q, q < nqk U ∧ qv = nI q) (hu : qv ≠ -9 → ∀ p, p < npk U → U 50 p = qv → sP U p ≠ s) : VI (apV U s t (nI x) qv) := by
  have h10 := hv.ns.2
  refine ⟨ap_hv hv hs ht hp, ?_, ?_, ?_, ?_, ?_, ?_, ?_, ?_, ?_⟩
  · rw [ap_nt, ap_ev.2 9 (by decide)]; exact tw
  · rw [ap_nq, ap_ev.2 20 (by decide)]; exact qk
  · rw [ap_nm, ap_ev.2 24 (by decide)]; exact ms
  · intro i hi
    rw [ap_ns] at hi
    rw [ap_ev.1 43 (by decide) (by decide)]; exact sz i hi
  · intro i hi
    rw [ap_nt] at hi
    have e : cT (apV U s t (nI x) qv) i = cT U i := by unfold cT; rw [ap_ev.1 42 (by decide) (by decide)]
    rw [e, ap_ev.1 42 (by decide) (by decide)]; exact to i hi
  · intro p hp2
    rw [ap_np hp] at hp2
    rw [ap_nq]
    by_cases e : p = npk U
    · subst e
      have e1 : sg (apV U s t (nI x) qv) (npk U) = x := by unfold sg; rw [ap_at.2.2.1]; exact nI_cl (by omega)
      rw [e1, ap_at.2.2.1, ap_at.2.2.2]
      exact ⟨rfl, h1, h2, hq⟩
    · rw [ap_sg e, (ap_lt e).2.2.1, (ap_lt e).2.2.2]
      exact pq p (by omega)
  · intro q hq2
    rw [ap_nq] at hq2
    rw [ap_np hp, ap_ev.1 51 (by decide) (by decide)]
    rcases fp q hq2 with ⟨p, a1, a2, a3⟩ | ⟨a1, a2⟩
    · exact ⟨p, by omega, a2, by rw [(ap_lt (by omega)).2.2.2]; exact a3⟩
    · exact ⟨npk U, by omega, a1, by rw [ap_at.2.2.2]; exact a2⟩
  · intro p p2 hp1 hp2 e1 e2 e3
    rw [ap_np hp] at hp1 hp2
    by_cases c1 : p = npk U
    · by_cases c2 : p2 = npk U
      · rw [c1, c2]
      · exfalso
        rw [c1, ap_at.2.2.2, (ap_lt c2).2.2.2] at e1
        rw [c1, ap_at.2.2.2] at e2
        rw [c1, ap_sPa (by omega), ap_sP c2] at e3
        exact hu e2 p2 (by omega) e1.symm e3.symm
    · rw [(ap_lt c1).2.2.2] at e1 e2
      by_cases c2 : p2 = npk U
      · exfalso
        rw [c2, ap_at.2.2.2] at e1
        rw [c2, ap_sPa (by omega), ap_sP c1] at e3
        exact hu (e1 ▸ e2) p (by omega) e1 e3
      · rw [(ap_lt c2).2.2.2] at e1
        rw [ap_sP c1, ap_sP c2] at e3
        exact un p p2 (by omega) (by omega) e1 e2 e3
  · intro q i k a1 a2 a3 a4
    rw [ap_ev.1 55 (by decide) (by decide)]; exact tt q i k a1 a2 a3 a4
theorem ap_vf {U : VV} {s t : Nat} {c qv : Int32} (h : VF U) : VF (apV U s t c qv) := h.cg ap_ev (by decide) (by decide)
theorem op_vf {V : VV} (h : VF V) (hq : nqk V < 1000) : VF (opV V) := by
  unfold VF
  rw [op_nq hq, nst_e (op_ev.2 6 (by decide)), op_ev.1 60 (by decide) (by decide), op_ev.1 43 (by decide) (by decide), op_ev.1 44 (by decide) (by decide), op_ev.1 55 (by decide) (by decide)]
  exact ⟨h.1, fun q h3 h4 => h.2 q (by omega) h4⟩
theorem cI0 {V2 : VV} {g2 : Hp} (h0 : gI g2 (0, 0) 2 = nI (nst V2) ∧ gI g2 (0, 1) 2 = nI (ntw V2) ∧ gI g2 (0, 2) 2 = nI (npk V2) ∧ gI g2 (0, 3) 2 = nI (nqk V2) ∧ gI g2 (0, 4) 2 = nI (kp V2)) {i k : Nat} {v : Int32} (hk : cI V2 (0, i) k = some v) : gI g2 (0, i) k = v := by
  obtain ⟨z0, z1, z2, z3, z4⟩ := h0
  simp only [cI, if_true] at hk
  by_cases hk2 : k = 2
  · subst hk2
    simp only [if_true] at hk
    by_cases i0 : i = 0
    · subst i0; simp at hk; rw [z0]; exact hk
    by_cases i1 : i = 1
    · subst i1; simp at hk; rw [z1]; exact hk
    by_cases i2 : i = 2
    · subst i2; simp at hk; rw [z2]; exact hk
    by_cases i3 : i = 3
    · subst i3; simp at hk; rw [z3]; exact hk
    by_cases i4 : i = 4
    · subst i4; simp at hk; rw [z4]; exact hk
    simp [i0, i1, i2, i3, i4] at hk
  · simp [hk2] at hk
section PIO
variable {z : Nat}
theorem pickObj {g : Hp} {n : Nat} (hs : gI g (0, 2) 2 = nI n) (hl : LR g.1 2 3 n) (hn : n ≤ 400) (a b c d e : Int32) : ∃ ga g2, f_X2_init z (some (3, n)) a b c d e (newN g (3, n) 0 5) = some ((), ga) ∧ f_Jx4a65c_add_9ea2d z (some (0, 2)) (some (3, n)) ga = some (1, g2) ∧ gI g2 (0, 2) 2 = nI (n + 1) ∧ LR g2.1 2 3 (n + 1) ∧ Fr (fun m => m = (3, n) ∨ m = (0, 2) ∨ m.1 = 14) g g2 ∧ (gI g2 (3, n) 0 = a ∧ gI g2 (3, n) 1 = b ∧ gI g2 (3, n) 2 = c ∧ gI g2 (3, n) 3 = d ∧ gI g2 (3, n) 4 = e) ∧ gc g2 ≤ gc g + 2 ∧ gs g2 ≤ gs g + 825 := by
  have F1 : Fr (fun m => m = (3, n)) g (setI (setI (setI (setI (setI (newN g (3, n) 0 5) (3, n) 0 a) (3, n) 1 b) (3, n) 2 c) (3, n) 3 d) (3, n) 4 e) := (((((Fr.nN (g := g) (n := (3, n)) (l := 0) (s := 5)).tr (Fr.sI (k := 0) (v := a))).tr (Fr.sI (k := 1) (v := b))).tr (Fr.sI (k := 2) (v := c))).tr (Fr.sI (k := 3) (v := d))).tr (Fr.sI (k := 4) (v := e)) |>.mono (fun m hm => by rcases hm with ((((w | w) | w) | w) | w) | w <;> exact w)
  generalize hga : setI (setI (setI (setI (setI (newN g (3, n) 0 5) (3, n) 0 a) (3, n) 1 b) (3, n) 2 c) (3, n) 3 d) (3, n) 4 e = ga at F1
  have hgc : gc ga = gc g + 1 ∧ gs ga = gs g + 5 := by rw [← hga]; exact ⟨rfl, rfl⟩
  have hgv : gI ga (3, n) 0 = a ∧ gI ga (3, n) 1 = b ∧ gI ga (3, n) 2 = c ∧ gI ga (3, n) 3 = d ∧ gI ga (3, n) 4 = e := by rw [← hga]; simp [gI_set]
  have A2 : Fr (PC 5 [3]) g ga := F1.mono (fun m hm => Or.inr (by rw [hm]; simp))
  have s1 : gI ga (0, 2) 2 = nI n := (congrFun (A2 (0, 2) (PC.n0 (by decide) (by decide))).1 2).trans hs
  obtain ⟨g2, b1, b2, b3, b4, b5, b6⟩ := addJ (z := z) s1 (LR.fr A2 (by decide) (by decide) (by decide) hl) (by decide) hn (by decide)
  have e3 : gI g2 (3, n) = gI ga (3, n) := (b4 (3, n) (fun w => by rcases w with w | w <;> simp at w)).1
  refine ⟨ga, g2, ?_, b1, b2, b3, (F1.tr b4).mono (fun m hm => hm), by rw [e3]; exact hgv, by omega, by omega⟩
  simp only [f_X2_init, nnu, pI_X, Option.bind_some, hga]
end PIO
/-- all but the new pick is as the new table wants it -/
def PU (gx : Hp) (U A : VV) : Prop := SM gx ∧ RC gx.1 U ∧ HC gx A ∧ (gI gx (0, 0) 2 = nI (nst U) ∧ gI gx (0, 1) 2 = nI (ntw U) ∧ gI gx (0, 2) 2 = nI (npk U) ∧ gI gx (0, 3) 2 = nI (nqk U) ∧ gI gx (0, 4) 2 = nI (kp U)) ∧ (∀ n k v, Z0 n → n.1 ≠ 0 → n.1 ≠ 3 → cI A n k = some v → gI gx n k = v) ∧ ∀ i k v, i < npk U → cI A (3, i) k = some v → gI gx (3, i) k = v
section PIE
variable {z : Nat}
theorem pickEnd {gx : Hp} {U : VV} {s t : Nat} {c d qv : Int32} (h : PU gx U (apV U s t c qv)) (hp : npk U < 60) (hA : VI (apV U s t c qv)) (hF : VF (apV U s t c qv)) (hcb : gc gx + 2 ≤ 100 + 10 * cnt (apV U s t c qv) ∧ gs gx + 825 ≤ 10000 + 1000 * cnt (apV U s t c qv)) (hd : kdF (apV U s t c qv) (npk U) = d) : ∃ ga g2, f_X2_init z (some (3, npk U)) (nI s) (nI t) c d qv (newN gx (3, npk U) 0 5) = some ((), ga) ∧ f_Jx4a65c_add_9ea2d z (some (0, 2)) (some (3, npk U)) ga = some (1, g2) ∧ Fr (fun m => m = (3, npk U) ∨ m = (0, 2) ∨ m.1 = 14) gx g2 ∧ IN g2 (apV U s t c qv) := by
  obtain ⟨h1, h2, h3, h4, h5, h6⟩ := h
  obtain ⟨ga, g2, a1, a2, a3, a4, a5, a6, a7, a8⟩ := pickObj (z := z) h4.2.2.1 h2.2.2.2.1.1 (by omega) (nI s) (nI t) c d qv
  have F : Fr (PC 2 [3, 14]) gx g2 := a5.mono (fun m hm => by
    rcases hm with e | e | e
    · exact Or.inr (by rw [e]; simp)
    · exact Or.inl e
    · exact Or.inr (by rw [e]; simp))
  have ek : kp (apV U s t c qv) = kp U := kp_e (ap_ev.2 24 (by decide))
  have f0 : ∀ j, j ≠ 2 → gI g2 (0, j) 2 = gI gx (0, j) 2 := fun j hj => congrFun (F (0, j) (PC.n0 (by decide) hj)).1 2
  refine ⟨ga, g2, a1, a2, a5, trivial, fr_SM F (by decide) h1, hA, ⟨RC1.fr F (by decide) h2.1, ?_, ?_, ?_, ?_, ?_⟩, ?_, ?_, ?_, hF⟩
  · rw [ap_ns]; exact RCs.fr F (by decide) (by decide) h2.2.1
  · rw [ap_nt]; exact RCt.fr F (by decide) (by decide) h2.2.2.1
  · rw [ap_np hp]
    refine ⟨a4, fun i hi q => ?_⟩
    have e2 := (a5 (3, i) (fun w => by rcases w with w | w | w <;> simp at w; omega)).2.2.2.mp q
    exact h2.2.2.2.1.2 i (by omega) e2
  · rw [ap_nq]; exact RCq.fr F (by decide) (by decide) h2.2.2.2.2.1
  · rw [ek]; exact RCm.fr F (by decide) (by decide) h2.2.2.2.2.2
  · intro n k v hz hk
    obtain ⟨cc, i⟩ := n
    by_cases c0 : cc = 0
    · subst c0
      refine cI0 (V2 := apV U s t c qv) ⟨?_, ?_, ?_, ?_, ?_⟩ hk
      · rw [ap_ns, f0 0 (by decide)]; exact h4.1
      · rw [ap_nt, f0 1 (by decide)]; exact h4.2.1
      · rw [ap_np hp]; exact a3
      · rw [ap_nq, f0 3 (by decide)]; exact h4.2.2.2.1
      · rw [ek, f0 4 (by decide)]; exact h4.2.2.2.2
    by_cases c3 : cc = 3
    · subst c3
      by_cases e : i = npk U
      · subst e
        simp only [cI, ap_np hp] at hk
        simp at hk
        obtain ⟨w0, w1, w2, w3, w4⟩ := a6
        by_cases k0 : k = 0
        · subst k0; simp [ap_at.1] at hk; rw [w0]; exact hk
        by_cases k1 : k = 1
        · subst k1; simp [ap_at.2.1] at hk; rw [w1]; exact hk
        by_cases k2 : k = 2
        · subst k2; simp [ap_at.2.2.1] at hk; rw [w2]; exact hk
        by_cases k3 : k = 3
        · subst k3; simp [hd] at hk; rw [w3]; exact hk
        by_cases k4 : k = 4
        · subst k4; simp [ap_at.2.2.2] at hk; rw [w4]; exact hk
        simp [k0, k1, k2, k3, k4] at hk
      · have hi : i < npk U := by
          simp only [cI, ap_np hp] at hk
          simp at hk
          omega
        rw [(a5 (3, i) (fun w => by rcases w with w | w | w <;> simp at w; omega)).1]
        exact h6 i k v hi hk
    · have c14 : cc ≠ 14 := fun w => by subst w; exact absurd (show 14 ∈ [0, 2, 3, 4, 5, 6, 7, 9, 20, 23, 24, 25, 26, 27, 28] from cI_cls hk) (by decide)
      rw [fr_I F (by simp [c3, c14]) c0]
      exact h5 (cc, i) k v hz c0 c3 hk
  · have e1 : ∀ k, gI g2 (1, 0) k = gI gx (1, 0) k := fun k => fr_I F (by decide) (by decide)
    have e2 : ∀ k, gI g2 (21, 0) k = gI gx (21, 0) k := fun k => fr_I F (by decide) (by decide)
    have e3 : ∀ k, gI g2 (22, 0) k = gI gx (22, 0) k := fun k => fr_I F (by decide) (by decide)
    unfold HC at h3 ⊢
    simp only [e1, e2, e3]
    exact h3
  · unfold CB
    omega
end PIE
end
section
/-! pick: joined, loose -/
theorem ap_kd {V : VV} {s t i : Nat} {c qv : Int32} (hi : i ≠ npk V) : kdF (apV V s t c qv) i = kdF V i := by
  unfold kdF
  rw [(ap_lt hi).2.2.2, ap_ev.1 51 (by decide) (by decide)]
theorem ap_c3 {V : VV} {s t i k : Nat} {c qv : Int32} (hp : npk V < 60) (hi : i < npk V) : cI (apV V s t c qv) (3, i) k = cI V (3, i) k := by
  obtain ⟨a1, a2, a3, a4⟩ := ap_lt (V := V) (s := s) (t := t) (c := c) (qv := qv) (show i ≠ npk V by omega)
  simp only [cI, ap_np hp, a1, a2, a3, a4, ap_kd (show i ≠ npk V by omega)]
  simp [hi, show i < npk V + 1 by omega]
theorem HC.ap {g : Hp} {V : VV} (h : HC g V) (hv : VI V) {s t : Nat} {c qv : Int32} (hp : npk V < 60) (hq : ∀ q, q < nqk V → qv ≠ nI q) : HC g (apV V s t c qv) := by
  rcases h with h | ⟨q, h1, h2, h3, h4, h5, h6⟩
  · exact Or.inl h
  · have hn := hq q h1
    have hl := ap_lwF (s := s) (t := t) (c := c) hp hn (hv.fp h1).1 144
    refine Or.inr ⟨q, by rw [ap_nq]; exact h1, h2, fun c hc => ?_, by rw [ap_ncl hp hn]; exact h4, by rw [hl.1]; exact h5, by rw [hl.2]; exact h6⟩
    rw [(ap_lo hp hn).1, (ap_lo hp hn).2]; exact h3 c hc
theorem PU.of {g0 gx : Hp} {V : VV} {s t : Nat} {c qv : Int32} (h : IN g0 V) (hch : Ch [1, 4, 26] g0 gx) (hp : npk V < 60) (h4 : ∀ i, i < nqk V → gI gx (4, i) 0 = gI g0 (4, i) 0 ∧ gI gx (4, i) 1 = gI g0 (4, i) 1 ∧ gI gx (4, i) 3 = nI (cntF (apV V s t c qv) i (npk V + 1))) (h26 : ∀ i k, i < nqk V → k < 10 → gI gx (26, i) k = iI (tkS (apV V s t c qv) i k (npk V + 1))) (hH : HC gx (apV V s t c qv)) : PU gx V (apV V s t c qv) := by
  refine ⟨h.sm1 hch, by rw [hch.1]; exact h.r, hH, ⟨(hch.i (by simp)).trans h.c0, (hch.i (by simp)).trans h.c1, (hch.i (by simp)).trans h.c2, (hch.i (by simp)).trans h.c3, (hch.i (by simp)).trans h.c4⟩, fun n k v hz c0 c3 hk => ?_, fun i k v hi hk => ?_⟩
  · obtain ⟨cc, i⟩ := n
    by_cases c4 : cc = 4
    · subst c4
      simp only [cI, ap_nq, ap_np hp] at hk
      simp at hk
      obtain ⟨hi, hk⟩ := hk
      obtain ⟨w0, w1, w3⟩ := h4 i hi
      have hf := (h.v.fp hi).1
      by_cases k0 : k = 0
      · subst k0
        rw [w0, h.q0 hi]
        simp [ap_fP, ap_sP (show fP V i ≠ npk V by omega)] at hk
        exact hk
      by_cases k1 : k = 1
      · subst k1
        rw [w1, h.q1 hi]
        simp [ap_fP, ap_sg (show fP V i ≠ npk V by omega)] at hk
        exact hk
      by_cases k3 : k = 3
      · subst k3
        rw [w3]
        simp at hk
        exact hk
      simp [k0, k1, k3] at hk
    by_cases c26 : cc = 26
    · subst c26
      simp only [cI, ap_nq, ap_np hp] at hk
      simp at hk
      rw [h26 i k hk.1.1 hk.1.2]; exact hk.2
    by_cases c1 : cc = 1
    · subst c1
      exact absurd (show 1 ∈ [0, 2, 3, 4, 5, 6, 7, 9, 20, 23, 24, 25, 26, 27, 28] from cI_cls hk) (by decide)
    · rw [hch.i (by simp [c4, c26, c1])]
      rw [cI_ev ap_ev (C := [0, 3, 4, 26]) (by decide) (n := (cc, i)) (by simp [c4, c26] at c0 c3 ⊢; exact ⟨c0, c3⟩)] at hk
      exact h.i hk hz
  · rw [hch.i (by simp)]
    rw [ap_c3 hp hi] at hk
    exact h.i hk
theorem PU.loose {g0 : Hp} {V : VV} {s t : Nat} {c : Int32} (h : IN g0 V) (hp : npk V < 60) : PU g0 V (apV V s t c (-9)) := by
  have hq : ∀ q, q < nqk V → (-9 : Int32) ≠ nI q := fun q hq w => nI_ne9 (by have := h.v.qk.2; omega) w.symm
  exact PU.of h (Ch.rf _ _) hp (fun i hi => ⟨rfl, rfl, by rw [ap_cnt (hq i hi)]; exact h.q3 hi⟩) (fun i k hi hk => by rw [ap_tkS (Or.inl (hq i hi))]; exact h.qt hi hk) (h.h.ap h.v hp hq)
def jnG (g : Hp) (V : VV) (s t q : Nat) : Hp := setI (setI (setI g (26, q) s (nI t)) (4, q) 3 (nI (cntF V q (npk V) + 1))) (1, 0) 5 (-9)
theorem jn_ch {g : Hp} {V : VV} {s t q : Nat} : Ch [1, 4, 26] g (jnG g V s t q) := ((Ch.set (by simp)).tr (Ch.set (by simp))).tr (Ch.set (by simp))
theorem PU.joined {g0 : Hp} {V : VV} {s t q : Nat} {c : Int32} (h : IN g0 V) (hp : npk V < 60) (hq : q < nqk V) (hs : s < nst V) (ht : t ≤ nw V) : PU (jnG g0 V s t q) V (apV V s t c (nI q)) := by
  have h5 := h.v.qk.2
  have hno := h.v.hv.no.2
  have h10 := h.v.hv.ns.2
  refine PU.of h jn_ch hp (fun i hi => ?_) (fun i k hi hk => ?_) (Or.inl ?_)
  · unfold jnG
    refine ⟨?_, ?_, ?_⟩
    · rw [gI_set, if_neg (by simp), gI_set, if_neg (by simp), gI_set, if_neg (by simp)]
    · rw [gI_set, if_neg (by simp), gI_set, if_neg (by simp), gI_set, if_neg (by simp)]
    · rw [gI_set, if_neg (by simp)]
      by_cases e : i = q
      · subst e
        rw [gI_set, if_pos ⟨rfl, rfl⟩, ap_cnta rfl]
      · rw [gI_set, if_neg (by simp [e]), gI_set, if_neg (by simp), ap_cnt (fun w => e (nI_inj2 w (by omega) (by omega)).symm)]
        exact h.q3 hi
  · unfold jnG
    rw [gI_set, if_neg (by simp), gI_set, if_neg (by simp)]
    by_cases e : i = q ∧ k = s
    · obtain ⟨rfl, rfl⟩ := e
      rw [gI_set, if_pos ⟨rfl, rfl⟩, ap_tkSa (by omega) rfl, nI_iI]
    · rw [gI_set, if_neg (fun w => e ⟨congrArg Prod.snd w.1, w.2⟩)]
      have hor : nI q ≠ nI i ∨ nI s ≠ nI k := by
        by_cases e1 : i = q
        · exact Or.inr (fun w => e ⟨e1, (nI_inj2 w (by omega) (by omega)).symm⟩)
        · exact Or.inl (fun w => e1 (nI_inj2 w (by omega) (by omega)).symm)
      rw [ap_tkS hor]
      exact h.qt hi hk
  · unfold jnG
    rw [gI_set, if_pos ⟨rfl, rfl⟩]
section JNG
variable {z : Nat}
theorem hear8 {g : Hp} {V : VV} (h : IN g V) {s t q : Nat} (hq : q < nqk V) (hs : s < nst V) : f_X3_hear z (some (4, q)) (nI s) (nI t) g = some ((), setI (setI g (26, q) s (nI t)) (4, q) 3 (nI (cntF V q (npk V) + 1))) := by
  have h10 := h.v.hv.ns.2
  have r26 : gR g (4, q) 2 = some (26, q) := (h.r.2.2.2.2.1.2.1 q hq).1
  have n26 : gN g (26, q) = 10 := (h.r.2.2.2.2.1.2.1 q hq).2.2.2.1
  have e : gI (setI g (26, q) s (nI t)) (4, q) 3 = nI (cntF V q (npk V)) := by rw [gI_set, if_neg (by simp)]; exact h.q3 hq
  simp only [f_X3_hear, gR_X, r26, Option.bind_some, ast_X n26 (by decide) (by decide) (show s < 10 by omega) (by decide), gI_X, pI_X, e, nI_1]
end JNG
end
section
/-! pick: a quake is opened -/
section QOB
variable {z : Nat}
theorem mkI_X {g : Hp} {n : Nm} {l : Nat} (h1 : 20 ≤ n.1) (h2 : n.1 < 60) (hn : n ∉ gL g) (hl : l ≤ 100000) : mkI n (nI l) g = some (some n, newN g n l l) := by
  have e : (nI l).toNatClampNeg = l := nI_cl (by omega)
  have : (20 ≤ n.1 ∧ n.1 < 60) ∧ n ∉ gL g ∧ ¬ nI l < 0 ∧ (nI l).toNatClampNeg ≤ 100000 := ⟨⟨h1, h2⟩, hn, by rw [show (0 : Int32) = nI 0 from rfl, nI_ltI (by omega) (by omega)]; omega, by omega⟩
  unfold mkI
  refine (if_pos this).trans ?_
  rw [e]
theorem ini_L {n : Nat} (p1 p2 p3 : Int32) : ∀ (m v : Nat) (g : Hp), gR g (4, n) 2 = some (26, n) → gN g (26, n) = 10 → v ≤ 10 → 10 - v < m → (∀ k, k < v → gI g (26, n) k = -1) → ∃ g2, f_X3_init_41_L z (some (4, n)) p1 p2 p3 m (nI v) g = some (10, g2) ∧ g2.1 = g.1 ∧ g2.2.2 = g.2.2 ∧ (∀ nm, nm ≠ (26, n) → gI g2 nm = gI g nm) ∧ ∀ k, k < 10 → gI g2 (26, n) k = -1
  | 0, v, _, _, _, _, h, _ => absurd h (Nat.not_lt_zero _)
  | m + 1, v, g, h1, h2, h3, h4, h5 => by
    show ∃ g2, f_X3_init_41_b z (some (4, n)) p1 p2 p3 (f_X3_init_41_L z (some (4, n)) p1 p2 p3 m) (nI v) g = some (10, g2) ∧ _
    unfold f_X3_init_41_b
    have ea : alen (some (26, n)) g = some (nI 10) := by
      have n17 : ¬ (26, n) = (17, 0) := fun w => by have := congrArg Prod.fst w; simp at this
      have h20 : (12 ≤ 26 ∧ 26 < 17) ∨ 20 ≤ 26 := Or.inr (by decide)
      simp only [alen, if_neg n17, if_pos h20, h2]; rfl
    simp only [gR_X, h1, Option.bind_some, ea]
    by_cases he : v = 10
    · subst he
      rw [if_pos ((nI_leI (by omega) (by omega)).mpr (Nat.le_refl _))]
      exact ⟨g, rfl, rfl, rfl, fun _ _ => rfl, h5⟩
    · rw [if_neg (fun w => by have := (nI_leI (by omega) (by omega)).mp w; omega)]
      simp only [ast_X h2 (by decide) (by decide) (show v < 10 by omega) (by decide), Option.bind_some, nI_1]
      obtain ⟨g2, a1, a2, a3, a4, a5⟩ := ini_L p1 p2 p3 m (v + 1) (setI g (26, n) v (-1)) h1 h2 (by omega) (by omega) (fun k hk => by
        by_cases e : k = v
        · rw [gI_set, if_pos ⟨rfl, e⟩]
        · rw [gI_set, if_neg (fun w => e w.2)]; exact h5 k (by omega))
      refine ⟨g2, a1, a2, a3, fun nm hnm => ?_, a5⟩
      rw [a4 nm hnm]
      funext j
      rw [gI_set, if_neg (fun w => hnm w.1)]
theorem quakeIni (hz : 2000 ≤ z) {g : Hp} {n : Nat} (h26 : (26, n) ∉ gL g) (h27 : (27, n) ∉ gL g) (h28 : (28, n) ∉ gL g) {s t x : Nat} (hs : s < 10) : ∃ ga, f_X3_init z (some (4, n)) (nI s) (nI t) (nI x) (newN g (4, n) 0 6) = some ((), ga) ∧ Fr (fun m => m = (4, n) ∨ m = (26, n) ∨ m = (27, n) ∨ m = (28, n)) g ga ∧ (gI ga (4, n) 0 = nI s ∧ gI ga (4, n) 1 = nI x ∧ gI ga (4, n) 3 = 1) ∧ (∀ k, k < 10 → gI ga (26, n) k = if k = s then nI t else -1) ∧ (∀ k, gI ga (27, n) k = 0) ∧ (∀ k, gI ga (28, n) k = 0) ∧ (gR ga (4, n) 2 = some (26, n) ∧ gR ga (4, n) 4 = some (27, n) ∧ gR ga (4, n) 5 = some (28, n) ∧ gN ga (26, n) = 10 ∧ gN ga (27, n) = 6 ∧ gN ga (28, n) = 6) ∧ gc ga = gc g + 4 ∧ gs ga = gs g + 28 := by
  have m26 : (26, n) ∉ gL (newN g (4, n) 0 6) := by
    show (26, n) ∉ gL g ++ [(4, n)]
    simp [h26]
  have m27 : (27, n) ∉ gL (setR (newN (newN g (4, n) 0 6) (26, n) 10 10) (4, n) 2 (some (26, n))) := by
    show (27, n) ∉ (gL g ++ [(4, n)]) ++ [(26, n)]
    simp [h27]
  have m28 : (28, n) ∉ gL (setR (newN (setR (newN (newN g (4, n) 0 6) (26, n) 10 10) (4, n) 2 (some (26, n))) (27, n) 6 6) (4, n) 4 (some (27, n))) := by
    show (28, n) ∉ ((gL g ++ [(4, n)]) ++ [(26, n)]) ++ [(27, n)]
    simp [h28]
  have i26 := mkI_X (n := (26, n)) (l := 10) (show 20 ≤ 26 by decide) (show 26 < 60 by decide) m26 (by decide)
  have i27 := mkI_X (n := (27, n)) (l := 6) (show 20 ≤ 27 by decide) (show 27 < 60 by decide) m27 (by decide)
  have i28 := mkI_X (n := (28, n)) (l := 6) (show 20 ≤ 28 by decide) (show 28 < 60 by decide) m28 (by decide)
  have F1 : Fr (fun m => m = (4, n) ∨ m = (26, n) ∨ m = (27, n) ∨ m = (28, n)) g (setI (setI (setR (newN (setR (newN (setR (newN (newN g (4, n) 0 6) (26, n) 10 10) (4, n) 2 (some (26, n))) (27, n) 6 6) (4, n) 4 (some (27, n))) (28, n) 6 6) (4, n) 5 (some (28, n))) (4, n) 0 (nI s)) (4, n) 1 (nI x)) := by
    refine (((((((((Fr.nN (g := g) (n := (4, n)) (l := 0) (s := 6)).tr (Fr.nN (n := (26, n)) (l := 10) (s := 10))).tr Fr.sR).tr (Fr.nN (n := (27, n)) (l := 6) (s := 6))).tr Fr.sR).tr (Fr.nN (n := (28, n)) (l := 6) (s := 6))).tr Fr.sR).tr Fr.sI).tr Fr.sI).mono (fun m hm => ?_)
    rcases hm with (((((((hm | hm) | hm) | hm) | hm) | hm) | hm) | hm) | hm
    · exact Or.inl hm
    · exact Or.inr (Or.inl hm)
    · exact Or.inl hm
    · exact Or.inr (Or.inr (Or.inl hm))
    · exact Or.inl hm
    · exact Or.inr (Or.inr (Or.inr hm))
    · exact Or.inl hm
    · exact Or.inl hm
    · exact Or.inl hm
  have hv1 : ∀ gA, gA = (setI (setI (setR (newN (setR (newN (setR (newN (newN g (4, n) 0 6) (26, n) 10 10) (4, n) 2 (some (26, n))) (27, n) 6 6) (4, n) 4 (some (27, n))) (28, n) 6 6) (4, n) 5 (some (28, n))) (4, n) 0 (nI s)) (4, n) 1 (nI x)) → gI gA (4, n) 0 = nI s ∧ gI gA (4, n) 1 = nI x ∧ gI gA (4, n) 3 = 0 ∧ (∀ k, gI gA (27, n) k = 0) ∧ (∀ k, gI gA (28, n) k = 0) ∧ gR gA (4, n) 2 = some (26, n) ∧ gR gA (4, n) 4 = some (27, n) ∧ gR gA (4, n) 5 = some (28, n) ∧ gN gA (26, n) = 10 ∧ gN gA (27, n) = 6 ∧ gN gA (28, n) = 6 ∧ gc gA = gc g + 4 ∧ gs gA = gs g + 28 := fun gA e => by
    subst e
    simp [gI, gR, gN, gc, gs, setI, setR, newN]
  generalize hgA : (setI (setI (setR (newN (setR (newN (setR (newN (newN g (4, n) 0 6) (26, n) 10 10) (4, n) 2 (some (26, n))) (27, n) 6 6) (4, n) 4 (some (27, n))) (28, n) 6 6) (4, n) 5 (some (28, n))) (4, n) 0 (nI s)) (4, n) 1 (nI x)) = gA at F1 hv1
  obtain ⟨w0, w1, w3, w27, w28, r2, r4, r5, n26, n27, n28, wc, ws⟩ := hv1 gA rfl
  obtain ⟨gB, b1, b2, b3, b4, b5⟩ := ini_L (z := z) (n := n) (nI s) (nI t) (nI x) z 0 gA r2 n26 (by omega) (by omega) (fun k hk => absurd hk (Nat.not_lt_zero _))
  have rB : gR gB = gR gA := congrArg (fun w : HR => w.2.1) b2
  have nB : gN gB = gN gA := congrArg (fun w : HR => w.2.2) b2
  have lB : gL gB = gL gA := congrArg (fun w : HR => w.1) b2
  have n26B : gN gB (26, n) = 10 := by rw [nB]; exact n26
  have e3 : gI (setI gB (26, n) s (nI t)) (4, n) 3 = 0 := by rw [gI_set, if_neg (by simp), b4 (4, n) (by simp)]; exact w3
  refine ⟨setI (setI gB (26, n) s (nI t)) (4, n) 3 1, ?_, ?_, ?_, ?_, ?_, ?_, ?_, ?_, ?_⟩
  · simp only [f_X3_init, nnu, Option.bind_some, nix]
    rw [show (10 : Int32) = nI 10 from rfl, show (6 : Int32) = nI 6 from rfl, i26]
    simp only [Option.bind_some, pR_X]
    rw [i27]
    simp only [Option.bind_some, pR_X]
    rw [i28]
    simp only [Option.bind_some, pR_X, pI_X, hgA]
    rw [show (0 : Int32) = nI 0 from rfl, b1]
    simp only [Option.bind_some, ick_X, f_X3_hear, gR_X, rB, r2, ast_X n26B (by decide) (by decide) hs (by decide), gI_X, e3, pI_X]
    rfl
  · intro m hm
    obtain ⟨f1, f2, f3, f4⟩ := F1 m hm
    have hm4 : m ≠ (4, n) := fun w => hm (Or.inl w)
    have hm26 : m ≠ (26, n) := fun w => hm (Or.inr (Or.inl w))
    refine ⟨?_, ?_, ?_, ?_⟩
    · funext j
      rw [gI_set, if_neg (fun w => hm4 w.1), gI_set, if_neg (fun w => hm26 w.1), b4 m hm26, f1]
    · show gR gB m = gR g m
      rw [rB, f2]
    · show gN gB m = gN g m
      rw [nB, f3]
    · show m ∈ gL gB ↔ m ∈ gL g
      rw [lB]; exact f4
  · refine ⟨?_, ?_, ?_⟩
    · rw [gI_set, if_neg (by simp), gI_set, if_neg (by simp), b4 (4, n) (by simp)]; exact w0
    · rw [gI_set, if_neg (by simp), gI_set, if_neg (by simp), b4 (4, n) (by simp)]; exact w1
    · rw [gI_set, if_pos ⟨rfl, rfl⟩]
  · intro k hk
    rw [gI_set, if_neg (by simp)]
    by_cases e : k = s
    · rw [gI_set, if_pos ⟨rfl, e⟩, if_pos e]
    · rw [gI_set, if_neg (fun w => e w.2), if_neg e]; exact b5 k hk
  · intro k
    rw [gI_set, if_neg (by simp), gI_set, if_neg (by simp), b4 (27, n) (by simp)]; exact w27 k
  · intro k
    rw [gI_set, if_neg (by simp), gI_set, if_neg (by simp), b4 (28, n) (by simp)]; exact w28 k
  · refine ⟨?_, ?_, ?_, ?_, ?_, ?_⟩
    · show gR gB (4, n) 2 = _; rw [rB]; exact r2
    · show gR gB (4, n) 4 = _; rw [rB]; exact r4
    · show gR gB (4, n) 5 = _; rw [rB]; exact r5
    · exact n26B
    · show gN gB (27, n) = _; rw [nB]; exact n27
    · show gN gB (28, n) = _; rw [nB]; exact n28
  · show gB.2.2.1 = _
    rw [b3]; exact wc
  · show gB.2.2.2 = _
    rw [b3]; exact ws
end QOB
end
section
section OPE
variable {z : Nat}
theorem hrd0 {V : VV} (h : VI V) {i : Nat} : ∀ p, p ≤ npk V → tkS V (nqk V) i p = -1 ∧ cntF V (nqk V) p = 0
  | 0, _ => ⟨rfl, rfl⟩
  | p + 1, hp => by
    have h5 := h.qk.2
    obtain ⟨i1, i2⟩ := hrd0 h (i := i) p (by omega)
    have hne : V 50 p ≠ nI (nqk V) := by
      rcases (h.pq (show p < npk V by omega)).2.2.2 with e | ⟨q, hq, e⟩
      · rw [e]; exact fun w => nI_ne9 (by omega) w.symm
      · rw [e]; exact fun w => by have := nI_inj2 w (by omega) (by omega); omega
    unfold tkS cntF
    rw [if_neg (fun w => hne w.1), if_neg hne]
    exact ⟨i1, i2⟩
theorem opened (hz : 2000 ≤ z) {g : Hp} {V : VV} (h : IN g V) {s t x : Nat} (hs : s < nst V) (ht : t ≤ nw V) (hp : npk V < 60) (hq : nqk V < 5) (hx : x ≤ 1000000) : ∃ ga gx, f_X3_init z (some (4, nqk V)) (nI s) (nI t) (nI x) (newN g (4, nqk V) 0 6) = some ((), ga) ∧ f_Jx4a65c_add_9ea2d z (some (0, 3)) (some (4, nqk V)) ga = some (1, gx) ∧ PU gx (opV V) (apV (opV V) s t (nI x) (nI (nqk V))) ∧ Fr PCl g gx ∧ gc gx ≤ gc g + 5 ∧ gs gx ≤ gs g + 848 := by
  have h10 := h.v.hv.ns.2
  have hno := h.v.hv.no.2
  obtain ⟨f4, f26, f27, f28⟩ := h.r.2.2.2.2.1.2.2 (nqk V) (Nat.le_refl _)
  obtain ⟨ga, a1, a2, a3, a4, a5, a6, a7, a8, a9⟩ := quakeIni (z := z) hz (g := g) (n := nqk V) f26 f27 f28 (s := s) (t := t) (x := x) (by omega)
  have A2 : Fr (PC 5 [4, 26, 27, 28]) g ga := a2.mono (fun m hm => Or.inr (by rcases hm with e | e | e | e <;> (rw [e]; simp)))
  have s1 : gI ga (0, 3) 2 = nI (nqk V) := (congrFun (A2 (0, 3) (PC.n0 (by decide) (by decide))).1 2).trans h.c3
  obtain ⟨gx, b1, b2, b3, b4, b5, b6⟩ := addJ (z := z) s1 (LR.fr A2 (by decide) (by decide) (by decide) h.r.2.2.2.2.1.1) (by decide) (by omega) (by decide)
  have FA : Fr (fun m => (m = (4, nqk V) ∨ m = (26, nqk V) ∨ m = (27, nqk V) ∨ m = (28, nqk V)) ∨ m = (0, 3) ∨ m.1 = 15) g gx := a2.tr b4
  have F : Fr (PC 3 [4, 26, 27, 28, 15]) g gx := FA.mono (fun m hm => by
    rcases hm with (e | e | e | e) | e | e
    · exact Or.inr (by rw [e]; simp)
    · exact Or.inr (by rw [e]; simp)
    · exact Or.inr (by rw [e]; simp)
    · exact Or.inr (by rw [e]; simp)
    · exact Or.inl e
    · exact Or.inr (by rw [e]; simp))
  have hb : ∀ c i, c ≠ 0 → c ≠ 15 → gI gx (c, i) = gI ga (c, i) ∧ gR gx (c, i) = gR ga (c, i) ∧ gN gx (c, i) = gN ga (c, i) ∧ ((c, i) ∈ gL gx ↔ (c, i) ∈ gL ga) := fun c i c0 c15 => b4 (c, i) (fun w => by rcases w with w | w <;> simp at w <;> omega)
  have hold : ∀ c i, c ≠ 0 → c ≠ 15 → i ≠ nqk V → gI gx (c, i) = gI g (c, i) ∧ gR gx (c, i) = gR g (c, i) ∧ gN gx (c, i) = gN g (c, i) ∧ ((c, i) ∈ gL gx ↔ (c, i) ∈ gL g) := fun c i c0 c15 hi => FA (c, i) (fun w => by rcases w with (w | w | w | w) | w | w <;> simp at w <;> omega)
  have f0 : ∀ j, j ≠ 3 → gI gx (0, j) 2 = gI g (0, j) 2 := fun j hj => congrFun (F (0, j) (PC.n0 (by decide) hj)).1 2
  have enp : npk (opV V) = npk V := op_w.np
  have hpU : npk (opV V) < 60 := by rw [enp]; exact hp
  have enq : nqk (opV V) = nqk V + 1 := op_nq (by omega)
  have ekp : kp (opV V) = kp V := kp_e (op_ev.2 24 (by decide))
  have hneq : ∀ q, q < nqk V → nI (nqk V) ≠ nI q := fun q hq2 w => by have := nI_inj2 w (by omega) (by omega); omega
  have hev : Ev [47, 48, 49, 50, 51] [15, 20] V (apV (opV V) s t (nI x) (nI (nqk V))) := (op_ev.sub (by decide) (by decide)).tr (ap_ev.sub (by decide) (by decide))
  have e55 : apV (opV V) s t (nI x) (nI (nqk V)) 55 = V 55 := hev.1 55 (by decide) (by decide)
  have hvf := h.vf.2 (nqk V) (Nat.le_refl _) hq
  have etk : ∀ i k, tkS (opV V) i k (npk V) = tkS V i k (npk V) := fun i k => tkS_w _ (fun p hp => op_w.2.2 p hp)
  have ecn : ∀ i, cntF (opV V) i (npk V) = cntF V i (npk V) := fun i => cntF_w _ (fun p hp => (op_w.2.2 p hp).2.2)
  refine ⟨ga, gx, a1, b1, ⟨fr_SM F (by decide) h.s, ⟨RC1.fr F (by decide) h.b1, ?_, ?_, ?_, ?_, ?_⟩, ?_, ⟨?_, ?_, ?_, ?_, ?_⟩, ?_, ?_⟩, F.cl (by decide), by omega, by omega⟩
  · rw [nst_e (op_ev.2 6 (by decide))]; exact RCs.fr F (by decide) (by decide) h.r.2.1
  · rw [ntw_e (op_ev.2 9 (by decide))]; exact RCt.fr F (by decide) (by decide) h.r.2.2.1
  · rw [enp]; exact RCp.fr F (by decide) (by decide) h.r.2.2.2.1
  · rw [enq]
    refine ⟨b3, fun i hi => ?_, fun i hi => ?_⟩
    · have x4 := hb 4 i (by decide) (by decide)
      have x26 := hb 26 i (by decide) (by decide)
      have x27 := hb 27 i (by decide) (by decide)
      have x28 := hb 28 i (by decide) (by decide)
      by_cases e : i = nqk V
      · subst e
        obtain ⟨r2, r4, r5, n26, n27, n28⟩ := a7
        exact ⟨(congrFun x4.2.1 2).trans r2, (congrFun x4.2.1 4).trans r4, (congrFun x4.2.1 5).trans r5, x26.2.2.1.trans n26, x27.2.2.1.trans n27, x28.2.2.1.trans n28⟩
      · obtain ⟨r2, r4, r5, n26, n27, n28⟩ := h.r.2.2.2.2.1.2.1 i (by omega)
        have y4 := hold 4 i (by decide) (by decide) e
        exact ⟨(congrFun y4.2.1 2).trans r2, (congrFun y4.2.1 4).trans r4, (congrFun y4.2.1 5).trans r5, (hold 26 i (by decide) (by decide) e).2.2.1.trans n26, (hold 27 i (by decide) (by decide) e).2.2.1.trans n27, (hold 28 i (by decide) (by decide) e).2.2.1.trans n28⟩
    · obtain ⟨y4, y26, y27, y28⟩ := h.r.2.2.2.2.1.2.2 i (by omega)
      exact ⟨fun w => y4 ((hold 4 i (by decide) (by decide) (by omega)).2.2.2.mp w), fun w => y26 ((hold 26 i (by decide) (by decide) (by omega)).2.2.2.mp w), fun w => y27 ((hold 27 i (by decide) (by decide) (by omega)).2.2.2.mp w), fun w => y28 ((hold 28 i (by decide) (by decide) (by omega)).2.2.2.mp w)⟩
  · rw [ekp]; exact RCm.fr F (by decide) (by decide) h.r.2.2.2.2.2
  · have k1 : ∀ k, gI gx (1, 0) k = gI g (1, 0) k := fun k => fr_I F (by decide) (by decide)
    have k2 : ∀ k, gI gx (21, 0) k = gI g (21, 0) k := fun k => fr_I F (by decide) (by decide)
    have k3 : ∀ k, gI gx (22, 0) k = gI g (22, 0) k := fun k => fr_I F (by decide) (by decide)
    rcases h.h with w | ⟨q, w1, w2, w3, w4, w5, w6⟩
    · exact Or.inl ((k1 5).trans w)
    · have hn := hneq q w1
      have hfp : fP (opV V) q < npk (opV V) := by rw [op_fP (by omega), enp]; exact (h.v.fp w1).1
      have hl := ap_lwF (s := s) (t := t) (c := nI x) hpU hn hfp 144
      have hl2 := op_lwF (V := V) (q := q) (by omega) 144
      refine Or.inr ⟨q, by rw [ap_nq, enq]; omega, (k1 5).trans w2, fun c hc => ?_, ?_, ?_, ?_⟩
      · rw [(ap_lo hpU hn).1, (ap_lo hpU hn).2, op_w.lo_, op_w.hi_, k2, k3]; exact w3 c hc
      · rw [ap_ncl hpU hn, op_w.ncl_]; exact (k1 2).trans w4
      · rw [hl.1, hl2.1]; exact (k1 3).trans w5
      · rw [hl.2, hl2.2]; exact (k1 4).trans w6
  · rw [nst_e (op_ev.2 6 (by decide)), f0 0 (by decide)]; exact h.c0
  · rw [ntw_e (op_ev.2 9 (by decide)), f0 1 (by decide)]; exact h.c1
  · rw [enp, f0 2 (by decide)]; exact h.c2
  · rw [enq]; exact b2
  · rw [ekp, f0 4 (by decide)]; exact h.c4
  · intro n k v hz hc0 hc3 hk
    obtain ⟨cc, i⟩ := n
    by_cases c4 : cc = 4
    · subst c4
      simp only [cI, ap_nq, ap_np hpU, enq] at hk
      simp at hk
      obtain ⟨hi, hk⟩ := hk
      rw [(hb 4 i (by decide) (by decide)).1]
      by_cases e : i = nqk V
      · subst e
        have efP : fP (apV (opV V) s t (nI x) (nI (nqk V))) (nqk V) = npk (opV V) := by
          rw [ap_fP]
          unfold fP
          rw [op_51a, enp]; exact nI_cl (by omega)
        obtain ⟨w0, w1, w3⟩ := a3
        by_cases k0 : k = 0
        · subst k0
          rw [w0]
          simp [efP, ap_sPa (show s < 100 by omega)] at hk
          exact hk
        by_cases k1 : k = 1
        · subst k1
          rw [w1]
          simp [efP] at hk
          rw [← hk]
          unfold sg
          rw [ap_at.2.2.1, nI_cl (by omega)]
        by_cases k3 : k = 3
        · subst k3
          rw [w3]
          have ec : cntF (apV (opV V) s t (nI x) (nI (nqk V))) (nqk V) (npk (opV V) + 1) = 1 := by
            rw [ap_cnta rfl, enp, ecn, (hrd0 h.v (i := 0) (npk V) (Nat.le_refl _)).2]
          simp [ec] at hk
          rw [← hk]; rfl
        simp [k0, k1, k3] at hk
      · have y4 := (hold 4 i (by decide) (by decide) e).1
        rw [(hb 4 i (by decide) (by decide)).1] at y4
        rw [y4]
        have hiq : i < nqk V := by omega
        have hf := (h.v.fp hiq).1
        have ef : fP (apV (opV V) s t (nI x) (nI (nqk V))) i = fP V i := by rw [ap_fP, op_fP e]
        have esp : sP (apV (opV V) s t (nI x) (nI (nqk V))) (fP V i) = sP V (fP V i) := by
          rw [ap_sP (by omega)]; unfold sP; rw [op_ev.1 47 (by decide) (by decide)]
        have esg : sg (apV (opV V) s t (nI x) (nI (nqk V))) (fP V i) = sg V (fP V i) := by
          rw [ap_sg (by omega)]; unfold sg; rw [op_ev.1 49 (by decide) (by decide)]
        by_cases k0 : k = 0
        · subst k0
          rw [h.q0 hiq]
          simp [ef, esp] at hk
          exact hk
        by_cases k1 : k = 1
        · subst k1
          rw [h.q1 hiq]
          simp [ef, esg] at hk
          exact hk
        by_cases k3 : k = 3
        · subst k3
          rw [h.q3 hiq]
          simp [ap_cnt (V := opV V) (hneq i hiq)] at hk
          rw [enp, ecn] at hk
          exact hk
        simp [k0, k1, k3] at hk
    by_cases c26 : cc = 26
    · subst c26
      simp only [cI, ap_nq, ap_np hpU, enq] at hk
      simp at hk
      obtain ⟨⟨hi, hk10⟩, hk⟩ := hk
      rw [← hk]
      by_cases e : i = nqk V
      · subst e
        rw [(hb 26 (nqk V) (by decide) (by decide)).1, a4 k hk10]
        by_cases ks : k = s
        · subst ks
          rw [if_pos rfl, ap_tkSa (by omega) rfl, nI_iI]
        · rw [if_neg ks, ap_tkS (Or.inr (fun w => ks (nI_inj2 w (by omega) (by omega)).symm)), enp, etk, (hrd0 h.v (i := k) (npk V) (Nat.le_refl _)).1]
          decide
      · rw [(hold 26 i (by decide) (by decide) e).1, ap_tkS (Or.inl (hneq i (by omega))), enp, etk]
        exact h.qt (by omega) hk10
    by_cases c27 : cc = 27
    · subst c27
      simp only [cI, ap_nq, enq] at hk
      simp at hk
      obtain ⟨⟨hi, hk6⟩, hk⟩ := hk
      rw [← hk]
      have et : toldF (apV (opV V) s t (nI x) (nI (nqk V))) i k = toldF V i k := by unfold toldF; rw [e55]
      rw [et]
      by_cases e : i = nqk V
      · subst e
        rw [(hb 27 (nqk V) (by decide) (by decide)).1, a5 k, bt_c (f' := fun _ => false) (fun j hj1 hj2 => by
          unfold toldF
          rw [show 30 * nqk V + 5 * k + j = 30 * nqk V + (5 * k + j) by omega, hvf (5 * k + j) (by omega)]; rfl)]
        rfl
      · rw [(hold 27 i (by decide) (by decide) e).1]
        exact h.q27 (by omega) hk6
    by_cases c28 : cc = 28
    · subst c28
      simp only [cI, ap_nq, enq] at hk
      simp at hk
      obtain ⟨⟨hi, hk6⟩, hk⟩ := hk
      rw [← hk]
      have et : backF (apV (opV V) s t (nI x) (nI (nqk V))) i k = backF V i k := by unfold backF; rw [e55]
      rw [et]
      by_cases e : i = nqk V
      · subst e
        rw [(hb 28 (nqk V) (by decide) (by decide)).1, a6 k, bt_c (f' := fun _ => false) (fun j hj1 hj2 => by
          unfold backF
          rw [show 30 * nqk V + 5 * k + j = 30 * nqk V + (5 * k + j) by omega, hvf (5 * k + j) (by omega)]; rfl)]
        rfl
      · rw [(hold 28 i (by decide) (by decide) e).1]
        exact h.q28 (by omega) hk6
    · have c15 : cc ≠ 15 := fun w => by subst w; exact absurd (show 15 ∈ [0, 2, 3, 4, 5, 6, 7, 9, 20, 23, 24, 25, 26, 27, 28] from cI_cls hk) (by decide)
      rw [fr_I F (by simp [c4, c26, c27, c28, c15]) hc0]
      rw [cI_ev hev (C := [0, 3, 4, 26, 27, 28]) (by decide) (n := (cc, i)) (by simp [c4, c26, c27, c28] at hc0 hc3 ⊢; exact ⟨hc0, hc3⟩)] at hk
      exact h.i hk hz
  · intro i k v hi hk
    rw [ap_c3 hpU hi] at hk
    rw [enp] at hi
    rw [fr_I F (by decide) (by decide)]
    refine h.i (v := v) ?_
    rw [← hk]
    have e49 : opV V 49 = V 49 := op_ev.1 49 (by decide) (by decide)
    have e47 : opV V 47 = V 47 := op_ev.1 47 (by decide) (by decide)
    have e48 : opV V 48 = V 48 := op_ev.1 48 (by decide) (by decide)
    have e50 : opV V 50 = V 50 := op_ev.1 50 (by decide) (by decide)
    have ekd : kdF (opV V) i = kdF V i := by
      unfold kdF
      rw [e50]
      rcases (h.v.pq hi).2.2.2 with w | ⟨q, hq2, w⟩
      · rw [w, if_pos rfl, if_pos rfl]
      · rw [w, nI_cl (by omega), op_51 (by omega)]
    simp [cI, enp, e47, e48, e49, e50, ekd]
end OPE
end
section
/-! pick: the model's end -/
theorem in1M {a : Int32} (h : ¬ inB a 1 1000000 = 0) : ∃ i, 1 ≤ i ∧ i ≤ 1000000 ∧ a = nI i := by
  obtain ⟨h1, h2⟩ := inB_ne h
  have h0 : ¬ a < 0 := fun w => by
    rw [Int32.lt_iff_toInt_lt] at w
    rw [Int32.le_iff_toInt_le] at h1
    have e0 : (0 : Int32).toInt = 0 := by decide
    have e1 : (1 : Int32).toInt = 1 := by decide
    omega
  obtain ⟨j, hj, rfl⟩ := nI_of (x := a) h0
  refine ⟨j, ?_, ?_, rfl⟩
  · rw [show (1 : Int32) = nI 1 from rfl, nI_leI (by omega) (by omega)] at h1; exact h1
  · rw [show (1000000 : Int32) = nI 1000000 from rfl, nI_leI (by omega) (by omega)] at h2; exact h2
def tlV (W : VV) (p : Nat) (s t : Nat) (c qv : Int32) : VV := vs (vs (vs (vs (vs W 47 p (nI s)) 48 p (nI t)) 49 p c) 50 p qv) 10 15 (nI (p + 1))
theorem tl_q {U W : VV} {s t : Nat} {c qv : Int32} (h : EqP U W) : EqR (apV U s t c qv) (tlV W (npk U) s t c qv) := fun r h1 h2 => by
  funext k
  unfold apV tlV
  simp only [vs]
  by_cases a1 : r = 10 ∧ k = 15
  · simp only [if_pos a1]
  by_cases a2 : r = 50 ∧ k = npk U
  · simp only [if_neg a1, if_pos a2]
  by_cases a3 : r = 49 ∧ k = npk U
  · simp only [if_neg a1, if_neg a2, if_pos a3]
  by_cases a4 : r = 48 ∧ k = npk U
  · simp only [if_neg a1, if_neg a2, if_neg a3, if_pos a4]
  by_cases a5 : r = 47 ∧ k = npk U
  · simp only [if_neg a1, if_neg a2, if_neg a3, if_neg a4, if_pos a5]
  simp only [if_neg a1, if_neg a2, if_neg a3, if_neg a4, if_neg a5]
  exact h r k h1 h2 (fun w => by
    rcases w with ⟨w | w | w, w2⟩
    · exact a5 ⟨w, w2⟩
    · exact a4 ⟨w, w2⟩
    · exact a2 ⟨w, w2⟩)
theorem tl_o {V W : VV} (h : EqP V W) : EqP (opV V) (vs (vs W 51 (nqk V) (nI (npk V))) 10 20 (nI (nqk V + 1))) := fun r k h1 h2 h3 => by
  rw [op_w.np] at h3
  unfold opV
  simp only [vs]
  by_cases a1 : r = 10 ∧ k = 20
  · simp only [if_pos a1]
  by_cases a2 : r = 51 ∧ k = nqk V
  · simp only [if_neg a1, if_pos a2]
  simp only [if_neg a1, if_neg a2]
  exact h r k h1 h2 h3
section PKN
variable {z : Nat}
end PKN
end
section
section OPI
variable {z : Nat}
theorem ap_cntA {U : VV} {s t : Nat} {c qv : Int32} (hp : npk U < 60) : cnt (apV U s t c qv) = nst U + ntw U + (npk U + 1) + nqk U + kp U := by
  unfold cnt
  rw [ap_ns, ap_nt, ap_np hp, ap_nq, kp_e (ap_ev.2 24 (by decide))]
theorem pick8 (hz : 2000 ≤ z) {g : Hp} {V : VV} (h : IN g V) {s t x : Nat} (hs : s < nst V) (ht : t ≤ nw V) (hx1 : 1 ≤ x) (hx2 : x ≤ 1000000) (hp : npk V < 60) : (tkF V s t (nqk V) 0 = -9 → nqk V < 5 → ∃ g2, f_X8_pick z (some (9, 0)) (nI s) (nI t) (nI x) g = some (10 + nI (nqk V), g2) ∧ IN g2 (apV (opV V) s t (nI x) (nI (nqk V))) ∧ Fr PCl g g2) ∧ ∀ q, q < nqk V → tkF V s t (nqk V) 0 = nI q → tkB V s t q = true → ∃ g2, f_X8_pick z (some (9, 0)) (nI s) (nI t) (nI x) g = some (nI q, g2) ∧ IN g2 (apV V s t (nI x) (nI q)) ∧ Fr PCl g g2 := by
  have hnp := h.v.hv.np
  have h5 := h.v.qk
  have hno := h.v.hv.no
  obtain ⟨a, ea⟩ : ∃ a, a = nI s := ⟨_, rfl⟩
  obtain ⟨b, eb⟩ : ∃ b, b = nI t := ⟨_, rfl⟩
  obtain ⟨c, ec⟩ : ∃ c, c = nI x := ⟨_, rfl⟩
  have h10 := h.v.hv.ns
  have g1 : ¬ inB a 0 (V 10 6 - 1) = 0 := by rw [ea, h10.1, inB_in hs (by omega)]; decide
  have g2 : ¬ inB b 0 (V 10 5) = 0 := by
    unfold inB
    rw [eb, hno.1, show (0 : Int32) = nI 0 from rfl, if_neg (fun w => by have := (nI_ltI (by omega) (by omega)).mp w; omega), if_neg (fun w => by have := (nI_ltI (by omega) (by omega)).mp w; omega)]; decide
  have g3 : ¬ inB c 1 1000000 = 0 := by
    unfold inB
    rw [ec, show (1 : Int32) = nI 1 from rfl, show (1000000 : Int32) = nI 1000000 from rfl, if_neg (fun w => by have := (nI_ltI (by omega) (by omega)).mp w; omega), if_neg (fun w => by have := (nI_ltI (by omega) (by omega)).mp w; omega)]; decide
  have hlt : nI (npk V) < 60 := by rw [show (60 : Int32) = nI 60 from rfl]; exact (nI_ltI (by omega) (by omega)).mpr hp
  obtain ⟨gt, t1, t2, t3⟩ := taker8_L (z := z) hz hs ht hp (nqk V) z 0 g h (by omega) (by omega)
  rw [← ea, ← eb, show nI 0 = (0 : Int32) from rfl] at t1
  have hnm : (3, npk V) ∉ gL gt := t3.r.2.2.2.1.2 (npk V) (Nat.le_refl _)
  have hst8 : ∀ Q, ((if tkF V s t (nqk V) 0 = (-9) then ((getR (some (9, 0)) 9 4 gt).bind fun x8 =>
          (ick x8 0 (f_Jx4a65c_size_8abf5 z x8 gt)).bind fun q9 =>
          if 5 ≤ q9.1 then ((getR (some (9, 0)) 9 3 q9.2).bind fun x10 =>
            (mkO (3, lsz q9.2 2) 3 q9.2).bind fun q11 =>
            (nnl q11.1 (f_X2_init z q11.1 a b c 3 (-9) q11.2)).bind fun q12 =>
            (ick x10 0 (f_Jx4a65c_add_9ea2d z x10 q11.1 q12.2)).bind fun q13 =>
            some ((-9), q13.2))
          else ((getR (some (9, 0)) 9 4 q9.2).bind fun x14 =>
            (ick x14 0 (f_Jx4a65c_size_8abf5 z x14 q9.2)).bind fun q15 =>
            (getR (some (9, 0)) 9 4 q15.2).bind fun x16 =>
            (mkO (4, lsz q15.2 3) 4 q15.2).bind fun q17 =>
            (nnl q17.1 (f_X3_init z q17.1 a b c q17.2)).bind fun q18 =>
            (ick x16 0 (f_Jx4a65c_add_9ea2d z x16 q17.1 q18.2)).bind fun q19 =>
            (getR (some (9, 0)) 9 3 q19.2).bind fun x20 =>
            (mkO (3, lsz q19.2 2) 3 q19.2).bind fun q21 =>
            (nnl q21.1 (f_X2_init z q21.1 a b c 2 q15.1 q21.2)).bind fun q22 =>
            (ick x20 0 (f_Jx4a65c_add_9ea2d z x20 q21.1 q22.2)).bind fun q23 =>
            some ((10 + q15.1), q23.2)))
        else ((getR (some (9, 0)) 9 4 gt).bind fun x24 =>
          (ick x24 0 (f_Jx4a65c_get_915e3 z x24 (tkF V s t (nqk V) 0) gt)).bind fun q25 =>
          (ckc q25.1 4).bind fun _ =>
          (ick q25.1 4 (f_X3_hear z q25.1 a b q25.2)).bind fun q27 =>
          (getR (some (9, 0)) 9 6 q27.2).bind fun x28 =>
          (ick x28 1 (f_X0_forget z x28 q27.2)).bind fun q29 =>
          (getR (some (9, 0)) 9 3 q29.2).bind fun x30 =>
          (mkO (3, lsz q29.2 2) 3 q29.2).bind fun q31 =>
          (nnl q31.1 (f_X2_init z q31.1 a b c 1 (tkF V s t (nqk V) 0) q31.2)).bind fun q32 =>
          (ick x30 0 (f_Jx4a65c_add_9ea2d z x30 q31.1 q32.2)).bind fun q33 =>
          some (tkF V s t (nqk V) 0, q33.2))) : Option (Int32 × Hp)) = Q → f_X8_pick z (some (9, 0)) a b c g = Q := fun Q hQ => by
    rw [← hQ]
    simp only [f_X8_pick, ick_X, isStation8 h, ob, if_neg g1, gi_C, h.f10, in8, if_neg g2, if_neg g3, gr_C h.b1, cRef, sizeJ h.c2, if_pos hlt, f_X8_takerOf, t1]
  have hcb := t3.c
  rw [← ec, ← ea, ← eb]
  refine ⟨fun e9 hq4 => ?_, fun q hq2 eq hb => ?_⟩
  · have enp : npk (opV V) = npk V := op_w.np
    obtain ⟨ga, gx, o1, o2, hPU, o4, o5, o6⟩ := opened (z := z) hz t3 hs ht hp hq4 hx2
    rw [← ec] at o1 hPU
    have e51 : ∀ q, q < nqk V → opV V 51 q = V 51 q := fun q hq => op_51 (by omega)
    have e50 : opV V 50 = V 50 := op_ev.1 50 (by decide) (by decide)
    have e49 : opV V 49 = V 49 := op_ev.1 49 (by decide) (by decide)
    have e47 : opV V 47 = V 47 := op_ev.1 47 (by decide) (by decide)
    have enq : nqk (opV V) = nqk V + 1 := op_nq (by omega)
    have hA : VI (apV (opV V) s t (nI x) (nI (nqk V))) := by
      refine ap_vi (op_w.hv h.v.hv) ?_ ?_ ?_ (fun i hi => ?_) (fun i hi => ?_) (fun p hp => ?_) (fun q hq => ?_) (fun p p2 k1 k2 k3 k4 k5 => ?_) (fun q t k k1 k2 k3 k4 => ?_) ?_ ?_ ?_ hx1 hx2 ?_ (fun _ p k1 k2 => ?_)
      · rw [ntw_e (op_ev.2 9 (by decide)), op_ev.2 9 (by decide)]; exact h.v.tw
      · rw [enq, op_20]; exact ⟨rfl, by omega⟩
      · rw [nms_e (op_ev.2 24 (by decide)), op_ev.2 24 (by decide)]; exact h.v.ms
      · rw [nst_e (op_ev.2 6 (by decide))] at hi
        rw [op_ev.1 43 (by decide) (by decide)]; exact h.v.sz hi
      · rw [ntw_e (op_ev.2 9 (by decide))] at hi
        unfold cT
        rw [op_ev.1 42 (by decide) (by decide)]; exact h.v.to hi
      · rw [enp] at hp
        unfold sg
        rw [e49, e50, enq]
        obtain ⟨m1, m2, m3, m4⟩ := h.v.pq hp
        refine ⟨m1, m2, m3, ?_⟩
        rcases m4 with m4 | ⟨q, m5, m6⟩
        · exact Or.inl m4
        · exact Or.inr ⟨q, by omega, m6⟩
      · rw [enq] at hq
        rw [enp, e50]
        by_cases w : q = nqk V
        · rw [w, op_51a]; exact Or.inr ⟨rfl, rfl⟩
        · rw [op_51 w]
          have m := h.v.fp (show q < nqk V by omega)
          exact Or.inl ⟨fP V q, m.1, m.2.1, m.2.2⟩
      · rw [enp] at k1 k2
        unfold sP at k5
        rw [e50] at k3 k4
        rw [e47] at k5
        exact h.v.un k1 k2 k3 k4 k5
      · rw [op_ev.1 55 (by decide) (by decide)]; exact h.v.tt k1 k2 k3 k4
      · rw [nst_e (op_ev.2 6 (by decide))]; exact hs
      · rw [op_w.no]; exact ht
      · rw [enp]; exact hp
      · exact Or.inr ⟨nqk V, by omega, rfl⟩
      · exfalso
        rw [enp] at k1
        rw [e50] at k2
        rcases (h.v.pq k1).2.2.2 with m | ⟨q, m1, m2⟩
        · rw [m] at k2; exact nI_ne9 (by omega) k2.symm
        · rw [m2] at k2; have := nI_inj2 k2 (by omega) (by omega); omega
    rw [← ec] at hA
    have hd : kdF (apV (opV V) s t c (nI (nqk V))) (npk (opV V)) = 2 := by
      unfold kdF
      rw [ap_at.2.2.2, if_neg (nI_ne9 (by omega)), nI_cl (by omega), ap_ev.1 51 (by decide) (by decide), op_51a, enp, if_pos rfl]
    obtain ⟨gb, gy, b1, b2, b3, b4⟩ := pickEnd (z := z) (d := 2) hPU (by rw [enp]; exact hp) hA (ap_vf (op_vf h.vf (by omega))) (by
      rw [ap_cntA (by rw [enp]; exact hp), enp, enq, nst_e (op_ev.2 6 (by decide)), ntw_e (op_ev.2 9 (by decide)), kp_e (op_ev.2 24 (by decide))]
      have := hcb.1; have := hcb.2
      unfold cnt at *
      omega) hd
    rw [enp] at b1 b2
    have FC : Fr PCl gt gy := o4.t (b3.mono (fun m hm => by
      rcases hm with w | w | w
      · rw [w]; exact ⟨show 3 ≠ 29 by decide, show 3 ≠ 30 by decide⟩
      · rw [w]; exact ⟨show 0 ≠ 29 by decide, show 0 ≠ 30 by decide⟩
      · exact ⟨by omega, by omega⟩))
    refine ⟨gy, hst8 _ ?_, b4, (t2.cl (by decide)).t FC⟩
    have hn4 : (4, nqk V) ∉ gL gt := (t3.r.2.2.2.2.1.2.2 (nqk V) (Nat.le_refl _)).1
    obtain ⟨-, prc, -, ⟨-, -, ph2, -, -⟩, -⟩ := hPU
    have hn3 : (3, npk V) ∉ gL gx := prc.2.2.2.1.2 (npk V) (by rw [enp]; exact Nat.le_refl _)
    rw [enp] at ph2
    rw [if_pos e9]
    simp only [gr_C t3.b1, cRef, ob, ick_X, sizeJ t3.c3]
    rw [show (5 : Int32) = nI 5 from rfl, if_neg (fun w => by have := (nI_leI (by omega) (by omega)).mp w; omega)]
    rw [lsz_e t3.c3 (by omega), mkO_X hn4]
    simp only [gr_C t3.b1, cRef, ob, nnl_X, flds, List.length]
    rw [show (0 + 1 + 1 + 1 + 1 + 1 + 1 : Nat) = 6 from rfl, ea, eb, o1]
    simp only [ob, ick_X, o2, gr_C prc.1, cRef]
    rw [lsz_e ph2 (by omega), mkO_X hn3]
    simp only [gr_C prc.1, cRef, ob, nnl_X, flds, List.length]
    rw [show (0 + 1 + 1 + 1 + 1 + 1 : Nat) = 5 from rfl, b1]
    simp only [ob, ick_X, b2]
  · have hPU := PU.joined (c := c) t3 hp hq2 hs ht
    have hne9 : ¬ nI q = -9 := nI_ne9 (by omega)
    have hfr : hrd V q s (npk V) = false := by
      unfold tkB at hb
      simp at hb
      exact hb.1
    have hA : VI (apV V s t (nI x) (nI q)) := ap_vi h.v.hv h.v.tw h.v.qk h.v.ms (fun i hi => h.v.sz hi) (fun i hi => h.v.to hi) (fun p hp => h.v.pq hp) (fun q hq => Or.inl ⟨fP V q, (h.v.fp hq).1, (h.v.fp hq).2.1, (h.v.fp hq).2.2⟩) (fun p p2 k1 k2 k3 k4 k5 => h.v.un k1 k2 k3 k4 k5) (fun q t k k1 k2 k3 k4 => h.v.tt k1 k2 k3 k4) hs ht hp hx1 hx2 (Or.inr ⟨q, hq2, rfl⟩) (fun _ p k1 k2 k3 => by
      rcases tkS_sp (W := V) (q := q) (s := s) (npk V) with ⟨-, -, w⟩ | ⟨-, -, -, -, -, w⟩
      · exact w p k1 ⟨k2, by rw [(h.v.hv.pk k1).1, k3]⟩
      · rw [w] at hfr; exact absurd hfr (by decide))
    rw [← ec] at hA
    have hfp := h.v.fp hq2
    have hd : kdF (apV V s t c (nI q)) (npk V) = 1 := by
      unfold kdF
      rw [ap_at.2.2.2, if_neg hne9, nI_cl (by omega), ap_ev.1 51 (by decide) (by decide), hfp.2.1, if_neg (fun w => by have := nI_inj2 w (by omega) (by omega); omega)]
    obtain ⟨ga, gx, b1, b2, b3, b4⟩ := pickEnd (z := z) (d := 1) hPU hp hA (ap_vf h.vf) (by
      rw [ap_cntA hp]
      have x1 : gc (jnG gt V s t q) = gc gt := rfl
      have x2 : gs (jnG gt V s t q) = gs gt := rfl
      rw [x1, x2]
      have := hcb.1; have := hcb.2
      unfold cnt at *
      omega) hd
    have FC : Fr PCl gt gx := ((jn_ch (g := gt) (V := V) (s := s) (t := t) (q := q)).cl (by decide)).t (b3.mono (fun m hm => by
      rcases hm with w | w | w
      · rw [w]; exact ⟨show 3 ≠ 29 by decide, show 3 ≠ 30 by decide⟩
      · rw [w]; exact ⟨show 0 ≠ 29 by decide, show 0 ≠ 30 by decide⟩
      · exact ⟨by omega, by omega⟩))
    refine ⟨gx, hst8 _ ?_, b4, (t2.cl (by decide)).t FC⟩
    have r1 : RC1 (setI (setI gt (26, q) s (nI t)) (4, q) 3 (nI (cntF V q (npk V) + 1))).1 := t3.b1
    have r2 : RC1 (jnG gt V s t q).1 := t3.b1
    have z2 : gI (jnG gt V s t q) (0, 2) 2 = nI (npk V) := (jn_ch.i (by simp)).trans t3.c2
    rw [eq, if_neg hne9]
    simp only [gr_C t3.b1, cRef, ob, ick_X, getQ t3 hq2, ckc_X]
    rw [ea, eb, hear8 t3 hq2 hs]
    simp only [ob, gr_C r1, cRef, ick_X, forget8]
    rw [show setI (setI (setI gt (26, q) s (nI t)) (4, q) 3 (nI (cntF V q (npk V) + 1))) (1, 0) 5 (-9) = jnG gt V s t q from rfl]
    simp only [gr_C r2, cRef, ob]
    rw [lsz_e z2 (by omega), mkO_X (show (3, npk V) ∉ gL (jnG gt V s t q) from hnm)]
    simp only [ob, nnl_X, flds, List.length]
    rw [show (0 + 1 + 1 + 1 + 1 + 1 : Nat) = 5 from rfl, b1]
    simp only [ob, ick_X, b2]
end OPI
end
section
/-! the class's start -/
def gZ : Hp := (([], fun _ _ => none, fun _ => 0), (fun _ _ => 0), 0, 0)
section CLI
variable {z : Nat}
theorem mkL {α : Type} {g : Hp} {j : Nat} {F : Option Nm × Hp → Unit × Hp → Option α} (hn : (0, j) ∉ gL g) : ((mkO (0, j) 0 g).bind fun q4 => (nnl q4.1 (f_Jx4a65c_init_da8c8 z q4.1 q4.2)).bind (F q4)) = F (some (0, j), newN g (0, j) 0 3) ((), setR (setI (newN g (0, j) 0 3) (0, j) 0 0) (0, j) 1 (some (17, 0))) := by
  rw [mkO_X hn]
  simp only [ob, nnl_X, f_Jx4a65c_init_da8c8, f_Jxc12de_init_da8c8, f_Jxa1e45_init_da8c8, nnu, pI_X, pR_X]
  rfl
/-- before the table of travels -/
def gA1 : Hp := setR (newN (newN (newN gZ (9, 0) 0 14) (8, 0) 0 1) (20, 0) 144 144) (8, 0) 0 (some (20, 0))
/-- after it -/
def gA2 (I : Nm → Nat → Int32) : Hp := (gA1.1, I, gA1.2.2)
def lst (g : Hp) (j k : Nat) : Hp := setR (setR (setI (newN g (0, j) 0 3) (0, j) 0 0) (0, j) 1 (some (17, 0))) (9, 0) k (some (0, j))
def gA3 (I : Nm → Nat → Int32) : Hp := lst (lst (lst (lst (lst (setR (gA2 I) (9, 0) 0 (some (8, 0))) 0 1) 1 2) 2 3) 3 4) 4 5
def gA4 (I : Nm → Nat → Int32) : Hp := setR (setI (setR (newN (setR (newN (newN (gA3 I) (1, 0) 0 6) (21, 0) 144 144) (1, 0) 0 (some (21, 0))) (22, 0) 144 144) (1, 0) 1 (some (22, 0))) (1, 0) 5 (-9)) (9, 0) 6 (some (1, 0))
def gA5 (I : Nm → Nat → Int32) : Hp := setR (setI (setI (setI (setI (setI (setI (newN (gA4 I) (23, 0) 6 6) (23, 0) 0 0) (23, 0) 1 4) (23, 0) 2 8) (23, 0) 3 12) (23, 0) 4 16) (23, 0) 5 61) (9, 0) 7 (some (23, 0))
def gA6 (I : Nm → Nat → Int32) : Hp := setI (setR (newN (gA5 I) (24, 0) 6 6) (9, 0) 8 (some (24, 0))) (9, 0) 11 2
def l3 : List Nm := [(9, 0), (8, 0), (20, 0), (0, 0), (0, 1), (0, 2), (0, 3), (0, 4)]
theorem gL_A3 (I : Nm → Nat → Int32) : gL (gA3 I) = l3 := rfl
theorem gL_A4 (I : Nm → Nat → Int32) : gL (gA4 I) = l3 ++ [(1, 0), (21, 0), (22, 0)] := rfl
theorem gL_A5 (I : Nm → Nat → Int32) : gL (gA5 I) = l3 ++ [(1, 0), (21, 0), (22, 0), (23, 0)] := rfl
theorem gL_A6 (I : Nm → Nat → Int32) : gL (gA6 I) = l3 ++ [(1, 0), (21, 0), (22, 0), (23, 0), (24, 0)] := rfl
theorem cls0 (hz : 2000 ≤ z) : ∃ I : Nm → Nat → Int32, f_X8_init z (some (9, 0)) (newN gZ (9, 0) 0 14) = some ((), gA6 I) ∧ (∀ n k, n.1 ≠ 20 → I n k = 0) ∧ ∀ k, k < 144 → I (20, 0) k = nI (isq (100 * ((k / 12) * (k / 12) + (k % 12) * (k % 12)))) := by
  obtain ⟨g2, k1, k2, k3⟩ := reckon_L (z := z) hz (q := 100) (by decide) z 0 gA1 rfl rfl (by decide) (by omega) (fun k hk => absurd hk (Nat.not_lt_zero _))
  obtain ⟨a, I, c⟩ := g2
  obtain ⟨h1, h2, h3⟩ := k2
  have e1 : a = gA1.1 := h1
  have e2 : c = gA1.2.2 := h2
  subst e1
  subst e2
  refine ⟨I, ?_, fun n k hn => ?_, fun k hk => k3 k hk⟩
  · have m8 : (8, 0) ∉ gL (newN gZ (9, 0) 0 14) := by
      show (8, 0) ∉ ([(9, 0)] : List Nm)
      decide
    have m20 : (20, 0) ∉ gL (newN (newN gZ (9, 0) 0 14) (8, 0) 0 1) := by
      show (20, 0) ∉ ([(9, 0), (8, 0)] : List Nm)
      decide
    have i20 := mkI_X (n := (20, 0)) (l := 144) (show 20 ≤ 20 by decide) (show 20 < 60 by decide) m20 (by decide)
    have hx7 : f_X7_init z (some (8, 0)) 100 (newN (newN gZ (9, 0) 0 14) (8, 0) 0 1) = some ((), gA2 I) := by
      unfold f_X7_init f_X7_reckon
      rw [show (144 : Int32) = nI 144 from rfl]
      simp only [nnu, ob, nix]
      rw [i20]
      simp only [ob, pR_X, ick_X]
      rw [show (100 : Int32) = nI 100 from rfl, show (0 : Int32) = nI 0 from rfl]
      rw [show setR (newN (newN (newN gZ (9, 0) 0 14) (8, 0) 0 1) (20, 0) 144 144) (8, 0) 0 (some (20, 0)) = gA1 from rfl, k1]
      simp only [ob]
      rfl
    have m0 : ∀ G, gL G = [(9, 0), (8, 0), (20, 0)] → (0, 0) ∉ gL G := fun G h => by rw [h]; decide
    have m1 : ∀ G, gL G = [(9, 0), (8, 0), (20, 0), (0, 0)] → (0, 1) ∉ gL G := fun G h => by rw [h]; decide
    have m2 : ∀ G, gL G = [(9, 0), (8, 0), (20, 0), (0, 0), (0, 1)] → (0, 2) ∉ gL G := fun G h => by rw [h]; decide
    have m3 : ∀ G, gL G = [(9, 0), (8, 0), (20, 0), (0, 0), (0, 1), (0, 2)] → (0, 3) ∉ gL G := fun G h => by rw [h]; decide
    have m4 : ∀ G, gL G = [(9, 0), (8, 0), (20, 0), (0, 0), (0, 1), (0, 2), (0, 3)] → (0, 4) ∉ gL G := fun G h => by rw [h]; decide
    have n1 : (1, 0) ∉ gL (gA3 I) := by rw [gL_A3]; decide
    have n21 : (21, 0) ∉ gL (newN (gA3 I) (1, 0) 0 6) := by
      show (21, 0) ∉ l3 ++ [(1, 0)]
      decide
    have n22 : (22, 0) ∉ gL (setR (newN (newN (gA3 I) (1, 0) 0 6) (21, 0) 144 144) (1, 0) 0 (some (21, 0))) := by
      show (22, 0) ∉ (l3 ++ [(1, 0)]) ++ [(21, 0)]
      decide
    have i21 := mkI_X (n := (21, 0)) (l := 144) (show 20 ≤ 21 by decide) (show 21 < 60 by decide) n21 (by decide)
    have i22 := mkI_X (n := (22, 0)) (l := 144) (show 20 ≤ 22 by decide) (show 22 < 60 by decide) n22 (by decide)
    have hx0 : f_X0_init z (some (1, 0)) (newN (gA3 I) (1, 0) 0 6) = some ((), setI (setR (newN (setR (newN (newN (gA3 I) (1, 0) 0 6) (21, 0) 144 144) (1, 0) 0 (some (21, 0))) (22, 0) 144 144) (1, 0) 1 (some (22, 0))) (1, 0) 5 (-9)) := by
      unfold f_X0_init
      rw [show (144 : Int32) = nI 144 from rfl]
      simp only [nnu, ob, nix]
      rw [i21]
      simp only [ob, pR_X]
      rw [i22]
      simp only [ob, pR_X, pI_X]
    have n23 : (23, 0) ∉ gL (gA4 I) := by rw [gL_A4]; decide
    have n24 : (24, 0) ∉ gL (gA5 I) := by rw [gL_A5]; decide
    have i23 := mkI_X (n := (23, 0)) (l := 6) (show 20 ≤ 23 by decide) (show 23 < 60 by decide) n23 (by decide)
    have i24 := mkI_X (n := (24, 0)) (l := 6) (show 20 ≤ 24 by decide) (show 24 < 60 by decide) n24 (by decide)
    have as23 : ∀ (G : Hp) (k : Nat) (v : Int32), gN G (23, 0) = 6 → k < 6 → astI (some (23, 0)) (nI k) v G = some (setI G (23, 0) k v) := fun G k v h hk => ast_X h (by decide) (by decide) hk (by decide)
    unfold f_X8_init
    rw [mkO_X m8]
    simp only [nnu, ob, nnl_X, flds, List.length]
    rw [show (0 + 1 : Nat) = 1 from rfl, hx7]
    simp only [ob, pR_X]
    rw [mkL, mkL, mkL, mkL, mkL]
    · rw [show setR (setR (setI (newN (setR (setR (setI (newN (setR (setR (setI (newN (setR (setR (setI (newN (setR (setR (setI (newN (setR (gA2 I) (9, 0) 0 (some (8, 0))) (0, 0) 0 3) (0, 0) 0 0) (0, 0) 1 (some (17, 0))) (9, 0) 1 (some (0, 0))) (0, 1) 0 3) (0, 1) 0 0) (0, 1) 1 (some (17, 0))) (9, 0) 2 (some (0, 1))) (0, 2) 0 3) (0, 2) 0 0) (0, 2) 1 (some (17, 0))) (9, 0) 3 (some (0, 2))) (0, 3) 0 3) (0, 3) 0 0) (0, 3) 1 (some (17, 0))) (9, 0) 4 (some (0, 3))) (0, 4) 0 3) (0, 4) 0 0) (0, 4) 1 (some (17, 0))) (9, 0) 5 (some (0, 4)) = gA3 I from rfl]
      rw [mkO_X n1]
      simp only [ob, nnl_X, flds, List.length]
      rw [show (0 + 1 + 1 + 1 + 1 + 1 + 1 : Nat) = 6 from rfl, hx0]
      simp only [ob, pR_X]
      rw [show setR (setI (setR (newN (setR (newN (newN (gA3 I) (1, 0) 0 6) (21, 0) 144 144) (1, 0) 0 (some (21, 0))) (22, 0) 144 144) (1, 0) 1 (some (22, 0))) (1, 0) 5 (-9)) (9, 0) 6 (some (1, 0)) = gA4 I from rfl, show (6 : Int32) = nI 6 from rfl, i23]
      simp only [ob]
      rw [show (0 : Int32) = nI 0 from rfl, as23 _ 0 _ rfl (by decide)]
      simp only [ob]
      rw [show (1 : Int32) = nI 1 from rfl, as23 _ 1 _ rfl (by decide)]
      simp only [ob]
      rw [show (2 : Int32) = nI 2 from rfl, as23 _ 2 _ rfl (by decide)]
      simp only [ob]
      rw [show (3 : Int32) = nI 3 from rfl, as23 _ 3 _ rfl (by decide)]
      simp only [ob]
      rw [show (4 : Int32) = nI 4 from rfl, as23 _ 4 _ rfl (by decide)]
      simp only [ob]
      rw [show (5 : Int32) = nI 5 from rfl, as23 _ 5 _ rfl (by decide)]
      simp only [ob, pR_X]
      rw [show setR (setI (setI (setI (setI (setI (setI (newN (gA4 I) (23, 0) 6 6) (23, 0) 0 (nI 0)) (23, 0) 1 (nI 4)) (23, 0) 2 8) (23, 0) 3 12) (23, 0) 4 16) (23, 0) 5 61) (9, 0) 7 (some (23, 0)) = gA5 I from rfl, i24]
      simp only [ob, pR_X, pI_X]
      rfl
    · exact m4 _ rfl
    · exact m3 _ rfl
    · exact m2 _ rfl
    · exact m1 _ rfl
    · exact m0 _ rfl
  · have := h3 n k (by simp [hn])
    have z0 : gI gA1 n k = 0 := by simp [gA1, gI, setR, newN, gZ]
    exact this.trans z0
end CLI
end
section
/-! the model's start -/
section MDI
variable {z : Nat}
theorem gR_sI {g : Hp} {n : Nm} {k : Nat} {v : Int32} : gR (setI g n k v) = gR g := rfl
theorem gN_sI {g : Hp} {n : Nm} {k : Nat} {v : Int32} : gN (setI g n k v) = gN g := rfl
theorem gR_nN {g : Hp} {n m : Nm} {l s j : Nat} : gR (newN g n l s) m j = if m = n then none else gR g m j := rfl
theorem gN_nN {g : Hp} {n m : Nm} {l s : Nat} : gN (newN g n l s) m = if m = n then l else gN g m := rfl
theorem gI_nN {g : Hp} {n m : Nm} {l s j : Nat} : gI (newN g n l s) m j = if m = n then 0 else gI g m j := rfl
end MDI
end
section
/-! the start is sound -/
section STI
theorem gR_sR {g : Hp} {n m : Nm} {k j : Nat} {v : Option Nm} : gR (setR g n k v) m j = if m = n ∧ j = k then v else gR g m j := rfl
theorem gN_sR {g : Hp} {n : Nm} {k : Nat} {v : Option Nm} : gN (setR g n k v) = gN g := rfl
theorem gI_sR {g : Hp} {n : Nm} {k : Nat} {v : Option Nm} : gI (setR g n k v) = gI g := rfl
theorem lst_e {g : Hp} {j k : Nat} : lst g j k = setR (setR (setI (newN g (0, j) 0 3) (0, j) 0 0) (0, j) 1 (some (17, 0))) (9, 0) k (some (0, j)) := rfl
theorem gA1_e : gA1 = setR (newN (newN (newN gZ (9, 0) 0 14) (8, 0) 0 1) (20, 0) 144 144) (8, 0) 0 (some (20, 0)) := rfl
theorem gA2_R {I : Nm → Nat → Int32} : gR (gA2 I) = gR gA1 := rfl
theorem gA2_N {I : Nm → Nat → Int32} : gN (gA2 I) = gN gA1 := rfl
theorem gA2_I {I : Nm → Nat → Int32} : gI (gA2 I) = I := rfl
theorem gA3_e {I : Nm → Nat → Int32} : gA3 I = lst (lst (lst (lst (lst (setR (gA2 I) (9, 0) 0 (some (8, 0))) 0 1) 1 2) 2 3) 3 4) 4 5 := rfl
theorem gA4_e {I : Nm → Nat → Int32} : gA4 I = setR (setI (setR (newN (setR (newN (newN (gA3 I) (1, 0) 0 6) (21, 0) 144 144) (1, 0) 0 (some (21, 0))) (22, 0) 144 144) (1, 0) 1 (some (22, 0))) (1, 0) 5 (-9)) (9, 0) 6 (some (1, 0)) := rfl
theorem gA5_e {I : Nm → Nat → Int32} : gA5 I = setR (setI (setI (setI (setI (setI (setI (newN (gA4 I) (23, 0) 6 6) (23, 0) 0 0) (23, 0) 1 4) (23, 0) 2 8) (23, 0) 3 12) (23, 0) 4 16) (23, 0) 5 61) (9, 0) 7 (some (23, 0)) := rfl
theorem gA6_e {I : Nm → Nat → Int32} : gA6 I = setI (setR (newN (gA5 I) (24, 0) 6 6) (9, 0) 8 (some (24, 0))) (9, 0) 11 2 := rfl
theorem gZ_R {m : Nm} {j : Nat} : gR gZ m j = none := rfl
theorem gZ_N {m : Nm} : gN gZ m = 0 := rfl
theorem A6_R {I : Nm → Nat → Int32} {m : Nm} {j : Nat} : gR (gA6 I) m j = if m = (9, 0) ∧ j = 8 then some (24, 0) else if m = (24, 0) then none else if m = (9, 0) ∧ j = 7 then some (23, 0) else if m = (23, 0) then none else if m = (9, 0) ∧ j = 6 then some (1, 0) else if m = (1, 0) ∧ j = 1 then some (22, 0) else if m = (22, 0) then none else if m = (1, 0) ∧ j = 0 then some (21, 0) else if m = (21, 0) then none else if m = (1, 0) then none else if m = (9, 0) ∧ j = 5 then some (0, 4) else if m = (0, 4) ∧ j = 1 then some (17, 0) else if m = (0, 4) then none else if m = (9, 0) ∧ j = 4 then some (0, 3) else if m = (0, 3) ∧ j = 1 then some (17, 0) else if m = (0, 3) then none else if m = (9, 0) ∧ j = 3 then some (0, 2) else if m = (0, 2) ∧ j = 1 then some (17, 0) else if m = (0, 2) then none else if m = (9, 0) ∧ j = 2 then some (0, 1) else if m = (0, 1) ∧ j = 1 then some (17, 0) else if m = (0, 1) then none else if m = (9, 0) ∧ j = 1 then some (0, 0) else if m = (0, 0) ∧ j = 1 then some (17, 0) else if m = (0, 0) then none else if m = (9, 0) ∧ j = 0 then some (8, 0) else if m = (8, 0) ∧ j = 0 then some (20, 0) else if m = (20, 0) then none else if m = (8, 0) then none else if m = (9, 0) then none else none := by
  rw [gA6_e, gR_sI, gR_sR, gR_nN, gA5_e, gR_sR, gR_sI, gR_sI, gR_sI, gR_sI, gR_sI, gR_sI, gR_nN, gA4_e, gR_sR, gR_sI, gR_sR, gR_nN, gR_sR, gR_nN, gR_nN, gA3_e, lst_e, gR_sR, gR_sR, gR_sI, gR_nN, lst_e, gR_sR, gR_sR, gR_sI, gR_nN, lst_e, gR_sR, gR_sR, gR_sI, gR_nN, lst_e, gR_sR, gR_sR, gR_sI, gR_nN, lst_e, gR_sR, gR_sR, gR_sI, gR_nN, gR_sR, gA2_R, gA1_e, gR_sR, gR_nN, gR_nN, gR_nN, gZ_R]
theorem A6_N {I : Nm → Nat → Int32} {m : Nm} : gN (gA6 I) m = if m = (24, 0) then 6 else if m = (23, 0) then 6 else if m = (22, 0) then 144 else if m = (21, 0) then 144 else if m = (1, 0) then 0 else if m = (0, 4) then 0 else if m = (0, 3) then 0 else if m = (0, 2) then 0 else if m = (0, 1) then 0 else if m = (0, 0) then 0 else if m = (20, 0) then 144 else if m = (8, 0) then 0 else if m = (9, 0) then 0 else 0 := by
  rw [gA6_e, gN_sI, gN_sR, gN_nN, gA5_e, gN_sR, gN_sI, gN_sI, gN_sI, gN_sI, gN_sI, gN_sI, gN_nN, gA4_e, gN_sR, gN_sI, gN_sR, gN_nN, gN_sR, gN_nN, gN_nN, gA3_e, lst_e, gN_sR, gN_sR, gN_sI, gN_nN, lst_e, gN_sR, gN_sR, gN_sI, gN_nN, lst_e, gN_sR, gN_sR, gN_sI, gN_nN, lst_e, gN_sR, gN_sR, gN_sI, gN_nN, lst_e, gN_sR, gN_sR, gN_sI, gN_nN, gN_sR, gA2_N, gA1_e, gN_sR, gN_nN, gN_nN, gN_nN, gZ_N]
theorem A6_I {I : Nm → Nat → Int32} {m : Nm} {j : Nat} : gI (gA6 I) m j = if m = (9, 0) ∧ j = 11 then 2 else if m = (24, 0) then 0 else if m = (23, 0) ∧ j = 5 then 61 else if m = (23, 0) ∧ j = 4 then 16 else if m = (23, 0) ∧ j = 3 then 12 else if m = (23, 0) ∧ j = 2 then 8 else if m = (23, 0) ∧ j = 1 then 4 else if m = (23, 0) ∧ j = 0 then 0 else if m = (23, 0) then 0 else if m = (1, 0) ∧ j = 5 then -9 else if m = (22, 0) then 0 else if m = (21, 0) then 0 else if m = (1, 0) then 0 else if m = (0, 4) ∧ j = 0 then 0 else if m = (0, 4) then 0 else if m = (0, 3) ∧ j = 0 then 0 else if m = (0, 3) then 0 else if m = (0, 2) ∧ j = 0 then 0 else if m = (0, 2) then 0 else if m = (0, 1) ∧ j = 0 then 0 else if m = (0, 1) then 0 else if m = (0, 0) ∧ j = 0 then 0 else if m = (0, 0) then 0 else I m j := by
  rw [gA6_e, gI_set, gI_sR, gI_nN, gA5_e, gI_sR, gI_set, gI_set, gI_set, gI_set, gI_set, gI_set, gI_nN, gA4_e, gI_sR, gI_set, gI_sR, gI_nN, gI_sR, gI_nN, gI_nN, gA3_e, lst_e, gI_sR, gI_sR, gI_set, gI_nN, lst_e, gI_sR, gI_sR, gI_set, gI_nN, lst_e, gI_sR, gI_sR, gI_set, gI_nN, lst_e, gI_sR, gI_sR, gI_set, gI_nN, lst_e, gI_sR, gI_sR, gI_set, gI_nN, gI_sR, gA2_I]
theorem A6_c {I : Nm → Nat → Int32} (i : Nat) : gR (gA6 I) (9, 0) i = cRef i := by
  rw [A6_R]
  by_cases h : i < 9
  · rcases (by omega : i = 0 ∨ i = 1 ∨ i = 2 ∨ i = 3 ∨ i = 4 ∨ i = 5 ∨ i = 6 ∨ i = 7 ∨ i = 8) with rfl | rfl | rfl | rfl | rfl | rfl | rfl | rfl | rfl
    all_goals simp [cRef]
  · obtain ⟨k, rfl⟩ : ∃ k, i = k + 9 := ⟨i - 9, by omega⟩
    simp [cRef]
theorem A6_n {I : Nm → Nat → Int32} {d : Nat} (h : 40 ≤ d) : gN (gA6 I) (d, 0) = 0 := by
  rw [A6_N]
  have e : ∀ c i, c < 40 → ¬ ((d, 0) : Nm) = (c, i) := fun c i hc w => by have := congrArg Prod.fst w; simp at this; omega
  simp only [e 24 0 (by decide), e 23 0 (by decide), e 22 0 (by decide), e 21 0 (by decide), e 1 0 (by decide), e 0 0 (by decide), e 0 1 (by decide), e 0 2 (by decide), e 0 3 (by decide), e 0 4 (by decide), e 20 0 (by decide), e 8 0 (by decide), e 9 0 (by decide), if_false]
end STI
end
section
/-! the class's start, its table -/
def V0 : VV := fun c k => if c = 10 then (if k = 4 then 2 else if k = 3 then 100 else 0) else if c = 43 then -9 else if c = 45 then (if k < 5 then nI (4 * k) else if k = 5 then 61 else 0) else 0
theorem start_core {I : Nm → Nat → Int32} {gA : Hp} (hI0 : ∀ n k, n.1 ≠ 20 → I n k = 0) (hI20 : ∀ k, k < 144 → I (20, 0) k = nI (isq (100 * ((k / 12) * (k / 12) + (k % 12) * (k % 12))))) (aR : ∀ m j, gR gA m j = if m = (9, 0) ∧ j = 8 then some (24, 0) else if m = (24, 0) then none else if m = (9, 0) ∧ j = 7 then some (23, 0) else if m = (23, 0) then none else if m = (9, 0) ∧ j = 6 then some (1, 0) else if m = (1, 0) ∧ j = 1 then some (22, 0) else if m = (22, 0) then none else if m = (1, 0) ∧ j = 0 then some (21, 0) else if m = (21, 0) then none else if m = (1, 0) then none else if m = (9, 0) ∧ j = 5 then some (0, 4) else if m = (0, 4) ∧ j = 1 then some (17, 0) else if m = (0, 4) then none else if m = (9, 0) ∧ j = 4 then some (0, 3) else if m = (0, 3) ∧ j = 1 then some (17, 0) else if m = (0, 3) then none else if m = (9, 0) ∧ j = 3 then some (0, 2) else if m = (0, 2) ∧ j = 1 then some (17, 0) else if m = (0, 2) then none else if m = (9, 0) ∧ j = 2 then some (0, 1) else if m = (0, 1) ∧ j = 1 then some (17, 0) else if m = (0, 1) then none else if m = (9, 0) ∧ j = 1 then some (0, 0) else if m = (0, 0) ∧ j = 1 then some (17, 0) else if m = (0, 0) then none else if m = (9, 0) ∧ j = 0 then some (8, 0) else if m = (8, 0) ∧ j = 0 then some (20, 0) else if m = (20, 0) then none else if m = (8, 0) then none else if m = (9, 0) then none else none) (aN : ∀ m, gN gA m = if m = (24, 0) then 6 else if m = (23, 0) then 6 else if m = (22, 0) then 144 else if m = (21, 0) then 144 else if m = (1, 0) then 0 else if m = (0, 4) then 0 else if m = (0, 3) then 0 else if m = (0, 2) then 0 else if m = (0, 1) then 0 else if m = (0, 0) then 0 else if m = (20, 0) then 144 else if m = (8, 0) then 0 else if m = (9, 0) then 0 else 0) (aI : ∀ m j, gI gA m j = if m = (9, 0) ∧ j = 11 then 2 else if m = (24, 0) then 0 else if m = (23, 0) ∧ j = 5 then 61 else if m = (23, 0) ∧ j = 4 then 16 else if m = (23, 0) ∧ j = 3 then 12 else if m = (23, 0) ∧ j = 2 then 8 else if m = (23, 0) ∧ j = 1 then 4 else if m = (23, 0) ∧ j = 0 then 0 else if m = (23, 0) then 0 else if m = (1, 0) ∧ j = 5 then -9 else if m = (22, 0) then 0 else if m = (21, 0) then 0 else if m = (1, 0) then 0 else if m = (0, 4) ∧ j = 0 then 0 else if m = (0, 4) then 0 else if m = (0, 3) ∧ j = 0 then 0 else if m = (0, 3) then 0 else if m = (0, 2) ∧ j = 0 then 0 else if m = (0, 2) then 0 else if m = (0, 1) ∧ j = 0 then 0 else if m = (0, 1) then 0 else if m = (0, 0) ∧ j = 0 then 0 else if m = (0, 0) then 0 else I m j) (aC : ∀ i, gR gA (9, 0) i = cRef i) (aL : gL gA = l3 ++ [(1, 0), (21, 0), (22, 0), (23, 0), (24, 0)]) (bcs : gc gA = 13 ∧ gs gA = 480) : IN gA V0 := by
  generalize hV : V0 = V
  have v10 : ∀ k, V 10 k = if k = 4 then 2 else if k = 3 then 100 else 0 := fun k => by rw [← hV]; rfl
  have vz : ∀ d k, d ≠ 10 → d ≠ 43 → d ≠ 45 → V d k = 0 := fun d k h0 h1 h2 => by
    rw [← hV]; unfold V0; rw [if_neg h0, if_neg h1, if_neg h2]
  have v43 : ∀ k, V 43 k = -9 := fun k => by rw [← hV]; rfl
  have v45 : ∀ k, V 45 k = if k < 5 then nI (4 * k) else if k = 5 then 61 else 0 := fun k => by rw [← hV]; rfl
  have no : ∀ c i, c ∈ [12, 13, 14, 15, 16, 6, 5, 25, 7, 3, 4, 26, 27, 28, 2] → (c, i) ∉ gL gA := fun c i hc w => by
    simp only [List.mem_cons, List.not_mem_nil, or_false] at hc
    have w2 : (c, i) ∈ l3 ++ [(1, 0), (21, 0), (22, 0), (23, 0), (24, 0)] := by
      rw [← aL]
      exact w
    unfold l3 at w2
    rcases hc with rfl | rfl | rfl | rfl | rfl | rfl | rfl | rfl | rfl | rfl | rfl | rfl | rfl | rfl | rfl
    all_goals simp at w2
  have n6 : nst V = 0 := by unfold nst; rw [v10]; decide
  have n9 : ntw V = 0 := by unfold ntw; rw [v10]; decide
  have n15 : npk V = 0 := by unfold npk; rw [v10]; decide
  have n20 : nqk V = 0 := by unfold nqk; rw [v10]; decide
  have n24 : nms V = 0 := by unfold nms; rw [v10]; decide
  have nk : kp V = 0 := by unfold kp; rw [n24]; decide
  have n3 : slo V = 100 := by unfold slo; rw [v10]; decide
  have n4 : err V = 2 := by unfold err; rw [v10]; decide
  have n5 : nw V = 0 := by unfold nw; rw [v10]; decide
  have s0 : ∀ j, j < 5 → gI gA (0, j) 2 = nI 0 := fun j hj => by
    rw [aI]
    rcases (by omega : j = 0 ∨ j = 1 ∨ j = 2 ∨ j = 3 ∨ j = 4) with rfl | rfl | rfl | rfl | rfl
    all_goals (simp; rfl)
  have r1 : ∀ j, j < 5 → gR gA (0, j) 1 = some (17, 0) := fun j hj => by
    rw [aR]
    rcases (by omega : j = 0 ∨ j = 1 ∨ j = 2 ∨ j = 3 ∨ j = 4) with rfl | rfl | rfl | rfl | rfl
    all_goals simp
  have hLR : ∀ j c, j < 5 → LR gA.1 j c 0 := fun j c hj => Or.inl ⟨rfl, r1 j hj, fun e => no (12 + j) e (by simp; omega)⟩
  refine ⟨trivial, trivial, ?_, ?_, ?_, ?_, ?_, ?_⟩
  · refine ⟨⟨?_, ?_, ?_, ?_, ?_, fun s hs => ?_, fun p hp => ?_⟩, ?_, ?_, ?_, fun s hs => ?_, fun t ht => ?_, fun p hp => ?_, fun q hq => ?_, fun p p2 hp _ => ?_, fun q t k h1 h2 h3 h4 => Or.inl (vz 55 _ (by decide) (by decide) (by decide))⟩
    · rw [n6, v10]; exact ⟨by decide, by decide⟩
    · rw [n15, v10]; exact ⟨by decide, by decide⟩
    · rw [n3, v10]; exact ⟨by decide, by decide⟩
    · rw [n4, v10]; exact ⟨by decide, by decide⟩
    · rw [n5, v10]; exact ⟨by decide, by decide⟩
    · rw [n6] at hs; omega
    · rw [n15] at hp; omega
    · rw [n9, v10]; exact ⟨by decide, by decide⟩
    · rw [n20, v10]; exact ⟨by decide, by decide⟩
    · rw [n24, v10]; decide
    · rw [n6] at hs; omega
    · rw [n9] at ht; omega
    · rw [n15] at hp; omega
    · rw [n20] at hq; omega
    · rw [n15] at hp; omega
  · refine ⟨⟨⟨fun i => ?_, ?_, ?_, ?_⟩, ?_, ?_, ?_, ?_, ?_⟩, ⟨?_, fun i hi => ?_, fun i _ => ⟨no 6 i (by simp), no 5 i (by simp), no 25 i (by simp)⟩⟩, ⟨?_, fun i _ => no 7 i (by simp)⟩, ⟨?_, fun i _ => no 3 i (by simp)⟩, ⟨?_, fun i hi => ?_, fun i _ => ⟨no 4 i (by simp), no 26 i (by simp), no 27 i (by simp), no 28 i (by simp)⟩⟩, ⟨?_, fun i _ => no 2 i (by simp)⟩⟩
    · show gR gA (9, 0) i = cRef i
      rw [aC]
    · show gR gA (8, 0) 0 = some (20, 0)
      rw [aR]; simp
    · show gR gA (1, 0) 0 = some (21, 0)
      rw [aR]; simp
    · show gR gA (1, 0) 1 = some (22, 0)
      rw [aR]; simp
    · show gN gA (20, 0) = 144
      rw [aN]; simp
    · show gN gA (21, 0) = 144
      rw [aN]; simp
    · show gN gA (22, 0) = 144
      rw [aN]; simp
    · show gN gA (23, 0) = 6
      rw [aN]; simp
    · show gN gA (24, 0) = 6
      rw [aN]; simp
    · rw [n6]; exact hLR 0 6 (by decide)
    · rw [n6] at hi; omega
    · rw [n9]; exact hLR 1 7 (by decide)
    · rw [n15]; exact hLR 2 3 (by decide)
    · rw [n20]; exact hLR 3 4 (by decide)
    · rw [n20] at hi; omega
    · rw [nk]; exact hLR 4 2 (by decide)
  · intro n k v hz hk
    obtain ⟨c, i⟩ := n
    have hc := cI_cls hk
    simp only [List.mem_cons, List.not_mem_nil, or_false] at hc
    rcases hc with rfl | rfl | rfl | rfl | rfl | rfl | rfl | rfl | rfl | rfl | rfl | rfl | rfl | rfl | rfl
    · refine cI0 (V2 := V) ⟨?_, ?_, ?_, ?_, ?_⟩ hk
      · rw [n6]; exact s0 0 (by decide)
      · rw [n9]; exact s0 1 (by decide)
      · rw [n15]; exact s0 2 (by decide)
      · rw [n20]; exact s0 3 (by decide)
      · rw [nk]; exact s0 4 (by decide)
    · simp [cI, nk] at hk
    · simp [cI, n15] at hk
    · simp [cI, n20] at hk
    · simp [cI, n6] at hk
    · simp [cI, n6] at hk
    · simp [cI, n9] at hk
    · have hi : i = 0 := hz (by simp)
      subst hi
      rw [aI]
      by_cases k9 : k = 9
      · subst k9; simp [cI, v10] at hk; simp [hI0, hk]
      by_cases k10 : k = 10
      · subst k10; simp [cI, v10] at hk; simp [hI0, hk]
      by_cases k11 : k = 11
      · subst k11; simp [cI, v10] at hk; simp [hk]
      by_cases k12 : k = 12
      · subst k12; simp [cI, v10] at hk; simp [hI0, hk]
      by_cases k13 : k = 13
      · subst k13; simp [cI, v10] at hk; simp [hI0, hk]
      simp [cI, k9, k10, k11, k12, k13] at hk
    · have hi : i = 0 := hz (by simp)
      subst hi
      rw [aI]
      simp [cI, n3] at hk
      rw [← hk.2]
      simp
      exact hI20 k hk.1
    · have hi : i = 0 := hz (by simp)
      subst hi
      rw [aI]
      simp [cI] at hk
      rw [← hk.2, v45]
      rcases (by have := hk.1; omega : k = 0 ∨ k = 1 ∨ k = 2 ∨ k = 3 ∨ k = 4 ∨ k = 5) with rfl | rfl | rfl | rfl | rfl | rfl
      · simp; decide
      · simp; decide
      · simp; decide
      · simp; decide
      · simp; decide
      · simp
    · have hi : i = 0 := hz (by simp)
      subst hi
      rw [aI]
      simp [cI] at hk
      rw [← hk.2, vz 40 k (by decide) (by decide) (by decide)]
      simp
    · simp [cI, n6] at hk
    · simp [cI, n20] at hk
    · simp [cI, n20] at hk
    · simp [cI, n20] at hk
  · refine Or.inl ?_
    rw [aI]; simp
  · unfold CB
    rw [bcs.1, bcs.2]
    exact ⟨by omega, by omega⟩
  · refine ⟨fun s _ h2 => ⟨vz 60 s (by decide) (by decide) (by decide), v43 s, fun k _ => vz 44 _ (by decide) (by decide) (by decide)⟩, fun q _ _ j _ => vz 55 _ (by decide) (by decide) (by decide)⟩
theorem start35 {I : Nm → Nat → Int32} (hI0 : ∀ n k, n.1 ≠ 20 → I n k = 0) (hI20 : ∀ k, k < 144 → I (20, 0) k = nI (isq (100 * ((k / 12) * (k / 12) + (k % 12) * (k % 12))))) : IN (gA6 I) V0 :=
  start_core hI0 hI20 (fun _ _ => A6_R) (fun _ => A6_N) (fun _ _ => A6_I) (fun i => A6_c i) (gL_A6 I) ⟨rfl, rfl⟩
end
section
/-! what the heap of a quake holds, over the table -/
def SRC (V : VV) (q c : Nat) (b : Int) : Prop := (∀ p, p < npk V → V 50 p = nI q → pkT V p c - err V ≤ b ∧ b ≤ pkT V p c + err V) ∧ ∀ s, s < nst V → V 60 s = 0 → hrd V q s (npk V) = false → (nw V : Int) - TV V c (cS V s) - err V ≤ b
theorem src_in {V : VV} {q c : Nat} {b : Int} (h : SRC V q c b) (h1 : -1000000 ≤ b) (h2 : b ≤ 1000000) : lo V q c ≤ b ∧ b ≤ hi V q c := by
  unfold lo hi
  exact ⟨(loS_le (nst V)).mpr ⟨(loP_le (npk V)).mpr ⟨by omega, fun p hp hq => (h.1 p hp hq).1⟩, h.2⟩, (hiP_ge (npk V)).mpr ⟨by omega, fun p hp hq => (h.1 p hp hq).2⟩⟩
theorem ncl_pos {V : VV} {q c : Nat} (hc : c < 144) (h : lo V q c ≤ hi V q c) : 0 < ncl V q 144 := by
  have h1 := ncl_mono (V := V) (q := q) (a := c + 1) 144 (by omega)
  have e : ncl V q (c + 1) = ncl V q c + 1 := by conv => lhs; unfold ncl; rw [if_pos h]
  omega
theorem ncl_sub {V V2 : VV} {q : Nat} : ∀ n, (∀ c, c < n → lo V2 q c ≤ hi V2 q c → lo V q c ≤ hi V q c) → ncl V2 q n ≤ ncl V q n
  | 0, _ => Nat.le_refl _
  | n + 1, h => by
    have ih := ncl_sub (V := V) (V2 := V2) (q := q) n (fun c hc => h c (by omega))
    have h1 := h n (by omega)
    unfold ncl
    by_cases e2 : lo V2 q n ≤ hi V2 q n
    · rw [if_pos e2, if_pos (h1 e2)]; omega
    · rw [if_neg e2]
      split <;> omega
theorem ncl_eq {V V2 : VV} {q : Nat} (h : ∀ c, lo V2 q c = lo V q c ∧ hi V2 q c = hi V q c) : ∀ n, ncl V2 q n = ncl V q n
  | 0 => rfl
  | n + 1 => by
    unfold ncl
    rw [ncl_eq h n, (h n).1, (h n).2]
theorem cm_cx {V : VV} {q t : Nat} : ∀ n, ncl V q n ≠ 0 → cmF V q t n ≤ cxF V q t n
  | 0, h => absurd rfl h
  | n + 1, h => by
    have ih := cm_cx (V := V) (q := q) (t := t) n
    unfold ncl at h
    unfold cmF cxF
    by_cases e : lo V q n ≤ hi V q n
    · rw [if_pos e, if_pos e]; omega
    · rw [if_neg e] at h
      rw [if_neg e, if_neg e]; exact ih h
/-- no station is silent: the picks alone -/
theorem loS_all {V : VV} {q c : Nat} : ∀ n, (∀ s, s < n → V 60 s = 0 → hrd V q s (npk V) = true) → loS V q c n = loP V q c (npk V)
  | 0, _ => rfl
  | n + 1, h => by
    have ih := loS_all (V := V) (q := q) (c := c) n (fun s hs => h s (by omega))
    unfold loS
    rw [if_neg (fun w => by have := h n (by omega) w.1; rw [this] at w; exact absurd w.2 (by decide))]
    exact ih
theorem cnt_all {V : VV} {q : Nat} : ∀ n, (∀ p, p < n → V 50 p = nI q) → cntF V q n = n
  | 0, _ => rfl
  | n + 1, h => by
    unfold cntF
    rw [if_pos (h n (by omega)), cnt_all n (fun p hp => h p (by omega))]
/-! the law's numbers: how many stations, the error, the slowness, the source, its time, the cells, when shaking comes -/
def OKc (n e q c0 b0 : Nat) (at' cm : Nat → Nat) : Prop := n ≤ 8 ∧ 2 ≤ n ∧ e ≤ 7 ∧ 1 ≤ q ∧ q ≤ 300 ∧ c0 < 144 ∧ 10 ≤ b0 ∧ b0 < 60 ∧ ∀ i, i < n → at' i < 144 ∧ b0 + tv q c0 (at' i) ≤ cm i + e ∧ cm i ≤ b0 + tv q c0 (at' i) + e
theorem OKc.le {n e q c0 b0 : Nat} {at' cm : Nat → Nat} (h : OKc n e q c0 b0 at' cm) {i : Nat} (hi : i < n) : cm i ≤ 400 := by
  obtain ⟨h1, h2, h3, h4, h5, h6, h7, h8, h9⟩ := h
  obtain ⟨a1, a2, a3⟩ := h9 i hi
  have := tv_lt (q := q) (by omega) h6 a1
  omega
/-- one quake: its picks are of stations that P has, the others' shaking comes not before NOW -/
def GD (n e q : Nat) (at' cm : Nat → Nat) (V : VV) (P : Nat → Bool) : Prop := nst V = n ∧ slo V = q ∧ err V = e ∧ (∀ i, i < n → cS V i = at' i) ∧ (∀ j, j < npk V → V 50 j = nI 0 ∧ sP V j < n ∧ tk V j = cm (sP V j)) ∧ (∀ i, i < n → hrd V 0 i (npk V) = P i) ∧ (∀ i, i < n → P i = false → nw V ≤ cm i)
section GDS
variable {n e q c0 b0 : Nat} {at' cm : Nat → Nat} {V : VV} {P : Nat → Bool}
theorem GD.src (hk : OKc n e q c0 b0 at' cm) (h : GD n e q at' cm V P) : SRC V 0 c0 b0 := by
  obtain ⟨k1, k2, k3, k4, k5, k6, k7, k8, k9⟩ := hk
  obtain ⟨g1, g2, g3, g4, g5, g6, g7⟩ := h
  refine ⟨fun p hp _ => ?_, fun s hs _ hr => ?_⟩
  · obtain ⟨-, a2, a3⟩ := g5 p hp
    obtain ⟨b1, b2, b3⟩ := k9 _ a2
    unfold pkT TV
    rw [g2, g3, g4 _ a2, a3]
    omega
  · rw [g1] at hs
    obtain ⟨b1, b2, b3⟩ := k9 _ hs
    have hP : P s = false := by rw [← g6 s hs]; exact hr
    have := g7 s hs hP
    unfold TV
    rw [g2, g3, g4 _ hs]
    omega
theorem GD.inn (hk : OKc n e q c0 b0 at' cm) (h : GD n e q at' cm V P) : lo V 0 c0 ≤ b0 ∧ (b0 : Int) ≤ hi V 0 c0 := by
  have hb := hk.2.2.2.2.2.2.2.1
  exact src_in (h.src hk) (by omega) (by omega)
theorem GD.pos (hk : OKc n e q c0 b0 at' cm) (h : GD n e q at' cm V P) : 0 < ncl V 0 144 := by
  have h1 := h.inn hk
  exact ncl_pos hk.2.2.2.2.2.1 (by omega)
/-- time goes on -/
def nwV (V : VV) (t : Nat) : VV := vs V 10 5 (nI t)
theorem nwV_no {t : Nat} (ht : t < 2147483648) : nw (nwV V t) = t := by
  show (vs V 10 5 (nI t) 10 5).toNatClampNeg = t
  rw [vs_eq]; exact nI_cl ht
theorem nwV_hrd {t i : Nat} : ∀ p, hrd (nwV V t) 0 i p = hrd V 0 i p := fun p => hrd_w p (fun _ _ => ⟨rfl, rfl⟩)
theorem GD.later {t : Nat} (h : GD n e q at' cm V P) (ht : t < 2147483648) (hm : ∀ i, i < n → P i = false → t ≤ cm i) : GD n e q at' cm (nwV V t) P := by
  obtain ⟨g1, g2, g3, g4, g5, g6, g7⟩ := h
  refine ⟨g1, g2, g3, g4, g5, fun i hi => ?_, fun i hi hP => ?_⟩
  · show hrd (nwV V t) 0 i (npk V) = P i
    rw [nwV_hrd]; exact g6 i hi
  · rw [nwV_no ht]; exact hm i hi hP
theorem GD.opened (h : GD n e q at' cm V P) : GD n e q at' cm (opV V) P := by
  obtain ⟨g1, g2, g3, g4, g5, g6, g7⟩ := h
  have e47 : opV V 47 = V 47 := op_ev.1 47 (by decide) (by decide)
  have e48 : opV V 48 = V 48 := op_ev.1 48 (by decide) (by decide)
  have e50 : opV V 50 = V 50 := op_ev.1 50 (by decide) (by decide)
  refine ⟨op_w.ns.trans g1, op_w.sl.trans g2, op_w.er.trans g3, fun i hi => op_w.cS_.trans (g4 i hi), fun j hj => ?_, fun i hi => ?_, fun i hi hP => ?_⟩
  · rw [op_w.np] at hj
    unfold sP tk
    rw [e47, e48, e50]
    exact g5 j hj
  · rw [op_w.np, op_w.hrd_]; exact g6 i hi
  · rw [op_w.no]; exact g7 i hi hP
theorem GD.picked {s t : Nat} {x : Int32} (h : GD n e q at' cm V P) (hn : n ≤ 8) (hs : s < n) (ht : t = cm s) (hb : t ≤ 100000) (hp : npk V < 60) (hno : nw V = t) : GD n e q at' cm (apV V s t x (nI 0)) (fun i => P i || decide (i = s)) := by
  obtain ⟨g1, g2, g3, g4, g5, g6, g7⟩ := h
  refine ⟨ap_ns.trans g1, ap_sl.trans g2, ap_er.trans g3, fun i hi => ap_cS.trans (g4 i hi), fun j hj => ?_, fun i hi => ?_, fun i hi hP => ?_⟩
  · rw [ap_np hp] at hj
    by_cases ej : j = npk V
    · subst ej
      rw [ap_sPa (by omega), ap_tka hb, ap_at.2.2.2]
      exact ⟨rfl, hs, ht⟩
    · rw [ap_sP ej, ap_tk ej, (ap_lt ej).2.2.2]
      exact g5 j (by omega)
  · rw [ap_np hp]
    show (hrd (apV V s t x (nI 0)) 0 i (npk V) || (decide (apV V s t x (nI 0) 50 (npk V) = nI 0) && decide (apV V s t x (nI 0) 47 (npk V) = nI i))) = (P i || decide (i = s))
    rw [hrd_w (V := V) (npk V) (fun p hp2 => ⟨(ap_lt (by omega)).1, (ap_lt (by omega)).2.2.2⟩), g6 i hi, ap_at.1, ap_at.2.2.2]
    congr 1
    by_cases ei : i = s
    · subst ei; simp
    · have : ¬ nI s = nI i := fun w => ei (nI_inj2 w (by omega) (by omega)).symm
      simp [ei, this]
  · rw [ap_no]
    have hP2 : P i = false := by
      cases hq : P i with
      | false => rfl
      | true => simp [hq] at hP
    exact g7 i hi hP2
/-- it only shrinks -/
theorem GD.shrinks {s t : Nat} {x : Int32} (h : GD n e q at' cm V P) (hn : n ≤ 8) (hs : s < n) (hb : t ≤ 100000) (hp : npk V < 60) (hle : nw V ≤ t) : ncl (apV (nwV V t) s t x (nI 0)) 0 144 ≤ ncl V 0 144 := by
  obtain ⟨g1, g2, g3, g4, g5, g6, g7⟩ := h
  have hp1 : npk (nwV V t) < 60 := hp
  have eS : ∀ i, cS (apV (nwV V t) s t x (nI 0)) i = cS V i := fun i => ap_cS
  have eT : ∀ a b, TV (apV (nwV V t) s t x (nI 0)) a b = TV V a b := fun a b => ap_TV
  have eE : err (apV (nwV V t) s t x (nI 0)) = err V := ap_er
  have eN : nst (apV (nwV V t) s t x (nI 0)) = nst V := ap_ns
  have eW : nw (apV (nwV V t) s t x (nI 0)) = t := ap_no.trans (nwV_no (by omega))
  have eP : npk (apV (nwV V t) s t x (nI 0)) = npk V + 1 := ap_np hp1
  have ePk : ∀ p c, p < npk V → pkT (apV (nwV V t) s t x (nI 0)) p c = pkT V p c := fun p c hp2 => ap_pkT (V := nwV V t) (show p ≠ npk V by omega)
  have e50 : ∀ p, p < npk V → apV (nwV V t) s t x (nI 0) 50 p = V 50 p := fun p hp2 => (ap_lt (V := nwV V t) (show p ≠ npk V by omega)).2.2.2
  have e60 : apV (nwV V t) s t x (nI 0) 60 = V 60 := ap_ev.1 60 (by decide) (by decide)
  have hat := ap_at (V := nwV V t) (s := s) (t := t) (c := x) (qv := nI 0)
  have eSl : sP (apV (nwV V t) s t x (nI 0)) (npk V) = s := ap_sPa (V := nwV V t) (by omega)
  have eTl : tk (apV (nwV V t) s t x (nI 0)) (npk V) = t := ap_tka (V := nwV V t) hb
  refine ncl_sub 144 (fun c _ hh => ?_)
  have hl : lo V 0 c ≤ lo (apV (nwV V t) s t x (nI 0)) 0 c := by
    have hx := (loS_le (W := apV (nwV V t) s t x (nI 0)) (q := 0) (c := c) (x := lo (apV (nwV V t) s t x (nI 0)) 0 c) (nst (apV (nwV V t) s t x (nI 0)))).mp (Int.le_refl _)
    obtain ⟨x1, x2⟩ := hx
    obtain ⟨x3, x4⟩ := (loP_le _).mp x1
    rw [eP, eE] at x4
    refine (loS_le (nst V)).mpr ⟨(loP_le (npk V)).mpr ⟨x3, fun p hp2 hq => ?_⟩, fun i hi h1 h2 => ?_⟩
    · have := x4 p (by omega) ((e50 p hp2).trans hq)
      rw [ePk p c hp2] at this
      exact this
    · by_cases ei : i = s
      · subst ei
        have := x4 (npk V) (by omega) hat.2.2.2
        have e1 : pkT (apV (nwV V t) i t x (nI 0)) (npk V) c = (t : Int) - TV V c (cS V i) := by
          unfold pkT
          rw [eTl, eSl, eS, eT]
        rw [e1] at this
        omega
      · have hr : hrd (apV (nwV V t) s t x (nI 0)) 0 i (npk (apV (nwV V t) s t x (nI 0))) = false := by
          rw [eP]
          show (hrd (apV (nwV V t) s t x (nI 0)) 0 i (npk V) || (decide (apV (nwV V t) s t x (nI 0) 50 (npk V) = nI 0) && decide (apV (nwV V t) s t x (nI 0) 47 (npk V) = nI i))) = false
          have e1 : apV (nwV V t) s t x (nI 0) 47 (npk V) = nI s := hat.1
          have e2 : ¬ nI s = nI i := fun w => ei (nI_inj2 w (by omega) (by omega)).symm
          rw [hrd_w (V := V) (npk V) (fun p hp2 => ⟨(ap_lt (V := nwV V t) (show p ≠ npk V by omega)).1, e50 p hp2⟩), h2, e1]
          simp [e2]
        have := x2 i (by rw [eN]; exact hi) (by rw [e60]; exact h1) hr
        rw [eW, eT, eS, eE] at this
        omega
  have hh2 : hi (apV (nwV V t) s t x (nI 0)) 0 c ≤ hi V 0 c := by
    have hx := (hiP_ge (W := apV (nwV V t) s t x (nI 0)) (q := 0) (c := c) (x := hi (apV (nwV V t) s t x (nI 0)) 0 c) (npk (apV (nwV V t) s t x (nI 0)))).mp (Int.le_refl _)
    obtain ⟨x1, x2⟩ := hx
    rw [eP, eE] at x2
    refine (hiP_ge (npk V)).mpr ⟨x1, fun p hp2 hq => ?_⟩
    have := x2 p (by omega) ((e50 p hp2).trans hq)
    rw [ePk p c hp2] at this
    exact this
  omega
/-- no station silent: time alone changes nothing -/
theorem GD.stays {t : Nat} (h : GD n e q at' cm V P) (hP : ∀ i, i < n → P i = true) : ncl (nwV V t) 0 144 = ncl V 0 144 := by
  obtain ⟨g1, g2, g3, g4, g5, g6, g7⟩ := h
  refine ncl_eq (fun c => ?_) 144
  have hw := loP_w (V := V) (V2 := nwV V t) (q := 0) (c := c) rfl (npk V) (fun p hp => ⟨rfl, rfl⟩)
  have a1 : lo V 0 c = loP V 0 c (npk V) := loS_all (nst V) (fun s hs _ => by
    rw [g1] at hs; rw [g6 s hs]; exact hP s hs)
  have a2 : lo (nwV V t) 0 c = loP (nwV V t) 0 c (npk V) := loS_all (V := nwV V t) (nst V) (fun s hs _ => by
    rw [g1] at hs
    show hrd (nwV V t) 0 s (npk V) = true
    rw [nwV_hrd, g6 s hs]; exact hP s hs)
  exact ⟨by rw [a1, a2, hw.1], hw.2⟩
end GDS
end
section
/-! the law's own rows: 29 the cells, 30 when shaking comes -/
section ARR
variable {z : Nat}
theorem IN.setA {g : Hp} {V : VV} (h : IN g V) {c k : Nat} {v : Int32} (hc : c = 29 ∨ c = 30) : IN (setI g (c, 0) k v) V := by
  have hch : Ch [29, 30] g (setI g (c, 0) k v) := Ch.set (by rcases hc with e | e <;> subst e <;> simp)
  refine h.upd (C := [29, 30]) (D := []) (E := []) (V2 := V) hch (Ev.rf _ _ _) (by decide) (by decide) h.v (fun n k v _ hn hk => ?_) (h.h.cg ((Ev.rf [] [] V).h (by decide) (by decide)) (fun k => hch.i (by decide)) (fun k => hch.i (by decide)) (fun k => hch.i (by decide))) h.vf
  have := cI_cls hk
  simp only [List.mem_cons, List.not_mem_nil, or_false] at hn
  rcases hn with e | e <;> rw [e] at this <;> exact absurd this (by decide)
theorem IN.newA {g : Hp} {V : VV} (h : IN g V) {c : Nat} (hc : c = 29 ∨ c = 30) (hcb : CB (newN g (c, 0) 9 9) V) : IN (newN g (c, 0) 9 9) V := by
  have F : Fr (PC 5 [29, 30]) g (newN g (c, 0) 9 9) := (Fr.nN (g := g) (n := (c, 0)) (l := 9) (s := 9)).mono (fun m hm => Or.inr (by rw [hm]; rcases hc with e | e <;> subst e <;> simp))
  refine ⟨trivial, trivial, h.v, ⟨RC1.fr F (by decide) h.b1, RCs.fr F (by decide) (by decide) h.r.2.1, RCt.fr F (by decide) (by decide) h.r.2.2.1, RCp.fr F (by decide) (by decide) h.r.2.2.2.1, RCq.fr F (by decide) (by decide) h.r.2.2.2.2.1, RCm.fr F (by decide) (by decide) h.r.2.2.2.2.2⟩, fun n k v hz hk => ?_, ?_, hcb, h.vf⟩
  · obtain ⟨c2, i⟩ := n
    have hm : c2 ∈ [0, 2, 3, 4, 5, 6, 7, 9, 20, 23, 24, 25, 26, 27, 28] := cI_cls hk
    have e : gI (newN g (c, 0) 9 9) (c2, i) k = gI g (c2, i) k := by
      refine gIn (fun w => ?_)
      have w1 : c2 = c := congrArg Prod.fst w
      rw [w1] at hm
      rcases hc with e | e <;> rw [e] at hm <;> exact absurd hm (by decide)
    rw [e]
    exact h.i hk hz
  · exact h.h.cg ((Ev.rf [] [] V).h (by decide) (by decide)) (fun k => fr_I F (by decide) (by decide)) (fun k => fr_I F (by decide) (by decide)) (fun k => fr_I F (by decide) (by decide))
/-- the rows' lengths -/
def AL (g : Hp) : Prop := gN g (29, 0) = 9 ∧ gN g (30, 0) = 9
theorem AL.fr {g g2 : Hp} (h : AL g) (hf : Fr PCl g g2) : AL g2 ∧ (∀ k, gI g2 (29, 0) k = gI g (29, 0) k) ∧ ∀ k, gI g2 (30, 0) k = gI g (30, 0) k := by
  obtain ⟨a1, a2, a3, -⟩ := hf (29, 0) (fun w => w.1 rfl)
  obtain ⟨b1, b2, b3, -⟩ := hf (30, 0) (fun w => w.2 rfl)
  exact ⟨⟨a3.trans h.1, b3.trans h.2⟩, fun k => congrFun a1 k, fun k => congrFun b1 k⟩
theorem ald29 {g : Hp} (h : AL g) {k : Nat} (hk : k < 9) : aldI (some (29, 0)) (nI k) g = some (gI g (29, 0) k) := ald_X h.1 (by decide) (by decide) hk (by decide)
theorem ald30 {g : Hp} (h : AL g) {k : Nat} (hk : k < 9) : aldI (some (30, 0)) (nI k) g = some (gI g (30, 0) k) := ald_X h.2 (by decide) (by decide) hk (by decide)
theorem ast29 {g : Hp} (h : AL g) {k : Nat} {v : Int32} (hk : k < 9) : astI (some (29, 0)) (nI k) v g = some (setI g (29, 0) k v) := ast_X h.1 (by decide) (by decide) hk (by decide)
theorem ast30 {g : Hp} (h : AL g) {k : Nat} {v : Int32} (hk : k < 9) : astI (some (30, 0)) (nI k) v g = some (setI g (30, 0) k v) := ast_X h.2 (by decide) (by decide) hk (by decide)
theorem AL.set {g : Hp} (h : AL g) {n : Nm} {k : Nat} {v : Int32} : AL (setI g n k v) := h
/-! the script, and small numbers out of it -/
def scv (L : Nat) (xs : Nat → Int32) (j : Nat) : Int32 := if L ≤ j then 40503 * nI j + 977 else xs j
theorem cellS {L : Nat} (hL : L ≤ 260) {xs : Nat → Int32} {j : Nat} (hj : j < 2147483648) (g : Hp) : f_L_cell z L xs (some (18, 0)) (nI j) g = some (scv L xs j, g) := by
  have hal : alnS (some (18, 0)) L = some (nI L) := if_pos rfl
  unfold f_L_cell scv
  rw [hal]
  simp only [Option.bind_some]
  by_cases h : L ≤ j
  · rw [if_pos h, if_pos ((nI_leI (by omega) (by omega)).mpr h)]
  · rw [if_neg h, if_neg (fun w => h ((nI_leI (by omega) (by omega)).mp w))]
    have e : aldS (some (18, 0)) (nI j) L xs = some (xs j) := by
      unfold aldS
      rw [if_pos ⟨rfl, vp_n (by omega) (by omega)⟩, nI_cl (by omega)]
    rw [e]; rfl
def lw (a : Int32) (N : Nat) : Nat := a.toBitVec.toNat % 2 ^ 31 % N
theorem lw_lt (a : Int32) {N : Nat} (h : 0 < N) : lw a N < N := Nat.mod_lt _ h
theorem lowS (a : Int32) {N : Nat} (h0 : 0 < N) (h1 : N < 2147483648) (g : Hp) : f_L_low z a (nI N) g = some (nI (lw a N), g) := by
  unfold f_L_low
  rw [pk_and a (m := 2147483647) 31 (by decide), rmI_n (Nat.mod_lt _ (by decide)) h0 h1]
  rfl
/-! which station comes next -/
def nx (P : Nat → Bool) (cm : Nat → Nat) : Nat → Option Nat
  | 0 => none
  | k + 1 => match nx P cm k with
    | none => if P k = true then none else some k
    | some j => if P k = true then some j else if cm j ≤ cm k then some j else some k
theorem nx_sp {P : Nat → Bool} {cm : Nat → Nat} : ∀ k, (nx P cm k = none ∧ ∀ i, i < k → P i = true) ∨ ∃ j, nx P cm k = some j ∧ j < k ∧ P j = false ∧ ∀ i, i < k → P i = false → cm j ≤ cm i
  | 0 => Or.inl ⟨rfl, fun i hi => absurd hi (Nat.not_lt_zero _)⟩
  | k + 1 => by
    have hc : ∀ i, i < k + 1 → i < k ∨ i = k := fun i hi => by omega
    rcases nx_sp (P := P) (cm := cm) k with ⟨h1, h2⟩ | ⟨j, h1, h2, h3, h4⟩
    · unfold nx
      rw [h1]
      cases hk : P k with
      | true =>
        refine Or.inl ⟨rfl, fun i hi => ?_⟩
        rcases hc i hi with e | e
        · exact h2 i e
        · rw [e]; exact hk
      | false =>
        refine Or.inr ⟨k, rfl, by omega, hk, fun i hi hp => ?_⟩
        rcases hc i hi with e | e
        · rw [h2 i e] at hp; exact absurd hp (by decide)
        · rw [e]; exact Nat.le_refl _
    · unfold nx
      rw [h1]
      cases hk : P k with
      | true =>
        refine Or.inr ⟨j, rfl, by omega, h3, fun i hi hp => ?_⟩
        rcases hc i hi with e | e
        · exact h4 i e hp
        · rw [e, hk] at hp; exact absurd hp (by decide)
      | false =>
        by_cases hle : cm j ≤ cm k
        · refine Or.inr ⟨j, ?_, by omega, h3, fun i hi hp => ?_⟩
          · simp [hle]
          · rcases hc i hi with e | e
            · exact h4 i e hp
            · rw [e]; exact hle
        · refine Or.inr ⟨k, ?_, by omega, hk, fun i hi hp => ?_⟩
          · simp [hle]
          · rcases hc i hi with e | e
            · have := h4 i e hp; omega
            · rw [e]; exact Nat.le_refl _
def enc : Option Nat → Int32
  | none => -1
  | some j => nI j
theorem enc_lt {r : Option Nat} (hr : ∀ j, r = some j → j < 100) : enc r < 0 ↔ r = none := by
  cases r with
  | none => exact ⟨fun _ => rfl, fun _ => by decide⟩
  | some j =>
    have := hr j rfl
    refine ⟨fun h => ?_, fun h => nomatch h⟩
    have := (nI_ltI (b := 0) (by omega) (by omega)).mp h
    omega
theorem nx_L {L n : Nat} {xs : Nat → Int32} {P : Nat → Bool} {cm : Nat → Nat} {g : Hp} (hn : n ≤ 8) (hA : AL g) (hc : ∀ i, i < n → cm i ≤ 400) (hg : ∀ i, i < n → gI g (30, 0) i = if P i = true then -1 else nI (cm i)) (p10 p9 p8 p7 p6 p2 : Int32) (p4 p1 p0 : Option Nm) : ∀ (m f k : Nat), k + m = n → m < f → f_L_law_251_L z L xs p10 p9 p8 p7 p6 (some (30, 0)) p4 (nI n) p2 p1 p0 f (nI k) (enc (nx P cm k)) g = some (nI n, enc (nx P cm n), g)
  | _, 0, _, _, h => absurd h (Nat.not_lt_zero _)
  | 0, f + 1, k, h1, _ => by
    show f_L_law_251_b z L xs p10 p9 p8 p7 p6 (some (30, 0)) p4 (nI n) p2 p1 p0 (f_L_law_251_L z L xs p10 p9 p8 p7 p6 (some (30, 0)) p4 (nI n) p2 p1 p0 f) (nI k) (enc (nx P cm k)) g = _
    unfold f_L_law_251_b
    have e : k = n := by omega
    subst e
    rw [if_pos ((nI_leI (by omega) (by omega)).mpr (Nat.le_refl _))]
  | m + 1, f + 1, k, h1, h2 => by
    have ih := nx_L (L := L) (xs := xs) hn hA hc hg p10 p9 p8 p7 p6 p2 p4 p1 p0 m f (k + 1) (by omega) (by omega)
    show f_L_law_251_b z L xs p10 p9 p8 p7 p6 (some (30, 0)) p4 (nI n) p2 p1 p0 (f_L_law_251_L z L xs p10 p9 p8 p7 p6 (some (30, 0)) p4 (nI n) p2 p1 p0 f) (nI k) (enc (nx P cm k)) g = _
    unfold f_L_law_251_b
    have hk : k < n := by omega
    have hck := hc k hk
    rw [if_neg (fun w => by have := (nI_leI (by omega) (by omega)).mp w; omega), ald30 hA (by omega), hg k hk]
    simp only [Option.bind_some, nI_1]
    rcases nx_sp (P := P) (cm := cm) k with ⟨a1, a2⟩ | ⟨j, a1, a2, a3, a4⟩
    · cases hP : P k with
      | true =>
        have e : nx P cm (k + 1) = none := by unfold nx; rw [a1]; simp [hP]
        rw [e] at ih
        rw [a1, if_pos rfl, if_pos (by decide)]
        exact ih
      | false =>
        have e : nx P cm (k + 1) = some k := by unfold nx; rw [a1]; simp [hP]
        rw [e] at ih
        rw [a1]
        simp only [Bool.false_eq_true, if_false]
        rw [if_neg (fun w => by have := (nI_ltI (b := 0) (by omega) (by omega)).mp w; omega), if_pos (show enc none < 0 from by decide)]
        exact ih
    · have hcj := hc j (by omega)
      cases hP : P k with
      | true =>
        have e : nx P cm (k + 1) = some j := by unfold nx; rw [a1]; simp [hP]
        rw [e] at ih
        rw [a1, if_pos rfl, if_pos (by decide)]
        exact ih
      | false =>
        have hgj := hg j (by omega)
        rw [a3, if_neg (by decide)] at hgj
        rw [a1]
        simp only [Bool.false_eq_true, if_false]
        rw [if_neg (fun w => by have := (nI_ltI (b := 0) (by omega) (by omega)).mp w; omega), if_neg (fun w => by have := (nI_ltI (b := 0) (by omega) (by omega)).mp (show nI j < nI 0 from w); omega)]
        rw [show enc (some j) = nI j from rfl, ald30 hA (show j < 9 by omega), hgj]
        simp only [Option.bind_some]
        by_cases hle : cm j ≤ cm k
        · have e : nx P cm (k + 1) = some j := by unfold nx; rw [a1]; simp [hP, hle]
          rw [e] at ih
          rw [if_pos ((nI_leI (by omega) (by omega)).mpr hle)]
          exact ih
        · have e : nx P cm (k + 1) = some k := by unfold nx; rw [a1]; simp [hP, hle]
          rw [e] at ih
          rw [if_neg (fun w => hle ((nI_leI (by omega) (by omega)).mp w))]
          exact ih
end ARR
end
